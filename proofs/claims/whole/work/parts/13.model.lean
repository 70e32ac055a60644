/-! THE REFERENCE: pure functions and contracts, by program (wip/whole/build_model.py) -/
theorem wd_1498 : Cond.fieldLink RX10 41 "CandleConcertModel" "thrown" "I" ∈ xTB := xTB_in 1498 (by decide +kernel) (by decide +kernel)
theorem dX10_thrown_0 : decode cX10_thrown 0 = .ok (.aload_n 0, 1) := by decide +kernel
theorem dX10_thrown_1 : decode cX10_thrown 1 = .ok (.getfield 41, 3) := by decide +kernel
theorem dX10_thrown_4 : decode cX10_thrown 4 = .ok (.ireturn, 1) := by decide +kernel
set_option maxHeartbeats 4000000 in
set_option maxRecDepth 100000 in
theorem c_X10_thrown (g : xG) (l : Launch) (b : Nat → Nat) (m : MdT)  {u : Int32} (hf : f_X10_thrown m = some u) : ConD g l yX10_thrown cX10_thrown 1 (some .int) ({ frames := 0, cells := 0, slots := 0, locals := 0 } : Room) [.ref (b 0)] [mdO g b m] (some (.int u)) [mdO g b m] := by
  unfold f_X10_thrown at hf
  refine Con_of [mdO g b m] [(0, .ref (b 0))] rfl rfl (by decide) (Nat.le_of_ble_eq_true rfl) ?_
  intro pW eW sW mW argsW belowW methW c9 C hnm hr
  have C : CX g RX10 cX10_thrown 1 _ pW sW mW argsW methW c9 := C
  refine x_aload_n C dX10_thrown_0 rfl 0 rfl ?_
  refine x_get (ci := 11) (v := .int m.2.1) (b := mdO g b m) C ixX10 rfl 6 (by decide) wd_1498 (fun _ h => h) 0 rfl 0 (mdO_at0 g b _) rfl dX10_thrown_1 ?_
  exact x_iret C hr ⟨by cases hf; rfl, by cases hf; rfl⟩ dX10_thrown_4
theorem dX10_isIn_0 : decode cX10_isIn 0 = .ok (.iload_n 0, 1) := by decide +kernel
theorem dX10_isIn_1 : decode cX10_isIn 1 = .ok (.iload_n 1, 1) := by decide +kernel
theorem dX10_isIn_2 : decode cX10_isIn 2 = .ok (.if_icmp .lt 12, 3) := by decide +kernel
theorem dX10_isIn_5 : decode cX10_isIn 5 = .ok (.iload_n 0, 1) := by decide +kernel
theorem dX10_isIn_6 : decode cX10_isIn 6 = .ok (.iload_n 2, 1) := by decide +kernel
theorem dX10_isIn_7 : decode cX10_isIn 7 = .ok (.if_icmp .gt 7, 3) := by decide +kernel
theorem dX10_isIn_10 : decode cX10_isIn 10 = .ok (.iconst 1, 1) := by decide +kernel
theorem dX10_isIn_11 : decode cX10_isIn 11 = .ok (.goto 4, 3) := by decide +kernel
theorem dX10_isIn_14 : decode cX10_isIn 14 = .ok (.iconst 0, 1) := by decide +kernel
theorem dX10_isIn_15 : decode cX10_isIn 15 = .ok (.ireturn, 1) := by decide +kernel
set_option maxHeartbeats 4000000 in
set_option maxRecDepth 100000 in
theorem c_X10_isIn (g : xG) (l : Launch)   (x0 : Int32) (x1 : Int32) (x2 : Int32) {u : Int32} (hf : f_X10_isIn x0 x1 x2 = some u) : ConD g l yX10_isIn cX10_isIn 3 (some .boolean) ({ frames := 0, cells := 0, slots := 0, locals := 0 } : Room) [.int x0, .int x1, .int x2] [] (some (.int u)) [] := by
  unfold f_X10_isIn at hf
  refine Con_of [] [(0, .int x0), (1, .int x1), (2, .int x2)] rfl rfl (by decide) (Nat.le_of_ble_eq_true rfl) ?_
  intro pW eW sW mW argsW belowW methW c9 C hnm hr
  have C : CX g RX10 cX10_isIn 3 _ pW sW mW argsW methW c9 := C
  refine x_iload_n C dX10_isIn_0 rfl 0 rfl ?_
  refine x_iload_n C dX10_isIn_1 rfl 1 rfl ?_
  refine x_icmp_lt (tgt := 14) C dX10_isIn_2 (by decide) (fun h1 => ?_) (fun h1 => ?_)
  · have hf := x_t h1 hf
    refine x_iconst (v := 0) C dX10_isIn_14 (by decide) ?_
    exact x_zret C hr rfl ⟨by cases hf; rfl, by cases hf; rfl⟩ dX10_isIn_15
  · have hf := x_f h1 hf
    refine x_iload_n C dX10_isIn_5 rfl 0 rfl ?_
    refine x_iload_n C dX10_isIn_6 rfl 2 rfl ?_
    refine x_icmp_gt (tgt := 14) C dX10_isIn_7 (by decide) (fun h2 => ?_) (fun h2 => ?_)
    · have hf := x_t h2 hf
      refine x_iconst (v := 0) C dX10_isIn_14 (by decide) ?_
      exact x_zret C hr rfl ⟨by cases hf; rfl, by cases hf; rfl⟩ dX10_isIn_15
    · have hf := x_f h2 hf
      refine x_iconst (v := 1) C dX10_isIn_10 (by decide) ?_
      refine x_goto (tgt := 15) C dX10_isIn_11 (by decide) ?_
      exact x_zret C hr rfl ⟨by cases hf; rfl, by cases hf; rfl⟩ dX10_isIn_15
theorem dX10_copies_0 : decode cX10_copies 0 = .ok (.iconst 0, 1) := by decide +kernel
theorem dX10_copies_1 : decode cX10_copies 1 = .ok (.istore 4, 2) := by decide +kernel
theorem dX10_copies_3 : decode cX10_copies 3 = .ok (.iload 4, 2) := by decide +kernel
theorem dX10_copies_5 : decode cX10_copies 5 = .ok (.bipush 110, 2) := by decide +kernel
theorem dX10_copies_7 : decode cX10_copies 7 = .ok (.if_icmp .ge 21, 3) := by decide +kernel
theorem dX10_copies_10 : decode cX10_copies 10 = .ok (.aload_n 2, 1) := by decide +kernel
theorem dX10_copies_11 : decode cX10_copies 11 = .ok (.iload_n 3, 1) := by decide +kernel
theorem dX10_copies_12 : decode cX10_copies 12 = .ok (.iload 4, 2) := by decide +kernel
theorem dX10_copies_14 : decode cX10_copies 14 = .ok (.iadd, 1) := by decide +kernel
theorem dX10_copies_15 : decode cX10_copies 15 = .ok (.aload_n 0, 1) := by decide +kernel
theorem dX10_copies_16 : decode cX10_copies 16 = .ok (.iload_n 1, 1) := by decide +kernel
theorem dX10_copies_17 : decode cX10_copies 17 = .ok (.iload 4, 2) := by decide +kernel
theorem dX10_copies_19 : decode cX10_copies 19 = .ok (.iadd, 1) := by decide +kernel
theorem dX10_copies_20 : decode cX10_copies 20 = .ok (.iaload, 1) := by decide +kernel
theorem dX10_copies_21 : decode cX10_copies 21 = .ok (.iastore, 1) := by decide +kernel
theorem dX10_copies_22 : decode cX10_copies 22 = .ok (.iinc 4 1, 3) := by decide +kernel
theorem dX10_copies_25 : decode cX10_copies 25 = .ok (.goto (-22), 3) := by decide +kernel
theorem dX10_copies_28 : decode cX10_copies 28 = .ok (.return_, 1) := by decide +kernel
set_option maxHeartbeats 4000000 in
set_option maxRecDepth 100000 in
theorem c_X10_copiesD (g : xG) (l : Launch) (x : Nat) (n : Nat) (y : Nat) (k : Nat) (f : (Nat → Int32)) (h : (Nat → Int32)) (x1 : Int32) (x3 : Int32) {u : (Nat → Int32)} (hf : f_X10_copiesD n k f h x1 x3 = some u) : ConD g l yX10_copies cX10_copies 5 none ({ frames := 0, cells := 0, slots := 0, locals := 0 } : Room) [.ref x, .int x1, .ref y, .int x3] [iaW g x n f, iaW g y k h] (none) [iaW g x n f, iaW g y k u] := by
  unfold f_X10_copiesD at hf
  refine Con_of [iaW g x n f, iaW g y k h] [(0, .ref x), (1, .int x1), (2, .ref y), (3, .int x3)] rfl rfl (by decide) (Nat.le_of_ble_eq_true rfl) ?_
  intro pW eW sW mW argsW belowW methW c9 C hnm hr
  have C : CX g RX10 cX10_copies 5 _ pW sW mW argsW methW c9 := C
  have hL3 : ∀ (nW : Nat) (hL : (Nat → Int32)) (x1 : Int32) (x3 : Int32) (x4 : Int32), f_X10_copiesD_3 n k nW f hL x1 x3 x4 = some u → VW g (va_A ([iaW g x n f, iaW g y k h] : List va_W).flatten sW.heap.size) 5 pW l eW ({ frames := 0, cells := 0, slots := 0, locals := 0 } : Room) sW mW argsW belowW methW c9 0 0 (MQ belowW (xQc g ([iaW g x n f, iaW g y k h] : List va_W).flatten sW.heap.size (fun v9 w9 => v9 = none ∧ w9 = ([iaW g x n f, iaW g y k u] : List va_W).flatten)) argsW sW 0 0 (va_A ([iaW g x n f, iaW g y k h] : List va_W).flatten sW.heap.size)) [iaW g x n f, iaW g y k hL] [(0, .ref x), (1, .int x1), (2, .ref y), (3, .int x3), (4, .int x4)] 3 [] := by
    intro nW
    induction nW with
    | zero => intro hL x1 x3 x4 hf; rw [f_X10_copiesD_3] at hf; cases hf
    | succ nW ih =>
      intro hL x1 x3 x4 hf
      rw [f_X10_copiesD_3] at hf
      refine x_iload C dX10_copies_3 4 rfl ?_
      refine x_bipush (v := 110) C dX10_copies_5 (by decide) ?_
      refine x_icmp_ge (tgt := 28) C dX10_copies_7 (by decide) (fun h1 => ?_) (fun h1 => ?_)
      · have hf := x_t h1 hf
        exact x_vret C hr ⟨by cases hf; rfl, by cases hf; rfl⟩ dX10_copies_28
      · have hf := x_f h1 hf
        refine x_aload_n C dX10_copies_10 rfl 2 rfl ?_
        refine x_iload_n C dX10_copies_11 rfl 3 rfl ?_
        refine x_iload C dX10_copies_12 4 rfl ?_
        refine x_iadd C dX10_copies_14 ?_
        refine x_aload_n C dX10_copies_15 rfl 0 rfl ?_
        refine x_iload_n C dX10_copies_16 rfl 1 rfl ?_
        refine x_iload C dX10_copies_17 4 rfl ?_
        refine x_iadd C dX10_copies_19 ?_
        obtain ⟨h2, hf⟩ := x_n hf
        refine x_iald (b := iaW g x n f) C 0 rfl 0 (iaW_at0 g x n _) h2 dX10_copies_20 ?_
        obtain ⟨h3, hf⟩ := x_n hf
        refine x_iast (b := iaW g y k hL) (b' := iaW g y k (upd hL (x3 + x4).toNatClampNeg (f (x1 + x4).toNatClampNeg))) (wss' := [iaW g x n f, iaW g y k (upd hL (x3 + x4).toNatClampNeg (f (x1 + x4).toNatClampNeg))]) C 1 rfl 0 (iaW_at0 g y k _) h3 rfl rfl dX10_copies_21 ?_
        refine x_iinc (v := x4 + 1) (lv' := [(4, .int (x4 + 1)), (0, .ref x), (1, .int x1), (2, .ref y), (3, .int x3)]) C dX10_copies_22 4 rfl rfl (by decide) rfl ?_
        refine x_goto (tgt := 3) C dX10_copies_25 (by decide) ?_
        refine x_locals (lv' := [(0, .ref x), (1, .int x1), (2, .ref y), (3, .int x3), (4, .int (x4 + 1))]) [1, 2, 3, 4, 0] rfl ?_
        exact ih (upd hL (x3 + x4).toNatClampNeg (f (x1 + x4).toNatClampNeg)) x1 x3 (x4 + 1) hf
  refine x_iconst (v := 0) C dX10_copies_0 (by decide) ?_
  refine x_istore (lv' := [(4, .int (0 : Int32)), (0, .ref x), (1, .int x1), (2, .ref y), (3, .int x3)]) C dX10_copies_1 (by decide) rfl ?_
  refine x_locals (lv' := [(0, .ref x), (1, .int x1), (2, .ref y), (3, .int x3), (4, .int (0 : Int32))]) [1, 2, 3, 4, 0] rfl ?_
  exact hL3 xFuel h x1 x3 (0 : Int32) hf
theorem wd_78 : Cond.initialized RX10 ∈ xTB := xTB_in 78 (by decide +kernel) (by decide +kernel)
theorem wd_1492 : Cond.fieldLink RX10 9 "CandleConcertModel" "s" "[I" ∈ xTB := xTB_in 1492 (by decide +kernel) (by decide +kernel)
theorem wd_1493 : Cond.fieldLink RX10 13 "CandleConcertModel" "was" "[I" ∈ xTB := xTB_in 1493 (by decide +kernel) (by decide +kernel)
theorem wd_1559 : Cond.methodLink RX10 44 yX10_copies ∈ xTB := xTB_in 1559 (by decide +kernel) (by decide +kernel)
theorem wd_1560 : Cond.static yX10_copies ∈ xTB := xTB_in 1560 (by decide +kernel) (by decide +kernel)
theorem wd_1561 : Cond.code yX10_copies cX10_copies 5 none ∈ xTB := xTB_in 1561 (by decide +kernel) (by decide +kernel)
theorem dX10_keeps_0 : decode cX10_keeps 0 = .ok (.aload_n 0, 1) := by decide +kernel
theorem dX10_keeps_1 : decode cX10_keeps 1 = .ok (.getfield 9, 3) := by decide +kernel
theorem dX10_keeps_4 : decode cX10_keeps 4 = .ok (.iconst 0, 1) := by decide +kernel
theorem dX10_keeps_5 : decode cX10_keeps 5 = .ok (.aload_n 0, 1) := by decide +kernel
theorem dX10_keeps_6 : decode cX10_keeps 6 = .ok (.getfield 13, 3) := by decide +kernel
theorem dX10_keeps_9 : decode cX10_keeps 9 = .ok (.iconst 0, 1) := by decide +kernel
theorem dX10_keeps_10 : decode cX10_keeps 10 = .ok (.invokestatic 44, 3) := by decide +kernel
theorem dX10_keeps_13 : decode cX10_keeps 13 = .ok (.aload_n 0, 1) := by decide +kernel
theorem dX10_keeps_14 : decode cX10_keeps 14 = .ok (.iconst 0, 1) := by decide +kernel
theorem dX10_keeps_15 : decode cX10_keeps 15 = .ok (.putfield 41, 3) := by decide +kernel
theorem dX10_keeps_18 : decode cX10_keeps 18 = .ok (.return_, 1) := by decide +kernel
set_option maxHeartbeats 4000000 in
set_option maxRecDepth 100000 in
theorem c_X10_keeps (g : xG) (l : Launch) (b : Nat → Nat) (m : MdT) (s : (Nat → Int32)) (w : (Nat → Int32))  {u : MdT × (Nat → Int32)} (hf : f_X10_keeps m s w = some u) : ConD g l yX10_keeps cX10_keeps 1 none ({ frames := 1, cells := 0, slots := 0, locals := 24 } : Room) [.ref (b 0)] [mdO g b m, iaW g (b 1) 110 s, iaW g (b 2) 110 w] (none) [mdO g b u.1, iaW g (b 1) 110 s, iaW g (b 2) 110 u.2] := by
  unfold f_X10_keeps at hf
  refine Con_of [mdO g b m, iaW g (b 1) 110 s, iaW g (b 2) 110 w] [(0, .ref (b 0))] rfl rfl (by decide) (Nat.le_of_ble_eq_true rfl) ?_
  intro pW eW sW mW argsW belowW methW c9 C hnm hr
  have C : CX g RX10 cX10_keeps 1 _ pW sW mW argsW methW c9 := C
  refine x_aload_n C dX10_keeps_0 rfl 0 rfl ?_
  refine x_get (ci := 11) (v := .ref (b 1)) (b := mdO g b m) C ixX10 rfl 0 (by decide) wd_1492 (fun _ h => h) 0 rfl 0 (mdO_at0 g b _) rfl dX10_keeps_1 ?_
  refine x_iconst (v := 0) C dX10_keeps_4 (by decide) ?_
  refine x_aload_n C dX10_keeps_5 rfl 0 rfl ?_
  refine x_get (ci := 11) (v := .ref (b 2)) (b := mdO g b m) C ixX10 rfl 1 (by decide) wd_1493 (fun _ h => h) 0 rfl 0 (mdO_at0 g b _) rfl dX10_keeps_6 ?_
  refine x_iconst (v := 0) C dX10_keeps_9 (by decide) ?_
  obtain ⟨u1, hu1, hf⟩ := x_b hf
  refine x_callS (n := 4) (As := [.ref (b 1), .int (0 : Int32), .ref (b 2), .int (0 : Int32)]) (rest := []) C (c_X10_copiesD g l (b 1) 110 (b 2) 110 s w (0 : Int32) (0 : Int32) hu1) ⟨⟨wd_1561, wd_1559, wd_78⟩, ⟨by decide, by decide, by decide⟩, rfl, rfl, Nat.le_of_ble_eq_true rfl, Nat.le_of_ble_eq_true rfl⟩ wd_1560 [mdO g b m] (x_pickD [1, 2, 0] 3 rfl rfl rfl) rfl rfl (Nat.le_of_ble_eq_true rfl) ⟨Nat.le_of_ble_eq_true rfl, Nat.le_of_ble_eq_true rfl⟩ dX10_keeps_10 (x_goD (wss2 := [iaW g (b 1) 110 s, iaW g (b 2) 110 u1, mdO g b m]) (stk2 := []) rfl rfl ?_)
  refine x_aload_n C dX10_keeps_13 rfl 0 rfl ?_
  refine x_iconst (v := 0) C dX10_keeps_14 (by decide) ?_
  refine x_put (ci := 11) (ty := .int) (v := .int (0 : Int32)) (b := mdO g b m) (b' := mdO g b (m.1, (0 : Int32), m.2.2.1, m.2.2.2.1, m.2.2.2.2.1, m.2.2.2.2.2.1, m.2.2.2.2.2.2.1, m.2.2.2.2.2.2.2.1, m.2.2.2.2.2.2.2.2.1, m.2.2.2.2.2.2.2.2.2)) (wss' := [iaW g (b 1) 110 s, iaW g (b 2) 110 u1, mdO g b (m.1, (0 : Int32), m.2.2.1, m.2.2.2.1, m.2.2.2.2.1, m.2.2.2.2.2.1, m.2.2.2.2.2.2.1, m.2.2.2.2.2.2.2.1, m.2.2.2.2.2.2.2.2.1, m.2.2.2.2.2.2.2.2.2)]) C ixX10 tyX10 tyX10_ok nmX10 rfl 6 (by decide) wd_1498 (fun _ h => h) rfl (tyX10_ok 6 (by decide)) rfl rfl 2 rfl 0 (mdO_at0 g b _) (Nat.le_of_ble_eq_true rfl) rfl rfl dX10_keeps_15 ?_
  refine x_perm (wss' := [mdO g b (m.1, (0 : Int32), m.2.2.1, m.2.2.2.1, m.2.2.2.2.1, m.2.2.2.2.2.1, m.2.2.2.2.2.2.1, m.2.2.2.2.2.2.2.1, m.2.2.2.2.2.2.2.2.1, m.2.2.2.2.2.2.2.2.2), iaW g (b 1) 110 s, iaW g (b 2) 110 u1]) (x_pick [2, 0, 1] 3 rfl rfl rfl) ?_
  exact x_vret C hr ⟨by cases hf; rfl, by cases hf; rfl⟩ dX10_keeps_18
set_option maxHeartbeats 4000000 in
set_option maxRecDepth 100000 in
theorem c_X10_copiesS (g : xG) (l : Launch) (x : Nat) (n : Nat) (f : (Nat → Int32)) (x1 : Int32) (x3 : Int32) {u : (Nat → Int32)} (hf : f_X10_copiesS n f x1 x3 = some u) : ConD g l yX10_copies cX10_copies 5 none ({ frames := 0, cells := 0, slots := 0, locals := 0 } : Room) [.ref x, .int x1, .ref x, .int x3] [iaW g x n f] (none) [iaW g x n u] := by
  unfold f_X10_copiesS at hf
  refine Con_of [iaW g x n f] [(0, .ref x), (1, .int x1), (2, .ref x), (3, .int x3)] rfl rfl (by decide) (Nat.le_of_ble_eq_true rfl) ?_
  intro pW eW sW mW argsW belowW methW c9 C hnm hr
  have C : CX g RX10 cX10_copies 5 _ pW sW mW argsW methW c9 := C
  have hL3 : ∀ (nW : Nat) (fL : (Nat → Int32)) (x1 : Int32) (x3 : Int32) (x4 : Int32), f_X10_copiesS_3 n nW fL x1 x3 x4 = some u → VW g (va_A ([iaW g x n f] : List va_W).flatten sW.heap.size) 5 pW l eW ({ frames := 0, cells := 0, slots := 0, locals := 0 } : Room) sW mW argsW belowW methW c9 0 0 (MQ belowW (xQc g ([iaW g x n f] : List va_W).flatten sW.heap.size (fun v9 w9 => v9 = none ∧ w9 = ([iaW g x n u] : List va_W).flatten)) argsW sW 0 0 (va_A ([iaW g x n f] : List va_W).flatten sW.heap.size)) [iaW g x n fL] [(0, .ref x), (1, .int x1), (2, .ref x), (3, .int x3), (4, .int x4)] 3 [] := by
    intro nW
    induction nW with
    | zero => intro fL x1 x3 x4 hf; rw [f_X10_copiesS_3] at hf; cases hf
    | succ nW ih =>
      intro fL x1 x3 x4 hf
      rw [f_X10_copiesS_3] at hf
      refine x_iload C dX10_copies_3 4 rfl ?_
      refine x_bipush (v := 110) C dX10_copies_5 (by decide) ?_
      refine x_icmp_ge (tgt := 28) C dX10_copies_7 (by decide) (fun h1 => ?_) (fun h1 => ?_)
      · have hf := x_t h1 hf
        exact x_vret C hr ⟨by cases hf; rfl, by cases hf; rfl⟩ dX10_copies_28
      · have hf := x_f h1 hf
        refine x_aload_n C dX10_copies_10 rfl 2 rfl ?_
        refine x_iload_n C dX10_copies_11 rfl 3 rfl ?_
        refine x_iload C dX10_copies_12 4 rfl ?_
        refine x_iadd C dX10_copies_14 ?_
        refine x_aload_n C dX10_copies_15 rfl 0 rfl ?_
        refine x_iload_n C dX10_copies_16 rfl 1 rfl ?_
        refine x_iload C dX10_copies_17 4 rfl ?_
        refine x_iadd C dX10_copies_19 ?_
        obtain ⟨h2, hf⟩ := x_n hf
        refine x_iald (b := iaW g x n fL) C 0 rfl 0 (iaW_at0 g x n _) h2 dX10_copies_20 ?_
        obtain ⟨h3, hf⟩ := x_n hf
        refine x_iast (b := iaW g x n fL) (b' := iaW g x n (upd fL (x3 + x4).toNatClampNeg (fL (x1 + x4).toNatClampNeg))) (wss' := [iaW g x n (upd fL (x3 + x4).toNatClampNeg (fL (x1 + x4).toNatClampNeg))]) C 0 rfl 0 (iaW_at0 g x n _) h3 rfl rfl dX10_copies_21 ?_
        refine x_iinc (v := x4 + 1) (lv' := [(4, .int (x4 + 1)), (0, .ref x), (1, .int x1), (2, .ref x), (3, .int x3)]) C dX10_copies_22 4 rfl rfl (by decide) rfl ?_
        refine x_goto (tgt := 3) C dX10_copies_25 (by decide) ?_
        refine x_locals (lv' := [(0, .ref x), (1, .int x1), (2, .ref x), (3, .int x3), (4, .int (x4 + 1))]) [1, 2, 3, 4, 0] rfl ?_
        exact ih (upd fL (x3 + x4).toNatClampNeg (fL (x1 + x4).toNatClampNeg)) x1 x3 (x4 + 1) hf
  refine x_iconst (v := 0) C dX10_copies_0 (by decide) ?_
  refine x_istore (lv' := [(4, .int (0 : Int32)), (0, .ref x), (1, .int x1), (2, .ref x), (3, .int x3)]) C dX10_copies_1 (by decide) rfl ?_
  refine x_locals (lv' := [(0, .ref x), (1, .int x1), (2, .ref x), (3, .int x3), (4, .int (0 : Int32))]) [1, 2, 3, 4, 0] rfl ?_
  exact hL3 xFuel f x1 x3 (0 : Int32) hf
theorem wd_1496 : Cond.fieldLink RX10 22 "CandleConcertModel" "past" "[I" ∈ xTB := xTB_in 1496 (by decide +kernel) (by decide +kernel)
theorem wd_1497 : Cond.fieldLink RX10 48 "CandleConcertModel" "changes" "I" ∈ xTB := xTB_in 1497 (by decide +kernel) (by decide +kernel)
theorem dX10_ends_0 : decode cX10_ends 0 = .ok (.aload_n 0, 1) := by decide +kernel
theorem dX10_ends_1 : decode cX10_ends 1 = .ok (.getfield 41, 3) := by decide +kernel
theorem dX10_ends_4 : decode cX10_ends 4 = .ok (.ifCond .eq 5, 3) := by decide +kernel
theorem dX10_ends_7 : decode cX10_ends 7 = .ok (.iconst 0, 1) := by decide +kernel
theorem dX10_ends_8 : decode cX10_ends 8 = .ok (.ireturn, 1) := by decide +kernel
theorem dX10_ends_9 : decode cX10_ends 9 = .ok (.aload_n 0, 1) := by decide +kernel
theorem dX10_ends_10 : decode cX10_ends 10 = .ok (.getfield 48, 3) := by decide +kernel
theorem dX10_ends_13 : decode cX10_ends 13 = .ok (.bipush 8, 2) := by decide +kernel
theorem dX10_ends_15 : decode cX10_ends 15 = .ok (.if_icmp .ne 48, 3) := by decide +kernel
theorem dX10_ends_18 : decode cX10_ends 18 = .ok (.iconst 1, 1) := by decide +kernel
theorem dX10_ends_19 : decode cX10_ends 19 = .ok (.istore_n 2, 1) := by decide +kernel
theorem dX10_ends_20 : decode cX10_ends 20 = .ok (.iload_n 2, 1) := by decide +kernel
theorem dX10_ends_21 : decode cX10_ends 21 = .ok (.bipush 8, 2) := by decide +kernel
theorem dX10_ends_23 : decode cX10_ends 23 = .ok (.if_icmp .ge 30, 3) := by decide +kernel
theorem dX10_ends_26 : decode cX10_ends 26 = .ok (.aload_n 0, 1) := by decide +kernel
theorem dX10_ends_27 : decode cX10_ends 27 = .ok (.getfield 22, 3) := by decide +kernel
theorem dX10_ends_30 : decode cX10_ends 30 = .ok (.bipush 110, 2) := by decide +kernel
theorem dX10_ends_32 : decode cX10_ends 32 = .ok (.iload_n 2, 1) := by decide +kernel
theorem dX10_ends_33 : decode cX10_ends 33 = .ok (.imul, 1) := by decide +kernel
theorem dX10_ends_34 : decode cX10_ends 34 = .ok (.aload_n 0, 1) := by decide +kernel
theorem dX10_ends_35 : decode cX10_ends 35 = .ok (.getfield 22, 3) := by decide +kernel
theorem dX10_ends_38 : decode cX10_ends 38 = .ok (.bipush 110, 2) := by decide +kernel
theorem dX10_ends_40 : decode cX10_ends 40 = .ok (.iload_n 2, 1) := by decide +kernel
theorem dX10_ends_41 : decode cX10_ends 41 = .ok (.iconst 1, 1) := by decide +kernel
theorem dX10_ends_42 : decode cX10_ends 42 = .ok (.isub, 1) := by decide +kernel
theorem dX10_ends_43 : decode cX10_ends 43 = .ok (.imul, 1) := by decide +kernel
theorem dX10_ends_44 : decode cX10_ends 44 = .ok (.invokestatic 44, 3) := by decide +kernel
theorem dX10_ends_47 : decode cX10_ends 47 = .ok (.iinc 2 1, 3) := by decide +kernel
theorem dX10_ends_50 : decode cX10_ends 50 = .ok (.goto (-30), 3) := by decide +kernel
theorem dX10_ends_53 : decode cX10_ends 53 = .ok (.aload_n 0, 1) := by decide +kernel
theorem dX10_ends_54 : decode cX10_ends 54 = .ok (.dup, 1) := by decide +kernel
theorem dX10_ends_55 : decode cX10_ends 55 = .ok (.getfield 48, 3) := by decide +kernel
theorem dX10_ends_58 : decode cX10_ends 58 = .ok (.iconst 1, 1) := by decide +kernel
theorem dX10_ends_59 : decode cX10_ends 59 = .ok (.isub, 1) := by decide +kernel
theorem dX10_ends_60 : decode cX10_ends 60 = .ok (.putfield 48, 3) := by decide +kernel
theorem dX10_ends_63 : decode cX10_ends 63 = .ok (.aload_n 0, 1) := by decide +kernel
theorem dX10_ends_64 : decode cX10_ends 64 = .ok (.getfield 13, 3) := by decide +kernel
theorem dX10_ends_67 : decode cX10_ends 67 = .ok (.iconst 0, 1) := by decide +kernel
theorem dX10_ends_68 : decode cX10_ends 68 = .ok (.aload_n 0, 1) := by decide +kernel
theorem dX10_ends_69 : decode cX10_ends 69 = .ok (.getfield 22, 3) := by decide +kernel
theorem dX10_ends_72 : decode cX10_ends 72 = .ok (.bipush 110, 2) := by decide +kernel
theorem dX10_ends_74 : decode cX10_ends 74 = .ok (.aload_n 0, 1) := by decide +kernel
theorem dX10_ends_75 : decode cX10_ends 75 = .ok (.getfield 48, 3) := by decide +kernel
theorem dX10_ends_78 : decode cX10_ends 78 = .ok (.imul, 1) := by decide +kernel
theorem dX10_ends_79 : decode cX10_ends 79 = .ok (.invokestatic 44, 3) := by decide +kernel
theorem dX10_ends_82 : decode cX10_ends 82 = .ok (.aload_n 0, 1) := by decide +kernel
theorem dX10_ends_83 : decode cX10_ends 83 = .ok (.dup, 1) := by decide +kernel
theorem dX10_ends_84 : decode cX10_ends 84 = .ok (.getfield 48, 3) := by decide +kernel
theorem dX10_ends_87 : decode cX10_ends 87 = .ok (.iconst 1, 1) := by decide +kernel
theorem dX10_ends_88 : decode cX10_ends 88 = .ok (.iadd, 1) := by decide +kernel
theorem dX10_ends_89 : decode cX10_ends 89 = .ok (.putfield 48, 3) := by decide +kernel
theorem dX10_ends_92 : decode cX10_ends 92 = .ok (.iload_n 1, 1) := by decide +kernel
theorem dX10_ends_93 : decode cX10_ends 93 = .ok (.ireturn, 1) := by decide +kernel
set_option maxHeartbeats 4000000 in
set_option maxRecDepth 100000 in
theorem c_X10_ends (g : xG) (l : Launch) (b : Nat → Nat) (m : MdT) (w : (Nat → Int32)) (p : (Nat → Int32)) (x1 : Int32) {u : Int32 × MdT × (Nat → Int32)} (hf : f_X10_ends m w p x1 = some u) : ConD g l yX10_ends cX10_ends 3 (some .int) ({ frames := 1, cells := 0, slots := 0, locals := 24 } : Room) [.ref (b 0), .int x1] [mdO g b m, iaW g (b 2) 110 w, iaW g (b 5) 880 p] (some (.int u.1)) [mdO g b u.2.1, iaW g (b 2) 110 w, iaW g (b 5) 880 u.2.2] := by
  unfold f_X10_ends at hf
  refine Con_of [mdO g b m, iaW g (b 2) 110 w, iaW g (b 5) 880 p] [(0, .ref (b 0)), (1, .int x1)] rfl rfl (by decide) (Nat.le_of_ble_eq_true rfl) ?_
  intro pW eW sW mW argsW belowW methW c9 C hnm hr
  have C : CX g RX10 cX10_ends 3 _ pW sW mW argsW methW c9 := C
  have hL63 : ∀ (mL : MdT) (pL : (Nat → Int32)) (x1 : Int32), f_X10_ends_63 mL w pL x1 = some u → VW g (va_A ([mdO g b m, iaW g (b 2) 110 w, iaW g (b 5) 880 p] : List va_W).flatten sW.heap.size) 3 pW l eW ({ frames := 1, cells := 0, slots := 0, locals := 24 } : Room) sW mW argsW belowW methW c9 0 0 (MQ belowW (xQc g ([mdO g b m, iaW g (b 2) 110 w, iaW g (b 5) 880 p] : List va_W).flatten sW.heap.size (fun v9 w9 => v9 = some (.int u.1) ∧ w9 = ([mdO g b u.2.1, iaW g (b 2) 110 w, iaW g (b 5) 880 u.2.2] : List va_W).flatten)) argsW sW 0 0 (va_A ([mdO g b m, iaW g (b 2) 110 w, iaW g (b 5) 880 p] : List va_W).flatten sW.heap.size)) [mdO g b mL, iaW g (b 2) 110 w, iaW g (b 5) 880 pL] [(0, .ref (b 0)), (1, .int x1)] 63 [] := by
    intro mL pL x1 hf
    unfold f_X10_ends_63 at hf
    refine x_aload_n C dX10_ends_63 rfl 0 rfl ?_
    refine x_get (ci := 11) (v := .ref (b 2)) (b := mdO g b mL) C ixX10 rfl 1 (by decide) wd_1493 (fun _ h => h) 0 rfl 0 (mdO_at0 g b _) rfl dX10_ends_64 ?_
    refine x_iconst (v := 0) C dX10_ends_67 (by decide) ?_
    refine x_aload_n C dX10_ends_68 rfl 0 rfl ?_
    refine x_get (ci := 11) (v := .ref (b 5)) (b := mdO g b mL) C ixX10 rfl 4 (by decide) wd_1496 (fun _ h => h) 0 rfl 0 (mdO_at0 g b _) rfl dX10_ends_69 ?_
    refine x_bipush (v := 110) C dX10_ends_72 (by decide) ?_
    refine x_aload_n C dX10_ends_74 rfl 0 rfl ?_
    refine x_get (ci := 11) (v := .int mL.1) (b := mdO g b mL) C ixX10 rfl 5 (by decide) wd_1497 (fun _ h => h) 0 rfl 0 (mdO_at0 g b _) rfl dX10_ends_75 ?_
    refine x_imul C dX10_ends_78 ?_
    obtain ⟨u1, hu1, hf⟩ := x_b hf
    refine x_callS (n := 4) (As := [.ref (b 2), .int (0 : Int32), .ref (b 5), .int ((110 : Int32) * mL.1)]) (rest := []) C (c_X10_copiesD g l (b 2) 110 (b 5) 880 w pL (0 : Int32) ((110 : Int32) * mL.1) hu1) ⟨⟨wd_1561, wd_1559, wd_78⟩, ⟨by decide, by decide, by decide⟩, rfl, rfl, Nat.le_of_ble_eq_true rfl, Nat.le_of_ble_eq_true rfl⟩ wd_1560 [mdO g b mL] (x_pickD [1, 2, 0] 3 rfl rfl rfl) rfl rfl (Nat.le_of_ble_eq_true rfl) ⟨Nat.le_of_ble_eq_true rfl, Nat.le_of_ble_eq_true rfl⟩ dX10_ends_79 (x_goD (wss2 := [iaW g (b 2) 110 w, iaW g (b 5) 880 u1, mdO g b mL]) (stk2 := []) rfl rfl ?_)
    refine x_aload_n C dX10_ends_82 rfl 0 rfl ?_
    refine x_dup C dX10_ends_83 rfl ?_
    refine x_get (ci := 11) (v := .int mL.1) (b := mdO g b mL) C ixX10 rfl 5 (by decide) wd_1497 (fun _ h => h) 2 rfl 0 (mdO_at0 g b _) rfl dX10_ends_84 ?_
    refine x_iconst (v := 1) C dX10_ends_87 (by decide) ?_
    refine x_iadd C dX10_ends_88 ?_
    refine x_put (ci := 11) (ty := .int) (v := .int (mL.1 + (1 : Int32))) (b := mdO g b mL) (b' := mdO g b (mL.1 + (1 : Int32), mL.2.1, mL.2.2.1, mL.2.2.2.1, mL.2.2.2.2.1, mL.2.2.2.2.2.1, mL.2.2.2.2.2.2.1, mL.2.2.2.2.2.2.2.1, mL.2.2.2.2.2.2.2.2.1, mL.2.2.2.2.2.2.2.2.2)) (wss' := [iaW g (b 2) 110 w, iaW g (b 5) 880 u1, mdO g b (mL.1 + (1 : Int32), mL.2.1, mL.2.2.1, mL.2.2.2.1, mL.2.2.2.2.1, mL.2.2.2.2.2.1, mL.2.2.2.2.2.2.1, mL.2.2.2.2.2.2.2.1, mL.2.2.2.2.2.2.2.2.1, mL.2.2.2.2.2.2.2.2.2)]) C ixX10 tyX10 tyX10_ok nmX10 rfl 5 (by decide) wd_1497 (fun _ h => h) rfl (tyX10_ok 5 (by decide)) rfl rfl 2 rfl 0 (mdO_at0 g b _) (Nat.le_of_ble_eq_true rfl) rfl rfl dX10_ends_89 ?_
    refine x_iload_n C dX10_ends_92 rfl 1 rfl ?_
    refine x_perm (wss' := [mdO g b (mL.1 + (1 : Int32), mL.2.1, mL.2.2.1, mL.2.2.2.1, mL.2.2.2.2.1, mL.2.2.2.2.2.1, mL.2.2.2.2.2.2.1, mL.2.2.2.2.2.2.2.1, mL.2.2.2.2.2.2.2.2.1, mL.2.2.2.2.2.2.2.2.2), iaW g (b 2) 110 w, iaW g (b 5) 880 u1]) (x_pick [2, 0, 1] 3 rfl rfl rfl) ?_
    exact x_iret C hr ⟨by cases hf; rfl, by cases hf; rfl⟩ dX10_ends_93
  have hL20 : ∀ (nW : Nat) (mL : MdT) (pL : (Nat → Int32)) (x1 : Int32) (x2 : Int32), f_X10_ends_20 nW mL w pL x1 x2 = some u → VW g (va_A ([mdO g b m, iaW g (b 2) 110 w, iaW g (b 5) 880 p] : List va_W).flatten sW.heap.size) 3 pW l eW ({ frames := 1, cells := 0, slots := 0, locals := 24 } : Room) sW mW argsW belowW methW c9 0 0 (MQ belowW (xQc g ([mdO g b m, iaW g (b 2) 110 w, iaW g (b 5) 880 p] : List va_W).flatten sW.heap.size (fun v9 w9 => v9 = some (.int u.1) ∧ w9 = ([mdO g b u.2.1, iaW g (b 2) 110 w, iaW g (b 5) 880 u.2.2] : List va_W).flatten)) argsW sW 0 0 (va_A ([mdO g b m, iaW g (b 2) 110 w, iaW g (b 5) 880 p] : List va_W).flatten sW.heap.size)) [mdO g b mL, iaW g (b 2) 110 w, iaW g (b 5) 880 pL] [(0, .ref (b 0)), (1, .int x1), (2, .int x2)] 20 [] := by
    intro nW
    induction nW with
    | zero => intro mL pL x1 x2 hf; rw [f_X10_ends_20] at hf; cases hf
    | succ nW ih =>
      intro mL pL x1 x2 hf
      rw [f_X10_ends_20] at hf
      refine x_iload_n C dX10_ends_20 rfl 2 rfl ?_
      refine x_bipush (v := 8) C dX10_ends_21 (by decide) ?_
      refine x_icmp_ge (tgt := 53) C dX10_ends_23 (by decide) (fun h1 => ?_) (fun h1 => ?_)
      · have hf := x_t h1 hf
        refine x_aload_n C dX10_ends_53 rfl 0 rfl ?_
        refine x_dup C dX10_ends_54 rfl ?_
        refine x_get (ci := 11) (v := .int mL.1) (b := mdO g b mL) C ixX10 rfl 5 (by decide) wd_1497 (fun _ h => h) 0 rfl 0 (mdO_at0 g b _) rfl dX10_ends_55 ?_
        refine x_iconst (v := 1) C dX10_ends_58 (by decide) ?_
        refine x_isub C dX10_ends_59 ?_
        refine x_put (ci := 11) (ty := .int) (v := .int (mL.1 - (1 : Int32))) (b := mdO g b mL) (b' := mdO g b (mL.1 - (1 : Int32), mL.2.1, mL.2.2.1, mL.2.2.2.1, mL.2.2.2.2.1, mL.2.2.2.2.2.1, mL.2.2.2.2.2.2.1, mL.2.2.2.2.2.2.2.1, mL.2.2.2.2.2.2.2.2.1, mL.2.2.2.2.2.2.2.2.2)) (wss' := [mdO g b (mL.1 - (1 : Int32), mL.2.1, mL.2.2.1, mL.2.2.2.1, mL.2.2.2.2.1, mL.2.2.2.2.2.1, mL.2.2.2.2.2.2.1, mL.2.2.2.2.2.2.2.1, mL.2.2.2.2.2.2.2.2.1, mL.2.2.2.2.2.2.2.2.2), iaW g (b 2) 110 w, iaW g (b 5) 880 pL]) C ixX10 tyX10 tyX10_ok nmX10 rfl 5 (by decide) wd_1497 (fun _ h => h) rfl (tyX10_ok 5 (by decide)) rfl rfl 0 rfl 0 (mdO_at0 g b _) (Nat.le_of_ble_eq_true rfl) rfl rfl dX10_ends_60 ?_
        refine x_locals (lv' := [(0, .ref (b 0)), (1, .int x1)]) [0, 1] rfl ?_
        exact hL63 (mL.1 - (1 : Int32), mL.2.1, mL.2.2.1, mL.2.2.2.1, mL.2.2.2.2.1, mL.2.2.2.2.2.1, mL.2.2.2.2.2.2.1, mL.2.2.2.2.2.2.2.1, mL.2.2.2.2.2.2.2.2.1, mL.2.2.2.2.2.2.2.2.2) pL x1 hf
      · have hf := x_f h1 hf
        refine x_aload_n C dX10_ends_26 rfl 0 rfl ?_
        refine x_get (ci := 11) (v := .ref (b 5)) (b := mdO g b mL) C ixX10 rfl 4 (by decide) wd_1496 (fun _ h => h) 0 rfl 0 (mdO_at0 g b _) rfl dX10_ends_27 ?_
        refine x_bipush (v := 110) C dX10_ends_30 (by decide) ?_
        refine x_iload_n C dX10_ends_32 rfl 2 rfl ?_
        refine x_imul C dX10_ends_33 ?_
        refine x_aload_n C dX10_ends_34 rfl 0 rfl ?_
        refine x_get (ci := 11) (v := .ref (b 5)) (b := mdO g b mL) C ixX10 rfl 4 (by decide) wd_1496 (fun _ h => h) 0 rfl 0 (mdO_at0 g b _) rfl dX10_ends_35 ?_
        refine x_bipush (v := 110) C dX10_ends_38 (by decide) ?_
        refine x_iload_n C dX10_ends_40 rfl 2 rfl ?_
        refine x_iconst (v := 1) C dX10_ends_41 (by decide) ?_
        refine x_isub C dX10_ends_42 ?_
        refine x_imul C dX10_ends_43 ?_
        obtain ⟨u2, hu2, hf⟩ := x_b hf
        refine x_callS (n := 4) (As := [.ref (b 5), .int ((110 : Int32) * x2), .ref (b 5), .int ((110 : Int32) * (x2 - (1 : Int32)))]) (rest := []) C (c_X10_copiesS g l (b 5) 880 pL ((110 : Int32) * x2) ((110 : Int32) * (x2 - (1 : Int32))) hu2) ⟨⟨wd_1561, wd_1559, wd_78⟩, ⟨by decide, by decide, by decide⟩, rfl, rfl, Nat.le_of_ble_eq_true rfl, Nat.le_of_ble_eq_true rfl⟩ wd_1560 [mdO g b mL, iaW g (b 2) 110 w] (x_pickD [2, 0, 1] 3 rfl rfl rfl) rfl rfl (Nat.le_of_ble_eq_true rfl) ⟨Nat.le_of_ble_eq_true rfl, Nat.le_of_ble_eq_true rfl⟩ dX10_ends_44 (x_goD (wss2 := [iaW g (b 5) 880 u2, mdO g b mL, iaW g (b 2) 110 w]) (stk2 := []) rfl rfl ?_)
        refine x_iinc (v := x2 + 1) (lv' := [(2, .int (x2 + 1)), (0, .ref (b 0)), (1, .int x1)]) C dX10_ends_47 2 rfl rfl (by decide) rfl ?_
        refine x_goto (tgt := 20) C dX10_ends_50 (by decide) ?_
        refine x_perm (wss' := [mdO g b mL, iaW g (b 2) 110 w, iaW g (b 5) 880 u2]) (x_pick [1, 2, 0] 3 rfl rfl rfl) ?_
        refine x_locals (lv' := [(0, .ref (b 0)), (1, .int x1), (2, .int (x2 + 1))]) [1, 2, 0] rfl ?_
        exact ih mL u2 x1 (x2 + 1) hf
  refine x_aload_n C dX10_ends_0 rfl 0 rfl ?_
  refine x_get (ci := 11) (v := .int m.2.1) (b := mdO g b m) C ixX10 rfl 6 (by decide) wd_1498 (fun _ h => h) 0 rfl 0 (mdO_at0 g b _) rfl dX10_ends_1 ?_
  refine x_if_eq (tgt := 9) C dX10_ends_4 (by decide) (fun h1 => ?_) (fun h1 => ?_)
  · have hf := x_t h1 hf
    refine x_aload_n C dX10_ends_9 rfl 0 rfl ?_
    refine x_get (ci := 11) (v := .int m.1) (b := mdO g b m) C ixX10 rfl 5 (by decide) wd_1497 (fun _ h => h) 0 rfl 0 (mdO_at0 g b _) rfl dX10_ends_10 ?_
    refine x_bipush (v := 8) C dX10_ends_13 (by decide) ?_
    refine x_icmp_ne (tgt := 63) C dX10_ends_15 (by decide) (fun h2 => ?_) (fun h2 => ?_)
    · have hf := x_f h2 hf
      exact hL63 m p x1 hf
    · have hf := x_t h2 hf
      refine x_iconst (v := 1) C dX10_ends_18 (by decide) ?_
      refine x_istore_n (lv' := [(2, .int (1 : Int32)), (0, .ref (b 0)), (1, .int x1)]) C dX10_ends_19 rfl (by decide) rfl ?_
      refine x_locals (lv' := [(0, .ref (b 0)), (1, .int x1), (2, .int (1 : Int32))]) [1, 2, 0] rfl ?_
      exact hL20 xFuel m p x1 (1 : Int32) hf
  · have hf := x_f h1 hf
    refine x_iconst (v := 0) C dX10_ends_7 (by decide) ?_
    exact x_iret C hr ⟨by cases hf; rfl, by cases hf; rfl⟩ dX10_ends_8
theorem dX10_isThrown_0 : decode cX10_isThrown 0 = .ok (.aload_n 0, 1) := by decide +kernel
theorem dX10_isThrown_1 : decode cX10_isThrown 1 = .ok (.iload_n 1, 1) := by decide +kernel
theorem dX10_isThrown_2 : decode cX10_isThrown 2 = .ok (.ifCond .eq 7, 3) := by decide +kernel
theorem dX10_isThrown_5 : decode cX10_isThrown 5 = .ok (.iload_n 2, 1) := by decide +kernel
theorem dX10_isThrown_6 : decode cX10_isThrown 6 = .ok (.goto 4, 3) := by decide +kernel
theorem dX10_isThrown_9 : decode cX10_isThrown 9 = .ok (.iconst 0, 1) := by decide +kernel
theorem dX10_isThrown_10 : decode cX10_isThrown 10 = .ok (.putfield 41, 3) := by decide +kernel
theorem dX10_isThrown_13 : decode cX10_isThrown 13 = .ok (.iload_n 1, 1) := by decide +kernel
theorem dX10_isThrown_14 : decode cX10_isThrown 14 = .ok (.ireturn, 1) := by decide +kernel
set_option maxHeartbeats 4000000 in
set_option maxRecDepth 100000 in
theorem c_X10_isThrown (g : xG) (l : Launch) (b : Nat → Nat) (m : MdT) (x1 : Int32) (x2 : Int32) {u : Int32 × MdT} (hf : f_X10_isThrown m x1 x2 = some u) : ConD g l yX10_isThrown cX10_isThrown 3 (some .boolean) ({ frames := 0, cells := 0, slots := 0, locals := 0 } : Room) [.ref (b 0), .int x1, .int x2] [mdO g b m] (some (.int u.1)) [mdO g b u.2] := by
  unfold f_X10_isThrown at hf
  refine Con_of [mdO g b m] [(0, .ref (b 0)), (1, .int x1), (2, .int x2)] rfl rfl (by decide) (Nat.le_of_ble_eq_true rfl) ?_
  intro pW eW sW mW argsW belowW methW c9 C hnm hr
  have C : CX g RX10 cX10_isThrown 3 _ pW sW mW argsW methW c9 := C
  refine x_aload_n C dX10_isThrown_0 rfl 0 rfl ?_
  refine x_iload_n C dX10_isThrown_1 rfl 1 rfl ?_
  refine x_if_eq (tgt := 9) C dX10_isThrown_2 (by decide) (fun h1 => ?_) (fun h1 => ?_)
  · have hf := x_t h1 hf
    refine x_iconst (v := 0) C dX10_isThrown_9 (by decide) ?_
    refine x_put (ci := 11) (ty := .int) (v := .int (0 : Int32)) (b := mdO g b m) (b' := mdO g b (m.1, (0 : Int32), m.2.2.1, m.2.2.2.1, m.2.2.2.2.1, m.2.2.2.2.2.1, m.2.2.2.2.2.2.1, m.2.2.2.2.2.2.2.1, m.2.2.2.2.2.2.2.2.1, m.2.2.2.2.2.2.2.2.2)) (wss' := [mdO g b (m.1, (0 : Int32), m.2.2.1, m.2.2.2.1, m.2.2.2.2.1, m.2.2.2.2.2.1, m.2.2.2.2.2.2.1, m.2.2.2.2.2.2.2.1, m.2.2.2.2.2.2.2.2.1, m.2.2.2.2.2.2.2.2.2)]) C ixX10 tyX10 tyX10_ok nmX10 rfl 6 (by decide) wd_1498 (fun _ h => h) rfl (tyX10_ok 6 (by decide)) rfl rfl 0 rfl 0 (mdO_at0 g b _) (Nat.le_of_ble_eq_true rfl) rfl rfl dX10_isThrown_10 ?_
    refine x_iload_n C dX10_isThrown_13 rfl 1 rfl ?_
    obtain ⟨h2, hf⟩ := x_y hf
    exact x_zret C hr (x_narZ h2).1 ⟨by cases hf; rfl, by cases hf; rfl⟩ dX10_isThrown_14
  · have hf := x_f h1 hf
    refine x_iload_n C dX10_isThrown_5 rfl 2 rfl ?_
    refine x_goto (tgt := 10) C dX10_isThrown_6 (by decide) ?_
    refine x_put (ci := 11) (ty := .int) (v := .int x2) (b := mdO g b m) (b' := mdO g b (m.1, x2, m.2.2.1, m.2.2.2.1, m.2.2.2.2.1, m.2.2.2.2.2.1, m.2.2.2.2.2.2.1, m.2.2.2.2.2.2.2.1, m.2.2.2.2.2.2.2.2.1, m.2.2.2.2.2.2.2.2.2)) (wss' := [mdO g b (m.1, x2, m.2.2.1, m.2.2.2.1, m.2.2.2.2.1, m.2.2.2.2.2.1, m.2.2.2.2.2.2.1, m.2.2.2.2.2.2.2.1, m.2.2.2.2.2.2.2.2.1, m.2.2.2.2.2.2.2.2.2)]) C ixX10 tyX10 tyX10_ok nmX10 rfl 6 (by decide) wd_1498 (fun _ h => h) rfl (tyX10_ok 6 (by decide)) rfl rfl 0 rfl 0 (mdO_at0 g b _) (Nat.le_of_ble_eq_true rfl) rfl rfl dX10_isThrown_10 ?_
    refine x_iload_n C dX10_isThrown_13 rfl 1 rfl ?_
    obtain ⟨h3, hf⟩ := x_y hf
    exact x_zret C hr (x_narZ h3).1 ⟨by cases hf; rfl, by cases hf; rfl⟩ dX10_isThrown_14
theorem dX10_of_0 : decode cX10_of 0 = .ok (.aload_n 0, 1) := by decide +kernel
theorem dX10_of_1 : decode cX10_of 1 = .ok (.getfield 9, 3) := by decide +kernel
theorem dX10_of_4 : decode cX10_of 4 = .ok (.bipush 10, 2) := by decide +kernel
theorem dX10_of_6 : decode cX10_of 6 = .ok (.iconst 4, 1) := by decide +kernel
theorem dX10_of_7 : decode cX10_of 7 = .ok (.iload_n 1, 1) := by decide +kernel
theorem dX10_of_8 : decode cX10_of 8 = .ok (.imul, 1) := by decide +kernel
theorem dX10_of_9 : decode cX10_of 9 = .ok (.iadd, 1) := by decide +kernel
theorem dX10_of_10 : decode cX10_of 10 = .ok (.iload_n 2, 1) := by decide +kernel
theorem dX10_of_11 : decode cX10_of 11 = .ok (.iadd, 1) := by decide +kernel
theorem dX10_of_12 : decode cX10_of 12 = .ok (.iaload, 1) := by decide +kernel
theorem dX10_of_13 : decode cX10_of 13 = .ok (.ireturn, 1) := by decide +kernel
set_option maxHeartbeats 4000000 in
set_option maxRecDepth 100000 in
theorem c_X10_of (g : xG) (l : Launch) (b : Nat → Nat) (m : MdT) (s : (Nat → Int32)) (x1 : Int32) (x2 : Int32) {u : Int32} (hf : f_X10_of m s x1 x2 = some u) : ConD g l yX10_of cX10_of 3 (some .int) ({ frames := 0, cells := 0, slots := 0, locals := 0 } : Room) [.ref (b 0), .int x1, .int x2] [mdO g b m, iaW g (b 1) 110 s] (some (.int u)) [mdO g b m, iaW g (b 1) 110 s] := by
  unfold f_X10_of at hf
  refine Con_of [mdO g b m, iaW g (b 1) 110 s] [(0, .ref (b 0)), (1, .int x1), (2, .int x2)] rfl rfl (by decide) (Nat.le_of_ble_eq_true rfl) ?_
  intro pW eW sW mW argsW belowW methW c9 C hnm hr
  have C : CX g RX10 cX10_of 3 _ pW sW mW argsW methW c9 := C
  refine x_aload_n C dX10_of_0 rfl 0 rfl ?_
  refine x_get (ci := 11) (v := .ref (b 1)) (b := mdO g b m) C ixX10 rfl 0 (by decide) wd_1492 (fun _ h => h) 0 rfl 0 (mdO_at0 g b _) rfl dX10_of_1 ?_
  refine x_bipush (v := 10) C dX10_of_4 (by decide) ?_
  refine x_iconst (v := 4) C dX10_of_6 (by decide) ?_
  refine x_iload_n C dX10_of_7 rfl 1 rfl ?_
  refine x_imul C dX10_of_8 ?_
  refine x_iadd C dX10_of_9 ?_
  refine x_iload_n C dX10_of_10 rfl 2 rfl ?_
  refine x_iadd C dX10_of_11 ?_
  obtain ⟨h1, hf⟩ := x_n hf
  refine x_iald (b := iaW g (b 1) 110 s) C 1 rfl 0 (iaW_at0 g (b 1) 110 _) h1 dX10_of_12 ?_
  exact x_iret C hr ⟨by cases hf; rfl, by cases hf; rfl⟩ dX10_of_13
theorem dX10_sets_0 : decode cX10_sets 0 = .ok (.aload_n 0, 1) := by decide +kernel
theorem dX10_sets_1 : decode cX10_sets 1 = .ok (.getfield 9, 3) := by decide +kernel
theorem dX10_sets_4 : decode cX10_sets 4 = .ok (.bipush 10, 2) := by decide +kernel
theorem dX10_sets_6 : decode cX10_sets 6 = .ok (.iconst 4, 1) := by decide +kernel
theorem dX10_sets_7 : decode cX10_sets 7 = .ok (.iload_n 1, 1) := by decide +kernel
theorem dX10_sets_8 : decode cX10_sets 8 = .ok (.imul, 1) := by decide +kernel
theorem dX10_sets_9 : decode cX10_sets 9 = .ok (.iadd, 1) := by decide +kernel
theorem dX10_sets_10 : decode cX10_sets 10 = .ok (.iload_n 2, 1) := by decide +kernel
theorem dX10_sets_11 : decode cX10_sets 11 = .ok (.iadd, 1) := by decide +kernel
theorem dX10_sets_12 : decode cX10_sets 12 = .ok (.iload_n 3, 1) := by decide +kernel
theorem dX10_sets_13 : decode cX10_sets 13 = .ok (.iastore, 1) := by decide +kernel
theorem dX10_sets_14 : decode cX10_sets 14 = .ok (.return_, 1) := by decide +kernel
set_option maxHeartbeats 4000000 in
set_option maxRecDepth 100000 in
theorem c_X10_sets (g : xG) (l : Launch) (b : Nat → Nat) (m : MdT) (s : (Nat → Int32)) (x1 : Int32) (x2 : Int32) (x3 : Int32) {u : (Nat → Int32)} (hf : f_X10_sets m s x1 x2 x3 = some u) : ConD g l yX10_sets cX10_sets 4 none ({ frames := 0, cells := 0, slots := 0, locals := 0 } : Room) [.ref (b 0), .int x1, .int x2, .int x3] [mdO g b m, iaW g (b 1) 110 s] (none) [mdO g b m, iaW g (b 1) 110 u] := by
  unfold f_X10_sets at hf
  refine Con_of [mdO g b m, iaW g (b 1) 110 s] [(0, .ref (b 0)), (1, .int x1), (2, .int x2), (3, .int x3)] rfl rfl (by decide) (Nat.le_of_ble_eq_true rfl) ?_
  intro pW eW sW mW argsW belowW methW c9 C hnm hr
  have C : CX g RX10 cX10_sets 4 _ pW sW mW argsW methW c9 := C
  refine x_aload_n C dX10_sets_0 rfl 0 rfl ?_
  refine x_get (ci := 11) (v := .ref (b 1)) (b := mdO g b m) C ixX10 rfl 0 (by decide) wd_1492 (fun _ h => h) 0 rfl 0 (mdO_at0 g b _) rfl dX10_sets_1 ?_
  refine x_bipush (v := 10) C dX10_sets_4 (by decide) ?_
  refine x_iconst (v := 4) C dX10_sets_6 (by decide) ?_
  refine x_iload_n C dX10_sets_7 rfl 1 rfl ?_
  refine x_imul C dX10_sets_8 ?_
  refine x_iadd C dX10_sets_9 ?_
  refine x_iload_n C dX10_sets_10 rfl 2 rfl ?_
  refine x_iadd C dX10_sets_11 ?_
  refine x_iload_n C dX10_sets_12 rfl 3 rfl ?_
  obtain ⟨h1, hf⟩ := x_n hf
  refine x_iast (b := iaW g (b 1) 110 s) (b' := iaW g (b 1) 110 (upd s (((10 : Int32) + ((4 : Int32) * x1)) + x2).toNatClampNeg x3)) (wss' := [mdO g b m, iaW g (b 1) 110 (upd s (((10 : Int32) + ((4 : Int32) * x1)) + x2).toNatClampNeg x3)]) C 1 rfl 0 (iaW_at0 g (b 1) 110 _) h1 rfl rfl dX10_sets_13 ?_
  exact x_vret C hr ⟨by cases hf; rfl, by cases hf; rfl⟩ dX10_sets_14
theorem dX10_ofEvent_0 : decode cX10_ofEvent 0 = .ok (.aload_n 0, 1) := by decide +kernel
theorem dX10_ofEvent_1 : decode cX10_ofEvent 1 = .ok (.getfield 9, 3) := by decide +kernel
theorem dX10_ofEvent_4 : decode cX10_ofEvent 4 = .ok (.bipush 50, 2) := by decide +kernel
theorem dX10_ofEvent_6 : decode cX10_ofEvent 6 = .ok (.iconst 3, 1) := by decide +kernel
theorem dX10_ofEvent_7 : decode cX10_ofEvent 7 = .ok (.iload_n 1, 1) := by decide +kernel
theorem dX10_ofEvent_8 : decode cX10_ofEvent 8 = .ok (.imul, 1) := by decide +kernel
theorem dX10_ofEvent_9 : decode cX10_ofEvent 9 = .ok (.iadd, 1) := by decide +kernel
theorem dX10_ofEvent_10 : decode cX10_ofEvent 10 = .ok (.iload_n 2, 1) := by decide +kernel
theorem dX10_ofEvent_11 : decode cX10_ofEvent 11 = .ok (.iadd, 1) := by decide +kernel
theorem dX10_ofEvent_12 : decode cX10_ofEvent 12 = .ok (.iaload, 1) := by decide +kernel
theorem dX10_ofEvent_13 : decode cX10_ofEvent 13 = .ok (.ireturn, 1) := by decide +kernel
set_option maxHeartbeats 4000000 in
set_option maxRecDepth 100000 in
theorem c_X10_ofEvent (g : xG) (l : Launch) (b : Nat → Nat) (m : MdT) (s : (Nat → Int32)) (x1 : Int32) (x2 : Int32) {u : Int32} (hf : f_X10_ofEvent m s x1 x2 = some u) : ConD g l yX10_ofEvent cX10_ofEvent 3 (some .int) ({ frames := 0, cells := 0, slots := 0, locals := 0 } : Room) [.ref (b 0), .int x1, .int x2] [mdO g b m, iaW g (b 1) 110 s] (some (.int u)) [mdO g b m, iaW g (b 1) 110 s] := by
  unfold f_X10_ofEvent at hf
  refine Con_of [mdO g b m, iaW g (b 1) 110 s] [(0, .ref (b 0)), (1, .int x1), (2, .int x2)] rfl rfl (by decide) (Nat.le_of_ble_eq_true rfl) ?_
  intro pW eW sW mW argsW belowW methW c9 C hnm hr
  have C : CX g RX10 cX10_ofEvent 3 _ pW sW mW argsW methW c9 := C
  refine x_aload_n C dX10_ofEvent_0 rfl 0 rfl ?_
  refine x_get (ci := 11) (v := .ref (b 1)) (b := mdO g b m) C ixX10 rfl 0 (by decide) wd_1492 (fun _ h => h) 0 rfl 0 (mdO_at0 g b _) rfl dX10_ofEvent_1 ?_
  refine x_bipush (v := 50) C dX10_ofEvent_4 (by decide) ?_
  refine x_iconst (v := 3) C dX10_ofEvent_6 (by decide) ?_
  refine x_iload_n C dX10_ofEvent_7 rfl 1 rfl ?_
  refine x_imul C dX10_ofEvent_8 ?_
  refine x_iadd C dX10_ofEvent_9 ?_
  refine x_iload_n C dX10_ofEvent_10 rfl 2 rfl ?_
  refine x_iadd C dX10_ofEvent_11 ?_
  obtain ⟨h1, hf⟩ := x_n hf
  refine x_iald (b := iaW g (b 1) 110 s) C 1 rfl 0 (iaW_at0 g (b 1) 110 _) h1 dX10_ofEvent_12 ?_
  exact x_iret C hr ⟨by cases hf; rfl, by cases hf; rfl⟩ dX10_ofEvent_13
theorem wd_1569 : Cond.methodLink RX10 51 yX10_isIn ∈ xTB := xTB_in 1569 (by decide +kernel) (by decide +kernel)
theorem wd_1570 : Cond.static yX10_isIn ∈ xTB := xTB_in 1570 (by decide +kernel) (by decide +kernel)
theorem wd_1571 : Cond.code yX10_isIn cX10_isIn 3 (some .boolean) ∈ xTB := xTB_in 1571 (by decide +kernel) (by decide +kernel)
theorem dX10_isCandle_0 : decode cX10_isCandle 0 = .ok (.iload_n 1, 1) := by decide +kernel
theorem dX10_isCandle_1 : decode cX10_isCandle 1 = .ok (.iconst 0, 1) := by decide +kernel
theorem dX10_isCandle_2 : decode cX10_isCandle 2 = .ok (.aload_n 0, 1) := by decide +kernel
theorem dX10_isCandle_3 : decode cX10_isCandle 3 = .ok (.getfield 9, 3) := by decide +kernel
theorem dX10_isCandle_6 : decode cX10_isCandle 6 = .ok (.iconst 3, 1) := by decide +kernel
theorem dX10_isCandle_7 : decode cX10_isCandle 7 = .ok (.iaload, 1) := by decide +kernel
theorem dX10_isCandle_8 : decode cX10_isCandle 8 = .ok (.iconst 1, 1) := by decide +kernel
theorem dX10_isCandle_9 : decode cX10_isCandle 9 = .ok (.isub, 1) := by decide +kernel
theorem dX10_isCandle_10 : decode cX10_isCandle 10 = .ok (.invokestatic 51, 3) := by decide +kernel
theorem dX10_isCandle_13 : decode cX10_isCandle 13 = .ok (.ireturn, 1) := by decide +kernel
set_option maxHeartbeats 4000000 in
set_option maxRecDepth 100000 in
theorem c_X10_isCandle (g : xG) (l : Launch) (b : Nat → Nat) (m : MdT) (s : (Nat → Int32)) (x1 : Int32) {u : Int32} (hf : f_X10_isCandle m s x1 = some u) : ConD g l yX10_isCandle cX10_isCandle 2 (some .boolean) ({ frames := 1, cells := 0, slots := 0, locals := 22 } : Room) [.ref (b 0), .int x1] [mdO g b m, iaW g (b 1) 110 s] (some (.int u)) [mdO g b m, iaW g (b 1) 110 s] := by
  unfold f_X10_isCandle at hf
  refine Con_of [mdO g b m, iaW g (b 1) 110 s] [(0, .ref (b 0)), (1, .int x1)] rfl rfl (by decide) (Nat.le_of_ble_eq_true rfl) ?_
  intro pW eW sW mW argsW belowW methW c9 C hnm hr
  have C : CX g RX10 cX10_isCandle 2 _ pW sW mW argsW methW c9 := C
  refine x_iload_n C dX10_isCandle_0 rfl 1 rfl ?_
  refine x_iconst (v := 0) C dX10_isCandle_1 (by decide) ?_
  refine x_aload_n C dX10_isCandle_2 rfl 0 rfl ?_
  refine x_get (ci := 11) (v := .ref (b 1)) (b := mdO g b m) C ixX10 rfl 0 (by decide) wd_1492 (fun _ h => h) 0 rfl 0 (mdO_at0 g b _) rfl dX10_isCandle_3 ?_
  refine x_iconst (v := 3) C dX10_isCandle_6 (by decide) ?_
  obtain ⟨h1, hf⟩ := x_n hf
  refine x_iald (b := iaW g (b 1) 110 s) C 1 rfl 0 (iaW_at0 g (b 1) 110 _) h1 dX10_isCandle_7 ?_
  refine x_iconst (v := 1) C dX10_isCandle_8 (by decide) ?_
  refine x_isub C dX10_isCandle_9 ?_
  obtain ⟨u2, hu2, hf⟩ := x_b hf
  refine x_callS (n := 3) (As := [.int x1, .int (0 : Int32), .int ((s (3 : Int32).toNatClampNeg) - (1 : Int32))]) (rest := []) C (c_X10_isIn g l x1 (0 : Int32) ((s (3 : Int32).toNatClampNeg) - (1 : Int32)) hu2) ⟨⟨wd_1571, wd_1569, wd_78⟩, ⟨by decide, by decide, by decide⟩, rfl, rfl, Nat.le_of_ble_eq_true rfl, Nat.le_of_ble_eq_true rfl⟩ wd_1570 [mdO g b m, iaW g (b 1) 110 s] (x_pickD [0, 1] 2 rfl rfl rfl) rfl rfl (Nat.le_of_ble_eq_true rfl) ⟨Nat.le_of_ble_eq_true rfl, Nat.le_of_ble_eq_true rfl⟩ dX10_isCandle_10 (x_goD (wss2 := [mdO g b m, iaW g (b 1) 110 s]) (stk2 := [.int u2]) rfl rfl ?_)
  obtain ⟨h3, hf⟩ := x_y hf
  exact x_zret C hr (x_narZ h3).1 ⟨by cases hf; rfl, by cases hf; rfl⟩ dX10_isCandle_13
theorem dX10_isVoice_0 : decode cX10_isVoice 0 = .ok (.iload_n 0, 1) := by decide +kernel
theorem dX10_isVoice_1 : decode cX10_isVoice 1 = .ok (.bipush 115, 2) := by decide +kernel
theorem dX10_isVoice_3 : decode cX10_isVoice 3 = .ok (.if_icmp .eq 21, 3) := by decide +kernel
theorem dX10_isVoice_6 : decode cX10_isVoice 6 = .ok (.iload_n 0, 1) := by decide +kernel
theorem dX10_isVoice_7 : decode cX10_isVoice 7 = .ok (.bipush 97, 2) := by decide +kernel
theorem dX10_isVoice_9 : decode cX10_isVoice 9 = .ok (.if_icmp .eq 15, 3) := by decide +kernel
theorem dX10_isVoice_12 : decode cX10_isVoice 12 = .ok (.iload_n 0, 1) := by decide +kernel
theorem dX10_isVoice_13 : decode cX10_isVoice 13 = .ok (.bipush 116, 2) := by decide +kernel
theorem dX10_isVoice_15 : decode cX10_isVoice 15 = .ok (.if_icmp .eq 9, 3) := by decide +kernel
theorem dX10_isVoice_18 : decode cX10_isVoice 18 = .ok (.iload_n 0, 1) := by decide +kernel
theorem dX10_isVoice_19 : decode cX10_isVoice 19 = .ok (.bipush 98, 2) := by decide +kernel
theorem dX10_isVoice_21 : decode cX10_isVoice 21 = .ok (.if_icmp .ne 7, 3) := by decide +kernel
theorem dX10_isVoice_24 : decode cX10_isVoice 24 = .ok (.iconst 1, 1) := by decide +kernel
theorem dX10_isVoice_25 : decode cX10_isVoice 25 = .ok (.goto 4, 3) := by decide +kernel
theorem dX10_isVoice_28 : decode cX10_isVoice 28 = .ok (.iconst 0, 1) := by decide +kernel
theorem dX10_isVoice_29 : decode cX10_isVoice 29 = .ok (.ireturn, 1) := by decide +kernel
set_option maxHeartbeats 4000000 in
set_option maxRecDepth 100000 in
theorem c_X10_isVoice (g : xG) (l : Launch)   (x0 : Int32) {u : Int32} (hf : f_X10_isVoice x0 = some u) : ConD g l yX10_isVoice cX10_isVoice 1 (some .boolean) ({ frames := 0, cells := 0, slots := 0, locals := 0 } : Room) [.int x0] [] (some (.int u)) [] := by
  unfold f_X10_isVoice at hf
  refine Con_of [] [(0, .int x0)] rfl rfl (by decide) (Nat.le_of_ble_eq_true rfl) ?_
  intro pW eW sW mW argsW belowW methW c9 C hnm hr
  have C : CX g RX10 cX10_isVoice 1 _ pW sW mW argsW methW c9 := C
  refine x_iload_n C dX10_isVoice_0 rfl 0 rfl ?_
  refine x_bipush (v := 115) C dX10_isVoice_1 (by decide) ?_
  refine x_icmp_eq (tgt := 24) C dX10_isVoice_3 (by decide) (fun h1 => ?_) (fun h1 => ?_)
  · have hf := x_t h1 hf
    refine x_iconst (v := 1) C dX10_isVoice_24 (by decide) ?_
    refine x_goto (tgt := 29) C dX10_isVoice_25 (by decide) ?_
    exact x_zret C hr rfl ⟨by cases hf; rfl, by cases hf; rfl⟩ dX10_isVoice_29
  · have hf := x_f h1 hf
    refine x_iload_n C dX10_isVoice_6 rfl 0 rfl ?_
    refine x_bipush (v := 97) C dX10_isVoice_7 (by decide) ?_
    refine x_icmp_eq (tgt := 24) C dX10_isVoice_9 (by decide) (fun h2 => ?_) (fun h2 => ?_)
    · have hf := x_t h2 hf
      refine x_iconst (v := 1) C dX10_isVoice_24 (by decide) ?_
      refine x_goto (tgt := 29) C dX10_isVoice_25 (by decide) ?_
      exact x_zret C hr rfl ⟨by cases hf; rfl, by cases hf; rfl⟩ dX10_isVoice_29
    · have hf := x_f h2 hf
      refine x_iload_n C dX10_isVoice_12 rfl 0 rfl ?_
      refine x_bipush (v := 116) C dX10_isVoice_13 (by decide) ?_
      refine x_icmp_eq (tgt := 24) C dX10_isVoice_15 (by decide) (fun h3 => ?_) (fun h3 => ?_)
      · have hf := x_t h3 hf
        refine x_iconst (v := 1) C dX10_isVoice_24 (by decide) ?_
        refine x_goto (tgt := 29) C dX10_isVoice_25 (by decide) ?_
        exact x_zret C hr rfl ⟨by cases hf; rfl, by cases hf; rfl⟩ dX10_isVoice_29
      · have hf := x_f h3 hf
        refine x_iload_n C dX10_isVoice_18 rfl 0 rfl ?_
        refine x_bipush (v := 98) C dX10_isVoice_19 (by decide) ?_
        refine x_icmp_ne (tgt := 28) C dX10_isVoice_21 (by decide) (fun h4 => ?_) (fun h4 => ?_)
        · have hf := x_f h4 hf
          refine x_iconst (v := 0) C dX10_isVoice_28 (by decide) ?_
          exact x_zret C hr rfl ⟨by cases hf; rfl, by cases hf; rfl⟩ dX10_isVoice_29
        · have hf := x_t h4 hf
          refine x_iconst (v := 1) C dX10_isVoice_24 (by decide) ?_
          refine x_goto (tgt := 29) C dX10_isVoice_25 (by decide) ?_
          exact x_zret C hr rfl ⟨by cases hf; rfl, by cases hf; rfl⟩ dX10_isVoice_29
theorem wd_31 : Cond.selects yX10_of.cls yX10_of yX10_of ∈ xTB := xTB_in 31 (by decide +kernel) (by decide +kernel)
theorem wd_1596 : Cond.methodLink RX10 55 yX10_of ∈ xTB := xTB_in 1596 (by decide +kernel) (by decide +kernel)
theorem wd_1598 : Cond.instanceMethod yX10_of ∈ xTB := xTB_in 1598 (by decide +kernel) (by decide +kernel)
theorem wd_1599 : Cond.code yX10_of cX10_of 3 (some .int) ∈ xTB := xTB_in 1599 (by decide +kernel) (by decide +kernel)
theorem dX10_burns_0 : decode cX10_burns 0 = .ok (.aload_n 0, 1) := by decide +kernel
theorem dX10_burns_1 : decode cX10_burns 1 = .ok (.iload_n 1, 1) := by decide +kernel
theorem dX10_burns_2 : decode cX10_burns 2 = .ok (.iconst 2, 1) := by decide +kernel
theorem dX10_burns_3 : decode cX10_burns 3 = .ok (.invokevirtual 55, 3) := by decide +kernel
theorem dX10_burns_6 : decode cX10_burns 6 = .ok (.aload_n 0, 1) := by decide +kernel
theorem dX10_burns_7 : decode cX10_burns 7 = .ok (.getfield 9, 3) := by decide +kernel
theorem dX10_burns_10 : decode cX10_burns 10 = .ok (.iconst 1, 1) := by decide +kernel
theorem dX10_burns_11 : decode cX10_burns 11 = .ok (.iaload, 1) := by decide +kernel
theorem dX10_burns_12 : decode cX10_burns 12 = .ok (.iadd, 1) := by decide +kernel
theorem dX10_burns_13 : decode cX10_burns 13 = .ok (.ireturn, 1) := by decide +kernel
set_option maxHeartbeats 4000000 in
set_option maxRecDepth 100000 in
theorem c_X10_burns (g : xG) (l : Launch) (b : Nat → Nat) (m : MdT) (s : (Nat → Int32)) (x1 : Int32) {u : Int32} (hf : f_X10_burns m s x1 = some u) : ConD g l yX10_burns cX10_burns 2 (some .int) ({ frames := 1, cells := 0, slots := 0, locals := 22 } : Room) [.ref (b 0), .int x1] [mdO g b m, iaW g (b 1) 110 s] (some (.int u)) [mdO g b m, iaW g (b 1) 110 s] := by
  unfold f_X10_burns at hf
  refine Con_of [mdO g b m, iaW g (b 1) 110 s] [(0, .ref (b 0)), (1, .int x1)] rfl rfl (by decide) (Nat.le_of_ble_eq_true rfl) ?_
  intro pW eW sW mW argsW belowW methW c9 C hnm hr
  have C : CX g RX10 cX10_burns 2 _ pW sW mW argsW methW c9 := C
  refine x_aload_n C dX10_burns_0 rfl 0 rfl ?_
  refine x_iload_n C dX10_burns_1 rfl 1 rfl ?_
  refine x_iconst (v := 2) C dX10_burns_2 (by decide) ?_
  obtain ⟨u1, hu1, hf⟩ := x_b hf
  refine x_callV (n := 2) (As := [.int x1, .int (2 : Int32)]) (rest := []) C (c_X10_of g l b m s x1 (2 : Int32) hu1) ⟨⟨wd_1599, wd_1596, wd_78⟩, ⟨by decide, by decide, by decide⟩, rfl, rfl, Nat.le_of_ble_eq_true rfl, Nat.le_of_ble_eq_true rfl⟩ wd_1598 wd_31 ⟨0, 11, _, _, rfl, rfl, rfl⟩ [] (x_pickD [0, 1] 2 rfl rfl rfl) rfl rfl (Nat.le_of_ble_eq_true rfl) ⟨Nat.le_of_ble_eq_true rfl, Nat.le_of_ble_eq_true rfl⟩ dX10_burns_3 (x_goD (wss2 := [mdO g b m, iaW g (b 1) 110 s]) (stk2 := [.int u1]) rfl rfl ?_)
  refine x_aload_n C dX10_burns_6 rfl 0 rfl ?_
  refine x_get (ci := 11) (v := .ref (b 1)) (b := mdO g b m) C ixX10 rfl 0 (by decide) wd_1492 (fun _ h => h) 0 rfl 0 (mdO_at0 g b _) rfl dX10_burns_7 ?_
  refine x_iconst (v := 1) C dX10_burns_10 (by decide) ?_
  obtain ⟨h2, hf⟩ := x_n hf
  refine x_iald (b := iaW g (b 1) 110 s) C 1 rfl 0 (iaW_at0 g (b 1) 110 _) h2 dX10_burns_11 ?_
  refine x_iadd C dX10_burns_12 ?_
  exact x_iret C hr ⟨by cases hf; rfl, by cases hf; rfl⟩ dX10_burns_13
theorem dX10_lit_0 : decode cX10_lit 0 = .ok (.iconst 0, 1) := by decide +kernel
theorem dX10_lit_1 : decode cX10_lit 1 = .ok (.istore_n 1, 1) := by decide +kernel
theorem dX10_lit_2 : decode cX10_lit 2 = .ok (.iconst 0, 1) := by decide +kernel
theorem dX10_lit_3 : decode cX10_lit 3 = .ok (.istore_n 2, 1) := by decide +kernel
theorem dX10_lit_4 : decode cX10_lit 4 = .ok (.iload_n 2, 1) := by decide +kernel
theorem dX10_lit_5 : decode cX10_lit 5 = .ok (.aload_n 0, 1) := by decide +kernel
theorem dX10_lit_6 : decode cX10_lit 6 = .ok (.getfield 9, 3) := by decide +kernel
theorem dX10_lit_9 : decode cX10_lit 9 = .ok (.iconst 3, 1) := by decide +kernel
theorem dX10_lit_10 : decode cX10_lit 10 = .ok (.iaload, 1) := by decide +kernel
theorem dX10_lit_11 : decode cX10_lit 11 = .ok (.if_icmp .ge 18, 3) := by decide +kernel
theorem dX10_lit_14 : decode cX10_lit 14 = .ok (.iload_n 1, 1) := by decide +kernel
theorem dX10_lit_15 : decode cX10_lit 15 = .ok (.aload_n 0, 1) := by decide +kernel
theorem dX10_lit_16 : decode cX10_lit 16 = .ok (.iload_n 2, 1) := by decide +kernel
theorem dX10_lit_17 : decode cX10_lit 17 = .ok (.iconst 3, 1) := by decide +kernel
theorem dX10_lit_18 : decode cX10_lit 18 = .ok (.invokevirtual 55, 3) := by decide +kernel
theorem dX10_lit_21 : decode cX10_lit 21 = .ok (.iadd, 1) := by decide +kernel
theorem dX10_lit_22 : decode cX10_lit 22 = .ok (.istore_n 1, 1) := by decide +kernel
theorem dX10_lit_23 : decode cX10_lit 23 = .ok (.iinc 2 1, 3) := by decide +kernel
theorem dX10_lit_26 : decode cX10_lit 26 = .ok (.goto (-22), 3) := by decide +kernel
theorem dX10_lit_29 : decode cX10_lit 29 = .ok (.iload_n 1, 1) := by decide +kernel
theorem dX10_lit_30 : decode cX10_lit 30 = .ok (.ireturn, 1) := by decide +kernel
set_option maxHeartbeats 4000000 in
set_option maxRecDepth 100000 in
theorem c_X10_lit (g : xG) (l : Launch) (b : Nat → Nat) (m : MdT) (s : (Nat → Int32))  {u : Int32} (hf : f_X10_lit m s = some u) : ConD g l yX10_lit cX10_lit 3 (some .int) ({ frames := 1, cells := 0, slots := 0, locals := 22 } : Room) [.ref (b 0)] [mdO g b m, iaW g (b 1) 110 s] (some (.int u)) [mdO g b m, iaW g (b 1) 110 s] := by
  unfold f_X10_lit at hf
  refine Con_of [mdO g b m, iaW g (b 1) 110 s] [(0, .ref (b 0))] rfl rfl (by decide) (Nat.le_of_ble_eq_true rfl) ?_
  intro pW eW sW mW argsW belowW methW c9 C hnm hr
  have C : CX g RX10 cX10_lit 3 _ pW sW mW argsW methW c9 := C
  have hL4 : ∀ (nW : Nat) (x1 : Int32) (x2 : Int32), f_X10_lit_4 nW m s x1 x2 = some u → VW g (va_A ([mdO g b m, iaW g (b 1) 110 s] : List va_W).flatten sW.heap.size) 3 pW l eW ({ frames := 1, cells := 0, slots := 0, locals := 22 } : Room) sW mW argsW belowW methW c9 0 0 (MQ belowW (xQc g ([mdO g b m, iaW g (b 1) 110 s] : List va_W).flatten sW.heap.size (fun v9 w9 => v9 = some (.int u) ∧ w9 = ([mdO g b m, iaW g (b 1) 110 s] : List va_W).flatten)) argsW sW 0 0 (va_A ([mdO g b m, iaW g (b 1) 110 s] : List va_W).flatten sW.heap.size)) [mdO g b m, iaW g (b 1) 110 s] [(0, .ref (b 0)), (1, .int x1), (2, .int x2)] 4 [] := by
    intro nW
    induction nW with
    | zero => intro x1 x2 hf; rw [f_X10_lit_4] at hf; cases hf
    | succ nW ih =>
      intro x1 x2 hf
      rw [f_X10_lit_4] at hf
      refine x_iload_n C dX10_lit_4 rfl 2 rfl ?_
      refine x_aload_n C dX10_lit_5 rfl 0 rfl ?_
      refine x_get (ci := 11) (v := .ref (b 1)) (b := mdO g b m) C ixX10 rfl 0 (by decide) wd_1492 (fun _ h => h) 0 rfl 0 (mdO_at0 g b _) rfl dX10_lit_6 ?_
      refine x_iconst (v := 3) C dX10_lit_9 (by decide) ?_
      obtain ⟨h1, hf⟩ := x_n hf
      refine x_iald (b := iaW g (b 1) 110 s) C 1 rfl 0 (iaW_at0 g (b 1) 110 _) h1 dX10_lit_10 ?_
      refine x_icmp_ge (tgt := 29) C dX10_lit_11 (by decide) (fun h2 => ?_) (fun h2 => ?_)
      · have hf := x_t h2 hf
        refine x_iload_n C dX10_lit_29 rfl 1 rfl ?_
        exact x_iret C hr ⟨by cases hf; rfl, by cases hf; rfl⟩ dX10_lit_30
      · have hf := x_f h2 hf
        refine x_iload_n C dX10_lit_14 rfl 1 rfl ?_
        refine x_aload_n C dX10_lit_15 rfl 0 rfl ?_
        refine x_iload_n C dX10_lit_16 rfl 2 rfl ?_
        refine x_iconst (v := 3) C dX10_lit_17 (by decide) ?_
        obtain ⟨u3, hu3, hf⟩ := x_b hf
        refine x_callV (n := 2) (As := [.int x2, .int (3 : Int32)]) (rest := [.int x1]) C (c_X10_of g l b m s x2 (3 : Int32) hu3) ⟨⟨wd_1599, wd_1596, wd_78⟩, ⟨by decide, by decide, by decide⟩, rfl, rfl, Nat.le_of_ble_eq_true rfl, Nat.le_of_ble_eq_true rfl⟩ wd_1598 wd_31 ⟨0, 11, _, _, rfl, rfl, rfl⟩ [] (x_pickD [0, 1] 2 rfl rfl rfl) rfl rfl (Nat.le_of_ble_eq_true rfl) ⟨Nat.le_of_ble_eq_true rfl, Nat.le_of_ble_eq_true rfl⟩ dX10_lit_18 (x_goD (wss2 := [mdO g b m, iaW g (b 1) 110 s]) (stk2 := [.int u3, .int x1]) rfl rfl ?_)
        refine x_iadd C dX10_lit_21 ?_
        refine x_istore_n (lv' := [(1, .int (x1 + u3)), (0, .ref (b 0)), (2, .int x2)]) C dX10_lit_22 rfl (by decide) rfl ?_
        refine x_iinc (v := x2 + 1) (lv' := [(2, .int (x2 + 1)), (1, .int (x1 + u3)), (0, .ref (b 0))]) C dX10_lit_23 2 rfl rfl (by decide) rfl ?_
        refine x_goto (tgt := 4) C dX10_lit_26 (by decide) ?_
        refine x_locals (lv' := [(0, .ref (b 0)), (1, .int (x1 + u3)), (2, .int (x2 + 1))]) [2, 1, 0] rfl ?_
        exact ih (x1 + u3) (x2 + 1) hf
  refine x_iconst (v := 0) C dX10_lit_0 (by decide) ?_
  refine x_istore_n (lv' := [(1, .int (0 : Int32)), (0, .ref (b 0))]) C dX10_lit_1 rfl (by decide) rfl ?_
  refine x_iconst (v := 0) C dX10_lit_2 (by decide) ?_
  refine x_istore_n (lv' := [(2, .int (0 : Int32)), (1, .int (0 : Int32)), (0, .ref (b 0))]) C dX10_lit_3 rfl (by decide) rfl ?_
  refine x_locals (lv' := [(0, .ref (b 0)), (1, .int (0 : Int32)), (2, .int (0 : Int32))]) [2, 1, 0] rfl ?_
  exact hL4 xFuel (0 : Int32) (0 : Int32) hf
theorem wd_26 : Cond.selects yX10_isThrown.cls yX10_isThrown yX10_isThrown ∈ xTB := xTB_in 26 (by decide +kernel) (by decide +kernel)
theorem wd_27 : Cond.selects yX10_sets.cls yX10_sets yX10_sets ∈ xTB := xTB_in 27 (by decide +kernel) (by decide +kernel)
theorem wd_1566 : Cond.methodLink RX10 59 yX10_isVoice ∈ xTB := xTB_in 1566 (by decide +kernel) (by decide +kernel)
theorem wd_1567 : Cond.static yX10_isVoice ∈ xTB := xTB_in 1567 (by decide +kernel) (by decide +kernel)
theorem wd_1568 : Cond.code yX10_isVoice cX10_isVoice 1 (some .boolean) ∈ xTB := xTB_in 1568 (by decide +kernel) (by decide +kernel)
theorem wd_1572 : Cond.methodLink RX10 63 yX10_isThrown ∈ xTB := xTB_in 1572 (by decide +kernel) (by decide +kernel)
theorem wd_1574 : Cond.instanceMethod yX10_isThrown ∈ xTB := xTB_in 1574 (by decide +kernel) (by decide +kernel)
theorem wd_1575 : Cond.code yX10_isThrown cX10_isThrown 3 (some .boolean) ∈ xTB := xTB_in 1575 (by decide +kernel) (by decide +kernel)
theorem wd_1576 : Cond.methodLink RX10 67 yX10_sets ∈ xTB := xTB_in 1576 (by decide +kernel) (by decide +kernel)
theorem wd_1578 : Cond.instanceMethod yX10_sets ∈ xTB := xTB_in 1578 (by decide +kernel) (by decide +kernel)
theorem wd_1579 : Cond.code yX10_sets cX10_sets 4 none ∈ xTB := xTB_in 1579 (by decide +kernel) (by decide +kernel)
theorem dX10_adds_0 : decode cX10_adds 0 = .ok (.aload_n 0, 1) := by decide +kernel
theorem dX10_adds_1 : decode cX10_adds 1 = .ok (.iload_n 1, 1) := by decide +kernel
theorem dX10_adds_2 : decode cX10_adds 2 = .ok (.invokestatic 59, 3) := by decide +kernel
theorem dX10_adds_5 : decode cX10_adds 5 = .ok (.ifCond .eq 24, 3) := by decide +kernel
theorem dX10_adds_8 : decode cX10_adds 8 = .ok (.iload_n 2, 1) := by decide +kernel
theorem dX10_adds_9 : decode cX10_adds 9 = .ok (.iconst 1, 1) := by decide +kernel
theorem dX10_adds_10 : decode cX10_adds 10 = .ok (.sipush 999, 3) := by decide +kernel
theorem dX10_adds_13 : decode cX10_adds 13 = .ok (.invokestatic 51, 3) := by decide +kernel
theorem dX10_adds_16 : decode cX10_adds 16 = .ok (.ifCond .eq 13, 3) := by decide +kernel
theorem dX10_adds_19 : decode cX10_adds 19 = .ok (.iload_n 3, 1) := by decide +kernel
theorem dX10_adds_20 : decode cX10_adds 20 = .ok (.iconst 1, 1) := by decide +kernel
theorem dX10_adds_21 : decode cX10_adds 21 = .ok (.bipush 9, 2) := by decide +kernel
theorem dX10_adds_23 : decode cX10_adds 23 = .ok (.invokestatic 51, 3) := by decide +kernel
theorem dX10_adds_26 : decode cX10_adds 26 = .ok (.ifCond .ne 7, 3) := by decide +kernel
theorem dX10_adds_29 : decode cX10_adds 29 = .ok (.iconst 1, 1) := by decide +kernel
theorem dX10_adds_30 : decode cX10_adds 30 = .ok (.goto 4, 3) := by decide +kernel
theorem dX10_adds_33 : decode cX10_adds 33 = .ok (.iconst 0, 1) := by decide +kernel
theorem dX10_adds_34 : decode cX10_adds 34 = .ok (.iconst 1, 1) := by decide +kernel
theorem dX10_adds_35 : decode cX10_adds 35 = .ok (.invokevirtual 63, 3) := by decide +kernel
theorem dX10_adds_38 : decode cX10_adds 38 = .ok (.ifCond .ne 27, 3) := by decide +kernel
theorem dX10_adds_41 : decode cX10_adds 41 = .ok (.aload_n 0, 1) := by decide +kernel
theorem dX10_adds_42 : decode cX10_adds 42 = .ok (.aload_n 0, 1) := by decide +kernel
theorem dX10_adds_43 : decode cX10_adds 43 = .ok (.getfield 9, 3) := by decide +kernel
theorem dX10_adds_46 : decode cX10_adds 46 = .ok (.iconst 3, 1) := by decide +kernel
theorem dX10_adds_47 : decode cX10_adds 47 = .ok (.iaload, 1) := by decide +kernel
theorem dX10_adds_48 : decode cX10_adds 48 = .ok (.bipush 10, 2) := by decide +kernel
theorem dX10_adds_50 : decode cX10_adds 50 = .ok (.if_icmp .ne 7, 3) := by decide +kernel
theorem dX10_adds_53 : decode cX10_adds 53 = .ok (.iconst 1, 1) := by decide +kernel
theorem dX10_adds_54 : decode cX10_adds 54 = .ok (.goto 4, 3) := by decide +kernel
theorem dX10_adds_57 : decode cX10_adds 57 = .ok (.iconst 0, 1) := by decide +kernel
theorem dX10_adds_58 : decode cX10_adds 58 = .ok (.iconst 2, 1) := by decide +kernel
theorem dX10_adds_59 : decode cX10_adds 59 = .ok (.invokevirtual 63, 3) := by decide +kernel
theorem dX10_adds_62 : decode cX10_adds 62 = .ok (.ifCond .eq 5, 3) := by decide +kernel
theorem dX10_adds_65 : decode cX10_adds 65 = .ok (.iconst 0, 1) := by decide +kernel
theorem dX10_adds_66 : decode cX10_adds 66 = .ok (.ireturn, 1) := by decide +kernel
theorem dX10_adds_67 : decode cX10_adds 67 = .ok (.aload_n 0, 1) := by decide +kernel
theorem dX10_adds_68 : decode cX10_adds 68 = .ok (.getfield 9, 3) := by decide +kernel
theorem dX10_adds_71 : decode cX10_adds 71 = .ok (.iconst 3, 1) := by decide +kernel
theorem dX10_adds_72 : decode cX10_adds 72 = .ok (.iaload, 1) := by decide +kernel
theorem dX10_adds_73 : decode cX10_adds 73 = .ok (.istore 4, 2) := by decide +kernel
theorem dX10_adds_75 : decode cX10_adds 75 = .ok (.aload_n 0, 1) := by decide +kernel
theorem dX10_adds_76 : decode cX10_adds 76 = .ok (.iload 4, 2) := by decide +kernel
theorem dX10_adds_78 : decode cX10_adds 78 = .ok (.iconst 0, 1) := by decide +kernel
theorem dX10_adds_79 : decode cX10_adds 79 = .ok (.iload_n 1, 1) := by decide +kernel
theorem dX10_adds_80 : decode cX10_adds 80 = .ok (.invokevirtual 67, 3) := by decide +kernel
theorem dX10_adds_83 : decode cX10_adds 83 = .ok (.aload_n 0, 1) := by decide +kernel
theorem dX10_adds_84 : decode cX10_adds 84 = .ok (.iload 4, 2) := by decide +kernel
theorem dX10_adds_86 : decode cX10_adds 86 = .ok (.iconst 1, 1) := by decide +kernel
theorem dX10_adds_87 : decode cX10_adds 87 = .ok (.iload_n 2, 1) := by decide +kernel
theorem dX10_adds_88 : decode cX10_adds 88 = .ok (.invokevirtual 67, 3) := by decide +kernel
theorem dX10_adds_91 : decode cX10_adds 91 = .ok (.aload_n 0, 1) := by decide +kernel
theorem dX10_adds_92 : decode cX10_adds 92 = .ok (.iload 4, 2) := by decide +kernel
theorem dX10_adds_94 : decode cX10_adds 94 = .ok (.iconst 2, 1) := by decide +kernel
theorem dX10_adds_95 : decode cX10_adds 95 = .ok (.iload_n 3, 1) := by decide +kernel
theorem dX10_adds_96 : decode cX10_adds 96 = .ok (.invokevirtual 67, 3) := by decide +kernel
theorem dX10_adds_99 : decode cX10_adds 99 = .ok (.aload_n 0, 1) := by decide +kernel
theorem dX10_adds_100 : decode cX10_adds 100 = .ok (.getfield 9, 3) := by decide +kernel
theorem dX10_adds_103 : decode cX10_adds 103 = .ok (.bipush 8, 2) := by decide +kernel
theorem dX10_adds_105 : decode cX10_adds 105 = .ok (.dup2, 1) := by decide +kernel
theorem dX10_adds_106 : decode cX10_adds 106 = .ok (.iaload, 1) := by decide +kernel
theorem dX10_adds_107 : decode cX10_adds 107 = .ok (.iload_n 2, 1) := by decide +kernel
theorem dX10_adds_108 : decode cX10_adds 108 = .ok (.iadd, 1) := by decide +kernel
theorem dX10_adds_109 : decode cX10_adds 109 = .ok (.iastore, 1) := by decide +kernel
theorem dX10_adds_110 : decode cX10_adds 110 = .ok (.aload_n 0, 1) := by decide +kernel
theorem dX10_adds_111 : decode cX10_adds 111 = .ok (.getfield 9, 3) := by decide +kernel
theorem dX10_adds_114 : decode cX10_adds 114 = .ok (.iconst 3, 1) := by decide +kernel
theorem dX10_adds_115 : decode cX10_adds 115 = .ok (.dup2, 1) := by decide +kernel
theorem dX10_adds_116 : decode cX10_adds 116 = .ok (.iaload, 1) := by decide +kernel
theorem dX10_adds_117 : decode cX10_adds 117 = .ok (.iconst 1, 1) := by decide +kernel
theorem dX10_adds_118 : decode cX10_adds 118 = .ok (.iadd, 1) := by decide +kernel
theorem dX10_adds_119 : decode cX10_adds 119 = .ok (.iastore, 1) := by decide +kernel
theorem dX10_adds_120 : decode cX10_adds 120 = .ok (.iload 4, 2) := by decide +kernel
theorem dX10_adds_122 : decode cX10_adds 122 = .ok (.ireturn, 1) := by decide +kernel
set_option maxHeartbeats 4000000 in
set_option maxRecDepth 100000 in
theorem c_X10_adds (g : xG) (l : Launch) (b : Nat → Nat) (m : MdT) (s : (Nat → Int32)) (x1 : Int32) (x2 : Int32) (x3 : Int32) {u : Int32 × MdT × (Nat → Int32)} (hf : f_X10_adds m s x1 x2 x3 = some u) : ConD g l yX10_adds cX10_adds 5 (some .int) ({ frames := 1, cells := 0, slots := 0, locals := 23 } : Room) [.ref (b 0), .int x1, .int x2, .int x3] [mdO g b m, iaW g (b 1) 110 s] (some (.int u.1)) [mdO g b u.2.1, iaW g (b 1) 110 u.2.2] := by
  unfold f_X10_adds at hf
  refine Con_of [mdO g b m, iaW g (b 1) 110 s] [(0, .ref (b 0)), (1, .int x1), (2, .int x2), (3, .int x3)] rfl rfl (by decide) (Nat.le_of_ble_eq_true rfl) ?_
  intro pW eW sW mW argsW belowW methW c9 C hnm hr
  have C : CX g RX10 cX10_adds 5 _ pW sW mW argsW methW c9 := C
  have hL58 : ∀ (mL : MdT) (sL : (Nat → Int32)) (x1 : Int32) (x2 : Int32) (x3 : Int32) (y0 : Int32), f_X10_adds_58 mL sL x1 x2 x3 y0 = some u → VW g (va_A ([mdO g b m, iaW g (b 1) 110 s] : List va_W).flatten sW.heap.size) 5 pW l eW ({ frames := 1, cells := 0, slots := 0, locals := 23 } : Room) sW mW argsW belowW methW c9 0 0 (MQ belowW (xQc g ([mdO g b m, iaW g (b 1) 110 s] : List va_W).flatten sW.heap.size (fun v9 w9 => v9 = some (.int u.1) ∧ w9 = ([mdO g b u.2.1, iaW g (b 1) 110 u.2.2] : List va_W).flatten)) argsW sW 0 0 (va_A ([mdO g b m, iaW g (b 1) 110 s] : List va_W).flatten sW.heap.size)) [mdO g b mL, iaW g (b 1) 110 sL] [(0, .ref (b 0)), (1, .int x1), (2, .int x2), (3, .int x3)] 58 [.int y0, .ref (b 0)] := by
    intro mL sL x1 x2 x3 y0 hf
    unfold f_X10_adds_58 at hf
    refine x_iconst (v := 2) C dX10_adds_58 (by decide) ?_
    obtain ⟨u1, hu1, hf⟩ := x_b hf
    refine x_callV (n := 2) (As := [.int y0, .int (2 : Int32)]) (rest := []) C (c_X10_isThrown g l b mL y0 (2 : Int32) hu1) ⟨⟨wd_1575, wd_1572, wd_78⟩, ⟨by decide, by decide, by decide⟩, rfl, rfl, Nat.le_of_ble_eq_true rfl, Nat.le_of_ble_eq_true rfl⟩ wd_1574 wd_26 ⟨0, 11, _, _, rfl, rfl, rfl⟩ [iaW g (b 1) 110 sL] (x_pickD [0, 1] 2 rfl rfl rfl) rfl rfl (Nat.le_of_ble_eq_true rfl) ⟨Nat.le_of_ble_eq_true rfl, Nat.le_of_ble_eq_true rfl⟩ dX10_adds_59 (x_goD (wss2 := [mdO g b u1.2, iaW g (b 1) 110 sL]) (stk2 := [.int u1.1]) rfl rfl ?_)
    refine x_if_eq (tgt := 67) C dX10_adds_62 (by decide) (fun h2 => ?_) (fun h2 => ?_)
    · have hf := x_t h2 hf
      refine x_aload_n C dX10_adds_67 rfl 0 rfl ?_
      refine x_get (ci := 11) (v := .ref (b 1)) (b := mdO g b u1.2) C ixX10 rfl 0 (by decide) wd_1492 (fun _ h => h) 0 rfl 0 (mdO_at0 g b _) rfl dX10_adds_68 ?_
      refine x_iconst (v := 3) C dX10_adds_71 (by decide) ?_
      obtain ⟨h3, hf⟩ := x_n hf
      refine x_iald (b := iaW g (b 1) 110 sL) C 1 rfl 0 (iaW_at0 g (b 1) 110 _) h3 dX10_adds_72 ?_
      refine x_istore (lv' := [(4, .int (sL (3 : Int32).toNatClampNeg)), (0, .ref (b 0)), (1, .int x1), (2, .int x2), (3, .int x3)]) C dX10_adds_73 (by decide) rfl ?_
      refine x_aload_n C dX10_adds_75 rfl 1 rfl ?_
      refine x_iload C dX10_adds_76 0 rfl ?_
      refine x_iconst (v := 0) C dX10_adds_78 (by decide) ?_
      refine x_iload_n C dX10_adds_79 rfl 2 rfl ?_
      obtain ⟨u4, hu4, hf⟩ := x_b hf
      refine x_callV (n := 3) (As := [.int (sL (3 : Int32).toNatClampNeg), .int (0 : Int32), .int x1]) (rest := []) C (c_X10_sets g l b u1.2 sL (sL (3 : Int32).toNatClampNeg) (0 : Int32) x1 hu4) ⟨⟨wd_1579, wd_1576, wd_78⟩, ⟨by decide, by decide, by decide⟩, rfl, rfl, Nat.le_of_ble_eq_true rfl, Nat.le_of_ble_eq_true rfl⟩ wd_1578 wd_27 ⟨0, 11, _, _, rfl, rfl, rfl⟩ [] (x_pickD [0, 1] 2 rfl rfl rfl) rfl rfl (Nat.le_of_ble_eq_true rfl) ⟨Nat.le_of_ble_eq_true rfl, Nat.le_of_ble_eq_true rfl⟩ dX10_adds_80 (x_goD (wss2 := [mdO g b u1.2, iaW g (b 1) 110 u4]) (stk2 := []) rfl rfl ?_)
      refine x_aload_n C dX10_adds_83 rfl 1 rfl ?_
      refine x_iload C dX10_adds_84 0 rfl ?_
      refine x_iconst (v := 1) C dX10_adds_86 (by decide) ?_
      refine x_iload_n C dX10_adds_87 rfl 3 rfl ?_
      obtain ⟨u5, hu5, hf⟩ := x_b hf
      refine x_callV (n := 3) (As := [.int (sL (3 : Int32).toNatClampNeg), .int (1 : Int32), .int x2]) (rest := []) C (c_X10_sets g l b u1.2 u4 (sL (3 : Int32).toNatClampNeg) (1 : Int32) x2 hu5) ⟨⟨wd_1579, wd_1576, wd_78⟩, ⟨by decide, by decide, by decide⟩, rfl, rfl, Nat.le_of_ble_eq_true rfl, Nat.le_of_ble_eq_true rfl⟩ wd_1578 wd_27 ⟨0, 11, _, _, rfl, rfl, rfl⟩ [] (x_pickD [0, 1] 2 rfl rfl rfl) rfl rfl (Nat.le_of_ble_eq_true rfl) ⟨Nat.le_of_ble_eq_true rfl, Nat.le_of_ble_eq_true rfl⟩ dX10_adds_88 (x_goD (wss2 := [mdO g b u1.2, iaW g (b 1) 110 u5]) (stk2 := []) rfl rfl ?_)
      refine x_aload_n C dX10_adds_91 rfl 1 rfl ?_
      refine x_iload C dX10_adds_92 0 rfl ?_
      refine x_iconst (v := 2) C dX10_adds_94 (by decide) ?_
      refine x_iload_n C dX10_adds_95 rfl 4 rfl ?_
      obtain ⟨u6, hu6, hf⟩ := x_b hf
      refine x_callV (n := 3) (As := [.int (sL (3 : Int32).toNatClampNeg), .int (2 : Int32), .int x3]) (rest := []) C (c_X10_sets g l b u1.2 u5 (sL (3 : Int32).toNatClampNeg) (2 : Int32) x3 hu6) ⟨⟨wd_1579, wd_1576, wd_78⟩, ⟨by decide, by decide, by decide⟩, rfl, rfl, Nat.le_of_ble_eq_true rfl, Nat.le_of_ble_eq_true rfl⟩ wd_1578 wd_27 ⟨0, 11, _, _, rfl, rfl, rfl⟩ [] (x_pickD [0, 1] 2 rfl rfl rfl) rfl rfl (Nat.le_of_ble_eq_true rfl) ⟨Nat.le_of_ble_eq_true rfl, Nat.le_of_ble_eq_true rfl⟩ dX10_adds_96 (x_goD (wss2 := [mdO g b u1.2, iaW g (b 1) 110 u6]) (stk2 := []) rfl rfl ?_)
      refine x_aload_n C dX10_adds_99 rfl 1 rfl ?_
      refine x_get (ci := 11) (v := .ref (b 1)) (b := mdO g b u1.2) C ixX10 rfl 0 (by decide) wd_1492 (fun _ h => h) 0 rfl 0 (mdO_at0 g b _) rfl dX10_adds_100 ?_
      refine x_bipush (v := 8) C dX10_adds_103 (by decide) ?_
      refine x_dup2_11 C dX10_adds_105 rfl rfl ?_
      obtain ⟨h7, hf⟩ := x_n hf
      refine x_iald (b := iaW g (b 1) 110 u6) C 1 rfl 0 (iaW_at0 g (b 1) 110 _) h7 dX10_adds_106 ?_
      refine x_iload_n C dX10_adds_107 rfl 3 rfl ?_
      refine x_iadd C dX10_adds_108 ?_
      obtain ⟨h8, hf⟩ := x_n hf
      refine x_iast (b := iaW g (b 1) 110 u6) (b' := iaW g (b 1) 110 (upd u6 (8 : Int32).toNatClampNeg ((u6 (8 : Int32).toNatClampNeg) + x2))) (wss' := [mdO g b u1.2, iaW g (b 1) 110 (upd u6 (8 : Int32).toNatClampNeg ((u6 (8 : Int32).toNatClampNeg) + x2))]) C 1 rfl 0 (iaW_at0 g (b 1) 110 _) h8 rfl rfl dX10_adds_109 ?_
      refine x_aload_n C dX10_adds_110 rfl 1 rfl ?_
      refine x_get (ci := 11) (v := .ref (b 1)) (b := mdO g b u1.2) C ixX10 rfl 0 (by decide) wd_1492 (fun _ h => h) 0 rfl 0 (mdO_at0 g b _) rfl dX10_adds_111 ?_
      refine x_iconst (v := 3) C dX10_adds_114 (by decide) ?_
      refine x_dup2_11 C dX10_adds_115 rfl rfl ?_
      obtain ⟨h9, hf⟩ := x_n hf
      refine x_iald (b := iaW g (b 1) 110 (upd u6 (8 : Int32).toNatClampNeg ((u6 (8 : Int32).toNatClampNeg) + x2))) C 1 rfl 0 (iaW_at0 g (b 1) 110 _) h9 dX10_adds_116 ?_
      refine x_iconst (v := 1) C dX10_adds_117 (by decide) ?_
      refine x_iadd C dX10_adds_118 ?_
      obtain ⟨h10, hf⟩ := x_n hf
      refine x_iast (b := iaW g (b 1) 110 (upd u6 (8 : Int32).toNatClampNeg ((u6 (8 : Int32).toNatClampNeg) + x2))) (b' := iaW g (b 1) 110 (upd (upd u6 (8 : Int32).toNatClampNeg ((u6 (8 : Int32).toNatClampNeg) + x2)) (3 : Int32).toNatClampNeg (((upd u6 (8 : Int32).toNatClampNeg ((u6 (8 : Int32).toNatClampNeg) + x2)) (3 : Int32).toNatClampNeg) + (1 : Int32)))) (wss' := [mdO g b u1.2, iaW g (b 1) 110 (upd (upd u6 (8 : Int32).toNatClampNeg ((u6 (8 : Int32).toNatClampNeg) + x2)) (3 : Int32).toNatClampNeg (((upd u6 (8 : Int32).toNatClampNeg ((u6 (8 : Int32).toNatClampNeg) + x2)) (3 : Int32).toNatClampNeg) + (1 : Int32)))]) C 1 rfl 0 (iaW_at0 g (b 1) 110 _) h10 rfl rfl dX10_adds_119 ?_
      refine x_iload C dX10_adds_120 0 rfl ?_
      exact x_iret C hr ⟨by cases hf; rfl, by cases hf; rfl⟩ dX10_adds_122
    · have hf := x_f h2 hf
      refine x_iconst (v := 0) C dX10_adds_65 (by decide) ?_
      exact x_iret C hr ⟨by cases hf; rfl, by cases hf; rfl⟩ dX10_adds_66
  have hL34 : ∀ (mL : MdT) (sL : (Nat → Int32)) (x1 : Int32) (x2 : Int32) (x3 : Int32) (y0 : Int32), f_X10_adds_34 mL sL x1 x2 x3 y0 = some u → VW g (va_A ([mdO g b m, iaW g (b 1) 110 s] : List va_W).flatten sW.heap.size) 5 pW l eW ({ frames := 1, cells := 0, slots := 0, locals := 23 } : Room) sW mW argsW belowW methW c9 0 0 (MQ belowW (xQc g ([mdO g b m, iaW g (b 1) 110 s] : List va_W).flatten sW.heap.size (fun v9 w9 => v9 = some (.int u.1) ∧ w9 = ([mdO g b u.2.1, iaW g (b 1) 110 u.2.2] : List va_W).flatten)) argsW sW 0 0 (va_A ([mdO g b m, iaW g (b 1) 110 s] : List va_W).flatten sW.heap.size)) [mdO g b mL, iaW g (b 1) 110 sL] [(0, .ref (b 0)), (1, .int x1), (2, .int x2), (3, .int x3)] 34 [.int y0, .ref (b 0)] := by
    intro mL sL x1 x2 x3 y0 hf
    unfold f_X10_adds_34 at hf
    refine x_iconst (v := 1) C dX10_adds_34 (by decide) ?_
    obtain ⟨u1, hu1, hf⟩ := x_b hf
    refine x_callV (n := 2) (As := [.int y0, .int (1 : Int32)]) (rest := []) C (c_X10_isThrown g l b mL y0 (1 : Int32) hu1) ⟨⟨wd_1575, wd_1572, wd_78⟩, ⟨by decide, by decide, by decide⟩, rfl, rfl, Nat.le_of_ble_eq_true rfl, Nat.le_of_ble_eq_true rfl⟩ wd_1574 wd_26 ⟨0, 11, _, _, rfl, rfl, rfl⟩ [iaW g (b 1) 110 sL] (x_pickD [0, 1] 2 rfl rfl rfl) rfl rfl (Nat.le_of_ble_eq_true rfl) ⟨Nat.le_of_ble_eq_true rfl, Nat.le_of_ble_eq_true rfl⟩ dX10_adds_35 (x_goD (wss2 := [mdO g b u1.2, iaW g (b 1) 110 sL]) (stk2 := [.int u1.1]) rfl rfl ?_)
    refine x_if_ne (tgt := 65) C dX10_adds_38 (by decide) (fun h2 => ?_) (fun h2 => ?_)
    · have hf := x_f h2 hf
      refine x_iconst (v := 0) C dX10_adds_65 (by decide) ?_
      exact x_iret C hr ⟨by cases hf; rfl, by cases hf; rfl⟩ dX10_adds_66
    · have hf := x_t h2 hf
      refine x_aload_n C dX10_adds_41 rfl 0 rfl ?_
      refine x_aload_n C dX10_adds_42 rfl 0 rfl ?_
      refine x_get (ci := 11) (v := .ref (b 1)) (b := mdO g b u1.2) C ixX10 rfl 0 (by decide) wd_1492 (fun _ h => h) 0 rfl 0 (mdO_at0 g b _) rfl dX10_adds_43 ?_
      refine x_iconst (v := 3) C dX10_adds_46 (by decide) ?_
      obtain ⟨h3, hf⟩ := x_n hf
      refine x_iald (b := iaW g (b 1) 110 sL) C 1 rfl 0 (iaW_at0 g (b 1) 110 _) h3 dX10_adds_47 ?_
      refine x_bipush (v := 10) C dX10_adds_48 (by decide) ?_
      refine x_icmp_ne (tgt := 57) C dX10_adds_50 (by decide) (fun h4 => ?_) (fun h4 => ?_)
      · have hf := x_f h4 hf
        refine x_iconst (v := 0) C dX10_adds_57 (by decide) ?_
        exact hL58 u1.2 sL x1 x2 x3 (0 : Int32) hf
      · have hf := x_t h4 hf
        refine x_iconst (v := 1) C dX10_adds_53 (by decide) ?_
        refine x_goto (tgt := 58) C dX10_adds_54 (by decide) ?_
        exact hL58 u1.2 sL x1 x2 x3 (1 : Int32) hf
  have hL29 : ∀ (mL : MdT) (sL : (Nat → Int32)) (x1 : Int32) (x2 : Int32) (x3 : Int32), f_X10_adds_29 mL sL x1 x2 x3 = some u → VW g (va_A ([mdO g b m, iaW g (b 1) 110 s] : List va_W).flatten sW.heap.size) 5 pW l eW ({ frames := 1, cells := 0, slots := 0, locals := 23 } : Room) sW mW argsW belowW methW c9 0 0 (MQ belowW (xQc g ([mdO g b m, iaW g (b 1) 110 s] : List va_W).flatten sW.heap.size (fun v9 w9 => v9 = some (.int u.1) ∧ w9 = ([mdO g b u.2.1, iaW g (b 1) 110 u.2.2] : List va_W).flatten)) argsW sW 0 0 (va_A ([mdO g b m, iaW g (b 1) 110 s] : List va_W).flatten sW.heap.size)) [mdO g b mL, iaW g (b 1) 110 sL] [(0, .ref (b 0)), (1, .int x1), (2, .int x2), (3, .int x3)] 29 [.ref (b 0)] := by
    intro mL sL x1 x2 x3 hf
    unfold f_X10_adds_29 at hf
    refine x_iconst (v := 1) C dX10_adds_29 (by decide) ?_
    refine x_goto (tgt := 34) C dX10_adds_30 (by decide) ?_
    exact hL34 mL sL x1 x2 x3 (1 : Int32) hf
  refine x_aload_n C dX10_adds_0 rfl 0 rfl ?_
  refine x_iload_n C dX10_adds_1 rfl 1 rfl ?_
  obtain ⟨u1, hu1, hf⟩ := x_b hf
  refine x_callS (n := 1) (As := [.int x1]) (rest := [.ref (b 0)]) C (c_X10_isVoice g l x1 hu1) ⟨⟨wd_1568, wd_1566, wd_78⟩, ⟨by decide, by decide, by decide⟩, rfl, rfl, Nat.le_of_ble_eq_true rfl, Nat.le_of_ble_eq_true rfl⟩ wd_1567 [mdO g b m, iaW g (b 1) 110 s] (x_pickD [0, 1] 2 rfl rfl rfl) rfl rfl (Nat.le_of_ble_eq_true rfl) ⟨Nat.le_of_ble_eq_true rfl, Nat.le_of_ble_eq_true rfl⟩ dX10_adds_2 (x_goD (wss2 := [mdO g b m, iaW g (b 1) 110 s]) (stk2 := [.int u1, .ref (b 0)]) rfl rfl ?_)
  refine x_if_eq (tgt := 29) C dX10_adds_5 (by decide) (fun h2 => ?_) (fun h2 => ?_)
  · have hf := x_t h2 hf
    exact hL29 m s x1 x2 x3 hf
  · have hf := x_f h2 hf
    refine x_iload_n C dX10_adds_8 rfl 2 rfl ?_
    refine x_iconst (v := 1) C dX10_adds_9 (by decide) ?_
    refine x_sipush (v := 999) C dX10_adds_10 (by decide) ?_
    obtain ⟨u3, hu3, hf⟩ := x_b hf
    refine x_callS (n := 3) (As := [.int x2, .int (1 : Int32), .int (999 : Int32)]) (rest := [.ref (b 0)]) C (c_X10_isIn g l x2 (1 : Int32) (999 : Int32) hu3) ⟨⟨wd_1571, wd_1569, wd_78⟩, ⟨by decide, by decide, by decide⟩, rfl, rfl, Nat.le_of_ble_eq_true rfl, Nat.le_of_ble_eq_true rfl⟩ wd_1570 [mdO g b m, iaW g (b 1) 110 s] (x_pickD [0, 1] 2 rfl rfl rfl) rfl rfl (Nat.le_of_ble_eq_true rfl) ⟨Nat.le_of_ble_eq_true rfl, Nat.le_of_ble_eq_true rfl⟩ dX10_adds_13 (x_goD (wss2 := [mdO g b m, iaW g (b 1) 110 s]) (stk2 := [.int u3, .ref (b 0)]) rfl rfl ?_)
    refine x_if_eq (tgt := 29) C dX10_adds_16 (by decide) (fun h4 => ?_) (fun h4 => ?_)
    · have hf := x_t h4 hf
      exact hL29 m s x1 x2 x3 hf
    · have hf := x_f h4 hf
      refine x_iload_n C dX10_adds_19 rfl 3 rfl ?_
      refine x_iconst (v := 1) C dX10_adds_20 (by decide) ?_
      refine x_bipush (v := 9) C dX10_adds_21 (by decide) ?_
      obtain ⟨u5, hu5, hf⟩ := x_b hf
      refine x_callS (n := 3) (As := [.int x3, .int (1 : Int32), .int (9 : Int32)]) (rest := [.ref (b 0)]) C (c_X10_isIn g l x3 (1 : Int32) (9 : Int32) hu5) ⟨⟨wd_1571, wd_1569, wd_78⟩, ⟨by decide, by decide, by decide⟩, rfl, rfl, Nat.le_of_ble_eq_true rfl, Nat.le_of_ble_eq_true rfl⟩ wd_1570 [mdO g b m, iaW g (b 1) 110 s] (x_pickD [0, 1] 2 rfl rfl rfl) rfl rfl (Nat.le_of_ble_eq_true rfl) ⟨Nat.le_of_ble_eq_true rfl, Nat.le_of_ble_eq_true rfl⟩ dX10_adds_23 (x_goD (wss2 := [mdO g b m, iaW g (b 1) 110 s]) (stk2 := [.int u5, .ref (b 0)]) rfl rfl ?_)
      refine x_if_ne (tgt := 33) C dX10_adds_26 (by decide) (fun h6 => ?_) (fun h6 => ?_)
      · have hf := x_f h6 hf
        refine x_iconst (v := 0) C dX10_adds_33 (by decide) ?_
        exact hL34 m s x1 x2 x3 (0 : Int32) hf
      · have hf := x_t h6 hf
        exact hL29 m s x1 x2 x3 hf
theorem wd_24 : Cond.selects yX10_keeps.cls yX10_keeps yX10_keeps ∈ xTB := xTB_in 24 (by decide +kernel) (by decide +kernel)
theorem wd_25 : Cond.selects yX10_adds.cls yX10_adds yX10_adds ∈ xTB := xTB_in 25 (by decide +kernel) (by decide +kernel)
theorem wd_28 : Cond.selects yX10_ends.cls yX10_ends yX10_ends ∈ xTB := xTB_in 28 (by decide +kernel) (by decide +kernel)
theorem wd_1555 : Cond.methodLink RX10 71 yX10_keeps ∈ xTB := xTB_in 1555 (by decide +kernel) (by decide +kernel)
theorem wd_1557 : Cond.instanceMethod yX10_keeps ∈ xTB := xTB_in 1557 (by decide +kernel) (by decide +kernel)
theorem wd_1558 : Cond.code yX10_keeps cX10_keeps 1 none ∈ xTB := xTB_in 1558 (by decide +kernel) (by decide +kernel)
theorem wd_1562 : Cond.methodLink RX10 74 yX10_adds ∈ xTB := xTB_in 1562 (by decide +kernel) (by decide +kernel)
theorem wd_1564 : Cond.instanceMethod yX10_adds ∈ xTB := xTB_in 1564 (by decide +kernel) (by decide +kernel)
theorem wd_1565 : Cond.code yX10_adds cX10_adds 5 (some .int) ∈ xTB := xTB_in 1565 (by decide +kernel) (by decide +kernel)
theorem wd_1580 : Cond.methodLink RX10 78 yX10_ends ∈ xTB := xTB_in 1580 (by decide +kernel) (by decide +kernel)
theorem wd_1582 : Cond.instanceMethod yX10_ends ∈ xTB := xTB_in 1582 (by decide +kernel) (by decide +kernel)
theorem wd_1583 : Cond.code yX10_ends cX10_ends 3 (some .int) ∈ xTB := xTB_in 1583 (by decide +kernel) (by decide +kernel)
theorem dX10_addCandle_0 : decode cX10_addCandle 0 = .ok (.aload_n 0, 1) := by decide +kernel
theorem dX10_addCandle_1 : decode cX10_addCandle 1 = .ok (.invokevirtual 71, 3) := by decide +kernel
theorem dX10_addCandle_4 : decode cX10_addCandle 4 = .ok (.aload_n 0, 1) := by decide +kernel
theorem dX10_addCandle_5 : decode cX10_addCandle 5 = .ok (.aload_n 0, 1) := by decide +kernel
theorem dX10_addCandle_6 : decode cX10_addCandle 6 = .ok (.iload_n 1, 1) := by decide +kernel
theorem dX10_addCandle_7 : decode cX10_addCandle 7 = .ok (.iload_n 2, 1) := by decide +kernel
theorem dX10_addCandle_8 : decode cX10_addCandle 8 = .ok (.iload_n 3, 1) := by decide +kernel
theorem dX10_addCandle_9 : decode cX10_addCandle 9 = .ok (.invokevirtual 74, 3) := by decide +kernel
theorem dX10_addCandle_12 : decode cX10_addCandle 12 = .ok (.invokevirtual 78, 3) := by decide +kernel
theorem dX10_addCandle_15 : decode cX10_addCandle 15 = .ok (.ireturn, 1) := by decide +kernel
set_option maxHeartbeats 4000000 in
set_option maxRecDepth 100000 in
theorem c_X10_addCandle (g : xG) (l : Launch) (b : Nat → Nat) (m : MdT) (s : (Nat → Int32)) (w : (Nat → Int32)) (p : (Nat → Int32)) (x1 : Int32) (x2 : Int32) (x3 : Int32) {u : Int32 × MdT × (Nat → Int32) × (Nat → Int32) × (Nat → Int32)} (hf : f_X10_addCandle m s w p x1 x2 x3 = some u) : ConD g l yX10_addCandle cX10_addCandle 4 (some .int) ({ frames := 2, cells := 0, slots := 0, locals := 47 } : Room) [.ref (b 0), .int x1, .int x2, .int x3] [mdO g b m, iaW g (b 1) 110 s, iaW g (b 2) 110 w, iaW g (b 5) 880 p] (some (.int u.1)) [mdO g b u.2.1, iaW g (b 1) 110 u.2.2.1, iaW g (b 2) 110 u.2.2.2.1, iaW g (b 5) 880 u.2.2.2.2] := by
  unfold f_X10_addCandle at hf
  refine Con_of [mdO g b m, iaW g (b 1) 110 s, iaW g (b 2) 110 w, iaW g (b 5) 880 p] [(0, .ref (b 0)), (1, .int x1), (2, .int x2), (3, .int x3)] rfl rfl (by decide) (Nat.le_of_ble_eq_true rfl) ?_
  intro pW eW sW mW argsW belowW methW c9 C hnm hr
  have C : CX g RX10 cX10_addCandle 4 _ pW sW mW argsW methW c9 := C
  refine x_aload_n C dX10_addCandle_0 rfl 0 rfl ?_
  obtain ⟨u1, hu1, hf⟩ := x_b hf
  refine x_callV (n := 0) (As := []) (rest := []) C (c_X10_keeps g l b m s w hu1) ⟨⟨wd_1558, wd_1555, wd_78⟩, ⟨by decide, by decide, by decide⟩, rfl, rfl, Nat.le_of_ble_eq_true rfl, Nat.le_of_ble_eq_true rfl⟩ wd_1557 wd_24 ⟨0, 11, _, _, rfl, rfl, rfl⟩ [iaW g (b 5) 880 p] (x_pickD [0, 1, 2, 3] 4 rfl rfl rfl) rfl rfl (Nat.le_of_ble_eq_true rfl) ⟨Nat.le_of_ble_eq_true rfl, Nat.le_of_ble_eq_true rfl⟩ dX10_addCandle_1 (x_goD (wss2 := [mdO g b u1.1, iaW g (b 1) 110 s, iaW g (b 2) 110 u1.2, iaW g (b 5) 880 p]) (stk2 := []) rfl rfl ?_)
  refine x_aload_n C dX10_addCandle_4 rfl 0 rfl ?_
  refine x_aload_n C dX10_addCandle_5 rfl 0 rfl ?_
  refine x_iload_n C dX10_addCandle_6 rfl 1 rfl ?_
  refine x_iload_n C dX10_addCandle_7 rfl 2 rfl ?_
  refine x_iload_n C dX10_addCandle_8 rfl 3 rfl ?_
  obtain ⟨u2, hu2, hf⟩ := x_b hf
  refine x_callV (n := 3) (As := [.int x1, .int x2, .int x3]) (rest := [.ref (b 0)]) C (c_X10_adds g l b u1.1 s x1 x2 x3 hu2) ⟨⟨wd_1565, wd_1562, wd_78⟩, ⟨by decide, by decide, by decide⟩, rfl, rfl, Nat.le_of_ble_eq_true rfl, Nat.le_of_ble_eq_true rfl⟩ wd_1564 wd_25 ⟨0, 11, _, _, rfl, rfl, rfl⟩ [iaW g (b 2) 110 u1.2, iaW g (b 5) 880 p] (x_pickD [0, 1, 2, 3] 4 rfl rfl rfl) rfl rfl (Nat.le_of_ble_eq_true rfl) ⟨Nat.le_of_ble_eq_true rfl, Nat.le_of_ble_eq_true rfl⟩ dX10_addCandle_9 (x_goD (wss2 := [mdO g b u2.2.1, iaW g (b 1) 110 u2.2.2, iaW g (b 2) 110 u1.2, iaW g (b 5) 880 p]) (stk2 := [.int u2.1, .ref (b 0)]) rfl rfl ?_)
  obtain ⟨u3, hu3, hf⟩ := x_b hf
  refine x_callV (n := 1) (As := [.int u2.1]) (rest := []) C (c_X10_ends g l b u2.2.1 u1.2 p u2.1 hu3) ⟨⟨wd_1583, wd_1580, wd_78⟩, ⟨by decide, by decide, by decide⟩, rfl, rfl, Nat.le_of_ble_eq_true rfl, Nat.le_of_ble_eq_true rfl⟩ wd_1582 wd_28 ⟨0, 11, _, _, rfl, rfl, rfl⟩ [iaW g (b 1) 110 u2.2.2] (x_pickD [0, 2, 3, 1] 4 rfl rfl rfl) rfl rfl (Nat.le_of_ble_eq_true rfl) ⟨Nat.le_of_ble_eq_true rfl, Nat.le_of_ble_eq_true rfl⟩ dX10_addCandle_12 (x_goD (wss2 := [mdO g b u3.2.1, iaW g (b 2) 110 u1.2, iaW g (b 5) 880 u3.2.2, iaW g (b 1) 110 u2.2.2]) (stk2 := [.int u3.1]) rfl rfl ?_)
  refine x_perm (wss' := [mdO g b u3.2.1, iaW g (b 1) 110 u2.2.2, iaW g (b 2) 110 u1.2, iaW g (b 5) 880 u3.2.2]) (x_pick [0, 3, 1, 2] 4 rfl rfl rfl) ?_
  exact x_iret C hr ⟨by cases hf; rfl, by cases hf; rfl⟩ dX10_addCandle_15
theorem wd_30 : Cond.selects yX10_isCandle.cls yX10_isCandle yX10_isCandle ∈ xTB := xTB_in 30 (by decide +kernel) (by decide +kernel)
theorem wd_32 : Cond.selects yX10_lit.cls yX10_lit yX10_lit ∈ xTB := xTB_in 32 (by decide +kernel) (by decide +kernel)
theorem wd_1592 : Cond.methodLink RX10 82 yX10_isCandle ∈ xTB := xTB_in 1592 (by decide +kernel) (by decide +kernel)
theorem wd_1594 : Cond.instanceMethod yX10_isCandle ∈ xTB := xTB_in 1594 (by decide +kernel) (by decide +kernel)
theorem wd_1595 : Cond.code yX10_isCandle cX10_isCandle 2 (some .boolean) ∈ xTB := xTB_in 1595 (by decide +kernel) (by decide +kernel)
theorem wd_1600 : Cond.methodLink RX10 85 yX10_lit ∈ xTB := xTB_in 1600 (by decide +kernel) (by decide +kernel)
theorem wd_1602 : Cond.instanceMethod yX10_lit ∈ xTB := xTB_in 1602 (by decide +kernel) (by decide +kernel)
theorem wd_1603 : Cond.code yX10_lit cX10_lit 3 (some .int) ∈ xTB := xTB_in 1603 (by decide +kernel) (by decide +kernel)
theorem dX10_lights_0 : decode cX10_lights 0 = .ok (.aload_n 0, 1) := by decide +kernel
theorem dX10_lights_1 : decode cX10_lights 1 = .ok (.aload_n 0, 1) := by decide +kernel
theorem dX10_lights_2 : decode cX10_lights 2 = .ok (.iload_n 1, 1) := by decide +kernel
theorem dX10_lights_3 : decode cX10_lights 3 = .ok (.invokevirtual 82, 3) := by decide +kernel
theorem dX10_lights_6 : decode cX10_lights 6 = .ok (.ifCond .ne 7, 3) := by decide +kernel
theorem dX10_lights_9 : decode cX10_lights 9 = .ok (.iconst 1, 1) := by decide +kernel
theorem dX10_lights_10 : decode cX10_lights 10 = .ok (.goto 4, 3) := by decide +kernel
theorem dX10_lights_13 : decode cX10_lights 13 = .ok (.iconst 0, 1) := by decide +kernel
theorem dX10_lights_14 : decode cX10_lights 14 = .ok (.iconst 1, 1) := by decide +kernel
theorem dX10_lights_15 : decode cX10_lights 15 = .ok (.invokevirtual 63, 3) := by decide +kernel
theorem dX10_lights_18 : decode cX10_lights 18 = .ok (.ifCond .ne 48, 3) := by decide +kernel
theorem dX10_lights_21 : decode cX10_lights 21 = .ok (.aload_n 0, 1) := by decide +kernel
theorem dX10_lights_22 : decode cX10_lights 22 = .ok (.aload_n 0, 1) := by decide +kernel
theorem dX10_lights_23 : decode cX10_lights 23 = .ok (.iload_n 1, 1) := by decide +kernel
theorem dX10_lights_24 : decode cX10_lights 24 = .ok (.iconst 3, 1) := by decide +kernel
theorem dX10_lights_25 : decode cX10_lights 25 = .ok (.invokevirtual 55, 3) := by decide +kernel
theorem dX10_lights_28 : decode cX10_lights 28 = .ok (.iconst 1, 1) := by decide +kernel
theorem dX10_lights_29 : decode cX10_lights 29 = .ok (.if_icmp .ne 7, 3) := by decide +kernel
theorem dX10_lights_32 : decode cX10_lights 32 = .ok (.iconst 1, 1) := by decide +kernel
theorem dX10_lights_33 : decode cX10_lights 33 = .ok (.goto 4, 3) := by decide +kernel
theorem dX10_lights_36 : decode cX10_lights 36 = .ok (.iconst 0, 1) := by decide +kernel
theorem dX10_lights_37 : decode cX10_lights 37 = .ok (.iconst 2, 1) := by decide +kernel
theorem dX10_lights_38 : decode cX10_lights 38 = .ok (.invokevirtual 63, 3) := by decide +kernel
theorem dX10_lights_41 : decode cX10_lights 41 = .ok (.ifCond .ne 25, 3) := by decide +kernel
theorem dX10_lights_44 : decode cX10_lights 44 = .ok (.aload_n 0, 1) := by decide +kernel
theorem dX10_lights_45 : decode cX10_lights 45 = .ok (.aload_n 0, 1) := by decide +kernel
theorem dX10_lights_46 : decode cX10_lights 46 = .ok (.iload_n 1, 1) := by decide +kernel
theorem dX10_lights_47 : decode cX10_lights 47 = .ok (.iconst 1, 1) := by decide +kernel
theorem dX10_lights_48 : decode cX10_lights 48 = .ok (.invokevirtual 55, 3) := by decide +kernel
theorem dX10_lights_51 : decode cX10_lights 51 = .ok (.ifCond .ne 7, 3) := by decide +kernel
theorem dX10_lights_54 : decode cX10_lights 54 = .ok (.iconst 1, 1) := by decide +kernel
theorem dX10_lights_55 : decode cX10_lights 55 = .ok (.goto 4, 3) := by decide +kernel
theorem dX10_lights_58 : decode cX10_lights 58 = .ok (.iconst 0, 1) := by decide +kernel
theorem dX10_lights_59 : decode cX10_lights 59 = .ok (.iconst 3, 1) := by decide +kernel
theorem dX10_lights_60 : decode cX10_lights 60 = .ok (.invokevirtual 63, 3) := by decide +kernel
theorem dX10_lights_63 : decode cX10_lights 63 = .ok (.ifCond .eq 5, 3) := by decide +kernel
theorem dX10_lights_66 : decode cX10_lights 66 = .ok (.iconst 0, 1) := by decide +kernel
theorem dX10_lights_67 : decode cX10_lights 67 = .ok (.ireturn, 1) := by decide +kernel
theorem dX10_lights_68 : decode cX10_lights 68 = .ok (.aload_n 0, 1) := by decide +kernel
theorem dX10_lights_69 : decode cX10_lights 69 = .ok (.iload_n 1, 1) := by decide +kernel
theorem dX10_lights_70 : decode cX10_lights 70 = .ok (.iconst 3, 1) := by decide +kernel
theorem dX10_lights_71 : decode cX10_lights 71 = .ok (.iconst 1, 1) := by decide +kernel
theorem dX10_lights_72 : decode cX10_lights 72 = .ok (.invokevirtual 67, 3) := by decide +kernel
theorem dX10_lights_75 : decode cX10_lights 75 = .ok (.aload_n 0, 1) := by decide +kernel
theorem dX10_lights_76 : decode cX10_lights 76 = .ok (.invokevirtual 85, 3) := by decide +kernel
theorem dX10_lights_79 : decode cX10_lights 79 = .ok (.ireturn, 1) := by decide +kernel
set_option maxHeartbeats 4000000 in
set_option maxRecDepth 100000 in
theorem c_X10_lights (g : xG) (l : Launch) (b : Nat → Nat) (m : MdT) (s : (Nat → Int32)) (x1 : Int32) {u : Int32 × MdT × (Nat → Int32)} (hf : f_X10_lights m s x1 = some u) : ConD g l yX10_lights cX10_lights 2 (some .int) ({ frames := 2, cells := 0, slots := 0, locals := 44 } : Room) [.ref (b 0), .int x1] [mdO g b m, iaW g (b 1) 110 s] (some (.int u.1)) [mdO g b u.2.1, iaW g (b 1) 110 u.2.2] := by
  unfold f_X10_lights at hf
  refine Con_of [mdO g b m, iaW g (b 1) 110 s] [(0, .ref (b 0)), (1, .int x1)] rfl rfl (by decide) (Nat.le_of_ble_eq_true rfl) ?_
  intro pW eW sW mW argsW belowW methW c9 C hnm hr
  have C : CX g RX10 cX10_lights 2 _ pW sW mW argsW methW c9 := C
  have hL59 : ∀ (mL : MdT) (sL : (Nat → Int32)) (x1 : Int32) (y0 : Int32), f_X10_lights_59 mL sL x1 y0 = some u → VW g (va_A ([mdO g b m, iaW g (b 1) 110 s] : List va_W).flatten sW.heap.size) 2 pW l eW ({ frames := 2, cells := 0, slots := 0, locals := 44 } : Room) sW mW argsW belowW methW c9 0 0 (MQ belowW (xQc g ([mdO g b m, iaW g (b 1) 110 s] : List va_W).flatten sW.heap.size (fun v9 w9 => v9 = some (.int u.1) ∧ w9 = ([mdO g b u.2.1, iaW g (b 1) 110 u.2.2] : List va_W).flatten)) argsW sW 0 0 (va_A ([mdO g b m, iaW g (b 1) 110 s] : List va_W).flatten sW.heap.size)) [mdO g b mL, iaW g (b 1) 110 sL] [(0, .ref (b 0)), (1, .int x1)] 59 [.int y0, .ref (b 0)] := by
    intro mL sL x1 y0 hf
    unfold f_X10_lights_59 at hf
    refine x_iconst (v := 3) C dX10_lights_59 (by decide) ?_
    obtain ⟨u1, hu1, hf⟩ := x_b hf
    refine x_callV (n := 2) (As := [.int y0, .int (3 : Int32)]) (rest := []) C (c_X10_isThrown g l b mL y0 (3 : Int32) hu1) ⟨⟨wd_1575, wd_1572, wd_78⟩, ⟨by decide, by decide, by decide⟩, rfl, rfl, Nat.le_of_ble_eq_true rfl, Nat.le_of_ble_eq_true rfl⟩ wd_1574 wd_26 ⟨0, 11, _, _, rfl, rfl, rfl⟩ [iaW g (b 1) 110 sL] (x_pickD [0, 1] 2 rfl rfl rfl) rfl rfl (Nat.le_of_ble_eq_true rfl) ⟨Nat.le_of_ble_eq_true rfl, Nat.le_of_ble_eq_true rfl⟩ dX10_lights_60 (x_goD (wss2 := [mdO g b u1.2, iaW g (b 1) 110 sL]) (stk2 := [.int u1.1]) rfl rfl ?_)
    refine x_if_eq (tgt := 68) C dX10_lights_63 (by decide) (fun h2 => ?_) (fun h2 => ?_)
    · have hf := x_t h2 hf
      refine x_aload_n C dX10_lights_68 rfl 0 rfl ?_
      refine x_iload_n C dX10_lights_69 rfl 1 rfl ?_
      refine x_iconst (v := 3) C dX10_lights_70 (by decide) ?_
      refine x_iconst (v := 1) C dX10_lights_71 (by decide) ?_
      obtain ⟨u3, hu3, hf⟩ := x_b hf
      refine x_callV (n := 3) (As := [.int x1, .int (3 : Int32), .int (1 : Int32)]) (rest := []) C (c_X10_sets g l b u1.2 sL x1 (3 : Int32) (1 : Int32) hu3) ⟨⟨wd_1579, wd_1576, wd_78⟩, ⟨by decide, by decide, by decide⟩, rfl, rfl, Nat.le_of_ble_eq_true rfl, Nat.le_of_ble_eq_true rfl⟩ wd_1578 wd_27 ⟨0, 11, _, _, rfl, rfl, rfl⟩ [] (x_pickD [0, 1] 2 rfl rfl rfl) rfl rfl (Nat.le_of_ble_eq_true rfl) ⟨Nat.le_of_ble_eq_true rfl, Nat.le_of_ble_eq_true rfl⟩ dX10_lights_72 (x_goD (wss2 := [mdO g b u1.2, iaW g (b 1) 110 u3]) (stk2 := []) rfl rfl ?_)
      refine x_aload_n C dX10_lights_75 rfl 0 rfl ?_
      obtain ⟨u4, hu4, hf⟩ := x_b hf
      refine x_callV (n := 0) (As := []) (rest := []) C (c_X10_lit g l b u1.2 u3 hu4) ⟨⟨wd_1603, wd_1600, wd_78⟩, ⟨by decide, by decide, by decide⟩, rfl, rfl, Nat.le_of_ble_eq_true rfl, Nat.le_of_ble_eq_true rfl⟩ wd_1602 wd_32 ⟨0, 11, _, _, rfl, rfl, rfl⟩ [] (x_pickD [0, 1] 2 rfl rfl rfl) rfl rfl (Nat.le_of_ble_eq_true rfl) ⟨Nat.le_of_ble_eq_true rfl, Nat.le_of_ble_eq_true rfl⟩ dX10_lights_76 (x_goD (wss2 := [mdO g b u1.2, iaW g (b 1) 110 u3]) (stk2 := [.int u4]) rfl rfl ?_)
      exact x_iret C hr ⟨by cases hf; rfl, by cases hf; rfl⟩ dX10_lights_79
    · have hf := x_f h2 hf
      refine x_iconst (v := 0) C dX10_lights_66 (by decide) ?_
      exact x_iret C hr ⟨by cases hf; rfl, by cases hf; rfl⟩ dX10_lights_67
  have hL37 : ∀ (mL : MdT) (sL : (Nat → Int32)) (x1 : Int32) (y0 : Int32), f_X10_lights_37 mL sL x1 y0 = some u → VW g (va_A ([mdO g b m, iaW g (b 1) 110 s] : List va_W).flatten sW.heap.size) 2 pW l eW ({ frames := 2, cells := 0, slots := 0, locals := 44 } : Room) sW mW argsW belowW methW c9 0 0 (MQ belowW (xQc g ([mdO g b m, iaW g (b 1) 110 s] : List va_W).flatten sW.heap.size (fun v9 w9 => v9 = some (.int u.1) ∧ w9 = ([mdO g b u.2.1, iaW g (b 1) 110 u.2.2] : List va_W).flatten)) argsW sW 0 0 (va_A ([mdO g b m, iaW g (b 1) 110 s] : List va_W).flatten sW.heap.size)) [mdO g b mL, iaW g (b 1) 110 sL] [(0, .ref (b 0)), (1, .int x1)] 37 [.int y0, .ref (b 0)] := by
    intro mL sL x1 y0 hf
    unfold f_X10_lights_37 at hf
    refine x_iconst (v := 2) C dX10_lights_37 (by decide) ?_
    obtain ⟨u1, hu1, hf⟩ := x_b hf
    refine x_callV (n := 2) (As := [.int y0, .int (2 : Int32)]) (rest := []) C (c_X10_isThrown g l b mL y0 (2 : Int32) hu1) ⟨⟨wd_1575, wd_1572, wd_78⟩, ⟨by decide, by decide, by decide⟩, rfl, rfl, Nat.le_of_ble_eq_true rfl, Nat.le_of_ble_eq_true rfl⟩ wd_1574 wd_26 ⟨0, 11, _, _, rfl, rfl, rfl⟩ [iaW g (b 1) 110 sL] (x_pickD [0, 1] 2 rfl rfl rfl) rfl rfl (Nat.le_of_ble_eq_true rfl) ⟨Nat.le_of_ble_eq_true rfl, Nat.le_of_ble_eq_true rfl⟩ dX10_lights_38 (x_goD (wss2 := [mdO g b u1.2, iaW g (b 1) 110 sL]) (stk2 := [.int u1.1]) rfl rfl ?_)
    refine x_if_ne (tgt := 66) C dX10_lights_41 (by decide) (fun h2 => ?_) (fun h2 => ?_)
    · have hf := x_f h2 hf
      refine x_iconst (v := 0) C dX10_lights_66 (by decide) ?_
      exact x_iret C hr ⟨by cases hf; rfl, by cases hf; rfl⟩ dX10_lights_67
    · have hf := x_t h2 hf
      refine x_aload_n C dX10_lights_44 rfl 0 rfl ?_
      refine x_aload_n C dX10_lights_45 rfl 0 rfl ?_
      refine x_iload_n C dX10_lights_46 rfl 1 rfl ?_
      refine x_iconst (v := 1) C dX10_lights_47 (by decide) ?_
      obtain ⟨u3, hu3, hf⟩ := x_b hf
      refine x_callV (n := 2) (As := [.int x1, .int (1 : Int32)]) (rest := [.ref (b 0)]) C (c_X10_of g l b u1.2 sL x1 (1 : Int32) hu3) ⟨⟨wd_1599, wd_1596, wd_78⟩, ⟨by decide, by decide, by decide⟩, rfl, rfl, Nat.le_of_ble_eq_true rfl, Nat.le_of_ble_eq_true rfl⟩ wd_1598 wd_31 ⟨0, 11, _, _, rfl, rfl, rfl⟩ [] (x_pickD [0, 1] 2 rfl rfl rfl) rfl rfl (Nat.le_of_ble_eq_true rfl) ⟨Nat.le_of_ble_eq_true rfl, Nat.le_of_ble_eq_true rfl⟩ dX10_lights_48 (x_goD (wss2 := [mdO g b u1.2, iaW g (b 1) 110 sL]) (stk2 := [.int u3, .ref (b 0)]) rfl rfl ?_)
      refine x_if_ne (tgt := 58) C dX10_lights_51 (by decide) (fun h4 => ?_) (fun h4 => ?_)
      · have hf := x_f h4 hf
        refine x_iconst (v := 0) C dX10_lights_58 (by decide) ?_
        exact hL59 u1.2 sL x1 (0 : Int32) hf
      · have hf := x_t h4 hf
        refine x_iconst (v := 1) C dX10_lights_54 (by decide) ?_
        refine x_goto (tgt := 59) C dX10_lights_55 (by decide) ?_
        exact hL59 u1.2 sL x1 (1 : Int32) hf
  have hL14 : ∀ (mL : MdT) (sL : (Nat → Int32)) (x1 : Int32) (y0 : Int32), f_X10_lights_14 mL sL x1 y0 = some u → VW g (va_A ([mdO g b m, iaW g (b 1) 110 s] : List va_W).flatten sW.heap.size) 2 pW l eW ({ frames := 2, cells := 0, slots := 0, locals := 44 } : Room) sW mW argsW belowW methW c9 0 0 (MQ belowW (xQc g ([mdO g b m, iaW g (b 1) 110 s] : List va_W).flatten sW.heap.size (fun v9 w9 => v9 = some (.int u.1) ∧ w9 = ([mdO g b u.2.1, iaW g (b 1) 110 u.2.2] : List va_W).flatten)) argsW sW 0 0 (va_A ([mdO g b m, iaW g (b 1) 110 s] : List va_W).flatten sW.heap.size)) [mdO g b mL, iaW g (b 1) 110 sL] [(0, .ref (b 0)), (1, .int x1)] 14 [.int y0, .ref (b 0)] := by
    intro mL sL x1 y0 hf
    unfold f_X10_lights_14 at hf
    refine x_iconst (v := 1) C dX10_lights_14 (by decide) ?_
    obtain ⟨u1, hu1, hf⟩ := x_b hf
    refine x_callV (n := 2) (As := [.int y0, .int (1 : Int32)]) (rest := []) C (c_X10_isThrown g l b mL y0 (1 : Int32) hu1) ⟨⟨wd_1575, wd_1572, wd_78⟩, ⟨by decide, by decide, by decide⟩, rfl, rfl, Nat.le_of_ble_eq_true rfl, Nat.le_of_ble_eq_true rfl⟩ wd_1574 wd_26 ⟨0, 11, _, _, rfl, rfl, rfl⟩ [iaW g (b 1) 110 sL] (x_pickD [0, 1] 2 rfl rfl rfl) rfl rfl (Nat.le_of_ble_eq_true rfl) ⟨Nat.le_of_ble_eq_true rfl, Nat.le_of_ble_eq_true rfl⟩ dX10_lights_15 (x_goD (wss2 := [mdO g b u1.2, iaW g (b 1) 110 sL]) (stk2 := [.int u1.1]) rfl rfl ?_)
    refine x_if_ne (tgt := 66) C dX10_lights_18 (by decide) (fun h2 => ?_) (fun h2 => ?_)
    · have hf := x_f h2 hf
      refine x_iconst (v := 0) C dX10_lights_66 (by decide) ?_
      exact x_iret C hr ⟨by cases hf; rfl, by cases hf; rfl⟩ dX10_lights_67
    · have hf := x_t h2 hf
      refine x_aload_n C dX10_lights_21 rfl 0 rfl ?_
      refine x_aload_n C dX10_lights_22 rfl 0 rfl ?_
      refine x_iload_n C dX10_lights_23 rfl 1 rfl ?_
      refine x_iconst (v := 3) C dX10_lights_24 (by decide) ?_
      obtain ⟨u3, hu3, hf⟩ := x_b hf
      refine x_callV (n := 2) (As := [.int x1, .int (3 : Int32)]) (rest := [.ref (b 0)]) C (c_X10_of g l b u1.2 sL x1 (3 : Int32) hu3) ⟨⟨wd_1599, wd_1596, wd_78⟩, ⟨by decide, by decide, by decide⟩, rfl, rfl, Nat.le_of_ble_eq_true rfl, Nat.le_of_ble_eq_true rfl⟩ wd_1598 wd_31 ⟨0, 11, _, _, rfl, rfl, rfl⟩ [] (x_pickD [0, 1] 2 rfl rfl rfl) rfl rfl (Nat.le_of_ble_eq_true rfl) ⟨Nat.le_of_ble_eq_true rfl, Nat.le_of_ble_eq_true rfl⟩ dX10_lights_25 (x_goD (wss2 := [mdO g b u1.2, iaW g (b 1) 110 sL]) (stk2 := [.int u3, .ref (b 0)]) rfl rfl ?_)
      refine x_iconst (v := 1) C dX10_lights_28 (by decide) ?_
      refine x_icmp_ne (tgt := 36) C dX10_lights_29 (by decide) (fun h4 => ?_) (fun h4 => ?_)
      · have hf := x_f h4 hf
        refine x_iconst (v := 0) C dX10_lights_36 (by decide) ?_
        exact hL37 u1.2 sL x1 (0 : Int32) hf
      · have hf := x_t h4 hf
        refine x_iconst (v := 1) C dX10_lights_32 (by decide) ?_
        refine x_goto (tgt := 37) C dX10_lights_33 (by decide) ?_
        exact hL37 u1.2 sL x1 (1 : Int32) hf
  refine x_aload_n C dX10_lights_0 rfl 0 rfl ?_
  refine x_aload_n C dX10_lights_1 rfl 0 rfl ?_
  refine x_iload_n C dX10_lights_2 rfl 1 rfl ?_
  obtain ⟨u1, hu1, hf⟩ := x_b hf
  refine x_callV (n := 1) (As := [.int x1]) (rest := [.ref (b 0)]) C (c_X10_isCandle g l b m s x1 hu1) ⟨⟨wd_1595, wd_1592, wd_78⟩, ⟨by decide, by decide, by decide⟩, rfl, rfl, Nat.le_of_ble_eq_true rfl, Nat.le_of_ble_eq_true rfl⟩ wd_1594 wd_30 ⟨0, 11, _, _, rfl, rfl, rfl⟩ [] (x_pickD [0, 1] 2 rfl rfl rfl) rfl rfl (Nat.le_of_ble_eq_true rfl) ⟨Nat.le_of_ble_eq_true rfl, Nat.le_of_ble_eq_true rfl⟩ dX10_lights_3 (x_goD (wss2 := [mdO g b m, iaW g (b 1) 110 s]) (stk2 := [.int u1, .ref (b 0)]) rfl rfl ?_)
  refine x_if_ne (tgt := 13) C dX10_lights_6 (by decide) (fun h2 => ?_) (fun h2 => ?_)
  · have hf := x_f h2 hf
    refine x_iconst (v := 0) C dX10_lights_13 (by decide) ?_
    exact hL14 m s x1 (0 : Int32) hf
  · have hf := x_t h2 hf
    refine x_iconst (v := 1) C dX10_lights_9 (by decide) ?_
    refine x_goto (tgt := 14) C dX10_lights_10 (by decide) ?_
    exact hL14 m s x1 (1 : Int32) hf
theorem wd_29 : Cond.selects yX10_lights.cls yX10_lights yX10_lights ∈ xTB := xTB_in 29 (by decide +kernel) (by decide +kernel)
theorem wd_1588 : Cond.methodLink RX10 89 yX10_lights ∈ xTB := xTB_in 1588 (by decide +kernel) (by decide +kernel)
theorem wd_1590 : Cond.instanceMethod yX10_lights ∈ xTB := xTB_in 1590 (by decide +kernel) (by decide +kernel)
theorem wd_1591 : Cond.code yX10_lights cX10_lights 2 (some .int) ∈ xTB := xTB_in 1591 (by decide +kernel) (by decide +kernel)
theorem dX10_light_0 : decode cX10_light 0 = .ok (.aload_n 0, 1) := by decide +kernel
theorem dX10_light_1 : decode cX10_light 1 = .ok (.invokevirtual 71, 3) := by decide +kernel
theorem dX10_light_4 : decode cX10_light 4 = .ok (.aload_n 0, 1) := by decide +kernel
theorem dX10_light_5 : decode cX10_light 5 = .ok (.aload_n 0, 1) := by decide +kernel
theorem dX10_light_6 : decode cX10_light 6 = .ok (.iload_n 1, 1) := by decide +kernel
theorem dX10_light_7 : decode cX10_light 7 = .ok (.invokevirtual 89, 3) := by decide +kernel
theorem dX10_light_10 : decode cX10_light 10 = .ok (.invokevirtual 78, 3) := by decide +kernel
theorem dX10_light_13 : decode cX10_light 13 = .ok (.ireturn, 1) := by decide +kernel
set_option maxHeartbeats 4000000 in
set_option maxRecDepth 100000 in
theorem c_X10_light (g : xG) (l : Launch) (b : Nat → Nat) (m : MdT) (s : (Nat → Int32)) (w : (Nat → Int32)) (p : (Nat → Int32)) (x1 : Int32) {u : Int32 × MdT × (Nat → Int32) × (Nat → Int32) × (Nat → Int32)} (hf : f_X10_light m s w p x1 = some u) : ConD g l yX10_light cX10_light 2 (some .int) ({ frames := 3, cells := 0, slots := 0, locals := 65 } : Room) [.ref (b 0), .int x1] [mdO g b m, iaW g (b 1) 110 s, iaW g (b 2) 110 w, iaW g (b 5) 880 p] (some (.int u.1)) [mdO g b u.2.1, iaW g (b 1) 110 u.2.2.1, iaW g (b 2) 110 u.2.2.2.1, iaW g (b 5) 880 u.2.2.2.2] := by
  unfold f_X10_light at hf
  refine Con_of [mdO g b m, iaW g (b 1) 110 s, iaW g (b 2) 110 w, iaW g (b 5) 880 p] [(0, .ref (b 0)), (1, .int x1)] rfl rfl (by decide) (Nat.le_of_ble_eq_true rfl) ?_
  intro pW eW sW mW argsW belowW methW c9 C hnm hr
  have C : CX g RX10 cX10_light 2 _ pW sW mW argsW methW c9 := C
  refine x_aload_n C dX10_light_0 rfl 0 rfl ?_
  obtain ⟨u1, hu1, hf⟩ := x_b hf
  refine x_callV (n := 0) (As := []) (rest := []) C (c_X10_keeps g l b m s w hu1) ⟨⟨wd_1558, wd_1555, wd_78⟩, ⟨by decide, by decide, by decide⟩, rfl, rfl, Nat.le_of_ble_eq_true rfl, Nat.le_of_ble_eq_true rfl⟩ wd_1557 wd_24 ⟨0, 11, _, _, rfl, rfl, rfl⟩ [iaW g (b 5) 880 p] (x_pickD [0, 1, 2, 3] 4 rfl rfl rfl) rfl rfl (Nat.le_of_ble_eq_true rfl) ⟨Nat.le_of_ble_eq_true rfl, Nat.le_of_ble_eq_true rfl⟩ dX10_light_1 (x_goD (wss2 := [mdO g b u1.1, iaW g (b 1) 110 s, iaW g (b 2) 110 u1.2, iaW g (b 5) 880 p]) (stk2 := []) rfl rfl ?_)
  refine x_aload_n C dX10_light_4 rfl 0 rfl ?_
  refine x_aload_n C dX10_light_5 rfl 0 rfl ?_
  refine x_iload_n C dX10_light_6 rfl 1 rfl ?_
  obtain ⟨u2, hu2, hf⟩ := x_b hf
  refine x_callV (n := 1) (As := [.int x1]) (rest := [.ref (b 0)]) C (c_X10_lights g l b u1.1 s x1 hu2) ⟨⟨wd_1591, wd_1588, wd_78⟩, ⟨by decide, by decide, by decide⟩, rfl, rfl, Nat.le_of_ble_eq_true rfl, Nat.le_of_ble_eq_true rfl⟩ wd_1590 wd_29 ⟨0, 11, _, _, rfl, rfl, rfl⟩ [iaW g (b 2) 110 u1.2, iaW g (b 5) 880 p] (x_pickD [0, 1, 2, 3] 4 rfl rfl rfl) rfl rfl (Nat.le_of_ble_eq_true rfl) ⟨Nat.le_of_ble_eq_true rfl, Nat.le_of_ble_eq_true rfl⟩ dX10_light_7 (x_goD (wss2 := [mdO g b u2.2.1, iaW g (b 1) 110 u2.2.2, iaW g (b 2) 110 u1.2, iaW g (b 5) 880 p]) (stk2 := [.int u2.1, .ref (b 0)]) rfl rfl ?_)
  obtain ⟨u3, hu3, hf⟩ := x_b hf
  refine x_callV (n := 1) (As := [.int u2.1]) (rest := []) C (c_X10_ends g l b u2.2.1 u1.2 p u2.1 hu3) ⟨⟨wd_1583, wd_1580, wd_78⟩, ⟨by decide, by decide, by decide⟩, rfl, rfl, Nat.le_of_ble_eq_true rfl, Nat.le_of_ble_eq_true rfl⟩ wd_1582 wd_28 ⟨0, 11, _, _, rfl, rfl, rfl⟩ [iaW g (b 1) 110 u2.2.2] (x_pickD [0, 2, 3, 1] 4 rfl rfl rfl) rfl rfl (Nat.le_of_ble_eq_true rfl) ⟨Nat.le_of_ble_eq_true rfl, Nat.le_of_ble_eq_true rfl⟩ dX10_light_10 (x_goD (wss2 := [mdO g b u3.2.1, iaW g (b 2) 110 u1.2, iaW g (b 5) 880 u3.2.2, iaW g (b 1) 110 u2.2.2]) (stk2 := [.int u3.1]) rfl rfl ?_)
  refine x_perm (wss' := [mdO g b u3.2.1, iaW g (b 1) 110 u2.2.2, iaW g (b 2) 110 u1.2, iaW g (b 5) 880 u3.2.2]) (x_pick [0, 3, 1, 2] 4 rfl rfl rfl) ?_
  exact x_iret C hr ⟨by cases hf; rfl, by cases hf; rfl⟩ dX10_light_13
theorem dX10_snuffs_0 : decode cX10_snuffs 0 = .ok (.aload_n 0, 1) := by decide +kernel
theorem dX10_snuffs_1 : decode cX10_snuffs 1 = .ok (.aload_n 0, 1) := by decide +kernel
theorem dX10_snuffs_2 : decode cX10_snuffs 2 = .ok (.iload_n 1, 1) := by decide +kernel
theorem dX10_snuffs_3 : decode cX10_snuffs 3 = .ok (.invokevirtual 82, 3) := by decide +kernel
theorem dX10_snuffs_6 : decode cX10_snuffs 6 = .ok (.ifCond .ne 7, 3) := by decide +kernel
theorem dX10_snuffs_9 : decode cX10_snuffs 9 = .ok (.iconst 1, 1) := by decide +kernel
theorem dX10_snuffs_10 : decode cX10_snuffs 10 = .ok (.goto 4, 3) := by decide +kernel
theorem dX10_snuffs_13 : decode cX10_snuffs 13 = .ok (.iconst 0, 1) := by decide +kernel
theorem dX10_snuffs_14 : decode cX10_snuffs 14 = .ok (.iconst 1, 1) := by decide +kernel
theorem dX10_snuffs_15 : decode cX10_snuffs 15 = .ok (.invokevirtual 63, 3) := by decide +kernel
theorem dX10_snuffs_18 : decode cX10_snuffs 18 = .ok (.ifCond .ne 25, 3) := by decide +kernel
theorem dX10_snuffs_21 : decode cX10_snuffs 21 = .ok (.aload_n 0, 1) := by decide +kernel
theorem dX10_snuffs_22 : decode cX10_snuffs 22 = .ok (.aload_n 0, 1) := by decide +kernel
theorem dX10_snuffs_23 : decode cX10_snuffs 23 = .ok (.iload_n 1, 1) := by decide +kernel
theorem dX10_snuffs_24 : decode cX10_snuffs 24 = .ok (.iconst 3, 1) := by decide +kernel
theorem dX10_snuffs_25 : decode cX10_snuffs 25 = .ok (.invokevirtual 55, 3) := by decide +kernel
theorem dX10_snuffs_28 : decode cX10_snuffs 28 = .ok (.ifCond .ne 7, 3) := by decide +kernel
theorem dX10_snuffs_31 : decode cX10_snuffs 31 = .ok (.iconst 1, 1) := by decide +kernel
theorem dX10_snuffs_32 : decode cX10_snuffs 32 = .ok (.goto 4, 3) := by decide +kernel
theorem dX10_snuffs_35 : decode cX10_snuffs 35 = .ok (.iconst 0, 1) := by decide +kernel
theorem dX10_snuffs_36 : decode cX10_snuffs 36 = .ok (.iconst 2, 1) := by decide +kernel
theorem dX10_snuffs_37 : decode cX10_snuffs 37 = .ok (.invokevirtual 63, 3) := by decide +kernel
theorem dX10_snuffs_40 : decode cX10_snuffs 40 = .ok (.ifCond .eq 5, 3) := by decide +kernel
theorem dX10_snuffs_43 : decode cX10_snuffs 43 = .ok (.iconst 0, 1) := by decide +kernel
theorem dX10_snuffs_44 : decode cX10_snuffs 44 = .ok (.ireturn, 1) := by decide +kernel
theorem dX10_snuffs_45 : decode cX10_snuffs 45 = .ok (.aload_n 0, 1) := by decide +kernel
theorem dX10_snuffs_46 : decode cX10_snuffs 46 = .ok (.iload_n 1, 1) := by decide +kernel
theorem dX10_snuffs_47 : decode cX10_snuffs 47 = .ok (.iconst 3, 1) := by decide +kernel
theorem dX10_snuffs_48 : decode cX10_snuffs 48 = .ok (.iconst 0, 1) := by decide +kernel
theorem dX10_snuffs_49 : decode cX10_snuffs 49 = .ok (.invokevirtual 67, 3) := by decide +kernel
theorem dX10_snuffs_52 : decode cX10_snuffs 52 = .ok (.aload_n 0, 1) := by decide +kernel
theorem dX10_snuffs_53 : decode cX10_snuffs 53 = .ok (.iload_n 1, 1) := by decide +kernel
theorem dX10_snuffs_54 : decode cX10_snuffs 54 = .ok (.iconst 1, 1) := by decide +kernel
theorem dX10_snuffs_55 : decode cX10_snuffs 55 = .ok (.invokevirtual 55, 3) := by decide +kernel
theorem dX10_snuffs_58 : decode cX10_snuffs 58 = .ok (.ireturn, 1) := by decide +kernel
set_option maxHeartbeats 4000000 in
set_option maxRecDepth 100000 in
theorem c_X10_snuffs (g : xG) (l : Launch) (b : Nat → Nat) (m : MdT) (s : (Nat → Int32)) (x1 : Int32) {u : Int32 × MdT × (Nat → Int32)} (hf : f_X10_snuffs m s x1 = some u) : ConD g l yX10_snuffs cX10_snuffs 2 (some .int) ({ frames := 2, cells := 0, slots := 0, locals := 43 } : Room) [.ref (b 0), .int x1] [mdO g b m, iaW g (b 1) 110 s] (some (.int u.1)) [mdO g b u.2.1, iaW g (b 1) 110 u.2.2] := by
  unfold f_X10_snuffs at hf
  refine Con_of [mdO g b m, iaW g (b 1) 110 s] [(0, .ref (b 0)), (1, .int x1)] rfl rfl (by decide) (Nat.le_of_ble_eq_true rfl) ?_
  intro pW eW sW mW argsW belowW methW c9 C hnm hr
  have C : CX g RX10 cX10_snuffs 2 _ pW sW mW argsW methW c9 := C
  have hL36 : ∀ (mL : MdT) (sL : (Nat → Int32)) (x1 : Int32) (y0 : Int32), f_X10_snuffs_36 mL sL x1 y0 = some u → VW g (va_A ([mdO g b m, iaW g (b 1) 110 s] : List va_W).flatten sW.heap.size) 2 pW l eW ({ frames := 2, cells := 0, slots := 0, locals := 43 } : Room) sW mW argsW belowW methW c9 0 0 (MQ belowW (xQc g ([mdO g b m, iaW g (b 1) 110 s] : List va_W).flatten sW.heap.size (fun v9 w9 => v9 = some (.int u.1) ∧ w9 = ([mdO g b u.2.1, iaW g (b 1) 110 u.2.2] : List va_W).flatten)) argsW sW 0 0 (va_A ([mdO g b m, iaW g (b 1) 110 s] : List va_W).flatten sW.heap.size)) [mdO g b mL, iaW g (b 1) 110 sL] [(0, .ref (b 0)), (1, .int x1)] 36 [.int y0, .ref (b 0)] := by
    intro mL sL x1 y0 hf
    unfold f_X10_snuffs_36 at hf
    refine x_iconst (v := 2) C dX10_snuffs_36 (by decide) ?_
    obtain ⟨u1, hu1, hf⟩ := x_b hf
    refine x_callV (n := 2) (As := [.int y0, .int (2 : Int32)]) (rest := []) C (c_X10_isThrown g l b mL y0 (2 : Int32) hu1) ⟨⟨wd_1575, wd_1572, wd_78⟩, ⟨by decide, by decide, by decide⟩, rfl, rfl, Nat.le_of_ble_eq_true rfl, Nat.le_of_ble_eq_true rfl⟩ wd_1574 wd_26 ⟨0, 11, _, _, rfl, rfl, rfl⟩ [iaW g (b 1) 110 sL] (x_pickD [0, 1] 2 rfl rfl rfl) rfl rfl (Nat.le_of_ble_eq_true rfl) ⟨Nat.le_of_ble_eq_true rfl, Nat.le_of_ble_eq_true rfl⟩ dX10_snuffs_37 (x_goD (wss2 := [mdO g b u1.2, iaW g (b 1) 110 sL]) (stk2 := [.int u1.1]) rfl rfl ?_)
    refine x_if_eq (tgt := 45) C dX10_snuffs_40 (by decide) (fun h2 => ?_) (fun h2 => ?_)
    · have hf := x_t h2 hf
      refine x_aload_n C dX10_snuffs_45 rfl 0 rfl ?_
      refine x_iload_n C dX10_snuffs_46 rfl 1 rfl ?_
      refine x_iconst (v := 3) C dX10_snuffs_47 (by decide) ?_
      refine x_iconst (v := 0) C dX10_snuffs_48 (by decide) ?_
      obtain ⟨u3, hu3, hf⟩ := x_b hf
      refine x_callV (n := 3) (As := [.int x1, .int (3 : Int32), .int (0 : Int32)]) (rest := []) C (c_X10_sets g l b u1.2 sL x1 (3 : Int32) (0 : Int32) hu3) ⟨⟨wd_1579, wd_1576, wd_78⟩, ⟨by decide, by decide, by decide⟩, rfl, rfl, Nat.le_of_ble_eq_true rfl, Nat.le_of_ble_eq_true rfl⟩ wd_1578 wd_27 ⟨0, 11, _, _, rfl, rfl, rfl⟩ [] (x_pickD [0, 1] 2 rfl rfl rfl) rfl rfl (Nat.le_of_ble_eq_true rfl) ⟨Nat.le_of_ble_eq_true rfl, Nat.le_of_ble_eq_true rfl⟩ dX10_snuffs_49 (x_goD (wss2 := [mdO g b u1.2, iaW g (b 1) 110 u3]) (stk2 := []) rfl rfl ?_)
      refine x_aload_n C dX10_snuffs_52 rfl 0 rfl ?_
      refine x_iload_n C dX10_snuffs_53 rfl 1 rfl ?_
      refine x_iconst (v := 1) C dX10_snuffs_54 (by decide) ?_
      obtain ⟨u4, hu4, hf⟩ := x_b hf
      refine x_callV (n := 2) (As := [.int x1, .int (1 : Int32)]) (rest := []) C (c_X10_of g l b u1.2 u3 x1 (1 : Int32) hu4) ⟨⟨wd_1599, wd_1596, wd_78⟩, ⟨by decide, by decide, by decide⟩, rfl, rfl, Nat.le_of_ble_eq_true rfl, Nat.le_of_ble_eq_true rfl⟩ wd_1598 wd_31 ⟨0, 11, _, _, rfl, rfl, rfl⟩ [] (x_pickD [0, 1] 2 rfl rfl rfl) rfl rfl (Nat.le_of_ble_eq_true rfl) ⟨Nat.le_of_ble_eq_true rfl, Nat.le_of_ble_eq_true rfl⟩ dX10_snuffs_55 (x_goD (wss2 := [mdO g b u1.2, iaW g (b 1) 110 u3]) (stk2 := [.int u4]) rfl rfl ?_)
      exact x_iret C hr ⟨by cases hf; rfl, by cases hf; rfl⟩ dX10_snuffs_58
    · have hf := x_f h2 hf
      refine x_iconst (v := 0) C dX10_snuffs_43 (by decide) ?_
      exact x_iret C hr ⟨by cases hf; rfl, by cases hf; rfl⟩ dX10_snuffs_44
  have hL14 : ∀ (mL : MdT) (sL : (Nat → Int32)) (x1 : Int32) (y0 : Int32), f_X10_snuffs_14 mL sL x1 y0 = some u → VW g (va_A ([mdO g b m, iaW g (b 1) 110 s] : List va_W).flatten sW.heap.size) 2 pW l eW ({ frames := 2, cells := 0, slots := 0, locals := 43 } : Room) sW mW argsW belowW methW c9 0 0 (MQ belowW (xQc g ([mdO g b m, iaW g (b 1) 110 s] : List va_W).flatten sW.heap.size (fun v9 w9 => v9 = some (.int u.1) ∧ w9 = ([mdO g b u.2.1, iaW g (b 1) 110 u.2.2] : List va_W).flatten)) argsW sW 0 0 (va_A ([mdO g b m, iaW g (b 1) 110 s] : List va_W).flatten sW.heap.size)) [mdO g b mL, iaW g (b 1) 110 sL] [(0, .ref (b 0)), (1, .int x1)] 14 [.int y0, .ref (b 0)] := by
    intro mL sL x1 y0 hf
    unfold f_X10_snuffs_14 at hf
    refine x_iconst (v := 1) C dX10_snuffs_14 (by decide) ?_
    obtain ⟨u1, hu1, hf⟩ := x_b hf
    refine x_callV (n := 2) (As := [.int y0, .int (1 : Int32)]) (rest := []) C (c_X10_isThrown g l b mL y0 (1 : Int32) hu1) ⟨⟨wd_1575, wd_1572, wd_78⟩, ⟨by decide, by decide, by decide⟩, rfl, rfl, Nat.le_of_ble_eq_true rfl, Nat.le_of_ble_eq_true rfl⟩ wd_1574 wd_26 ⟨0, 11, _, _, rfl, rfl, rfl⟩ [iaW g (b 1) 110 sL] (x_pickD [0, 1] 2 rfl rfl rfl) rfl rfl (Nat.le_of_ble_eq_true rfl) ⟨Nat.le_of_ble_eq_true rfl, Nat.le_of_ble_eq_true rfl⟩ dX10_snuffs_15 (x_goD (wss2 := [mdO g b u1.2, iaW g (b 1) 110 sL]) (stk2 := [.int u1.1]) rfl rfl ?_)
    refine x_if_ne (tgt := 43) C dX10_snuffs_18 (by decide) (fun h2 => ?_) (fun h2 => ?_)
    · have hf := x_f h2 hf
      refine x_iconst (v := 0) C dX10_snuffs_43 (by decide) ?_
      exact x_iret C hr ⟨by cases hf; rfl, by cases hf; rfl⟩ dX10_snuffs_44
    · have hf := x_t h2 hf
      refine x_aload_n C dX10_snuffs_21 rfl 0 rfl ?_
      refine x_aload_n C dX10_snuffs_22 rfl 0 rfl ?_
      refine x_iload_n C dX10_snuffs_23 rfl 1 rfl ?_
      refine x_iconst (v := 3) C dX10_snuffs_24 (by decide) ?_
      obtain ⟨u3, hu3, hf⟩ := x_b hf
      refine x_callV (n := 2) (As := [.int x1, .int (3 : Int32)]) (rest := [.ref (b 0)]) C (c_X10_of g l b u1.2 sL x1 (3 : Int32) hu3) ⟨⟨wd_1599, wd_1596, wd_78⟩, ⟨by decide, by decide, by decide⟩, rfl, rfl, Nat.le_of_ble_eq_true rfl, Nat.le_of_ble_eq_true rfl⟩ wd_1598 wd_31 ⟨0, 11, _, _, rfl, rfl, rfl⟩ [] (x_pickD [0, 1] 2 rfl rfl rfl) rfl rfl (Nat.le_of_ble_eq_true rfl) ⟨Nat.le_of_ble_eq_true rfl, Nat.le_of_ble_eq_true rfl⟩ dX10_snuffs_25 (x_goD (wss2 := [mdO g b u1.2, iaW g (b 1) 110 sL]) (stk2 := [.int u3, .ref (b 0)]) rfl rfl ?_)
      refine x_if_ne (tgt := 35) C dX10_snuffs_28 (by decide) (fun h4 => ?_) (fun h4 => ?_)
      · have hf := x_f h4 hf
        refine x_iconst (v := 0) C dX10_snuffs_35 (by decide) ?_
        exact hL36 u1.2 sL x1 (0 : Int32) hf
      · have hf := x_t h4 hf
        refine x_iconst (v := 1) C dX10_snuffs_31 (by decide) ?_
        refine x_goto (tgt := 36) C dX10_snuffs_32 (by decide) ?_
        exact hL36 u1.2 sL x1 (1 : Int32) hf
  refine x_aload_n C dX10_snuffs_0 rfl 0 rfl ?_
  refine x_aload_n C dX10_snuffs_1 rfl 0 rfl ?_
  refine x_iload_n C dX10_snuffs_2 rfl 1 rfl ?_
  obtain ⟨u1, hu1, hf⟩ := x_b hf
  refine x_callV (n := 1) (As := [.int x1]) (rest := [.ref (b 0)]) C (c_X10_isCandle g l b m s x1 hu1) ⟨⟨wd_1595, wd_1592, wd_78⟩, ⟨by decide, by decide, by decide⟩, rfl, rfl, Nat.le_of_ble_eq_true rfl, Nat.le_of_ble_eq_true rfl⟩ wd_1594 wd_30 ⟨0, 11, _, _, rfl, rfl, rfl⟩ [] (x_pickD [0, 1] 2 rfl rfl rfl) rfl rfl (Nat.le_of_ble_eq_true rfl) ⟨Nat.le_of_ble_eq_true rfl, Nat.le_of_ble_eq_true rfl⟩ dX10_snuffs_3 (x_goD (wss2 := [mdO g b m, iaW g (b 1) 110 s]) (stk2 := [.int u1, .ref (b 0)]) rfl rfl ?_)
  refine x_if_ne (tgt := 13) C dX10_snuffs_6 (by decide) (fun h2 => ?_) (fun h2 => ?_)
  · have hf := x_f h2 hf
    refine x_iconst (v := 0) C dX10_snuffs_13 (by decide) ?_
    exact hL14 m s x1 (0 : Int32) hf
  · have hf := x_t h2 hf
    refine x_iconst (v := 1) C dX10_snuffs_9 (by decide) ?_
    refine x_goto (tgt := 14) C dX10_snuffs_10 (by decide) ?_
    exact hL14 m s x1 (1 : Int32) hf
theorem wd_33 : Cond.selects yX10_snuffs.cls yX10_snuffs yX10_snuffs ∈ xTB := xTB_in 33 (by decide +kernel) (by decide +kernel)
theorem wd_1608 : Cond.methodLink RX10 92 yX10_snuffs ∈ xTB := xTB_in 1608 (by decide +kernel) (by decide +kernel)
theorem wd_1610 : Cond.instanceMethod yX10_snuffs ∈ xTB := xTB_in 1610 (by decide +kernel) (by decide +kernel)
theorem wd_1611 : Cond.code yX10_snuffs cX10_snuffs 2 (some .int) ∈ xTB := xTB_in 1611 (by decide +kernel) (by decide +kernel)
theorem dX10_snuff_0 : decode cX10_snuff 0 = .ok (.aload_n 0, 1) := by decide +kernel
theorem dX10_snuff_1 : decode cX10_snuff 1 = .ok (.invokevirtual 71, 3) := by decide +kernel
theorem dX10_snuff_4 : decode cX10_snuff 4 = .ok (.aload_n 0, 1) := by decide +kernel
theorem dX10_snuff_5 : decode cX10_snuff 5 = .ok (.aload_n 0, 1) := by decide +kernel
theorem dX10_snuff_6 : decode cX10_snuff 6 = .ok (.iload_n 1, 1) := by decide +kernel
theorem dX10_snuff_7 : decode cX10_snuff 7 = .ok (.invokevirtual 92, 3) := by decide +kernel
theorem dX10_snuff_10 : decode cX10_snuff 10 = .ok (.invokevirtual 78, 3) := by decide +kernel
theorem dX10_snuff_13 : decode cX10_snuff 13 = .ok (.ireturn, 1) := by decide +kernel
set_option maxHeartbeats 4000000 in
set_option maxRecDepth 100000 in
theorem c_X10_snuff (g : xG) (l : Launch) (b : Nat → Nat) (m : MdT) (s : (Nat → Int32)) (w : (Nat → Int32)) (p : (Nat → Int32)) (x1 : Int32) {u : Int32 × MdT × (Nat → Int32) × (Nat → Int32) × (Nat → Int32)} (hf : f_X10_snuff m s w p x1 = some u) : ConD g l yX10_snuff cX10_snuff 2 (some .int) ({ frames := 3, cells := 0, slots := 0, locals := 64 } : Room) [.ref (b 0), .int x1] [mdO g b m, iaW g (b 1) 110 s, iaW g (b 2) 110 w, iaW g (b 5) 880 p] (some (.int u.1)) [mdO g b u.2.1, iaW g (b 1) 110 u.2.2.1, iaW g (b 2) 110 u.2.2.2.1, iaW g (b 5) 880 u.2.2.2.2] := by
  unfold f_X10_snuff at hf
  refine Con_of [mdO g b m, iaW g (b 1) 110 s, iaW g (b 2) 110 w, iaW g (b 5) 880 p] [(0, .ref (b 0)), (1, .int x1)] rfl rfl (by decide) (Nat.le_of_ble_eq_true rfl) ?_
  intro pW eW sW mW argsW belowW methW c9 C hnm hr
  have C : CX g RX10 cX10_snuff 2 _ pW sW mW argsW methW c9 := C
  refine x_aload_n C dX10_snuff_0 rfl 0 rfl ?_
  obtain ⟨u1, hu1, hf⟩ := x_b hf
  refine x_callV (n := 0) (As := []) (rest := []) C (c_X10_keeps g l b m s w hu1) ⟨⟨wd_1558, wd_1555, wd_78⟩, ⟨by decide, by decide, by decide⟩, rfl, rfl, Nat.le_of_ble_eq_true rfl, Nat.le_of_ble_eq_true rfl⟩ wd_1557 wd_24 ⟨0, 11, _, _, rfl, rfl, rfl⟩ [iaW g (b 5) 880 p] (x_pickD [0, 1, 2, 3] 4 rfl rfl rfl) rfl rfl (Nat.le_of_ble_eq_true rfl) ⟨Nat.le_of_ble_eq_true rfl, Nat.le_of_ble_eq_true rfl⟩ dX10_snuff_1 (x_goD (wss2 := [mdO g b u1.1, iaW g (b 1) 110 s, iaW g (b 2) 110 u1.2, iaW g (b 5) 880 p]) (stk2 := []) rfl rfl ?_)
  refine x_aload_n C dX10_snuff_4 rfl 0 rfl ?_
  refine x_aload_n C dX10_snuff_5 rfl 0 rfl ?_
  refine x_iload_n C dX10_snuff_6 rfl 1 rfl ?_
  obtain ⟨u2, hu2, hf⟩ := x_b hf
  refine x_callV (n := 1) (As := [.int x1]) (rest := [.ref (b 0)]) C (c_X10_snuffs g l b u1.1 s x1 hu2) ⟨⟨wd_1611, wd_1608, wd_78⟩, ⟨by decide, by decide, by decide⟩, rfl, rfl, Nat.le_of_ble_eq_true rfl, Nat.le_of_ble_eq_true rfl⟩ wd_1610 wd_33 ⟨0, 11, _, _, rfl, rfl, rfl⟩ [iaW g (b 2) 110 u1.2, iaW g (b 5) 880 p] (x_pickD [0, 1, 2, 3] 4 rfl rfl rfl) rfl rfl (Nat.le_of_ble_eq_true rfl) ⟨Nat.le_of_ble_eq_true rfl, Nat.le_of_ble_eq_true rfl⟩ dX10_snuff_7 (x_goD (wss2 := [mdO g b u2.2.1, iaW g (b 1) 110 u2.2.2, iaW g (b 2) 110 u1.2, iaW g (b 5) 880 p]) (stk2 := [.int u2.1, .ref (b 0)]) rfl rfl ?_)
  obtain ⟨u3, hu3, hf⟩ := x_b hf
  refine x_callV (n := 1) (As := [.int u2.1]) (rest := []) C (c_X10_ends g l b u2.2.1 u1.2 p u2.1 hu3) ⟨⟨wd_1583, wd_1580, wd_78⟩, ⟨by decide, by decide, by decide⟩, rfl, rfl, Nat.le_of_ble_eq_true rfl, Nat.le_of_ble_eq_true rfl⟩ wd_1582 wd_28 ⟨0, 11, _, _, rfl, rfl, rfl⟩ [iaW g (b 1) 110 u2.2.2] (x_pickD [0, 2, 3, 1] 4 rfl rfl rfl) rfl rfl (Nat.le_of_ble_eq_true rfl) ⟨Nat.le_of_ble_eq_true rfl, Nat.le_of_ble_eq_true rfl⟩ dX10_snuff_10 (x_goD (wss2 := [mdO g b u3.2.1, iaW g (b 2) 110 u1.2, iaW g (b 5) 880 u3.2.2, iaW g (b 1) 110 u2.2.2]) (stk2 := [.int u3.1]) rfl rfl ?_)
  refine x_perm (wss' := [mdO g b u3.2.1, iaW g (b 1) 110 u2.2.2, iaW g (b 2) 110 u1.2, iaW g (b 5) 880 u3.2.2]) (x_pick [0, 3, 1, 2] 4 rfl rfl rfl) ?_
  exact x_iret C hr ⟨by cases hf; rfl, by cases hf; rfl⟩ dX10_snuff_13
theorem dX10_pours_0 : decode cX10_pours 0 = .ok (.aload_n 0, 1) := by decide +kernel
theorem dX10_pours_1 : decode cX10_pours 1 = .ok (.aload_n 0, 1) := by decide +kernel
theorem dX10_pours_2 : decode cX10_pours 2 = .ok (.iload_n 1, 1) := by decide +kernel
theorem dX10_pours_3 : decode cX10_pours 3 = .ok (.invokevirtual 82, 3) := by decide +kernel
theorem dX10_pours_6 : decode cX10_pours 6 = .ok (.ifCond .ne 7, 3) := by decide +kernel
theorem dX10_pours_9 : decode cX10_pours 9 = .ok (.iconst 1, 1) := by decide +kernel
theorem dX10_pours_10 : decode cX10_pours 10 = .ok (.goto 4, 3) := by decide +kernel
theorem dX10_pours_13 : decode cX10_pours 13 = .ok (.iconst 0, 1) := by decide +kernel
theorem dX10_pours_14 : decode cX10_pours 14 = .ok (.iconst 1, 1) := by decide +kernel
theorem dX10_pours_15 : decode cX10_pours 15 = .ok (.invokevirtual 63, 3) := by decide +kernel
theorem dX10_pours_18 : decode cX10_pours 18 = .ok (.ifCond .ne 87, 3) := by decide +kernel
theorem dX10_pours_21 : decode cX10_pours 21 = .ok (.aload_n 0, 1) := by decide +kernel
theorem dX10_pours_22 : decode cX10_pours 22 = .ok (.iload_n 2, 1) := by decide +kernel
theorem dX10_pours_23 : decode cX10_pours 23 = .ok (.iconst 1, 1) := by decide +kernel
theorem dX10_pours_24 : decode cX10_pours 24 = .ok (.sipush 999, 3) := by decide +kernel
theorem dX10_pours_27 : decode cX10_pours 27 = .ok (.invokestatic 51, 3) := by decide +kernel
theorem dX10_pours_30 : decode cX10_pours 30 = .ok (.ifCond .ne 7, 3) := by decide +kernel
theorem dX10_pours_33 : decode cX10_pours 33 = .ok (.iconst 1, 1) := by decide +kernel
theorem dX10_pours_34 : decode cX10_pours 34 = .ok (.goto 4, 3) := by decide +kernel
theorem dX10_pours_37 : decode cX10_pours 37 = .ok (.iconst 0, 1) := by decide +kernel
theorem dX10_pours_38 : decode cX10_pours 38 = .ok (.iconst 2, 1) := by decide +kernel
theorem dX10_pours_39 : decode cX10_pours 39 = .ok (.invokevirtual 63, 3) := by decide +kernel
theorem dX10_pours_42 : decode cX10_pours 42 = .ok (.ifCond .ne 63, 3) := by decide +kernel
theorem dX10_pours_45 : decode cX10_pours 45 = .ok (.aload_n 0, 1) := by decide +kernel
theorem dX10_pours_46 : decode cX10_pours 46 = .ok (.aload_n 0, 1) := by decide +kernel
theorem dX10_pours_47 : decode cX10_pours 47 = .ok (.iload_n 1, 1) := by decide +kernel
theorem dX10_pours_48 : decode cX10_pours 48 = .ok (.iconst 3, 1) := by decide +kernel
theorem dX10_pours_49 : decode cX10_pours 49 = .ok (.invokevirtual 55, 3) := by decide +kernel
theorem dX10_pours_52 : decode cX10_pours 52 = .ok (.iconst 1, 1) := by decide +kernel
theorem dX10_pours_53 : decode cX10_pours 53 = .ok (.if_icmp .eq 17, 3) := by decide +kernel
theorem dX10_pours_56 : decode cX10_pours 56 = .ok (.aload_n 0, 1) := by decide +kernel
theorem dX10_pours_57 : decode cX10_pours 57 = .ok (.iload_n 1, 1) := by decide +kernel
theorem dX10_pours_58 : decode cX10_pours 58 = .ok (.iconst 1, 1) := by decide +kernel
theorem dX10_pours_59 : decode cX10_pours 59 = .ok (.invokevirtual 55, 3) := by decide +kernel
theorem dX10_pours_62 : decode cX10_pours 62 = .ok (.iload_n 2, 1) := by decide +kernel
theorem dX10_pours_63 : decode cX10_pours 63 = .ok (.iadd, 1) := by decide +kernel
theorem dX10_pours_64 : decode cX10_pours 64 = .ok (.sipush 999, 3) := by decide +kernel
theorem dX10_pours_67 : decode cX10_pours 67 = .ok (.if_icmp .le 7, 3) := by decide +kernel
theorem dX10_pours_70 : decode cX10_pours 70 = .ok (.iconst 1, 1) := by decide +kernel
theorem dX10_pours_71 : decode cX10_pours 71 = .ok (.goto 4, 3) := by decide +kernel
theorem dX10_pours_74 : decode cX10_pours 74 = .ok (.iconst 0, 1) := by decide +kernel
theorem dX10_pours_75 : decode cX10_pours 75 = .ok (.iconst 3, 1) := by decide +kernel
theorem dX10_pours_76 : decode cX10_pours 76 = .ok (.invokevirtual 63, 3) := by decide +kernel
theorem dX10_pours_79 : decode cX10_pours 79 = .ok (.ifCond .ne 26, 3) := by decide +kernel
theorem dX10_pours_82 : decode cX10_pours 82 = .ok (.aload_n 0, 1) := by decide +kernel
theorem dX10_pours_83 : decode cX10_pours 83 = .ok (.aload_n 0, 1) := by decide +kernel
theorem dX10_pours_84 : decode cX10_pours 84 = .ok (.getfield 9, 3) := by decide +kernel
theorem dX10_pours_87 : decode cX10_pours 87 = .ok (.iconst 2, 1) := by decide +kernel
theorem dX10_pours_88 : decode cX10_pours 88 = .ok (.iaload, 1) := by decide +kernel
theorem dX10_pours_89 : decode cX10_pours 89 = .ok (.iload_n 2, 1) := by decide +kernel
theorem dX10_pours_90 : decode cX10_pours 90 = .ok (.if_icmp .ge 7, 3) := by decide +kernel
theorem dX10_pours_93 : decode cX10_pours 93 = .ok (.iconst 1, 1) := by decide +kernel
theorem dX10_pours_94 : decode cX10_pours 94 = .ok (.goto 4, 3) := by decide +kernel
theorem dX10_pours_97 : decode cX10_pours 97 = .ok (.iconst 0, 1) := by decide +kernel
theorem dX10_pours_98 : decode cX10_pours 98 = .ok (.iconst 4, 1) := by decide +kernel
theorem dX10_pours_99 : decode cX10_pours 99 = .ok (.invokevirtual 63, 3) := by decide +kernel
theorem dX10_pours_102 : decode cX10_pours 102 = .ok (.ifCond .eq 5, 3) := by decide +kernel
theorem dX10_pours_105 : decode cX10_pours 105 = .ok (.iconst 0, 1) := by decide +kernel
theorem dX10_pours_106 : decode cX10_pours 106 = .ok (.ireturn, 1) := by decide +kernel
theorem dX10_pours_107 : decode cX10_pours 107 = .ok (.aload_n 0, 1) := by decide +kernel
theorem dX10_pours_108 : decode cX10_pours 108 = .ok (.getfield 9, 3) := by decide +kernel
theorem dX10_pours_111 : decode cX10_pours 111 = .ok (.iconst 2, 1) := by decide +kernel
theorem dX10_pours_112 : decode cX10_pours 112 = .ok (.dup2, 1) := by decide +kernel
theorem dX10_pours_113 : decode cX10_pours 113 = .ok (.iaload, 1) := by decide +kernel
theorem dX10_pours_114 : decode cX10_pours 114 = .ok (.iload_n 2, 1) := by decide +kernel
theorem dX10_pours_115 : decode cX10_pours 115 = .ok (.isub, 1) := by decide +kernel
theorem dX10_pours_116 : decode cX10_pours 116 = .ok (.iastore, 1) := by decide +kernel
theorem dX10_pours_117 : decode cX10_pours 117 = .ok (.aload_n 0, 1) := by decide +kernel
theorem dX10_pours_118 : decode cX10_pours 118 = .ok (.iload_n 1, 1) := by decide +kernel
theorem dX10_pours_119 : decode cX10_pours 119 = .ok (.iconst 1, 1) := by decide +kernel
theorem dX10_pours_120 : decode cX10_pours 120 = .ok (.aload_n 0, 1) := by decide +kernel
theorem dX10_pours_121 : decode cX10_pours 121 = .ok (.iload_n 1, 1) := by decide +kernel
theorem dX10_pours_122 : decode cX10_pours 122 = .ok (.iconst 1, 1) := by decide +kernel
theorem dX10_pours_123 : decode cX10_pours 123 = .ok (.invokevirtual 55, 3) := by decide +kernel
theorem dX10_pours_126 : decode cX10_pours 126 = .ok (.iload_n 2, 1) := by decide +kernel
theorem dX10_pours_127 : decode cX10_pours 127 = .ok (.iadd, 1) := by decide +kernel
theorem dX10_pours_128 : decode cX10_pours 128 = .ok (.invokevirtual 67, 3) := by decide +kernel
theorem dX10_pours_131 : decode cX10_pours 131 = .ok (.aload_n 0, 1) := by decide +kernel
theorem dX10_pours_132 : decode cX10_pours 132 = .ok (.iload_n 1, 1) := by decide +kernel
theorem dX10_pours_133 : decode cX10_pours 133 = .ok (.iconst 1, 1) := by decide +kernel
theorem dX10_pours_134 : decode cX10_pours 134 = .ok (.invokevirtual 55, 3) := by decide +kernel
theorem dX10_pours_137 : decode cX10_pours 137 = .ok (.ireturn, 1) := by decide +kernel
set_option maxHeartbeats 4000000 in
set_option maxRecDepth 100000 in
theorem c_X10_pours (g : xG) (l : Launch) (b : Nat → Nat) (m : MdT) (s : (Nat → Int32)) (x1 : Int32) (x2 : Int32) {u : Int32 × MdT × (Nat → Int32)} (hf : f_X10_pours m s x1 x2 = some u) : ConD g l yX10_pours cX10_pours 3 (some .int) ({ frames := 2, cells := 0, slots := 0, locals := 43 } : Room) [.ref (b 0), .int x1, .int x2] [mdO g b m, iaW g (b 1) 110 s] (some (.int u.1)) [mdO g b u.2.1, iaW g (b 1) 110 u.2.2] := by
  unfold f_X10_pours at hf
  refine Con_of [mdO g b m, iaW g (b 1) 110 s] [(0, .ref (b 0)), (1, .int x1), (2, .int x2)] rfl rfl (by decide) (Nat.le_of_ble_eq_true rfl) ?_
  intro pW eW sW mW argsW belowW methW c9 C hnm hr
  have C : CX g RX10 cX10_pours 3 _ pW sW mW argsW methW c9 := C
  have hL98 : ∀ (mL : MdT) (sL : (Nat → Int32)) (x1 : Int32) (x2 : Int32) (y0 : Int32), f_X10_pours_98 mL sL x1 x2 y0 = some u → VW g (va_A ([mdO g b m, iaW g (b 1) 110 s] : List va_W).flatten sW.heap.size) 3 pW l eW ({ frames := 2, cells := 0, slots := 0, locals := 43 } : Room) sW mW argsW belowW methW c9 0 0 (MQ belowW (xQc g ([mdO g b m, iaW g (b 1) 110 s] : List va_W).flatten sW.heap.size (fun v9 w9 => v9 = some (.int u.1) ∧ w9 = ([mdO g b u.2.1, iaW g (b 1) 110 u.2.2] : List va_W).flatten)) argsW sW 0 0 (va_A ([mdO g b m, iaW g (b 1) 110 s] : List va_W).flatten sW.heap.size)) [mdO g b mL, iaW g (b 1) 110 sL] [(0, .ref (b 0)), (1, .int x1), (2, .int x2)] 98 [.int y0, .ref (b 0)] := by
    intro mL sL x1 x2 y0 hf
    unfold f_X10_pours_98 at hf
    refine x_iconst (v := 4) C dX10_pours_98 (by decide) ?_
    obtain ⟨u1, hu1, hf⟩ := x_b hf
    refine x_callV (n := 2) (As := [.int y0, .int (4 : Int32)]) (rest := []) C (c_X10_isThrown g l b mL y0 (4 : Int32) hu1) ⟨⟨wd_1575, wd_1572, wd_78⟩, ⟨by decide, by decide, by decide⟩, rfl, rfl, Nat.le_of_ble_eq_true rfl, Nat.le_of_ble_eq_true rfl⟩ wd_1574 wd_26 ⟨0, 11, _, _, rfl, rfl, rfl⟩ [iaW g (b 1) 110 sL] (x_pickD [0, 1] 2 rfl rfl rfl) rfl rfl (Nat.le_of_ble_eq_true rfl) ⟨Nat.le_of_ble_eq_true rfl, Nat.le_of_ble_eq_true rfl⟩ dX10_pours_99 (x_goD (wss2 := [mdO g b u1.2, iaW g (b 1) 110 sL]) (stk2 := [.int u1.1]) rfl rfl ?_)
    refine x_if_eq (tgt := 107) C dX10_pours_102 (by decide) (fun h2 => ?_) (fun h2 => ?_)
    · have hf := x_t h2 hf
      refine x_aload_n C dX10_pours_107 rfl 0 rfl ?_
      refine x_get (ci := 11) (v := .ref (b 1)) (b := mdO g b u1.2) C ixX10 rfl 0 (by decide) wd_1492 (fun _ h => h) 0 rfl 0 (mdO_at0 g b _) rfl dX10_pours_108 ?_
      refine x_iconst (v := 2) C dX10_pours_111 (by decide) ?_
      refine x_dup2_11 C dX10_pours_112 rfl rfl ?_
      obtain ⟨h3, hf⟩ := x_n hf
      refine x_iald (b := iaW g (b 1) 110 sL) C 1 rfl 0 (iaW_at0 g (b 1) 110 _) h3 dX10_pours_113 ?_
      refine x_iload_n C dX10_pours_114 rfl 2 rfl ?_
      refine x_isub C dX10_pours_115 ?_
      obtain ⟨h4, hf⟩ := x_n hf
      refine x_iast (b := iaW g (b 1) 110 sL) (b' := iaW g (b 1) 110 (upd sL (2 : Int32).toNatClampNeg ((sL (2 : Int32).toNatClampNeg) - x2))) (wss' := [mdO g b u1.2, iaW g (b 1) 110 (upd sL (2 : Int32).toNatClampNeg ((sL (2 : Int32).toNatClampNeg) - x2))]) C 1 rfl 0 (iaW_at0 g (b 1) 110 _) h4 rfl rfl dX10_pours_116 ?_
      refine x_aload_n C dX10_pours_117 rfl 0 rfl ?_
      refine x_iload_n C dX10_pours_118 rfl 1 rfl ?_
      refine x_iconst (v := 1) C dX10_pours_119 (by decide) ?_
      refine x_aload_n C dX10_pours_120 rfl 0 rfl ?_
      refine x_iload_n C dX10_pours_121 rfl 1 rfl ?_
      refine x_iconst (v := 1) C dX10_pours_122 (by decide) ?_
      obtain ⟨u5, hu5, hf⟩ := x_b hf
      refine x_callV (n := 2) (As := [.int x1, .int (1 : Int32)]) (rest := [.int (1 : Int32), .int x1, .ref (b 0)]) C (c_X10_of g l b u1.2 (upd sL (2 : Int32).toNatClampNeg ((sL (2 : Int32).toNatClampNeg) - x2)) x1 (1 : Int32) hu5) ⟨⟨wd_1599, wd_1596, wd_78⟩, ⟨by decide, by decide, by decide⟩, rfl, rfl, Nat.le_of_ble_eq_true rfl, Nat.le_of_ble_eq_true rfl⟩ wd_1598 wd_31 ⟨0, 11, _, _, rfl, rfl, rfl⟩ [] (x_pickD [0, 1] 2 rfl rfl rfl) rfl rfl (Nat.le_of_ble_eq_true rfl) ⟨Nat.le_of_ble_eq_true rfl, Nat.le_of_ble_eq_true rfl⟩ dX10_pours_123 (x_goD (wss2 := [mdO g b u1.2, iaW g (b 1) 110 (upd sL (2 : Int32).toNatClampNeg ((sL (2 : Int32).toNatClampNeg) - x2))]) (stk2 := [.int u5, .int (1 : Int32), .int x1, .ref (b 0)]) rfl rfl ?_)
      refine x_iload_n C dX10_pours_126 rfl 2 rfl ?_
      refine x_iadd C dX10_pours_127 ?_
      obtain ⟨u6, hu6, hf⟩ := x_b hf
      refine x_callV (n := 3) (As := [.int x1, .int (1 : Int32), .int (u5 + x2)]) (rest := []) C (c_X10_sets g l b u1.2 (upd sL (2 : Int32).toNatClampNeg ((sL (2 : Int32).toNatClampNeg) - x2)) x1 (1 : Int32) (u5 + x2) hu6) ⟨⟨wd_1579, wd_1576, wd_78⟩, ⟨by decide, by decide, by decide⟩, rfl, rfl, Nat.le_of_ble_eq_true rfl, Nat.le_of_ble_eq_true rfl⟩ wd_1578 wd_27 ⟨0, 11, _, _, rfl, rfl, rfl⟩ [] (x_pickD [0, 1] 2 rfl rfl rfl) rfl rfl (Nat.le_of_ble_eq_true rfl) ⟨Nat.le_of_ble_eq_true rfl, Nat.le_of_ble_eq_true rfl⟩ dX10_pours_128 (x_goD (wss2 := [mdO g b u1.2, iaW g (b 1) 110 u6]) (stk2 := []) rfl rfl ?_)
      refine x_aload_n C dX10_pours_131 rfl 0 rfl ?_
      refine x_iload_n C dX10_pours_132 rfl 1 rfl ?_
      refine x_iconst (v := 1) C dX10_pours_133 (by decide) ?_
      obtain ⟨u7, hu7, hf⟩ := x_b hf
      refine x_callV (n := 2) (As := [.int x1, .int (1 : Int32)]) (rest := []) C (c_X10_of g l b u1.2 u6 x1 (1 : Int32) hu7) ⟨⟨wd_1599, wd_1596, wd_78⟩, ⟨by decide, by decide, by decide⟩, rfl, rfl, Nat.le_of_ble_eq_true rfl, Nat.le_of_ble_eq_true rfl⟩ wd_1598 wd_31 ⟨0, 11, _, _, rfl, rfl, rfl⟩ [] (x_pickD [0, 1] 2 rfl rfl rfl) rfl rfl (Nat.le_of_ble_eq_true rfl) ⟨Nat.le_of_ble_eq_true rfl, Nat.le_of_ble_eq_true rfl⟩ dX10_pours_134 (x_goD (wss2 := [mdO g b u1.2, iaW g (b 1) 110 u6]) (stk2 := [.int u7]) rfl rfl ?_)
      exact x_iret C hr ⟨by cases hf; rfl, by cases hf; rfl⟩ dX10_pours_137
    · have hf := x_f h2 hf
      refine x_iconst (v := 0) C dX10_pours_105 (by decide) ?_
      exact x_iret C hr ⟨by cases hf; rfl, by cases hf; rfl⟩ dX10_pours_106
  have hL75 : ∀ (mL : MdT) (sL : (Nat → Int32)) (x1 : Int32) (x2 : Int32) (y0 : Int32), f_X10_pours_75 mL sL x1 x2 y0 = some u → VW g (va_A ([mdO g b m, iaW g (b 1) 110 s] : List va_W).flatten sW.heap.size) 3 pW l eW ({ frames := 2, cells := 0, slots := 0, locals := 43 } : Room) sW mW argsW belowW methW c9 0 0 (MQ belowW (xQc g ([mdO g b m, iaW g (b 1) 110 s] : List va_W).flatten sW.heap.size (fun v9 w9 => v9 = some (.int u.1) ∧ w9 = ([mdO g b u.2.1, iaW g (b 1) 110 u.2.2] : List va_W).flatten)) argsW sW 0 0 (va_A ([mdO g b m, iaW g (b 1) 110 s] : List va_W).flatten sW.heap.size)) [mdO g b mL, iaW g (b 1) 110 sL] [(0, .ref (b 0)), (1, .int x1), (2, .int x2)] 75 [.int y0, .ref (b 0)] := by
    intro mL sL x1 x2 y0 hf
    unfold f_X10_pours_75 at hf
    refine x_iconst (v := 3) C dX10_pours_75 (by decide) ?_
    obtain ⟨u1, hu1, hf⟩ := x_b hf
    refine x_callV (n := 2) (As := [.int y0, .int (3 : Int32)]) (rest := []) C (c_X10_isThrown g l b mL y0 (3 : Int32) hu1) ⟨⟨wd_1575, wd_1572, wd_78⟩, ⟨by decide, by decide, by decide⟩, rfl, rfl, Nat.le_of_ble_eq_true rfl, Nat.le_of_ble_eq_true rfl⟩ wd_1574 wd_26 ⟨0, 11, _, _, rfl, rfl, rfl⟩ [iaW g (b 1) 110 sL] (x_pickD [0, 1] 2 rfl rfl rfl) rfl rfl (Nat.le_of_ble_eq_true rfl) ⟨Nat.le_of_ble_eq_true rfl, Nat.le_of_ble_eq_true rfl⟩ dX10_pours_76 (x_goD (wss2 := [mdO g b u1.2, iaW g (b 1) 110 sL]) (stk2 := [.int u1.1]) rfl rfl ?_)
    refine x_if_ne (tgt := 105) C dX10_pours_79 (by decide) (fun h2 => ?_) (fun h2 => ?_)
    · have hf := x_f h2 hf
      refine x_iconst (v := 0) C dX10_pours_105 (by decide) ?_
      exact x_iret C hr ⟨by cases hf; rfl, by cases hf; rfl⟩ dX10_pours_106
    · have hf := x_t h2 hf
      refine x_aload_n C dX10_pours_82 rfl 0 rfl ?_
      refine x_aload_n C dX10_pours_83 rfl 0 rfl ?_
      refine x_get (ci := 11) (v := .ref (b 1)) (b := mdO g b u1.2) C ixX10 rfl 0 (by decide) wd_1492 (fun _ h => h) 0 rfl 0 (mdO_at0 g b _) rfl dX10_pours_84 ?_
      refine x_iconst (v := 2) C dX10_pours_87 (by decide) ?_
      obtain ⟨h3, hf⟩ := x_n hf
      refine x_iald (b := iaW g (b 1) 110 sL) C 1 rfl 0 (iaW_at0 g (b 1) 110 _) h3 dX10_pours_88 ?_
      refine x_iload_n C dX10_pours_89 rfl 2 rfl ?_
      refine x_icmp_ge (tgt := 97) C dX10_pours_90 (by decide) (fun h4 => ?_) (fun h4 => ?_)
      · have hf := x_t h4 hf
        refine x_iconst (v := 0) C dX10_pours_97 (by decide) ?_
        exact hL98 u1.2 sL x1 x2 (0 : Int32) hf
      · have hf := x_f h4 hf
        refine x_iconst (v := 1) C dX10_pours_93 (by decide) ?_
        refine x_goto (tgt := 98) C dX10_pours_94 (by decide) ?_
        exact hL98 u1.2 sL x1 x2 (1 : Int32) hf
  have hL70 : ∀ (mL : MdT) (sL : (Nat → Int32)) (x1 : Int32) (x2 : Int32), f_X10_pours_70 mL sL x1 x2 = some u → VW g (va_A ([mdO g b m, iaW g (b 1) 110 s] : List va_W).flatten sW.heap.size) 3 pW l eW ({ frames := 2, cells := 0, slots := 0, locals := 43 } : Room) sW mW argsW belowW methW c9 0 0 (MQ belowW (xQc g ([mdO g b m, iaW g (b 1) 110 s] : List va_W).flatten sW.heap.size (fun v9 w9 => v9 = some (.int u.1) ∧ w9 = ([mdO g b u.2.1, iaW g (b 1) 110 u.2.2] : List va_W).flatten)) argsW sW 0 0 (va_A ([mdO g b m, iaW g (b 1) 110 s] : List va_W).flatten sW.heap.size)) [mdO g b mL, iaW g (b 1) 110 sL] [(0, .ref (b 0)), (1, .int x1), (2, .int x2)] 70 [.ref (b 0)] := by
    intro mL sL x1 x2 hf
    unfold f_X10_pours_70 at hf
    refine x_iconst (v := 1) C dX10_pours_70 (by decide) ?_
    refine x_goto (tgt := 75) C dX10_pours_71 (by decide) ?_
    exact hL75 mL sL x1 x2 (1 : Int32) hf
  have hL38 : ∀ (mL : MdT) (sL : (Nat → Int32)) (x1 : Int32) (x2 : Int32) (y0 : Int32), f_X10_pours_38 mL sL x1 x2 y0 = some u → VW g (va_A ([mdO g b m, iaW g (b 1) 110 s] : List va_W).flatten sW.heap.size) 3 pW l eW ({ frames := 2, cells := 0, slots := 0, locals := 43 } : Room) sW mW argsW belowW methW c9 0 0 (MQ belowW (xQc g ([mdO g b m, iaW g (b 1) 110 s] : List va_W).flatten sW.heap.size (fun v9 w9 => v9 = some (.int u.1) ∧ w9 = ([mdO g b u.2.1, iaW g (b 1) 110 u.2.2] : List va_W).flatten)) argsW sW 0 0 (va_A ([mdO g b m, iaW g (b 1) 110 s] : List va_W).flatten sW.heap.size)) [mdO g b mL, iaW g (b 1) 110 sL] [(0, .ref (b 0)), (1, .int x1), (2, .int x2)] 38 [.int y0, .ref (b 0)] := by
    intro mL sL x1 x2 y0 hf
    unfold f_X10_pours_38 at hf
    refine x_iconst (v := 2) C dX10_pours_38 (by decide) ?_
    obtain ⟨u1, hu1, hf⟩ := x_b hf
    refine x_callV (n := 2) (As := [.int y0, .int (2 : Int32)]) (rest := []) C (c_X10_isThrown g l b mL y0 (2 : Int32) hu1) ⟨⟨wd_1575, wd_1572, wd_78⟩, ⟨by decide, by decide, by decide⟩, rfl, rfl, Nat.le_of_ble_eq_true rfl, Nat.le_of_ble_eq_true rfl⟩ wd_1574 wd_26 ⟨0, 11, _, _, rfl, rfl, rfl⟩ [iaW g (b 1) 110 sL] (x_pickD [0, 1] 2 rfl rfl rfl) rfl rfl (Nat.le_of_ble_eq_true rfl) ⟨Nat.le_of_ble_eq_true rfl, Nat.le_of_ble_eq_true rfl⟩ dX10_pours_39 (x_goD (wss2 := [mdO g b u1.2, iaW g (b 1) 110 sL]) (stk2 := [.int u1.1]) rfl rfl ?_)
    refine x_if_ne (tgt := 105) C dX10_pours_42 (by decide) (fun h2 => ?_) (fun h2 => ?_)
    · have hf := x_f h2 hf
      refine x_iconst (v := 0) C dX10_pours_105 (by decide) ?_
      exact x_iret C hr ⟨by cases hf; rfl, by cases hf; rfl⟩ dX10_pours_106
    · have hf := x_t h2 hf
      refine x_aload_n C dX10_pours_45 rfl 0 rfl ?_
      refine x_aload_n C dX10_pours_46 rfl 0 rfl ?_
      refine x_iload_n C dX10_pours_47 rfl 1 rfl ?_
      refine x_iconst (v := 3) C dX10_pours_48 (by decide) ?_
      obtain ⟨u3, hu3, hf⟩ := x_b hf
      refine x_callV (n := 2) (As := [.int x1, .int (3 : Int32)]) (rest := [.ref (b 0)]) C (c_X10_of g l b u1.2 sL x1 (3 : Int32) hu3) ⟨⟨wd_1599, wd_1596, wd_78⟩, ⟨by decide, by decide, by decide⟩, rfl, rfl, Nat.le_of_ble_eq_true rfl, Nat.le_of_ble_eq_true rfl⟩ wd_1598 wd_31 ⟨0, 11, _, _, rfl, rfl, rfl⟩ [] (x_pickD [0, 1] 2 rfl rfl rfl) rfl rfl (Nat.le_of_ble_eq_true rfl) ⟨Nat.le_of_ble_eq_true rfl, Nat.le_of_ble_eq_true rfl⟩ dX10_pours_49 (x_goD (wss2 := [mdO g b u1.2, iaW g (b 1) 110 sL]) (stk2 := [.int u3, .ref (b 0)]) rfl rfl ?_)
      refine x_iconst (v := 1) C dX10_pours_52 (by decide) ?_
      refine x_icmp_eq (tgt := 70) C dX10_pours_53 (by decide) (fun h4 => ?_) (fun h4 => ?_)
      · have hf := x_t h4 hf
        exact hL70 u1.2 sL x1 x2 hf
      · have hf := x_f h4 hf
        refine x_aload_n C dX10_pours_56 rfl 0 rfl ?_
        refine x_iload_n C dX10_pours_57 rfl 1 rfl ?_
        refine x_iconst (v := 1) C dX10_pours_58 (by decide) ?_
        obtain ⟨u5, hu5, hf⟩ := x_b hf
        refine x_callV (n := 2) (As := [.int x1, .int (1 : Int32)]) (rest := [.ref (b 0)]) C (c_X10_of g l b u1.2 sL x1 (1 : Int32) hu5) ⟨⟨wd_1599, wd_1596, wd_78⟩, ⟨by decide, by decide, by decide⟩, rfl, rfl, Nat.le_of_ble_eq_true rfl, Nat.le_of_ble_eq_true rfl⟩ wd_1598 wd_31 ⟨0, 11, _, _, rfl, rfl, rfl⟩ [] (x_pickD [0, 1] 2 rfl rfl rfl) rfl rfl (Nat.le_of_ble_eq_true rfl) ⟨Nat.le_of_ble_eq_true rfl, Nat.le_of_ble_eq_true rfl⟩ dX10_pours_59 (x_goD (wss2 := [mdO g b u1.2, iaW g (b 1) 110 sL]) (stk2 := [.int u5, .ref (b 0)]) rfl rfl ?_)
        refine x_iload_n C dX10_pours_62 rfl 2 rfl ?_
        refine x_iadd C dX10_pours_63 ?_
        refine x_sipush (v := 999) C dX10_pours_64 (by decide) ?_
        refine x_icmp_le (tgt := 74) C dX10_pours_67 (by decide) (fun h6 => ?_) (fun h6 => ?_)
        · have hf := x_t h6 hf
          refine x_iconst (v := 0) C dX10_pours_74 (by decide) ?_
          exact hL75 u1.2 sL x1 x2 (0 : Int32) hf
        · have hf := x_f h6 hf
          exact hL70 u1.2 sL x1 x2 hf
  have hL14 : ∀ (mL : MdT) (sL : (Nat → Int32)) (x1 : Int32) (x2 : Int32) (y0 : Int32), f_X10_pours_14 mL sL x1 x2 y0 = some u → VW g (va_A ([mdO g b m, iaW g (b 1) 110 s] : List va_W).flatten sW.heap.size) 3 pW l eW ({ frames := 2, cells := 0, slots := 0, locals := 43 } : Room) sW mW argsW belowW methW c9 0 0 (MQ belowW (xQc g ([mdO g b m, iaW g (b 1) 110 s] : List va_W).flatten sW.heap.size (fun v9 w9 => v9 = some (.int u.1) ∧ w9 = ([mdO g b u.2.1, iaW g (b 1) 110 u.2.2] : List va_W).flatten)) argsW sW 0 0 (va_A ([mdO g b m, iaW g (b 1) 110 s] : List va_W).flatten sW.heap.size)) [mdO g b mL, iaW g (b 1) 110 sL] [(0, .ref (b 0)), (1, .int x1), (2, .int x2)] 14 [.int y0, .ref (b 0)] := by
    intro mL sL x1 x2 y0 hf
    unfold f_X10_pours_14 at hf
    refine x_iconst (v := 1) C dX10_pours_14 (by decide) ?_
    obtain ⟨u1, hu1, hf⟩ := x_b hf
    refine x_callV (n := 2) (As := [.int y0, .int (1 : Int32)]) (rest := []) C (c_X10_isThrown g l b mL y0 (1 : Int32) hu1) ⟨⟨wd_1575, wd_1572, wd_78⟩, ⟨by decide, by decide, by decide⟩, rfl, rfl, Nat.le_of_ble_eq_true rfl, Nat.le_of_ble_eq_true rfl⟩ wd_1574 wd_26 ⟨0, 11, _, _, rfl, rfl, rfl⟩ [iaW g (b 1) 110 sL] (x_pickD [0, 1] 2 rfl rfl rfl) rfl rfl (Nat.le_of_ble_eq_true rfl) ⟨Nat.le_of_ble_eq_true rfl, Nat.le_of_ble_eq_true rfl⟩ dX10_pours_15 (x_goD (wss2 := [mdO g b u1.2, iaW g (b 1) 110 sL]) (stk2 := [.int u1.1]) rfl rfl ?_)
    refine x_if_ne (tgt := 105) C dX10_pours_18 (by decide) (fun h2 => ?_) (fun h2 => ?_)
    · have hf := x_f h2 hf
      refine x_iconst (v := 0) C dX10_pours_105 (by decide) ?_
      exact x_iret C hr ⟨by cases hf; rfl, by cases hf; rfl⟩ dX10_pours_106
    · have hf := x_t h2 hf
      refine x_aload_n C dX10_pours_21 rfl 0 rfl ?_
      refine x_iload_n C dX10_pours_22 rfl 2 rfl ?_
      refine x_iconst (v := 1) C dX10_pours_23 (by decide) ?_
      refine x_sipush (v := 999) C dX10_pours_24 (by decide) ?_
      obtain ⟨u3, hu3, hf⟩ := x_b hf
      refine x_callS (n := 3) (As := [.int x2, .int (1 : Int32), .int (999 : Int32)]) (rest := [.ref (b 0)]) C (c_X10_isIn g l x2 (1 : Int32) (999 : Int32) hu3) ⟨⟨wd_1571, wd_1569, wd_78⟩, ⟨by decide, by decide, by decide⟩, rfl, rfl, Nat.le_of_ble_eq_true rfl, Nat.le_of_ble_eq_true rfl⟩ wd_1570 [mdO g b u1.2, iaW g (b 1) 110 sL] (x_pickD [0, 1] 2 rfl rfl rfl) rfl rfl (Nat.le_of_ble_eq_true rfl) ⟨Nat.le_of_ble_eq_true rfl, Nat.le_of_ble_eq_true rfl⟩ dX10_pours_27 (x_goD (wss2 := [mdO g b u1.2, iaW g (b 1) 110 sL]) (stk2 := [.int u3, .ref (b 0)]) rfl rfl ?_)
      refine x_if_ne (tgt := 37) C dX10_pours_30 (by decide) (fun h4 => ?_) (fun h4 => ?_)
      · have hf := x_f h4 hf
        refine x_iconst (v := 0) C dX10_pours_37 (by decide) ?_
        exact hL38 u1.2 sL x1 x2 (0 : Int32) hf
      · have hf := x_t h4 hf
        refine x_iconst (v := 1) C dX10_pours_33 (by decide) ?_
        refine x_goto (tgt := 38) C dX10_pours_34 (by decide) ?_
        exact hL38 u1.2 sL x1 x2 (1 : Int32) hf
  refine x_aload_n C dX10_pours_0 rfl 0 rfl ?_
  refine x_aload_n C dX10_pours_1 rfl 0 rfl ?_
  refine x_iload_n C dX10_pours_2 rfl 1 rfl ?_
  obtain ⟨u1, hu1, hf⟩ := x_b hf
  refine x_callV (n := 1) (As := [.int x1]) (rest := [.ref (b 0)]) C (c_X10_isCandle g l b m s x1 hu1) ⟨⟨wd_1595, wd_1592, wd_78⟩, ⟨by decide, by decide, by decide⟩, rfl, rfl, Nat.le_of_ble_eq_true rfl, Nat.le_of_ble_eq_true rfl⟩ wd_1594 wd_30 ⟨0, 11, _, _, rfl, rfl, rfl⟩ [] (x_pickD [0, 1] 2 rfl rfl rfl) rfl rfl (Nat.le_of_ble_eq_true rfl) ⟨Nat.le_of_ble_eq_true rfl, Nat.le_of_ble_eq_true rfl⟩ dX10_pours_3 (x_goD (wss2 := [mdO g b m, iaW g (b 1) 110 s]) (stk2 := [.int u1, .ref (b 0)]) rfl rfl ?_)
  refine x_if_ne (tgt := 13) C dX10_pours_6 (by decide) (fun h2 => ?_) (fun h2 => ?_)
  · have hf := x_f h2 hf
    refine x_iconst (v := 0) C dX10_pours_13 (by decide) ?_
    exact hL14 m s x1 x2 (0 : Int32) hf
  · have hf := x_t h2 hf
    refine x_iconst (v := 1) C dX10_pours_9 (by decide) ?_
    refine x_goto (tgt := 14) C dX10_pours_10 (by decide) ?_
    exact hL14 m s x1 x2 (1 : Int32) hf
theorem wd_34 : Cond.selects yX10_pours.cls yX10_pours yX10_pours ∈ xTB := xTB_in 34 (by decide +kernel) (by decide +kernel)
theorem wd_1616 : Cond.methodLink RX10 95 yX10_pours ∈ xTB := xTB_in 1616 (by decide +kernel) (by decide +kernel)
theorem wd_1618 : Cond.instanceMethod yX10_pours ∈ xTB := xTB_in 1618 (by decide +kernel) (by decide +kernel)
theorem wd_1619 : Cond.code yX10_pours cX10_pours 3 (some .int) ∈ xTB := xTB_in 1619 (by decide +kernel) (by decide +kernel)
theorem dX10_pour_0 : decode cX10_pour 0 = .ok (.aload_n 0, 1) := by decide +kernel
theorem dX10_pour_1 : decode cX10_pour 1 = .ok (.invokevirtual 71, 3) := by decide +kernel
theorem dX10_pour_4 : decode cX10_pour 4 = .ok (.aload_n 0, 1) := by decide +kernel
theorem dX10_pour_5 : decode cX10_pour 5 = .ok (.aload_n 0, 1) := by decide +kernel
theorem dX10_pour_6 : decode cX10_pour 6 = .ok (.iload_n 1, 1) := by decide +kernel
theorem dX10_pour_7 : decode cX10_pour 7 = .ok (.iload_n 2, 1) := by decide +kernel
theorem dX10_pour_8 : decode cX10_pour 8 = .ok (.invokevirtual 95, 3) := by decide +kernel
theorem dX10_pour_11 : decode cX10_pour 11 = .ok (.invokevirtual 78, 3) := by decide +kernel
theorem dX10_pour_14 : decode cX10_pour 14 = .ok (.ireturn, 1) := by decide +kernel
set_option maxHeartbeats 4000000 in
set_option maxRecDepth 100000 in
theorem c_X10_pour (g : xG) (l : Launch) (b : Nat → Nat) (m : MdT) (s : (Nat → Int32)) (w : (Nat → Int32)) (p : (Nat → Int32)) (x1 : Int32) (x2 : Int32) {u : Int32 × MdT × (Nat → Int32) × (Nat → Int32) × (Nat → Int32)} (hf : f_X10_pour m s w p x1 x2 = some u) : ConD g l yX10_pour cX10_pour 3 (some .int) ({ frames := 3, cells := 0, slots := 0, locals := 65 } : Room) [.ref (b 0), .int x1, .int x2] [mdO g b m, iaW g (b 1) 110 s, iaW g (b 2) 110 w, iaW g (b 5) 880 p] (some (.int u.1)) [mdO g b u.2.1, iaW g (b 1) 110 u.2.2.1, iaW g (b 2) 110 u.2.2.2.1, iaW g (b 5) 880 u.2.2.2.2] := by
  unfold f_X10_pour at hf
  refine Con_of [mdO g b m, iaW g (b 1) 110 s, iaW g (b 2) 110 w, iaW g (b 5) 880 p] [(0, .ref (b 0)), (1, .int x1), (2, .int x2)] rfl rfl (by decide) (Nat.le_of_ble_eq_true rfl) ?_
  intro pW eW sW mW argsW belowW methW c9 C hnm hr
  have C : CX g RX10 cX10_pour 3 _ pW sW mW argsW methW c9 := C
  refine x_aload_n C dX10_pour_0 rfl 0 rfl ?_
  obtain ⟨u1, hu1, hf⟩ := x_b hf
  refine x_callV (n := 0) (As := []) (rest := []) C (c_X10_keeps g l b m s w hu1) ⟨⟨wd_1558, wd_1555, wd_78⟩, ⟨by decide, by decide, by decide⟩, rfl, rfl, Nat.le_of_ble_eq_true rfl, Nat.le_of_ble_eq_true rfl⟩ wd_1557 wd_24 ⟨0, 11, _, _, rfl, rfl, rfl⟩ [iaW g (b 5) 880 p] (x_pickD [0, 1, 2, 3] 4 rfl rfl rfl) rfl rfl (Nat.le_of_ble_eq_true rfl) ⟨Nat.le_of_ble_eq_true rfl, Nat.le_of_ble_eq_true rfl⟩ dX10_pour_1 (x_goD (wss2 := [mdO g b u1.1, iaW g (b 1) 110 s, iaW g (b 2) 110 u1.2, iaW g (b 5) 880 p]) (stk2 := []) rfl rfl ?_)
  refine x_aload_n C dX10_pour_4 rfl 0 rfl ?_
  refine x_aload_n C dX10_pour_5 rfl 0 rfl ?_
  refine x_iload_n C dX10_pour_6 rfl 1 rfl ?_
  refine x_iload_n C dX10_pour_7 rfl 2 rfl ?_
  obtain ⟨u2, hu2, hf⟩ := x_b hf
  refine x_callV (n := 2) (As := [.int x1, .int x2]) (rest := [.ref (b 0)]) C (c_X10_pours g l b u1.1 s x1 x2 hu2) ⟨⟨wd_1619, wd_1616, wd_78⟩, ⟨by decide, by decide, by decide⟩, rfl, rfl, Nat.le_of_ble_eq_true rfl, Nat.le_of_ble_eq_true rfl⟩ wd_1618 wd_34 ⟨0, 11, _, _, rfl, rfl, rfl⟩ [iaW g (b 2) 110 u1.2, iaW g (b 5) 880 p] (x_pickD [0, 1, 2, 3] 4 rfl rfl rfl) rfl rfl (Nat.le_of_ble_eq_true rfl) ⟨Nat.le_of_ble_eq_true rfl, Nat.le_of_ble_eq_true rfl⟩ dX10_pour_8 (x_goD (wss2 := [mdO g b u2.2.1, iaW g (b 1) 110 u2.2.2, iaW g (b 2) 110 u1.2, iaW g (b 5) 880 p]) (stk2 := [.int u2.1, .ref (b 0)]) rfl rfl ?_)
  obtain ⟨u3, hu3, hf⟩ := x_b hf
  refine x_callV (n := 1) (As := [.int u2.1]) (rest := []) C (c_X10_ends g l b u2.2.1 u1.2 p u2.1 hu3) ⟨⟨wd_1583, wd_1580, wd_78⟩, ⟨by decide, by decide, by decide⟩, rfl, rfl, Nat.le_of_ble_eq_true rfl, Nat.le_of_ble_eq_true rfl⟩ wd_1582 wd_28 ⟨0, 11, _, _, rfl, rfl, rfl⟩ [iaW g (b 1) 110 u2.2.2] (x_pickD [0, 2, 3, 1] 4 rfl rfl rfl) rfl rfl (Nat.le_of_ble_eq_true rfl) ⟨Nat.le_of_ble_eq_true rfl, Nat.le_of_ble_eq_true rfl⟩ dX10_pour_11 (x_goD (wss2 := [mdO g b u3.2.1, iaW g (b 2) 110 u1.2, iaW g (b 5) 880 u3.2.2, iaW g (b 1) 110 u2.2.2]) (stk2 := [.int u3.1]) rfl rfl ?_)
  refine x_perm (wss' := [mdO g b u3.2.1, iaW g (b 1) 110 u2.2.2, iaW g (b 2) 110 u1.2, iaW g (b 5) 880 u3.2.2]) (x_pick [0, 3, 1, 2] 4 rfl rfl rfl) ?_
  exact x_iret C hr ⟨by cases hf; rfl, by cases hf; rfl⟩ dX10_pour_14
theorem dX10_draws_0 : decode cX10_draws 0 = .ok (.aload_n 0, 1) := by decide +kernel
theorem dX10_draws_1 : decode cX10_draws 1 = .ok (.iload_n 1, 1) := by decide +kernel
theorem dX10_draws_2 : decode cX10_draws 2 = .ok (.iconst 0, 1) := by decide +kernel
theorem dX10_draws_3 : decode cX10_draws 3 = .ok (.iconst 3, 1) := by decide +kernel
theorem dX10_draws_4 : decode cX10_draws 4 = .ok (.invokestatic 51, 3) := by decide +kernel
theorem dX10_draws_7 : decode cX10_draws 7 = .ok (.ifCond .ne 7, 3) := by decide +kernel
theorem dX10_draws_10 : decode cX10_draws 10 = .ok (.iconst 1, 1) := by decide +kernel
theorem dX10_draws_11 : decode cX10_draws 11 = .ok (.goto 4, 3) := by decide +kernel
theorem dX10_draws_14 : decode cX10_draws 14 = .ok (.iconst 0, 1) := by decide +kernel
theorem dX10_draws_15 : decode cX10_draws 15 = .ok (.iconst 1, 1) := by decide +kernel
theorem dX10_draws_16 : decode cX10_draws 16 = .ok (.invokevirtual 63, 3) := by decide +kernel
theorem dX10_draws_19 : decode cX10_draws 19 = .ok (.ifCond .eq 5, 3) := by decide +kernel
theorem dX10_draws_22 : decode cX10_draws 22 = .ok (.iconst 0, 1) := by decide +kernel
theorem dX10_draws_23 : decode cX10_draws 23 = .ok (.ireturn, 1) := by decide +kernel
theorem dX10_draws_24 : decode cX10_draws 24 = .ok (.aload_n 0, 1) := by decide +kernel
theorem dX10_draws_25 : decode cX10_draws 25 = .ok (.getfield 9, 3) := by decide +kernel
theorem dX10_draws_28 : decode cX10_draws 28 = .ok (.iconst 1, 1) := by decide +kernel
theorem dX10_draws_29 : decode cX10_draws 29 = .ok (.iaload, 1) := by decide +kernel
theorem dX10_draws_30 : decode cX10_draws 30 = .ok (.istore_n 2, 1) := by decide +kernel
theorem dX10_draws_31 : decode cX10_draws 31 = .ok (.aload_n 0, 1) := by decide +kernel
theorem dX10_draws_32 : decode cX10_draws 32 = .ok (.getfield 9, 3) := by decide +kernel
theorem dX10_draws_35 : decode cX10_draws 35 = .ok (.iconst 1, 1) := by decide +kernel
theorem dX10_draws_36 : decode cX10_draws 36 = .ok (.iload_n 1, 1) := by decide +kernel
theorem dX10_draws_37 : decode cX10_draws 37 = .ok (.iastore, 1) := by decide +kernel
theorem dX10_draws_38 : decode cX10_draws 38 = .ok (.iload_n 2, 1) := by decide +kernel
theorem dX10_draws_39 : decode cX10_draws 39 = .ok (.ireturn, 1) := by decide +kernel
set_option maxHeartbeats 4000000 in
set_option maxRecDepth 100000 in
theorem c_X10_draws (g : xG) (l : Launch) (b : Nat → Nat) (m : MdT) (s : (Nat → Int32)) (x1 : Int32) {u : Int32 × MdT × (Nat → Int32)} (hf : f_X10_draws m s x1 = some u) : ConD g l yX10_draws cX10_draws 3 (some .int) ({ frames := 1, cells := 0, slots := 0, locals := 22 } : Room) [.ref (b 0), .int x1] [mdO g b m, iaW g (b 1) 110 s] (some (.int u.1)) [mdO g b u.2.1, iaW g (b 1) 110 u.2.2] := by
  unfold f_X10_draws at hf
  refine Con_of [mdO g b m, iaW g (b 1) 110 s] [(0, .ref (b 0)), (1, .int x1)] rfl rfl (by decide) (Nat.le_of_ble_eq_true rfl) ?_
  intro pW eW sW mW argsW belowW methW c9 C hnm hr
  have C : CX g RX10 cX10_draws 3 _ pW sW mW argsW methW c9 := C
  have hL15 : ∀ (mL : MdT) (sL : (Nat → Int32)) (x1 : Int32) (y0 : Int32), f_X10_draws_15 mL sL x1 y0 = some u → VW g (va_A ([mdO g b m, iaW g (b 1) 110 s] : List va_W).flatten sW.heap.size) 3 pW l eW ({ frames := 1, cells := 0, slots := 0, locals := 22 } : Room) sW mW argsW belowW methW c9 0 0 (MQ belowW (xQc g ([mdO g b m, iaW g (b 1) 110 s] : List va_W).flatten sW.heap.size (fun v9 w9 => v9 = some (.int u.1) ∧ w9 = ([mdO g b u.2.1, iaW g (b 1) 110 u.2.2] : List va_W).flatten)) argsW sW 0 0 (va_A ([mdO g b m, iaW g (b 1) 110 s] : List va_W).flatten sW.heap.size)) [mdO g b mL, iaW g (b 1) 110 sL] [(0, .ref (b 0)), (1, .int x1)] 15 [.int y0, .ref (b 0)] := by
    intro mL sL x1 y0 hf
    unfold f_X10_draws_15 at hf
    refine x_iconst (v := 1) C dX10_draws_15 (by decide) ?_
    obtain ⟨u1, hu1, hf⟩ := x_b hf
    refine x_callV (n := 2) (As := [.int y0, .int (1 : Int32)]) (rest := []) C (c_X10_isThrown g l b mL y0 (1 : Int32) hu1) ⟨⟨wd_1575, wd_1572, wd_78⟩, ⟨by decide, by decide, by decide⟩, rfl, rfl, Nat.le_of_ble_eq_true rfl, Nat.le_of_ble_eq_true rfl⟩ wd_1574 wd_26 ⟨0, 11, _, _, rfl, rfl, rfl⟩ [iaW g (b 1) 110 sL] (x_pickD [0, 1] 2 rfl rfl rfl) rfl rfl (Nat.le_of_ble_eq_true rfl) ⟨Nat.le_of_ble_eq_true rfl, Nat.le_of_ble_eq_true rfl⟩ dX10_draws_16 (x_goD (wss2 := [mdO g b u1.2, iaW g (b 1) 110 sL]) (stk2 := [.int u1.1]) rfl rfl ?_)
    refine x_if_eq (tgt := 24) C dX10_draws_19 (by decide) (fun h2 => ?_) (fun h2 => ?_)
    · have hf := x_t h2 hf
      refine x_aload_n C dX10_draws_24 rfl 0 rfl ?_
      refine x_get (ci := 11) (v := .ref (b 1)) (b := mdO g b u1.2) C ixX10 rfl 0 (by decide) wd_1492 (fun _ h => h) 0 rfl 0 (mdO_at0 g b _) rfl dX10_draws_25 ?_
      refine x_iconst (v := 1) C dX10_draws_28 (by decide) ?_
      obtain ⟨h3, hf⟩ := x_n hf
      refine x_iald (b := iaW g (b 1) 110 sL) C 1 rfl 0 (iaW_at0 g (b 1) 110 _) h3 dX10_draws_29 ?_
      refine x_istore_n (lv' := [(2, .int (sL (1 : Int32).toNatClampNeg)), (0, .ref (b 0)), (1, .int x1)]) C dX10_draws_30 rfl (by decide) rfl ?_
      refine x_aload_n C dX10_draws_31 rfl 1 rfl ?_
      refine x_get (ci := 11) (v := .ref (b 1)) (b := mdO g b u1.2) C ixX10 rfl 0 (by decide) wd_1492 (fun _ h => h) 0 rfl 0 (mdO_at0 g b _) rfl dX10_draws_32 ?_
      refine x_iconst (v := 1) C dX10_draws_35 (by decide) ?_
      refine x_iload_n C dX10_draws_36 rfl 2 rfl ?_
      obtain ⟨h4, hf⟩ := x_n hf
      refine x_iast (b := iaW g (b 1) 110 sL) (b' := iaW g (b 1) 110 (upd sL (1 : Int32).toNatClampNeg x1)) (wss' := [mdO g b u1.2, iaW g (b 1) 110 (upd sL (1 : Int32).toNatClampNeg x1)]) C 1 rfl 0 (iaW_at0 g (b 1) 110 _) h4 rfl rfl dX10_draws_37 ?_
      refine x_iload_n C dX10_draws_38 rfl 0 rfl ?_
      exact x_iret C hr ⟨by cases hf; rfl, by cases hf; rfl⟩ dX10_draws_39
    · have hf := x_f h2 hf
      refine x_iconst (v := 0) C dX10_draws_22 (by decide) ?_
      exact x_iret C hr ⟨by cases hf; rfl, by cases hf; rfl⟩ dX10_draws_23
  refine x_aload_n C dX10_draws_0 rfl 0 rfl ?_
  refine x_iload_n C dX10_draws_1 rfl 1 rfl ?_
  refine x_iconst (v := 0) C dX10_draws_2 (by decide) ?_
  refine x_iconst (v := 3) C dX10_draws_3 (by decide) ?_
  obtain ⟨u1, hu1, hf⟩ := x_b hf
  refine x_callS (n := 3) (As := [.int x1, .int (0 : Int32), .int (3 : Int32)]) (rest := [.ref (b 0)]) C (c_X10_isIn g l x1 (0 : Int32) (3 : Int32) hu1) ⟨⟨wd_1571, wd_1569, wd_78⟩, ⟨by decide, by decide, by decide⟩, rfl, rfl, Nat.le_of_ble_eq_true rfl, Nat.le_of_ble_eq_true rfl⟩ wd_1570 [mdO g b m, iaW g (b 1) 110 s] (x_pickD [0, 1] 2 rfl rfl rfl) rfl rfl (Nat.le_of_ble_eq_true rfl) ⟨Nat.le_of_ble_eq_true rfl, Nat.le_of_ble_eq_true rfl⟩ dX10_draws_4 (x_goD (wss2 := [mdO g b m, iaW g (b 1) 110 s]) (stk2 := [.int u1, .ref (b 0)]) rfl rfl ?_)
  refine x_if_ne (tgt := 14) C dX10_draws_7 (by decide) (fun h2 => ?_) (fun h2 => ?_)
  · have hf := x_f h2 hf
    refine x_iconst (v := 0) C dX10_draws_14 (by decide) ?_
    exact hL15 m s x1 (0 : Int32) hf
  · have hf := x_t h2 hf
    refine x_iconst (v := 1) C dX10_draws_10 (by decide) ?_
    refine x_goto (tgt := 15) C dX10_draws_11 (by decide) ?_
    exact hL15 m s x1 (1 : Int32) hf
theorem wd_35 : Cond.selects yX10_draws.cls yX10_draws yX10_draws ∈ xTB := xTB_in 35 (by decide +kernel) (by decide +kernel)
theorem wd_1624 : Cond.methodLink RX10 98 yX10_draws ∈ xTB := xTB_in 1624 (by decide +kernel) (by decide +kernel)
theorem wd_1626 : Cond.instanceMethod yX10_draws ∈ xTB := xTB_in 1626 (by decide +kernel) (by decide +kernel)
theorem wd_1627 : Cond.code yX10_draws cX10_draws 3 (some .int) ∈ xTB := xTB_in 1627 (by decide +kernel) (by decide +kernel)
theorem dX10_setDraught_0 : decode cX10_setDraught 0 = .ok (.aload_n 0, 1) := by decide +kernel
theorem dX10_setDraught_1 : decode cX10_setDraught 1 = .ok (.invokevirtual 71, 3) := by decide +kernel
theorem dX10_setDraught_4 : decode cX10_setDraught 4 = .ok (.aload_n 0, 1) := by decide +kernel
theorem dX10_setDraught_5 : decode cX10_setDraught 5 = .ok (.aload_n 0, 1) := by decide +kernel
theorem dX10_setDraught_6 : decode cX10_setDraught 6 = .ok (.iload_n 1, 1) := by decide +kernel
theorem dX10_setDraught_7 : decode cX10_setDraught 7 = .ok (.invokevirtual 98, 3) := by decide +kernel
theorem dX10_setDraught_10 : decode cX10_setDraught 10 = .ok (.invokevirtual 78, 3) := by decide +kernel
theorem dX10_setDraught_13 : decode cX10_setDraught 13 = .ok (.ireturn, 1) := by decide +kernel
set_option maxHeartbeats 4000000 in
set_option maxRecDepth 100000 in
theorem c_X10_setDraught (g : xG) (l : Launch) (b : Nat → Nat) (m : MdT) (s : (Nat → Int32)) (w : (Nat → Int32)) (p : (Nat → Int32)) (x1 : Int32) {u : Int32 × MdT × (Nat → Int32) × (Nat → Int32) × (Nat → Int32)} (hf : f_X10_setDraught m s w p x1 = some u) : ConD g l yX10_setDraught cX10_setDraught 2 (some .int) ({ frames := 2, cells := 0, slots := 0, locals := 46 } : Room) [.ref (b 0), .int x1] [mdO g b m, iaW g (b 1) 110 s, iaW g (b 2) 110 w, iaW g (b 5) 880 p] (some (.int u.1)) [mdO g b u.2.1, iaW g (b 1) 110 u.2.2.1, iaW g (b 2) 110 u.2.2.2.1, iaW g (b 5) 880 u.2.2.2.2] := by
  unfold f_X10_setDraught at hf
  refine Con_of [mdO g b m, iaW g (b 1) 110 s, iaW g (b 2) 110 w, iaW g (b 5) 880 p] [(0, .ref (b 0)), (1, .int x1)] rfl rfl (by decide) (Nat.le_of_ble_eq_true rfl) ?_
  intro pW eW sW mW argsW belowW methW c9 C hnm hr
  have C : CX g RX10 cX10_setDraught 2 _ pW sW mW argsW methW c9 := C
  refine x_aload_n C dX10_setDraught_0 rfl 0 rfl ?_
  obtain ⟨u1, hu1, hf⟩ := x_b hf
  refine x_callV (n := 0) (As := []) (rest := []) C (c_X10_keeps g l b m s w hu1) ⟨⟨wd_1558, wd_1555, wd_78⟩, ⟨by decide, by decide, by decide⟩, rfl, rfl, Nat.le_of_ble_eq_true rfl, Nat.le_of_ble_eq_true rfl⟩ wd_1557 wd_24 ⟨0, 11, _, _, rfl, rfl, rfl⟩ [iaW g (b 5) 880 p] (x_pickD [0, 1, 2, 3] 4 rfl rfl rfl) rfl rfl (Nat.le_of_ble_eq_true rfl) ⟨Nat.le_of_ble_eq_true rfl, Nat.le_of_ble_eq_true rfl⟩ dX10_setDraught_1 (x_goD (wss2 := [mdO g b u1.1, iaW g (b 1) 110 s, iaW g (b 2) 110 u1.2, iaW g (b 5) 880 p]) (stk2 := []) rfl rfl ?_)
  refine x_aload_n C dX10_setDraught_4 rfl 0 rfl ?_
  refine x_aload_n C dX10_setDraught_5 rfl 0 rfl ?_
  refine x_iload_n C dX10_setDraught_6 rfl 1 rfl ?_
  obtain ⟨u2, hu2, hf⟩ := x_b hf
  refine x_callV (n := 1) (As := [.int x1]) (rest := [.ref (b 0)]) C (c_X10_draws g l b u1.1 s x1 hu2) ⟨⟨wd_1627, wd_1624, wd_78⟩, ⟨by decide, by decide, by decide⟩, rfl, rfl, Nat.le_of_ble_eq_true rfl, Nat.le_of_ble_eq_true rfl⟩ wd_1626 wd_35 ⟨0, 11, _, _, rfl, rfl, rfl⟩ [iaW g (b 2) 110 u1.2, iaW g (b 5) 880 p] (x_pickD [0, 1, 2, 3] 4 rfl rfl rfl) rfl rfl (Nat.le_of_ble_eq_true rfl) ⟨Nat.le_of_ble_eq_true rfl, Nat.le_of_ble_eq_true rfl⟩ dX10_setDraught_7 (x_goD (wss2 := [mdO g b u2.2.1, iaW g (b 1) 110 u2.2.2, iaW g (b 2) 110 u1.2, iaW g (b 5) 880 p]) (stk2 := [.int u2.1, .ref (b 0)]) rfl rfl ?_)
  obtain ⟨u3, hu3, hf⟩ := x_b hf
  refine x_callV (n := 1) (As := [.int u2.1]) (rest := []) C (c_X10_ends g l b u2.2.1 u1.2 p u2.1 hu3) ⟨⟨wd_1583, wd_1580, wd_78⟩, ⟨by decide, by decide, by decide⟩, rfl, rfl, Nat.le_of_ble_eq_true rfl, Nat.le_of_ble_eq_true rfl⟩ wd_1582 wd_28 ⟨0, 11, _, _, rfl, rfl, rfl⟩ [iaW g (b 1) 110 u2.2.2] (x_pickD [0, 2, 3, 1] 4 rfl rfl rfl) rfl rfl (Nat.le_of_ble_eq_true rfl) ⟨Nat.le_of_ble_eq_true rfl, Nat.le_of_ble_eq_true rfl⟩ dX10_setDraught_10 (x_goD (wss2 := [mdO g b u3.2.1, iaW g (b 2) 110 u1.2, iaW g (b 5) 880 u3.2.2, iaW g (b 1) 110 u2.2.2]) (stk2 := [.int u3.1]) rfl rfl ?_)
  refine x_perm (wss' := [mdO g b u3.2.1, iaW g (b 1) 110 u2.2.2, iaW g (b 2) 110 u1.2, iaW g (b 5) 880 u3.2.2]) (x_pick [0, 3, 1, 2] 4 rfl rfl rfl) ?_
  exact x_iret C hr ⟨by cases hf; rfl, by cases hf; rfl⟩ dX10_setDraught_13
theorem wd_37 : Cond.selects yX10_ofEvent.cls yX10_ofEvent yX10_ofEvent ∈ xTB := xTB_in 37 (by decide +kernel) (by decide +kernel)
theorem wd_1636 : Cond.methodLink RX10 101 yX10_ofEvent ∈ xTB := xTB_in 1636 (by decide +kernel) (by decide +kernel)
theorem wd_1638 : Cond.instanceMethod yX10_ofEvent ∈ xTB := xTB_in 1638 (by decide +kernel) (by decide +kernel)
theorem wd_1639 : Cond.code yX10_ofEvent cX10_ofEvent 3 (some .int) ∈ xTB := xTB_in 1639 (by decide +kernel) (by decide +kernel)
theorem dX10_plans_0 : decode cX10_plans 0 = .ok (.aload_n 0, 1) := by decide +kernel
theorem dX10_plans_1 : decode cX10_plans 1 = .ok (.iload_n 1, 1) := by decide +kernel
theorem dX10_plans_2 : decode cX10_plans 2 = .ok (.aload_n 0, 1) := by decide +kernel
theorem dX10_plans_3 : decode cX10_plans 3 = .ok (.getfield 9, 3) := by decide +kernel
theorem dX10_plans_6 : decode cX10_plans 6 = .ok (.iconst 0, 1) := by decide +kernel
theorem dX10_plans_7 : decode cX10_plans 7 = .ok (.iaload, 1) := by decide +kernel
theorem dX10_plans_8 : decode cX10_plans 8 = .ok (.iconst 1, 1) := by decide +kernel
theorem dX10_plans_9 : decode cX10_plans 9 = .ok (.iadd, 1) := by decide +kernel
theorem dX10_plans_10 : decode cX10_plans 10 = .ok (.aload_n 0, 1) := by decide +kernel
theorem dX10_plans_11 : decode cX10_plans 11 = .ok (.getfield 9, 3) := by decide +kernel
theorem dX10_plans_14 : decode cX10_plans 14 = .ok (.iconst 0, 1) := by decide +kernel
theorem dX10_plans_15 : decode cX10_plans 15 = .ok (.iaload, 1) := by decide +kernel
theorem dX10_plans_16 : decode cX10_plans 16 = .ok (.sipush 999, 3) := by decide +kernel
theorem dX10_plans_19 : decode cX10_plans 19 = .ok (.iadd, 1) := by decide +kernel
theorem dX10_plans_20 : decode cX10_plans 20 = .ok (.invokestatic 51, 3) := by decide +kernel
theorem dX10_plans_23 : decode cX10_plans 23 = .ok (.ifCond .ne 7, 3) := by decide +kernel
theorem dX10_plans_26 : decode cX10_plans 26 = .ok (.iconst 1, 1) := by decide +kernel
theorem dX10_plans_27 : decode cX10_plans 27 = .ok (.goto 4, 3) := by decide +kernel
theorem dX10_plans_30 : decode cX10_plans 30 = .ok (.iconst 0, 1) := by decide +kernel
theorem dX10_plans_31 : decode cX10_plans 31 = .ok (.iconst 1, 1) := by decide +kernel
theorem dX10_plans_32 : decode cX10_plans 32 = .ok (.invokevirtual 63, 3) := by decide +kernel
theorem dX10_plans_35 : decode cX10_plans 35 = .ok (.ifCond .ne 48, 3) := by decide +kernel
theorem dX10_plans_38 : decode cX10_plans 38 = .ok (.aload_n 0, 1) := by decide +kernel
theorem dX10_plans_39 : decode cX10_plans 39 = .ok (.aload_n 0, 1) := by decide +kernel
theorem dX10_plans_40 : decode cX10_plans 40 = .ok (.iload_n 2, 1) := by decide +kernel
theorem dX10_plans_41 : decode cX10_plans 41 = .ok (.invokevirtual 82, 3) := by decide +kernel
theorem dX10_plans_44 : decode cX10_plans 44 = .ok (.ifCond .ne 7, 3) := by decide +kernel
theorem dX10_plans_47 : decode cX10_plans 47 = .ok (.iconst 1, 1) := by decide +kernel
theorem dX10_plans_48 : decode cX10_plans 48 = .ok (.goto 4, 3) := by decide +kernel
theorem dX10_plans_51 : decode cX10_plans 51 = .ok (.iconst 0, 1) := by decide +kernel
theorem dX10_plans_52 : decode cX10_plans 52 = .ok (.iconst 2, 1) := by decide +kernel
theorem dX10_plans_53 : decode cX10_plans 53 = .ok (.invokevirtual 63, 3) := by decide +kernel
theorem dX10_plans_56 : decode cX10_plans 56 = .ok (.ifCond .ne 27, 3) := by decide +kernel
theorem dX10_plans_59 : decode cX10_plans 59 = .ok (.aload_n 0, 1) := by decide +kernel
theorem dX10_plans_60 : decode cX10_plans 60 = .ok (.aload_n 0, 1) := by decide +kernel
theorem dX10_plans_61 : decode cX10_plans 61 = .ok (.getfield 9, 3) := by decide +kernel
theorem dX10_plans_64 : decode cX10_plans 64 = .ok (.iconst 4, 1) := by decide +kernel
theorem dX10_plans_65 : decode cX10_plans 65 = .ok (.iaload, 1) := by decide +kernel
theorem dX10_plans_66 : decode cX10_plans 66 = .ok (.bipush 20, 2) := by decide +kernel
theorem dX10_plans_68 : decode cX10_plans 68 = .ok (.if_icmp .ne 7, 3) := by decide +kernel
theorem dX10_plans_71 : decode cX10_plans 71 = .ok (.iconst 1, 1) := by decide +kernel
theorem dX10_plans_72 : decode cX10_plans 72 = .ok (.goto 4, 3) := by decide +kernel
theorem dX10_plans_75 : decode cX10_plans 75 = .ok (.iconst 0, 1) := by decide +kernel
theorem dX10_plans_76 : decode cX10_plans 76 = .ok (.iconst 3, 1) := by decide +kernel
theorem dX10_plans_77 : decode cX10_plans 77 = .ok (.invokevirtual 63, 3) := by decide +kernel
theorem dX10_plans_80 : decode cX10_plans 80 = .ok (.ifCond .eq 5, 3) := by decide +kernel
theorem dX10_plans_83 : decode cX10_plans 83 = .ok (.iconst 0, 1) := by decide +kernel
theorem dX10_plans_84 : decode cX10_plans 84 = .ok (.ireturn, 1) := by decide +kernel
theorem dX10_plans_85 : decode cX10_plans 85 = .ok (.aload_n 0, 1) := by decide +kernel
theorem dX10_plans_86 : decode cX10_plans 86 = .ok (.getfield 9, 3) := by decide +kernel
theorem dX10_plans_89 : decode cX10_plans 89 = .ok (.iconst 4, 1) := by decide +kernel
theorem dX10_plans_90 : decode cX10_plans 90 = .ok (.iaload, 1) := by decide +kernel
theorem dX10_plans_91 : decode cX10_plans 91 = .ok (.istore 4, 2) := by decide +kernel
theorem dX10_plans_93 : decode cX10_plans 93 = .ok (.iload 4, 2) := by decide +kernel
theorem dX10_plans_95 : decode cX10_plans 95 = .ok (.ifCond .le 62, 3) := by decide +kernel
theorem dX10_plans_98 : decode cX10_plans 98 = .ok (.aload_n 0, 1) := by decide +kernel
theorem dX10_plans_99 : decode cX10_plans 99 = .ok (.iload 4, 2) := by decide +kernel
theorem dX10_plans_101 : decode cX10_plans 101 = .ok (.iconst 1, 1) := by decide +kernel
theorem dX10_plans_102 : decode cX10_plans 102 = .ok (.isub, 1) := by decide +kernel
theorem dX10_plans_103 : decode cX10_plans 103 = .ok (.iconst 0, 1) := by decide +kernel
theorem dX10_plans_104 : decode cX10_plans 104 = .ok (.invokevirtual 101, 3) := by decide +kernel
theorem dX10_plans_107 : decode cX10_plans 107 = .ok (.iload_n 1, 1) := by decide +kernel
theorem dX10_plans_108 : decode cX10_plans 108 = .ok (.if_icmp .le 49, 3) := by decide +kernel
theorem dX10_plans_111 : decode cX10_plans 111 = .ok (.iconst 0, 1) := by decide +kernel
theorem dX10_plans_112 : decode cX10_plans 112 = .ok (.istore 5, 2) := by decide +kernel
theorem dX10_plans_114 : decode cX10_plans 114 = .ok (.iload 5, 2) := by decide +kernel
theorem dX10_plans_116 : decode cX10_plans 116 = .ok (.iconst 3, 1) := by decide +kernel
theorem dX10_plans_117 : decode cX10_plans 117 = .ok (.if_icmp .ge 34, 3) := by decide +kernel
theorem dX10_plans_120 : decode cX10_plans 120 = .ok (.aload_n 0, 1) := by decide +kernel
theorem dX10_plans_121 : decode cX10_plans 121 = .ok (.getfield 9, 3) := by decide +kernel
theorem dX10_plans_124 : decode cX10_plans 124 = .ok (.bipush 50, 2) := by decide +kernel
theorem dX10_plans_126 : decode cX10_plans 126 = .ok (.iconst 3, 1) := by decide +kernel
theorem dX10_plans_127 : decode cX10_plans 127 = .ok (.iload 4, 2) := by decide +kernel
theorem dX10_plans_129 : decode cX10_plans 129 = .ok (.imul, 1) := by decide +kernel
theorem dX10_plans_130 : decode cX10_plans 130 = .ok (.iadd, 1) := by decide +kernel
theorem dX10_plans_131 : decode cX10_plans 131 = .ok (.iload 5, 2) := by decide +kernel
theorem dX10_plans_133 : decode cX10_plans 133 = .ok (.iadd, 1) := by decide +kernel
theorem dX10_plans_134 : decode cX10_plans 134 = .ok (.aload_n 0, 1) := by decide +kernel
theorem dX10_plans_135 : decode cX10_plans 135 = .ok (.iload 4, 2) := by decide +kernel
theorem dX10_plans_137 : decode cX10_plans 137 = .ok (.iconst 1, 1) := by decide +kernel
theorem dX10_plans_138 : decode cX10_plans 138 = .ok (.isub, 1) := by decide +kernel
theorem dX10_plans_139 : decode cX10_plans 139 = .ok (.iload 5, 2) := by decide +kernel
theorem dX10_plans_141 : decode cX10_plans 141 = .ok (.invokevirtual 101, 3) := by decide +kernel
theorem dX10_plans_144 : decode cX10_plans 144 = .ok (.iastore, 1) := by decide +kernel
theorem dX10_plans_145 : decode cX10_plans 145 = .ok (.iinc 5 1, 3) := by decide +kernel
theorem dX10_plans_148 : decode cX10_plans 148 = .ok (.goto (-34), 3) := by decide +kernel
theorem dX10_plans_151 : decode cX10_plans 151 = .ok (.iinc 4 (-1), 3) := by decide +kernel
theorem dX10_plans_154 : decode cX10_plans 154 = .ok (.goto (-61), 3) := by decide +kernel
theorem dX10_plans_157 : decode cX10_plans 157 = .ok (.aload_n 0, 1) := by decide +kernel
theorem dX10_plans_158 : decode cX10_plans 158 = .ok (.getfield 9, 3) := by decide +kernel
theorem dX10_plans_161 : decode cX10_plans 161 = .ok (.bipush 50, 2) := by decide +kernel
theorem dX10_plans_163 : decode cX10_plans 163 = .ok (.iconst 3, 1) := by decide +kernel
theorem dX10_plans_164 : decode cX10_plans 164 = .ok (.iload 4, 2) := by decide +kernel
theorem dX10_plans_166 : decode cX10_plans 166 = .ok (.imul, 1) := by decide +kernel
theorem dX10_plans_167 : decode cX10_plans 167 = .ok (.iadd, 1) := by decide +kernel
theorem dX10_plans_168 : decode cX10_plans 168 = .ok (.iconst 0, 1) := by decide +kernel
theorem dX10_plans_169 : decode cX10_plans 169 = .ok (.iadd, 1) := by decide +kernel
theorem dX10_plans_170 : decode cX10_plans 170 = .ok (.iload_n 1, 1) := by decide +kernel
theorem dX10_plans_171 : decode cX10_plans 171 = .ok (.iastore, 1) := by decide +kernel
theorem dX10_plans_172 : decode cX10_plans 172 = .ok (.aload_n 0, 1) := by decide +kernel
theorem dX10_plans_173 : decode cX10_plans 173 = .ok (.getfield 9, 3) := by decide +kernel
theorem dX10_plans_176 : decode cX10_plans 176 = .ok (.bipush 50, 2) := by decide +kernel
theorem dX10_plans_178 : decode cX10_plans 178 = .ok (.iconst 3, 1) := by decide +kernel
theorem dX10_plans_179 : decode cX10_plans 179 = .ok (.iload 4, 2) := by decide +kernel
theorem dX10_plans_181 : decode cX10_plans 181 = .ok (.imul, 1) := by decide +kernel
theorem dX10_plans_182 : decode cX10_plans 182 = .ok (.iadd, 1) := by decide +kernel
theorem dX10_plans_183 : decode cX10_plans 183 = .ok (.iconst 1, 1) := by decide +kernel
theorem dX10_plans_184 : decode cX10_plans 184 = .ok (.iadd, 1) := by decide +kernel
theorem dX10_plans_185 : decode cX10_plans 185 = .ok (.iload_n 2, 1) := by decide +kernel
theorem dX10_plans_186 : decode cX10_plans 186 = .ok (.iastore, 1) := by decide +kernel
theorem dX10_plans_187 : decode cX10_plans 187 = .ok (.aload_n 0, 1) := by decide +kernel
theorem dX10_plans_188 : decode cX10_plans 188 = .ok (.getfield 9, 3) := by decide +kernel
theorem dX10_plans_191 : decode cX10_plans 191 = .ok (.bipush 50, 2) := by decide +kernel
theorem dX10_plans_193 : decode cX10_plans 193 = .ok (.iconst 3, 1) := by decide +kernel
theorem dX10_plans_194 : decode cX10_plans 194 = .ok (.iload 4, 2) := by decide +kernel
theorem dX10_plans_196 : decode cX10_plans 196 = .ok (.imul, 1) := by decide +kernel
theorem dX10_plans_197 : decode cX10_plans 197 = .ok (.iadd, 1) := by decide +kernel
theorem dX10_plans_198 : decode cX10_plans 198 = .ok (.iconst 2, 1) := by decide +kernel
theorem dX10_plans_199 : decode cX10_plans 199 = .ok (.iadd, 1) := by decide +kernel
theorem dX10_plans_200 : decode cX10_plans 200 = .ok (.iload_n 3, 1) := by decide +kernel
theorem dX10_plans_201 : decode cX10_plans 201 = .ok (.iastore, 1) := by decide +kernel
theorem dX10_plans_202 : decode cX10_plans 202 = .ok (.aload_n 0, 1) := by decide +kernel
theorem dX10_plans_203 : decode cX10_plans 203 = .ok (.getfield 9, 3) := by decide +kernel
theorem dX10_plans_206 : decode cX10_plans 206 = .ok (.iconst 4, 1) := by decide +kernel
theorem dX10_plans_207 : decode cX10_plans 207 = .ok (.dup2, 1) := by decide +kernel
theorem dX10_plans_208 : decode cX10_plans 208 = .ok (.iaload, 1) := by decide +kernel
theorem dX10_plans_209 : decode cX10_plans 209 = .ok (.iconst 1, 1) := by decide +kernel
theorem dX10_plans_210 : decode cX10_plans 210 = .ok (.iadd, 1) := by decide +kernel
theorem dX10_plans_211 : decode cX10_plans 211 = .ok (.iastore, 1) := by decide +kernel
theorem dX10_plans_212 : decode cX10_plans 212 = .ok (.iload 4, 2) := by decide +kernel
theorem dX10_plans_214 : decode cX10_plans 214 = .ok (.ireturn, 1) := by decide +kernel
set_option maxHeartbeats 4000000 in
set_option maxRecDepth 100000 in
theorem c_X10_plans (g : xG) (l : Launch) (b : Nat → Nat) (m : MdT) (s : (Nat → Int32)) (x1 : Int32) (x2 : Int32) (x3 : Int32) {u : Int32 × MdT × (Nat → Int32)} (hf : f_X10_plans m s x1 x2 x3 = some u) : ConD g l yX10_plans cX10_plans 6 (some .int) ({ frames := 2, cells := 0, slots := 0, locals := 43 } : Room) [.ref (b 0), .int x1, .int x2, .int x3] [mdO g b m, iaW g (b 1) 110 s] (some (.int u.1)) [mdO g b u.2.1, iaW g (b 1) 110 u.2.2] := by
  unfold f_X10_plans at hf
  refine Con_of [mdO g b m, iaW g (b 1) 110 s] [(0, .ref (b 0)), (1, .int x1), (2, .int x2), (3, .int x3)] rfl rfl (by decide) (Nat.le_of_ble_eq_true rfl) ?_
  intro pW eW sW mW argsW belowW methW c9 C hnm hr
  have C : CX g RX10 cX10_plans 6 _ pW sW mW argsW methW c9 := C
  have hL157 : ∀ (mL : MdT) (sL : (Nat → Int32)) (x1 : Int32) (x2 : Int32) (x3 : Int32) (x4 : Int32), f_X10_plans_157 mL sL x1 x2 x3 x4 = some u → VW g (va_A ([mdO g b m, iaW g (b 1) 110 s] : List va_W).flatten sW.heap.size) 6 pW l eW ({ frames := 2, cells := 0, slots := 0, locals := 43 } : Room) sW mW argsW belowW methW c9 0 0 (MQ belowW (xQc g ([mdO g b m, iaW g (b 1) 110 s] : List va_W).flatten sW.heap.size (fun v9 w9 => v9 = some (.int u.1) ∧ w9 = ([mdO g b u.2.1, iaW g (b 1) 110 u.2.2] : List va_W).flatten)) argsW sW 0 0 (va_A ([mdO g b m, iaW g (b 1) 110 s] : List va_W).flatten sW.heap.size)) [mdO g b mL, iaW g (b 1) 110 sL] [(0, .ref (b 0)), (1, .int x1), (2, .int x2), (3, .int x3), (4, .int x4)] 157 [] := by
    intro mL sL x1 x2 x3 x4 hf
    unfold f_X10_plans_157 at hf
    refine x_aload_n C dX10_plans_157 rfl 0 rfl ?_
    refine x_get (ci := 11) (v := .ref (b 1)) (b := mdO g b mL) C ixX10 rfl 0 (by decide) wd_1492 (fun _ h => h) 0 rfl 0 (mdO_at0 g b _) rfl dX10_plans_158 ?_
    refine x_bipush (v := 50) C dX10_plans_161 (by decide) ?_
    refine x_iconst (v := 3) C dX10_plans_163 (by decide) ?_
    refine x_iload C dX10_plans_164 4 rfl ?_
    refine x_imul C dX10_plans_166 ?_
    refine x_iadd C dX10_plans_167 ?_
    refine x_iconst (v := 0) C dX10_plans_168 (by decide) ?_
    refine x_iadd C dX10_plans_169 ?_
    refine x_iload_n C dX10_plans_170 rfl 1 rfl ?_
    obtain ⟨h1, hf⟩ := x_n hf
    refine x_iast (b := iaW g (b 1) 110 sL) (b' := iaW g (b 1) 110 (upd sL (((50 : Int32) + ((3 : Int32) * x4)) + (0 : Int32)).toNatClampNeg x1)) (wss' := [mdO g b mL, iaW g (b 1) 110 (upd sL (((50 : Int32) + ((3 : Int32) * x4)) + (0 : Int32)).toNatClampNeg x1)]) C 1 rfl 0 (iaW_at0 g (b 1) 110 _) h1 rfl rfl dX10_plans_171 ?_
    refine x_aload_n C dX10_plans_172 rfl 0 rfl ?_
    refine x_get (ci := 11) (v := .ref (b 1)) (b := mdO g b mL) C ixX10 rfl 0 (by decide) wd_1492 (fun _ h => h) 0 rfl 0 (mdO_at0 g b _) rfl dX10_plans_173 ?_
    refine x_bipush (v := 50) C dX10_plans_176 (by decide) ?_
    refine x_iconst (v := 3) C dX10_plans_178 (by decide) ?_
    refine x_iload C dX10_plans_179 4 rfl ?_
    refine x_imul C dX10_plans_181 ?_
    refine x_iadd C dX10_plans_182 ?_
    refine x_iconst (v := 1) C dX10_plans_183 (by decide) ?_
    refine x_iadd C dX10_plans_184 ?_
    refine x_iload_n C dX10_plans_185 rfl 2 rfl ?_
    obtain ⟨h2, hf⟩ := x_n hf
    refine x_iast (b := iaW g (b 1) 110 (upd sL (((50 : Int32) + ((3 : Int32) * x4)) + (0 : Int32)).toNatClampNeg x1)) (b' := iaW g (b 1) 110 (upd (upd sL (((50 : Int32) + ((3 : Int32) * x4)) + (0 : Int32)).toNatClampNeg x1) (((50 : Int32) + ((3 : Int32) * x4)) + (1 : Int32)).toNatClampNeg x2)) (wss' := [mdO g b mL, iaW g (b 1) 110 (upd (upd sL (((50 : Int32) + ((3 : Int32) * x4)) + (0 : Int32)).toNatClampNeg x1) (((50 : Int32) + ((3 : Int32) * x4)) + (1 : Int32)).toNatClampNeg x2)]) C 1 rfl 0 (iaW_at0 g (b 1) 110 _) h2 rfl rfl dX10_plans_186 ?_
    refine x_aload_n C dX10_plans_187 rfl 0 rfl ?_
    refine x_get (ci := 11) (v := .ref (b 1)) (b := mdO g b mL) C ixX10 rfl 0 (by decide) wd_1492 (fun _ h => h) 0 rfl 0 (mdO_at0 g b _) rfl dX10_plans_188 ?_
    refine x_bipush (v := 50) C dX10_plans_191 (by decide) ?_
    refine x_iconst (v := 3) C dX10_plans_193 (by decide) ?_
    refine x_iload C dX10_plans_194 4 rfl ?_
    refine x_imul C dX10_plans_196 ?_
    refine x_iadd C dX10_plans_197 ?_
    refine x_iconst (v := 2) C dX10_plans_198 (by decide) ?_
    refine x_iadd C dX10_plans_199 ?_
    refine x_iload_n C dX10_plans_200 rfl 3 rfl ?_
    obtain ⟨h3, hf⟩ := x_n hf
    refine x_iast (b := iaW g (b 1) 110 (upd (upd sL (((50 : Int32) + ((3 : Int32) * x4)) + (0 : Int32)).toNatClampNeg x1) (((50 : Int32) + ((3 : Int32) * x4)) + (1 : Int32)).toNatClampNeg x2)) (b' := iaW g (b 1) 110 (upd (upd (upd sL (((50 : Int32) + ((3 : Int32) * x4)) + (0 : Int32)).toNatClampNeg x1) (((50 : Int32) + ((3 : Int32) * x4)) + (1 : Int32)).toNatClampNeg x2) (((50 : Int32) + ((3 : Int32) * x4)) + (2 : Int32)).toNatClampNeg x3)) (wss' := [mdO g b mL, iaW g (b 1) 110 (upd (upd (upd sL (((50 : Int32) + ((3 : Int32) * x4)) + (0 : Int32)).toNatClampNeg x1) (((50 : Int32) + ((3 : Int32) * x4)) + (1 : Int32)).toNatClampNeg x2) (((50 : Int32) + ((3 : Int32) * x4)) + (2 : Int32)).toNatClampNeg x3)]) C 1 rfl 0 (iaW_at0 g (b 1) 110 _) h3 rfl rfl dX10_plans_201 ?_
    refine x_aload_n C dX10_plans_202 rfl 0 rfl ?_
    refine x_get (ci := 11) (v := .ref (b 1)) (b := mdO g b mL) C ixX10 rfl 0 (by decide) wd_1492 (fun _ h => h) 0 rfl 0 (mdO_at0 g b _) rfl dX10_plans_203 ?_
    refine x_iconst (v := 4) C dX10_plans_206 (by decide) ?_
    refine x_dup2_11 C dX10_plans_207 rfl rfl ?_
    obtain ⟨h4, hf⟩ := x_n hf
    refine x_iald (b := iaW g (b 1) 110 (upd (upd (upd sL (((50 : Int32) + ((3 : Int32) * x4)) + (0 : Int32)).toNatClampNeg x1) (((50 : Int32) + ((3 : Int32) * x4)) + (1 : Int32)).toNatClampNeg x2) (((50 : Int32) + ((3 : Int32) * x4)) + (2 : Int32)).toNatClampNeg x3)) C 1 rfl 0 (iaW_at0 g (b 1) 110 _) h4 dX10_plans_208 ?_
    refine x_iconst (v := 1) C dX10_plans_209 (by decide) ?_
    refine x_iadd C dX10_plans_210 ?_
    obtain ⟨h5, hf⟩ := x_n hf
    refine x_iast (b := iaW g (b 1) 110 (upd (upd (upd sL (((50 : Int32) + ((3 : Int32) * x4)) + (0 : Int32)).toNatClampNeg x1) (((50 : Int32) + ((3 : Int32) * x4)) + (1 : Int32)).toNatClampNeg x2) (((50 : Int32) + ((3 : Int32) * x4)) + (2 : Int32)).toNatClampNeg x3)) (b' := iaW g (b 1) 110 (upd (upd (upd (upd sL (((50 : Int32) + ((3 : Int32) * x4)) + (0 : Int32)).toNatClampNeg x1) (((50 : Int32) + ((3 : Int32) * x4)) + (1 : Int32)).toNatClampNeg x2) (((50 : Int32) + ((3 : Int32) * x4)) + (2 : Int32)).toNatClampNeg x3) (4 : Int32).toNatClampNeg (((upd (upd (upd sL (((50 : Int32) + ((3 : Int32) * x4)) + (0 : Int32)).toNatClampNeg x1) (((50 : Int32) + ((3 : Int32) * x4)) + (1 : Int32)).toNatClampNeg x2) (((50 : Int32) + ((3 : Int32) * x4)) + (2 : Int32)).toNatClampNeg x3) (4 : Int32).toNatClampNeg) + (1 : Int32)))) (wss' := [mdO g b mL, iaW g (b 1) 110 (upd (upd (upd (upd sL (((50 : Int32) + ((3 : Int32) * x4)) + (0 : Int32)).toNatClampNeg x1) (((50 : Int32) + ((3 : Int32) * x4)) + (1 : Int32)).toNatClampNeg x2) (((50 : Int32) + ((3 : Int32) * x4)) + (2 : Int32)).toNatClampNeg x3) (4 : Int32).toNatClampNeg (((upd (upd (upd sL (((50 : Int32) + ((3 : Int32) * x4)) + (0 : Int32)).toNatClampNeg x1) (((50 : Int32) + ((3 : Int32) * x4)) + (1 : Int32)).toNatClampNeg x2) (((50 : Int32) + ((3 : Int32) * x4)) + (2 : Int32)).toNatClampNeg x3) (4 : Int32).toNatClampNeg) + (1 : Int32)))]) C 1 rfl 0 (iaW_at0 g (b 1) 110 _) h5 rfl rfl dX10_plans_211 ?_
    refine x_iload C dX10_plans_212 4 rfl ?_
    exact x_iret C hr ⟨by cases hf; rfl, by cases hf; rfl⟩ dX10_plans_214
  have hL114 : ∀ (nW : Nat) (mL : MdT) (sL : (Nat → Int32)) (x1 : Int32) (x2 : Int32) (x3 : Int32) (x4 : Int32) (x5 : Int32) (oW : MdT × (Nat → Int32)), f_X10_plans_114 nW mL sL x1 x2 x3 x4 x5 = some oW → (VW g (va_A ([mdO g b m, iaW g (b 1) 110 s] : List va_W).flatten sW.heap.size) 6 pW l eW ({ frames := 2, cells := 0, slots := 0, locals := 43 } : Room) sW mW argsW belowW methW c9 0 0 (MQ belowW (xQc g ([mdO g b m, iaW g (b 1) 110 s] : List va_W).flatten sW.heap.size (fun v9 w9 => v9 = some (.int u.1) ∧ w9 = ([mdO g b u.2.1, iaW g (b 1) 110 u.2.2] : List va_W).flatten)) argsW sW 0 0 (va_A ([mdO g b m, iaW g (b 1) 110 s] : List va_W).flatten sW.heap.size)) [mdO g b oW.1, iaW g (b 1) 110 oW.2] [(0, .ref (b 0)), (1, .int x1), (2, .int x2), (3, .int x3), (4, .int x4)] 151 []) → VW g (va_A ([mdO g b m, iaW g (b 1) 110 s] : List va_W).flatten sW.heap.size) 6 pW l eW ({ frames := 2, cells := 0, slots := 0, locals := 43 } : Room) sW mW argsW belowW methW c9 0 0 (MQ belowW (xQc g ([mdO g b m, iaW g (b 1) 110 s] : List va_W).flatten sW.heap.size (fun v9 w9 => v9 = some (.int u.1) ∧ w9 = ([mdO g b u.2.1, iaW g (b 1) 110 u.2.2] : List va_W).flatten)) argsW sW 0 0 (va_A ([mdO g b m, iaW g (b 1) 110 s] : List va_W).flatten sW.heap.size)) [mdO g b mL, iaW g (b 1) 110 sL] [(0, .ref (b 0)), (1, .int x1), (2, .int x2), (3, .int x3), (4, .int x4), (5, .int x5)] 114 [] := by
    intro nW
    induction nW with
    | zero => intro mL sL x1 x2 x3 x4 x5 oW hf hk; rw [f_X10_plans_114] at hf; cases hf
    | succ nW ih =>
      intro mL sL x1 x2 x3 x4 x5 oW hf hk
      rw [f_X10_plans_114] at hf
      refine x_iload C dX10_plans_114 5 rfl ?_
      refine x_iconst (v := 3) C dX10_plans_116 (by decide) ?_
      refine x_icmp_ge (tgt := 151) C dX10_plans_117 (by decide) (fun h1 => ?_) (fun h1 => ?_)
      · have hf := x_t h1 hf
        refine x_locals (lv' := [(0, .ref (b 0)), (1, .int x1), (2, .int x2), (3, .int x3), (4, .int x4)]) [0, 1, 2, 3, 4] rfl ?_
        cases hf
        exact hk
      · have hf := x_f h1 hf
        refine x_aload_n C dX10_plans_120 rfl 0 rfl ?_
        refine x_get (ci := 11) (v := .ref (b 1)) (b := mdO g b mL) C ixX10 rfl 0 (by decide) wd_1492 (fun _ h => h) 0 rfl 0 (mdO_at0 g b _) rfl dX10_plans_121 ?_
        refine x_bipush (v := 50) C dX10_plans_124 (by decide) ?_
        refine x_iconst (v := 3) C dX10_plans_126 (by decide) ?_
        refine x_iload C dX10_plans_127 4 rfl ?_
        refine x_imul C dX10_plans_129 ?_
        refine x_iadd C dX10_plans_130 ?_
        refine x_iload C dX10_plans_131 5 rfl ?_
        refine x_iadd C dX10_plans_133 ?_
        refine x_aload_n C dX10_plans_134 rfl 0 rfl ?_
        refine x_iload C dX10_plans_135 4 rfl ?_
        refine x_iconst (v := 1) C dX10_plans_137 (by decide) ?_
        refine x_isub C dX10_plans_138 ?_
        refine x_iload C dX10_plans_139 5 rfl ?_
        obtain ⟨u2, hu2, hf⟩ := x_b hf
        refine x_callV (n := 2) (As := [.int (x4 - (1 : Int32)), .int x5]) (rest := [.int (((50 : Int32) + ((3 : Int32) * x4)) + x5), .ref (b 1)]) C (c_X10_ofEvent g l b mL sL (x4 - (1 : Int32)) x5 hu2) ⟨⟨wd_1639, wd_1636, wd_78⟩, ⟨by decide, by decide, by decide⟩, rfl, rfl, Nat.le_of_ble_eq_true rfl, Nat.le_of_ble_eq_true rfl⟩ wd_1638 wd_37 ⟨0, 11, _, _, rfl, rfl, rfl⟩ [] (x_pickD [0, 1] 2 rfl rfl rfl) rfl rfl (Nat.le_of_ble_eq_true rfl) ⟨Nat.le_of_ble_eq_true rfl, Nat.le_of_ble_eq_true rfl⟩ dX10_plans_141 (x_goD (wss2 := [mdO g b mL, iaW g (b 1) 110 sL]) (stk2 := [.int u2, .int (((50 : Int32) + ((3 : Int32) * x4)) + x5), .ref (b 1)]) rfl rfl ?_)
        obtain ⟨h3, hf⟩ := x_n hf
        refine x_iast (b := iaW g (b 1) 110 sL) (b' := iaW g (b 1) 110 (upd sL (((50 : Int32) + ((3 : Int32) * x4)) + x5).toNatClampNeg u2)) (wss' := [mdO g b mL, iaW g (b 1) 110 (upd sL (((50 : Int32) + ((3 : Int32) * x4)) + x5).toNatClampNeg u2)]) C 1 rfl 0 (iaW_at0 g (b 1) 110 _) h3 rfl rfl dX10_plans_144 ?_
        refine x_iinc (v := x5 + 1) (lv' := [(5, .int (x5 + 1)), (0, .ref (b 0)), (1, .int x1), (2, .int x2), (3, .int x3), (4, .int x4)]) C dX10_plans_145 5 rfl rfl (by decide) rfl ?_
        refine x_goto (tgt := 114) C dX10_plans_148 (by decide) ?_
        refine x_locals (lv' := [(0, .ref (b 0)), (1, .int x1), (2, .int x2), (3, .int x3), (4, .int x4), (5, .int (x5 + 1))]) [1, 2, 3, 4, 5, 0] rfl ?_
        exact ih mL (upd sL (((50 : Int32) + ((3 : Int32) * x4)) + x5).toNatClampNeg u2) x1 x2 x3 x4 (x5 + 1) _ hf hk
  have hL93 : ∀ (nW : Nat) (mL : MdT) (sL : (Nat → Int32)) (x1 : Int32) (x2 : Int32) (x3 : Int32) (x4 : Int32), f_X10_plans_93 nW mL sL x1 x2 x3 x4 = some u → VW g (va_A ([mdO g b m, iaW g (b 1) 110 s] : List va_W).flatten sW.heap.size) 6 pW l eW ({ frames := 2, cells := 0, slots := 0, locals := 43 } : Room) sW mW argsW belowW methW c9 0 0 (MQ belowW (xQc g ([mdO g b m, iaW g (b 1) 110 s] : List va_W).flatten sW.heap.size (fun v9 w9 => v9 = some (.int u.1) ∧ w9 = ([mdO g b u.2.1, iaW g (b 1) 110 u.2.2] : List va_W).flatten)) argsW sW 0 0 (va_A ([mdO g b m, iaW g (b 1) 110 s] : List va_W).flatten sW.heap.size)) [mdO g b mL, iaW g (b 1) 110 sL] [(0, .ref (b 0)), (1, .int x1), (2, .int x2), (3, .int x3), (4, .int x4)] 93 [] := by
    intro nW
    induction nW with
    | zero => intro mL sL x1 x2 x3 x4 hf; rw [f_X10_plans_93] at hf; cases hf
    | succ nW ih =>
      intro mL sL x1 x2 x3 x4 hf
      rw [f_X10_plans_93] at hf
      refine x_iload C dX10_plans_93 4 rfl ?_
      refine x_if_le (tgt := 157) C dX10_plans_95 (by decide) (fun h1 => ?_) (fun h1 => ?_)
      · have hf := x_t h1 hf
        exact hL157 mL sL x1 x2 x3 x4 hf
      · have hf := x_f h1 hf
        refine x_aload_n C dX10_plans_98 rfl 0 rfl ?_
        refine x_iload C dX10_plans_99 4 rfl ?_
        refine x_iconst (v := 1) C dX10_plans_101 (by decide) ?_
        refine x_isub C dX10_plans_102 ?_
        refine x_iconst (v := 0) C dX10_plans_103 (by decide) ?_
        obtain ⟨u2, hu2, hf⟩ := x_b hf
        refine x_callV (n := 2) (As := [.int (x4 - (1 : Int32)), .int (0 : Int32)]) (rest := []) C (c_X10_ofEvent g l b mL sL (x4 - (1 : Int32)) (0 : Int32) hu2) ⟨⟨wd_1639, wd_1636, wd_78⟩, ⟨by decide, by decide, by decide⟩, rfl, rfl, Nat.le_of_ble_eq_true rfl, Nat.le_of_ble_eq_true rfl⟩ wd_1638 wd_37 ⟨0, 11, _, _, rfl, rfl, rfl⟩ [] (x_pickD [0, 1] 2 rfl rfl rfl) rfl rfl (Nat.le_of_ble_eq_true rfl) ⟨Nat.le_of_ble_eq_true rfl, Nat.le_of_ble_eq_true rfl⟩ dX10_plans_104 (x_goD (wss2 := [mdO g b mL, iaW g (b 1) 110 sL]) (stk2 := [.int u2]) rfl rfl ?_)
        refine x_iload_n C dX10_plans_107 rfl 1 rfl ?_
        refine x_icmp_le (tgt := 157) C dX10_plans_108 (by decide) (fun h3 => ?_) (fun h3 => ?_)
        · have hf := x_t h3 hf
          exact hL157 mL sL x1 x2 x3 x4 hf
        · have hf := x_f h3 hf
          refine x_iconst (v := 0) C dX10_plans_111 (by decide) ?_
          refine x_istore (lv' := [(5, .int (0 : Int32)), (0, .ref (b 0)), (1, .int x1), (2, .int x2), (3, .int x3), (4, .int x4)]) C dX10_plans_112 (by decide) rfl ?_
          obtain ⟨u4, hu4, hf⟩ := x_b hf
          refine x_locals (lv' := [(0, .ref (b 0)), (1, .int x1), (2, .int x2), (3, .int x3), (4, .int x4), (5, .int (0 : Int32))]) [1, 2, 3, 4, 5, 0] rfl ?_
          refine hL114 xFuel mL sL x1 x2 x3 x4 (0 : Int32) u4 hu4 ?_
          refine x_iinc (v := x4 + (-1)) (lv' := [(4, .int (x4 + (-1))), (0, .ref (b 0)), (1, .int x1), (2, .int x2), (3, .int x3)]) C dX10_plans_151 4 rfl rfl (by decide) rfl ?_
          refine x_goto (tgt := 93) C dX10_plans_154 (by decide) ?_
          refine x_locals (lv' := [(0, .ref (b 0)), (1, .int x1), (2, .int x2), (3, .int x3), (4, .int (x4 + (-1)))]) [1, 2, 3, 4, 0] rfl ?_
          exact ih u4.1 u4.2 x1 x2 x3 (x4 + (-1)) hf
  have hL76 : ∀ (mL : MdT) (sL : (Nat → Int32)) (x1 : Int32) (x2 : Int32) (x3 : Int32) (y0 : Int32), f_X10_plans_76 mL sL x1 x2 x3 y0 = some u → VW g (va_A ([mdO g b m, iaW g (b 1) 110 s] : List va_W).flatten sW.heap.size) 6 pW l eW ({ frames := 2, cells := 0, slots := 0, locals := 43 } : Room) sW mW argsW belowW methW c9 0 0 (MQ belowW (xQc g ([mdO g b m, iaW g (b 1) 110 s] : List va_W).flatten sW.heap.size (fun v9 w9 => v9 = some (.int u.1) ∧ w9 = ([mdO g b u.2.1, iaW g (b 1) 110 u.2.2] : List va_W).flatten)) argsW sW 0 0 (va_A ([mdO g b m, iaW g (b 1) 110 s] : List va_W).flatten sW.heap.size)) [mdO g b mL, iaW g (b 1) 110 sL] [(0, .ref (b 0)), (1, .int x1), (2, .int x2), (3, .int x3)] 76 [.int y0, .ref (b 0)] := by
    intro mL sL x1 x2 x3 y0 hf
    unfold f_X10_plans_76 at hf
    refine x_iconst (v := 3) C dX10_plans_76 (by decide) ?_
    obtain ⟨u1, hu1, hf⟩ := x_b hf
    refine x_callV (n := 2) (As := [.int y0, .int (3 : Int32)]) (rest := []) C (c_X10_isThrown g l b mL y0 (3 : Int32) hu1) ⟨⟨wd_1575, wd_1572, wd_78⟩, ⟨by decide, by decide, by decide⟩, rfl, rfl, Nat.le_of_ble_eq_true rfl, Nat.le_of_ble_eq_true rfl⟩ wd_1574 wd_26 ⟨0, 11, _, _, rfl, rfl, rfl⟩ [iaW g (b 1) 110 sL] (x_pickD [0, 1] 2 rfl rfl rfl) rfl rfl (Nat.le_of_ble_eq_true rfl) ⟨Nat.le_of_ble_eq_true rfl, Nat.le_of_ble_eq_true rfl⟩ dX10_plans_77 (x_goD (wss2 := [mdO g b u1.2, iaW g (b 1) 110 sL]) (stk2 := [.int u1.1]) rfl rfl ?_)
    refine x_if_eq (tgt := 85) C dX10_plans_80 (by decide) (fun h2 => ?_) (fun h2 => ?_)
    · have hf := x_t h2 hf
      refine x_aload_n C dX10_plans_85 rfl 0 rfl ?_
      refine x_get (ci := 11) (v := .ref (b 1)) (b := mdO g b u1.2) C ixX10 rfl 0 (by decide) wd_1492 (fun _ h => h) 0 rfl 0 (mdO_at0 g b _) rfl dX10_plans_86 ?_
      refine x_iconst (v := 4) C dX10_plans_89 (by decide) ?_
      obtain ⟨h3, hf⟩ := x_n hf
      refine x_iald (b := iaW g (b 1) 110 sL) C 1 rfl 0 (iaW_at0 g (b 1) 110 _) h3 dX10_plans_90 ?_
      refine x_istore (lv' := [(4, .int (sL (4 : Int32).toNatClampNeg)), (0, .ref (b 0)), (1, .int x1), (2, .int x2), (3, .int x3)]) C dX10_plans_91 (by decide) rfl ?_
      refine x_locals (lv' := [(0, .ref (b 0)), (1, .int x1), (2, .int x2), (3, .int x3), (4, .int (sL (4 : Int32).toNatClampNeg))]) [1, 2, 3, 4, 0] rfl ?_
      exact hL93 xFuel u1.2 sL x1 x2 x3 (sL (4 : Int32).toNatClampNeg) hf
    · have hf := x_f h2 hf
      refine x_iconst (v := 0) C dX10_plans_83 (by decide) ?_
      exact x_iret C hr ⟨by cases hf; rfl, by cases hf; rfl⟩ dX10_plans_84
  have hL52 : ∀ (mL : MdT) (sL : (Nat → Int32)) (x1 : Int32) (x2 : Int32) (x3 : Int32) (y0 : Int32), f_X10_plans_52 mL sL x1 x2 x3 y0 = some u → VW g (va_A ([mdO g b m, iaW g (b 1) 110 s] : List va_W).flatten sW.heap.size) 6 pW l eW ({ frames := 2, cells := 0, slots := 0, locals := 43 } : Room) sW mW argsW belowW methW c9 0 0 (MQ belowW (xQc g ([mdO g b m, iaW g (b 1) 110 s] : List va_W).flatten sW.heap.size (fun v9 w9 => v9 = some (.int u.1) ∧ w9 = ([mdO g b u.2.1, iaW g (b 1) 110 u.2.2] : List va_W).flatten)) argsW sW 0 0 (va_A ([mdO g b m, iaW g (b 1) 110 s] : List va_W).flatten sW.heap.size)) [mdO g b mL, iaW g (b 1) 110 sL] [(0, .ref (b 0)), (1, .int x1), (2, .int x2), (3, .int x3)] 52 [.int y0, .ref (b 0)] := by
    intro mL sL x1 x2 x3 y0 hf
    unfold f_X10_plans_52 at hf
    refine x_iconst (v := 2) C dX10_plans_52 (by decide) ?_
    obtain ⟨u1, hu1, hf⟩ := x_b hf
    refine x_callV (n := 2) (As := [.int y0, .int (2 : Int32)]) (rest := []) C (c_X10_isThrown g l b mL y0 (2 : Int32) hu1) ⟨⟨wd_1575, wd_1572, wd_78⟩, ⟨by decide, by decide, by decide⟩, rfl, rfl, Nat.le_of_ble_eq_true rfl, Nat.le_of_ble_eq_true rfl⟩ wd_1574 wd_26 ⟨0, 11, _, _, rfl, rfl, rfl⟩ [iaW g (b 1) 110 sL] (x_pickD [0, 1] 2 rfl rfl rfl) rfl rfl (Nat.le_of_ble_eq_true rfl) ⟨Nat.le_of_ble_eq_true rfl, Nat.le_of_ble_eq_true rfl⟩ dX10_plans_53 (x_goD (wss2 := [mdO g b u1.2, iaW g (b 1) 110 sL]) (stk2 := [.int u1.1]) rfl rfl ?_)
    refine x_if_ne (tgt := 83) C dX10_plans_56 (by decide) (fun h2 => ?_) (fun h2 => ?_)
    · have hf := x_f h2 hf
      refine x_iconst (v := 0) C dX10_plans_83 (by decide) ?_
      exact x_iret C hr ⟨by cases hf; rfl, by cases hf; rfl⟩ dX10_plans_84
    · have hf := x_t h2 hf
      refine x_aload_n C dX10_plans_59 rfl 0 rfl ?_
      refine x_aload_n C dX10_plans_60 rfl 0 rfl ?_
      refine x_get (ci := 11) (v := .ref (b 1)) (b := mdO g b u1.2) C ixX10 rfl 0 (by decide) wd_1492 (fun _ h => h) 0 rfl 0 (mdO_at0 g b _) rfl dX10_plans_61 ?_
      refine x_iconst (v := 4) C dX10_plans_64 (by decide) ?_
      obtain ⟨h3, hf⟩ := x_n hf
      refine x_iald (b := iaW g (b 1) 110 sL) C 1 rfl 0 (iaW_at0 g (b 1) 110 _) h3 dX10_plans_65 ?_
      refine x_bipush (v := 20) C dX10_plans_66 (by decide) ?_
      refine x_icmp_ne (tgt := 75) C dX10_plans_68 (by decide) (fun h4 => ?_) (fun h4 => ?_)
      · have hf := x_f h4 hf
        refine x_iconst (v := 0) C dX10_plans_75 (by decide) ?_
        exact hL76 u1.2 sL x1 x2 x3 (0 : Int32) hf
      · have hf := x_t h4 hf
        refine x_iconst (v := 1) C dX10_plans_71 (by decide) ?_
        refine x_goto (tgt := 76) C dX10_plans_72 (by decide) ?_
        exact hL76 u1.2 sL x1 x2 x3 (1 : Int32) hf
  have hL31 : ∀ (mL : MdT) (sL : (Nat → Int32)) (x1 : Int32) (x2 : Int32) (x3 : Int32) (y0 : Int32), f_X10_plans_31 mL sL x1 x2 x3 y0 = some u → VW g (va_A ([mdO g b m, iaW g (b 1) 110 s] : List va_W).flatten sW.heap.size) 6 pW l eW ({ frames := 2, cells := 0, slots := 0, locals := 43 } : Room) sW mW argsW belowW methW c9 0 0 (MQ belowW (xQc g ([mdO g b m, iaW g (b 1) 110 s] : List va_W).flatten sW.heap.size (fun v9 w9 => v9 = some (.int u.1) ∧ w9 = ([mdO g b u.2.1, iaW g (b 1) 110 u.2.2] : List va_W).flatten)) argsW sW 0 0 (va_A ([mdO g b m, iaW g (b 1) 110 s] : List va_W).flatten sW.heap.size)) [mdO g b mL, iaW g (b 1) 110 sL] [(0, .ref (b 0)), (1, .int x1), (2, .int x2), (3, .int x3)] 31 [.int y0, .ref (b 0)] := by
    intro mL sL x1 x2 x3 y0 hf
    unfold f_X10_plans_31 at hf
    refine x_iconst (v := 1) C dX10_plans_31 (by decide) ?_
    obtain ⟨u1, hu1, hf⟩ := x_b hf
    refine x_callV (n := 2) (As := [.int y0, .int (1 : Int32)]) (rest := []) C (c_X10_isThrown g l b mL y0 (1 : Int32) hu1) ⟨⟨wd_1575, wd_1572, wd_78⟩, ⟨by decide, by decide, by decide⟩, rfl, rfl, Nat.le_of_ble_eq_true rfl, Nat.le_of_ble_eq_true rfl⟩ wd_1574 wd_26 ⟨0, 11, _, _, rfl, rfl, rfl⟩ [iaW g (b 1) 110 sL] (x_pickD [0, 1] 2 rfl rfl rfl) rfl rfl (Nat.le_of_ble_eq_true rfl) ⟨Nat.le_of_ble_eq_true rfl, Nat.le_of_ble_eq_true rfl⟩ dX10_plans_32 (x_goD (wss2 := [mdO g b u1.2, iaW g (b 1) 110 sL]) (stk2 := [.int u1.1]) rfl rfl ?_)
    refine x_if_ne (tgt := 83) C dX10_plans_35 (by decide) (fun h2 => ?_) (fun h2 => ?_)
    · have hf := x_f h2 hf
      refine x_iconst (v := 0) C dX10_plans_83 (by decide) ?_
      exact x_iret C hr ⟨by cases hf; rfl, by cases hf; rfl⟩ dX10_plans_84
    · have hf := x_t h2 hf
      refine x_aload_n C dX10_plans_38 rfl 0 rfl ?_
      refine x_aload_n C dX10_plans_39 rfl 0 rfl ?_
      refine x_iload_n C dX10_plans_40 rfl 2 rfl ?_
      obtain ⟨u3, hu3, hf⟩ := x_b hf
      refine x_callV (n := 1) (As := [.int x2]) (rest := [.ref (b 0)]) C (c_X10_isCandle g l b u1.2 sL x2 hu3) ⟨⟨wd_1595, wd_1592, wd_78⟩, ⟨by decide, by decide, by decide⟩, rfl, rfl, Nat.le_of_ble_eq_true rfl, Nat.le_of_ble_eq_true rfl⟩ wd_1594 wd_30 ⟨0, 11, _, _, rfl, rfl, rfl⟩ [] (x_pickD [0, 1] 2 rfl rfl rfl) rfl rfl (Nat.le_of_ble_eq_true rfl) ⟨Nat.le_of_ble_eq_true rfl, Nat.le_of_ble_eq_true rfl⟩ dX10_plans_41 (x_goD (wss2 := [mdO g b u1.2, iaW g (b 1) 110 sL]) (stk2 := [.int u3, .ref (b 0)]) rfl rfl ?_)
      refine x_if_ne (tgt := 51) C dX10_plans_44 (by decide) (fun h4 => ?_) (fun h4 => ?_)
      · have hf := x_f h4 hf
        refine x_iconst (v := 0) C dX10_plans_51 (by decide) ?_
        exact hL52 u1.2 sL x1 x2 x3 (0 : Int32) hf
      · have hf := x_t h4 hf
        refine x_iconst (v := 1) C dX10_plans_47 (by decide) ?_
        refine x_goto (tgt := 52) C dX10_plans_48 (by decide) ?_
        exact hL52 u1.2 sL x1 x2 x3 (1 : Int32) hf
  refine x_aload_n C dX10_plans_0 rfl 0 rfl ?_
  refine x_iload_n C dX10_plans_1 rfl 1 rfl ?_
  refine x_aload_n C dX10_plans_2 rfl 0 rfl ?_
  refine x_get (ci := 11) (v := .ref (b 1)) (b := mdO g b m) C ixX10 rfl 0 (by decide) wd_1492 (fun _ h => h) 0 rfl 0 (mdO_at0 g b _) rfl dX10_plans_3 ?_
  refine x_iconst (v := 0) C dX10_plans_6 (by decide) ?_
  obtain ⟨h1, hf⟩ := x_n hf
  refine x_iald (b := iaW g (b 1) 110 s) C 1 rfl 0 (iaW_at0 g (b 1) 110 _) h1 dX10_plans_7 ?_
  refine x_iconst (v := 1) C dX10_plans_8 (by decide) ?_
  refine x_iadd C dX10_plans_9 ?_
  refine x_aload_n C dX10_plans_10 rfl 0 rfl ?_
  refine x_get (ci := 11) (v := .ref (b 1)) (b := mdO g b m) C ixX10 rfl 0 (by decide) wd_1492 (fun _ h => h) 0 rfl 0 (mdO_at0 g b _) rfl dX10_plans_11 ?_
  refine x_iconst (v := 0) C dX10_plans_14 (by decide) ?_
  obtain ⟨h2, hf⟩ := x_n hf
  refine x_iald (b := iaW g (b 1) 110 s) C 1 rfl 0 (iaW_at0 g (b 1) 110 _) h2 dX10_plans_15 ?_
  refine x_sipush (v := 999) C dX10_plans_16 (by decide) ?_
  refine x_iadd C dX10_plans_19 ?_
  obtain ⟨u3, hu3, hf⟩ := x_b hf
  refine x_callS (n := 3) (As := [.int x1, .int ((s (0 : Int32).toNatClampNeg) + (1 : Int32)), .int ((s (0 : Int32).toNatClampNeg) + (999 : Int32))]) (rest := [.ref (b 0)]) C (c_X10_isIn g l x1 ((s (0 : Int32).toNatClampNeg) + (1 : Int32)) ((s (0 : Int32).toNatClampNeg) + (999 : Int32)) hu3) ⟨⟨wd_1571, wd_1569, wd_78⟩, ⟨by decide, by decide, by decide⟩, rfl, rfl, Nat.le_of_ble_eq_true rfl, Nat.le_of_ble_eq_true rfl⟩ wd_1570 [mdO g b m, iaW g (b 1) 110 s] (x_pickD [0, 1] 2 rfl rfl rfl) rfl rfl (Nat.le_of_ble_eq_true rfl) ⟨Nat.le_of_ble_eq_true rfl, Nat.le_of_ble_eq_true rfl⟩ dX10_plans_20 (x_goD (wss2 := [mdO g b m, iaW g (b 1) 110 s]) (stk2 := [.int u3, .ref (b 0)]) rfl rfl ?_)
  refine x_if_ne (tgt := 30) C dX10_plans_23 (by decide) (fun h4 => ?_) (fun h4 => ?_)
  · have hf := x_f h4 hf
    refine x_iconst (v := 0) C dX10_plans_30 (by decide) ?_
    exact hL31 m s x1 x2 x3 (0 : Int32) hf
  · have hf := x_t h4 hf
    refine x_iconst (v := 1) C dX10_plans_26 (by decide) ?_
    refine x_goto (tgt := 31) C dX10_plans_27 (by decide) ?_
    exact hL31 m s x1 x2 x3 (1 : Int32) hf
theorem wd_36 : Cond.selects yX10_plans.cls yX10_plans yX10_plans ∈ xTB := xTB_in 36 (by decide +kernel) (by decide +kernel)
theorem wd_1632 : Cond.methodLink RX10 104 yX10_plans ∈ xTB := xTB_in 1632 (by decide +kernel) (by decide +kernel)
theorem wd_1634 : Cond.instanceMethod yX10_plans ∈ xTB := xTB_in 1634 (by decide +kernel) (by decide +kernel)
theorem wd_1635 : Cond.code yX10_plans cX10_plans 6 (some .int) ∈ xTB := xTB_in 1635 (by decide +kernel) (by decide +kernel)
theorem dX10_schedule_0 : decode cX10_schedule 0 = .ok (.aload_n 0, 1) := by decide +kernel
theorem dX10_schedule_1 : decode cX10_schedule 1 = .ok (.invokevirtual 71, 3) := by decide +kernel
theorem dX10_schedule_4 : decode cX10_schedule 4 = .ok (.aload_n 0, 1) := by decide +kernel
theorem dX10_schedule_5 : decode cX10_schedule 5 = .ok (.aload_n 0, 1) := by decide +kernel
theorem dX10_schedule_6 : decode cX10_schedule 6 = .ok (.iload_n 1, 1) := by decide +kernel
theorem dX10_schedule_7 : decode cX10_schedule 7 = .ok (.iload_n 2, 1) := by decide +kernel
theorem dX10_schedule_8 : decode cX10_schedule 8 = .ok (.iload_n 3, 1) := by decide +kernel
theorem dX10_schedule_9 : decode cX10_schedule 9 = .ok (.ifCond .eq 7, 3) := by decide +kernel
theorem dX10_schedule_12 : decode cX10_schedule 12 = .ok (.iconst 1, 1) := by decide +kernel
theorem dX10_schedule_13 : decode cX10_schedule 13 = .ok (.goto 4, 3) := by decide +kernel
theorem dX10_schedule_16 : decode cX10_schedule 16 = .ok (.iconst 0, 1) := by decide +kernel
theorem dX10_schedule_17 : decode cX10_schedule 17 = .ok (.invokevirtual 104, 3) := by decide +kernel
theorem dX10_schedule_20 : decode cX10_schedule 20 = .ok (.invokevirtual 78, 3) := by decide +kernel
theorem dX10_schedule_23 : decode cX10_schedule 23 = .ok (.ireturn, 1) := by decide +kernel
set_option maxHeartbeats 4000000 in
set_option maxRecDepth 100000 in
theorem c_X10_schedule (g : xG) (l : Launch) (b : Nat → Nat) (m : MdT) (s : (Nat → Int32)) (w : (Nat → Int32)) (p : (Nat → Int32)) (x1 : Int32) (x2 : Int32) (x3 : Int32) {u : Int32 × MdT × (Nat → Int32) × (Nat → Int32) × (Nat → Int32)} (hf : f_X10_schedule m s w p x1 x2 x3 = some u) : ConD g l yX10_schedule cX10_schedule 4 (some .int) ({ frames := 3, cells := 0, slots := 0, locals := 68 } : Room) [.ref (b 0), .int x1, .int x2, .int x3] [mdO g b m, iaW g (b 1) 110 s, iaW g (b 2) 110 w, iaW g (b 5) 880 p] (some (.int u.1)) [mdO g b u.2.1, iaW g (b 1) 110 u.2.2.1, iaW g (b 2) 110 u.2.2.2.1, iaW g (b 5) 880 u.2.2.2.2] := by
  unfold f_X10_schedule at hf
  refine Con_of [mdO g b m, iaW g (b 1) 110 s, iaW g (b 2) 110 w, iaW g (b 5) 880 p] [(0, .ref (b 0)), (1, .int x1), (2, .int x2), (3, .int x3)] rfl rfl (by decide) (Nat.le_of_ble_eq_true rfl) ?_
  intro pW eW sW mW argsW belowW methW c9 C hnm hr
  have C : CX g RX10 cX10_schedule 4 _ pW sW mW argsW methW c9 := C
  refine x_aload_n C dX10_schedule_0 rfl 0 rfl ?_
  obtain ⟨u1, hu1, hf⟩ := x_b hf
  refine x_callV (n := 0) (As := []) (rest := []) C (c_X10_keeps g l b m s w hu1) ⟨⟨wd_1558, wd_1555, wd_78⟩, ⟨by decide, by decide, by decide⟩, rfl, rfl, Nat.le_of_ble_eq_true rfl, Nat.le_of_ble_eq_true rfl⟩ wd_1557 wd_24 ⟨0, 11, _, _, rfl, rfl, rfl⟩ [iaW g (b 5) 880 p] (x_pickD [0, 1, 2, 3] 4 rfl rfl rfl) rfl rfl (Nat.le_of_ble_eq_true rfl) ⟨Nat.le_of_ble_eq_true rfl, Nat.le_of_ble_eq_true rfl⟩ dX10_schedule_1 (x_goD (wss2 := [mdO g b u1.1, iaW g (b 1) 110 s, iaW g (b 2) 110 u1.2, iaW g (b 5) 880 p]) (stk2 := []) rfl rfl ?_)
  refine x_aload_n C dX10_schedule_4 rfl 0 rfl ?_
  refine x_aload_n C dX10_schedule_5 rfl 0 rfl ?_
  refine x_iload_n C dX10_schedule_6 rfl 1 rfl ?_
  refine x_iload_n C dX10_schedule_7 rfl 2 rfl ?_
  refine x_iload_n C dX10_schedule_8 rfl 3 rfl ?_
  refine x_if_eq (tgt := 16) C dX10_schedule_9 (by decide) (fun h2 => ?_) (fun h2 => ?_)
  · have hf := x_t h2 hf
    refine x_iconst (v := 0) C dX10_schedule_16 (by decide) ?_
    obtain ⟨u3, hu3, hf⟩ := x_b hf
    refine x_callV (n := 3) (As := [.int x1, .int x2, .int (0 : Int32)]) (rest := [.ref (b 0)]) C (c_X10_plans g l b u1.1 s x1 x2 (0 : Int32) hu3) ⟨⟨wd_1635, wd_1632, wd_78⟩, ⟨by decide, by decide, by decide⟩, rfl, rfl, Nat.le_of_ble_eq_true rfl, Nat.le_of_ble_eq_true rfl⟩ wd_1634 wd_36 ⟨0, 11, _, _, rfl, rfl, rfl⟩ [iaW g (b 2) 110 u1.2, iaW g (b 5) 880 p] (x_pickD [0, 1, 2, 3] 4 rfl rfl rfl) rfl rfl (Nat.le_of_ble_eq_true rfl) ⟨Nat.le_of_ble_eq_true rfl, Nat.le_of_ble_eq_true rfl⟩ dX10_schedule_17 (x_goD (wss2 := [mdO g b u3.2.1, iaW g (b 1) 110 u3.2.2, iaW g (b 2) 110 u1.2, iaW g (b 5) 880 p]) (stk2 := [.int u3.1, .ref (b 0)]) rfl rfl ?_)
    obtain ⟨u4, hu4, hf⟩ := x_b hf
    refine x_callV (n := 1) (As := [.int u3.1]) (rest := []) C (c_X10_ends g l b u3.2.1 u1.2 p u3.1 hu4) ⟨⟨wd_1583, wd_1580, wd_78⟩, ⟨by decide, by decide, by decide⟩, rfl, rfl, Nat.le_of_ble_eq_true rfl, Nat.le_of_ble_eq_true rfl⟩ wd_1582 wd_28 ⟨0, 11, _, _, rfl, rfl, rfl⟩ [iaW g (b 1) 110 u3.2.2] (x_pickD [0, 2, 3, 1] 4 rfl rfl rfl) rfl rfl (Nat.le_of_ble_eq_true rfl) ⟨Nat.le_of_ble_eq_true rfl, Nat.le_of_ble_eq_true rfl⟩ dX10_schedule_20 (x_goD (wss2 := [mdO g b u4.2.1, iaW g (b 2) 110 u1.2, iaW g (b 5) 880 u4.2.2, iaW g (b 1) 110 u3.2.2]) (stk2 := [.int u4.1]) rfl rfl ?_)
    refine x_perm (wss' := [mdO g b u4.2.1, iaW g (b 1) 110 u3.2.2, iaW g (b 2) 110 u1.2, iaW g (b 5) 880 u4.2.2]) (x_pick [0, 3, 1, 2] 4 rfl rfl rfl) ?_
    exact x_iret C hr ⟨by cases hf; rfl, by cases hf; rfl⟩ dX10_schedule_23
  · have hf := x_f h2 hf
    refine x_iconst (v := 1) C dX10_schedule_12 (by decide) ?_
    refine x_goto (tgt := 17) C dX10_schedule_13 (by decide) ?_
    obtain ⟨u5, hu5, hf⟩ := x_b hf
    refine x_callV (n := 3) (As := [.int x1, .int x2, .int (1 : Int32)]) (rest := [.ref (b 0)]) C (c_X10_plans g l b u1.1 s x1 x2 (1 : Int32) hu5) ⟨⟨wd_1635, wd_1632, wd_78⟩, ⟨by decide, by decide, by decide⟩, rfl, rfl, Nat.le_of_ble_eq_true rfl, Nat.le_of_ble_eq_true rfl⟩ wd_1634 wd_36 ⟨0, 11, _, _, rfl, rfl, rfl⟩ [iaW g (b 2) 110 u1.2, iaW g (b 5) 880 p] (x_pickD [0, 1, 2, 3] 4 rfl rfl rfl) rfl rfl (Nat.le_of_ble_eq_true rfl) ⟨Nat.le_of_ble_eq_true rfl, Nat.le_of_ble_eq_true rfl⟩ dX10_schedule_17 (x_goD (wss2 := [mdO g b u5.2.1, iaW g (b 1) 110 u5.2.2, iaW g (b 2) 110 u1.2, iaW g (b 5) 880 p]) (stk2 := [.int u5.1, .ref (b 0)]) rfl rfl ?_)
    obtain ⟨u6, hu6, hf⟩ := x_b hf
    refine x_callV (n := 1) (As := [.int u5.1]) (rest := []) C (c_X10_ends g l b u5.2.1 u1.2 p u5.1 hu6) ⟨⟨wd_1583, wd_1580, wd_78⟩, ⟨by decide, by decide, by decide⟩, rfl, rfl, Nat.le_of_ble_eq_true rfl, Nat.le_of_ble_eq_true rfl⟩ wd_1582 wd_28 ⟨0, 11, _, _, rfl, rfl, rfl⟩ [iaW g (b 1) 110 u5.2.2] (x_pickD [0, 2, 3, 1] 4 rfl rfl rfl) rfl rfl (Nat.le_of_ble_eq_true rfl) ⟨Nat.le_of_ble_eq_true rfl, Nat.le_of_ble_eq_true rfl⟩ dX10_schedule_20 (x_goD (wss2 := [mdO g b u6.2.1, iaW g (b 2) 110 u1.2, iaW g (b 5) 880 u6.2.2, iaW g (b 1) 110 u5.2.2]) (stk2 := [.int u6.1]) rfl rfl ?_)
    refine x_perm (wss' := [mdO g b u6.2.1, iaW g (b 1) 110 u5.2.2, iaW g (b 2) 110 u1.2, iaW g (b 5) 880 u6.2.2]) (x_pick [0, 3, 1, 2] 4 rfl rfl rfl) ?_
    exact x_iret C hr ⟨by cases hf; rfl, by cases hf; rfl⟩ dX10_schedule_23
theorem dX10_isEvent_0 : decode cX10_isEvent 0 = .ok (.iload_n 1, 1) := by decide +kernel
theorem dX10_isEvent_1 : decode cX10_isEvent 1 = .ok (.iconst 0, 1) := by decide +kernel
theorem dX10_isEvent_2 : decode cX10_isEvent 2 = .ok (.aload_n 0, 1) := by decide +kernel
theorem dX10_isEvent_3 : decode cX10_isEvent 3 = .ok (.getfield 9, 3) := by decide +kernel
theorem dX10_isEvent_6 : decode cX10_isEvent 6 = .ok (.iconst 4, 1) := by decide +kernel
theorem dX10_isEvent_7 : decode cX10_isEvent 7 = .ok (.iaload, 1) := by decide +kernel
theorem dX10_isEvent_8 : decode cX10_isEvent 8 = .ok (.iconst 1, 1) := by decide +kernel
theorem dX10_isEvent_9 : decode cX10_isEvent 9 = .ok (.isub, 1) := by decide +kernel
theorem dX10_isEvent_10 : decode cX10_isEvent 10 = .ok (.invokestatic 51, 3) := by decide +kernel
theorem dX10_isEvent_13 : decode cX10_isEvent 13 = .ok (.ireturn, 1) := by decide +kernel
set_option maxHeartbeats 4000000 in
set_option maxRecDepth 100000 in
theorem c_X10_isEvent (g : xG) (l : Launch) (b : Nat → Nat) (m : MdT) (s : (Nat → Int32)) (x1 : Int32) {u : Int32} (hf : f_X10_isEvent m s x1 = some u) : ConD g l yX10_isEvent cX10_isEvent 2 (some .boolean) ({ frames := 1, cells := 0, slots := 0, locals := 22 } : Room) [.ref (b 0), .int x1] [mdO g b m, iaW g (b 1) 110 s] (some (.int u)) [mdO g b m, iaW g (b 1) 110 s] := by
  unfold f_X10_isEvent at hf
  refine Con_of [mdO g b m, iaW g (b 1) 110 s] [(0, .ref (b 0)), (1, .int x1)] rfl rfl (by decide) (Nat.le_of_ble_eq_true rfl) ?_
  intro pW eW sW mW argsW belowW methW c9 C hnm hr
  have C : CX g RX10 cX10_isEvent 2 _ pW sW mW argsW methW c9 := C
  refine x_iload_n C dX10_isEvent_0 rfl 1 rfl ?_
  refine x_iconst (v := 0) C dX10_isEvent_1 (by decide) ?_
  refine x_aload_n C dX10_isEvent_2 rfl 0 rfl ?_
  refine x_get (ci := 11) (v := .ref (b 1)) (b := mdO g b m) C ixX10 rfl 0 (by decide) wd_1492 (fun _ h => h) 0 rfl 0 (mdO_at0 g b _) rfl dX10_isEvent_3 ?_
  refine x_iconst (v := 4) C dX10_isEvent_6 (by decide) ?_
  obtain ⟨h1, hf⟩ := x_n hf
  refine x_iald (b := iaW g (b 1) 110 s) C 1 rfl 0 (iaW_at0 g (b 1) 110 _) h1 dX10_isEvent_7 ?_
  refine x_iconst (v := 1) C dX10_isEvent_8 (by decide) ?_
  refine x_isub C dX10_isEvent_9 ?_
  obtain ⟨u2, hu2, hf⟩ := x_b hf
  refine x_callS (n := 3) (As := [.int x1, .int (0 : Int32), .int ((s (4 : Int32).toNatClampNeg) - (1 : Int32))]) (rest := []) C (c_X10_isIn g l x1 (0 : Int32) ((s (4 : Int32).toNatClampNeg) - (1 : Int32)) hu2) ⟨⟨wd_1571, wd_1569, wd_78⟩, ⟨by decide, by decide, by decide⟩, rfl, rfl, Nat.le_of_ble_eq_true rfl, Nat.le_of_ble_eq_true rfl⟩ wd_1570 [mdO g b m, iaW g (b 1) 110 s] (x_pickD [0, 1] 2 rfl rfl rfl) rfl rfl (Nat.le_of_ble_eq_true rfl) ⟨Nat.le_of_ble_eq_true rfl, Nat.le_of_ble_eq_true rfl⟩ dX10_isEvent_10 (x_goD (wss2 := [mdO g b m, iaW g (b 1) 110 s]) (stk2 := [.int u2]) rfl rfl ?_)
  obtain ⟨h3, hf⟩ := x_y hf
  exact x_zret C hr (x_narZ h3).1 ⟨by cases hf; rfl, by cases hf; rfl⟩ dX10_isEvent_13
theorem dX10_removes_0 : decode cX10_removes 0 = .ok (.bipush 50, 2) := by decide +kernel
theorem dX10_removes_2 : decode cX10_removes 2 = .ok (.iconst 3, 1) := by decide +kernel
theorem dX10_removes_3 : decode cX10_removes 3 = .ok (.iload_n 1, 1) := by decide +kernel
theorem dX10_removes_4 : decode cX10_removes 4 = .ok (.imul, 1) := by decide +kernel
theorem dX10_removes_5 : decode cX10_removes 5 = .ok (.iadd, 1) := by decide +kernel
theorem dX10_removes_6 : decode cX10_removes 6 = .ok (.istore_n 2, 1) := by decide +kernel
theorem dX10_removes_7 : decode cX10_removes 7 = .ok (.iload_n 2, 1) := by decide +kernel
theorem dX10_removes_8 : decode cX10_removes 8 = .ok (.bipush 50, 2) := by decide +kernel
theorem dX10_removes_10 : decode cX10_removes 10 = .ok (.iconst 3, 1) := by decide +kernel
theorem dX10_removes_11 : decode cX10_removes 11 = .ok (.aload_n 0, 1) := by decide +kernel
theorem dX10_removes_12 : decode cX10_removes 12 = .ok (.getfield 9, 3) := by decide +kernel
theorem dX10_removes_15 : decode cX10_removes 15 = .ok (.iconst 4, 1) := by decide +kernel
theorem dX10_removes_16 : decode cX10_removes 16 = .ok (.iaload, 1) := by decide +kernel
theorem dX10_removes_17 : decode cX10_removes 17 = .ok (.iconst 1, 1) := by decide +kernel
theorem dX10_removes_18 : decode cX10_removes 18 = .ok (.isub, 1) := by decide +kernel
theorem dX10_removes_19 : decode cX10_removes 19 = .ok (.imul, 1) := by decide +kernel
theorem dX10_removes_20 : decode cX10_removes 20 = .ok (.iadd, 1) := by decide +kernel
theorem dX10_removes_21 : decode cX10_removes 21 = .ok (.if_icmp .ge 23, 3) := by decide +kernel
theorem dX10_removes_24 : decode cX10_removes 24 = .ok (.aload_n 0, 1) := by decide +kernel
theorem dX10_removes_25 : decode cX10_removes 25 = .ok (.getfield 9, 3) := by decide +kernel
theorem dX10_removes_28 : decode cX10_removes 28 = .ok (.iload_n 2, 1) := by decide +kernel
theorem dX10_removes_29 : decode cX10_removes 29 = .ok (.aload_n 0, 1) := by decide +kernel
theorem dX10_removes_30 : decode cX10_removes 30 = .ok (.getfield 9, 3) := by decide +kernel
theorem dX10_removes_33 : decode cX10_removes 33 = .ok (.iload_n 2, 1) := by decide +kernel
theorem dX10_removes_34 : decode cX10_removes 34 = .ok (.iconst 3, 1) := by decide +kernel
theorem dX10_removes_35 : decode cX10_removes 35 = .ok (.iadd, 1) := by decide +kernel
theorem dX10_removes_36 : decode cX10_removes 36 = .ok (.iaload, 1) := by decide +kernel
theorem dX10_removes_37 : decode cX10_removes 37 = .ok (.iastore, 1) := by decide +kernel
theorem dX10_removes_38 : decode cX10_removes 38 = .ok (.iinc 2 1, 3) := by decide +kernel
theorem dX10_removes_41 : decode cX10_removes 41 = .ok (.goto (-34), 3) := by decide +kernel
theorem dX10_removes_44 : decode cX10_removes 44 = .ok (.aload_n 0, 1) := by decide +kernel
theorem dX10_removes_45 : decode cX10_removes 45 = .ok (.getfield 9, 3) := by decide +kernel
theorem dX10_removes_48 : decode cX10_removes 48 = .ok (.iconst 4, 1) := by decide +kernel
theorem dX10_removes_49 : decode cX10_removes 49 = .ok (.dup2, 1) := by decide +kernel
theorem dX10_removes_50 : decode cX10_removes 50 = .ok (.iaload, 1) := by decide +kernel
theorem dX10_removes_51 : decode cX10_removes 51 = .ok (.iconst 1, 1) := by decide +kernel
theorem dX10_removes_52 : decode cX10_removes 52 = .ok (.isub, 1) := by decide +kernel
theorem dX10_removes_53 : decode cX10_removes 53 = .ok (.iastore, 1) := by decide +kernel
theorem dX10_removes_54 : decode cX10_removes 54 = .ok (.iconst 0, 1) := by decide +kernel
theorem dX10_removes_55 : decode cX10_removes 55 = .ok (.istore_n 2, 1) := by decide +kernel
theorem dX10_removes_56 : decode cX10_removes 56 = .ok (.iload_n 2, 1) := by decide +kernel
theorem dX10_removes_57 : decode cX10_removes 57 = .ok (.iconst 3, 1) := by decide +kernel
theorem dX10_removes_58 : decode cX10_removes 58 = .ok (.if_icmp .ge 28, 3) := by decide +kernel
theorem dX10_removes_61 : decode cX10_removes 61 = .ok (.aload_n 0, 1) := by decide +kernel
theorem dX10_removes_62 : decode cX10_removes 62 = .ok (.getfield 9, 3) := by decide +kernel
theorem dX10_removes_65 : decode cX10_removes 65 = .ok (.bipush 50, 2) := by decide +kernel
theorem dX10_removes_67 : decode cX10_removes 67 = .ok (.iconst 3, 1) := by decide +kernel
theorem dX10_removes_68 : decode cX10_removes 68 = .ok (.aload_n 0, 1) := by decide +kernel
theorem dX10_removes_69 : decode cX10_removes 69 = .ok (.getfield 9, 3) := by decide +kernel
theorem dX10_removes_72 : decode cX10_removes 72 = .ok (.iconst 4, 1) := by decide +kernel
theorem dX10_removes_73 : decode cX10_removes 73 = .ok (.iaload, 1) := by decide +kernel
theorem dX10_removes_74 : decode cX10_removes 74 = .ok (.imul, 1) := by decide +kernel
theorem dX10_removes_75 : decode cX10_removes 75 = .ok (.iadd, 1) := by decide +kernel
theorem dX10_removes_76 : decode cX10_removes 76 = .ok (.iload_n 2, 1) := by decide +kernel
theorem dX10_removes_77 : decode cX10_removes 77 = .ok (.iadd, 1) := by decide +kernel
theorem dX10_removes_78 : decode cX10_removes 78 = .ok (.iconst 0, 1) := by decide +kernel
theorem dX10_removes_79 : decode cX10_removes 79 = .ok (.iastore, 1) := by decide +kernel
theorem dX10_removes_80 : decode cX10_removes 80 = .ok (.iinc 2 1, 3) := by decide +kernel
theorem dX10_removes_83 : decode cX10_removes 83 = .ok (.goto (-27), 3) := by decide +kernel
theorem dX10_removes_86 : decode cX10_removes 86 = .ok (.return_, 1) := by decide +kernel
set_option maxHeartbeats 4000000 in
set_option maxRecDepth 100000 in
theorem c_X10_removes (g : xG) (l : Launch) (b : Nat → Nat) (m : MdT) (s : (Nat → Int32)) (x1 : Int32) {u : (Nat → Int32)} (hf : f_X10_removes m s x1 = some u) : ConD g l yX10_removes cX10_removes 3 none ({ frames := 0, cells := 0, slots := 0, locals := 0 } : Room) [.ref (b 0), .int x1] [mdO g b m, iaW g (b 1) 110 s] (none) [mdO g b m, iaW g (b 1) 110 u] := by
  unfold f_X10_removes at hf
  refine Con_of [mdO g b m, iaW g (b 1) 110 s] [(0, .ref (b 0)), (1, .int x1)] rfl rfl (by decide) (Nat.le_of_ble_eq_true rfl) ?_
  intro pW eW sW mW argsW belowW methW c9 C hnm hr
  have C : CX g RX10 cX10_removes 3 _ pW sW mW argsW methW c9 := C
  have hL56 : ∀ (nW : Nat) (sL : (Nat → Int32)) (x2 : Int32), f_X10_removes_56 nW m sL x2 = some u → VW g (va_A ([mdO g b m, iaW g (b 1) 110 s] : List va_W).flatten sW.heap.size) 3 pW l eW ({ frames := 0, cells := 0, slots := 0, locals := 0 } : Room) sW mW argsW belowW methW c9 0 0 (MQ belowW (xQc g ([mdO g b m, iaW g (b 1) 110 s] : List va_W).flatten sW.heap.size (fun v9 w9 => v9 = none ∧ w9 = ([mdO g b m, iaW g (b 1) 110 u] : List va_W).flatten)) argsW sW 0 0 (va_A ([mdO g b m, iaW g (b 1) 110 s] : List va_W).flatten sW.heap.size)) [mdO g b m, iaW g (b 1) 110 sL] [(0, .ref (b 0)), (2, .int x2)] 56 [] := by
    intro nW
    induction nW with
    | zero => intro sL x2 hf; rw [f_X10_removes_56] at hf; cases hf
    | succ nW ih =>
      intro sL x2 hf
      rw [f_X10_removes_56] at hf
      refine x_iload_n C dX10_removes_56 rfl 1 rfl ?_
      refine x_iconst (v := 3) C dX10_removes_57 (by decide) ?_
      refine x_icmp_ge (tgt := 86) C dX10_removes_58 (by decide) (fun h1 => ?_) (fun h1 => ?_)
      · have hf := x_t h1 hf
        exact x_vret C hr ⟨by cases hf; rfl, by cases hf; rfl⟩ dX10_removes_86
      · have hf := x_f h1 hf
        refine x_aload_n C dX10_removes_61 rfl 0 rfl ?_
        refine x_get (ci := 11) (v := .ref (b 1)) (b := mdO g b m) C ixX10 rfl 0 (by decide) wd_1492 (fun _ h => h) 0 rfl 0 (mdO_at0 g b _) rfl dX10_removes_62 ?_
        refine x_bipush (v := 50) C dX10_removes_65 (by decide) ?_
        refine x_iconst (v := 3) C dX10_removes_67 (by decide) ?_
        refine x_aload_n C dX10_removes_68 rfl 0 rfl ?_
        refine x_get (ci := 11) (v := .ref (b 1)) (b := mdO g b m) C ixX10 rfl 0 (by decide) wd_1492 (fun _ h => h) 0 rfl 0 (mdO_at0 g b _) rfl dX10_removes_69 ?_
        refine x_iconst (v := 4) C dX10_removes_72 (by decide) ?_
        obtain ⟨h2, hf⟩ := x_n hf
        refine x_iald (b := iaW g (b 1) 110 sL) C 1 rfl 0 (iaW_at0 g (b 1) 110 _) h2 dX10_removes_73 ?_
        refine x_imul C dX10_removes_74 ?_
        refine x_iadd C dX10_removes_75 ?_
        refine x_iload_n C dX10_removes_76 rfl 1 rfl ?_
        refine x_iadd C dX10_removes_77 ?_
        refine x_iconst (v := 0) C dX10_removes_78 (by decide) ?_
        obtain ⟨h3, hf⟩ := x_n hf
        refine x_iast (b := iaW g (b 1) 110 sL) (b' := iaW g (b 1) 110 (upd sL (((50 : Int32) + ((3 : Int32) * (sL (4 : Int32).toNatClampNeg))) + x2).toNatClampNeg (0 : Int32))) (wss' := [mdO g b m, iaW g (b 1) 110 (upd sL (((50 : Int32) + ((3 : Int32) * (sL (4 : Int32).toNatClampNeg))) + x2).toNatClampNeg (0 : Int32))]) C 1 rfl 0 (iaW_at0 g (b 1) 110 _) h3 rfl rfl dX10_removes_79 ?_
        refine x_iinc (v := x2 + 1) (lv' := [(2, .int (x2 + 1)), (0, .ref (b 0))]) C dX10_removes_80 1 rfl rfl (by decide) rfl ?_
        refine x_goto (tgt := 56) C dX10_removes_83 (by decide) ?_
        refine x_locals (lv' := [(0, .ref (b 0)), (2, .int (x2 + 1))]) [1, 0] rfl ?_
        exact ih (upd sL (((50 : Int32) + ((3 : Int32) * (sL (4 : Int32).toNatClampNeg))) + x2).toNatClampNeg (0 : Int32)) (x2 + 1) hf
  have hL7 : ∀ (nW : Nat) (sL : (Nat → Int32)) (x2 : Int32), f_X10_removes_7 nW m sL x2 = some u → VW g (va_A ([mdO g b m, iaW g (b 1) 110 s] : List va_W).flatten sW.heap.size) 3 pW l eW ({ frames := 0, cells := 0, slots := 0, locals := 0 } : Room) sW mW argsW belowW methW c9 0 0 (MQ belowW (xQc g ([mdO g b m, iaW g (b 1) 110 s] : List va_W).flatten sW.heap.size (fun v9 w9 => v9 = none ∧ w9 = ([mdO g b m, iaW g (b 1) 110 u] : List va_W).flatten)) argsW sW 0 0 (va_A ([mdO g b m, iaW g (b 1) 110 s] : List va_W).flatten sW.heap.size)) [mdO g b m, iaW g (b 1) 110 sL] [(0, .ref (b 0)), (2, .int x2)] 7 [] := by
    intro nW
    induction nW with
    | zero => intro sL x2 hf; rw [f_X10_removes_7] at hf; cases hf
    | succ nW ih =>
      intro sL x2 hf
      rw [f_X10_removes_7] at hf
      refine x_iload_n C dX10_removes_7 rfl 1 rfl ?_
      refine x_bipush (v := 50) C dX10_removes_8 (by decide) ?_
      refine x_iconst (v := 3) C dX10_removes_10 (by decide) ?_
      refine x_aload_n C dX10_removes_11 rfl 0 rfl ?_
      refine x_get (ci := 11) (v := .ref (b 1)) (b := mdO g b m) C ixX10 rfl 0 (by decide) wd_1492 (fun _ h => h) 0 rfl 0 (mdO_at0 g b _) rfl dX10_removes_12 ?_
      refine x_iconst (v := 4) C dX10_removes_15 (by decide) ?_
      obtain ⟨h1, hf⟩ := x_n hf
      refine x_iald (b := iaW g (b 1) 110 sL) C 1 rfl 0 (iaW_at0 g (b 1) 110 _) h1 dX10_removes_16 ?_
      refine x_iconst (v := 1) C dX10_removes_17 (by decide) ?_
      refine x_isub C dX10_removes_18 ?_
      refine x_imul C dX10_removes_19 ?_
      refine x_iadd C dX10_removes_20 ?_
      refine x_icmp_ge (tgt := 44) C dX10_removes_21 (by decide) (fun h2 => ?_) (fun h2 => ?_)
      · have hf := x_t h2 hf
        refine x_aload_n C dX10_removes_44 rfl 0 rfl ?_
        refine x_get (ci := 11) (v := .ref (b 1)) (b := mdO g b m) C ixX10 rfl 0 (by decide) wd_1492 (fun _ h => h) 0 rfl 0 (mdO_at0 g b _) rfl dX10_removes_45 ?_
        refine x_iconst (v := 4) C dX10_removes_48 (by decide) ?_
        refine x_dup2_11 C dX10_removes_49 rfl rfl ?_
        obtain ⟨h3, hf⟩ := x_n hf
        refine x_iald (b := iaW g (b 1) 110 sL) C 1 rfl 0 (iaW_at0 g (b 1) 110 _) h3 dX10_removes_50 ?_
        refine x_iconst (v := 1) C dX10_removes_51 (by decide) ?_
        refine x_isub C dX10_removes_52 ?_
        obtain ⟨h4, hf⟩ := x_n hf
        refine x_iast (b := iaW g (b 1) 110 sL) (b' := iaW g (b 1) 110 (upd sL (4 : Int32).toNatClampNeg ((sL (4 : Int32).toNatClampNeg) - (1 : Int32)))) (wss' := [mdO g b m, iaW g (b 1) 110 (upd sL (4 : Int32).toNatClampNeg ((sL (4 : Int32).toNatClampNeg) - (1 : Int32)))]) C 1 rfl 0 (iaW_at0 g (b 1) 110 _) h4 rfl rfl dX10_removes_53 ?_
        refine x_iconst (v := 0) C dX10_removes_54 (by decide) ?_
        refine x_istore_n (lv' := [(2, .int (0 : Int32)), (0, .ref (b 0))]) C dX10_removes_55 rfl (by decide) rfl ?_
        refine x_locals (lv' := [(0, .ref (b 0)), (2, .int (0 : Int32))]) [1, 0] rfl ?_
        exact hL56 xFuel (upd sL (4 : Int32).toNatClampNeg ((sL (4 : Int32).toNatClampNeg) - (1 : Int32))) (0 : Int32) hf
      · have hf := x_f h2 hf
        refine x_aload_n C dX10_removes_24 rfl 0 rfl ?_
        refine x_get (ci := 11) (v := .ref (b 1)) (b := mdO g b m) C ixX10 rfl 0 (by decide) wd_1492 (fun _ h => h) 0 rfl 0 (mdO_at0 g b _) rfl dX10_removes_25 ?_
        refine x_iload_n C dX10_removes_28 rfl 1 rfl ?_
        refine x_aload_n C dX10_removes_29 rfl 0 rfl ?_
        refine x_get (ci := 11) (v := .ref (b 1)) (b := mdO g b m) C ixX10 rfl 0 (by decide) wd_1492 (fun _ h => h) 0 rfl 0 (mdO_at0 g b _) rfl dX10_removes_30 ?_
        refine x_iload_n C dX10_removes_33 rfl 1 rfl ?_
        refine x_iconst (v := 3) C dX10_removes_34 (by decide) ?_
        refine x_iadd C dX10_removes_35 ?_
        obtain ⟨h5, hf⟩ := x_n hf
        refine x_iald (b := iaW g (b 1) 110 sL) C 1 rfl 0 (iaW_at0 g (b 1) 110 _) h5 dX10_removes_36 ?_
        obtain ⟨h6, hf⟩ := x_n hf
        refine x_iast (b := iaW g (b 1) 110 sL) (b' := iaW g (b 1) 110 (upd sL x2.toNatClampNeg (sL (x2 + (3 : Int32)).toNatClampNeg))) (wss' := [mdO g b m, iaW g (b 1) 110 (upd sL x2.toNatClampNeg (sL (x2 + (3 : Int32)).toNatClampNeg))]) C 1 rfl 0 (iaW_at0 g (b 1) 110 _) h6 rfl rfl dX10_removes_37 ?_
        refine x_iinc (v := x2 + 1) (lv' := [(2, .int (x2 + 1)), (0, .ref (b 0))]) C dX10_removes_38 1 rfl rfl (by decide) rfl ?_
        refine x_goto (tgt := 7) C dX10_removes_41 (by decide) ?_
        refine x_locals (lv' := [(0, .ref (b 0)), (2, .int (x2 + 1))]) [1, 0] rfl ?_
        exact ih (upd sL x2.toNatClampNeg (sL (x2 + (3 : Int32)).toNatClampNeg)) (x2 + 1) hf
  refine x_bipush (v := 50) C dX10_removes_0 (by decide) ?_
  refine x_iconst (v := 3) C dX10_removes_2 (by decide) ?_
  refine x_iload_n C dX10_removes_3 rfl 1 rfl ?_
  refine x_imul C dX10_removes_4 ?_
  refine x_iadd C dX10_removes_5 ?_
  refine x_istore_n (lv' := [(2, .int ((50 : Int32) + ((3 : Int32) * x1))), (0, .ref (b 0)), (1, .int x1)]) C dX10_removes_6 rfl (by decide) rfl ?_
  refine x_locals (lv' := [(0, .ref (b 0)), (2, .int ((50 : Int32) + ((3 : Int32) * x1)))]) [1, 0] rfl ?_
  exact hL7 xFuel s ((50 : Int32) + ((3 : Int32) * x1)) hf
theorem wd_39 : Cond.selects yX10_isEvent.cls yX10_isEvent yX10_isEvent ∈ xTB := xTB_in 39 (by decide +kernel) (by decide +kernel)
theorem wd_40 : Cond.selects yX10_removes.cls yX10_removes yX10_removes ∈ xTB := xTB_in 40 (by decide +kernel) (by decide +kernel)
theorem wd_1648 : Cond.methodLink RX10 107 yX10_isEvent ∈ xTB := xTB_in 1648 (by decide +kernel) (by decide +kernel)
theorem wd_1650 : Cond.instanceMethod yX10_isEvent ∈ xTB := xTB_in 1650 (by decide +kernel) (by decide +kernel)
theorem wd_1651 : Cond.code yX10_isEvent cX10_isEvent 2 (some .boolean) ∈ xTB := xTB_in 1651 (by decide +kernel) (by decide +kernel)
theorem wd_1652 : Cond.methodLink RX10 110 yX10_removes ∈ xTB := xTB_in 1652 (by decide +kernel) (by decide +kernel)
theorem wd_1654 : Cond.instanceMethod yX10_removes ∈ xTB := xTB_in 1654 (by decide +kernel) (by decide +kernel)
theorem wd_1655 : Cond.code yX10_removes cX10_removes 3 none ∈ xTB := xTB_in 1655 (by decide +kernel) (by decide +kernel)
theorem dX10_drops_0 : decode cX10_drops 0 = .ok (.aload_n 0, 1) := by decide +kernel
theorem dX10_drops_1 : decode cX10_drops 1 = .ok (.aload_n 0, 1) := by decide +kernel
theorem dX10_drops_2 : decode cX10_drops 2 = .ok (.iload_n 1, 1) := by decide +kernel
theorem dX10_drops_3 : decode cX10_drops 3 = .ok (.invokevirtual 107, 3) := by decide +kernel
theorem dX10_drops_6 : decode cX10_drops 6 = .ok (.ifCond .ne 7, 3) := by decide +kernel
theorem dX10_drops_9 : decode cX10_drops 9 = .ok (.iconst 1, 1) := by decide +kernel
theorem dX10_drops_10 : decode cX10_drops 10 = .ok (.goto 4, 3) := by decide +kernel
theorem dX10_drops_13 : decode cX10_drops 13 = .ok (.iconst 0, 1) := by decide +kernel
theorem dX10_drops_14 : decode cX10_drops 14 = .ok (.iconst 1, 1) := by decide +kernel
theorem dX10_drops_15 : decode cX10_drops 15 = .ok (.invokevirtual 63, 3) := by decide +kernel
theorem dX10_drops_18 : decode cX10_drops 18 = .ok (.ifCond .eq 5, 3) := by decide +kernel
theorem dX10_drops_21 : decode cX10_drops 21 = .ok (.iconst 0, 1) := by decide +kernel
theorem dX10_drops_22 : decode cX10_drops 22 = .ok (.ireturn, 1) := by decide +kernel
theorem dX10_drops_23 : decode cX10_drops 23 = .ok (.aload_n 0, 1) := by decide +kernel
theorem dX10_drops_24 : decode cX10_drops 24 = .ok (.iload_n 1, 1) := by decide +kernel
theorem dX10_drops_25 : decode cX10_drops 25 = .ok (.invokevirtual 110, 3) := by decide +kernel
theorem dX10_drops_28 : decode cX10_drops 28 = .ok (.aload_n 0, 1) := by decide +kernel
theorem dX10_drops_29 : decode cX10_drops 29 = .ok (.getfield 9, 3) := by decide +kernel
theorem dX10_drops_32 : decode cX10_drops 32 = .ok (.iconst 4, 1) := by decide +kernel
theorem dX10_drops_33 : decode cX10_drops 33 = .ok (.iaload, 1) := by decide +kernel
theorem dX10_drops_34 : decode cX10_drops 34 = .ok (.ireturn, 1) := by decide +kernel
set_option maxHeartbeats 4000000 in
set_option maxRecDepth 100000 in
theorem c_X10_drops (g : xG) (l : Launch) (b : Nat → Nat) (m : MdT) (s : (Nat → Int32)) (x1 : Int32) {u : Int32 × MdT × (Nat → Int32)} (hf : f_X10_drops m s x1 = some u) : ConD g l yX10_drops cX10_drops 2 (some .int) ({ frames := 2, cells := 0, slots := 0, locals := 43 } : Room) [.ref (b 0), .int x1] [mdO g b m, iaW g (b 1) 110 s] (some (.int u.1)) [mdO g b u.2.1, iaW g (b 1) 110 u.2.2] := by
  unfold f_X10_drops at hf
  refine Con_of [mdO g b m, iaW g (b 1) 110 s] [(0, .ref (b 0)), (1, .int x1)] rfl rfl (by decide) (Nat.le_of_ble_eq_true rfl) ?_
  intro pW eW sW mW argsW belowW methW c9 C hnm hr
  have C : CX g RX10 cX10_drops 2 _ pW sW mW argsW methW c9 := C
  have hL14 : ∀ (mL : MdT) (sL : (Nat → Int32)) (x1 : Int32) (y0 : Int32), f_X10_drops_14 mL sL x1 y0 = some u → VW g (va_A ([mdO g b m, iaW g (b 1) 110 s] : List va_W).flatten sW.heap.size) 2 pW l eW ({ frames := 2, cells := 0, slots := 0, locals := 43 } : Room) sW mW argsW belowW methW c9 0 0 (MQ belowW (xQc g ([mdO g b m, iaW g (b 1) 110 s] : List va_W).flatten sW.heap.size (fun v9 w9 => v9 = some (.int u.1) ∧ w9 = ([mdO g b u.2.1, iaW g (b 1) 110 u.2.2] : List va_W).flatten)) argsW sW 0 0 (va_A ([mdO g b m, iaW g (b 1) 110 s] : List va_W).flatten sW.heap.size)) [mdO g b mL, iaW g (b 1) 110 sL] [(0, .ref (b 0)), (1, .int x1)] 14 [.int y0, .ref (b 0)] := by
    intro mL sL x1 y0 hf
    unfold f_X10_drops_14 at hf
    refine x_iconst (v := 1) C dX10_drops_14 (by decide) ?_
    obtain ⟨u1, hu1, hf⟩ := x_b hf
    refine x_callV (n := 2) (As := [.int y0, .int (1 : Int32)]) (rest := []) C (c_X10_isThrown g l b mL y0 (1 : Int32) hu1) ⟨⟨wd_1575, wd_1572, wd_78⟩, ⟨by decide, by decide, by decide⟩, rfl, rfl, Nat.le_of_ble_eq_true rfl, Nat.le_of_ble_eq_true rfl⟩ wd_1574 wd_26 ⟨0, 11, _, _, rfl, rfl, rfl⟩ [iaW g (b 1) 110 sL] (x_pickD [0, 1] 2 rfl rfl rfl) rfl rfl (Nat.le_of_ble_eq_true rfl) ⟨Nat.le_of_ble_eq_true rfl, Nat.le_of_ble_eq_true rfl⟩ dX10_drops_15 (x_goD (wss2 := [mdO g b u1.2, iaW g (b 1) 110 sL]) (stk2 := [.int u1.1]) rfl rfl ?_)
    refine x_if_eq (tgt := 23) C dX10_drops_18 (by decide) (fun h2 => ?_) (fun h2 => ?_)
    · have hf := x_t h2 hf
      refine x_aload_n C dX10_drops_23 rfl 0 rfl ?_
      refine x_iload_n C dX10_drops_24 rfl 1 rfl ?_
      obtain ⟨u3, hu3, hf⟩ := x_b hf
      refine x_callV (n := 1) (As := [.int x1]) (rest := []) C (c_X10_removes g l b u1.2 sL x1 hu3) ⟨⟨wd_1655, wd_1652, wd_78⟩, ⟨by decide, by decide, by decide⟩, rfl, rfl, Nat.le_of_ble_eq_true rfl, Nat.le_of_ble_eq_true rfl⟩ wd_1654 wd_40 ⟨0, 11, _, _, rfl, rfl, rfl⟩ [] (x_pickD [0, 1] 2 rfl rfl rfl) rfl rfl (Nat.le_of_ble_eq_true rfl) ⟨Nat.le_of_ble_eq_true rfl, Nat.le_of_ble_eq_true rfl⟩ dX10_drops_25 (x_goD (wss2 := [mdO g b u1.2, iaW g (b 1) 110 u3]) (stk2 := []) rfl rfl ?_)
      refine x_aload_n C dX10_drops_28 rfl 0 rfl ?_
      refine x_get (ci := 11) (v := .ref (b 1)) (b := mdO g b u1.2) C ixX10 rfl 0 (by decide) wd_1492 (fun _ h => h) 0 rfl 0 (mdO_at0 g b _) rfl dX10_drops_29 ?_
      refine x_iconst (v := 4) C dX10_drops_32 (by decide) ?_
      obtain ⟨h4, hf⟩ := x_n hf
      refine x_iald (b := iaW g (b 1) 110 u3) C 1 rfl 0 (iaW_at0 g (b 1) 110 _) h4 dX10_drops_33 ?_
      exact x_iret C hr ⟨by cases hf; rfl, by cases hf; rfl⟩ dX10_drops_34
    · have hf := x_f h2 hf
      refine x_iconst (v := 0) C dX10_drops_21 (by decide) ?_
      exact x_iret C hr ⟨by cases hf; rfl, by cases hf; rfl⟩ dX10_drops_22
  refine x_aload_n C dX10_drops_0 rfl 0 rfl ?_
  refine x_aload_n C dX10_drops_1 rfl 0 rfl ?_
  refine x_iload_n C dX10_drops_2 rfl 1 rfl ?_
  obtain ⟨u1, hu1, hf⟩ := x_b hf
  refine x_callV (n := 1) (As := [.int x1]) (rest := [.ref (b 0)]) C (c_X10_isEvent g l b m s x1 hu1) ⟨⟨wd_1651, wd_1648, wd_78⟩, ⟨by decide, by decide, by decide⟩, rfl, rfl, Nat.le_of_ble_eq_true rfl, Nat.le_of_ble_eq_true rfl⟩ wd_1650 wd_39 ⟨0, 11, _, _, rfl, rfl, rfl⟩ [] (x_pickD [0, 1] 2 rfl rfl rfl) rfl rfl (Nat.le_of_ble_eq_true rfl) ⟨Nat.le_of_ble_eq_true rfl, Nat.le_of_ble_eq_true rfl⟩ dX10_drops_3 (x_goD (wss2 := [mdO g b m, iaW g (b 1) 110 s]) (stk2 := [.int u1, .ref (b 0)]) rfl rfl ?_)
  refine x_if_ne (tgt := 13) C dX10_drops_6 (by decide) (fun h2 => ?_) (fun h2 => ?_)
  · have hf := x_f h2 hf
    refine x_iconst (v := 0) C dX10_drops_13 (by decide) ?_
    exact hL14 m s x1 (0 : Int32) hf
  · have hf := x_t h2 hf
    refine x_iconst (v := 1) C dX10_drops_9 (by decide) ?_
    refine x_goto (tgt := 14) C dX10_drops_10 (by decide) ?_
    exact hL14 m s x1 (1 : Int32) hf
theorem wd_38 : Cond.selects yX10_drops.cls yX10_drops yX10_drops ∈ xTB := xTB_in 38 (by decide +kernel) (by decide +kernel)
theorem wd_1644 : Cond.methodLink RX10 114 yX10_drops ∈ xTB := xTB_in 1644 (by decide +kernel) (by decide +kernel)
theorem wd_1646 : Cond.instanceMethod yX10_drops ∈ xTB := xTB_in 1646 (by decide +kernel) (by decide +kernel)
theorem wd_1647 : Cond.code yX10_drops cX10_drops 2 (some .int) ∈ xTB := xTB_in 1647 (by decide +kernel) (by decide +kernel)
theorem dX10_unschedule_0 : decode cX10_unschedule 0 = .ok (.aload_n 0, 1) := by decide +kernel
theorem dX10_unschedule_1 : decode cX10_unschedule 1 = .ok (.invokevirtual 71, 3) := by decide +kernel
theorem dX10_unschedule_4 : decode cX10_unschedule 4 = .ok (.aload_n 0, 1) := by decide +kernel
theorem dX10_unschedule_5 : decode cX10_unschedule 5 = .ok (.aload_n 0, 1) := by decide +kernel
theorem dX10_unschedule_6 : decode cX10_unschedule 6 = .ok (.iload_n 1, 1) := by decide +kernel
theorem dX10_unschedule_7 : decode cX10_unschedule 7 = .ok (.invokevirtual 114, 3) := by decide +kernel
theorem dX10_unschedule_10 : decode cX10_unschedule 10 = .ok (.invokevirtual 78, 3) := by decide +kernel
theorem dX10_unschedule_13 : decode cX10_unschedule 13 = .ok (.ireturn, 1) := by decide +kernel
set_option maxHeartbeats 4000000 in
set_option maxRecDepth 100000 in
theorem c_X10_unschedule (g : xG) (l : Launch) (b : Nat → Nat) (m : MdT) (s : (Nat → Int32)) (w : (Nat → Int32)) (p : (Nat → Int32)) (x1 : Int32) {u : Int32 × MdT × (Nat → Int32) × (Nat → Int32) × (Nat → Int32)} (hf : f_X10_unschedule m s w p x1 = some u) : ConD g l yX10_unschedule cX10_unschedule 2 (some .int) ({ frames := 3, cells := 0, slots := 0, locals := 64 } : Room) [.ref (b 0), .int x1] [mdO g b m, iaW g (b 1) 110 s, iaW g (b 2) 110 w, iaW g (b 5) 880 p] (some (.int u.1)) [mdO g b u.2.1, iaW g (b 1) 110 u.2.2.1, iaW g (b 2) 110 u.2.2.2.1, iaW g (b 5) 880 u.2.2.2.2] := by
  unfold f_X10_unschedule at hf
  refine Con_of [mdO g b m, iaW g (b 1) 110 s, iaW g (b 2) 110 w, iaW g (b 5) 880 p] [(0, .ref (b 0)), (1, .int x1)] rfl rfl (by decide) (Nat.le_of_ble_eq_true rfl) ?_
  intro pW eW sW mW argsW belowW methW c9 C hnm hr
  have C : CX g RX10 cX10_unschedule 2 _ pW sW mW argsW methW c9 := C
  refine x_aload_n C dX10_unschedule_0 rfl 0 rfl ?_
  obtain ⟨u1, hu1, hf⟩ := x_b hf
  refine x_callV (n := 0) (As := []) (rest := []) C (c_X10_keeps g l b m s w hu1) ⟨⟨wd_1558, wd_1555, wd_78⟩, ⟨by decide, by decide, by decide⟩, rfl, rfl, Nat.le_of_ble_eq_true rfl, Nat.le_of_ble_eq_true rfl⟩ wd_1557 wd_24 ⟨0, 11, _, _, rfl, rfl, rfl⟩ [iaW g (b 5) 880 p] (x_pickD [0, 1, 2, 3] 4 rfl rfl rfl) rfl rfl (Nat.le_of_ble_eq_true rfl) ⟨Nat.le_of_ble_eq_true rfl, Nat.le_of_ble_eq_true rfl⟩ dX10_unschedule_1 (x_goD (wss2 := [mdO g b u1.1, iaW g (b 1) 110 s, iaW g (b 2) 110 u1.2, iaW g (b 5) 880 p]) (stk2 := []) rfl rfl ?_)
  refine x_aload_n C dX10_unschedule_4 rfl 0 rfl ?_
  refine x_aload_n C dX10_unschedule_5 rfl 0 rfl ?_
  refine x_iload_n C dX10_unschedule_6 rfl 1 rfl ?_
  obtain ⟨u2, hu2, hf⟩ := x_b hf
  refine x_callV (n := 1) (As := [.int x1]) (rest := [.ref (b 0)]) C (c_X10_drops g l b u1.1 s x1 hu2) ⟨⟨wd_1647, wd_1644, wd_78⟩, ⟨by decide, by decide, by decide⟩, rfl, rfl, Nat.le_of_ble_eq_true rfl, Nat.le_of_ble_eq_true rfl⟩ wd_1646 wd_38 ⟨0, 11, _, _, rfl, rfl, rfl⟩ [iaW g (b 2) 110 u1.2, iaW g (b 5) 880 p] (x_pickD [0, 1, 2, 3] 4 rfl rfl rfl) rfl rfl (Nat.le_of_ble_eq_true rfl) ⟨Nat.le_of_ble_eq_true rfl, Nat.le_of_ble_eq_true rfl⟩ dX10_unschedule_7 (x_goD (wss2 := [mdO g b u2.2.1, iaW g (b 1) 110 u2.2.2, iaW g (b 2) 110 u1.2, iaW g (b 5) 880 p]) (stk2 := [.int u2.1, .ref (b 0)]) rfl rfl ?_)
  obtain ⟨u3, hu3, hf⟩ := x_b hf
  refine x_callV (n := 1) (As := [.int u2.1]) (rest := []) C (c_X10_ends g l b u2.2.1 u1.2 p u2.1 hu3) ⟨⟨wd_1583, wd_1580, wd_78⟩, ⟨by decide, by decide, by decide⟩, rfl, rfl, Nat.le_of_ble_eq_true rfl, Nat.le_of_ble_eq_true rfl⟩ wd_1582 wd_28 ⟨0, 11, _, _, rfl, rfl, rfl⟩ [iaW g (b 1) 110 u2.2.2] (x_pickD [0, 2, 3, 1] 4 rfl rfl rfl) rfl rfl (Nat.le_of_ble_eq_true rfl) ⟨Nat.le_of_ble_eq_true rfl, Nat.le_of_ble_eq_true rfl⟩ dX10_unschedule_10 (x_goD (wss2 := [mdO g b u3.2.1, iaW g (b 2) 110 u1.2, iaW g (b 5) 880 u3.2.2, iaW g (b 1) 110 u2.2.2]) (stk2 := [.int u3.1]) rfl rfl ?_)
  refine x_perm (wss' := [mdO g b u3.2.1, iaW g (b 1) 110 u2.2.2, iaW g (b 2) 110 u1.2, iaW g (b 5) 880 u3.2.2]) (x_pick [0, 3, 1, 2] 4 rfl rfl rfl) ?_
  exact x_iret C hr ⟨by cases hf; rfl, by cases hf; rfl⟩ dX10_unschedule_13
theorem dX10_fails_0 : decode cX10_fails 0 = .ok (.aload_n 0, 1) := by decide +kernel
theorem dX10_fails_1 : decode cX10_fails 1 = .ok (.getfield 9, 3) := by decide +kernel
theorem dX10_fails_4 : decode cX10_fails 4 = .ok (.iconst 5, 1) := by decide +kernel
theorem dX10_fails_5 : decode cX10_fails 5 = .ok (.dup2, 1) := by decide +kernel
theorem dX10_fails_6 : decode cX10_fails 6 = .ok (.iaload, 1) := by decide +kernel
theorem dX10_fails_7 : decode cX10_fails 7 = .ok (.iconst 1, 1) := by decide +kernel
theorem dX10_fails_8 : decode cX10_fails 8 = .ok (.iadd, 1) := by decide +kernel
theorem dX10_fails_9 : decode cX10_fails 9 = .ok (.iastore, 1) := by decide +kernel
theorem dX10_fails_10 : decode cX10_fails 10 = .ok (.aload_n 0, 1) := by decide +kernel
theorem dX10_fails_11 : decode cX10_fails 11 = .ok (.getfield 9, 3) := by decide +kernel
theorem dX10_fails_14 : decode cX10_fails 14 = .ok (.bipush 6, 2) := by decide +kernel
theorem dX10_fails_16 : decode cX10_fails 16 = .ok (.iload_n 1, 1) := by decide +kernel
theorem dX10_fails_17 : decode cX10_fails 17 = .ok (.iastore, 1) := by decide +kernel
theorem dX10_fails_18 : decode cX10_fails 18 = .ok (.return_, 1) := by decide +kernel
set_option maxHeartbeats 4000000 in
set_option maxRecDepth 100000 in
theorem c_X10_fails (g : xG) (l : Launch) (b : Nat → Nat) (m : MdT) (s : (Nat → Int32)) (x1 : Int32) {u : (Nat → Int32)} (hf : f_X10_fails m s x1 = some u) : ConD g l yX10_fails cX10_fails 2 none ({ frames := 0, cells := 0, slots := 0, locals := 0 } : Room) [.ref (b 0), .int x1] [mdO g b m, iaW g (b 1) 110 s] (none) [mdO g b m, iaW g (b 1) 110 u] := by
  unfold f_X10_fails at hf
  refine Con_of [mdO g b m, iaW g (b 1) 110 s] [(0, .ref (b 0)), (1, .int x1)] rfl rfl (by decide) (Nat.le_of_ble_eq_true rfl) ?_
  intro pW eW sW mW argsW belowW methW c9 C hnm hr
  have C : CX g RX10 cX10_fails 2 _ pW sW mW argsW methW c9 := C
  refine x_aload_n C dX10_fails_0 rfl 0 rfl ?_
  refine x_get (ci := 11) (v := .ref (b 1)) (b := mdO g b m) C ixX10 rfl 0 (by decide) wd_1492 (fun _ h => h) 0 rfl 0 (mdO_at0 g b _) rfl dX10_fails_1 ?_
  refine x_iconst (v := 5) C dX10_fails_4 (by decide) ?_
  refine x_dup2_11 C dX10_fails_5 rfl rfl ?_
  obtain ⟨h1, hf⟩ := x_n hf
  refine x_iald (b := iaW g (b 1) 110 s) C 1 rfl 0 (iaW_at0 g (b 1) 110 _) h1 dX10_fails_6 ?_
  refine x_iconst (v := 1) C dX10_fails_7 (by decide) ?_
  refine x_iadd C dX10_fails_8 ?_
  obtain ⟨h2, hf⟩ := x_n hf
  refine x_iast (b := iaW g (b 1) 110 s) (b' := iaW g (b 1) 110 (upd s (5 : Int32).toNatClampNeg ((s (5 : Int32).toNatClampNeg) + (1 : Int32)))) (wss' := [mdO g b m, iaW g (b 1) 110 (upd s (5 : Int32).toNatClampNeg ((s (5 : Int32).toNatClampNeg) + (1 : Int32)))]) C 1 rfl 0 (iaW_at0 g (b 1) 110 _) h2 rfl rfl dX10_fails_9 ?_
  refine x_aload_n C dX10_fails_10 rfl 0 rfl ?_
  refine x_get (ci := 11) (v := .ref (b 1)) (b := mdO g b m) C ixX10 rfl 0 (by decide) wd_1492 (fun _ h => h) 0 rfl 0 (mdO_at0 g b _) rfl dX10_fails_11 ?_
  refine x_bipush (v := 6) C dX10_fails_14 (by decide) ?_
  refine x_iload_n C dX10_fails_16 rfl 1 rfl ?_
  obtain ⟨h3, hf⟩ := x_n hf
  refine x_iast (b := iaW g (b 1) 110 (upd s (5 : Int32).toNatClampNeg ((s (5 : Int32).toNatClampNeg) + (1 : Int32)))) (b' := iaW g (b 1) 110 (upd (upd s (5 : Int32).toNatClampNeg ((s (5 : Int32).toNatClampNeg) + (1 : Int32))) (6 : Int32).toNatClampNeg x1)) (wss' := [mdO g b m, iaW g (b 1) 110 (upd (upd s (5 : Int32).toNatClampNeg ((s (5 : Int32).toNatClampNeg) + (1 : Int32))) (6 : Int32).toNatClampNeg x1)]) C 1 rfl 0 (iaW_at0 g (b 1) 110 _) h3 rfl rfl dX10_fails_17 ?_
  exact x_vret C hr ⟨by cases hf; rfl, by cases hf; rfl⟩ dX10_fails_18
theorem wd_44 : Cond.selects yX10_fails.cls yX10_fails yX10_fails ∈ xTB := xTB_in 44 (by decide +kernel) (by decide +kernel)
theorem wd_1672 : Cond.methodLink RX10 117 yX10_fails ∈ xTB := xTB_in 1672 (by decide +kernel) (by decide +kernel)
theorem wd_1674 : Cond.instanceMethod yX10_fails ∈ xTB := xTB_in 1674 (by decide +kernel) (by decide +kernel)
theorem wd_1675 : Cond.code yX10_fails cX10_fails 2 none ∈ xTB := xTB_in 1675 (by decide +kernel) (by decide +kernel)
theorem dX10_carriesOut_0 : decode cX10_carriesOut 0 = .ok (.iload_n 2, 1) := by decide +kernel
theorem dX10_carriesOut_1 : decode cX10_carriesOut 1 = .ok (.ifCond .ne 28, 3) := by decide +kernel
theorem dX10_carriesOut_4 : decode cX10_carriesOut 4 = .ok (.aload_n 0, 1) := by decide +kernel
theorem dX10_carriesOut_5 : decode cX10_carriesOut 5 = .ok (.iload_n 1, 1) := by decide +kernel
theorem dX10_carriesOut_6 : decode cX10_carriesOut 6 = .ok (.iconst 3, 1) := by decide +kernel
theorem dX10_carriesOut_7 : decode cX10_carriesOut 7 = .ok (.invokevirtual 55, 3) := by decide +kernel
theorem dX10_carriesOut_10 : decode cX10_carriesOut 10 = .ok (.ifCond .ne 9, 3) := by decide +kernel
theorem dX10_carriesOut_13 : decode cX10_carriesOut 13 = .ok (.aload_n 0, 1) := by decide +kernel
theorem dX10_carriesOut_14 : decode cX10_carriesOut 14 = .ok (.bipush 110, 2) := by decide +kernel
theorem dX10_carriesOut_16 : decode cX10_carriesOut 16 = .ok (.invokevirtual 117, 3) := by decide +kernel
theorem dX10_carriesOut_19 : decode cX10_carriesOut 19 = .ok (.aload_n 0, 1) := by decide +kernel
theorem dX10_carriesOut_20 : decode cX10_carriesOut 20 = .ok (.iload_n 1, 1) := by decide +kernel
theorem dX10_carriesOut_21 : decode cX10_carriesOut 21 = .ok (.iconst 3, 1) := by decide +kernel
theorem dX10_carriesOut_22 : decode cX10_carriesOut 22 = .ok (.iconst 0, 1) := by decide +kernel
theorem dX10_carriesOut_23 : decode cX10_carriesOut 23 = .ok (.invokevirtual 67, 3) := by decide +kernel
theorem dX10_carriesOut_26 : decode cX10_carriesOut 26 = .ok (.goto 47, 3) := by decide +kernel
theorem dX10_carriesOut_29 : decode cX10_carriesOut 29 = .ok (.aload_n 0, 1) := by decide +kernel
theorem dX10_carriesOut_30 : decode cX10_carriesOut 30 = .ok (.iload_n 1, 1) := by decide +kernel
theorem dX10_carriesOut_31 : decode cX10_carriesOut 31 = .ok (.iconst 3, 1) := by decide +kernel
theorem dX10_carriesOut_32 : decode cX10_carriesOut 32 = .ok (.invokevirtual 55, 3) := by decide +kernel
theorem dX10_carriesOut_35 : decode cX10_carriesOut 35 = .ok (.iconst 1, 1) := by decide +kernel
theorem dX10_carriesOut_36 : decode cX10_carriesOut 36 = .ok (.if_icmp .ne 12, 3) := by decide +kernel
theorem dX10_carriesOut_39 : decode cX10_carriesOut 39 = .ok (.aload_n 0, 1) := by decide +kernel
theorem dX10_carriesOut_40 : decode cX10_carriesOut 40 = .ok (.bipush 108, 2) := by decide +kernel
theorem dX10_carriesOut_42 : decode cX10_carriesOut 42 = .ok (.invokevirtual 117, 3) := by decide +kernel
theorem dX10_carriesOut_45 : decode cX10_carriesOut 45 = .ok (.goto 28, 3) := by decide +kernel
theorem dX10_carriesOut_48 : decode cX10_carriesOut 48 = .ok (.aload_n 0, 1) := by decide +kernel
theorem dX10_carriesOut_49 : decode cX10_carriesOut 49 = .ok (.iload_n 1, 1) := by decide +kernel
theorem dX10_carriesOut_50 : decode cX10_carriesOut 50 = .ok (.iconst 1, 1) := by decide +kernel
theorem dX10_carriesOut_51 : decode cX10_carriesOut 51 = .ok (.invokevirtual 55, 3) := by decide +kernel
theorem dX10_carriesOut_54 : decode cX10_carriesOut 54 = .ok (.ifCond .ne 12, 3) := by decide +kernel
theorem dX10_carriesOut_57 : decode cX10_carriesOut 57 = .ok (.aload_n 0, 1) := by decide +kernel
theorem dX10_carriesOut_58 : decode cX10_carriesOut 58 = .ok (.bipush 119, 2) := by decide +kernel
theorem dX10_carriesOut_60 : decode cX10_carriesOut 60 = .ok (.invokevirtual 117, 3) := by decide +kernel
theorem dX10_carriesOut_63 : decode cX10_carriesOut 63 = .ok (.goto 10, 3) := by decide +kernel
theorem dX10_carriesOut_66 : decode cX10_carriesOut 66 = .ok (.aload_n 0, 1) := by decide +kernel
theorem dX10_carriesOut_67 : decode cX10_carriesOut 67 = .ok (.iload_n 1, 1) := by decide +kernel
theorem dX10_carriesOut_68 : decode cX10_carriesOut 68 = .ok (.iconst 3, 1) := by decide +kernel
theorem dX10_carriesOut_69 : decode cX10_carriesOut 69 = .ok (.iconst 1, 1) := by decide +kernel
theorem dX10_carriesOut_70 : decode cX10_carriesOut 70 = .ok (.invokevirtual 67, 3) := by decide +kernel
theorem dX10_carriesOut_73 : decode cX10_carriesOut 73 = .ok (.return_, 1) := by decide +kernel
set_option maxHeartbeats 4000000 in
set_option maxRecDepth 100000 in
theorem c_X10_carriesOut (g : xG) (l : Launch) (b : Nat → Nat) (m : MdT) (s : (Nat → Int32)) (x1 : Int32) (x2 : Int32) {u : (Nat → Int32)} (hf : f_X10_carriesOut m s x1 x2 = some u) : ConD g l yX10_carriesOut cX10_carriesOut 3 none ({ frames := 1, cells := 0, slots := 0, locals := 23 } : Room) [.ref (b 0), .int x1, .int x2] [mdO g b m, iaW g (b 1) 110 s] (none) [mdO g b m, iaW g (b 1) 110 u] := by
  unfold f_X10_carriesOut at hf
  refine Con_of [mdO g b m, iaW g (b 1) 110 s] [(0, .ref (b 0)), (1, .int x1), (2, .int x2)] rfl rfl (by decide) (Nat.le_of_ble_eq_true rfl) ?_
  intro pW eW sW mW argsW belowW methW c9 C hnm hr
  have C : CX g RX10 cX10_carriesOut 3 _ pW sW mW argsW methW c9 := C
  refine x_iload_n C dX10_carriesOut_0 rfl 2 rfl ?_
  refine x_if_ne (tgt := 29) C dX10_carriesOut_1 (by decide) (fun h1 => ?_) (fun h1 => ?_)
  · have hf := x_f h1 hf
    refine x_aload_n C dX10_carriesOut_29 rfl 0 rfl ?_
    refine x_iload_n C dX10_carriesOut_30 rfl 1 rfl ?_
    refine x_iconst (v := 3) C dX10_carriesOut_31 (by decide) ?_
    obtain ⟨u2, hu2, hf⟩ := x_b hf
    refine x_callV (n := 2) (As := [.int x1, .int (3 : Int32)]) (rest := []) C (c_X10_of g l b m s x1 (3 : Int32) hu2) ⟨⟨wd_1599, wd_1596, wd_78⟩, ⟨by decide, by decide, by decide⟩, rfl, rfl, Nat.le_of_ble_eq_true rfl, Nat.le_of_ble_eq_true rfl⟩ wd_1598 wd_31 ⟨0, 11, _, _, rfl, rfl, rfl⟩ [] (x_pickD [0, 1] 2 rfl rfl rfl) rfl rfl (Nat.le_of_ble_eq_true rfl) ⟨Nat.le_of_ble_eq_true rfl, Nat.le_of_ble_eq_true rfl⟩ dX10_carriesOut_32 (x_goD (wss2 := [mdO g b m, iaW g (b 1) 110 s]) (stk2 := [.int u2]) rfl rfl ?_)
    refine x_iconst (v := 1) C dX10_carriesOut_35 (by decide) ?_
    refine x_icmp_ne (tgt := 48) C dX10_carriesOut_36 (by decide) (fun h3 => ?_) (fun h3 => ?_)
    · have hf := x_f h3 hf
      refine x_aload_n C dX10_carriesOut_48 rfl 0 rfl ?_
      refine x_iload_n C dX10_carriesOut_49 rfl 1 rfl ?_
      refine x_iconst (v := 1) C dX10_carriesOut_50 (by decide) ?_
      obtain ⟨u4, hu4, hf⟩ := x_b hf
      refine x_callV (n := 2) (As := [.int x1, .int (1 : Int32)]) (rest := []) C (c_X10_of g l b m s x1 (1 : Int32) hu4) ⟨⟨wd_1599, wd_1596, wd_78⟩, ⟨by decide, by decide, by decide⟩, rfl, rfl, Nat.le_of_ble_eq_true rfl, Nat.le_of_ble_eq_true rfl⟩ wd_1598 wd_31 ⟨0, 11, _, _, rfl, rfl, rfl⟩ [] (x_pickD [0, 1] 2 rfl rfl rfl) rfl rfl (Nat.le_of_ble_eq_true rfl) ⟨Nat.le_of_ble_eq_true rfl, Nat.le_of_ble_eq_true rfl⟩ dX10_carriesOut_51 (x_goD (wss2 := [mdO g b m, iaW g (b 1) 110 s]) (stk2 := [.int u4]) rfl rfl ?_)
      refine x_if_ne (tgt := 66) C dX10_carriesOut_54 (by decide) (fun h5 => ?_) (fun h5 => ?_)
      · have hf := x_f h5 hf
        refine x_aload_n C dX10_carriesOut_66 rfl 0 rfl ?_
        refine x_iload_n C dX10_carriesOut_67 rfl 1 rfl ?_
        refine x_iconst (v := 3) C dX10_carriesOut_68 (by decide) ?_
        refine x_iconst (v := 1) C dX10_carriesOut_69 (by decide) ?_
        obtain ⟨u6, hu6, hf⟩ := x_b hf
        refine x_callV (n := 3) (As := [.int x1, .int (3 : Int32), .int (1 : Int32)]) (rest := []) C (c_X10_sets g l b m s x1 (3 : Int32) (1 : Int32) hu6) ⟨⟨wd_1579, wd_1576, wd_78⟩, ⟨by decide, by decide, by decide⟩, rfl, rfl, Nat.le_of_ble_eq_true rfl, Nat.le_of_ble_eq_true rfl⟩ wd_1578 wd_27 ⟨0, 11, _, _, rfl, rfl, rfl⟩ [] (x_pickD [0, 1] 2 rfl rfl rfl) rfl rfl (Nat.le_of_ble_eq_true rfl) ⟨Nat.le_of_ble_eq_true rfl, Nat.le_of_ble_eq_true rfl⟩ dX10_carriesOut_70 (x_goD (wss2 := [mdO g b m, iaW g (b 1) 110 u6]) (stk2 := []) rfl rfl ?_)
        exact x_vret C hr ⟨by cases hf; rfl, by cases hf; rfl⟩ dX10_carriesOut_73
      · have hf := x_t h5 hf
        refine x_aload_n C dX10_carriesOut_57 rfl 0 rfl ?_
        refine x_bipush (v := 119) C dX10_carriesOut_58 (by decide) ?_
        obtain ⟨u7, hu7, hf⟩ := x_b hf
        refine x_callV (n := 1) (As := [.int (119 : Int32)]) (rest := []) C (c_X10_fails g l b m s (119 : Int32) hu7) ⟨⟨wd_1675, wd_1672, wd_78⟩, ⟨by decide, by decide, by decide⟩, rfl, rfl, Nat.le_of_ble_eq_true rfl, Nat.le_of_ble_eq_true rfl⟩ wd_1674 wd_44 ⟨0, 11, _, _, rfl, rfl, rfl⟩ [] (x_pickD [0, 1] 2 rfl rfl rfl) rfl rfl (Nat.le_of_ble_eq_true rfl) ⟨Nat.le_of_ble_eq_true rfl, Nat.le_of_ble_eq_true rfl⟩ dX10_carriesOut_60 (x_goD (wss2 := [mdO g b m, iaW g (b 1) 110 u7]) (stk2 := []) rfl rfl ?_)
        refine x_goto (tgt := 73) C dX10_carriesOut_63 (by decide) ?_
        exact x_vret C hr ⟨by cases hf; rfl, by cases hf; rfl⟩ dX10_carriesOut_73
    · have hf := x_t h3 hf
      refine x_aload_n C dX10_carriesOut_39 rfl 0 rfl ?_
      refine x_bipush (v := 108) C dX10_carriesOut_40 (by decide) ?_
      obtain ⟨u8, hu8, hf⟩ := x_b hf
      refine x_callV (n := 1) (As := [.int (108 : Int32)]) (rest := []) C (c_X10_fails g l b m s (108 : Int32) hu8) ⟨⟨wd_1675, wd_1672, wd_78⟩, ⟨by decide, by decide, by decide⟩, rfl, rfl, Nat.le_of_ble_eq_true rfl, Nat.le_of_ble_eq_true rfl⟩ wd_1674 wd_44 ⟨0, 11, _, _, rfl, rfl, rfl⟩ [] (x_pickD [0, 1] 2 rfl rfl rfl) rfl rfl (Nat.le_of_ble_eq_true rfl) ⟨Nat.le_of_ble_eq_true rfl, Nat.le_of_ble_eq_true rfl⟩ dX10_carriesOut_42 (x_goD (wss2 := [mdO g b m, iaW g (b 1) 110 u8]) (stk2 := []) rfl rfl ?_)
      refine x_goto (tgt := 73) C dX10_carriesOut_45 (by decide) ?_
      exact x_vret C hr ⟨by cases hf; rfl, by cases hf; rfl⟩ dX10_carriesOut_73
  · have hf := x_t h1 hf
    refine x_aload_n C dX10_carriesOut_4 rfl 0 rfl ?_
    refine x_iload_n C dX10_carriesOut_5 rfl 1 rfl ?_
    refine x_iconst (v := 3) C dX10_carriesOut_6 (by decide) ?_
    obtain ⟨u9, hu9, hf⟩ := x_b hf
    refine x_callV (n := 2) (As := [.int x1, .int (3 : Int32)]) (rest := []) C (c_X10_of g l b m s x1 (3 : Int32) hu9) ⟨⟨wd_1599, wd_1596, wd_78⟩, ⟨by decide, by decide, by decide⟩, rfl, rfl, Nat.le_of_ble_eq_true rfl, Nat.le_of_ble_eq_true rfl⟩ wd_1598 wd_31 ⟨0, 11, _, _, rfl, rfl, rfl⟩ [] (x_pickD [0, 1] 2 rfl rfl rfl) rfl rfl (Nat.le_of_ble_eq_true rfl) ⟨Nat.le_of_ble_eq_true rfl, Nat.le_of_ble_eq_true rfl⟩ dX10_carriesOut_7 (x_goD (wss2 := [mdO g b m, iaW g (b 1) 110 s]) (stk2 := [.int u9]) rfl rfl ?_)
    refine x_if_ne (tgt := 19) C dX10_carriesOut_10 (by decide) (fun h10 => ?_) (fun h10 => ?_)
    · have hf := x_f h10 hf
      refine x_aload_n C dX10_carriesOut_19 rfl 0 rfl ?_
      refine x_iload_n C dX10_carriesOut_20 rfl 1 rfl ?_
      refine x_iconst (v := 3) C dX10_carriesOut_21 (by decide) ?_
      refine x_iconst (v := 0) C dX10_carriesOut_22 (by decide) ?_
      obtain ⟨u11, hu11, hf⟩ := x_b hf
      refine x_callV (n := 3) (As := [.int x1, .int (3 : Int32), .int (0 : Int32)]) (rest := []) C (c_X10_sets g l b m s x1 (3 : Int32) (0 : Int32) hu11) ⟨⟨wd_1579, wd_1576, wd_78⟩, ⟨by decide, by decide, by decide⟩, rfl, rfl, Nat.le_of_ble_eq_true rfl, Nat.le_of_ble_eq_true rfl⟩ wd_1578 wd_27 ⟨0, 11, _, _, rfl, rfl, rfl⟩ [] (x_pickD [0, 1] 2 rfl rfl rfl) rfl rfl (Nat.le_of_ble_eq_true rfl) ⟨Nat.le_of_ble_eq_true rfl, Nat.le_of_ble_eq_true rfl⟩ dX10_carriesOut_23 (x_goD (wss2 := [mdO g b m, iaW g (b 1) 110 u11]) (stk2 := []) rfl rfl ?_)
      refine x_goto (tgt := 73) C dX10_carriesOut_26 (by decide) ?_
      exact x_vret C hr ⟨by cases hf; rfl, by cases hf; rfl⟩ dX10_carriesOut_73
    · have hf := x_t h10 hf
      refine x_aload_n C dX10_carriesOut_13 rfl 0 rfl ?_
      refine x_bipush (v := 110) C dX10_carriesOut_14 (by decide) ?_
      obtain ⟨u12, hu12, hf⟩ := x_b hf
      refine x_callV (n := 1) (As := [.int (110 : Int32)]) (rest := []) C (c_X10_fails g l b m s (110 : Int32) hu12) ⟨⟨wd_1675, wd_1672, wd_78⟩, ⟨by decide, by decide, by decide⟩, rfl, rfl, Nat.le_of_ble_eq_true rfl, Nat.le_of_ble_eq_true rfl⟩ wd_1674 wd_44 ⟨0, 11, _, _, rfl, rfl, rfl⟩ [] (x_pickD [0, 1] 2 rfl rfl rfl) rfl rfl (Nat.le_of_ble_eq_true rfl) ⟨Nat.le_of_ble_eq_true rfl, Nat.le_of_ble_eq_true rfl⟩ dX10_carriesOut_16 (x_goD (wss2 := [mdO g b m, iaW g (b 1) 110 u12]) (stk2 := []) rfl rfl ?_)
      refine x_aload_n C dX10_carriesOut_19 rfl 0 rfl ?_
      refine x_iload_n C dX10_carriesOut_20 rfl 1 rfl ?_
      refine x_iconst (v := 3) C dX10_carriesOut_21 (by decide) ?_
      refine x_iconst (v := 0) C dX10_carriesOut_22 (by decide) ?_
      obtain ⟨u13, hu13, hf⟩ := x_b hf
      refine x_callV (n := 3) (As := [.int x1, .int (3 : Int32), .int (0 : Int32)]) (rest := []) C (c_X10_sets g l b m u12 x1 (3 : Int32) (0 : Int32) hu13) ⟨⟨wd_1579, wd_1576, wd_78⟩, ⟨by decide, by decide, by decide⟩, rfl, rfl, Nat.le_of_ble_eq_true rfl, Nat.le_of_ble_eq_true rfl⟩ wd_1578 wd_27 ⟨0, 11, _, _, rfl, rfl, rfl⟩ [] (x_pickD [0, 1] 2 rfl rfl rfl) rfl rfl (Nat.le_of_ble_eq_true rfl) ⟨Nat.le_of_ble_eq_true rfl, Nat.le_of_ble_eq_true rfl⟩ dX10_carriesOut_23 (x_goD (wss2 := [mdO g b m, iaW g (b 1) 110 u13]) (stk2 := []) rfl rfl ?_)
      refine x_goto (tgt := 73) C dX10_carriesOut_26 (by decide) ?_
      exact x_vret C hr ⟨by cases hf; rfl, by cases hf; rfl⟩ dX10_carriesOut_73
theorem wd_46 : Cond.selects yX10_burns.cls yX10_burns yX10_burns ∈ xTB := xTB_in 46 (by decide +kernel) (by decide +kernel)
theorem wd_1680 : Cond.methodLink RX10 120 yX10_burns ∈ xTB := xTB_in 1680 (by decide +kernel) (by decide +kernel)
theorem wd_1682 : Cond.instanceMethod yX10_burns ∈ xTB := xTB_in 1682 (by decide +kernel) (by decide +kernel)
theorem wd_1683 : Cond.code yX10_burns cX10_burns 2 (some .int) ∈ xTB := xTB_in 1683 (by decide +kernel) (by decide +kernel)
theorem dX10_burnsDown_0 : decode cX10_burnsDown 0 = .ok (.aload_n 0, 1) := by decide +kernel
theorem dX10_burnsDown_1 : decode cX10_burnsDown 1 = .ok (.iload_n 1, 1) := by decide +kernel
theorem dX10_burnsDown_2 : decode cX10_burnsDown 2 = .ok (.invokevirtual 120, 3) := by decide +kernel
theorem dX10_burnsDown_5 : decode cX10_burnsDown 5 = .ok (.aload_n 0, 1) := by decide +kernel
theorem dX10_burnsDown_6 : decode cX10_burnsDown 6 = .ok (.iload_n 1, 1) := by decide +kernel
theorem dX10_burnsDown_7 : decode cX10_burnsDown 7 = .ok (.iconst 1, 1) := by decide +kernel
theorem dX10_burnsDown_8 : decode cX10_burnsDown 8 = .ok (.invokevirtual 55, 3) := by decide +kernel
theorem dX10_burnsDown_11 : decode cX10_burnsDown 11 = .ok (.if_icmp .ge 11, 3) := by decide +kernel
theorem dX10_burnsDown_14 : decode cX10_burnsDown 14 = .ok (.aload_n 0, 1) := by decide +kernel
theorem dX10_burnsDown_15 : decode cX10_burnsDown 15 = .ok (.iload_n 1, 1) := by decide +kernel
theorem dX10_burnsDown_16 : decode cX10_burnsDown 16 = .ok (.invokevirtual 120, 3) := by decide +kernel
theorem dX10_burnsDown_19 : decode cX10_burnsDown 19 = .ok (.goto 9, 3) := by decide +kernel
theorem dX10_burnsDown_22 : decode cX10_burnsDown 22 = .ok (.aload_n 0, 1) := by decide +kernel
theorem dX10_burnsDown_23 : decode cX10_burnsDown 23 = .ok (.iload_n 1, 1) := by decide +kernel
theorem dX10_burnsDown_24 : decode cX10_burnsDown 24 = .ok (.iconst 1, 1) := by decide +kernel
theorem dX10_burnsDown_25 : decode cX10_burnsDown 25 = .ok (.invokevirtual 55, 3) := by decide +kernel
theorem dX10_burnsDown_28 : decode cX10_burnsDown 28 = .ok (.istore_n 2, 1) := by decide +kernel
theorem dX10_burnsDown_29 : decode cX10_burnsDown 29 = .ok (.iload_n 2, 1) := by decide +kernel
theorem dX10_burnsDown_30 : decode cX10_burnsDown 30 = .ok (.iconst 5, 1) := by decide +kernel
theorem dX10_burnsDown_31 : decode cX10_burnsDown 31 = .ok (.if_icmp .lt 7, 3) := by decide +kernel
theorem dX10_burnsDown_34 : decode cX10_burnsDown 34 = .ok (.iconst 1, 1) := by decide +kernel
theorem dX10_burnsDown_35 : decode cX10_burnsDown 35 = .ok (.goto 4, 3) := by decide +kernel
theorem dX10_burnsDown_38 : decode cX10_burnsDown 38 = .ok (.iconst 0, 1) := by decide +kernel
theorem dX10_burnsDown_39 : decode cX10_burnsDown 39 = .ok (.istore_n 3, 1) := by decide +kernel
theorem dX10_burnsDown_40 : decode cX10_burnsDown 40 = .ok (.aload_n 0, 1) := by decide +kernel
theorem dX10_burnsDown_41 : decode cX10_burnsDown 41 = .ok (.iload_n 1, 1) := by decide +kernel
theorem dX10_burnsDown_42 : decode cX10_burnsDown 42 = .ok (.iconst 1, 1) := by decide +kernel
theorem dX10_burnsDown_43 : decode cX10_burnsDown 43 = .ok (.aload_n 0, 1) := by decide +kernel
theorem dX10_burnsDown_44 : decode cX10_burnsDown 44 = .ok (.iload_n 1, 1) := by decide +kernel
theorem dX10_burnsDown_45 : decode cX10_burnsDown 45 = .ok (.iconst 1, 1) := by decide +kernel
theorem dX10_burnsDown_46 : decode cX10_burnsDown 46 = .ok (.invokevirtual 55, 3) := by decide +kernel
theorem dX10_burnsDown_49 : decode cX10_burnsDown 49 = .ok (.iload_n 2, 1) := by decide +kernel
theorem dX10_burnsDown_50 : decode cX10_burnsDown 50 = .ok (.isub, 1) := by decide +kernel
theorem dX10_burnsDown_51 : decode cX10_burnsDown 51 = .ok (.invokevirtual 67, 3) := by decide +kernel
theorem dX10_burnsDown_54 : decode cX10_burnsDown 54 = .ok (.aload_n 0, 1) := by decide +kernel
theorem dX10_burnsDown_55 : decode cX10_burnsDown 55 = .ok (.getfield 9, 3) := by decide +kernel
theorem dX10_burnsDown_58 : decode cX10_burnsDown 58 = .ok (.iconst 2, 1) := by decide +kernel
theorem dX10_burnsDown_59 : decode cX10_burnsDown 59 = .ok (.dup2, 1) := by decide +kernel
theorem dX10_burnsDown_60 : decode cX10_burnsDown 60 = .ok (.iaload, 1) := by decide +kernel
theorem dX10_burnsDown_61 : decode cX10_burnsDown 61 = .ok (.iload_n 3, 1) := by decide +kernel
theorem dX10_burnsDown_62 : decode cX10_burnsDown 62 = .ok (.iadd, 1) := by decide +kernel
theorem dX10_burnsDown_63 : decode cX10_burnsDown 63 = .ok (.iastore, 1) := by decide +kernel
theorem dX10_burnsDown_64 : decode cX10_burnsDown 64 = .ok (.aload_n 0, 1) := by decide +kernel
theorem dX10_burnsDown_65 : decode cX10_burnsDown 65 = .ok (.getfield 9, 3) := by decide +kernel
theorem dX10_burnsDown_68 : decode cX10_burnsDown 68 = .ok (.bipush 9, 2) := by decide +kernel
theorem dX10_burnsDown_70 : decode cX10_burnsDown 70 = .ok (.dup2, 1) := by decide +kernel
theorem dX10_burnsDown_71 : decode cX10_burnsDown 71 = .ok (.iaload, 1) := by decide +kernel
theorem dX10_burnsDown_72 : decode cX10_burnsDown 72 = .ok (.iload_n 2, 1) := by decide +kernel
theorem dX10_burnsDown_73 : decode cX10_burnsDown 73 = .ok (.iload_n 3, 1) := by decide +kernel
theorem dX10_burnsDown_74 : decode cX10_burnsDown 74 = .ok (.isub, 1) := by decide +kernel
theorem dX10_burnsDown_75 : decode cX10_burnsDown 75 = .ok (.iadd, 1) := by decide +kernel
theorem dX10_burnsDown_76 : decode cX10_burnsDown 76 = .ok (.iastore, 1) := by decide +kernel
theorem dX10_burnsDown_77 : decode cX10_burnsDown 77 = .ok (.aload_n 0, 1) := by decide +kernel
theorem dX10_burnsDown_78 : decode cX10_burnsDown 78 = .ok (.iload_n 1, 1) := by decide +kernel
theorem dX10_burnsDown_79 : decode cX10_burnsDown 79 = .ok (.iconst 1, 1) := by decide +kernel
theorem dX10_burnsDown_80 : decode cX10_burnsDown 80 = .ok (.invokevirtual 55, 3) := by decide +kernel
theorem dX10_burnsDown_83 : decode cX10_burnsDown 83 = .ok (.ifCond .ne 20, 3) := by decide +kernel
theorem dX10_burnsDown_86 : decode cX10_burnsDown 86 = .ok (.aload_n 0, 1) := by decide +kernel
theorem dX10_burnsDown_87 : decode cX10_burnsDown 87 = .ok (.iload_n 1, 1) := by decide +kernel
theorem dX10_burnsDown_88 : decode cX10_burnsDown 88 = .ok (.iconst 3, 1) := by decide +kernel
theorem dX10_burnsDown_89 : decode cX10_burnsDown 89 = .ok (.iconst 0, 1) := by decide +kernel
theorem dX10_burnsDown_90 : decode cX10_burnsDown 90 = .ok (.invokevirtual 67, 3) := by decide +kernel
theorem dX10_burnsDown_93 : decode cX10_burnsDown 93 = .ok (.aload_n 0, 1) := by decide +kernel
theorem dX10_burnsDown_94 : decode cX10_burnsDown 94 = .ok (.getfield 9, 3) := by decide +kernel
theorem dX10_burnsDown_97 : decode cX10_burnsDown 97 = .ok (.bipush 7, 2) := by decide +kernel
theorem dX10_burnsDown_99 : decode cX10_burnsDown 99 = .ok (.iload_n 1, 1) := by decide +kernel
theorem dX10_burnsDown_100 : decode cX10_burnsDown 100 = .ok (.iconst 1, 1) := by decide +kernel
theorem dX10_burnsDown_101 : decode cX10_burnsDown 101 = .ok (.iadd, 1) := by decide +kernel
theorem dX10_burnsDown_102 : decode cX10_burnsDown 102 = .ok (.iastore, 1) := by decide +kernel
theorem dX10_burnsDown_103 : decode cX10_burnsDown 103 = .ok (.iload_n 2, 1) := by decide +kernel
theorem dX10_burnsDown_104 : decode cX10_burnsDown 104 = .ok (.ireturn, 1) := by decide +kernel
set_option maxHeartbeats 4000000 in
set_option maxRecDepth 100000 in
theorem c_X10_burnsDown (g : xG) (l : Launch) (b : Nat → Nat) (m : MdT) (s : (Nat → Int32)) (x1 : Int32) {u : Int32 × (Nat → Int32)} (hf : f_X10_burnsDown m s x1 = some u) : ConD g l yX10_burnsDown cX10_burnsDown 4 (some .int) ({ frames := 2, cells := 0, slots := 0, locals := 43 } : Room) [.ref (b 0), .int x1] [mdO g b m, iaW g (b 1) 110 s] (some (.int u.1)) [mdO g b m, iaW g (b 1) 110 u.2] := by
  unfold f_X10_burnsDown at hf
  refine Con_of [mdO g b m, iaW g (b 1) 110 s] [(0, .ref (b 0)), (1, .int x1)] rfl rfl (by decide) (Nat.le_of_ble_eq_true rfl) ?_
  intro pW eW sW mW argsW belowW methW c9 C hnm hr
  have C : CX g RX10 cX10_burnsDown 4 _ pW sW mW argsW methW c9 := C
  have hL39 : ∀ (sL : (Nat → Int32)) (x1 : Int32) (x2 : Int32) (y0 : Int32), f_X10_burnsDown_39 m sL x1 x2 y0 = some u → VW g (va_A ([mdO g b m, iaW g (b 1) 110 s] : List va_W).flatten sW.heap.size) 4 pW l eW ({ frames := 2, cells := 0, slots := 0, locals := 43 } : Room) sW mW argsW belowW methW c9 0 0 (MQ belowW (xQc g ([mdO g b m, iaW g (b 1) 110 s] : List va_W).flatten sW.heap.size (fun v9 w9 => v9 = some (.int u.1) ∧ w9 = ([mdO g b m, iaW g (b 1) 110 u.2] : List va_W).flatten)) argsW sW 0 0 (va_A ([mdO g b m, iaW g (b 1) 110 s] : List va_W).flatten sW.heap.size)) [mdO g b m, iaW g (b 1) 110 sL] [(0, .ref (b 0)), (1, .int x1), (2, .int x2)] 39 [.int y0] := by
    intro sL x1 x2 y0 hf
    unfold f_X10_burnsDown_39 at hf
    refine x_istore_n (lv' := [(3, .int y0), (0, .ref (b 0)), (1, .int x1), (2, .int x2)]) C dX10_burnsDown_39 rfl (by decide) rfl ?_
    refine x_aload_n C dX10_burnsDown_40 rfl 1 rfl ?_
    refine x_iload_n C dX10_burnsDown_41 rfl 2 rfl ?_
    refine x_iconst (v := 1) C dX10_burnsDown_42 (by decide) ?_
    refine x_aload_n C dX10_burnsDown_43 rfl 1 rfl ?_
    refine x_iload_n C dX10_burnsDown_44 rfl 2 rfl ?_
    refine x_iconst (v := 1) C dX10_burnsDown_45 (by decide) ?_
    obtain ⟨u1, hu1, hf⟩ := x_b hf
    refine x_callV (n := 2) (As := [.int x1, .int (1 : Int32)]) (rest := [.int (1 : Int32), .int x1, .ref (b 0)]) C (c_X10_of g l b m sL x1 (1 : Int32) hu1) ⟨⟨wd_1599, wd_1596, wd_78⟩, ⟨by decide, by decide, by decide⟩, rfl, rfl, Nat.le_of_ble_eq_true rfl, Nat.le_of_ble_eq_true rfl⟩ wd_1598 wd_31 ⟨0, 11, _, _, rfl, rfl, rfl⟩ [] (x_pickD [0, 1] 2 rfl rfl rfl) rfl rfl (Nat.le_of_ble_eq_true rfl) ⟨Nat.le_of_ble_eq_true rfl, Nat.le_of_ble_eq_true rfl⟩ dX10_burnsDown_46 (x_goD (wss2 := [mdO g b m, iaW g (b 1) 110 sL]) (stk2 := [.int u1, .int (1 : Int32), .int x1, .ref (b 0)]) rfl rfl ?_)
    refine x_iload_n C dX10_burnsDown_49 rfl 3 rfl ?_
    refine x_isub C dX10_burnsDown_50 ?_
    obtain ⟨u2, hu2, hf⟩ := x_b hf
    refine x_callV (n := 3) (As := [.int x1, .int (1 : Int32), .int (u1 - x2)]) (rest := []) C (c_X10_sets g l b m sL x1 (1 : Int32) (u1 - x2) hu2) ⟨⟨wd_1579, wd_1576, wd_78⟩, ⟨by decide, by decide, by decide⟩, rfl, rfl, Nat.le_of_ble_eq_true rfl, Nat.le_of_ble_eq_true rfl⟩ wd_1578 wd_27 ⟨0, 11, _, _, rfl, rfl, rfl⟩ [] (x_pickD [0, 1] 2 rfl rfl rfl) rfl rfl (Nat.le_of_ble_eq_true rfl) ⟨Nat.le_of_ble_eq_true rfl, Nat.le_of_ble_eq_true rfl⟩ dX10_burnsDown_51 (x_goD (wss2 := [mdO g b m, iaW g (b 1) 110 u2]) (stk2 := []) rfl rfl ?_)
    refine x_aload_n C dX10_burnsDown_54 rfl 1 rfl ?_
    refine x_get (ci := 11) (v := .ref (b 1)) (b := mdO g b m) C ixX10 rfl 0 (by decide) wd_1492 (fun _ h => h) 0 rfl 0 (mdO_at0 g b _) rfl dX10_burnsDown_55 ?_
    refine x_iconst (v := 2) C dX10_burnsDown_58 (by decide) ?_
    refine x_dup2_11 C dX10_burnsDown_59 rfl rfl ?_
    obtain ⟨h3, hf⟩ := x_n hf
    refine x_iald (b := iaW g (b 1) 110 u2) C 1 rfl 0 (iaW_at0 g (b 1) 110 _) h3 dX10_burnsDown_60 ?_
    refine x_iload_n C dX10_burnsDown_61 rfl 0 rfl ?_
    refine x_iadd C dX10_burnsDown_62 ?_
    obtain ⟨h4, hf⟩ := x_n hf
    refine x_iast (b := iaW g (b 1) 110 u2) (b' := iaW g (b 1) 110 (upd u2 (2 : Int32).toNatClampNeg ((u2 (2 : Int32).toNatClampNeg) + y0))) (wss' := [mdO g b m, iaW g (b 1) 110 (upd u2 (2 : Int32).toNatClampNeg ((u2 (2 : Int32).toNatClampNeg) + y0))]) C 1 rfl 0 (iaW_at0 g (b 1) 110 _) h4 rfl rfl dX10_burnsDown_63 ?_
    refine x_aload_n C dX10_burnsDown_64 rfl 1 rfl ?_
    refine x_get (ci := 11) (v := .ref (b 1)) (b := mdO g b m) C ixX10 rfl 0 (by decide) wd_1492 (fun _ h => h) 0 rfl 0 (mdO_at0 g b _) rfl dX10_burnsDown_65 ?_
    refine x_bipush (v := 9) C dX10_burnsDown_68 (by decide) ?_
    refine x_dup2_11 C dX10_burnsDown_70 rfl rfl ?_
    obtain ⟨h5, hf⟩ := x_n hf
    refine x_iald (b := iaW g (b 1) 110 (upd u2 (2 : Int32).toNatClampNeg ((u2 (2 : Int32).toNatClampNeg) + y0))) C 1 rfl 0 (iaW_at0 g (b 1) 110 _) h5 dX10_burnsDown_71 ?_
    refine x_iload_n C dX10_burnsDown_72 rfl 3 rfl ?_
    refine x_iload_n C dX10_burnsDown_73 rfl 0 rfl ?_
    refine x_isub C dX10_burnsDown_74 ?_
    refine x_iadd C dX10_burnsDown_75 ?_
    obtain ⟨h6, hf⟩ := x_n hf
    refine x_iast (b := iaW g (b 1) 110 (upd u2 (2 : Int32).toNatClampNeg ((u2 (2 : Int32).toNatClampNeg) + y0))) (b' := iaW g (b 1) 110 (upd (upd u2 (2 : Int32).toNatClampNeg ((u2 (2 : Int32).toNatClampNeg) + y0)) (9 : Int32).toNatClampNeg (((upd u2 (2 : Int32).toNatClampNeg ((u2 (2 : Int32).toNatClampNeg) + y0)) (9 : Int32).toNatClampNeg) + (x2 - y0)))) (wss' := [mdO g b m, iaW g (b 1) 110 (upd (upd u2 (2 : Int32).toNatClampNeg ((u2 (2 : Int32).toNatClampNeg) + y0)) (9 : Int32).toNatClampNeg (((upd u2 (2 : Int32).toNatClampNeg ((u2 (2 : Int32).toNatClampNeg) + y0)) (9 : Int32).toNatClampNeg) + (x2 - y0)))]) C 1 rfl 0 (iaW_at0 g (b 1) 110 _) h6 rfl rfl dX10_burnsDown_76 ?_
    refine x_aload_n C dX10_burnsDown_77 rfl 1 rfl ?_
    refine x_iload_n C dX10_burnsDown_78 rfl 2 rfl ?_
    refine x_iconst (v := 1) C dX10_burnsDown_79 (by decide) ?_
    obtain ⟨u7, hu7, hf⟩ := x_b hf
    refine x_callV (n := 2) (As := [.int x1, .int (1 : Int32)]) (rest := []) C (c_X10_of g l b m (upd (upd u2 (2 : Int32).toNatClampNeg ((u2 (2 : Int32).toNatClampNeg) + y0)) (9 : Int32).toNatClampNeg (((upd u2 (2 : Int32).toNatClampNeg ((u2 (2 : Int32).toNatClampNeg) + y0)) (9 : Int32).toNatClampNeg) + (x2 - y0))) x1 (1 : Int32) hu7) ⟨⟨wd_1599, wd_1596, wd_78⟩, ⟨by decide, by decide, by decide⟩, rfl, rfl, Nat.le_of_ble_eq_true rfl, Nat.le_of_ble_eq_true rfl⟩ wd_1598 wd_31 ⟨0, 11, _, _, rfl, rfl, rfl⟩ [] (x_pickD [0, 1] 2 rfl rfl rfl) rfl rfl (Nat.le_of_ble_eq_true rfl) ⟨Nat.le_of_ble_eq_true rfl, Nat.le_of_ble_eq_true rfl⟩ dX10_burnsDown_80 (x_goD (wss2 := [mdO g b m, iaW g (b 1) 110 (upd (upd u2 (2 : Int32).toNatClampNeg ((u2 (2 : Int32).toNatClampNeg) + y0)) (9 : Int32).toNatClampNeg (((upd u2 (2 : Int32).toNatClampNeg ((u2 (2 : Int32).toNatClampNeg) + y0)) (9 : Int32).toNatClampNeg) + (x2 - y0)))]) (stk2 := [.int u7]) rfl rfl ?_)
    refine x_if_ne (tgt := 103) C dX10_burnsDown_83 (by decide) (fun h8 => ?_) (fun h8 => ?_)
    · have hf := x_f h8 hf
      refine x_iload_n C dX10_burnsDown_103 rfl 3 rfl ?_
      exact x_iret C hr ⟨by cases hf; rfl, by cases hf; rfl⟩ dX10_burnsDown_104
    · have hf := x_t h8 hf
      refine x_aload_n C dX10_burnsDown_86 rfl 1 rfl ?_
      refine x_iload_n C dX10_burnsDown_87 rfl 2 rfl ?_
      refine x_iconst (v := 3) C dX10_burnsDown_88 (by decide) ?_
      refine x_iconst (v := 0) C dX10_burnsDown_89 (by decide) ?_
      obtain ⟨u9, hu9, hf⟩ := x_b hf
      refine x_callV (n := 3) (As := [.int x1, .int (3 : Int32), .int (0 : Int32)]) (rest := []) C (c_X10_sets g l b m (upd (upd u2 (2 : Int32).toNatClampNeg ((u2 (2 : Int32).toNatClampNeg) + y0)) (9 : Int32).toNatClampNeg (((upd u2 (2 : Int32).toNatClampNeg ((u2 (2 : Int32).toNatClampNeg) + y0)) (9 : Int32).toNatClampNeg) + (x2 - y0))) x1 (3 : Int32) (0 : Int32) hu9) ⟨⟨wd_1579, wd_1576, wd_78⟩, ⟨by decide, by decide, by decide⟩, rfl, rfl, Nat.le_of_ble_eq_true rfl, Nat.le_of_ble_eq_true rfl⟩ wd_1578 wd_27 ⟨0, 11, _, _, rfl, rfl, rfl⟩ [] (x_pickD [0, 1] 2 rfl rfl rfl) rfl rfl (Nat.le_of_ble_eq_true rfl) ⟨Nat.le_of_ble_eq_true rfl, Nat.le_of_ble_eq_true rfl⟩ dX10_burnsDown_90 (x_goD (wss2 := [mdO g b m, iaW g (b 1) 110 u9]) (stk2 := []) rfl rfl ?_)
      refine x_aload_n C dX10_burnsDown_93 rfl 1 rfl ?_
      refine x_get (ci := 11) (v := .ref (b 1)) (b := mdO g b m) C ixX10 rfl 0 (by decide) wd_1492 (fun _ h => h) 0 rfl 0 (mdO_at0 g b _) rfl dX10_burnsDown_94 ?_
      refine x_bipush (v := 7) C dX10_burnsDown_97 (by decide) ?_
      refine x_iload_n C dX10_burnsDown_99 rfl 2 rfl ?_
      refine x_iconst (v := 1) C dX10_burnsDown_100 (by decide) ?_
      refine x_iadd C dX10_burnsDown_101 ?_
      obtain ⟨h10, hf⟩ := x_n hf
      refine x_iast (b := iaW g (b 1) 110 u9) (b' := iaW g (b 1) 110 (upd u9 (7 : Int32).toNatClampNeg (x1 + (1 : Int32)))) (wss' := [mdO g b m, iaW g (b 1) 110 (upd u9 (7 : Int32).toNatClampNeg (x1 + (1 : Int32)))]) C 1 rfl 0 (iaW_at0 g (b 1) 110 _) h10 rfl rfl dX10_burnsDown_102 ?_
      refine x_iload_n C dX10_burnsDown_103 rfl 3 rfl ?_
      exact x_iret C hr ⟨by cases hf; rfl, by cases hf; rfl⟩ dX10_burnsDown_104
  have hL28 : ∀ (sL : (Nat → Int32)) (x1 : Int32) (y0 : Int32), f_X10_burnsDown_28 m sL x1 y0 = some u → VW g (va_A ([mdO g b m, iaW g (b 1) 110 s] : List va_W).flatten sW.heap.size) 4 pW l eW ({ frames := 2, cells := 0, slots := 0, locals := 43 } : Room) sW mW argsW belowW methW c9 0 0 (MQ belowW (xQc g ([mdO g b m, iaW g (b 1) 110 s] : List va_W).flatten sW.heap.size (fun v9 w9 => v9 = some (.int u.1) ∧ w9 = ([mdO g b m, iaW g (b 1) 110 u.2] : List va_W).flatten)) argsW sW 0 0 (va_A ([mdO g b m, iaW g (b 1) 110 s] : List va_W).flatten sW.heap.size)) [mdO g b m, iaW g (b 1) 110 sL] [(0, .ref (b 0)), (1, .int x1)] 28 [.int y0] := by
    intro sL x1 y0 hf
    unfold f_X10_burnsDown_28 at hf
    refine x_istore_n (lv' := [(2, .int y0), (0, .ref (b 0)), (1, .int x1)]) C dX10_burnsDown_28 rfl (by decide) rfl ?_
    refine x_iload_n C dX10_burnsDown_29 rfl 0 rfl ?_
    refine x_iconst (v := 5) C dX10_burnsDown_30 (by decide) ?_
    refine x_icmp_lt (tgt := 38) C dX10_burnsDown_31 (by decide) (fun h1 => ?_) (fun h1 => ?_)
    · have hf := x_t h1 hf
      refine x_iconst (v := 0) C dX10_burnsDown_38 (by decide) ?_
      refine x_locals (lv' := [(0, .ref (b 0)), (1, .int x1), (2, .int y0)]) [1, 2, 0] rfl ?_
      exact hL39 sL x1 y0 (0 : Int32) hf
    · have hf := x_f h1 hf
      refine x_iconst (v := 1) C dX10_burnsDown_34 (by decide) ?_
      refine x_goto (tgt := 39) C dX10_burnsDown_35 (by decide) ?_
      refine x_locals (lv' := [(0, .ref (b 0)), (1, .int x1), (2, .int y0)]) [1, 2, 0] rfl ?_
      exact hL39 sL x1 y0 (1 : Int32) hf
  refine x_aload_n C dX10_burnsDown_0 rfl 0 rfl ?_
  refine x_iload_n C dX10_burnsDown_1 rfl 1 rfl ?_
  obtain ⟨u1, hu1, hf⟩ := x_b hf
  refine x_callV (n := 1) (As := [.int x1]) (rest := []) C (c_X10_burns g l b m s x1 hu1) ⟨⟨wd_1683, wd_1680, wd_78⟩, ⟨by decide, by decide, by decide⟩, rfl, rfl, Nat.le_of_ble_eq_true rfl, Nat.le_of_ble_eq_true rfl⟩ wd_1682 wd_46 ⟨0, 11, _, _, rfl, rfl, rfl⟩ [] (x_pickD [0, 1] 2 rfl rfl rfl) rfl rfl (Nat.le_of_ble_eq_true rfl) ⟨Nat.le_of_ble_eq_true rfl, Nat.le_of_ble_eq_true rfl⟩ dX10_burnsDown_2 (x_goD (wss2 := [mdO g b m, iaW g (b 1) 110 s]) (stk2 := [.int u1]) rfl rfl ?_)
  refine x_aload_n C dX10_burnsDown_5 rfl 0 rfl ?_
  refine x_iload_n C dX10_burnsDown_6 rfl 1 rfl ?_
  refine x_iconst (v := 1) C dX10_burnsDown_7 (by decide) ?_
  obtain ⟨u2, hu2, hf⟩ := x_b hf
  refine x_callV (n := 2) (As := [.int x1, .int (1 : Int32)]) (rest := [.int u1]) C (c_X10_of g l b m s x1 (1 : Int32) hu2) ⟨⟨wd_1599, wd_1596, wd_78⟩, ⟨by decide, by decide, by decide⟩, rfl, rfl, Nat.le_of_ble_eq_true rfl, Nat.le_of_ble_eq_true rfl⟩ wd_1598 wd_31 ⟨0, 11, _, _, rfl, rfl, rfl⟩ [] (x_pickD [0, 1] 2 rfl rfl rfl) rfl rfl (Nat.le_of_ble_eq_true rfl) ⟨Nat.le_of_ble_eq_true rfl, Nat.le_of_ble_eq_true rfl⟩ dX10_burnsDown_8 (x_goD (wss2 := [mdO g b m, iaW g (b 1) 110 s]) (stk2 := [.int u2, .int u1]) rfl rfl ?_)
  refine x_icmp_ge (tgt := 22) C dX10_burnsDown_11 (by decide) (fun h3 => ?_) (fun h3 => ?_)
  · have hf := x_t h3 hf
    refine x_aload_n C dX10_burnsDown_22 rfl 0 rfl ?_
    refine x_iload_n C dX10_burnsDown_23 rfl 1 rfl ?_
    refine x_iconst (v := 1) C dX10_burnsDown_24 (by decide) ?_
    obtain ⟨u4, hu4, hf⟩ := x_b hf
    refine x_callV (n := 2) (As := [.int x1, .int (1 : Int32)]) (rest := []) C (c_X10_of g l b m s x1 (1 : Int32) hu4) ⟨⟨wd_1599, wd_1596, wd_78⟩, ⟨by decide, by decide, by decide⟩, rfl, rfl, Nat.le_of_ble_eq_true rfl, Nat.le_of_ble_eq_true rfl⟩ wd_1598 wd_31 ⟨0, 11, _, _, rfl, rfl, rfl⟩ [] (x_pickD [0, 1] 2 rfl rfl rfl) rfl rfl (Nat.le_of_ble_eq_true rfl) ⟨Nat.le_of_ble_eq_true rfl, Nat.le_of_ble_eq_true rfl⟩ dX10_burnsDown_25 (x_goD (wss2 := [mdO g b m, iaW g (b 1) 110 s]) (stk2 := [.int u4]) rfl rfl ?_)
    exact hL28 s x1 u4 hf
  · have hf := x_f h3 hf
    refine x_aload_n C dX10_burnsDown_14 rfl 0 rfl ?_
    refine x_iload_n C dX10_burnsDown_15 rfl 1 rfl ?_
    obtain ⟨u5, hu5, hf⟩ := x_b hf
    refine x_callV (n := 1) (As := [.int x1]) (rest := []) C (c_X10_burns g l b m s x1 hu5) ⟨⟨wd_1683, wd_1680, wd_78⟩, ⟨by decide, by decide, by decide⟩, rfl, rfl, Nat.le_of_ble_eq_true rfl, Nat.le_of_ble_eq_true rfl⟩ wd_1682 wd_46 ⟨0, 11, _, _, rfl, rfl, rfl⟩ [] (x_pickD [0, 1] 2 rfl rfl rfl) rfl rfl (Nat.le_of_ble_eq_true rfl) ⟨Nat.le_of_ble_eq_true rfl, Nat.le_of_ble_eq_true rfl⟩ dX10_burnsDown_16 (x_goD (wss2 := [mdO g b m, iaW g (b 1) 110 s]) (stk2 := [.int u5]) rfl rfl ?_)
    refine x_goto (tgt := 28) C dX10_burnsDown_19 (by decide) ?_
    exact hL28 s x1 u5 hf
theorem wd_43 : Cond.selects yX10_carriesOut.cls yX10_carriesOut yX10_carriesOut ∈ xTB := xTB_in 43 (by decide +kernel) (by decide +kernel)
theorem wd_45 : Cond.selects yX10_burnsDown.cls yX10_burnsDown yX10_burnsDown ∈ xTB := xTB_in 45 (by decide +kernel) (by decide +kernel)
theorem wd_1668 : Cond.methodLink RX10 123 yX10_carriesOut ∈ xTB := xTB_in 1668 (by decide +kernel) (by decide +kernel)
theorem wd_1670 : Cond.instanceMethod yX10_carriesOut ∈ xTB := xTB_in 1670 (by decide +kernel) (by decide +kernel)
theorem wd_1671 : Cond.code yX10_carriesOut cX10_carriesOut 3 none ∈ xTB := xTB_in 1671 (by decide +kernel) (by decide +kernel)
theorem wd_1676 : Cond.methodLink RX10 127 yX10_burnsDown ∈ xTB := xTB_in 1676 (by decide +kernel) (by decide +kernel)
theorem wd_1678 : Cond.instanceMethod yX10_burnsDown ∈ xTB := xTB_in 1678 (by decide +kernel) (by decide +kernel)
theorem wd_1679 : Cond.code yX10_burnsDown cX10_burnsDown 4 (some .int) ∈ xTB := xTB_in 1679 (by decide +kernel) (by decide +kernel)
theorem dX10_minutePasses_0 : decode cX10_minutePasses 0 = .ok (.aload_n 0, 1) := by decide +kernel
theorem dX10_minutePasses_1 : decode cX10_minutePasses 1 = .ok (.getfield 9, 3) := by decide +kernel
theorem dX10_minutePasses_4 : decode cX10_minutePasses 4 = .ok (.iconst 0, 1) := by decide +kernel
theorem dX10_minutePasses_5 : decode cX10_minutePasses 5 = .ok (.dup2, 1) := by decide +kernel
theorem dX10_minutePasses_6 : decode cX10_minutePasses 6 = .ok (.iaload, 1) := by decide +kernel
theorem dX10_minutePasses_7 : decode cX10_minutePasses 7 = .ok (.iconst 1, 1) := by decide +kernel
theorem dX10_minutePasses_8 : decode cX10_minutePasses 8 = .ok (.iadd, 1) := by decide +kernel
theorem dX10_minutePasses_9 : decode cX10_minutePasses 9 = .ok (.iastore, 1) := by decide +kernel
theorem dX10_minutePasses_10 : decode cX10_minutePasses 10 = .ok (.aload_n 0, 1) := by decide +kernel
theorem dX10_minutePasses_11 : decode cX10_minutePasses 11 = .ok (.getfield 9, 3) := by decide +kernel
theorem dX10_minutePasses_14 : decode cX10_minutePasses 14 = .ok (.iconst 4, 1) := by decide +kernel
theorem dX10_minutePasses_15 : decode cX10_minutePasses 15 = .ok (.iaload, 1) := by decide +kernel
theorem dX10_minutePasses_16 : decode cX10_minutePasses 16 = .ok (.ifCond .le 46, 3) := by decide +kernel
theorem dX10_minutePasses_19 : decode cX10_minutePasses 19 = .ok (.aload_n 0, 1) := by decide +kernel
theorem dX10_minutePasses_20 : decode cX10_minutePasses 20 = .ok (.iconst 0, 1) := by decide +kernel
theorem dX10_minutePasses_21 : decode cX10_minutePasses 21 = .ok (.iconst 0, 1) := by decide +kernel
theorem dX10_minutePasses_22 : decode cX10_minutePasses 22 = .ok (.invokevirtual 101, 3) := by decide +kernel
theorem dX10_minutePasses_25 : decode cX10_minutePasses 25 = .ok (.aload_n 0, 1) := by decide +kernel
theorem dX10_minutePasses_26 : decode cX10_minutePasses 26 = .ok (.getfield 9, 3) := by decide +kernel
theorem dX10_minutePasses_29 : decode cX10_minutePasses 29 = .ok (.iconst 0, 1) := by decide +kernel
theorem dX10_minutePasses_30 : decode cX10_minutePasses 30 = .ok (.iaload, 1) := by decide +kernel
theorem dX10_minutePasses_31 : decode cX10_minutePasses 31 = .ok (.if_icmp .ne 31, 3) := by decide +kernel
theorem dX10_minutePasses_34 : decode cX10_minutePasses 34 = .ok (.aload_n 0, 1) := by decide +kernel
theorem dX10_minutePasses_35 : decode cX10_minutePasses 35 = .ok (.iconst 0, 1) := by decide +kernel
theorem dX10_minutePasses_36 : decode cX10_minutePasses 36 = .ok (.iconst 1, 1) := by decide +kernel
theorem dX10_minutePasses_37 : decode cX10_minutePasses 37 = .ok (.invokevirtual 101, 3) := by decide +kernel
theorem dX10_minutePasses_40 : decode cX10_minutePasses 40 = .ok (.istore_n 1, 1) := by decide +kernel
theorem dX10_minutePasses_41 : decode cX10_minutePasses 41 = .ok (.aload_n 0, 1) := by decide +kernel
theorem dX10_minutePasses_42 : decode cX10_minutePasses 42 = .ok (.iconst 0, 1) := by decide +kernel
theorem dX10_minutePasses_43 : decode cX10_minutePasses 43 = .ok (.iconst 2, 1) := by decide +kernel
theorem dX10_minutePasses_44 : decode cX10_minutePasses 44 = .ok (.invokevirtual 101, 3) := by decide +kernel
theorem dX10_minutePasses_47 : decode cX10_minutePasses 47 = .ok (.istore_n 2, 1) := by decide +kernel
theorem dX10_minutePasses_48 : decode cX10_minutePasses 48 = .ok (.aload_n 0, 1) := by decide +kernel
theorem dX10_minutePasses_49 : decode cX10_minutePasses 49 = .ok (.iconst 0, 1) := by decide +kernel
theorem dX10_minutePasses_50 : decode cX10_minutePasses 50 = .ok (.invokevirtual 110, 3) := by decide +kernel
theorem dX10_minutePasses_53 : decode cX10_minutePasses 53 = .ok (.aload_n 0, 1) := by decide +kernel
theorem dX10_minutePasses_54 : decode cX10_minutePasses 54 = .ok (.iload_n 1, 1) := by decide +kernel
theorem dX10_minutePasses_55 : decode cX10_minutePasses 55 = .ok (.iload_n 2, 1) := by decide +kernel
theorem dX10_minutePasses_56 : decode cX10_minutePasses 56 = .ok (.invokevirtual 123, 3) := by decide +kernel
theorem dX10_minutePasses_59 : decode cX10_minutePasses 59 = .ok (.goto (-49), 3) := by decide +kernel
theorem dX10_minutePasses_62 : decode cX10_minutePasses 62 = .ok (.iconst 0, 1) := by decide +kernel
theorem dX10_minutePasses_63 : decode cX10_minutePasses 63 = .ok (.istore_n 1, 1) := by decide +kernel
theorem dX10_minutePasses_64 : decode cX10_minutePasses 64 = .ok (.iconst 0, 1) := by decide +kernel
theorem dX10_minutePasses_65 : decode cX10_minutePasses 65 = .ok (.istore_n 2, 1) := by decide +kernel
theorem dX10_minutePasses_66 : decode cX10_minutePasses 66 = .ok (.iload_n 2, 1) := by decide +kernel
theorem dX10_minutePasses_67 : decode cX10_minutePasses 67 = .ok (.aload_n 0, 1) := by decide +kernel
theorem dX10_minutePasses_68 : decode cX10_minutePasses 68 = .ok (.getfield 9, 3) := by decide +kernel
theorem dX10_minutePasses_71 : decode cX10_minutePasses 71 = .ok (.iconst 3, 1) := by decide +kernel
theorem dX10_minutePasses_72 : decode cX10_minutePasses 72 = .ok (.iaload, 1) := by decide +kernel
theorem dX10_minutePasses_73 : decode cX10_minutePasses 73 = .ok (.if_icmp .ge 31, 3) := by decide +kernel
theorem dX10_minutePasses_76 : decode cX10_minutePasses 76 = .ok (.iload_n 1, 1) := by decide +kernel
theorem dX10_minutePasses_77 : decode cX10_minutePasses 77 = .ok (.aload_n 0, 1) := by decide +kernel
theorem dX10_minutePasses_78 : decode cX10_minutePasses 78 = .ok (.iload_n 2, 1) := by decide +kernel
theorem dX10_minutePasses_79 : decode cX10_minutePasses 79 = .ok (.iconst 3, 1) := by decide +kernel
theorem dX10_minutePasses_80 : decode cX10_minutePasses 80 = .ok (.invokevirtual 55, 3) := by decide +kernel
theorem dX10_minutePasses_83 : decode cX10_minutePasses 83 = .ok (.iconst 1, 1) := by decide +kernel
theorem dX10_minutePasses_84 : decode cX10_minutePasses 84 = .ok (.if_icmp .ne 11, 3) := by decide +kernel
theorem dX10_minutePasses_87 : decode cX10_minutePasses 87 = .ok (.aload_n 0, 1) := by decide +kernel
theorem dX10_minutePasses_88 : decode cX10_minutePasses 88 = .ok (.iload_n 2, 1) := by decide +kernel
theorem dX10_minutePasses_89 : decode cX10_minutePasses 89 = .ok (.invokevirtual 127, 3) := by decide +kernel
theorem dX10_minutePasses_92 : decode cX10_minutePasses 92 = .ok (.goto 4, 3) := by decide +kernel
theorem dX10_minutePasses_95 : decode cX10_minutePasses 95 = .ok (.iconst 0, 1) := by decide +kernel
theorem dX10_minutePasses_96 : decode cX10_minutePasses 96 = .ok (.iadd, 1) := by decide +kernel
theorem dX10_minutePasses_97 : decode cX10_minutePasses 97 = .ok (.istore_n 1, 1) := by decide +kernel
theorem dX10_minutePasses_98 : decode cX10_minutePasses 98 = .ok (.iinc 2 1, 3) := by decide +kernel
theorem dX10_minutePasses_101 : decode cX10_minutePasses 101 = .ok (.goto (-35), 3) := by decide +kernel
theorem dX10_minutePasses_104 : decode cX10_minutePasses 104 = .ok (.iload_n 1, 1) := by decide +kernel
theorem dX10_minutePasses_105 : decode cX10_minutePasses 105 = .ok (.ireturn, 1) := by decide +kernel
set_option maxHeartbeats 4000000 in
set_option maxRecDepth 100000 in
theorem c_X10_minutePasses (g : xG) (l : Launch) (b : Nat → Nat) (m : MdT) (s : (Nat → Int32))  {u : Int32 × (Nat → Int32)} (hf : f_X10_minutePasses m s = some u) : ConD g l yX10_minutePasses cX10_minutePasses 3 (some .int) ({ frames := 3, cells := 0, slots := 0, locals := 66 } : Room) [.ref (b 0)] [mdO g b m, iaW g (b 1) 110 s] (some (.int u.1)) [mdO g b m, iaW g (b 1) 110 u.2] := by
  unfold f_X10_minutePasses at hf
  refine Con_of [mdO g b m, iaW g (b 1) 110 s] [(0, .ref (b 0))] rfl rfl (by decide) (Nat.le_of_ble_eq_true rfl) ?_
  intro pW eW sW mW argsW belowW methW c9 C hnm hr
  have C : CX g RX10 cX10_minutePasses 3 _ pW sW mW argsW methW c9 := C
  have hL66 : ∀ (nW : Nat) (sL : (Nat → Int32)) (x1 : Int32) (x2 : Int32), f_X10_minutePasses_66 nW m sL x1 x2 = some u → VW g (va_A ([mdO g b m, iaW g (b 1) 110 s] : List va_W).flatten sW.heap.size) 3 pW l eW ({ frames := 3, cells := 0, slots := 0, locals := 66 } : Room) sW mW argsW belowW methW c9 0 0 (MQ belowW (xQc g ([mdO g b m, iaW g (b 1) 110 s] : List va_W).flatten sW.heap.size (fun v9 w9 => v9 = some (.int u.1) ∧ w9 = ([mdO g b m, iaW g (b 1) 110 u.2] : List va_W).flatten)) argsW sW 0 0 (va_A ([mdO g b m, iaW g (b 1) 110 s] : List va_W).flatten sW.heap.size)) [mdO g b m, iaW g (b 1) 110 sL] [(0, .ref (b 0)), (1, .int x1), (2, .int x2)] 66 [] := by
    intro nW
    induction nW with
    | zero => intro sL x1 x2 hf; rw [f_X10_minutePasses_66] at hf; cases hf
    | succ nW ih =>
      intro sL x1 x2 hf
      rw [f_X10_minutePasses_66] at hf
      refine x_iload_n C dX10_minutePasses_66 rfl 2 rfl ?_
      refine x_aload_n C dX10_minutePasses_67 rfl 0 rfl ?_
      refine x_get (ci := 11) (v := .ref (b 1)) (b := mdO g b m) C ixX10 rfl 0 (by decide) wd_1492 (fun _ h => h) 0 rfl 0 (mdO_at0 g b _) rfl dX10_minutePasses_68 ?_
      refine x_iconst (v := 3) C dX10_minutePasses_71 (by decide) ?_
      obtain ⟨h1, hf⟩ := x_n hf
      refine x_iald (b := iaW g (b 1) 110 sL) C 1 rfl 0 (iaW_at0 g (b 1) 110 _) h1 dX10_minutePasses_72 ?_
      refine x_icmp_ge (tgt := 104) C dX10_minutePasses_73 (by decide) (fun h2 => ?_) (fun h2 => ?_)
      · have hf := x_t h2 hf
        refine x_iload_n C dX10_minutePasses_104 rfl 1 rfl ?_
        exact x_iret C hr ⟨by cases hf; rfl, by cases hf; rfl⟩ dX10_minutePasses_105
      · have hf := x_f h2 hf
        refine x_iload_n C dX10_minutePasses_76 rfl 1 rfl ?_
        refine x_aload_n C dX10_minutePasses_77 rfl 0 rfl ?_
        refine x_iload_n C dX10_minutePasses_78 rfl 2 rfl ?_
        refine x_iconst (v := 3) C dX10_minutePasses_79 (by decide) ?_
        obtain ⟨u3, hu3, hf⟩ := x_b hf
        refine x_callV (n := 2) (As := [.int x2, .int (3 : Int32)]) (rest := [.int x1]) C (c_X10_of g l b m sL x2 (3 : Int32) hu3) ⟨⟨wd_1599, wd_1596, wd_78⟩, ⟨by decide, by decide, by decide⟩, rfl, rfl, Nat.le_of_ble_eq_true rfl, Nat.le_of_ble_eq_true rfl⟩ wd_1598 wd_31 ⟨0, 11, _, _, rfl, rfl, rfl⟩ [] (x_pickD [0, 1] 2 rfl rfl rfl) rfl rfl (Nat.le_of_ble_eq_true rfl) ⟨Nat.le_of_ble_eq_true rfl, Nat.le_of_ble_eq_true rfl⟩ dX10_minutePasses_80 (x_goD (wss2 := [mdO g b m, iaW g (b 1) 110 sL]) (stk2 := [.int u3, .int x1]) rfl rfl ?_)
        refine x_iconst (v := 1) C dX10_minutePasses_83 (by decide) ?_
        refine x_icmp_ne (tgt := 95) C dX10_minutePasses_84 (by decide) (fun h4 => ?_) (fun h4 => ?_)
        · have hf := x_f h4 hf
          refine x_iconst (v := 0) C dX10_minutePasses_95 (by decide) ?_
          refine x_iadd C dX10_minutePasses_96 ?_
          refine x_istore_n (lv' := [(1, .int (x1 + (0 : Int32))), (0, .ref (b 0)), (2, .int x2)]) C dX10_minutePasses_97 rfl (by decide) rfl ?_
          refine x_iinc (v := x2 + 1) (lv' := [(2, .int (x2 + 1)), (1, .int (x1 + (0 : Int32))), (0, .ref (b 0))]) C dX10_minutePasses_98 2 rfl rfl (by decide) rfl ?_
          refine x_goto (tgt := 66) C dX10_minutePasses_101 (by decide) ?_
          refine x_locals (lv' := [(0, .ref (b 0)), (1, .int (x1 + (0 : Int32))), (2, .int (x2 + 1))]) [2, 1, 0] rfl ?_
          exact ih sL (x1 + (0 : Int32)) (x2 + 1) hf
        · have hf := x_t h4 hf
          refine x_aload_n C dX10_minutePasses_87 rfl 0 rfl ?_
          refine x_iload_n C dX10_minutePasses_88 rfl 2 rfl ?_
          obtain ⟨u5, hu5, hf⟩ := x_b hf
          refine x_callV (n := 1) (As := [.int x2]) (rest := [.int x1]) C (c_X10_burnsDown g l b m sL x2 hu5) ⟨⟨wd_1679, wd_1676, wd_78⟩, ⟨by decide, by decide, by decide⟩, rfl, rfl, Nat.le_of_ble_eq_true rfl, Nat.le_of_ble_eq_true rfl⟩ wd_1678 wd_45 ⟨0, 11, _, _, rfl, rfl, rfl⟩ [] (x_pickD [0, 1] 2 rfl rfl rfl) rfl rfl (Nat.le_of_ble_eq_true rfl) ⟨Nat.le_of_ble_eq_true rfl, Nat.le_of_ble_eq_true rfl⟩ dX10_minutePasses_89 (x_goD (wss2 := [mdO g b m, iaW g (b 1) 110 u5.2]) (stk2 := [.int u5.1, .int x1]) rfl rfl ?_)
          refine x_goto (tgt := 96) C dX10_minutePasses_92 (by decide) ?_
          refine x_iadd C dX10_minutePasses_96 ?_
          refine x_istore_n (lv' := [(1, .int (x1 + u5.1)), (0, .ref (b 0)), (2, .int x2)]) C dX10_minutePasses_97 rfl (by decide) rfl ?_
          refine x_iinc (v := x2 + 1) (lv' := [(2, .int (x2 + 1)), (1, .int (x1 + u5.1)), (0, .ref (b 0))]) C dX10_minutePasses_98 2 rfl rfl (by decide) rfl ?_
          refine x_goto (tgt := 66) C dX10_minutePasses_101 (by decide) ?_
          refine x_locals (lv' := [(0, .ref (b 0)), (1, .int (x1 + u5.1)), (2, .int (x2 + 1))]) [2, 1, 0] rfl ?_
          exact ih u5.2 (x1 + u5.1) (x2 + 1) hf
  have hL62 : ∀ (sL : (Nat → Int32)), f_X10_minutePasses_62 m sL = some u → VW g (va_A ([mdO g b m, iaW g (b 1) 110 s] : List va_W).flatten sW.heap.size) 3 pW l eW ({ frames := 3, cells := 0, slots := 0, locals := 66 } : Room) sW mW argsW belowW methW c9 0 0 (MQ belowW (xQc g ([mdO g b m, iaW g (b 1) 110 s] : List va_W).flatten sW.heap.size (fun v9 w9 => v9 = some (.int u.1) ∧ w9 = ([mdO g b m, iaW g (b 1) 110 u.2] : List va_W).flatten)) argsW sW 0 0 (va_A ([mdO g b m, iaW g (b 1) 110 s] : List va_W).flatten sW.heap.size)) [mdO g b m, iaW g (b 1) 110 sL] [(0, .ref (b 0))] 62 [] := by
    intro sL hf
    unfold f_X10_minutePasses_62 at hf
    refine x_iconst (v := 0) C dX10_minutePasses_62 (by decide) ?_
    refine x_istore_n (lv' := [(1, .int (0 : Int32)), (0, .ref (b 0))]) C dX10_minutePasses_63 rfl (by decide) rfl ?_
    refine x_iconst (v := 0) C dX10_minutePasses_64 (by decide) ?_
    refine x_istore_n (lv' := [(2, .int (0 : Int32)), (1, .int (0 : Int32)), (0, .ref (b 0))]) C dX10_minutePasses_65 rfl (by decide) rfl ?_
    refine x_locals (lv' := [(0, .ref (b 0)), (1, .int (0 : Int32)), (2, .int (0 : Int32))]) [2, 1, 0] rfl ?_
    exact hL66 xFuel sL (0 : Int32) (0 : Int32) hf
  have hL10 : ∀ (nW : Nat) (sL : (Nat → Int32)), f_X10_minutePasses_10 nW m sL = some u → VW g (va_A ([mdO g b m, iaW g (b 1) 110 s] : List va_W).flatten sW.heap.size) 3 pW l eW ({ frames := 3, cells := 0, slots := 0, locals := 66 } : Room) sW mW argsW belowW methW c9 0 0 (MQ belowW (xQc g ([mdO g b m, iaW g (b 1) 110 s] : List va_W).flatten sW.heap.size (fun v9 w9 => v9 = some (.int u.1) ∧ w9 = ([mdO g b m, iaW g (b 1) 110 u.2] : List va_W).flatten)) argsW sW 0 0 (va_A ([mdO g b m, iaW g (b 1) 110 s] : List va_W).flatten sW.heap.size)) [mdO g b m, iaW g (b 1) 110 sL] [(0, .ref (b 0))] 10 [] := by
    intro nW
    induction nW with
    | zero => intro sL hf; rw [f_X10_minutePasses_10] at hf; cases hf
    | succ nW ih =>
      intro sL hf
      rw [f_X10_minutePasses_10] at hf
      refine x_aload_n C dX10_minutePasses_10 rfl 0 rfl ?_
      refine x_get (ci := 11) (v := .ref (b 1)) (b := mdO g b m) C ixX10 rfl 0 (by decide) wd_1492 (fun _ h => h) 0 rfl 0 (mdO_at0 g b _) rfl dX10_minutePasses_11 ?_
      refine x_iconst (v := 4) C dX10_minutePasses_14 (by decide) ?_
      obtain ⟨h1, hf⟩ := x_n hf
      refine x_iald (b := iaW g (b 1) 110 sL) C 1 rfl 0 (iaW_at0 g (b 1) 110 _) h1 dX10_minutePasses_15 ?_
      refine x_if_le (tgt := 62) C dX10_minutePasses_16 (by decide) (fun h2 => ?_) (fun h2 => ?_)
      · have hf := x_t h2 hf
        exact hL62 sL hf
      · have hf := x_f h2 hf
        refine x_aload_n C dX10_minutePasses_19 rfl 0 rfl ?_
        refine x_iconst (v := 0) C dX10_minutePasses_20 (by decide) ?_
        refine x_iconst (v := 0) C dX10_minutePasses_21 (by decide) ?_
        obtain ⟨u3, hu3, hf⟩ := x_b hf
        refine x_callV (n := 2) (As := [.int (0 : Int32), .int (0 : Int32)]) (rest := []) C (c_X10_ofEvent g l b m sL (0 : Int32) (0 : Int32) hu3) ⟨⟨wd_1639, wd_1636, wd_78⟩, ⟨by decide, by decide, by decide⟩, rfl, rfl, Nat.le_of_ble_eq_true rfl, Nat.le_of_ble_eq_true rfl⟩ wd_1638 wd_37 ⟨0, 11, _, _, rfl, rfl, rfl⟩ [] (x_pickD [0, 1] 2 rfl rfl rfl) rfl rfl (Nat.le_of_ble_eq_true rfl) ⟨Nat.le_of_ble_eq_true rfl, Nat.le_of_ble_eq_true rfl⟩ dX10_minutePasses_22 (x_goD (wss2 := [mdO g b m, iaW g (b 1) 110 sL]) (stk2 := [.int u3]) rfl rfl ?_)
        refine x_aload_n C dX10_minutePasses_25 rfl 0 rfl ?_
        refine x_get (ci := 11) (v := .ref (b 1)) (b := mdO g b m) C ixX10 rfl 0 (by decide) wd_1492 (fun _ h => h) 0 rfl 0 (mdO_at0 g b _) rfl dX10_minutePasses_26 ?_
        refine x_iconst (v := 0) C dX10_minutePasses_29 (by decide) ?_
        obtain ⟨h4, hf⟩ := x_n hf
        refine x_iald (b := iaW g (b 1) 110 sL) C 1 rfl 0 (iaW_at0 g (b 1) 110 _) h4 dX10_minutePasses_30 ?_
        refine x_icmp_ne (tgt := 62) C dX10_minutePasses_31 (by decide) (fun h5 => ?_) (fun h5 => ?_)
        · have hf := x_f h5 hf
          exact hL62 sL hf
        · have hf := x_t h5 hf
          refine x_aload_n C dX10_minutePasses_34 rfl 0 rfl ?_
          refine x_iconst (v := 0) C dX10_minutePasses_35 (by decide) ?_
          refine x_iconst (v := 1) C dX10_minutePasses_36 (by decide) ?_
          obtain ⟨u6, hu6, hf⟩ := x_b hf
          refine x_callV (n := 2) (As := [.int (0 : Int32), .int (1 : Int32)]) (rest := []) C (c_X10_ofEvent g l b m sL (0 : Int32) (1 : Int32) hu6) ⟨⟨wd_1639, wd_1636, wd_78⟩, ⟨by decide, by decide, by decide⟩, rfl, rfl, Nat.le_of_ble_eq_true rfl, Nat.le_of_ble_eq_true rfl⟩ wd_1638 wd_37 ⟨0, 11, _, _, rfl, rfl, rfl⟩ [] (x_pickD [0, 1] 2 rfl rfl rfl) rfl rfl (Nat.le_of_ble_eq_true rfl) ⟨Nat.le_of_ble_eq_true rfl, Nat.le_of_ble_eq_true rfl⟩ dX10_minutePasses_37 (x_goD (wss2 := [mdO g b m, iaW g (b 1) 110 sL]) (stk2 := [.int u6]) rfl rfl ?_)
          refine x_istore_n (lv' := [(1, .int u6), (0, .ref (b 0))]) C dX10_minutePasses_40 rfl (by decide) rfl ?_
          refine x_aload_n C dX10_minutePasses_41 rfl 1 rfl ?_
          refine x_iconst (v := 0) C dX10_minutePasses_42 (by decide) ?_
          refine x_iconst (v := 2) C dX10_minutePasses_43 (by decide) ?_
          obtain ⟨u7, hu7, hf⟩ := x_b hf
          refine x_callV (n := 2) (As := [.int (0 : Int32), .int (2 : Int32)]) (rest := []) C (c_X10_ofEvent g l b m sL (0 : Int32) (2 : Int32) hu7) ⟨⟨wd_1639, wd_1636, wd_78⟩, ⟨by decide, by decide, by decide⟩, rfl, rfl, Nat.le_of_ble_eq_true rfl, Nat.le_of_ble_eq_true rfl⟩ wd_1638 wd_37 ⟨0, 11, _, _, rfl, rfl, rfl⟩ [] (x_pickD [0, 1] 2 rfl rfl rfl) rfl rfl (Nat.le_of_ble_eq_true rfl) ⟨Nat.le_of_ble_eq_true rfl, Nat.le_of_ble_eq_true rfl⟩ dX10_minutePasses_44 (x_goD (wss2 := [mdO g b m, iaW g (b 1) 110 sL]) (stk2 := [.int u7]) rfl rfl ?_)
          refine x_istore_n (lv' := [(2, .int u7), (1, .int u6), (0, .ref (b 0))]) C dX10_minutePasses_47 rfl (by decide) rfl ?_
          refine x_aload_n C dX10_minutePasses_48 rfl 2 rfl ?_
          refine x_iconst (v := 0) C dX10_minutePasses_49 (by decide) ?_
          obtain ⟨u8, hu8, hf⟩ := x_b hf
          refine x_callV (n := 1) (As := [.int (0 : Int32)]) (rest := []) C (c_X10_removes g l b m sL (0 : Int32) hu8) ⟨⟨wd_1655, wd_1652, wd_78⟩, ⟨by decide, by decide, by decide⟩, rfl, rfl, Nat.le_of_ble_eq_true rfl, Nat.le_of_ble_eq_true rfl⟩ wd_1654 wd_40 ⟨0, 11, _, _, rfl, rfl, rfl⟩ [] (x_pickD [0, 1] 2 rfl rfl rfl) rfl rfl (Nat.le_of_ble_eq_true rfl) ⟨Nat.le_of_ble_eq_true rfl, Nat.le_of_ble_eq_true rfl⟩ dX10_minutePasses_50 (x_goD (wss2 := [mdO g b m, iaW g (b 1) 110 u8]) (stk2 := []) rfl rfl ?_)
          refine x_aload_n C dX10_minutePasses_53 rfl 2 rfl ?_
          refine x_iload_n C dX10_minutePasses_54 rfl 1 rfl ?_
          refine x_iload_n C dX10_minutePasses_55 rfl 0 rfl ?_
          obtain ⟨u9, hu9, hf⟩ := x_b hf
          refine x_callV (n := 2) (As := [.int u6, .int u7]) (rest := []) C (c_X10_carriesOut g l b m u8 u6 u7 hu9) ⟨⟨wd_1671, wd_1668, wd_78⟩, ⟨by decide, by decide, by decide⟩, rfl, rfl, Nat.le_of_ble_eq_true rfl, Nat.le_of_ble_eq_true rfl⟩ wd_1670 wd_43 ⟨0, 11, _, _, rfl, rfl, rfl⟩ [] (x_pickD [0, 1] 2 rfl rfl rfl) rfl rfl (Nat.le_of_ble_eq_true rfl) ⟨Nat.le_of_ble_eq_true rfl, Nat.le_of_ble_eq_true rfl⟩ dX10_minutePasses_56 (x_goD (wss2 := [mdO g b m, iaW g (b 1) 110 u9]) (stk2 := []) rfl rfl ?_)
          refine x_goto (tgt := 10) C dX10_minutePasses_59 (by decide) ?_
          refine x_locals (lv' := [(0, .ref (b 0))]) [2] rfl ?_
          exact ih u9 hf
  refine x_aload_n C dX10_minutePasses_0 rfl 0 rfl ?_
  refine x_get (ci := 11) (v := .ref (b 1)) (b := mdO g b m) C ixX10 rfl 0 (by decide) wd_1492 (fun _ h => h) 0 rfl 0 (mdO_at0 g b _) rfl dX10_minutePasses_1 ?_
  refine x_iconst (v := 0) C dX10_minutePasses_4 (by decide) ?_
  refine x_dup2_11 C dX10_minutePasses_5 rfl rfl ?_
  obtain ⟨h1, hf⟩ := x_n hf
  refine x_iald (b := iaW g (b 1) 110 s) C 1 rfl 0 (iaW_at0 g (b 1) 110 _) h1 dX10_minutePasses_6 ?_
  refine x_iconst (v := 1) C dX10_minutePasses_7 (by decide) ?_
  refine x_iadd C dX10_minutePasses_8 ?_
  obtain ⟨h2, hf⟩ := x_n hf
  refine x_iast (b := iaW g (b 1) 110 s) (b' := iaW g (b 1) 110 (upd s (0 : Int32).toNatClampNeg ((s (0 : Int32).toNatClampNeg) + (1 : Int32)))) (wss' := [mdO g b m, iaW g (b 1) 110 (upd s (0 : Int32).toNatClampNeg ((s (0 : Int32).toNatClampNeg) + (1 : Int32)))]) C 1 rfl 0 (iaW_at0 g (b 1) 110 _) h2 rfl rfl dX10_minutePasses_9 ?_
  exact hL10 xFuel (upd s (0 : Int32).toNatClampNeg ((s (0 : Int32).toNatClampNeg) + (1 : Int32))) hf
theorem wd_42 : Cond.selects yX10_minutePasses.cls yX10_minutePasses yX10_minutePasses ∈ xTB := xTB_in 42 (by decide +kernel) (by decide +kernel)
theorem wd_1664 : Cond.methodLink RX10 130 yX10_minutePasses ∈ xTB := xTB_in 1664 (by decide +kernel) (by decide +kernel)
theorem wd_1666 : Cond.instanceMethod yX10_minutePasses ∈ xTB := xTB_in 1666 (by decide +kernel) (by decide +kernel)
theorem wd_1667 : Cond.code yX10_minutePasses cX10_minutePasses 3 (some .int) ∈ xTB := xTB_in 1667 (by decide +kernel) (by decide +kernel)
theorem dX10_waits_0 : decode cX10_waits 0 = .ok (.aload_n 0, 1) := by decide +kernel
theorem dX10_waits_1 : decode cX10_waits 1 = .ok (.iload_n 1, 1) := by decide +kernel
theorem dX10_waits_2 : decode cX10_waits 2 = .ok (.iconst 1, 1) := by decide +kernel
theorem dX10_waits_3 : decode cX10_waits 3 = .ok (.sipush 240, 3) := by decide +kernel
theorem dX10_waits_6 : decode cX10_waits 6 = .ok (.invokestatic 51, 3) := by decide +kernel
theorem dX10_waits_9 : decode cX10_waits 9 = .ok (.ifCond .ne 7, 3) := by decide +kernel
theorem dX10_waits_12 : decode cX10_waits 12 = .ok (.iconst 1, 1) := by decide +kernel
theorem dX10_waits_13 : decode cX10_waits 13 = .ok (.goto 4, 3) := by decide +kernel
theorem dX10_waits_16 : decode cX10_waits 16 = .ok (.iconst 0, 1) := by decide +kernel
theorem dX10_waits_17 : decode cX10_waits 17 = .ok (.iconst 1, 1) := by decide +kernel
theorem dX10_waits_18 : decode cX10_waits 18 = .ok (.invokevirtual 63, 3) := by decide +kernel
theorem dX10_waits_21 : decode cX10_waits 21 = .ok (.ifCond .eq 5, 3) := by decide +kernel
theorem dX10_waits_24 : decode cX10_waits 24 = .ok (.iconst 0, 1) := by decide +kernel
theorem dX10_waits_25 : decode cX10_waits 25 = .ok (.ireturn, 1) := by decide +kernel
theorem dX10_waits_26 : decode cX10_waits 26 = .ok (.iconst 0, 1) := by decide +kernel
theorem dX10_waits_27 : decode cX10_waits 27 = .ok (.istore_n 2, 1) := by decide +kernel
theorem dX10_waits_28 : decode cX10_waits 28 = .ok (.iconst 0, 1) := by decide +kernel
theorem dX10_waits_29 : decode cX10_waits 29 = .ok (.istore_n 3, 1) := by decide +kernel
theorem dX10_waits_30 : decode cX10_waits 30 = .ok (.iload_n 3, 1) := by decide +kernel
theorem dX10_waits_31 : decode cX10_waits 31 = .ok (.iload_n 1, 1) := by decide +kernel
theorem dX10_waits_32 : decode cX10_waits 32 = .ok (.if_icmp .ge 16, 3) := by decide +kernel
theorem dX10_waits_35 : decode cX10_waits 35 = .ok (.iload_n 2, 1) := by decide +kernel
theorem dX10_waits_36 : decode cX10_waits 36 = .ok (.aload_n 0, 1) := by decide +kernel
theorem dX10_waits_37 : decode cX10_waits 37 = .ok (.invokevirtual 130, 3) := by decide +kernel
theorem dX10_waits_40 : decode cX10_waits 40 = .ok (.iadd, 1) := by decide +kernel
theorem dX10_waits_41 : decode cX10_waits 41 = .ok (.istore_n 2, 1) := by decide +kernel
theorem dX10_waits_42 : decode cX10_waits 42 = .ok (.iinc 3 1, 3) := by decide +kernel
theorem dX10_waits_45 : decode cX10_waits 45 = .ok (.goto (-15), 3) := by decide +kernel
theorem dX10_waits_48 : decode cX10_waits 48 = .ok (.iload_n 2, 1) := by decide +kernel
theorem dX10_waits_49 : decode cX10_waits 49 = .ok (.ireturn, 1) := by decide +kernel
set_option maxHeartbeats 4000000 in
set_option maxRecDepth 100000 in
theorem c_X10_waits (g : xG) (l : Launch) (b : Nat → Nat) (m : MdT) (s : (Nat → Int32)) (x1 : Int32) {u : Int32 × MdT × (Nat → Int32)} (hf : f_X10_waits m s x1 = some u) : ConD g l yX10_waits cX10_waits 4 (some .int) ({ frames := 4, cells := 0, slots := 0, locals := 88 } : Room) [.ref (b 0), .int x1] [mdO g b m, iaW g (b 1) 110 s] (some (.int u.1)) [mdO g b u.2.1, iaW g (b 1) 110 u.2.2] := by
  unfold f_X10_waits at hf
  refine Con_of [mdO g b m, iaW g (b 1) 110 s] [(0, .ref (b 0)), (1, .int x1)] rfl rfl (by decide) (Nat.le_of_ble_eq_true rfl) ?_
  intro pW eW sW mW argsW belowW methW c9 C hnm hr
  have C : CX g RX10 cX10_waits 4 _ pW sW mW argsW methW c9 := C
  have hL30 : ∀ (nW : Nat) (mL : MdT) (sL : (Nat → Int32)) (x1 : Int32) (x2 : Int32) (x3 : Int32), f_X10_waits_30 nW mL sL x1 x2 x3 = some u → VW g (va_A ([mdO g b m, iaW g (b 1) 110 s] : List va_W).flatten sW.heap.size) 4 pW l eW ({ frames := 4, cells := 0, slots := 0, locals := 88 } : Room) sW mW argsW belowW methW c9 0 0 (MQ belowW (xQc g ([mdO g b m, iaW g (b 1) 110 s] : List va_W).flatten sW.heap.size (fun v9 w9 => v9 = some (.int u.1) ∧ w9 = ([mdO g b u.2.1, iaW g (b 1) 110 u.2.2] : List va_W).flatten)) argsW sW 0 0 (va_A ([mdO g b m, iaW g (b 1) 110 s] : List va_W).flatten sW.heap.size)) [mdO g b mL, iaW g (b 1) 110 sL] [(0, .ref (b 0)), (1, .int x1), (2, .int x2), (3, .int x3)] 30 [] := by
    intro nW
    induction nW with
    | zero => intro mL sL x1 x2 x3 hf; rw [f_X10_waits_30] at hf; cases hf
    | succ nW ih =>
      intro mL sL x1 x2 x3 hf
      rw [f_X10_waits_30] at hf
      refine x_iload_n C dX10_waits_30 rfl 3 rfl ?_
      refine x_iload_n C dX10_waits_31 rfl 1 rfl ?_
      refine x_icmp_ge (tgt := 48) C dX10_waits_32 (by decide) (fun h1 => ?_) (fun h1 => ?_)
      · have hf := x_t h1 hf
        refine x_iload_n C dX10_waits_48 rfl 2 rfl ?_
        exact x_iret C hr ⟨by cases hf; rfl, by cases hf; rfl⟩ dX10_waits_49
      · have hf := x_f h1 hf
        refine x_iload_n C dX10_waits_35 rfl 2 rfl ?_
        refine x_aload_n C dX10_waits_36 rfl 0 rfl ?_
        obtain ⟨u2, hu2, hf⟩ := x_b hf
        refine x_callV (n := 0) (As := []) (rest := [.int x2]) C (c_X10_minutePasses g l b mL sL hu2) ⟨⟨wd_1667, wd_1664, wd_78⟩, ⟨by decide, by decide, by decide⟩, rfl, rfl, Nat.le_of_ble_eq_true rfl, Nat.le_of_ble_eq_true rfl⟩ wd_1666 wd_42 ⟨0, 11, _, _, rfl, rfl, rfl⟩ [] (x_pickD [0, 1] 2 rfl rfl rfl) rfl rfl (Nat.le_of_ble_eq_true rfl) ⟨Nat.le_of_ble_eq_true rfl, Nat.le_of_ble_eq_true rfl⟩ dX10_waits_37 (x_goD (wss2 := [mdO g b mL, iaW g (b 1) 110 u2.2]) (stk2 := [.int u2.1, .int x2]) rfl rfl ?_)
        refine x_iadd C dX10_waits_40 ?_
        refine x_istore_n (lv' := [(2, .int (x2 + u2.1)), (0, .ref (b 0)), (1, .int x1), (3, .int x3)]) C dX10_waits_41 rfl (by decide) rfl ?_
        refine x_iinc (v := x3 + 1) (lv' := [(3, .int (x3 + 1)), (2, .int (x2 + u2.1)), (0, .ref (b 0)), (1, .int x1)]) C dX10_waits_42 3 rfl rfl (by decide) rfl ?_
        refine x_goto (tgt := 30) C dX10_waits_45 (by decide) ?_
        refine x_locals (lv' := [(0, .ref (b 0)), (1, .int x1), (2, .int (x2 + u2.1)), (3, .int (x3 + 1))]) [2, 3, 1, 0] rfl ?_
        exact ih mL u2.2 x1 (x2 + u2.1) (x3 + 1) hf
  have hL17 : ∀ (mL : MdT) (sL : (Nat → Int32)) (x1 : Int32) (y0 : Int32), f_X10_waits_17 mL sL x1 y0 = some u → VW g (va_A ([mdO g b m, iaW g (b 1) 110 s] : List va_W).flatten sW.heap.size) 4 pW l eW ({ frames := 4, cells := 0, slots := 0, locals := 88 } : Room) sW mW argsW belowW methW c9 0 0 (MQ belowW (xQc g ([mdO g b m, iaW g (b 1) 110 s] : List va_W).flatten sW.heap.size (fun v9 w9 => v9 = some (.int u.1) ∧ w9 = ([mdO g b u.2.1, iaW g (b 1) 110 u.2.2] : List va_W).flatten)) argsW sW 0 0 (va_A ([mdO g b m, iaW g (b 1) 110 s] : List va_W).flatten sW.heap.size)) [mdO g b mL, iaW g (b 1) 110 sL] [(0, .ref (b 0)), (1, .int x1)] 17 [.int y0, .ref (b 0)] := by
    intro mL sL x1 y0 hf
    unfold f_X10_waits_17 at hf
    refine x_iconst (v := 1) C dX10_waits_17 (by decide) ?_
    obtain ⟨u1, hu1, hf⟩ := x_b hf
    refine x_callV (n := 2) (As := [.int y0, .int (1 : Int32)]) (rest := []) C (c_X10_isThrown g l b mL y0 (1 : Int32) hu1) ⟨⟨wd_1575, wd_1572, wd_78⟩, ⟨by decide, by decide, by decide⟩, rfl, rfl, Nat.le_of_ble_eq_true rfl, Nat.le_of_ble_eq_true rfl⟩ wd_1574 wd_26 ⟨0, 11, _, _, rfl, rfl, rfl⟩ [iaW g (b 1) 110 sL] (x_pickD [0, 1] 2 rfl rfl rfl) rfl rfl (Nat.le_of_ble_eq_true rfl) ⟨Nat.le_of_ble_eq_true rfl, Nat.le_of_ble_eq_true rfl⟩ dX10_waits_18 (x_goD (wss2 := [mdO g b u1.2, iaW g (b 1) 110 sL]) (stk2 := [.int u1.1]) rfl rfl ?_)
    refine x_if_eq (tgt := 26) C dX10_waits_21 (by decide) (fun h2 => ?_) (fun h2 => ?_)
    · have hf := x_t h2 hf
      refine x_iconst (v := 0) C dX10_waits_26 (by decide) ?_
      refine x_istore_n (lv' := [(2, .int (0 : Int32)), (0, .ref (b 0)), (1, .int x1)]) C dX10_waits_27 rfl (by decide) rfl ?_
      refine x_iconst (v := 0) C dX10_waits_28 (by decide) ?_
      refine x_istore_n (lv' := [(3, .int (0 : Int32)), (2, .int (0 : Int32)), (0, .ref (b 0)), (1, .int x1)]) C dX10_waits_29 rfl (by decide) rfl ?_
      refine x_locals (lv' := [(0, .ref (b 0)), (1, .int x1), (2, .int (0 : Int32)), (3, .int (0 : Int32))]) [2, 3, 1, 0] rfl ?_
      exact hL30 xFuel u1.2 sL x1 (0 : Int32) (0 : Int32) hf
    · have hf := x_f h2 hf
      refine x_iconst (v := 0) C dX10_waits_24 (by decide) ?_
      exact x_iret C hr ⟨by cases hf; rfl, by cases hf; rfl⟩ dX10_waits_25
  refine x_aload_n C dX10_waits_0 rfl 0 rfl ?_
  refine x_iload_n C dX10_waits_1 rfl 1 rfl ?_
  refine x_iconst (v := 1) C dX10_waits_2 (by decide) ?_
  refine x_sipush (v := 240) C dX10_waits_3 (by decide) ?_
  obtain ⟨u1, hu1, hf⟩ := x_b hf
  refine x_callS (n := 3) (As := [.int x1, .int (1 : Int32), .int (240 : Int32)]) (rest := [.ref (b 0)]) C (c_X10_isIn g l x1 (1 : Int32) (240 : Int32) hu1) ⟨⟨wd_1571, wd_1569, wd_78⟩, ⟨by decide, by decide, by decide⟩, rfl, rfl, Nat.le_of_ble_eq_true rfl, Nat.le_of_ble_eq_true rfl⟩ wd_1570 [mdO g b m, iaW g (b 1) 110 s] (x_pickD [0, 1] 2 rfl rfl rfl) rfl rfl (Nat.le_of_ble_eq_true rfl) ⟨Nat.le_of_ble_eq_true rfl, Nat.le_of_ble_eq_true rfl⟩ dX10_waits_6 (x_goD (wss2 := [mdO g b m, iaW g (b 1) 110 s]) (stk2 := [.int u1, .ref (b 0)]) rfl rfl ?_)
  refine x_if_ne (tgt := 16) C dX10_waits_9 (by decide) (fun h2 => ?_) (fun h2 => ?_)
  · have hf := x_f h2 hf
    refine x_iconst (v := 0) C dX10_waits_16 (by decide) ?_
    exact hL17 m s x1 (0 : Int32) hf
  · have hf := x_t h2 hf
    refine x_iconst (v := 1) C dX10_waits_12 (by decide) ?_
    refine x_goto (tgt := 17) C dX10_waits_13 (by decide) ?_
    exact hL17 m s x1 (1 : Int32) hf
theorem wd_41 : Cond.selects yX10_waits.cls yX10_waits yX10_waits ∈ xTB := xTB_in 41 (by decide +kernel) (by decide +kernel)
theorem wd_1660 : Cond.methodLink RX10 133 yX10_waits ∈ xTB := xTB_in 1660 (by decide +kernel) (by decide +kernel)
theorem wd_1662 : Cond.instanceMethod yX10_waits ∈ xTB := xTB_in 1662 (by decide +kernel) (by decide +kernel)
theorem wd_1663 : Cond.code yX10_waits cX10_waits 4 (some .int) ∈ xTB := xTB_in 1663 (by decide +kernel) (by decide +kernel)
theorem dX10_pass_0 : decode cX10_pass 0 = .ok (.aload_n 0, 1) := by decide +kernel
theorem dX10_pass_1 : decode cX10_pass 1 = .ok (.invokevirtual 71, 3) := by decide +kernel
theorem dX10_pass_4 : decode cX10_pass 4 = .ok (.aload_n 0, 1) := by decide +kernel
theorem dX10_pass_5 : decode cX10_pass 5 = .ok (.aload_n 0, 1) := by decide +kernel
theorem dX10_pass_6 : decode cX10_pass 6 = .ok (.iload_n 1, 1) := by decide +kernel
theorem dX10_pass_7 : decode cX10_pass 7 = .ok (.invokevirtual 133, 3) := by decide +kernel
theorem dX10_pass_10 : decode cX10_pass 10 = .ok (.invokevirtual 78, 3) := by decide +kernel
theorem dX10_pass_13 : decode cX10_pass 13 = .ok (.ireturn, 1) := by decide +kernel
set_option maxHeartbeats 4000000 in
set_option maxRecDepth 100000 in
theorem c_X10_pass (g : xG) (l : Launch) (b : Nat → Nat) (m : MdT) (s : (Nat → Int32)) (w : (Nat → Int32)) (p : (Nat → Int32)) (x1 : Int32) {u : Int32 × MdT × (Nat → Int32) × (Nat → Int32) × (Nat → Int32)} (hf : f_X10_pass m s w p x1 = some u) : ConD g l yX10_pass cX10_pass 2 (some .int) ({ frames := 5, cells := 0, slots := 0, locals := 111 } : Room) [.ref (b 0), .int x1] [mdO g b m, iaW g (b 1) 110 s, iaW g (b 2) 110 w, iaW g (b 5) 880 p] (some (.int u.1)) [mdO g b u.2.1, iaW g (b 1) 110 u.2.2.1, iaW g (b 2) 110 u.2.2.2.1, iaW g (b 5) 880 u.2.2.2.2] := by
  unfold f_X10_pass at hf
  refine Con_of [mdO g b m, iaW g (b 1) 110 s, iaW g (b 2) 110 w, iaW g (b 5) 880 p] [(0, .ref (b 0)), (1, .int x1)] rfl rfl (by decide) (Nat.le_of_ble_eq_true rfl) ?_
  intro pW eW sW mW argsW belowW methW c9 C hnm hr
  have C : CX g RX10 cX10_pass 2 _ pW sW mW argsW methW c9 := C
  refine x_aload_n C dX10_pass_0 rfl 0 rfl ?_
  obtain ⟨u1, hu1, hf⟩ := x_b hf
  refine x_callV (n := 0) (As := []) (rest := []) C (c_X10_keeps g l b m s w hu1) ⟨⟨wd_1558, wd_1555, wd_78⟩, ⟨by decide, by decide, by decide⟩, rfl, rfl, Nat.le_of_ble_eq_true rfl, Nat.le_of_ble_eq_true rfl⟩ wd_1557 wd_24 ⟨0, 11, _, _, rfl, rfl, rfl⟩ [iaW g (b 5) 880 p] (x_pickD [0, 1, 2, 3] 4 rfl rfl rfl) rfl rfl (Nat.le_of_ble_eq_true rfl) ⟨Nat.le_of_ble_eq_true rfl, Nat.le_of_ble_eq_true rfl⟩ dX10_pass_1 (x_goD (wss2 := [mdO g b u1.1, iaW g (b 1) 110 s, iaW g (b 2) 110 u1.2, iaW g (b 5) 880 p]) (stk2 := []) rfl rfl ?_)
  refine x_aload_n C dX10_pass_4 rfl 0 rfl ?_
  refine x_aload_n C dX10_pass_5 rfl 0 rfl ?_
  refine x_iload_n C dX10_pass_6 rfl 1 rfl ?_
  obtain ⟨u2, hu2, hf⟩ := x_b hf
  refine x_callV (n := 1) (As := [.int x1]) (rest := [.ref (b 0)]) C (c_X10_waits g l b u1.1 s x1 hu2) ⟨⟨wd_1663, wd_1660, wd_78⟩, ⟨by decide, by decide, by decide⟩, rfl, rfl, Nat.le_of_ble_eq_true rfl, Nat.le_of_ble_eq_true rfl⟩ wd_1662 wd_41 ⟨0, 11, _, _, rfl, rfl, rfl⟩ [iaW g (b 2) 110 u1.2, iaW g (b 5) 880 p] (x_pickD [0, 1, 2, 3] 4 rfl rfl rfl) rfl rfl (Nat.le_of_ble_eq_true rfl) ⟨Nat.le_of_ble_eq_true rfl, Nat.le_of_ble_eq_true rfl⟩ dX10_pass_7 (x_goD (wss2 := [mdO g b u2.2.1, iaW g (b 1) 110 u2.2.2, iaW g (b 2) 110 u1.2, iaW g (b 5) 880 p]) (stk2 := [.int u2.1, .ref (b 0)]) rfl rfl ?_)
  obtain ⟨u3, hu3, hf⟩ := x_b hf
  refine x_callV (n := 1) (As := [.int u2.1]) (rest := []) C (c_X10_ends g l b u2.2.1 u1.2 p u2.1 hu3) ⟨⟨wd_1583, wd_1580, wd_78⟩, ⟨by decide, by decide, by decide⟩, rfl, rfl, Nat.le_of_ble_eq_true rfl, Nat.le_of_ble_eq_true rfl⟩ wd_1582 wd_28 ⟨0, 11, _, _, rfl, rfl, rfl⟩ [iaW g (b 1) 110 u2.2.2] (x_pickD [0, 2, 3, 1] 4 rfl rfl rfl) rfl rfl (Nat.le_of_ble_eq_true rfl) ⟨Nat.le_of_ble_eq_true rfl, Nat.le_of_ble_eq_true rfl⟩ dX10_pass_10 (x_goD (wss2 := [mdO g b u3.2.1, iaW g (b 2) 110 u1.2, iaW g (b 5) 880 u3.2.2, iaW g (b 1) 110 u2.2.2]) (stk2 := [.int u3.1]) rfl rfl ?_)
  refine x_perm (wss' := [mdO g b u3.2.1, iaW g (b 1) 110 u2.2.2, iaW g (b 2) 110 u1.2, iaW g (b 5) 880 u3.2.2]) (x_pick [0, 3, 1, 2] 4 rfl rfl rfl) ?_
  exact x_iret C hr ⟨by cases hf; rfl, by cases hf; rfl⟩ dX10_pass_13
theorem dX10_candles_0 : decode cX10_candles 0 = .ok (.aload_n 0, 1) := by decide +kernel
theorem dX10_candles_1 : decode cX10_candles 1 = .ok (.iconst 0, 1) := by decide +kernel
theorem dX10_candles_2 : decode cX10_candles 2 = .ok (.putfield 41, 3) := by decide +kernel
theorem dX10_candles_5 : decode cX10_candles 5 = .ok (.aload_n 0, 1) := by decide +kernel
theorem dX10_candles_6 : decode cX10_candles 6 = .ok (.getfield 9, 3) := by decide +kernel
theorem dX10_candles_9 : decode cX10_candles 9 = .ok (.iconst 3, 1) := by decide +kernel
theorem dX10_candles_10 : decode cX10_candles 10 = .ok (.iaload, 1) := by decide +kernel
theorem dX10_candles_11 : decode cX10_candles 11 = .ok (.ireturn, 1) := by decide +kernel
set_option maxHeartbeats 4000000 in
set_option maxRecDepth 100000 in
theorem c_X10_candles (g : xG) (l : Launch) (b : Nat → Nat) (m : MdT) (s : (Nat → Int32))  {u : Int32 × MdT} (hf : f_X10_candles m s = some u) : ConD g l yX10_candles cX10_candles 1 (some .int) ({ frames := 0, cells := 0, slots := 0, locals := 0 } : Room) [.ref (b 0)] [mdO g b m, iaW g (b 1) 110 s] (some (.int u.1)) [mdO g b u.2, iaW g (b 1) 110 s] := by
  unfold f_X10_candles at hf
  refine Con_of [mdO g b m, iaW g (b 1) 110 s] [(0, .ref (b 0))] rfl rfl (by decide) (Nat.le_of_ble_eq_true rfl) ?_
  intro pW eW sW mW argsW belowW methW c9 C hnm hr
  have C : CX g RX10 cX10_candles 1 _ pW sW mW argsW methW c9 := C
  refine x_aload_n C dX10_candles_0 rfl 0 rfl ?_
  refine x_iconst (v := 0) C dX10_candles_1 (by decide) ?_
  refine x_put (ci := 11) (ty := .int) (v := .int (0 : Int32)) (b := mdO g b m) (b' := mdO g b (m.1, (0 : Int32), m.2.2.1, m.2.2.2.1, m.2.2.2.2.1, m.2.2.2.2.2.1, m.2.2.2.2.2.2.1, m.2.2.2.2.2.2.2.1, m.2.2.2.2.2.2.2.2.1, m.2.2.2.2.2.2.2.2.2)) (wss' := [mdO g b (m.1, (0 : Int32), m.2.2.1, m.2.2.2.1, m.2.2.2.2.1, m.2.2.2.2.2.1, m.2.2.2.2.2.2.1, m.2.2.2.2.2.2.2.1, m.2.2.2.2.2.2.2.2.1, m.2.2.2.2.2.2.2.2.2), iaW g (b 1) 110 s]) C ixX10 tyX10 tyX10_ok nmX10 rfl 6 (by decide) wd_1498 (fun _ h => h) rfl (tyX10_ok 6 (by decide)) rfl rfl 0 rfl 0 (mdO_at0 g b _) (Nat.le_of_ble_eq_true rfl) rfl rfl dX10_candles_2 ?_
  refine x_aload_n C dX10_candles_5 rfl 0 rfl ?_
  refine x_get (ci := 11) (v := .ref (b 1)) (b := mdO g b (m.1, (0 : Int32), m.2.2.1, m.2.2.2.1, m.2.2.2.2.1, m.2.2.2.2.2.1, m.2.2.2.2.2.2.1, m.2.2.2.2.2.2.2.1, m.2.2.2.2.2.2.2.2.1, m.2.2.2.2.2.2.2.2.2)) C ixX10 rfl 0 (by decide) wd_1492 (fun _ h => h) 0 rfl 0 (mdO_at0 g b _) rfl dX10_candles_6 ?_
  refine x_iconst (v := 3) C dX10_candles_9 (by decide) ?_
  obtain ⟨h1, hf⟩ := x_n hf
  refine x_iald (b := iaW g (b 1) 110 s) C 1 rfl 0 (iaW_at0 g (b 1) 110 _) h1 dX10_candles_10 ?_
  exact x_iret C hr ⟨by cases hf; rfl, by cases hf; rfl⟩ dX10_candles_11
theorem dX10_voice_0 : decode cX10_voice 0 = .ok (.aload_n 0, 1) := by decide +kernel
theorem dX10_voice_1 : decode cX10_voice 1 = .ok (.aload_n 0, 1) := by decide +kernel
theorem dX10_voice_2 : decode cX10_voice 2 = .ok (.iload_n 1, 1) := by decide +kernel
theorem dX10_voice_3 : decode cX10_voice 3 = .ok (.invokevirtual 82, 3) := by decide +kernel
theorem dX10_voice_6 : decode cX10_voice 6 = .ok (.ifCond .ne 7, 3) := by decide +kernel
theorem dX10_voice_9 : decode cX10_voice 9 = .ok (.iconst 1, 1) := by decide +kernel
theorem dX10_voice_10 : decode cX10_voice 10 = .ok (.goto 4, 3) := by decide +kernel
theorem dX10_voice_13 : decode cX10_voice 13 = .ok (.iconst 0, 1) := by decide +kernel
theorem dX10_voice_14 : decode cX10_voice 14 = .ok (.iconst 1, 1) := by decide +kernel
theorem dX10_voice_15 : decode cX10_voice 15 = .ok (.invokevirtual 63, 3) := by decide +kernel
theorem dX10_voice_18 : decode cX10_voice 18 = .ok (.ifCond .eq 7, 3) := by decide +kernel
theorem dX10_voice_21 : decode cX10_voice 21 = .ok (.iconst 0, 1) := by decide +kernel
theorem dX10_voice_22 : decode cX10_voice 22 = .ok (.goto 10, 3) := by decide +kernel
theorem dX10_voice_25 : decode cX10_voice 25 = .ok (.aload_n 0, 1) := by decide +kernel
theorem dX10_voice_26 : decode cX10_voice 26 = .ok (.iload_n 1, 1) := by decide +kernel
theorem dX10_voice_27 : decode cX10_voice 27 = .ok (.iconst 0, 1) := by decide +kernel
theorem dX10_voice_28 : decode cX10_voice 28 = .ok (.invokevirtual 55, 3) := by decide +kernel
theorem dX10_voice_31 : decode cX10_voice 31 = .ok (.i2c, 1) := by decide +kernel
theorem dX10_voice_32 : decode cX10_voice 32 = .ok (.ireturn, 1) := by decide +kernel
set_option maxHeartbeats 4000000 in
set_option maxRecDepth 100000 in
theorem c_X10_voice (g : xG) (l : Launch) (b : Nat → Nat) (m : MdT) (s : (Nat → Int32)) (x1 : Int32) {u : Int32 × MdT} (hf : f_X10_voice m s x1 = some u) : ConD g l yX10_voice cX10_voice 2 (some .char) ({ frames := 2, cells := 0, slots := 0, locals := 43 } : Room) [.ref (b 0), .int x1] [mdO g b m, iaW g (b 1) 110 s] (some (.int u.1)) [mdO g b u.2, iaW g (b 1) 110 s] := by
  unfold f_X10_voice at hf
  refine Con_of [mdO g b m, iaW g (b 1) 110 s] [(0, .ref (b 0)), (1, .int x1)] rfl rfl (by decide) (Nat.le_of_ble_eq_true rfl) ?_
  intro pW eW sW mW argsW belowW methW c9 C hnm hr
  have C : CX g RX10 cX10_voice 2 _ pW sW mW argsW methW c9 := C
  have hL14 : ∀ (mL : MdT) (x1 : Int32) (y0 : Int32), f_X10_voice_14 mL s x1 y0 = some u → VW g (va_A ([mdO g b m, iaW g (b 1) 110 s] : List va_W).flatten sW.heap.size) 2 pW l eW ({ frames := 2, cells := 0, slots := 0, locals := 43 } : Room) sW mW argsW belowW methW c9 0 0 (MQ belowW (xQc g ([mdO g b m, iaW g (b 1) 110 s] : List va_W).flatten sW.heap.size (fun v9 w9 => v9 = some (.int u.1) ∧ w9 = ([mdO g b u.2, iaW g (b 1) 110 s] : List va_W).flatten)) argsW sW 0 0 (va_A ([mdO g b m, iaW g (b 1) 110 s] : List va_W).flatten sW.heap.size)) [mdO g b mL, iaW g (b 1) 110 s] [(0, .ref (b 0)), (1, .int x1)] 14 [.int y0, .ref (b 0)] := by
    intro mL x1 y0 hf
    unfold f_X10_voice_14 at hf
    refine x_iconst (v := 1) C dX10_voice_14 (by decide) ?_
    obtain ⟨u1, hu1, hf⟩ := x_b hf
    refine x_callV (n := 2) (As := [.int y0, .int (1 : Int32)]) (rest := []) C (c_X10_isThrown g l b mL y0 (1 : Int32) hu1) ⟨⟨wd_1575, wd_1572, wd_78⟩, ⟨by decide, by decide, by decide⟩, rfl, rfl, Nat.le_of_ble_eq_true rfl, Nat.le_of_ble_eq_true rfl⟩ wd_1574 wd_26 ⟨0, 11, _, _, rfl, rfl, rfl⟩ [iaW g (b 1) 110 s] (x_pickD [0, 1] 2 rfl rfl rfl) rfl rfl (Nat.le_of_ble_eq_true rfl) ⟨Nat.le_of_ble_eq_true rfl, Nat.le_of_ble_eq_true rfl⟩ dX10_voice_15 (x_goD (wss2 := [mdO g b u1.2, iaW g (b 1) 110 s]) (stk2 := [.int u1.1]) rfl rfl ?_)
    refine x_if_eq (tgt := 25) C dX10_voice_18 (by decide) (fun h2 => ?_) (fun h2 => ?_)
    · have hf := x_t h2 hf
      refine x_aload_n C dX10_voice_25 rfl 0 rfl ?_
      refine x_iload_n C dX10_voice_26 rfl 1 rfl ?_
      refine x_iconst (v := 0) C dX10_voice_27 (by decide) ?_
      obtain ⟨u3, hu3, hf⟩ := x_b hf
      refine x_callV (n := 2) (As := [.int x1, .int (0 : Int32)]) (rest := []) C (c_X10_of g l b u1.2 s x1 (0 : Int32) hu3) ⟨⟨wd_1599, wd_1596, wd_78⟩, ⟨by decide, by decide, by decide⟩, rfl, rfl, Nat.le_of_ble_eq_true rfl, Nat.le_of_ble_eq_true rfl⟩ wd_1598 wd_31 ⟨0, 11, _, _, rfl, rfl, rfl⟩ [] (x_pickD [0, 1] 2 rfl rfl rfl) rfl rfl (Nat.le_of_ble_eq_true rfl) ⟨Nat.le_of_ble_eq_true rfl, Nat.le_of_ble_eq_true rfl⟩ dX10_voice_28 (x_goD (wss2 := [mdO g b u1.2, iaW g (b 1) 110 s]) (stk2 := [.int u3]) rfl rfl ?_)
      refine x_i2c C dX10_voice_31 rfl ?_
      obtain ⟨h4, hf⟩ := x_y hf
      exact x_zret C hr (x_narC h4).1 ⟨by cases hf; rfl, by cases hf; rfl⟩ dX10_voice_32
    · have hf := x_f h2 hf
      refine x_iconst (v := 0) C dX10_voice_21 (by decide) ?_
      refine x_goto (tgt := 32) C dX10_voice_22 (by decide) ?_
      exact x_zret C hr rfl ⟨by cases hf; rfl, by cases hf; rfl⟩ dX10_voice_32
  refine x_aload_n C dX10_voice_0 rfl 0 rfl ?_
  refine x_aload_n C dX10_voice_1 rfl 0 rfl ?_
  refine x_iload_n C dX10_voice_2 rfl 1 rfl ?_
  obtain ⟨u1, hu1, hf⟩ := x_b hf
  refine x_callV (n := 1) (As := [.int x1]) (rest := [.ref (b 0)]) C (c_X10_isCandle g l b m s x1 hu1) ⟨⟨wd_1595, wd_1592, wd_78⟩, ⟨by decide, by decide, by decide⟩, rfl, rfl, Nat.le_of_ble_eq_true rfl, Nat.le_of_ble_eq_true rfl⟩ wd_1594 wd_30 ⟨0, 11, _, _, rfl, rfl, rfl⟩ [] (x_pickD [0, 1] 2 rfl rfl rfl) rfl rfl (Nat.le_of_ble_eq_true rfl) ⟨Nat.le_of_ble_eq_true rfl, Nat.le_of_ble_eq_true rfl⟩ dX10_voice_3 (x_goD (wss2 := [mdO g b m, iaW g (b 1) 110 s]) (stk2 := [.int u1, .ref (b 0)]) rfl rfl ?_)
  refine x_if_ne (tgt := 13) C dX10_voice_6 (by decide) (fun h2 => ?_) (fun h2 => ?_)
  · have hf := x_f h2 hf
    refine x_iconst (v := 0) C dX10_voice_13 (by decide) ?_
    exact hL14 m x1 (0 : Int32) hf
  · have hf := x_t h2 hf
    refine x_iconst (v := 1) C dX10_voice_9 (by decide) ?_
    refine x_goto (tgt := 14) C dX10_voice_10 (by decide) ?_
    exact hL14 m x1 (1 : Int32) hf
theorem dX10_wax_0 : decode cX10_wax 0 = .ok (.aload_n 0, 1) := by decide +kernel
theorem dX10_wax_1 : decode cX10_wax 1 = .ok (.aload_n 0, 1) := by decide +kernel
theorem dX10_wax_2 : decode cX10_wax 2 = .ok (.iload_n 1, 1) := by decide +kernel
theorem dX10_wax_3 : decode cX10_wax 3 = .ok (.invokevirtual 82, 3) := by decide +kernel
theorem dX10_wax_6 : decode cX10_wax 6 = .ok (.ifCond .ne 7, 3) := by decide +kernel
theorem dX10_wax_9 : decode cX10_wax 9 = .ok (.iconst 1, 1) := by decide +kernel
theorem dX10_wax_10 : decode cX10_wax 10 = .ok (.goto 4, 3) := by decide +kernel
theorem dX10_wax_13 : decode cX10_wax 13 = .ok (.iconst 0, 1) := by decide +kernel
theorem dX10_wax_14 : decode cX10_wax 14 = .ok (.iconst 1, 1) := by decide +kernel
theorem dX10_wax_15 : decode cX10_wax 15 = .ok (.invokevirtual 63, 3) := by decide +kernel
theorem dX10_wax_18 : decode cX10_wax 18 = .ok (.ifCond .eq 7, 3) := by decide +kernel
theorem dX10_wax_21 : decode cX10_wax 21 = .ok (.iconst 0, 1) := by decide +kernel
theorem dX10_wax_22 : decode cX10_wax 22 = .ok (.goto 9, 3) := by decide +kernel
theorem dX10_wax_25 : decode cX10_wax 25 = .ok (.aload_n 0, 1) := by decide +kernel
theorem dX10_wax_26 : decode cX10_wax 26 = .ok (.iload_n 1, 1) := by decide +kernel
theorem dX10_wax_27 : decode cX10_wax 27 = .ok (.iconst 1, 1) := by decide +kernel
theorem dX10_wax_28 : decode cX10_wax 28 = .ok (.invokevirtual 55, 3) := by decide +kernel
theorem dX10_wax_31 : decode cX10_wax 31 = .ok (.ireturn, 1) := by decide +kernel
set_option maxHeartbeats 4000000 in
set_option maxRecDepth 100000 in
theorem c_X10_wax (g : xG) (l : Launch) (b : Nat → Nat) (m : MdT) (s : (Nat → Int32)) (x1 : Int32) {u : Int32 × MdT} (hf : f_X10_wax m s x1 = some u) : ConD g l yX10_wax cX10_wax 2 (some .int) ({ frames := 2, cells := 0, slots := 0, locals := 43 } : Room) [.ref (b 0), .int x1] [mdO g b m, iaW g (b 1) 110 s] (some (.int u.1)) [mdO g b u.2, iaW g (b 1) 110 s] := by
  unfold f_X10_wax at hf
  refine Con_of [mdO g b m, iaW g (b 1) 110 s] [(0, .ref (b 0)), (1, .int x1)] rfl rfl (by decide) (Nat.le_of_ble_eq_true rfl) ?_
  intro pW eW sW mW argsW belowW methW c9 C hnm hr
  have C : CX g RX10 cX10_wax 2 _ pW sW mW argsW methW c9 := C
  have hL14 : ∀ (mL : MdT) (x1 : Int32) (y0 : Int32), f_X10_wax_14 mL s x1 y0 = some u → VW g (va_A ([mdO g b m, iaW g (b 1) 110 s] : List va_W).flatten sW.heap.size) 2 pW l eW ({ frames := 2, cells := 0, slots := 0, locals := 43 } : Room) sW mW argsW belowW methW c9 0 0 (MQ belowW (xQc g ([mdO g b m, iaW g (b 1) 110 s] : List va_W).flatten sW.heap.size (fun v9 w9 => v9 = some (.int u.1) ∧ w9 = ([mdO g b u.2, iaW g (b 1) 110 s] : List va_W).flatten)) argsW sW 0 0 (va_A ([mdO g b m, iaW g (b 1) 110 s] : List va_W).flatten sW.heap.size)) [mdO g b mL, iaW g (b 1) 110 s] [(0, .ref (b 0)), (1, .int x1)] 14 [.int y0, .ref (b 0)] := by
    intro mL x1 y0 hf
    unfold f_X10_wax_14 at hf
    refine x_iconst (v := 1) C dX10_wax_14 (by decide) ?_
    obtain ⟨u1, hu1, hf⟩ := x_b hf
    refine x_callV (n := 2) (As := [.int y0, .int (1 : Int32)]) (rest := []) C (c_X10_isThrown g l b mL y0 (1 : Int32) hu1) ⟨⟨wd_1575, wd_1572, wd_78⟩, ⟨by decide, by decide, by decide⟩, rfl, rfl, Nat.le_of_ble_eq_true rfl, Nat.le_of_ble_eq_true rfl⟩ wd_1574 wd_26 ⟨0, 11, _, _, rfl, rfl, rfl⟩ [iaW g (b 1) 110 s] (x_pickD [0, 1] 2 rfl rfl rfl) rfl rfl (Nat.le_of_ble_eq_true rfl) ⟨Nat.le_of_ble_eq_true rfl, Nat.le_of_ble_eq_true rfl⟩ dX10_wax_15 (x_goD (wss2 := [mdO g b u1.2, iaW g (b 1) 110 s]) (stk2 := [.int u1.1]) rfl rfl ?_)
    refine x_if_eq (tgt := 25) C dX10_wax_18 (by decide) (fun h2 => ?_) (fun h2 => ?_)
    · have hf := x_t h2 hf
      refine x_aload_n C dX10_wax_25 rfl 0 rfl ?_
      refine x_iload_n C dX10_wax_26 rfl 1 rfl ?_
      refine x_iconst (v := 1) C dX10_wax_27 (by decide) ?_
      obtain ⟨u3, hu3, hf⟩ := x_b hf
      refine x_callV (n := 2) (As := [.int x1, .int (1 : Int32)]) (rest := []) C (c_X10_of g l b u1.2 s x1 (1 : Int32) hu3) ⟨⟨wd_1599, wd_1596, wd_78⟩, ⟨by decide, by decide, by decide⟩, rfl, rfl, Nat.le_of_ble_eq_true rfl, Nat.le_of_ble_eq_true rfl⟩ wd_1598 wd_31 ⟨0, 11, _, _, rfl, rfl, rfl⟩ [] (x_pickD [0, 1] 2 rfl rfl rfl) rfl rfl (Nat.le_of_ble_eq_true rfl) ⟨Nat.le_of_ble_eq_true rfl, Nat.le_of_ble_eq_true rfl⟩ dX10_wax_28 (x_goD (wss2 := [mdO g b u1.2, iaW g (b 1) 110 s]) (stk2 := [.int u3]) rfl rfl ?_)
      exact x_iret C hr ⟨by cases hf; rfl, by cases hf; rfl⟩ dX10_wax_31
    · have hf := x_f h2 hf
      refine x_iconst (v := 0) C dX10_wax_21 (by decide) ?_
      refine x_goto (tgt := 31) C dX10_wax_22 (by decide) ?_
      exact x_iret C hr ⟨by cases hf; rfl, by cases hf; rfl⟩ dX10_wax_31
  refine x_aload_n C dX10_wax_0 rfl 0 rfl ?_
  refine x_aload_n C dX10_wax_1 rfl 0 rfl ?_
  refine x_iload_n C dX10_wax_2 rfl 1 rfl ?_
  obtain ⟨u1, hu1, hf⟩ := x_b hf
  refine x_callV (n := 1) (As := [.int x1]) (rest := [.ref (b 0)]) C (c_X10_isCandle g l b m s x1 hu1) ⟨⟨wd_1595, wd_1592, wd_78⟩, ⟨by decide, by decide, by decide⟩, rfl, rfl, Nat.le_of_ble_eq_true rfl, Nat.le_of_ble_eq_true rfl⟩ wd_1594 wd_30 ⟨0, 11, _, _, rfl, rfl, rfl⟩ [] (x_pickD [0, 1] 2 rfl rfl rfl) rfl rfl (Nat.le_of_ble_eq_true rfl) ⟨Nat.le_of_ble_eq_true rfl, Nat.le_of_ble_eq_true rfl⟩ dX10_wax_3 (x_goD (wss2 := [mdO g b m, iaW g (b 1) 110 s]) (stk2 := [.int u1, .ref (b 0)]) rfl rfl ?_)
  refine x_if_ne (tgt := 13) C dX10_wax_6 (by decide) (fun h2 => ?_) (fun h2 => ?_)
  · have hf := x_f h2 hf
    refine x_iconst (v := 0) C dX10_wax_13 (by decide) ?_
    exact hL14 m x1 (0 : Int32) hf
  · have hf := x_t h2 hf
    refine x_iconst (v := 1) C dX10_wax_9 (by decide) ?_
    refine x_goto (tgt := 14) C dX10_wax_10 (by decide) ?_
    exact hL14 m x1 (1 : Int32) hf
theorem dX10_consumption_0 : decode cX10_consumption 0 = .ok (.aload_n 0, 1) := by decide +kernel
theorem dX10_consumption_1 : decode cX10_consumption 1 = .ok (.aload_n 0, 1) := by decide +kernel
theorem dX10_consumption_2 : decode cX10_consumption 2 = .ok (.iload_n 1, 1) := by decide +kernel
theorem dX10_consumption_3 : decode cX10_consumption 3 = .ok (.invokevirtual 82, 3) := by decide +kernel
theorem dX10_consumption_6 : decode cX10_consumption 6 = .ok (.ifCond .ne 7, 3) := by decide +kernel
theorem dX10_consumption_9 : decode cX10_consumption 9 = .ok (.iconst 1, 1) := by decide +kernel
theorem dX10_consumption_10 : decode cX10_consumption 10 = .ok (.goto 4, 3) := by decide +kernel
theorem dX10_consumption_13 : decode cX10_consumption 13 = .ok (.iconst 0, 1) := by decide +kernel
theorem dX10_consumption_14 : decode cX10_consumption 14 = .ok (.iconst 1, 1) := by decide +kernel
theorem dX10_consumption_15 : decode cX10_consumption 15 = .ok (.invokevirtual 63, 3) := by decide +kernel
theorem dX10_consumption_18 : decode cX10_consumption 18 = .ok (.ifCond .eq 7, 3) := by decide +kernel
theorem dX10_consumption_21 : decode cX10_consumption 21 = .ok (.iconst 0, 1) := by decide +kernel
theorem dX10_consumption_22 : decode cX10_consumption 22 = .ok (.goto 8, 3) := by decide +kernel
theorem dX10_consumption_25 : decode cX10_consumption 25 = .ok (.aload_n 0, 1) := by decide +kernel
theorem dX10_consumption_26 : decode cX10_consumption 26 = .ok (.iload_n 1, 1) := by decide +kernel
theorem dX10_consumption_27 : decode cX10_consumption 27 = .ok (.invokevirtual 120, 3) := by decide +kernel
theorem dX10_consumption_30 : decode cX10_consumption 30 = .ok (.ireturn, 1) := by decide +kernel
set_option maxHeartbeats 4000000 in
set_option maxRecDepth 100000 in
theorem c_X10_consumption (g : xG) (l : Launch) (b : Nat → Nat) (m : MdT) (s : (Nat → Int32)) (x1 : Int32) {u : Int32 × MdT} (hf : f_X10_consumption m s x1 = some u) : ConD g l yX10_consumption cX10_consumption 2 (some .int) ({ frames := 2, cells := 0, slots := 0, locals := 43 } : Room) [.ref (b 0), .int x1] [mdO g b m, iaW g (b 1) 110 s] (some (.int u.1)) [mdO g b u.2, iaW g (b 1) 110 s] := by
  unfold f_X10_consumption at hf
  refine Con_of [mdO g b m, iaW g (b 1) 110 s] [(0, .ref (b 0)), (1, .int x1)] rfl rfl (by decide) (Nat.le_of_ble_eq_true rfl) ?_
  intro pW eW sW mW argsW belowW methW c9 C hnm hr
  have C : CX g RX10 cX10_consumption 2 _ pW sW mW argsW methW c9 := C
  have hL14 : ∀ (mL : MdT) (x1 : Int32) (y0 : Int32), f_X10_consumption_14 mL s x1 y0 = some u → VW g (va_A ([mdO g b m, iaW g (b 1) 110 s] : List va_W).flatten sW.heap.size) 2 pW l eW ({ frames := 2, cells := 0, slots := 0, locals := 43 } : Room) sW mW argsW belowW methW c9 0 0 (MQ belowW (xQc g ([mdO g b m, iaW g (b 1) 110 s] : List va_W).flatten sW.heap.size (fun v9 w9 => v9 = some (.int u.1) ∧ w9 = ([mdO g b u.2, iaW g (b 1) 110 s] : List va_W).flatten)) argsW sW 0 0 (va_A ([mdO g b m, iaW g (b 1) 110 s] : List va_W).flatten sW.heap.size)) [mdO g b mL, iaW g (b 1) 110 s] [(0, .ref (b 0)), (1, .int x1)] 14 [.int y0, .ref (b 0)] := by
    intro mL x1 y0 hf
    unfold f_X10_consumption_14 at hf
    refine x_iconst (v := 1) C dX10_consumption_14 (by decide) ?_
    obtain ⟨u1, hu1, hf⟩ := x_b hf
    refine x_callV (n := 2) (As := [.int y0, .int (1 : Int32)]) (rest := []) C (c_X10_isThrown g l b mL y0 (1 : Int32) hu1) ⟨⟨wd_1575, wd_1572, wd_78⟩, ⟨by decide, by decide, by decide⟩, rfl, rfl, Nat.le_of_ble_eq_true rfl, Nat.le_of_ble_eq_true rfl⟩ wd_1574 wd_26 ⟨0, 11, _, _, rfl, rfl, rfl⟩ [iaW g (b 1) 110 s] (x_pickD [0, 1] 2 rfl rfl rfl) rfl rfl (Nat.le_of_ble_eq_true rfl) ⟨Nat.le_of_ble_eq_true rfl, Nat.le_of_ble_eq_true rfl⟩ dX10_consumption_15 (x_goD (wss2 := [mdO g b u1.2, iaW g (b 1) 110 s]) (stk2 := [.int u1.1]) rfl rfl ?_)
    refine x_if_eq (tgt := 25) C dX10_consumption_18 (by decide) (fun h2 => ?_) (fun h2 => ?_)
    · have hf := x_t h2 hf
      refine x_aload_n C dX10_consumption_25 rfl 0 rfl ?_
      refine x_iload_n C dX10_consumption_26 rfl 1 rfl ?_
      obtain ⟨u3, hu3, hf⟩ := x_b hf
      refine x_callV (n := 1) (As := [.int x1]) (rest := []) C (c_X10_burns g l b u1.2 s x1 hu3) ⟨⟨wd_1683, wd_1680, wd_78⟩, ⟨by decide, by decide, by decide⟩, rfl, rfl, Nat.le_of_ble_eq_true rfl, Nat.le_of_ble_eq_true rfl⟩ wd_1682 wd_46 ⟨0, 11, _, _, rfl, rfl, rfl⟩ [] (x_pickD [0, 1] 2 rfl rfl rfl) rfl rfl (Nat.le_of_ble_eq_true rfl) ⟨Nat.le_of_ble_eq_true rfl, Nat.le_of_ble_eq_true rfl⟩ dX10_consumption_27 (x_goD (wss2 := [mdO g b u1.2, iaW g (b 1) 110 s]) (stk2 := [.int u3]) rfl rfl ?_)
      exact x_iret C hr ⟨by cases hf; rfl, by cases hf; rfl⟩ dX10_consumption_30
    · have hf := x_f h2 hf
      refine x_iconst (v := 0) C dX10_consumption_21 (by decide) ?_
      refine x_goto (tgt := 30) C dX10_consumption_22 (by decide) ?_
      exact x_iret C hr ⟨by cases hf; rfl, by cases hf; rfl⟩ dX10_consumption_30
  refine x_aload_n C dX10_consumption_0 rfl 0 rfl ?_
  refine x_aload_n C dX10_consumption_1 rfl 0 rfl ?_
  refine x_iload_n C dX10_consumption_2 rfl 1 rfl ?_
  obtain ⟨u1, hu1, hf⟩ := x_b hf
  refine x_callV (n := 1) (As := [.int x1]) (rest := [.ref (b 0)]) C (c_X10_isCandle g l b m s x1 hu1) ⟨⟨wd_1595, wd_1592, wd_78⟩, ⟨by decide, by decide, by decide⟩, rfl, rfl, Nat.le_of_ble_eq_true rfl, Nat.le_of_ble_eq_true rfl⟩ wd_1594 wd_30 ⟨0, 11, _, _, rfl, rfl, rfl⟩ [] (x_pickD [0, 1] 2 rfl rfl rfl) rfl rfl (Nat.le_of_ble_eq_true rfl) ⟨Nat.le_of_ble_eq_true rfl, Nat.le_of_ble_eq_true rfl⟩ dX10_consumption_3 (x_goD (wss2 := [mdO g b m, iaW g (b 1) 110 s]) (stk2 := [.int u1, .ref (b 0)]) rfl rfl ?_)
  refine x_if_ne (tgt := 13) C dX10_consumption_6 (by decide) (fun h2 => ?_) (fun h2 => ?_)
  · have hf := x_f h2 hf
    refine x_iconst (v := 0) C dX10_consumption_13 (by decide) ?_
    exact hL14 m x1 (0 : Int32) hf
  · have hf := x_t h2 hf
    refine x_iconst (v := 1) C dX10_consumption_9 (by decide) ?_
    refine x_goto (tgt := 14) C dX10_consumption_10 (by decide) ?_
    exact hL14 m x1 (1 : Int32) hf
theorem dX10_isLit_0 : decode cX10_isLit 0 = .ok (.aload_n 0, 1) := by decide +kernel
theorem dX10_isLit_1 : decode cX10_isLit 1 = .ok (.aload_n 0, 1) := by decide +kernel
theorem dX10_isLit_2 : decode cX10_isLit 2 = .ok (.iload_n 1, 1) := by decide +kernel
theorem dX10_isLit_3 : decode cX10_isLit 3 = .ok (.invokevirtual 82, 3) := by decide +kernel
theorem dX10_isLit_6 : decode cX10_isLit 6 = .ok (.ifCond .ne 7, 3) := by decide +kernel
theorem dX10_isLit_9 : decode cX10_isLit 9 = .ok (.iconst 1, 1) := by decide +kernel
theorem dX10_isLit_10 : decode cX10_isLit 10 = .ok (.goto 4, 3) := by decide +kernel
theorem dX10_isLit_13 : decode cX10_isLit 13 = .ok (.iconst 0, 1) := by decide +kernel
theorem dX10_isLit_14 : decode cX10_isLit 14 = .ok (.iconst 1, 1) := by decide +kernel
theorem dX10_isLit_15 : decode cX10_isLit 15 = .ok (.invokevirtual 63, 3) := by decide +kernel
theorem dX10_isLit_18 : decode cX10_isLit 18 = .ok (.ifCond .ne 17, 3) := by decide +kernel
theorem dX10_isLit_21 : decode cX10_isLit 21 = .ok (.aload_n 0, 1) := by decide +kernel
theorem dX10_isLit_22 : decode cX10_isLit 22 = .ok (.iload_n 1, 1) := by decide +kernel
theorem dX10_isLit_23 : decode cX10_isLit 23 = .ok (.iconst 3, 1) := by decide +kernel
theorem dX10_isLit_24 : decode cX10_isLit 24 = .ok (.invokevirtual 55, 3) := by decide +kernel
theorem dX10_isLit_27 : decode cX10_isLit 27 = .ok (.iconst 1, 1) := by decide +kernel
theorem dX10_isLit_28 : decode cX10_isLit 28 = .ok (.if_icmp .ne 7, 3) := by decide +kernel
theorem dX10_isLit_31 : decode cX10_isLit 31 = .ok (.iconst 1, 1) := by decide +kernel
theorem dX10_isLit_32 : decode cX10_isLit 32 = .ok (.goto 4, 3) := by decide +kernel
theorem dX10_isLit_35 : decode cX10_isLit 35 = .ok (.iconst 0, 1) := by decide +kernel
theorem dX10_isLit_36 : decode cX10_isLit 36 = .ok (.ireturn, 1) := by decide +kernel
set_option maxHeartbeats 4000000 in
set_option maxRecDepth 100000 in
theorem c_X10_isLit (g : xG) (l : Launch) (b : Nat → Nat) (m : MdT) (s : (Nat → Int32)) (x1 : Int32) {u : Int32 × MdT} (hf : f_X10_isLit m s x1 = some u) : ConD g l yX10_isLit cX10_isLit 2 (some .boolean) ({ frames := 2, cells := 0, slots := 0, locals := 43 } : Room) [.ref (b 0), .int x1] [mdO g b m, iaW g (b 1) 110 s] (some (.int u.1)) [mdO g b u.2, iaW g (b 1) 110 s] := by
  unfold f_X10_isLit at hf
  refine Con_of [mdO g b m, iaW g (b 1) 110 s] [(0, .ref (b 0)), (1, .int x1)] rfl rfl (by decide) (Nat.le_of_ble_eq_true rfl) ?_
  intro pW eW sW mW argsW belowW methW c9 C hnm hr
  have C : CX g RX10 cX10_isLit 2 _ pW sW mW argsW methW c9 := C
  have hL14 : ∀ (mL : MdT) (x1 : Int32) (y0 : Int32), f_X10_isLit_14 mL s x1 y0 = some u → VW g (va_A ([mdO g b m, iaW g (b 1) 110 s] : List va_W).flatten sW.heap.size) 2 pW l eW ({ frames := 2, cells := 0, slots := 0, locals := 43 } : Room) sW mW argsW belowW methW c9 0 0 (MQ belowW (xQc g ([mdO g b m, iaW g (b 1) 110 s] : List va_W).flatten sW.heap.size (fun v9 w9 => v9 = some (.int u.1) ∧ w9 = ([mdO g b u.2, iaW g (b 1) 110 s] : List va_W).flatten)) argsW sW 0 0 (va_A ([mdO g b m, iaW g (b 1) 110 s] : List va_W).flatten sW.heap.size)) [mdO g b mL, iaW g (b 1) 110 s] [(0, .ref (b 0)), (1, .int x1)] 14 [.int y0, .ref (b 0)] := by
    intro mL x1 y0 hf
    unfold f_X10_isLit_14 at hf
    refine x_iconst (v := 1) C dX10_isLit_14 (by decide) ?_
    obtain ⟨u1, hu1, hf⟩ := x_b hf
    refine x_callV (n := 2) (As := [.int y0, .int (1 : Int32)]) (rest := []) C (c_X10_isThrown g l b mL y0 (1 : Int32) hu1) ⟨⟨wd_1575, wd_1572, wd_78⟩, ⟨by decide, by decide, by decide⟩, rfl, rfl, Nat.le_of_ble_eq_true rfl, Nat.le_of_ble_eq_true rfl⟩ wd_1574 wd_26 ⟨0, 11, _, _, rfl, rfl, rfl⟩ [iaW g (b 1) 110 s] (x_pickD [0, 1] 2 rfl rfl rfl) rfl rfl (Nat.le_of_ble_eq_true rfl) ⟨Nat.le_of_ble_eq_true rfl, Nat.le_of_ble_eq_true rfl⟩ dX10_isLit_15 (x_goD (wss2 := [mdO g b u1.2, iaW g (b 1) 110 s]) (stk2 := [.int u1.1]) rfl rfl ?_)
    refine x_if_ne (tgt := 35) C dX10_isLit_18 (by decide) (fun h2 => ?_) (fun h2 => ?_)
    · have hf := x_f h2 hf
      refine x_iconst (v := 0) C dX10_isLit_35 (by decide) ?_
      exact x_zret C hr rfl ⟨by cases hf; rfl, by cases hf; rfl⟩ dX10_isLit_36
    · have hf := x_t h2 hf
      refine x_aload_n C dX10_isLit_21 rfl 0 rfl ?_
      refine x_iload_n C dX10_isLit_22 rfl 1 rfl ?_
      refine x_iconst (v := 3) C dX10_isLit_23 (by decide) ?_
      obtain ⟨u3, hu3, hf⟩ := x_b hf
      refine x_callV (n := 2) (As := [.int x1, .int (3 : Int32)]) (rest := []) C (c_X10_of g l b u1.2 s x1 (3 : Int32) hu3) ⟨⟨wd_1599, wd_1596, wd_78⟩, ⟨by decide, by decide, by decide⟩, rfl, rfl, Nat.le_of_ble_eq_true rfl, Nat.le_of_ble_eq_true rfl⟩ wd_1598 wd_31 ⟨0, 11, _, _, rfl, rfl, rfl⟩ [] (x_pickD [0, 1] 2 rfl rfl rfl) rfl rfl (Nat.le_of_ble_eq_true rfl) ⟨Nat.le_of_ble_eq_true rfl, Nat.le_of_ble_eq_true rfl⟩ dX10_isLit_24 (x_goD (wss2 := [mdO g b u1.2, iaW g (b 1) 110 s]) (stk2 := [.int u3]) rfl rfl ?_)
      refine x_iconst (v := 1) C dX10_isLit_27 (by decide) ?_
      refine x_icmp_ne (tgt := 35) C dX10_isLit_28 (by decide) (fun h4 => ?_) (fun h4 => ?_)
      · have hf := x_f h4 hf
        refine x_iconst (v := 0) C dX10_isLit_35 (by decide) ?_
        exact x_zret C hr rfl ⟨by cases hf; rfl, by cases hf; rfl⟩ dX10_isLit_36
      · have hf := x_t h4 hf
        refine x_iconst (v := 1) C dX10_isLit_31 (by decide) ?_
        refine x_goto (tgt := 36) C dX10_isLit_32 (by decide) ?_
        exact x_zret C hr rfl ⟨by cases hf; rfl, by cases hf; rfl⟩ dX10_isLit_36
  refine x_aload_n C dX10_isLit_0 rfl 0 rfl ?_
  refine x_aload_n C dX10_isLit_1 rfl 0 rfl ?_
  refine x_iload_n C dX10_isLit_2 rfl 1 rfl ?_
  obtain ⟨u1, hu1, hf⟩ := x_b hf
  refine x_callV (n := 1) (As := [.int x1]) (rest := [.ref (b 0)]) C (c_X10_isCandle g l b m s x1 hu1) ⟨⟨wd_1595, wd_1592, wd_78⟩, ⟨by decide, by decide, by decide⟩, rfl, rfl, Nat.le_of_ble_eq_true rfl, Nat.le_of_ble_eq_true rfl⟩ wd_1594 wd_30 ⟨0, 11, _, _, rfl, rfl, rfl⟩ [] (x_pickD [0, 1] 2 rfl rfl rfl) rfl rfl (Nat.le_of_ble_eq_true rfl) ⟨Nat.le_of_ble_eq_true rfl, Nat.le_of_ble_eq_true rfl⟩ dX10_isLit_3 (x_goD (wss2 := [mdO g b m, iaW g (b 1) 110 s]) (stk2 := [.int u1, .ref (b 0)]) rfl rfl ?_)
  refine x_if_ne (tgt := 13) C dX10_isLit_6 (by decide) (fun h2 => ?_) (fun h2 => ?_)
  · have hf := x_f h2 hf
    refine x_iconst (v := 0) C dX10_isLit_13 (by decide) ?_
    exact hL14 m x1 (0 : Int32) hf
  · have hf := x_t h2 hf
    refine x_iconst (v := 1) C dX10_isLit_9 (by decide) ?_
    refine x_goto (tgt := 14) C dX10_isLit_10 (by decide) ?_
    exact hL14 m x1 (1 : Int32) hf
theorem dX10_litCandles_0 : decode cX10_litCandles 0 = .ok (.aload_n 0, 1) := by decide +kernel
theorem dX10_litCandles_1 : decode cX10_litCandles 1 = .ok (.iconst 0, 1) := by decide +kernel
theorem dX10_litCandles_2 : decode cX10_litCandles 2 = .ok (.putfield 41, 3) := by decide +kernel
theorem dX10_litCandles_5 : decode cX10_litCandles 5 = .ok (.aload_n 0, 1) := by decide +kernel
theorem dX10_litCandles_6 : decode cX10_litCandles 6 = .ok (.invokevirtual 85, 3) := by decide +kernel
theorem dX10_litCandles_9 : decode cX10_litCandles 9 = .ok (.ireturn, 1) := by decide +kernel
set_option maxHeartbeats 4000000 in
set_option maxRecDepth 100000 in
theorem c_X10_litCandles (g : xG) (l : Launch) (b : Nat → Nat) (m : MdT) (s : (Nat → Int32))  {u : Int32 × MdT} (hf : f_X10_litCandles m s = some u) : ConD g l yX10_litCandles cX10_litCandles 1 (some .int) ({ frames := 2, cells := 0, slots := 0, locals := 44 } : Room) [.ref (b 0)] [mdO g b m, iaW g (b 1) 110 s] (some (.int u.1)) [mdO g b u.2, iaW g (b 1) 110 s] := by
  unfold f_X10_litCandles at hf
  refine Con_of [mdO g b m, iaW g (b 1) 110 s] [(0, .ref (b 0))] rfl rfl (by decide) (Nat.le_of_ble_eq_true rfl) ?_
  intro pW eW sW mW argsW belowW methW c9 C hnm hr
  have C : CX g RX10 cX10_litCandles 1 _ pW sW mW argsW methW c9 := C
  refine x_aload_n C dX10_litCandles_0 rfl 0 rfl ?_
  refine x_iconst (v := 0) C dX10_litCandles_1 (by decide) ?_
  refine x_put (ci := 11) (ty := .int) (v := .int (0 : Int32)) (b := mdO g b m) (b' := mdO g b (m.1, (0 : Int32), m.2.2.1, m.2.2.2.1, m.2.2.2.2.1, m.2.2.2.2.2.1, m.2.2.2.2.2.2.1, m.2.2.2.2.2.2.2.1, m.2.2.2.2.2.2.2.2.1, m.2.2.2.2.2.2.2.2.2)) (wss' := [mdO g b (m.1, (0 : Int32), m.2.2.1, m.2.2.2.1, m.2.2.2.2.1, m.2.2.2.2.2.1, m.2.2.2.2.2.2.1, m.2.2.2.2.2.2.2.1, m.2.2.2.2.2.2.2.2.1, m.2.2.2.2.2.2.2.2.2), iaW g (b 1) 110 s]) C ixX10 tyX10 tyX10_ok nmX10 rfl 6 (by decide) wd_1498 (fun _ h => h) rfl (tyX10_ok 6 (by decide)) rfl rfl 0 rfl 0 (mdO_at0 g b _) (Nat.le_of_ble_eq_true rfl) rfl rfl dX10_litCandles_2 ?_
  refine x_aload_n C dX10_litCandles_5 rfl 0 rfl ?_
  obtain ⟨u1, hu1, hf⟩ := x_b hf
  refine x_callV (n := 0) (As := []) (rest := []) C (c_X10_lit g l b (m.1, (0 : Int32), m.2.2.1, m.2.2.2.1, m.2.2.2.2.1, m.2.2.2.2.2.1, m.2.2.2.2.2.2.1, m.2.2.2.2.2.2.2.1, m.2.2.2.2.2.2.2.2.1, m.2.2.2.2.2.2.2.2.2) s hu1) ⟨⟨wd_1603, wd_1600, wd_78⟩, ⟨by decide, by decide, by decide⟩, rfl, rfl, Nat.le_of_ble_eq_true rfl, Nat.le_of_ble_eq_true rfl⟩ wd_1602 wd_32 ⟨0, 11, _, _, rfl, rfl, rfl⟩ [] (x_pickD [0, 1] 2 rfl rfl rfl) rfl rfl (Nat.le_of_ble_eq_true rfl) ⟨Nat.le_of_ble_eq_true rfl, Nat.le_of_ble_eq_true rfl⟩ dX10_litCandles_6 (x_goD (wss2 := [mdO g b (m.1, (0 : Int32), m.2.2.1, m.2.2.2.1, m.2.2.2.2.1, m.2.2.2.2.2.1, m.2.2.2.2.2.2.1, m.2.2.2.2.2.2.2.1, m.2.2.2.2.2.2.2.2.1, m.2.2.2.2.2.2.2.2.2), iaW g (b 1) 110 s]) (stk2 := [.int u1]) rfl rfl ?_)
  exact x_iret C hr ⟨by cases hf; rfl, by cases hf; rfl⟩ dX10_litCandles_9
theorem dX10_sounds_0 : decode cX10_sounds 0 = .ok (.iconst 0, 1) := by decide +kernel
theorem dX10_sounds_1 : decode cX10_sounds 1 = .ok (.istore_n 2, 1) := by decide +kernel
theorem dX10_sounds_2 : decode cX10_sounds 2 = .ok (.iconst 0, 1) := by decide +kernel
theorem dX10_sounds_3 : decode cX10_sounds 3 = .ok (.istore_n 3, 1) := by decide +kernel
theorem dX10_sounds_4 : decode cX10_sounds 4 = .ok (.iload_n 3, 1) := by decide +kernel
theorem dX10_sounds_5 : decode cX10_sounds 5 = .ok (.aload_n 0, 1) := by decide +kernel
theorem dX10_sounds_6 : decode cX10_sounds 6 = .ok (.getfield 9, 3) := by decide +kernel
theorem dX10_sounds_9 : decode cX10_sounds 9 = .ok (.iconst 3, 1) := by decide +kernel
theorem dX10_sounds_10 : decode cX10_sounds 10 = .ok (.iaload, 1) := by decide +kernel
theorem dX10_sounds_11 : decode cX10_sounds 11 = .ok (.if_icmp .ge 32, 3) := by decide +kernel
theorem dX10_sounds_14 : decode cX10_sounds 14 = .ok (.iload_n 2, 1) := by decide +kernel
theorem dX10_sounds_15 : decode cX10_sounds 15 = .ok (.aload_n 0, 1) := by decide +kernel
theorem dX10_sounds_16 : decode cX10_sounds 16 = .ok (.iload_n 3, 1) := by decide +kernel
theorem dX10_sounds_17 : decode cX10_sounds 17 = .ok (.iconst 0, 1) := by decide +kernel
theorem dX10_sounds_18 : decode cX10_sounds 18 = .ok (.invokevirtual 55, 3) := by decide +kernel
theorem dX10_sounds_21 : decode cX10_sounds 21 = .ok (.iload_n 1, 1) := by decide +kernel
theorem dX10_sounds_22 : decode cX10_sounds 22 = .ok (.if_icmp .ne 12, 3) := by decide +kernel
theorem dX10_sounds_25 : decode cX10_sounds 25 = .ok (.aload_n 0, 1) := by decide +kernel
theorem dX10_sounds_26 : decode cX10_sounds 26 = .ok (.iload_n 3, 1) := by decide +kernel
theorem dX10_sounds_27 : decode cX10_sounds 27 = .ok (.iconst 3, 1) := by decide +kernel
theorem dX10_sounds_28 : decode cX10_sounds 28 = .ok (.invokevirtual 55, 3) := by decide +kernel
theorem dX10_sounds_31 : decode cX10_sounds 31 = .ok (.goto 4, 3) := by decide +kernel
theorem dX10_sounds_34 : decode cX10_sounds 34 = .ok (.iconst 0, 1) := by decide +kernel
theorem dX10_sounds_35 : decode cX10_sounds 35 = .ok (.iadd, 1) := by decide +kernel
theorem dX10_sounds_36 : decode cX10_sounds 36 = .ok (.istore_n 2, 1) := by decide +kernel
theorem dX10_sounds_37 : decode cX10_sounds 37 = .ok (.iinc 3 1, 3) := by decide +kernel
theorem dX10_sounds_40 : decode cX10_sounds 40 = .ok (.goto (-36), 3) := by decide +kernel
theorem dX10_sounds_43 : decode cX10_sounds 43 = .ok (.iload_n 2, 1) := by decide +kernel
theorem dX10_sounds_44 : decode cX10_sounds 44 = .ok (.ireturn, 1) := by decide +kernel
set_option maxHeartbeats 4000000 in
set_option maxRecDepth 100000 in
theorem c_X10_sounds (g : xG) (l : Launch) (b : Nat → Nat) (m : MdT) (s : (Nat → Int32)) (x1 : Int32) {u : Int32} (hf : f_X10_sounds m s x1 = some u) : ConD g l yX10_sounds cX10_sounds 4 (some .int) ({ frames := 1, cells := 0, slots := 0, locals := 22 } : Room) [.ref (b 0), .int x1] [mdO g b m, iaW g (b 1) 110 s] (some (.int u)) [mdO g b m, iaW g (b 1) 110 s] := by
  unfold f_X10_sounds at hf
  refine Con_of [mdO g b m, iaW g (b 1) 110 s] [(0, .ref (b 0)), (1, .int x1)] rfl rfl (by decide) (Nat.le_of_ble_eq_true rfl) ?_
  intro pW eW sW mW argsW belowW methW c9 C hnm hr
  have C : CX g RX10 cX10_sounds 4 _ pW sW mW argsW methW c9 := C
  have hL4 : ∀ (nW : Nat) (x1 : Int32) (x2 : Int32) (x3 : Int32), f_X10_sounds_4 nW m s x1 x2 x3 = some u → VW g (va_A ([mdO g b m, iaW g (b 1) 110 s] : List va_W).flatten sW.heap.size) 4 pW l eW ({ frames := 1, cells := 0, slots := 0, locals := 22 } : Room) sW mW argsW belowW methW c9 0 0 (MQ belowW (xQc g ([mdO g b m, iaW g (b 1) 110 s] : List va_W).flatten sW.heap.size (fun v9 w9 => v9 = some (.int u) ∧ w9 = ([mdO g b m, iaW g (b 1) 110 s] : List va_W).flatten)) argsW sW 0 0 (va_A ([mdO g b m, iaW g (b 1) 110 s] : List va_W).flatten sW.heap.size)) [mdO g b m, iaW g (b 1) 110 s] [(0, .ref (b 0)), (1, .int x1), (2, .int x2), (3, .int x3)] 4 [] := by
    intro nW
    induction nW with
    | zero => intro x1 x2 x3 hf; rw [f_X10_sounds_4] at hf; cases hf
    | succ nW ih =>
      intro x1 x2 x3 hf
      rw [f_X10_sounds_4] at hf
      refine x_iload_n C dX10_sounds_4 rfl 3 rfl ?_
      refine x_aload_n C dX10_sounds_5 rfl 0 rfl ?_
      refine x_get (ci := 11) (v := .ref (b 1)) (b := mdO g b m) C ixX10 rfl 0 (by decide) wd_1492 (fun _ h => h) 0 rfl 0 (mdO_at0 g b _) rfl dX10_sounds_6 ?_
      refine x_iconst (v := 3) C dX10_sounds_9 (by decide) ?_
      obtain ⟨h1, hf⟩ := x_n hf
      refine x_iald (b := iaW g (b 1) 110 s) C 1 rfl 0 (iaW_at0 g (b 1) 110 _) h1 dX10_sounds_10 ?_
      refine x_icmp_ge (tgt := 43) C dX10_sounds_11 (by decide) (fun h2 => ?_) (fun h2 => ?_)
      · have hf := x_t h2 hf
        refine x_iload_n C dX10_sounds_43 rfl 2 rfl ?_
        exact x_iret C hr ⟨by cases hf; rfl, by cases hf; rfl⟩ dX10_sounds_44
      · have hf := x_f h2 hf
        refine x_iload_n C dX10_sounds_14 rfl 2 rfl ?_
        refine x_aload_n C dX10_sounds_15 rfl 0 rfl ?_
        refine x_iload_n C dX10_sounds_16 rfl 3 rfl ?_
        refine x_iconst (v := 0) C dX10_sounds_17 (by decide) ?_
        obtain ⟨u3, hu3, hf⟩ := x_b hf
        refine x_callV (n := 2) (As := [.int x3, .int (0 : Int32)]) (rest := [.int x2]) C (c_X10_of g l b m s x3 (0 : Int32) hu3) ⟨⟨wd_1599, wd_1596, wd_78⟩, ⟨by decide, by decide, by decide⟩, rfl, rfl, Nat.le_of_ble_eq_true rfl, Nat.le_of_ble_eq_true rfl⟩ wd_1598 wd_31 ⟨0, 11, _, _, rfl, rfl, rfl⟩ [] (x_pickD [0, 1] 2 rfl rfl rfl) rfl rfl (Nat.le_of_ble_eq_true rfl) ⟨Nat.le_of_ble_eq_true rfl, Nat.le_of_ble_eq_true rfl⟩ dX10_sounds_18 (x_goD (wss2 := [mdO g b m, iaW g (b 1) 110 s]) (stk2 := [.int u3, .int x2]) rfl rfl ?_)
        refine x_iload_n C dX10_sounds_21 rfl 1 rfl ?_
        refine x_icmp_ne (tgt := 34) C dX10_sounds_22 (by decide) (fun h4 => ?_) (fun h4 => ?_)
        · have hf := x_f h4 hf
          refine x_iconst (v := 0) C dX10_sounds_34 (by decide) ?_
          refine x_iadd C dX10_sounds_35 ?_
          refine x_istore_n (lv' := [(2, .int (x2 + (0 : Int32))), (0, .ref (b 0)), (1, .int x1), (3, .int x3)]) C dX10_sounds_36 rfl (by decide) rfl ?_
          refine x_iinc (v := x3 + 1) (lv' := [(3, .int (x3 + 1)), (2, .int (x2 + (0 : Int32))), (0, .ref (b 0)), (1, .int x1)]) C dX10_sounds_37 3 rfl rfl (by decide) rfl ?_
          refine x_goto (tgt := 4) C dX10_sounds_40 (by decide) ?_
          refine x_locals (lv' := [(0, .ref (b 0)), (1, .int x1), (2, .int (x2 + (0 : Int32))), (3, .int (x3 + 1))]) [2, 3, 1, 0] rfl ?_
          exact ih x1 (x2 + (0 : Int32)) (x3 + 1) hf
        · have hf := x_t h4 hf
          refine x_aload_n C dX10_sounds_25 rfl 0 rfl ?_
          refine x_iload_n C dX10_sounds_26 rfl 3 rfl ?_
          refine x_iconst (v := 3) C dX10_sounds_27 (by decide) ?_
          obtain ⟨u5, hu5, hf⟩ := x_b hf
          refine x_callV (n := 2) (As := [.int x3, .int (3 : Int32)]) (rest := [.int x2]) C (c_X10_of g l b m s x3 (3 : Int32) hu5) ⟨⟨wd_1599, wd_1596, wd_78⟩, ⟨by decide, by decide, by decide⟩, rfl, rfl, Nat.le_of_ble_eq_true rfl, Nat.le_of_ble_eq_true rfl⟩ wd_1598 wd_31 ⟨0, 11, _, _, rfl, rfl, rfl⟩ [] (x_pickD [0, 1] 2 rfl rfl rfl) rfl rfl (Nat.le_of_ble_eq_true rfl) ⟨Nat.le_of_ble_eq_true rfl, Nat.le_of_ble_eq_true rfl⟩ dX10_sounds_28 (x_goD (wss2 := [mdO g b m, iaW g (b 1) 110 s]) (stk2 := [.int u5, .int x2]) rfl rfl ?_)
          refine x_goto (tgt := 35) C dX10_sounds_31 (by decide) ?_
          refine x_iadd C dX10_sounds_35 ?_
          refine x_istore_n (lv' := [(2, .int (x2 + u5)), (0, .ref (b 0)), (1, .int x1), (3, .int x3)]) C dX10_sounds_36 rfl (by decide) rfl ?_
          refine x_iinc (v := x3 + 1) (lv' := [(3, .int (x3 + 1)), (2, .int (x2 + u5)), (0, .ref (b 0)), (1, .int x1)]) C dX10_sounds_37 3 rfl rfl (by decide) rfl ?_
          refine x_goto (tgt := 4) C dX10_sounds_40 (by decide) ?_
          refine x_locals (lv' := [(0, .ref (b 0)), (1, .int x1), (2, .int (x2 + u5)), (3, .int (x3 + 1))]) [2, 3, 1, 0] rfl ?_
          exact ih x1 (x2 + u5) (x3 + 1) hf
  refine x_iconst (v := 0) C dX10_sounds_0 (by decide) ?_
  refine x_istore_n (lv' := [(2, .int (0 : Int32)), (0, .ref (b 0)), (1, .int x1)]) C dX10_sounds_1 rfl (by decide) rfl ?_
  refine x_iconst (v := 0) C dX10_sounds_2 (by decide) ?_
  refine x_istore_n (lv' := [(3, .int (0 : Int32)), (2, .int (0 : Int32)), (0, .ref (b 0)), (1, .int x1)]) C dX10_sounds_3 rfl (by decide) rfl ?_
  refine x_locals (lv' := [(0, .ref (b 0)), (1, .int x1), (2, .int (0 : Int32)), (3, .int (0 : Int32))]) [2, 3, 1, 0] rfl ?_
  exact hL4 xFuel x1 (0 : Int32) (0 : Int32) hf
theorem wd_47 : Cond.selects yX10_sounds.cls yX10_sounds yX10_sounds ∈ xTB := xTB_in 47 (by decide +kernel) (by decide +kernel)
theorem wd_1712 : Cond.methodLink RX10 136 yX10_sounds ∈ xTB := xTB_in 1712 (by decide +kernel) (by decide +kernel)
theorem wd_1714 : Cond.instanceMethod yX10_sounds ∈ xTB := xTB_in 1714 (by decide +kernel) (by decide +kernel)
theorem wd_1715 : Cond.code yX10_sounds cX10_sounds 4 (some .int) ∈ xTB := xTB_in 1715 (by decide +kernel) (by decide +kernel)
theorem dX10_sounding_0 : decode cX10_sounding 0 = .ok (.aload_n 0, 1) := by decide +kernel
theorem dX10_sounding_1 : decode cX10_sounding 1 = .ok (.iload_n 1, 1) := by decide +kernel
theorem dX10_sounding_2 : decode cX10_sounding 2 = .ok (.invokestatic 59, 3) := by decide +kernel
theorem dX10_sounding_5 : decode cX10_sounding 5 = .ok (.ifCond .ne 7, 3) := by decide +kernel
theorem dX10_sounding_8 : decode cX10_sounding 8 = .ok (.iconst 1, 1) := by decide +kernel
theorem dX10_sounding_9 : decode cX10_sounding 9 = .ok (.goto 4, 3) := by decide +kernel
theorem dX10_sounding_12 : decode cX10_sounding 12 = .ok (.iconst 0, 1) := by decide +kernel
theorem dX10_sounding_13 : decode cX10_sounding 13 = .ok (.iconst 1, 1) := by decide +kernel
theorem dX10_sounding_14 : decode cX10_sounding 14 = .ok (.invokevirtual 63, 3) := by decide +kernel
theorem dX10_sounding_17 : decode cX10_sounding 17 = .ok (.ifCond .eq 7, 3) := by decide +kernel
theorem dX10_sounding_20 : decode cX10_sounding 20 = .ok (.iconst 0, 1) := by decide +kernel
theorem dX10_sounding_21 : decode cX10_sounding 21 = .ok (.goto 8, 3) := by decide +kernel
theorem dX10_sounding_24 : decode cX10_sounding 24 = .ok (.aload_n 0, 1) := by decide +kernel
theorem dX10_sounding_25 : decode cX10_sounding 25 = .ok (.iload_n 1, 1) := by decide +kernel
theorem dX10_sounding_26 : decode cX10_sounding 26 = .ok (.invokevirtual 136, 3) := by decide +kernel
theorem dX10_sounding_29 : decode cX10_sounding 29 = .ok (.ireturn, 1) := by decide +kernel
set_option maxHeartbeats 4000000 in
set_option maxRecDepth 100000 in
theorem c_X10_sounding (g : xG) (l : Launch) (b : Nat → Nat) (m : MdT) (s : (Nat → Int32)) (x1 : Int32) {u : Int32 × MdT} (hf : f_X10_sounding m s x1 = some u) : ConD g l yX10_sounding cX10_sounding 2 (some .int) ({ frames := 2, cells := 0, slots := 0, locals := 45 } : Room) [.ref (b 0), .int x1] [mdO g b m, iaW g (b 1) 110 s] (some (.int u.1)) [mdO g b u.2, iaW g (b 1) 110 s] := by
  unfold f_X10_sounding at hf
  refine Con_of [mdO g b m, iaW g (b 1) 110 s] [(0, .ref (b 0)), (1, .int x1)] rfl rfl (by decide) (Nat.le_of_ble_eq_true rfl) ?_
  intro pW eW sW mW argsW belowW methW c9 C hnm hr
  have C : CX g RX10 cX10_sounding 2 _ pW sW mW argsW methW c9 := C
  have hL13 : ∀ (mL : MdT) (x1 : Int32) (y0 : Int32), f_X10_sounding_13 mL s x1 y0 = some u → VW g (va_A ([mdO g b m, iaW g (b 1) 110 s] : List va_W).flatten sW.heap.size) 2 pW l eW ({ frames := 2, cells := 0, slots := 0, locals := 45 } : Room) sW mW argsW belowW methW c9 0 0 (MQ belowW (xQc g ([mdO g b m, iaW g (b 1) 110 s] : List va_W).flatten sW.heap.size (fun v9 w9 => v9 = some (.int u.1) ∧ w9 = ([mdO g b u.2, iaW g (b 1) 110 s] : List va_W).flatten)) argsW sW 0 0 (va_A ([mdO g b m, iaW g (b 1) 110 s] : List va_W).flatten sW.heap.size)) [mdO g b mL, iaW g (b 1) 110 s] [(0, .ref (b 0)), (1, .int x1)] 13 [.int y0, .ref (b 0)] := by
    intro mL x1 y0 hf
    unfold f_X10_sounding_13 at hf
    refine x_iconst (v := 1) C dX10_sounding_13 (by decide) ?_
    obtain ⟨u1, hu1, hf⟩ := x_b hf
    refine x_callV (n := 2) (As := [.int y0, .int (1 : Int32)]) (rest := []) C (c_X10_isThrown g l b mL y0 (1 : Int32) hu1) ⟨⟨wd_1575, wd_1572, wd_78⟩, ⟨by decide, by decide, by decide⟩, rfl, rfl, Nat.le_of_ble_eq_true rfl, Nat.le_of_ble_eq_true rfl⟩ wd_1574 wd_26 ⟨0, 11, _, _, rfl, rfl, rfl⟩ [iaW g (b 1) 110 s] (x_pickD [0, 1] 2 rfl rfl rfl) rfl rfl (Nat.le_of_ble_eq_true rfl) ⟨Nat.le_of_ble_eq_true rfl, Nat.le_of_ble_eq_true rfl⟩ dX10_sounding_14 (x_goD (wss2 := [mdO g b u1.2, iaW g (b 1) 110 s]) (stk2 := [.int u1.1]) rfl rfl ?_)
    refine x_if_eq (tgt := 24) C dX10_sounding_17 (by decide) (fun h2 => ?_) (fun h2 => ?_)
    · have hf := x_t h2 hf
      refine x_aload_n C dX10_sounding_24 rfl 0 rfl ?_
      refine x_iload_n C dX10_sounding_25 rfl 1 rfl ?_
      obtain ⟨u3, hu3, hf⟩ := x_b hf
      refine x_callV (n := 1) (As := [.int x1]) (rest := []) C (c_X10_sounds g l b u1.2 s x1 hu3) ⟨⟨wd_1715, wd_1712, wd_78⟩, ⟨by decide, by decide, by decide⟩, rfl, rfl, Nat.le_of_ble_eq_true rfl, Nat.le_of_ble_eq_true rfl⟩ wd_1714 wd_47 ⟨0, 11, _, _, rfl, rfl, rfl⟩ [] (x_pickD [0, 1] 2 rfl rfl rfl) rfl rfl (Nat.le_of_ble_eq_true rfl) ⟨Nat.le_of_ble_eq_true rfl, Nat.le_of_ble_eq_true rfl⟩ dX10_sounding_26 (x_goD (wss2 := [mdO g b u1.2, iaW g (b 1) 110 s]) (stk2 := [.int u3]) rfl rfl ?_)
      exact x_iret C hr ⟨by cases hf; rfl, by cases hf; rfl⟩ dX10_sounding_29
    · have hf := x_f h2 hf
      refine x_iconst (v := 0) C dX10_sounding_20 (by decide) ?_
      refine x_goto (tgt := 29) C dX10_sounding_21 (by decide) ?_
      exact x_iret C hr ⟨by cases hf; rfl, by cases hf; rfl⟩ dX10_sounding_29
  refine x_aload_n C dX10_sounding_0 rfl 0 rfl ?_
  refine x_iload_n C dX10_sounding_1 rfl 1 rfl ?_
  obtain ⟨u1, hu1, hf⟩ := x_b hf
  refine x_callS (n := 1) (As := [.int x1]) (rest := [.ref (b 0)]) C (c_X10_isVoice g l x1 hu1) ⟨⟨wd_1568, wd_1566, wd_78⟩, ⟨by decide, by decide, by decide⟩, rfl, rfl, Nat.le_of_ble_eq_true rfl, Nat.le_of_ble_eq_true rfl⟩ wd_1567 [mdO g b m, iaW g (b 1) 110 s] (x_pickD [0, 1] 2 rfl rfl rfl) rfl rfl (Nat.le_of_ble_eq_true rfl) ⟨Nat.le_of_ble_eq_true rfl, Nat.le_of_ble_eq_true rfl⟩ dX10_sounding_2 (x_goD (wss2 := [mdO g b m, iaW g (b 1) 110 s]) (stk2 := [.int u1, .ref (b 0)]) rfl rfl ?_)
  refine x_if_ne (tgt := 12) C dX10_sounding_5 (by decide) (fun h2 => ?_) (fun h2 => ?_)
  · have hf := x_f h2 hf
    refine x_iconst (v := 0) C dX10_sounding_12 (by decide) ?_
    exact hL13 m x1 (0 : Int32) hf
  · have hf := x_t h2 hf
    refine x_iconst (v := 1) C dX10_sounding_8 (by decide) ?_
    refine x_goto (tgt := 13) C dX10_sounding_9 (by decide) ?_
    exact hL13 m x1 (1 : Int32) hf
theorem dX10_minutesLeft_0 : decode cX10_minutesLeft 0 = .ok (.aload_n 0, 1) := by decide +kernel
theorem dX10_minutesLeft_1 : decode cX10_minutesLeft 1 = .ok (.aload_n 0, 1) := by decide +kernel
theorem dX10_minutesLeft_2 : decode cX10_minutesLeft 2 = .ok (.iload_n 1, 1) := by decide +kernel
theorem dX10_minutesLeft_3 : decode cX10_minutesLeft 3 = .ok (.invokevirtual 82, 3) := by decide +kernel
theorem dX10_minutesLeft_6 : decode cX10_minutesLeft 6 = .ok (.ifCond .ne 7, 3) := by decide +kernel
theorem dX10_minutesLeft_9 : decode cX10_minutesLeft 9 = .ok (.iconst 1, 1) := by decide +kernel
theorem dX10_minutesLeft_10 : decode cX10_minutesLeft 10 = .ok (.goto 4, 3) := by decide +kernel
theorem dX10_minutesLeft_13 : decode cX10_minutesLeft 13 = .ok (.iconst 0, 1) := by decide +kernel
theorem dX10_minutesLeft_14 : decode cX10_minutesLeft 14 = .ok (.iconst 1, 1) := by decide +kernel
theorem dX10_minutesLeft_15 : decode cX10_minutesLeft 15 = .ok (.invokevirtual 63, 3) := by decide +kernel
theorem dX10_minutesLeft_18 : decode cX10_minutesLeft 18 = .ok (.ifCond .eq 7, 3) := by decide +kernel
theorem dX10_minutesLeft_21 : decode cX10_minutesLeft 21 = .ok (.iconst 0, 1) := by decide +kernel
theorem dX10_minutesLeft_22 : decode cX10_minutesLeft 22 = .ok (.goto 23, 3) := by decide +kernel
theorem dX10_minutesLeft_25 : decode cX10_minutesLeft 25 = .ok (.aload_n 0, 1) := by decide +kernel
theorem dX10_minutesLeft_26 : decode cX10_minutesLeft 26 = .ok (.iload_n 1, 1) := by decide +kernel
theorem dX10_minutesLeft_27 : decode cX10_minutesLeft 27 = .ok (.iconst 1, 1) := by decide +kernel
theorem dX10_minutesLeft_28 : decode cX10_minutesLeft 28 = .ok (.invokevirtual 55, 3) := by decide +kernel
theorem dX10_minutesLeft_31 : decode cX10_minutesLeft 31 = .ok (.aload_n 0, 1) := by decide +kernel
theorem dX10_minutesLeft_32 : decode cX10_minutesLeft 32 = .ok (.iload_n 1, 1) := by decide +kernel
theorem dX10_minutesLeft_33 : decode cX10_minutesLeft 33 = .ok (.invokevirtual 120, 3) := by decide +kernel
theorem dX10_minutesLeft_36 : decode cX10_minutesLeft 36 = .ok (.iadd, 1) := by decide +kernel
theorem dX10_minutesLeft_37 : decode cX10_minutesLeft 37 = .ok (.iconst 1, 1) := by decide +kernel
theorem dX10_minutesLeft_38 : decode cX10_minutesLeft 38 = .ok (.isub, 1) := by decide +kernel
theorem dX10_minutesLeft_39 : decode cX10_minutesLeft 39 = .ok (.aload_n 0, 1) := by decide +kernel
theorem dX10_minutesLeft_40 : decode cX10_minutesLeft 40 = .ok (.iload_n 1, 1) := by decide +kernel
theorem dX10_minutesLeft_41 : decode cX10_minutesLeft 41 = .ok (.invokevirtual 120, 3) := by decide +kernel
theorem dX10_minutesLeft_44 : decode cX10_minutesLeft 44 = .ok (.idiv, 1) := by decide +kernel
theorem dX10_minutesLeft_45 : decode cX10_minutesLeft 45 = .ok (.ireturn, 1) := by decide +kernel
set_option maxHeartbeats 4000000 in
set_option maxRecDepth 100000 in
theorem c_X10_minutesLeft (g : xG) (l : Launch) (b : Nat → Nat) (m : MdT) (s : (Nat → Int32)) (x1 : Int32) {u : Int32 × MdT} (hf : f_X10_minutesLeft m s x1 = some u) : ConD g l yX10_minutesLeft cX10_minutesLeft 2 (some .int) ({ frames := 2, cells := 0, slots := 0, locals := 43 } : Room) [.ref (b 0), .int x1] [mdO g b m, iaW g (b 1) 110 s] (some (.int u.1)) [mdO g b u.2, iaW g (b 1) 110 s] := by
  unfold f_X10_minutesLeft at hf
  refine Con_of [mdO g b m, iaW g (b 1) 110 s] [(0, .ref (b 0)), (1, .int x1)] rfl rfl (by decide) (Nat.le_of_ble_eq_true rfl) ?_
  intro pW eW sW mW argsW belowW methW c9 C hnm hr
  have C : CX g RX10 cX10_minutesLeft 2 _ pW sW mW argsW methW c9 := C
  have hL14 : ∀ (mL : MdT) (x1 : Int32) (y0 : Int32), f_X10_minutesLeft_14 mL s x1 y0 = some u → VW g (va_A ([mdO g b m, iaW g (b 1) 110 s] : List va_W).flatten sW.heap.size) 2 pW l eW ({ frames := 2, cells := 0, slots := 0, locals := 43 } : Room) sW mW argsW belowW methW c9 0 0 (MQ belowW (xQc g ([mdO g b m, iaW g (b 1) 110 s] : List va_W).flatten sW.heap.size (fun v9 w9 => v9 = some (.int u.1) ∧ w9 = ([mdO g b u.2, iaW g (b 1) 110 s] : List va_W).flatten)) argsW sW 0 0 (va_A ([mdO g b m, iaW g (b 1) 110 s] : List va_W).flatten sW.heap.size)) [mdO g b mL, iaW g (b 1) 110 s] [(0, .ref (b 0)), (1, .int x1)] 14 [.int y0, .ref (b 0)] := by
    intro mL x1 y0 hf
    unfold f_X10_minutesLeft_14 at hf
    refine x_iconst (v := 1) C dX10_minutesLeft_14 (by decide) ?_
    obtain ⟨u1, hu1, hf⟩ := x_b hf
    refine x_callV (n := 2) (As := [.int y0, .int (1 : Int32)]) (rest := []) C (c_X10_isThrown g l b mL y0 (1 : Int32) hu1) ⟨⟨wd_1575, wd_1572, wd_78⟩, ⟨by decide, by decide, by decide⟩, rfl, rfl, Nat.le_of_ble_eq_true rfl, Nat.le_of_ble_eq_true rfl⟩ wd_1574 wd_26 ⟨0, 11, _, _, rfl, rfl, rfl⟩ [iaW g (b 1) 110 s] (x_pickD [0, 1] 2 rfl rfl rfl) rfl rfl (Nat.le_of_ble_eq_true rfl) ⟨Nat.le_of_ble_eq_true rfl, Nat.le_of_ble_eq_true rfl⟩ dX10_minutesLeft_15 (x_goD (wss2 := [mdO g b u1.2, iaW g (b 1) 110 s]) (stk2 := [.int u1.1]) rfl rfl ?_)
    refine x_if_eq (tgt := 25) C dX10_minutesLeft_18 (by decide) (fun h2 => ?_) (fun h2 => ?_)
    · have hf := x_t h2 hf
      refine x_aload_n C dX10_minutesLeft_25 rfl 0 rfl ?_
      refine x_iload_n C dX10_minutesLeft_26 rfl 1 rfl ?_
      refine x_iconst (v := 1) C dX10_minutesLeft_27 (by decide) ?_
      obtain ⟨u3, hu3, hf⟩ := x_b hf
      refine x_callV (n := 2) (As := [.int x1, .int (1 : Int32)]) (rest := []) C (c_X10_of g l b u1.2 s x1 (1 : Int32) hu3) ⟨⟨wd_1599, wd_1596, wd_78⟩, ⟨by decide, by decide, by decide⟩, rfl, rfl, Nat.le_of_ble_eq_true rfl, Nat.le_of_ble_eq_true rfl⟩ wd_1598 wd_31 ⟨0, 11, _, _, rfl, rfl, rfl⟩ [] (x_pickD [0, 1] 2 rfl rfl rfl) rfl rfl (Nat.le_of_ble_eq_true rfl) ⟨Nat.le_of_ble_eq_true rfl, Nat.le_of_ble_eq_true rfl⟩ dX10_minutesLeft_28 (x_goD (wss2 := [mdO g b u1.2, iaW g (b 1) 110 s]) (stk2 := [.int u3]) rfl rfl ?_)
      refine x_aload_n C dX10_minutesLeft_31 rfl 0 rfl ?_
      refine x_iload_n C dX10_minutesLeft_32 rfl 1 rfl ?_
      obtain ⟨u4, hu4, hf⟩ := x_b hf
      refine x_callV (n := 1) (As := [.int x1]) (rest := [.int u3]) C (c_X10_burns g l b u1.2 s x1 hu4) ⟨⟨wd_1683, wd_1680, wd_78⟩, ⟨by decide, by decide, by decide⟩, rfl, rfl, Nat.le_of_ble_eq_true rfl, Nat.le_of_ble_eq_true rfl⟩ wd_1682 wd_46 ⟨0, 11, _, _, rfl, rfl, rfl⟩ [] (x_pickD [0, 1] 2 rfl rfl rfl) rfl rfl (Nat.le_of_ble_eq_true rfl) ⟨Nat.le_of_ble_eq_true rfl, Nat.le_of_ble_eq_true rfl⟩ dX10_minutesLeft_33 (x_goD (wss2 := [mdO g b u1.2, iaW g (b 1) 110 s]) (stk2 := [.int u4, .int u3]) rfl rfl ?_)
      refine x_iadd C dX10_minutesLeft_36 ?_
      refine x_iconst (v := 1) C dX10_minutesLeft_37 (by decide) ?_
      refine x_isub C dX10_minutesLeft_38 ?_
      refine x_aload_n C dX10_minutesLeft_39 rfl 0 rfl ?_
      refine x_iload_n C dX10_minutesLeft_40 rfl 1 rfl ?_
      obtain ⟨u5, hu5, hf⟩ := x_b hf
      refine x_callV (n := 1) (As := [.int x1]) (rest := [.int ((u3 + u4) - (1 : Int32))]) C (c_X10_burns g l b u1.2 s x1 hu5) ⟨⟨wd_1683, wd_1680, wd_78⟩, ⟨by decide, by decide, by decide⟩, rfl, rfl, Nat.le_of_ble_eq_true rfl, Nat.le_of_ble_eq_true rfl⟩ wd_1682 wd_46 ⟨0, 11, _, _, rfl, rfl, rfl⟩ [] (x_pickD [0, 1] 2 rfl rfl rfl) rfl rfl (Nat.le_of_ble_eq_true rfl) ⟨Nat.le_of_ble_eq_true rfl, Nat.le_of_ble_eq_true rfl⟩ dX10_minutesLeft_41 (x_goD (wss2 := [mdO g b u1.2, iaW g (b 1) 110 s]) (stk2 := [.int u5, .int ((u3 + u4) - (1 : Int32))]) rfl rfl ?_)
      obtain ⟨h6, hf⟩ := x_n hf
      refine x_idiv C dX10_minutesLeft_44 h6 ?_
      exact x_iret C hr ⟨by cases hf; rfl, by cases hf; rfl⟩ dX10_minutesLeft_45
    · have hf := x_f h2 hf
      refine x_iconst (v := 0) C dX10_minutesLeft_21 (by decide) ?_
      refine x_goto (tgt := 45) C dX10_minutesLeft_22 (by decide) ?_
      exact x_iret C hr ⟨by cases hf; rfl, by cases hf; rfl⟩ dX10_minutesLeft_45
  refine x_aload_n C dX10_minutesLeft_0 rfl 0 rfl ?_
  refine x_aload_n C dX10_minutesLeft_1 rfl 0 rfl ?_
  refine x_iload_n C dX10_minutesLeft_2 rfl 1 rfl ?_
  obtain ⟨u1, hu1, hf⟩ := x_b hf
  refine x_callV (n := 1) (As := [.int x1]) (rest := [.ref (b 0)]) C (c_X10_isCandle g l b m s x1 hu1) ⟨⟨wd_1595, wd_1592, wd_78⟩, ⟨by decide, by decide, by decide⟩, rfl, rfl, Nat.le_of_ble_eq_true rfl, Nat.le_of_ble_eq_true rfl⟩ wd_1594 wd_30 ⟨0, 11, _, _, rfl, rfl, rfl⟩ [] (x_pickD [0, 1] 2 rfl rfl rfl) rfl rfl (Nat.le_of_ble_eq_true rfl) ⟨Nat.le_of_ble_eq_true rfl, Nat.le_of_ble_eq_true rfl⟩ dX10_minutesLeft_3 (x_goD (wss2 := [mdO g b m, iaW g (b 1) 110 s]) (stk2 := [.int u1, .ref (b 0)]) rfl rfl ?_)
  refine x_if_ne (tgt := 13) C dX10_minutesLeft_6 (by decide) (fun h2 => ?_) (fun h2 => ?_)
  · have hf := x_f h2 hf
    refine x_iconst (v := 0) C dX10_minutesLeft_13 (by decide) ?_
    exact hL14 m x1 (0 : Int32) hf
  · have hf := x_t h2 hf
    refine x_iconst (v := 1) C dX10_minutesLeft_9 (by decide) ?_
    refine x_goto (tgt := 14) C dX10_minutesLeft_10 (by decide) ?_
    exact hL14 m x1 (1 : Int32) hf
theorem wd_1717 : Cond.instanceMethod yX10_minutesLeft ∈ xTB := xTB_in 1717 (by decide +kernel) (by decide +kernel)
theorem wd_1718 : Cond.selects yX10_minutesLeft.cls yX10_minutesLeft yX10_minutesLeft ∈ xTB := xTB_in 1718 (by decide +kernel) (by decide +kernel)
theorem wd_1719 : Cond.code yX10_minutesLeft cX10_minutesLeft 2 (some .int) ∈ xTB := xTB_in 1719 (by decide +kernel) (by decide +kernel)
theorem wd_1724 : Cond.methodLink RX10 139 yX10_minutesLeft ∈ xTB := xTB_in 1724 (by decide +kernel) (by decide +kernel)
theorem dX10_minutesLeftByBurning_0 : decode cX10_minutesLeftByBurning 0 = .ok (.aload_n 0, 1) := by decide +kernel
theorem dX10_minutesLeftByBurning_1 : decode cX10_minutesLeftByBurning 1 = .ok (.iload_n 1, 1) := by decide +kernel
theorem dX10_minutesLeftByBurning_2 : decode cX10_minutesLeftByBurning 2 = .ok (.invokevirtual 139, 3) := by decide +kernel
theorem dX10_minutesLeftByBurning_5 : decode cX10_minutesLeftByBurning 5 = .ok (.ireturn, 1) := by decide +kernel
set_option maxHeartbeats 4000000 in
set_option maxRecDepth 100000 in
theorem c_X10_minutesLeftByBurning (g : xG) (l : Launch) (b : Nat → Nat) (m : MdT) (s : (Nat → Int32)) (x1 : Int32) {u : Int32 × MdT} (hf : f_X10_minutesLeftByBurning m s x1 = some u) : ConD g l yX10_minutesLeftByBurning cX10_minutesLeftByBurning 2 (some .int) ({ frames := 3, cells := 0, slots := 0, locals := 64 } : Room) [.ref (b 0), .int x1] [mdO g b m, iaW g (b 1) 110 s] (some (.int u.1)) [mdO g b u.2, iaW g (b 1) 110 s] := by
  unfold f_X10_minutesLeftByBurning at hf
  refine Con_of [mdO g b m, iaW g (b 1) 110 s] [(0, .ref (b 0)), (1, .int x1)] rfl rfl (by decide) (Nat.le_of_ble_eq_true rfl) ?_
  intro pW eW sW mW argsW belowW methW c9 C hnm hr
  have C : CX g RX10 cX10_minutesLeftByBurning 2 _ pW sW mW argsW methW c9 := C
  refine x_aload_n C dX10_minutesLeftByBurning_0 rfl 0 rfl ?_
  refine x_iload_n C dX10_minutesLeftByBurning_1 rfl 1 rfl ?_
  obtain ⟨u1, hu1, hf⟩ := x_b hf
  refine x_callV (n := 1) (As := [.int x1]) (rest := []) C (c_X10_minutesLeft g l b m s x1 hu1) ⟨⟨wd_1719, wd_1724, wd_78⟩, ⟨by decide, by decide, by decide⟩, rfl, rfl, Nat.le_of_ble_eq_true rfl, Nat.le_of_ble_eq_true rfl⟩ wd_1717 wd_1718 ⟨0, 11, _, _, rfl, rfl, rfl⟩ [] (x_pickD [0, 1] 2 rfl rfl rfl) rfl rfl (Nat.le_of_ble_eq_true rfl) ⟨Nat.le_of_ble_eq_true rfl, Nat.le_of_ble_eq_true rfl⟩ dX10_minutesLeftByBurning_2 (x_goD (wss2 := [mdO g b u1.2, iaW g (b 1) 110 s]) (stk2 := [.int u1.1]) rfl rfl ?_)
  exact x_iret C hr ⟨by cases hf; rfl, by cases hf; rfl⟩ dX10_minutesLeftByBurning_5
theorem dX10_candleByWax_0 : decode cX10_candleByWax 0 = .ok (.iconst 0, 1) := by decide +kernel
theorem dX10_candleByWax_1 : decode cX10_candleByWax 1 = .ok (.istore_n 2, 1) := by decide +kernel
theorem dX10_candleByWax_2 : decode cX10_candleByWax 2 = .ok (.iload_n 2, 1) := by decide +kernel
theorem dX10_candleByWax_3 : decode cX10_candleByWax 3 = .ok (.aload_n 0, 1) := by decide +kernel
theorem dX10_candleByWax_4 : decode cX10_candleByWax 4 = .ok (.getfield 9, 3) := by decide +kernel
theorem dX10_candleByWax_7 : decode cX10_candleByWax 7 = .ok (.iconst 3, 1) := by decide +kernel
theorem dX10_candleByWax_8 : decode cX10_candleByWax 8 = .ok (.iaload, 1) := by decide +kernel
theorem dX10_candleByWax_9 : decode cX10_candleByWax 9 = .ok (.if_icmp .ge 83, 3) := by decide +kernel
theorem dX10_candleByWax_12 : decode cX10_candleByWax 12 = .ok (.iconst 0, 1) := by decide +kernel
theorem dX10_candleByWax_13 : decode cX10_candleByWax 13 = .ok (.istore_n 3, 1) := by decide +kernel
theorem dX10_candleByWax_14 : decode cX10_candleByWax 14 = .ok (.iconst 0, 1) := by decide +kernel
theorem dX10_candleByWax_15 : decode cX10_candleByWax 15 = .ok (.istore 4, 2) := by decide +kernel
theorem dX10_candleByWax_17 : decode cX10_candleByWax 17 = .ok (.iload 4, 2) := by decide +kernel
theorem dX10_candleByWax_19 : decode cX10_candleByWax 19 = .ok (.aload_n 0, 1) := by decide +kernel
theorem dX10_candleByWax_20 : decode cX10_candleByWax 20 = .ok (.getfield 9, 3) := by decide +kernel
theorem dX10_candleByWax_23 : decode cX10_candleByWax 23 = .ok (.iconst 3, 1) := by decide +kernel
theorem dX10_candleByWax_24 : decode cX10_candleByWax 24 = .ok (.iaload, 1) := by decide +kernel
theorem dX10_candleByWax_25 : decode cX10_candleByWax 25 = .ok (.if_icmp .ge 49, 3) := by decide +kernel
theorem dX10_candleByWax_28 : decode cX10_candleByWax 28 = .ok (.aload_n 0, 1) := by decide +kernel
theorem dX10_candleByWax_29 : decode cX10_candleByWax 29 = .ok (.iload 4, 2) := by decide +kernel
theorem dX10_candleByWax_31 : decode cX10_candleByWax 31 = .ok (.iconst 1, 1) := by decide +kernel
theorem dX10_candleByWax_32 : decode cX10_candleByWax 32 = .ok (.invokevirtual 55, 3) := by decide +kernel
theorem dX10_candleByWax_35 : decode cX10_candleByWax 35 = .ok (.aload_n 0, 1) := by decide +kernel
theorem dX10_candleByWax_36 : decode cX10_candleByWax 36 = .ok (.iload_n 2, 1) := by decide +kernel
theorem dX10_candleByWax_37 : decode cX10_candleByWax 37 = .ok (.iconst 1, 1) := by decide +kernel
theorem dX10_candleByWax_38 : decode cX10_candleByWax 38 = .ok (.invokevirtual 55, 3) := by decide +kernel
theorem dX10_candleByWax_41 : decode cX10_candleByWax 41 = .ok (.isub, 1) := by decide +kernel
theorem dX10_candleByWax_42 : decode cX10_candleByWax 42 = .ok (.istore 5, 2) := by decide +kernel
theorem dX10_candleByWax_44 : decode cX10_candleByWax 44 = .ok (.iload_n 3, 1) := by decide +kernel
theorem dX10_candleByWax_45 : decode cX10_candleByWax 45 = .ok (.iload 5, 2) := by decide +kernel
theorem dX10_candleByWax_47 : decode cX10_candleByWax 47 = .ok (.ifCond .gt 14, 3) := by decide +kernel
theorem dX10_candleByWax_50 : decode cX10_candleByWax 50 = .ok (.iload 5, 2) := by decide +kernel
theorem dX10_candleByWax_52 : decode cX10_candleByWax 52 = .ok (.ifCond .ne 13, 3) := by decide +kernel
theorem dX10_candleByWax_55 : decode cX10_candleByWax 55 = .ok (.iload 4, 2) := by decide +kernel
theorem dX10_candleByWax_57 : decode cX10_candleByWax 57 = .ok (.iload_n 2, 1) := by decide +kernel
theorem dX10_candleByWax_58 : decode cX10_candleByWax 58 = .ok (.if_icmp .ge 7, 3) := by decide +kernel
theorem dX10_candleByWax_61 : decode cX10_candleByWax 61 = .ok (.iconst 1, 1) := by decide +kernel
theorem dX10_candleByWax_62 : decode cX10_candleByWax 62 = .ok (.goto 4, 3) := by decide +kernel
theorem dX10_candleByWax_65 : decode cX10_candleByWax 65 = .ok (.iconst 0, 1) := by decide +kernel
theorem dX10_candleByWax_66 : decode cX10_candleByWax 66 = .ok (.iadd, 1) := by decide +kernel
theorem dX10_candleByWax_67 : decode cX10_candleByWax 67 = .ok (.istore_n 3, 1) := by decide +kernel
theorem dX10_candleByWax_68 : decode cX10_candleByWax 68 = .ok (.iinc 4 1, 3) := by decide +kernel
theorem dX10_candleByWax_71 : decode cX10_candleByWax 71 = .ok (.goto (-54), 3) := by decide +kernel
theorem dX10_candleByWax_74 : decode cX10_candleByWax 74 = .ok (.iload_n 3, 1) := by decide +kernel
theorem dX10_candleByWax_75 : decode cX10_candleByWax 75 = .ok (.iload_n 1, 1) := by decide +kernel
theorem dX10_candleByWax_76 : decode cX10_candleByWax 76 = .ok (.if_icmp .ne 10, 3) := by decide +kernel
theorem dX10_candleByWax_79 : decode cX10_candleByWax 79 = .ok (.aload_n 0, 1) := by decide +kernel
theorem dX10_candleByWax_80 : decode cX10_candleByWax 80 = .ok (.iconst 0, 1) := by decide +kernel
theorem dX10_candleByWax_81 : decode cX10_candleByWax 81 = .ok (.putfield 41, 3) := by decide +kernel
theorem dX10_candleByWax_84 : decode cX10_candleByWax 84 = .ok (.iload_n 2, 1) := by decide +kernel
theorem dX10_candleByWax_85 : decode cX10_candleByWax 85 = .ok (.ireturn, 1) := by decide +kernel
theorem dX10_candleByWax_86 : decode cX10_candleByWax 86 = .ok (.iinc 2 1, 3) := by decide +kernel
theorem dX10_candleByWax_89 : decode cX10_candleByWax 89 = .ok (.goto (-87), 3) := by decide +kernel
theorem dX10_candleByWax_92 : decode cX10_candleByWax 92 = .ok (.aload_n 0, 1) := by decide +kernel
theorem dX10_candleByWax_93 : decode cX10_candleByWax 93 = .ok (.iconst 1, 1) := by decide +kernel
theorem dX10_candleByWax_94 : decode cX10_candleByWax 94 = .ok (.putfield 41, 3) := by decide +kernel
theorem dX10_candleByWax_97 : decode cX10_candleByWax 97 = .ok (.iconst 0, 1) := by decide +kernel
theorem dX10_candleByWax_98 : decode cX10_candleByWax 98 = .ok (.ireturn, 1) := by decide +kernel
set_option maxHeartbeats 4000000 in
set_option maxRecDepth 100000 in
theorem c_X10_candleByWax (g : xG) (l : Launch) (b : Nat → Nat) (m : MdT) (s : (Nat → Int32)) (x1 : Int32) {u : Int32 × MdT} (hf : f_X10_candleByWax m s x1 = some u) : ConD g l yX10_candleByWax cX10_candleByWax 6 (some .int) ({ frames := 1, cells := 0, slots := 0, locals := 22 } : Room) [.ref (b 0), .int x1] [mdO g b m, iaW g (b 1) 110 s] (some (.int u.1)) [mdO g b u.2, iaW g (b 1) 110 s] := by
  unfold f_X10_candleByWax at hf
  refine Con_of [mdO g b m, iaW g (b 1) 110 s] [(0, .ref (b 0)), (1, .int x1)] rfl rfl (by decide) (Nat.le_of_ble_eq_true rfl) ?_
  intro pW eW sW mW argsW belowW methW c9 C hnm hr
  have C : CX g RX10 cX10_candleByWax 6 _ pW sW mW argsW methW c9 := C
  have hL17 : ∀ (nW : Nat) (mL : MdT) (x1 : Int32) (x2 : Int32) (x3 : Int32) (x4 : Int32) (oW : MdT × Int32), f_X10_candleByWax_17 nW mL s x1 x2 x3 x4 = some oW → (VW g (va_A ([mdO g b m, iaW g (b 1) 110 s] : List va_W).flatten sW.heap.size) 6 pW l eW ({ frames := 1, cells := 0, slots := 0, locals := 22 } : Room) sW mW argsW belowW methW c9 0 0 (MQ belowW (xQc g ([mdO g b m, iaW g (b 1) 110 s] : List va_W).flatten sW.heap.size (fun v9 w9 => v9 = some (.int u.1) ∧ w9 = ([mdO g b u.2, iaW g (b 1) 110 s] : List va_W).flatten)) argsW sW 0 0 (va_A ([mdO g b m, iaW g (b 1) 110 s] : List va_W).flatten sW.heap.size)) [mdO g b oW.1, iaW g (b 1) 110 s] [(0, .ref (b 0)), (1, .int x1), (2, .int x2), (3, .int oW.2)] 74 []) → VW g (va_A ([mdO g b m, iaW g (b 1) 110 s] : List va_W).flatten sW.heap.size) 6 pW l eW ({ frames := 1, cells := 0, slots := 0, locals := 22 } : Room) sW mW argsW belowW methW c9 0 0 (MQ belowW (xQc g ([mdO g b m, iaW g (b 1) 110 s] : List va_W).flatten sW.heap.size (fun v9 w9 => v9 = some (.int u.1) ∧ w9 = ([mdO g b u.2, iaW g (b 1) 110 s] : List va_W).flatten)) argsW sW 0 0 (va_A ([mdO g b m, iaW g (b 1) 110 s] : List va_W).flatten sW.heap.size)) [mdO g b mL, iaW g (b 1) 110 s] [(0, .ref (b 0)), (1, .int x1), (2, .int x2), (3, .int x3), (4, .int x4)] 17 [] := by
    intro nW
    induction nW with
    | zero => intro mL x1 x2 x3 x4 oW hf hk; rw [f_X10_candleByWax_17] at hf; cases hf
    | succ nW ih =>
      intro mL x1 x2 x3 x4 oW hf hk
      rw [f_X10_candleByWax_17] at hf
      refine x_iload C dX10_candleByWax_17 4 rfl ?_
      refine x_aload_n C dX10_candleByWax_19 rfl 0 rfl ?_
      refine x_get (ci := 11) (v := .ref (b 1)) (b := mdO g b mL) C ixX10 rfl 0 (by decide) wd_1492 (fun _ h => h) 0 rfl 0 (mdO_at0 g b _) rfl dX10_candleByWax_20 ?_
      refine x_iconst (v := 3) C dX10_candleByWax_23 (by decide) ?_
      obtain ⟨h1, hf⟩ := x_n hf
      refine x_iald (b := iaW g (b 1) 110 s) C 1 rfl 0 (iaW_at0 g (b 1) 110 _) h1 dX10_candleByWax_24 ?_
      refine x_icmp_ge (tgt := 74) C dX10_candleByWax_25 (by decide) (fun h2 => ?_) (fun h2 => ?_)
      · have hf := x_t h2 hf
        refine x_locals (lv' := [(0, .ref (b 0)), (1, .int x1), (2, .int x2), (3, .int x3)]) [0, 1, 2, 3] rfl ?_
        cases hf
        exact hk
      · have hf := x_f h2 hf
        refine x_aload_n C dX10_candleByWax_28 rfl 0 rfl ?_
        refine x_iload C dX10_candleByWax_29 4 rfl ?_
        refine x_iconst (v := 1) C dX10_candleByWax_31 (by decide) ?_
        obtain ⟨u3, hu3, hf⟩ := x_b hf
        refine x_callV (n := 2) (As := [.int x4, .int (1 : Int32)]) (rest := []) C (c_X10_of g l b mL s x4 (1 : Int32) hu3) ⟨⟨wd_1599, wd_1596, wd_78⟩, ⟨by decide, by decide, by decide⟩, rfl, rfl, Nat.le_of_ble_eq_true rfl, Nat.le_of_ble_eq_true rfl⟩ wd_1598 wd_31 ⟨0, 11, _, _, rfl, rfl, rfl⟩ [] (x_pickD [0, 1] 2 rfl rfl rfl) rfl rfl (Nat.le_of_ble_eq_true rfl) ⟨Nat.le_of_ble_eq_true rfl, Nat.le_of_ble_eq_true rfl⟩ dX10_candleByWax_32 (x_goD (wss2 := [mdO g b mL, iaW g (b 1) 110 s]) (stk2 := [.int u3]) rfl rfl ?_)
        refine x_aload_n C dX10_candleByWax_35 rfl 0 rfl ?_
        refine x_iload_n C dX10_candleByWax_36 rfl 2 rfl ?_
        refine x_iconst (v := 1) C dX10_candleByWax_37 (by decide) ?_
        obtain ⟨u4, hu4, hf⟩ := x_b hf
        refine x_callV (n := 2) (As := [.int x2, .int (1 : Int32)]) (rest := [.int u3]) C (c_X10_of g l b mL s x2 (1 : Int32) hu4) ⟨⟨wd_1599, wd_1596, wd_78⟩, ⟨by decide, by decide, by decide⟩, rfl, rfl, Nat.le_of_ble_eq_true rfl, Nat.le_of_ble_eq_true rfl⟩ wd_1598 wd_31 ⟨0, 11, _, _, rfl, rfl, rfl⟩ [] (x_pickD [0, 1] 2 rfl rfl rfl) rfl rfl (Nat.le_of_ble_eq_true rfl) ⟨Nat.le_of_ble_eq_true rfl, Nat.le_of_ble_eq_true rfl⟩ dX10_candleByWax_38 (x_goD (wss2 := [mdO g b mL, iaW g (b 1) 110 s]) (stk2 := [.int u4, .int u3]) rfl rfl ?_)
        refine x_isub C dX10_candleByWax_41 ?_
        refine x_istore (lv' := [(5, .int (u3 - u4)), (0, .ref (b 0)), (1, .int x1), (2, .int x2), (3, .int x3), (4, .int x4)]) C dX10_candleByWax_42 (by decide) rfl ?_
        refine x_iload_n C dX10_candleByWax_44 rfl 4 rfl ?_
        refine x_iload C dX10_candleByWax_45 0 rfl ?_
        refine x_if_gt (tgt := 61) C dX10_candleByWax_47 (by decide) (fun h5 => ?_) (fun h5 => ?_)
        · have hf := x_t h5 hf
          refine x_iconst (v := 1) C dX10_candleByWax_61 (by decide) ?_
          refine x_goto (tgt := 66) C dX10_candleByWax_62 (by decide) ?_
          refine x_iadd C dX10_candleByWax_66 ?_
          refine x_istore_n (lv' := [(3, .int (x3 + (1 : Int32))), (5, .int (u3 - u4)), (0, .ref (b 0)), (1, .int x1), (2, .int x2), (4, .int x4)]) C dX10_candleByWax_67 rfl (by decide) rfl ?_
          refine x_iinc (v := x4 + 1) (lv' := [(4, .int (x4 + 1)), (3, .int (x3 + (1 : Int32))), (5, .int (u3 - u4)), (0, .ref (b 0)), (1, .int x1), (2, .int x2)]) C dX10_candleByWax_68 5 rfl rfl (by decide) rfl ?_
          refine x_goto (tgt := 17) C dX10_candleByWax_71 (by decide) ?_
          refine x_locals (lv' := [(0, .ref (b 0)), (1, .int x1), (2, .int x2), (3, .int (x3 + (1 : Int32))), (4, .int (x4 + 1))]) [3, 4, 5, 1, 0] rfl ?_
          exact ih mL x1 x2 (x3 + (1 : Int32)) (x4 + 1) _ hf hk
        · have hf := x_f h5 hf
          refine x_iload C dX10_candleByWax_50 0 rfl ?_
          refine x_if_ne (tgt := 65) C dX10_candleByWax_52 (by decide) (fun h6 => ?_) (fun h6 => ?_)
          · have hf := x_f h6 hf
            refine x_iconst (v := 0) C dX10_candleByWax_65 (by decide) ?_
            refine x_iadd C dX10_candleByWax_66 ?_
            refine x_istore_n (lv' := [(3, .int (x3 + (0 : Int32))), (5, .int (u3 - u4)), (0, .ref (b 0)), (1, .int x1), (2, .int x2), (4, .int x4)]) C dX10_candleByWax_67 rfl (by decide) rfl ?_
            refine x_iinc (v := x4 + 1) (lv' := [(4, .int (x4 + 1)), (3, .int (x3 + (0 : Int32))), (5, .int (u3 - u4)), (0, .ref (b 0)), (1, .int x1), (2, .int x2)]) C dX10_candleByWax_68 5 rfl rfl (by decide) rfl ?_
            refine x_goto (tgt := 17) C dX10_candleByWax_71 (by decide) ?_
            refine x_locals (lv' := [(0, .ref (b 0)), (1, .int x1), (2, .int x2), (3, .int (x3 + (0 : Int32))), (4, .int (x4 + 1))]) [3, 4, 5, 1, 0] rfl ?_
            exact ih mL x1 x2 (x3 + (0 : Int32)) (x4 + 1) _ hf hk
          · have hf := x_t h6 hf
            refine x_iload C dX10_candleByWax_55 5 rfl ?_
            refine x_iload_n C dX10_candleByWax_57 rfl 3 rfl ?_
            refine x_icmp_ge (tgt := 65) C dX10_candleByWax_58 (by decide) (fun h7 => ?_) (fun h7 => ?_)
            · have hf := x_t h7 hf
              refine x_iconst (v := 0) C dX10_candleByWax_65 (by decide) ?_
              refine x_iadd C dX10_candleByWax_66 ?_
              refine x_istore_n (lv' := [(3, .int (x3 + (0 : Int32))), (5, .int (u3 - u4)), (0, .ref (b 0)), (1, .int x1), (2, .int x2), (4, .int x4)]) C dX10_candleByWax_67 rfl (by decide) rfl ?_
              refine x_iinc (v := x4 + 1) (lv' := [(4, .int (x4 + 1)), (3, .int (x3 + (0 : Int32))), (5, .int (u3 - u4)), (0, .ref (b 0)), (1, .int x1), (2, .int x2)]) C dX10_candleByWax_68 5 rfl rfl (by decide) rfl ?_
              refine x_goto (tgt := 17) C dX10_candleByWax_71 (by decide) ?_
              refine x_locals (lv' := [(0, .ref (b 0)), (1, .int x1), (2, .int x2), (3, .int (x3 + (0 : Int32))), (4, .int (x4 + 1))]) [3, 4, 5, 1, 0] rfl ?_
              exact ih mL x1 x2 (x3 + (0 : Int32)) (x4 + 1) _ hf hk
            · have hf := x_f h7 hf
              refine x_iconst (v := 1) C dX10_candleByWax_61 (by decide) ?_
              refine x_goto (tgt := 66) C dX10_candleByWax_62 (by decide) ?_
              refine x_iadd C dX10_candleByWax_66 ?_
              refine x_istore_n (lv' := [(3, .int (x3 + (1 : Int32))), (5, .int (u3 - u4)), (0, .ref (b 0)), (1, .int x1), (2, .int x2), (4, .int x4)]) C dX10_candleByWax_67 rfl (by decide) rfl ?_
              refine x_iinc (v := x4 + 1) (lv' := [(4, .int (x4 + 1)), (3, .int (x3 + (1 : Int32))), (5, .int (u3 - u4)), (0, .ref (b 0)), (1, .int x1), (2, .int x2)]) C dX10_candleByWax_68 5 rfl rfl (by decide) rfl ?_
              refine x_goto (tgt := 17) C dX10_candleByWax_71 (by decide) ?_
              refine x_locals (lv' := [(0, .ref (b 0)), (1, .int x1), (2, .int x2), (3, .int (x3 + (1 : Int32))), (4, .int (x4 + 1))]) [3, 4, 5, 1, 0] rfl ?_
              exact ih mL x1 x2 (x3 + (1 : Int32)) (x4 + 1) _ hf hk
  have hL2 : ∀ (nW : Nat) (mL : MdT) (x1 : Int32) (x2 : Int32), f_X10_candleByWax_2 nW mL s x1 x2 = some u → VW g (va_A ([mdO g b m, iaW g (b 1) 110 s] : List va_W).flatten sW.heap.size) 6 pW l eW ({ frames := 1, cells := 0, slots := 0, locals := 22 } : Room) sW mW argsW belowW methW c9 0 0 (MQ belowW (xQc g ([mdO g b m, iaW g (b 1) 110 s] : List va_W).flatten sW.heap.size (fun v9 w9 => v9 = some (.int u.1) ∧ w9 = ([mdO g b u.2, iaW g (b 1) 110 s] : List va_W).flatten)) argsW sW 0 0 (va_A ([mdO g b m, iaW g (b 1) 110 s] : List va_W).flatten sW.heap.size)) [mdO g b mL, iaW g (b 1) 110 s] [(0, .ref (b 0)), (1, .int x1), (2, .int x2)] 2 [] := by
    intro nW
    induction nW with
    | zero => intro mL x1 x2 hf; rw [f_X10_candleByWax_2] at hf; cases hf
    | succ nW ih =>
      intro mL x1 x2 hf
      rw [f_X10_candleByWax_2] at hf
      refine x_iload_n C dX10_candleByWax_2 rfl 2 rfl ?_
      refine x_aload_n C dX10_candleByWax_3 rfl 0 rfl ?_
      refine x_get (ci := 11) (v := .ref (b 1)) (b := mdO g b mL) C ixX10 rfl 0 (by decide) wd_1492 (fun _ h => h) 0 rfl 0 (mdO_at0 g b _) rfl dX10_candleByWax_4 ?_
      refine x_iconst (v := 3) C dX10_candleByWax_7 (by decide) ?_
      obtain ⟨h1, hf⟩ := x_n hf
      refine x_iald (b := iaW g (b 1) 110 s) C 1 rfl 0 (iaW_at0 g (b 1) 110 _) h1 dX10_candleByWax_8 ?_
      refine x_icmp_ge (tgt := 92) C dX10_candleByWax_9 (by decide) (fun h2 => ?_) (fun h2 => ?_)
      · have hf := x_t h2 hf
        refine x_aload_n C dX10_candleByWax_92 rfl 0 rfl ?_
        refine x_iconst (v := 1) C dX10_candleByWax_93 (by decide) ?_
        refine x_put (ci := 11) (ty := .int) (v := .int (1 : Int32)) (b := mdO g b mL) (b' := mdO g b (mL.1, (1 : Int32), mL.2.2.1, mL.2.2.2.1, mL.2.2.2.2.1, mL.2.2.2.2.2.1, mL.2.2.2.2.2.2.1, mL.2.2.2.2.2.2.2.1, mL.2.2.2.2.2.2.2.2.1, mL.2.2.2.2.2.2.2.2.2)) (wss' := [mdO g b (mL.1, (1 : Int32), mL.2.2.1, mL.2.2.2.1, mL.2.2.2.2.1, mL.2.2.2.2.2.1, mL.2.2.2.2.2.2.1, mL.2.2.2.2.2.2.2.1, mL.2.2.2.2.2.2.2.2.1, mL.2.2.2.2.2.2.2.2.2), iaW g (b 1) 110 s]) C ixX10 tyX10 tyX10_ok nmX10 rfl 6 (by decide) wd_1498 (fun _ h => h) rfl (tyX10_ok 6 (by decide)) rfl rfl 0 rfl 0 (mdO_at0 g b _) (Nat.le_of_ble_eq_true rfl) rfl rfl dX10_candleByWax_94 ?_
        refine x_iconst (v := 0) C dX10_candleByWax_97 (by decide) ?_
        exact x_iret C hr ⟨by cases hf; rfl, by cases hf; rfl⟩ dX10_candleByWax_98
      · have hf := x_f h2 hf
        refine x_iconst (v := 0) C dX10_candleByWax_12 (by decide) ?_
        refine x_istore_n (lv' := [(3, .int (0 : Int32)), (0, .ref (b 0)), (1, .int x1), (2, .int x2)]) C dX10_candleByWax_13 rfl (by decide) rfl ?_
        refine x_iconst (v := 0) C dX10_candleByWax_14 (by decide) ?_
        refine x_istore (lv' := [(4, .int (0 : Int32)), (3, .int (0 : Int32)), (0, .ref (b 0)), (1, .int x1), (2, .int x2)]) C dX10_candleByWax_15 (by decide) rfl ?_
        obtain ⟨u3, hu3, hf⟩ := x_b hf
        refine x_locals (lv' := [(0, .ref (b 0)), (1, .int x1), (2, .int x2), (3, .int (0 : Int32)), (4, .int (0 : Int32))]) [2, 3, 4, 1, 0] rfl ?_
        refine hL17 xFuel mL x1 x2 (0 : Int32) (0 : Int32) u3 hu3 ?_
        refine x_iload_n C dX10_candleByWax_74 rfl 3 rfl ?_
        refine x_iload_n C dX10_candleByWax_75 rfl 1 rfl ?_
        refine x_icmp_ne (tgt := 86) C dX10_candleByWax_76 (by decide) (fun h4 => ?_) (fun h4 => ?_)
        · have hf := x_f h4 hf
          refine x_iinc (v := x2 + 1) (lv' := [(2, .int (x2 + 1)), (0, .ref (b 0)), (1, .int x1), (3, .int u3.2)]) C dX10_candleByWax_86 2 rfl rfl (by decide) rfl ?_
          refine x_goto (tgt := 2) C dX10_candleByWax_89 (by decide) ?_
          refine x_locals (lv' := [(0, .ref (b 0)), (1, .int x1), (2, .int (x2 + 1))]) [1, 2, 0] rfl ?_
          exact ih u3.1 x1 (x2 + 1) hf
        · have hf := x_t h4 hf
          refine x_aload_n C dX10_candleByWax_79 rfl 0 rfl ?_
          refine x_iconst (v := 0) C dX10_candleByWax_80 (by decide) ?_
          refine x_put (ci := 11) (ty := .int) (v := .int (0 : Int32)) (b := mdO g b u3.1) (b' := mdO g b (u3.1.1, (0 : Int32), u3.1.2.2.1, u3.1.2.2.2.1, u3.1.2.2.2.2.1, u3.1.2.2.2.2.2.1, u3.1.2.2.2.2.2.2.1, u3.1.2.2.2.2.2.2.2.1, u3.1.2.2.2.2.2.2.2.2.1, u3.1.2.2.2.2.2.2.2.2.2)) (wss' := [mdO g b (u3.1.1, (0 : Int32), u3.1.2.2.1, u3.1.2.2.2.1, u3.1.2.2.2.2.1, u3.1.2.2.2.2.2.1, u3.1.2.2.2.2.2.2.1, u3.1.2.2.2.2.2.2.2.1, u3.1.2.2.2.2.2.2.2.2.1, u3.1.2.2.2.2.2.2.2.2.2), iaW g (b 1) 110 s]) C ixX10 tyX10 tyX10_ok nmX10 rfl 6 (by decide) wd_1498 (fun _ h => h) rfl (tyX10_ok 6 (by decide)) rfl rfl 0 rfl 0 (mdO_at0 g b _) (Nat.le_of_ble_eq_true rfl) rfl rfl dX10_candleByWax_81 ?_
          refine x_iload_n C dX10_candleByWax_84 rfl 2 rfl ?_
          exact x_iret C hr ⟨by cases hf; rfl, by cases hf; rfl⟩ dX10_candleByWax_85
  refine x_iconst (v := 0) C dX10_candleByWax_0 (by decide) ?_
  refine x_istore_n (lv' := [(2, .int (0 : Int32)), (0, .ref (b 0)), (1, .int x1)]) C dX10_candleByWax_1 rfl (by decide) rfl ?_
  refine x_locals (lv' := [(0, .ref (b 0)), (1, .int x1), (2, .int (0 : Int32))]) [1, 2, 0] rfl ?_
  exact hL2 xFuel m x1 (0 : Int32) hf
theorem dX10_events_0 : decode cX10_events 0 = .ok (.aload_n 0, 1) := by decide +kernel
theorem dX10_events_1 : decode cX10_events 1 = .ok (.iconst 0, 1) := by decide +kernel
theorem dX10_events_2 : decode cX10_events 2 = .ok (.putfield 41, 3) := by decide +kernel
theorem dX10_events_5 : decode cX10_events 5 = .ok (.aload_n 0, 1) := by decide +kernel
theorem dX10_events_6 : decode cX10_events 6 = .ok (.getfield 9, 3) := by decide +kernel
theorem dX10_events_9 : decode cX10_events 9 = .ok (.iconst 4, 1) := by decide +kernel
theorem dX10_events_10 : decode cX10_events 10 = .ok (.iaload, 1) := by decide +kernel
theorem dX10_events_11 : decode cX10_events 11 = .ok (.ireturn, 1) := by decide +kernel
set_option maxHeartbeats 4000000 in
set_option maxRecDepth 100000 in
theorem c_X10_events (g : xG) (l : Launch) (b : Nat → Nat) (m : MdT) (s : (Nat → Int32))  {u : Int32 × MdT} (hf : f_X10_events m s = some u) : ConD g l yX10_events cX10_events 1 (some .int) ({ frames := 0, cells := 0, slots := 0, locals := 0 } : Room) [.ref (b 0)] [mdO g b m, iaW g (b 1) 110 s] (some (.int u.1)) [mdO g b u.2, iaW g (b 1) 110 s] := by
  unfold f_X10_events at hf
  refine Con_of [mdO g b m, iaW g (b 1) 110 s] [(0, .ref (b 0))] rfl rfl (by decide) (Nat.le_of_ble_eq_true rfl) ?_
  intro pW eW sW mW argsW belowW methW c9 C hnm hr
  have C : CX g RX10 cX10_events 1 _ pW sW mW argsW methW c9 := C
  refine x_aload_n C dX10_events_0 rfl 0 rfl ?_
  refine x_iconst (v := 0) C dX10_events_1 (by decide) ?_
  refine x_put (ci := 11) (ty := .int) (v := .int (0 : Int32)) (b := mdO g b m) (b' := mdO g b (m.1, (0 : Int32), m.2.2.1, m.2.2.2.1, m.2.2.2.2.1, m.2.2.2.2.2.1, m.2.2.2.2.2.2.1, m.2.2.2.2.2.2.2.1, m.2.2.2.2.2.2.2.2.1, m.2.2.2.2.2.2.2.2.2)) (wss' := [mdO g b (m.1, (0 : Int32), m.2.2.1, m.2.2.2.1, m.2.2.2.2.1, m.2.2.2.2.2.1, m.2.2.2.2.2.2.1, m.2.2.2.2.2.2.2.1, m.2.2.2.2.2.2.2.2.1, m.2.2.2.2.2.2.2.2.2), iaW g (b 1) 110 s]) C ixX10 tyX10 tyX10_ok nmX10 rfl 6 (by decide) wd_1498 (fun _ h => h) rfl (tyX10_ok 6 (by decide)) rfl rfl 0 rfl 0 (mdO_at0 g b _) (Nat.le_of_ble_eq_true rfl) rfl rfl dX10_events_2 ?_
  refine x_aload_n C dX10_events_5 rfl 0 rfl ?_
  refine x_get (ci := 11) (v := .ref (b 1)) (b := mdO g b (m.1, (0 : Int32), m.2.2.1, m.2.2.2.1, m.2.2.2.2.1, m.2.2.2.2.2.1, m.2.2.2.2.2.2.1, m.2.2.2.2.2.2.2.1, m.2.2.2.2.2.2.2.2.1, m.2.2.2.2.2.2.2.2.2)) C ixX10 rfl 0 (by decide) wd_1492 (fun _ h => h) 0 rfl 0 (mdO_at0 g b _) rfl dX10_events_6 ?_
  refine x_iconst (v := 4) C dX10_events_9 (by decide) ?_
  obtain ⟨h1, hf⟩ := x_n hf
  refine x_iald (b := iaW g (b 1) 110 s) C 1 rfl 0 (iaW_at0 g (b 1) 110 _) h1 dX10_events_10 ?_
  exact x_iret C hr ⟨by cases hf; rfl, by cases hf; rfl⟩ dX10_events_11
theorem dX10_eventMinute_0 : decode cX10_eventMinute 0 = .ok (.aload_n 0, 1) := by decide +kernel
theorem dX10_eventMinute_1 : decode cX10_eventMinute 1 = .ok (.aload_n 0, 1) := by decide +kernel
theorem dX10_eventMinute_2 : decode cX10_eventMinute 2 = .ok (.iload_n 1, 1) := by decide +kernel
theorem dX10_eventMinute_3 : decode cX10_eventMinute 3 = .ok (.invokevirtual 107, 3) := by decide +kernel
theorem dX10_eventMinute_6 : decode cX10_eventMinute 6 = .ok (.ifCond .ne 7, 3) := by decide +kernel
theorem dX10_eventMinute_9 : decode cX10_eventMinute 9 = .ok (.iconst 1, 1) := by decide +kernel
theorem dX10_eventMinute_10 : decode cX10_eventMinute 10 = .ok (.goto 4, 3) := by decide +kernel
theorem dX10_eventMinute_13 : decode cX10_eventMinute 13 = .ok (.iconst 0, 1) := by decide +kernel
theorem dX10_eventMinute_14 : decode cX10_eventMinute 14 = .ok (.iconst 1, 1) := by decide +kernel
theorem dX10_eventMinute_15 : decode cX10_eventMinute 15 = .ok (.invokevirtual 63, 3) := by decide +kernel
theorem dX10_eventMinute_18 : decode cX10_eventMinute 18 = .ok (.ifCond .eq 7, 3) := by decide +kernel
theorem dX10_eventMinute_21 : decode cX10_eventMinute 21 = .ok (.iconst 0, 1) := by decide +kernel
theorem dX10_eventMinute_22 : decode cX10_eventMinute 22 = .ok (.goto 9, 3) := by decide +kernel
theorem dX10_eventMinute_25 : decode cX10_eventMinute 25 = .ok (.aload_n 0, 1) := by decide +kernel
theorem dX10_eventMinute_26 : decode cX10_eventMinute 26 = .ok (.iload_n 1, 1) := by decide +kernel
theorem dX10_eventMinute_27 : decode cX10_eventMinute 27 = .ok (.iconst 0, 1) := by decide +kernel
theorem dX10_eventMinute_28 : decode cX10_eventMinute 28 = .ok (.invokevirtual 101, 3) := by decide +kernel
theorem dX10_eventMinute_31 : decode cX10_eventMinute 31 = .ok (.ireturn, 1) := by decide +kernel
set_option maxHeartbeats 4000000 in
set_option maxRecDepth 100000 in
theorem c_X10_eventMinute (g : xG) (l : Launch) (b : Nat → Nat) (m : MdT) (s : (Nat → Int32)) (x1 : Int32) {u : Int32 × MdT} (hf : f_X10_eventMinute m s x1 = some u) : ConD g l yX10_eventMinute cX10_eventMinute 2 (some .int) ({ frames := 2, cells := 0, slots := 0, locals := 43 } : Room) [.ref (b 0), .int x1] [mdO g b m, iaW g (b 1) 110 s] (some (.int u.1)) [mdO g b u.2, iaW g (b 1) 110 s] := by
  unfold f_X10_eventMinute at hf
  refine Con_of [mdO g b m, iaW g (b 1) 110 s] [(0, .ref (b 0)), (1, .int x1)] rfl rfl (by decide) (Nat.le_of_ble_eq_true rfl) ?_
  intro pW eW sW mW argsW belowW methW c9 C hnm hr
  have C : CX g RX10 cX10_eventMinute 2 _ pW sW mW argsW methW c9 := C
  have hL14 : ∀ (mL : MdT) (x1 : Int32) (y0 : Int32), f_X10_eventMinute_14 mL s x1 y0 = some u → VW g (va_A ([mdO g b m, iaW g (b 1) 110 s] : List va_W).flatten sW.heap.size) 2 pW l eW ({ frames := 2, cells := 0, slots := 0, locals := 43 } : Room) sW mW argsW belowW methW c9 0 0 (MQ belowW (xQc g ([mdO g b m, iaW g (b 1) 110 s] : List va_W).flatten sW.heap.size (fun v9 w9 => v9 = some (.int u.1) ∧ w9 = ([mdO g b u.2, iaW g (b 1) 110 s] : List va_W).flatten)) argsW sW 0 0 (va_A ([mdO g b m, iaW g (b 1) 110 s] : List va_W).flatten sW.heap.size)) [mdO g b mL, iaW g (b 1) 110 s] [(0, .ref (b 0)), (1, .int x1)] 14 [.int y0, .ref (b 0)] := by
    intro mL x1 y0 hf
    unfold f_X10_eventMinute_14 at hf
    refine x_iconst (v := 1) C dX10_eventMinute_14 (by decide) ?_
    obtain ⟨u1, hu1, hf⟩ := x_b hf
    refine x_callV (n := 2) (As := [.int y0, .int (1 : Int32)]) (rest := []) C (c_X10_isThrown g l b mL y0 (1 : Int32) hu1) ⟨⟨wd_1575, wd_1572, wd_78⟩, ⟨by decide, by decide, by decide⟩, rfl, rfl, Nat.le_of_ble_eq_true rfl, Nat.le_of_ble_eq_true rfl⟩ wd_1574 wd_26 ⟨0, 11, _, _, rfl, rfl, rfl⟩ [iaW g (b 1) 110 s] (x_pickD [0, 1] 2 rfl rfl rfl) rfl rfl (Nat.le_of_ble_eq_true rfl) ⟨Nat.le_of_ble_eq_true rfl, Nat.le_of_ble_eq_true rfl⟩ dX10_eventMinute_15 (x_goD (wss2 := [mdO g b u1.2, iaW g (b 1) 110 s]) (stk2 := [.int u1.1]) rfl rfl ?_)
    refine x_if_eq (tgt := 25) C dX10_eventMinute_18 (by decide) (fun h2 => ?_) (fun h2 => ?_)
    · have hf := x_t h2 hf
      refine x_aload_n C dX10_eventMinute_25 rfl 0 rfl ?_
      refine x_iload_n C dX10_eventMinute_26 rfl 1 rfl ?_
      refine x_iconst (v := 0) C dX10_eventMinute_27 (by decide) ?_
      obtain ⟨u3, hu3, hf⟩ := x_b hf
      refine x_callV (n := 2) (As := [.int x1, .int (0 : Int32)]) (rest := []) C (c_X10_ofEvent g l b u1.2 s x1 (0 : Int32) hu3) ⟨⟨wd_1639, wd_1636, wd_78⟩, ⟨by decide, by decide, by decide⟩, rfl, rfl, Nat.le_of_ble_eq_true rfl, Nat.le_of_ble_eq_true rfl⟩ wd_1638 wd_37 ⟨0, 11, _, _, rfl, rfl, rfl⟩ [] (x_pickD [0, 1] 2 rfl rfl rfl) rfl rfl (Nat.le_of_ble_eq_true rfl) ⟨Nat.le_of_ble_eq_true rfl, Nat.le_of_ble_eq_true rfl⟩ dX10_eventMinute_28 (x_goD (wss2 := [mdO g b u1.2, iaW g (b 1) 110 s]) (stk2 := [.int u3]) rfl rfl ?_)
      exact x_iret C hr ⟨by cases hf; rfl, by cases hf; rfl⟩ dX10_eventMinute_31
    · have hf := x_f h2 hf
      refine x_iconst (v := 0) C dX10_eventMinute_21 (by decide) ?_
      refine x_goto (tgt := 31) C dX10_eventMinute_22 (by decide) ?_
      exact x_iret C hr ⟨by cases hf; rfl, by cases hf; rfl⟩ dX10_eventMinute_31
  refine x_aload_n C dX10_eventMinute_0 rfl 0 rfl ?_
  refine x_aload_n C dX10_eventMinute_1 rfl 0 rfl ?_
  refine x_iload_n C dX10_eventMinute_2 rfl 1 rfl ?_
  obtain ⟨u1, hu1, hf⟩ := x_b hf
  refine x_callV (n := 1) (As := [.int x1]) (rest := [.ref (b 0)]) C (c_X10_isEvent g l b m s x1 hu1) ⟨⟨wd_1651, wd_1648, wd_78⟩, ⟨by decide, by decide, by decide⟩, rfl, rfl, Nat.le_of_ble_eq_true rfl, Nat.le_of_ble_eq_true rfl⟩ wd_1650 wd_39 ⟨0, 11, _, _, rfl, rfl, rfl⟩ [] (x_pickD [0, 1] 2 rfl rfl rfl) rfl rfl (Nat.le_of_ble_eq_true rfl) ⟨Nat.le_of_ble_eq_true rfl, Nat.le_of_ble_eq_true rfl⟩ dX10_eventMinute_3 (x_goD (wss2 := [mdO g b m, iaW g (b 1) 110 s]) (stk2 := [.int u1, .ref (b 0)]) rfl rfl ?_)
  refine x_if_ne (tgt := 13) C dX10_eventMinute_6 (by decide) (fun h2 => ?_) (fun h2 => ?_)
  · have hf := x_f h2 hf
    refine x_iconst (v := 0) C dX10_eventMinute_13 (by decide) ?_
    exact hL14 m x1 (0 : Int32) hf
  · have hf := x_t h2 hf
    refine x_iconst (v := 1) C dX10_eventMinute_9 (by decide) ?_
    refine x_goto (tgt := 14) C dX10_eventMinute_10 (by decide) ?_
    exact hL14 m x1 (1 : Int32) hf
theorem dX10_eventCandle_0 : decode cX10_eventCandle 0 = .ok (.aload_n 0, 1) := by decide +kernel
theorem dX10_eventCandle_1 : decode cX10_eventCandle 1 = .ok (.aload_n 0, 1) := by decide +kernel
theorem dX10_eventCandle_2 : decode cX10_eventCandle 2 = .ok (.iload_n 1, 1) := by decide +kernel
theorem dX10_eventCandle_3 : decode cX10_eventCandle 3 = .ok (.invokevirtual 107, 3) := by decide +kernel
theorem dX10_eventCandle_6 : decode cX10_eventCandle 6 = .ok (.ifCond .ne 7, 3) := by decide +kernel
theorem dX10_eventCandle_9 : decode cX10_eventCandle 9 = .ok (.iconst 1, 1) := by decide +kernel
theorem dX10_eventCandle_10 : decode cX10_eventCandle 10 = .ok (.goto 4, 3) := by decide +kernel
theorem dX10_eventCandle_13 : decode cX10_eventCandle 13 = .ok (.iconst 0, 1) := by decide +kernel
theorem dX10_eventCandle_14 : decode cX10_eventCandle 14 = .ok (.iconst 1, 1) := by decide +kernel
theorem dX10_eventCandle_15 : decode cX10_eventCandle 15 = .ok (.invokevirtual 63, 3) := by decide +kernel
theorem dX10_eventCandle_18 : decode cX10_eventCandle 18 = .ok (.ifCond .eq 7, 3) := by decide +kernel
theorem dX10_eventCandle_21 : decode cX10_eventCandle 21 = .ok (.iconst 0, 1) := by decide +kernel
theorem dX10_eventCandle_22 : decode cX10_eventCandle 22 = .ok (.goto 9, 3) := by decide +kernel
theorem dX10_eventCandle_25 : decode cX10_eventCandle 25 = .ok (.aload_n 0, 1) := by decide +kernel
theorem dX10_eventCandle_26 : decode cX10_eventCandle 26 = .ok (.iload_n 1, 1) := by decide +kernel
theorem dX10_eventCandle_27 : decode cX10_eventCandle 27 = .ok (.iconst 1, 1) := by decide +kernel
theorem dX10_eventCandle_28 : decode cX10_eventCandle 28 = .ok (.invokevirtual 101, 3) := by decide +kernel
theorem dX10_eventCandle_31 : decode cX10_eventCandle 31 = .ok (.ireturn, 1) := by decide +kernel
set_option maxHeartbeats 4000000 in
set_option maxRecDepth 100000 in
theorem c_X10_eventCandle (g : xG) (l : Launch) (b : Nat → Nat) (m : MdT) (s : (Nat → Int32)) (x1 : Int32) {u : Int32 × MdT} (hf : f_X10_eventCandle m s x1 = some u) : ConD g l yX10_eventCandle cX10_eventCandle 2 (some .int) ({ frames := 2, cells := 0, slots := 0, locals := 43 } : Room) [.ref (b 0), .int x1] [mdO g b m, iaW g (b 1) 110 s] (some (.int u.1)) [mdO g b u.2, iaW g (b 1) 110 s] := by
  unfold f_X10_eventCandle at hf
  refine Con_of [mdO g b m, iaW g (b 1) 110 s] [(0, .ref (b 0)), (1, .int x1)] rfl rfl (by decide) (Nat.le_of_ble_eq_true rfl) ?_
  intro pW eW sW mW argsW belowW methW c9 C hnm hr
  have C : CX g RX10 cX10_eventCandle 2 _ pW sW mW argsW methW c9 := C
  have hL14 : ∀ (mL : MdT) (x1 : Int32) (y0 : Int32), f_X10_eventCandle_14 mL s x1 y0 = some u → VW g (va_A ([mdO g b m, iaW g (b 1) 110 s] : List va_W).flatten sW.heap.size) 2 pW l eW ({ frames := 2, cells := 0, slots := 0, locals := 43 } : Room) sW mW argsW belowW methW c9 0 0 (MQ belowW (xQc g ([mdO g b m, iaW g (b 1) 110 s] : List va_W).flatten sW.heap.size (fun v9 w9 => v9 = some (.int u.1) ∧ w9 = ([mdO g b u.2, iaW g (b 1) 110 s] : List va_W).flatten)) argsW sW 0 0 (va_A ([mdO g b m, iaW g (b 1) 110 s] : List va_W).flatten sW.heap.size)) [mdO g b mL, iaW g (b 1) 110 s] [(0, .ref (b 0)), (1, .int x1)] 14 [.int y0, .ref (b 0)] := by
    intro mL x1 y0 hf
    unfold f_X10_eventCandle_14 at hf
    refine x_iconst (v := 1) C dX10_eventCandle_14 (by decide) ?_
    obtain ⟨u1, hu1, hf⟩ := x_b hf
    refine x_callV (n := 2) (As := [.int y0, .int (1 : Int32)]) (rest := []) C (c_X10_isThrown g l b mL y0 (1 : Int32) hu1) ⟨⟨wd_1575, wd_1572, wd_78⟩, ⟨by decide, by decide, by decide⟩, rfl, rfl, Nat.le_of_ble_eq_true rfl, Nat.le_of_ble_eq_true rfl⟩ wd_1574 wd_26 ⟨0, 11, _, _, rfl, rfl, rfl⟩ [iaW g (b 1) 110 s] (x_pickD [0, 1] 2 rfl rfl rfl) rfl rfl (Nat.le_of_ble_eq_true rfl) ⟨Nat.le_of_ble_eq_true rfl, Nat.le_of_ble_eq_true rfl⟩ dX10_eventCandle_15 (x_goD (wss2 := [mdO g b u1.2, iaW g (b 1) 110 s]) (stk2 := [.int u1.1]) rfl rfl ?_)
    refine x_if_eq (tgt := 25) C dX10_eventCandle_18 (by decide) (fun h2 => ?_) (fun h2 => ?_)
    · have hf := x_t h2 hf
      refine x_aload_n C dX10_eventCandle_25 rfl 0 rfl ?_
      refine x_iload_n C dX10_eventCandle_26 rfl 1 rfl ?_
      refine x_iconst (v := 1) C dX10_eventCandle_27 (by decide) ?_
      obtain ⟨u3, hu3, hf⟩ := x_b hf
      refine x_callV (n := 2) (As := [.int x1, .int (1 : Int32)]) (rest := []) C (c_X10_ofEvent g l b u1.2 s x1 (1 : Int32) hu3) ⟨⟨wd_1639, wd_1636, wd_78⟩, ⟨by decide, by decide, by decide⟩, rfl, rfl, Nat.le_of_ble_eq_true rfl, Nat.le_of_ble_eq_true rfl⟩ wd_1638 wd_37 ⟨0, 11, _, _, rfl, rfl, rfl⟩ [] (x_pickD [0, 1] 2 rfl rfl rfl) rfl rfl (Nat.le_of_ble_eq_true rfl) ⟨Nat.le_of_ble_eq_true rfl, Nat.le_of_ble_eq_true rfl⟩ dX10_eventCandle_28 (x_goD (wss2 := [mdO g b u1.2, iaW g (b 1) 110 s]) (stk2 := [.int u3]) rfl rfl ?_)
      exact x_iret C hr ⟨by cases hf; rfl, by cases hf; rfl⟩ dX10_eventCandle_31
    · have hf := x_f h2 hf
      refine x_iconst (v := 0) C dX10_eventCandle_21 (by decide) ?_
      refine x_goto (tgt := 31) C dX10_eventCandle_22 (by decide) ?_
      exact x_iret C hr ⟨by cases hf; rfl, by cases hf; rfl⟩ dX10_eventCandle_31
  refine x_aload_n C dX10_eventCandle_0 rfl 0 rfl ?_
  refine x_aload_n C dX10_eventCandle_1 rfl 0 rfl ?_
  refine x_iload_n C dX10_eventCandle_2 rfl 1 rfl ?_
  obtain ⟨u1, hu1, hf⟩ := x_b hf
  refine x_callV (n := 1) (As := [.int x1]) (rest := [.ref (b 0)]) C (c_X10_isEvent g l b m s x1 hu1) ⟨⟨wd_1651, wd_1648, wd_78⟩, ⟨by decide, by decide, by decide⟩, rfl, rfl, Nat.le_of_ble_eq_true rfl, Nat.le_of_ble_eq_true rfl⟩ wd_1650 wd_39 ⟨0, 11, _, _, rfl, rfl, rfl⟩ [] (x_pickD [0, 1] 2 rfl rfl rfl) rfl rfl (Nat.le_of_ble_eq_true rfl) ⟨Nat.le_of_ble_eq_true rfl, Nat.le_of_ble_eq_true rfl⟩ dX10_eventCandle_3 (x_goD (wss2 := [mdO g b m, iaW g (b 1) 110 s]) (stk2 := [.int u1, .ref (b 0)]) rfl rfl ?_)
  refine x_if_ne (tgt := 13) C dX10_eventCandle_6 (by decide) (fun h2 => ?_) (fun h2 => ?_)
  · have hf := x_f h2 hf
    refine x_iconst (v := 0) C dX10_eventCandle_13 (by decide) ?_
    exact hL14 m x1 (0 : Int32) hf
  · have hf := x_t h2 hf
    refine x_iconst (v := 1) C dX10_eventCandle_9 (by decide) ?_
    refine x_goto (tgt := 14) C dX10_eventCandle_10 (by decide) ?_
    exact hL14 m x1 (1 : Int32) hf
theorem dX10_isLighting_0 : decode cX10_isLighting 0 = .ok (.aload_n 0, 1) := by decide +kernel
theorem dX10_isLighting_1 : decode cX10_isLighting 1 = .ok (.aload_n 0, 1) := by decide +kernel
theorem dX10_isLighting_2 : decode cX10_isLighting 2 = .ok (.iload_n 1, 1) := by decide +kernel
theorem dX10_isLighting_3 : decode cX10_isLighting 3 = .ok (.invokevirtual 107, 3) := by decide +kernel
theorem dX10_isLighting_6 : decode cX10_isLighting 6 = .ok (.ifCond .ne 7, 3) := by decide +kernel
theorem dX10_isLighting_9 : decode cX10_isLighting 9 = .ok (.iconst 1, 1) := by decide +kernel
theorem dX10_isLighting_10 : decode cX10_isLighting 10 = .ok (.goto 4, 3) := by decide +kernel
theorem dX10_isLighting_13 : decode cX10_isLighting 13 = .ok (.iconst 0, 1) := by decide +kernel
theorem dX10_isLighting_14 : decode cX10_isLighting 14 = .ok (.iconst 1, 1) := by decide +kernel
theorem dX10_isLighting_15 : decode cX10_isLighting 15 = .ok (.invokevirtual 63, 3) := by decide +kernel
theorem dX10_isLighting_18 : decode cX10_isLighting 18 = .ok (.ifCond .ne 17, 3) := by decide +kernel
theorem dX10_isLighting_21 : decode cX10_isLighting 21 = .ok (.aload_n 0, 1) := by decide +kernel
theorem dX10_isLighting_22 : decode cX10_isLighting 22 = .ok (.iload_n 1, 1) := by decide +kernel
theorem dX10_isLighting_23 : decode cX10_isLighting 23 = .ok (.iconst 2, 1) := by decide +kernel
theorem dX10_isLighting_24 : decode cX10_isLighting 24 = .ok (.invokevirtual 101, 3) := by decide +kernel
theorem dX10_isLighting_27 : decode cX10_isLighting 27 = .ok (.iconst 1, 1) := by decide +kernel
theorem dX10_isLighting_28 : decode cX10_isLighting 28 = .ok (.if_icmp .ne 7, 3) := by decide +kernel
theorem dX10_isLighting_31 : decode cX10_isLighting 31 = .ok (.iconst 1, 1) := by decide +kernel
theorem dX10_isLighting_32 : decode cX10_isLighting 32 = .ok (.goto 4, 3) := by decide +kernel
theorem dX10_isLighting_35 : decode cX10_isLighting 35 = .ok (.iconst 0, 1) := by decide +kernel
theorem dX10_isLighting_36 : decode cX10_isLighting 36 = .ok (.ireturn, 1) := by decide +kernel
set_option maxHeartbeats 4000000 in
set_option maxRecDepth 100000 in
theorem c_X10_isLighting (g : xG) (l : Launch) (b : Nat → Nat) (m : MdT) (s : (Nat → Int32)) (x1 : Int32) {u : Int32 × MdT} (hf : f_X10_isLighting m s x1 = some u) : ConD g l yX10_isLighting cX10_isLighting 2 (some .boolean) ({ frames := 2, cells := 0, slots := 0, locals := 43 } : Room) [.ref (b 0), .int x1] [mdO g b m, iaW g (b 1) 110 s] (some (.int u.1)) [mdO g b u.2, iaW g (b 1) 110 s] := by
  unfold f_X10_isLighting at hf
  refine Con_of [mdO g b m, iaW g (b 1) 110 s] [(0, .ref (b 0)), (1, .int x1)] rfl rfl (by decide) (Nat.le_of_ble_eq_true rfl) ?_
  intro pW eW sW mW argsW belowW methW c9 C hnm hr
  have C : CX g RX10 cX10_isLighting 2 _ pW sW mW argsW methW c9 := C
  have hL14 : ∀ (mL : MdT) (x1 : Int32) (y0 : Int32), f_X10_isLighting_14 mL s x1 y0 = some u → VW g (va_A ([mdO g b m, iaW g (b 1) 110 s] : List va_W).flatten sW.heap.size) 2 pW l eW ({ frames := 2, cells := 0, slots := 0, locals := 43 } : Room) sW mW argsW belowW methW c9 0 0 (MQ belowW (xQc g ([mdO g b m, iaW g (b 1) 110 s] : List va_W).flatten sW.heap.size (fun v9 w9 => v9 = some (.int u.1) ∧ w9 = ([mdO g b u.2, iaW g (b 1) 110 s] : List va_W).flatten)) argsW sW 0 0 (va_A ([mdO g b m, iaW g (b 1) 110 s] : List va_W).flatten sW.heap.size)) [mdO g b mL, iaW g (b 1) 110 s] [(0, .ref (b 0)), (1, .int x1)] 14 [.int y0, .ref (b 0)] := by
    intro mL x1 y0 hf
    unfold f_X10_isLighting_14 at hf
    refine x_iconst (v := 1) C dX10_isLighting_14 (by decide) ?_
    obtain ⟨u1, hu1, hf⟩ := x_b hf
    refine x_callV (n := 2) (As := [.int y0, .int (1 : Int32)]) (rest := []) C (c_X10_isThrown g l b mL y0 (1 : Int32) hu1) ⟨⟨wd_1575, wd_1572, wd_78⟩, ⟨by decide, by decide, by decide⟩, rfl, rfl, Nat.le_of_ble_eq_true rfl, Nat.le_of_ble_eq_true rfl⟩ wd_1574 wd_26 ⟨0, 11, _, _, rfl, rfl, rfl⟩ [iaW g (b 1) 110 s] (x_pickD [0, 1] 2 rfl rfl rfl) rfl rfl (Nat.le_of_ble_eq_true rfl) ⟨Nat.le_of_ble_eq_true rfl, Nat.le_of_ble_eq_true rfl⟩ dX10_isLighting_15 (x_goD (wss2 := [mdO g b u1.2, iaW g (b 1) 110 s]) (stk2 := [.int u1.1]) rfl rfl ?_)
    refine x_if_ne (tgt := 35) C dX10_isLighting_18 (by decide) (fun h2 => ?_) (fun h2 => ?_)
    · have hf := x_f h2 hf
      refine x_iconst (v := 0) C dX10_isLighting_35 (by decide) ?_
      exact x_zret C hr rfl ⟨by cases hf; rfl, by cases hf; rfl⟩ dX10_isLighting_36
    · have hf := x_t h2 hf
      refine x_aload_n C dX10_isLighting_21 rfl 0 rfl ?_
      refine x_iload_n C dX10_isLighting_22 rfl 1 rfl ?_
      refine x_iconst (v := 2) C dX10_isLighting_23 (by decide) ?_
      obtain ⟨u3, hu3, hf⟩ := x_b hf
      refine x_callV (n := 2) (As := [.int x1, .int (2 : Int32)]) (rest := []) C (c_X10_ofEvent g l b u1.2 s x1 (2 : Int32) hu3) ⟨⟨wd_1639, wd_1636, wd_78⟩, ⟨by decide, by decide, by decide⟩, rfl, rfl, Nat.le_of_ble_eq_true rfl, Nat.le_of_ble_eq_true rfl⟩ wd_1638 wd_37 ⟨0, 11, _, _, rfl, rfl, rfl⟩ [] (x_pickD [0, 1] 2 rfl rfl rfl) rfl rfl (Nat.le_of_ble_eq_true rfl) ⟨Nat.le_of_ble_eq_true rfl, Nat.le_of_ble_eq_true rfl⟩ dX10_isLighting_24 (x_goD (wss2 := [mdO g b u1.2, iaW g (b 1) 110 s]) (stk2 := [.int u3]) rfl rfl ?_)
      refine x_iconst (v := 1) C dX10_isLighting_27 (by decide) ?_
      refine x_icmp_ne (tgt := 35) C dX10_isLighting_28 (by decide) (fun h4 => ?_) (fun h4 => ?_)
      · have hf := x_f h4 hf
        refine x_iconst (v := 0) C dX10_isLighting_35 (by decide) ?_
        exact x_zret C hr rfl ⟨by cases hf; rfl, by cases hf; rfl⟩ dX10_isLighting_36
      · have hf := x_t h4 hf
        refine x_iconst (v := 1) C dX10_isLighting_31 (by decide) ?_
        refine x_goto (tgt := 36) C dX10_isLighting_32 (by decide) ?_
        exact x_zret C hr rfl ⟨by cases hf; rfl, by cases hf; rfl⟩ dX10_isLighting_36
  refine x_aload_n C dX10_isLighting_0 rfl 0 rfl ?_
  refine x_aload_n C dX10_isLighting_1 rfl 0 rfl ?_
  refine x_iload_n C dX10_isLighting_2 rfl 1 rfl ?_
  obtain ⟨u1, hu1, hf⟩ := x_b hf
  refine x_callV (n := 1) (As := [.int x1]) (rest := [.ref (b 0)]) C (c_X10_isEvent g l b m s x1 hu1) ⟨⟨wd_1651, wd_1648, wd_78⟩, ⟨by decide, by decide, by decide⟩, rfl, rfl, Nat.le_of_ble_eq_true rfl, Nat.le_of_ble_eq_true rfl⟩ wd_1650 wd_39 ⟨0, 11, _, _, rfl, rfl, rfl⟩ [] (x_pickD [0, 1] 2 rfl rfl rfl) rfl rfl (Nat.le_of_ble_eq_true rfl) ⟨Nat.le_of_ble_eq_true rfl, Nat.le_of_ble_eq_true rfl⟩ dX10_isLighting_3 (x_goD (wss2 := [mdO g b m, iaW g (b 1) 110 s]) (stk2 := [.int u1, .ref (b 0)]) rfl rfl ?_)
  refine x_if_ne (tgt := 13) C dX10_isLighting_6 (by decide) (fun h2 => ?_) (fun h2 => ?_)
  · have hf := x_f h2 hf
    refine x_iconst (v := 0) C dX10_isLighting_13 (by decide) ?_
    exact hL14 m x1 (0 : Int32) hf
  · have hf := x_t h2 hf
    refine x_iconst (v := 1) C dX10_isLighting_9 (by decide) ?_
    refine x_goto (tgt := 14) C dX10_isLighting_10 (by decide) ?_
    exact hL14 m x1 (1 : Int32) hf
theorem dX10_failedEvents_0 : decode cX10_failedEvents 0 = .ok (.aload_n 0, 1) := by decide +kernel
theorem dX10_failedEvents_1 : decode cX10_failedEvents 1 = .ok (.iconst 0, 1) := by decide +kernel
theorem dX10_failedEvents_2 : decode cX10_failedEvents 2 = .ok (.putfield 41, 3) := by decide +kernel
theorem dX10_failedEvents_5 : decode cX10_failedEvents 5 = .ok (.aload_n 0, 1) := by decide +kernel
theorem dX10_failedEvents_6 : decode cX10_failedEvents 6 = .ok (.getfield 9, 3) := by decide +kernel
theorem dX10_failedEvents_9 : decode cX10_failedEvents 9 = .ok (.iconst 5, 1) := by decide +kernel
theorem dX10_failedEvents_10 : decode cX10_failedEvents 10 = .ok (.iaload, 1) := by decide +kernel
theorem dX10_failedEvents_11 : decode cX10_failedEvents 11 = .ok (.ireturn, 1) := by decide +kernel
set_option maxHeartbeats 4000000 in
set_option maxRecDepth 100000 in
theorem c_X10_failedEvents (g : xG) (l : Launch) (b : Nat → Nat) (m : MdT) (s : (Nat → Int32))  {u : Int32 × MdT} (hf : f_X10_failedEvents m s = some u) : ConD g l yX10_failedEvents cX10_failedEvents 1 (some .int) ({ frames := 0, cells := 0, slots := 0, locals := 0 } : Room) [.ref (b 0)] [mdO g b m, iaW g (b 1) 110 s] (some (.int u.1)) [mdO g b u.2, iaW g (b 1) 110 s] := by
  unfold f_X10_failedEvents at hf
  refine Con_of [mdO g b m, iaW g (b 1) 110 s] [(0, .ref (b 0))] rfl rfl (by decide) (Nat.le_of_ble_eq_true rfl) ?_
  intro pW eW sW mW argsW belowW methW c9 C hnm hr
  have C : CX g RX10 cX10_failedEvents 1 _ pW sW mW argsW methW c9 := C
  refine x_aload_n C dX10_failedEvents_0 rfl 0 rfl ?_
  refine x_iconst (v := 0) C dX10_failedEvents_1 (by decide) ?_
  refine x_put (ci := 11) (ty := .int) (v := .int (0 : Int32)) (b := mdO g b m) (b' := mdO g b (m.1, (0 : Int32), m.2.2.1, m.2.2.2.1, m.2.2.2.2.1, m.2.2.2.2.2.1, m.2.2.2.2.2.2.1, m.2.2.2.2.2.2.2.1, m.2.2.2.2.2.2.2.2.1, m.2.2.2.2.2.2.2.2.2)) (wss' := [mdO g b (m.1, (0 : Int32), m.2.2.1, m.2.2.2.1, m.2.2.2.2.1, m.2.2.2.2.2.1, m.2.2.2.2.2.2.1, m.2.2.2.2.2.2.2.1, m.2.2.2.2.2.2.2.2.1, m.2.2.2.2.2.2.2.2.2), iaW g (b 1) 110 s]) C ixX10 tyX10 tyX10_ok nmX10 rfl 6 (by decide) wd_1498 (fun _ h => h) rfl (tyX10_ok 6 (by decide)) rfl rfl 0 rfl 0 (mdO_at0 g b _) (Nat.le_of_ble_eq_true rfl) rfl rfl dX10_failedEvents_2 ?_
  refine x_aload_n C dX10_failedEvents_5 rfl 0 rfl ?_
  refine x_get (ci := 11) (v := .ref (b 1)) (b := mdO g b (m.1, (0 : Int32), m.2.2.1, m.2.2.2.1, m.2.2.2.2.1, m.2.2.2.2.2.1, m.2.2.2.2.2.2.1, m.2.2.2.2.2.2.2.1, m.2.2.2.2.2.2.2.2.1, m.2.2.2.2.2.2.2.2.2)) C ixX10 rfl 0 (by decide) wd_1492 (fun _ h => h) 0 rfl 0 (mdO_at0 g b _) rfl dX10_failedEvents_6 ?_
  refine x_iconst (v := 5) C dX10_failedEvents_9 (by decide) ?_
  obtain ⟨h1, hf⟩ := x_n hf
  refine x_iald (b := iaW g (b 1) 110 s) C 1 rfl 0 (iaW_at0 g (b 1) 110 _) h1 dX10_failedEvents_10 ?_
  exact x_iret C hr ⟨by cases hf; rfl, by cases hf; rfl⟩ dX10_failedEvents_11
theorem dX10_failureReason_0 : decode cX10_failureReason 0 = .ok (.aload_n 0, 1) := by decide +kernel
theorem dX10_failureReason_1 : decode cX10_failureReason 1 = .ok (.aload_n 0, 1) := by decide +kernel
theorem dX10_failureReason_2 : decode cX10_failureReason 2 = .ok (.getfield 9, 3) := by decide +kernel
theorem dX10_failureReason_5 : decode cX10_failureReason 5 = .ok (.iconst 5, 1) := by decide +kernel
theorem dX10_failureReason_6 : decode cX10_failureReason 6 = .ok (.iaload, 1) := by decide +kernel
theorem dX10_failureReason_7 : decode cX10_failureReason 7 = .ok (.ifCond .ne 7, 3) := by decide +kernel
theorem dX10_failureReason_10 : decode cX10_failureReason 10 = .ok (.iconst 1, 1) := by decide +kernel
theorem dX10_failureReason_11 : decode cX10_failureReason 11 = .ok (.goto 4, 3) := by decide +kernel
theorem dX10_failureReason_14 : decode cX10_failureReason 14 = .ok (.iconst 0, 1) := by decide +kernel
theorem dX10_failureReason_15 : decode cX10_failureReason 15 = .ok (.iconst 1, 1) := by decide +kernel
theorem dX10_failureReason_16 : decode cX10_failureReason 16 = .ok (.invokevirtual 63, 3) := by decide +kernel
theorem dX10_failureReason_19 : decode cX10_failureReason 19 = .ok (.ifCond .eq 7, 3) := by decide +kernel
theorem dX10_failureReason_22 : decode cX10_failureReason 22 = .ok (.iconst 0, 1) := by decide +kernel
theorem dX10_failureReason_23 : decode cX10_failureReason 23 = .ok (.goto 11, 3) := by decide +kernel
theorem dX10_failureReason_26 : decode cX10_failureReason 26 = .ok (.aload_n 0, 1) := by decide +kernel
theorem dX10_failureReason_27 : decode cX10_failureReason 27 = .ok (.getfield 9, 3) := by decide +kernel
theorem dX10_failureReason_30 : decode cX10_failureReason 30 = .ok (.bipush 6, 2) := by decide +kernel
theorem dX10_failureReason_32 : decode cX10_failureReason 32 = .ok (.iaload, 1) := by decide +kernel
theorem dX10_failureReason_33 : decode cX10_failureReason 33 = .ok (.i2c, 1) := by decide +kernel
theorem dX10_failureReason_34 : decode cX10_failureReason 34 = .ok (.ireturn, 1) := by decide +kernel
set_option maxHeartbeats 4000000 in
set_option maxRecDepth 100000 in
theorem c_X10_failureReason (g : xG) (l : Launch) (b : Nat → Nat) (m : MdT) (s : (Nat → Int32))  {u : Int32 × MdT} (hf : f_X10_failureReason m s = some u) : ConD g l yX10_failureReason cX10_failureReason 1 (some .char) ({ frames := 1, cells := 0, slots := 0, locals := 22 } : Room) [.ref (b 0)] [mdO g b m, iaW g (b 1) 110 s] (some (.int u.1)) [mdO g b u.2, iaW g (b 1) 110 s] := by
  unfold f_X10_failureReason at hf
  refine Con_of [mdO g b m, iaW g (b 1) 110 s] [(0, .ref (b 0))] rfl rfl (by decide) (Nat.le_of_ble_eq_true rfl) ?_
  intro pW eW sW mW argsW belowW methW c9 C hnm hr
  have C : CX g RX10 cX10_failureReason 1 _ pW sW mW argsW methW c9 := C
  have hL15 : ∀ (mL : MdT) (y0 : Int32), f_X10_failureReason_15 mL s y0 = some u → VW g (va_A ([mdO g b m, iaW g (b 1) 110 s] : List va_W).flatten sW.heap.size) 1 pW l eW ({ frames := 1, cells := 0, slots := 0, locals := 22 } : Room) sW mW argsW belowW methW c9 0 0 (MQ belowW (xQc g ([mdO g b m, iaW g (b 1) 110 s] : List va_W).flatten sW.heap.size (fun v9 w9 => v9 = some (.int u.1) ∧ w9 = ([mdO g b u.2, iaW g (b 1) 110 s] : List va_W).flatten)) argsW sW 0 0 (va_A ([mdO g b m, iaW g (b 1) 110 s] : List va_W).flatten sW.heap.size)) [mdO g b mL, iaW g (b 1) 110 s] [(0, .ref (b 0))] 15 [.int y0, .ref (b 0)] := by
    intro mL y0 hf
    unfold f_X10_failureReason_15 at hf
    refine x_iconst (v := 1) C dX10_failureReason_15 (by decide) ?_
    obtain ⟨u1, hu1, hf⟩ := x_b hf
    refine x_callV (n := 2) (As := [.int y0, .int (1 : Int32)]) (rest := []) C (c_X10_isThrown g l b mL y0 (1 : Int32) hu1) ⟨⟨wd_1575, wd_1572, wd_78⟩, ⟨by decide, by decide, by decide⟩, rfl, rfl, Nat.le_of_ble_eq_true rfl, Nat.le_of_ble_eq_true rfl⟩ wd_1574 wd_26 ⟨0, 11, _, _, rfl, rfl, rfl⟩ [iaW g (b 1) 110 s] (x_pickD [0, 1] 2 rfl rfl rfl) rfl rfl (Nat.le_of_ble_eq_true rfl) ⟨Nat.le_of_ble_eq_true rfl, Nat.le_of_ble_eq_true rfl⟩ dX10_failureReason_16 (x_goD (wss2 := [mdO g b u1.2, iaW g (b 1) 110 s]) (stk2 := [.int u1.1]) rfl rfl ?_)
    refine x_if_eq (tgt := 26) C dX10_failureReason_19 (by decide) (fun h2 => ?_) (fun h2 => ?_)
    · have hf := x_t h2 hf
      refine x_aload_n C dX10_failureReason_26 rfl 0 rfl ?_
      refine x_get (ci := 11) (v := .ref (b 1)) (b := mdO g b u1.2) C ixX10 rfl 0 (by decide) wd_1492 (fun _ h => h) 0 rfl 0 (mdO_at0 g b _) rfl dX10_failureReason_27 ?_
      refine x_bipush (v := 6) C dX10_failureReason_30 (by decide) ?_
      obtain ⟨h3, hf⟩ := x_n hf
      refine x_iald (b := iaW g (b 1) 110 s) C 1 rfl 0 (iaW_at0 g (b 1) 110 _) h3 dX10_failureReason_32 ?_
      refine x_i2c C dX10_failureReason_33 rfl ?_
      obtain ⟨h4, hf⟩ := x_y hf
      exact x_zret C hr (x_narC h4).1 ⟨by cases hf; rfl, by cases hf; rfl⟩ dX10_failureReason_34
    · have hf := x_f h2 hf
      refine x_iconst (v := 0) C dX10_failureReason_22 (by decide) ?_
      refine x_goto (tgt := 34) C dX10_failureReason_23 (by decide) ?_
      exact x_zret C hr rfl ⟨by cases hf; rfl, by cases hf; rfl⟩ dX10_failureReason_34
  refine x_aload_n C dX10_failureReason_0 rfl 0 rfl ?_
  refine x_aload_n C dX10_failureReason_1 rfl 0 rfl ?_
  refine x_get (ci := 11) (v := .ref (b 1)) (b := mdO g b m) C ixX10 rfl 0 (by decide) wd_1492 (fun _ h => h) 0 rfl 0 (mdO_at0 g b _) rfl dX10_failureReason_2 ?_
  refine x_iconst (v := 5) C dX10_failureReason_5 (by decide) ?_
  obtain ⟨h1, hf⟩ := x_n hf
  refine x_iald (b := iaW g (b 1) 110 s) C 1 rfl 0 (iaW_at0 g (b 1) 110 _) h1 dX10_failureReason_6 ?_
  refine x_if_ne (tgt := 14) C dX10_failureReason_7 (by decide) (fun h2 => ?_) (fun h2 => ?_)
  · have hf := x_f h2 hf
    refine x_iconst (v := 0) C dX10_failureReason_14 (by decide) ?_
    exact hL15 m (0 : Int32) hf
  · have hf := x_t h2 hf
    refine x_iconst (v := 1) C dX10_failureReason_10 (by decide) ?_
    refine x_goto (tgt := 15) C dX10_failureReason_11 (by decide) ?_
    exact hL15 m (1 : Int32) hf
theorem dX10_time_0 : decode cX10_time 0 = .ok (.aload_n 0, 1) := by decide +kernel
theorem dX10_time_1 : decode cX10_time 1 = .ok (.iconst 0, 1) := by decide +kernel
theorem dX10_time_2 : decode cX10_time 2 = .ok (.putfield 41, 3) := by decide +kernel
theorem dX10_time_5 : decode cX10_time 5 = .ok (.aload_n 0, 1) := by decide +kernel
theorem dX10_time_6 : decode cX10_time 6 = .ok (.getfield 9, 3) := by decide +kernel
theorem dX10_time_9 : decode cX10_time 9 = .ok (.iconst 0, 1) := by decide +kernel
theorem dX10_time_10 : decode cX10_time 10 = .ok (.iaload, 1) := by decide +kernel
theorem dX10_time_11 : decode cX10_time 11 = .ok (.ireturn, 1) := by decide +kernel
set_option maxHeartbeats 4000000 in
set_option maxRecDepth 100000 in
theorem c_X10_time (g : xG) (l : Launch) (b : Nat → Nat) (m : MdT) (s : (Nat → Int32))  {u : Int32 × MdT} (hf : f_X10_time m s = some u) : ConD g l yX10_time cX10_time 1 (some .int) ({ frames := 0, cells := 0, slots := 0, locals := 0 } : Room) [.ref (b 0)] [mdO g b m, iaW g (b 1) 110 s] (some (.int u.1)) [mdO g b u.2, iaW g (b 1) 110 s] := by
  unfold f_X10_time at hf
  refine Con_of [mdO g b m, iaW g (b 1) 110 s] [(0, .ref (b 0))] rfl rfl (by decide) (Nat.le_of_ble_eq_true rfl) ?_
  intro pW eW sW mW argsW belowW methW c9 C hnm hr
  have C : CX g RX10 cX10_time 1 _ pW sW mW argsW methW c9 := C
  refine x_aload_n C dX10_time_0 rfl 0 rfl ?_
  refine x_iconst (v := 0) C dX10_time_1 (by decide) ?_
  refine x_put (ci := 11) (ty := .int) (v := .int (0 : Int32)) (b := mdO g b m) (b' := mdO g b (m.1, (0 : Int32), m.2.2.1, m.2.2.2.1, m.2.2.2.2.1, m.2.2.2.2.2.1, m.2.2.2.2.2.2.1, m.2.2.2.2.2.2.2.1, m.2.2.2.2.2.2.2.2.1, m.2.2.2.2.2.2.2.2.2)) (wss' := [mdO g b (m.1, (0 : Int32), m.2.2.1, m.2.2.2.1, m.2.2.2.2.1, m.2.2.2.2.2.1, m.2.2.2.2.2.2.1, m.2.2.2.2.2.2.2.1, m.2.2.2.2.2.2.2.2.1, m.2.2.2.2.2.2.2.2.2), iaW g (b 1) 110 s]) C ixX10 tyX10 tyX10_ok nmX10 rfl 6 (by decide) wd_1498 (fun _ h => h) rfl (tyX10_ok 6 (by decide)) rfl rfl 0 rfl 0 (mdO_at0 g b _) (Nat.le_of_ble_eq_true rfl) rfl rfl dX10_time_2 ?_
  refine x_aload_n C dX10_time_5 rfl 0 rfl ?_
  refine x_get (ci := 11) (v := .ref (b 1)) (b := mdO g b (m.1, (0 : Int32), m.2.2.1, m.2.2.2.1, m.2.2.2.2.1, m.2.2.2.2.2.1, m.2.2.2.2.2.2.1, m.2.2.2.2.2.2.2.1, m.2.2.2.2.2.2.2.2.1, m.2.2.2.2.2.2.2.2.2)) C ixX10 rfl 0 (by decide) wd_1492 (fun _ h => h) 0 rfl 0 (mdO_at0 g b _) rfl dX10_time_6 ?_
  refine x_iconst (v := 0) C dX10_time_9 (by decide) ?_
  obtain ⟨h1, hf⟩ := x_n hf
  refine x_iald (b := iaW g (b 1) 110 s) C 1 rfl 0 (iaW_at0 g (b 1) 110 _) h1 dX10_time_10 ?_
  exact x_iret C hr ⟨by cases hf; rfl, by cases hf; rfl⟩ dX10_time_11
theorem dX10_draught_0 : decode cX10_draught 0 = .ok (.aload_n 0, 1) := by decide +kernel
theorem dX10_draught_1 : decode cX10_draught 1 = .ok (.iconst 0, 1) := by decide +kernel
theorem dX10_draught_2 : decode cX10_draught 2 = .ok (.putfield 41, 3) := by decide +kernel
theorem dX10_draught_5 : decode cX10_draught 5 = .ok (.aload_n 0, 1) := by decide +kernel
theorem dX10_draught_6 : decode cX10_draught 6 = .ok (.getfield 9, 3) := by decide +kernel
theorem dX10_draught_9 : decode cX10_draught 9 = .ok (.iconst 1, 1) := by decide +kernel
theorem dX10_draught_10 : decode cX10_draught 10 = .ok (.iaload, 1) := by decide +kernel
theorem dX10_draught_11 : decode cX10_draught 11 = .ok (.ireturn, 1) := by decide +kernel
set_option maxHeartbeats 4000000 in
set_option maxRecDepth 100000 in
theorem c_X10_draught (g : xG) (l : Launch) (b : Nat → Nat) (m : MdT) (s : (Nat → Int32))  {u : Int32 × MdT} (hf : f_X10_draught m s = some u) : ConD g l yX10_draught cX10_draught 1 (some .int) ({ frames := 0, cells := 0, slots := 0, locals := 0 } : Room) [.ref (b 0)] [mdO g b m, iaW g (b 1) 110 s] (some (.int u.1)) [mdO g b u.2, iaW g (b 1) 110 s] := by
  unfold f_X10_draught at hf
  refine Con_of [mdO g b m, iaW g (b 1) 110 s] [(0, .ref (b 0))] rfl rfl (by decide) (Nat.le_of_ble_eq_true rfl) ?_
  intro pW eW sW mW argsW belowW methW c9 C hnm hr
  have C : CX g RX10 cX10_draught 1 _ pW sW mW argsW methW c9 := C
  refine x_aload_n C dX10_draught_0 rfl 0 rfl ?_
  refine x_iconst (v := 0) C dX10_draught_1 (by decide) ?_
  refine x_put (ci := 11) (ty := .int) (v := .int (0 : Int32)) (b := mdO g b m) (b' := mdO g b (m.1, (0 : Int32), m.2.2.1, m.2.2.2.1, m.2.2.2.2.1, m.2.2.2.2.2.1, m.2.2.2.2.2.2.1, m.2.2.2.2.2.2.2.1, m.2.2.2.2.2.2.2.2.1, m.2.2.2.2.2.2.2.2.2)) (wss' := [mdO g b (m.1, (0 : Int32), m.2.2.1, m.2.2.2.1, m.2.2.2.2.1, m.2.2.2.2.2.1, m.2.2.2.2.2.2.1, m.2.2.2.2.2.2.2.1, m.2.2.2.2.2.2.2.2.1, m.2.2.2.2.2.2.2.2.2), iaW g (b 1) 110 s]) C ixX10 tyX10 tyX10_ok nmX10 rfl 6 (by decide) wd_1498 (fun _ h => h) rfl (tyX10_ok 6 (by decide)) rfl rfl 0 rfl 0 (mdO_at0 g b _) (Nat.le_of_ble_eq_true rfl) rfl rfl dX10_draught_2 ?_
  refine x_aload_n C dX10_draught_5 rfl 0 rfl ?_
  refine x_get (ci := 11) (v := .ref (b 1)) (b := mdO g b (m.1, (0 : Int32), m.2.2.1, m.2.2.2.1, m.2.2.2.2.1, m.2.2.2.2.2.1, m.2.2.2.2.2.2.1, m.2.2.2.2.2.2.2.1, m.2.2.2.2.2.2.2.2.1, m.2.2.2.2.2.2.2.2.2)) C ixX10 rfl 0 (by decide) wd_1492 (fun _ h => h) 0 rfl 0 (mdO_at0 g b _) rfl dX10_draught_6 ?_
  refine x_iconst (v := 1) C dX10_draught_9 (by decide) ?_
  obtain ⟨h1, hf⟩ := x_n hf
  refine x_iald (b := iaW g (b 1) 110 s) C 1 rfl 0 (iaW_at0 g (b 1) 110 _) h1 dX10_draught_10 ?_
  exact x_iret C hr ⟨by cases hf; rfl, by cases hf; rfl⟩ dX10_draught_11
theorem dX10_dish_0 : decode cX10_dish 0 = .ok (.aload_n 0, 1) := by decide +kernel
theorem dX10_dish_1 : decode cX10_dish 1 = .ok (.iconst 0, 1) := by decide +kernel
theorem dX10_dish_2 : decode cX10_dish 2 = .ok (.putfield 41, 3) := by decide +kernel
theorem dX10_dish_5 : decode cX10_dish 5 = .ok (.aload_n 0, 1) := by decide +kernel
theorem dX10_dish_6 : decode cX10_dish 6 = .ok (.getfield 9, 3) := by decide +kernel
theorem dX10_dish_9 : decode cX10_dish 9 = .ok (.iconst 2, 1) := by decide +kernel
theorem dX10_dish_10 : decode cX10_dish 10 = .ok (.iaload, 1) := by decide +kernel
theorem dX10_dish_11 : decode cX10_dish 11 = .ok (.ireturn, 1) := by decide +kernel
set_option maxHeartbeats 4000000 in
set_option maxRecDepth 100000 in
theorem c_X10_dish (g : xG) (l : Launch) (b : Nat → Nat) (m : MdT) (s : (Nat → Int32))  {u : Int32 × MdT} (hf : f_X10_dish m s = some u) : ConD g l yX10_dish cX10_dish 1 (some .int) ({ frames := 0, cells := 0, slots := 0, locals := 0 } : Room) [.ref (b 0)] [mdO g b m, iaW g (b 1) 110 s] (some (.int u.1)) [mdO g b u.2, iaW g (b 1) 110 s] := by
  unfold f_X10_dish at hf
  refine Con_of [mdO g b m, iaW g (b 1) 110 s] [(0, .ref (b 0))] rfl rfl (by decide) (Nat.le_of_ble_eq_true rfl) ?_
  intro pW eW sW mW argsW belowW methW c9 C hnm hr
  have C : CX g RX10 cX10_dish 1 _ pW sW mW argsW methW c9 := C
  refine x_aload_n C dX10_dish_0 rfl 0 rfl ?_
  refine x_iconst (v := 0) C dX10_dish_1 (by decide) ?_
  refine x_put (ci := 11) (ty := .int) (v := .int (0 : Int32)) (b := mdO g b m) (b' := mdO g b (m.1, (0 : Int32), m.2.2.1, m.2.2.2.1, m.2.2.2.2.1, m.2.2.2.2.2.1, m.2.2.2.2.2.2.1, m.2.2.2.2.2.2.2.1, m.2.2.2.2.2.2.2.2.1, m.2.2.2.2.2.2.2.2.2)) (wss' := [mdO g b (m.1, (0 : Int32), m.2.2.1, m.2.2.2.1, m.2.2.2.2.1, m.2.2.2.2.2.1, m.2.2.2.2.2.2.1, m.2.2.2.2.2.2.2.1, m.2.2.2.2.2.2.2.2.1, m.2.2.2.2.2.2.2.2.2), iaW g (b 1) 110 s]) C ixX10 tyX10 tyX10_ok nmX10 rfl 6 (by decide) wd_1498 (fun _ h => h) rfl (tyX10_ok 6 (by decide)) rfl rfl 0 rfl 0 (mdO_at0 g b _) (Nat.le_of_ble_eq_true rfl) rfl rfl dX10_dish_2 ?_
  refine x_aload_n C dX10_dish_5 rfl 0 rfl ?_
  refine x_get (ci := 11) (v := .ref (b 1)) (b := mdO g b (m.1, (0 : Int32), m.2.2.1, m.2.2.2.1, m.2.2.2.2.1, m.2.2.2.2.2.1, m.2.2.2.2.2.2.1, m.2.2.2.2.2.2.2.1, m.2.2.2.2.2.2.2.2.1, m.2.2.2.2.2.2.2.2.2)) C ixX10 rfl 0 (by decide) wd_1492 (fun _ h => h) 0 rfl 0 (mdO_at0 g b _) rfl dX10_dish_6 ?_
  refine x_iconst (v := 2) C dX10_dish_9 (by decide) ?_
  obtain ⟨h1, hf⟩ := x_n hf
  refine x_iald (b := iaW g (b 1) 110 s) C 1 rfl 0 (iaW_at0 g (b 1) 110 _) h1 dX10_dish_10 ?_
  exact x_iret C hr ⟨by cases hf; rfl, by cases hf; rfl⟩ dX10_dish_11
theorem wd_1494 : Cond.fieldLink RX10 16 "CandleConcertModel" "tried" "[I" ∈ xTB := xTB_in 1494 (by decide +kernel) (by decide +kernel)
theorem wd_1501 : Cond.fieldLink RX10 142 "CandleConcertModel" "answer" "I" ∈ xTB := xTB_in 1501 (by decide +kernel) (by decide +kernel)
theorem dX10_minutesUntilDark_0 : decode cX10_minutesUntilDark 0 = .ok (.aload_n 0, 1) := by decide +kernel
theorem dX10_minutesUntilDark_1 : decode cX10_minutesUntilDark 1 = .ok (.iconst 0, 1) := by decide +kernel
theorem dX10_minutesUntilDark_2 : decode cX10_minutesUntilDark 2 = .ok (.putfield 41, 3) := by decide +kernel
theorem dX10_minutesUntilDark_5 : decode cX10_minutesUntilDark 5 = .ok (.aload_n 0, 1) := by decide +kernel
theorem dX10_minutesUntilDark_6 : decode cX10_minutesUntilDark 6 = .ok (.getfield 9, 3) := by decide +kernel
theorem dX10_minutesUntilDark_9 : decode cX10_minutesUntilDark 9 = .ok (.iconst 0, 1) := by decide +kernel
theorem dX10_minutesUntilDark_10 : decode cX10_minutesUntilDark 10 = .ok (.aload_n 0, 1) := by decide +kernel
theorem dX10_minutesUntilDark_11 : decode cX10_minutesUntilDark 11 = .ok (.getfield 16, 3) := by decide +kernel
theorem dX10_minutesUntilDark_14 : decode cX10_minutesUntilDark 14 = .ok (.iconst 0, 1) := by decide +kernel
theorem dX10_minutesUntilDark_15 : decode cX10_minutesUntilDark 15 = .ok (.invokestatic 44, 3) := by decide +kernel
theorem dX10_minutesUntilDark_18 : decode cX10_minutesUntilDark 18 = .ok (.iconst 0, 1) := by decide +kernel
theorem dX10_minutesUntilDark_19 : decode cX10_minutesUntilDark 19 = .ok (.istore_n 1, 1) := by decide +kernel
theorem dX10_minutesUntilDark_20 : decode cX10_minutesUntilDark 20 = .ok (.aload_n 0, 1) := by decide +kernel
theorem dX10_minutesUntilDark_21 : decode cX10_minutesUntilDark 21 = .ok (.getfield 9, 3) := by decide +kernel
theorem dX10_minutesUntilDark_24 : decode cX10_minutesUntilDark 24 = .ok (.iconst 4, 1) := by decide +kernel
theorem dX10_minutesUntilDark_25 : decode cX10_minutesUntilDark 25 = .ok (.iaload, 1) := by decide +kernel
theorem dX10_minutesUntilDark_26 : decode cX10_minutesUntilDark 26 = .ok (.ifCond .gt 10, 3) := by decide +kernel
theorem dX10_minutesUntilDark_29 : decode cX10_minutesUntilDark 29 = .ok (.aload_n 0, 1) := by decide +kernel
theorem dX10_minutesUntilDark_30 : decode cX10_minutesUntilDark 30 = .ok (.invokevirtual 85, 3) := by decide +kernel
theorem dX10_minutesUntilDark_33 : decode cX10_minutesUntilDark 33 = .ok (.ifCond .le 17, 3) := by decide +kernel
theorem dX10_minutesUntilDark_36 : decode cX10_minutesUntilDark 36 = .ok (.aload_n 0, 1) := by decide +kernel
theorem dX10_minutesUntilDark_37 : decode cX10_minutesUntilDark 37 = .ok (.aload_n 0, 1) := by decide +kernel
theorem dX10_minutesUntilDark_38 : decode cX10_minutesUntilDark 38 = .ok (.invokevirtual 130, 3) := by decide +kernel
theorem dX10_minutesUntilDark_41 : decode cX10_minutesUntilDark 41 = .ok (.putfield 142, 3) := by decide +kernel
theorem dX10_minutesUntilDark_44 : decode cX10_minutesUntilDark 44 = .ok (.iinc 1 1, 3) := by decide +kernel
theorem dX10_minutesUntilDark_47 : decode cX10_minutesUntilDark 47 = .ok (.goto (-27), 3) := by decide +kernel
theorem dX10_minutesUntilDark_50 : decode cX10_minutesUntilDark 50 = .ok (.aload_n 0, 1) := by decide +kernel
theorem dX10_minutesUntilDark_51 : decode cX10_minutesUntilDark 51 = .ok (.getfield 16, 3) := by decide +kernel
theorem dX10_minutesUntilDark_54 : decode cX10_minutesUntilDark 54 = .ok (.iconst 0, 1) := by decide +kernel
theorem dX10_minutesUntilDark_55 : decode cX10_minutesUntilDark 55 = .ok (.aload_n 0, 1) := by decide +kernel
theorem dX10_minutesUntilDark_56 : decode cX10_minutesUntilDark 56 = .ok (.getfield 9, 3) := by decide +kernel
theorem dX10_minutesUntilDark_59 : decode cX10_minutesUntilDark 59 = .ok (.iconst 0, 1) := by decide +kernel
theorem dX10_minutesUntilDark_60 : decode cX10_minutesUntilDark 60 = .ok (.invokestatic 44, 3) := by decide +kernel
theorem dX10_minutesUntilDark_63 : decode cX10_minutesUntilDark 63 = .ok (.iload_n 1, 1) := by decide +kernel
theorem dX10_minutesUntilDark_64 : decode cX10_minutesUntilDark 64 = .ok (.ireturn, 1) := by decide +kernel
set_option maxHeartbeats 4000000 in
set_option maxRecDepth 100000 in
theorem c_X10_minutesUntilDark (g : xG) (l : Launch) (b : Nat → Nat) (m : MdT) (s : (Nat → Int32)) (r : (Nat → Int32))  {u : Int32 × MdT × (Nat → Int32) × (Nat → Int32)} (hf : f_X10_minutesUntilDark m s r = some u) : ConD g l yX10_minutesUntilDark cX10_minutesUntilDark 2 (some .int) ({ frames := 4, cells := 0, slots := 0, locals := 88 } : Room) [.ref (b 0)] [mdO g b m, iaW g (b 1) 110 s, iaW g (b 3) 110 r] (some (.int u.1)) [mdO g b u.2.1, iaW g (b 1) 110 u.2.2.1, iaW g (b 3) 110 u.2.2.2] := by
  unfold f_X10_minutesUntilDark at hf
  refine Con_of [mdO g b m, iaW g (b 1) 110 s, iaW g (b 3) 110 r] [(0, .ref (b 0))] rfl rfl (by decide) (Nat.le_of_ble_eq_true rfl) ?_
  intro pW eW sW mW argsW belowW methW c9 C hnm hr
  have C : CX g RX10 cX10_minutesUntilDark 2 _ pW sW mW argsW methW c9 := C
  have hL20 : ∀ (nW : Nat) (mL : MdT) (sL : (Nat → Int32)) (rL : (Nat → Int32)) (x1 : Int32), f_X10_minutesUntilDark_20 nW mL sL rL x1 = some u → VW g (va_A ([mdO g b m, iaW g (b 1) 110 s, iaW g (b 3) 110 r] : List va_W).flatten sW.heap.size) 2 pW l eW ({ frames := 4, cells := 0, slots := 0, locals := 88 } : Room) sW mW argsW belowW methW c9 0 0 (MQ belowW (xQc g ([mdO g b m, iaW g (b 1) 110 s, iaW g (b 3) 110 r] : List va_W).flatten sW.heap.size (fun v9 w9 => v9 = some (.int u.1) ∧ w9 = ([mdO g b u.2.1, iaW g (b 1) 110 u.2.2.1, iaW g (b 3) 110 u.2.2.2] : List va_W).flatten)) argsW sW 0 0 (va_A ([mdO g b m, iaW g (b 1) 110 s, iaW g (b 3) 110 r] : List va_W).flatten sW.heap.size)) [mdO g b mL, iaW g (b 1) 110 sL, iaW g (b 3) 110 rL] [(0, .ref (b 0)), (1, .int x1)] 20 [] := by
    intro nW
    induction nW with
    | zero => intro mL sL rL x1 hf; rw [f_X10_minutesUntilDark_20] at hf; cases hf
    | succ nW ih =>
      intro mL sL rL x1 hf
      rw [f_X10_minutesUntilDark_20] at hf
      refine x_aload_n C dX10_minutesUntilDark_20 rfl 0 rfl ?_
      refine x_get (ci := 11) (v := .ref (b 1)) (b := mdO g b mL) C ixX10 rfl 0 (by decide) wd_1492 (fun _ h => h) 0 rfl 0 (mdO_at0 g b _) rfl dX10_minutesUntilDark_21 ?_
      refine x_iconst (v := 4) C dX10_minutesUntilDark_24 (by decide) ?_
      obtain ⟨h1, hf⟩ := x_n hf
      refine x_iald (b := iaW g (b 1) 110 sL) C 1 rfl 0 (iaW_at0 g (b 1) 110 _) h1 dX10_minutesUntilDark_25 ?_
      refine x_if_gt (tgt := 36) C dX10_minutesUntilDark_26 (by decide) (fun h2 => ?_) (fun h2 => ?_)
      · have hf := x_t h2 hf
        refine x_aload_n C dX10_minutesUntilDark_36 rfl 0 rfl ?_
        refine x_aload_n C dX10_minutesUntilDark_37 rfl 0 rfl ?_
        obtain ⟨u3, hu3, hf⟩ := x_b hf
        refine x_callV (n := 0) (As := []) (rest := [.ref (b 0)]) C (c_X10_minutePasses g l b mL sL hu3) ⟨⟨wd_1667, wd_1664, wd_78⟩, ⟨by decide, by decide, by decide⟩, rfl, rfl, Nat.le_of_ble_eq_true rfl, Nat.le_of_ble_eq_true rfl⟩ wd_1666 wd_42 ⟨0, 11, _, _, rfl, rfl, rfl⟩ [iaW g (b 3) 110 rL] (x_pickD [0, 1, 2] 3 rfl rfl rfl) rfl rfl (Nat.le_of_ble_eq_true rfl) ⟨Nat.le_of_ble_eq_true rfl, Nat.le_of_ble_eq_true rfl⟩ dX10_minutesUntilDark_38 (x_goD (wss2 := [mdO g b mL, iaW g (b 1) 110 u3.2, iaW g (b 3) 110 rL]) (stk2 := [.int u3.1, .ref (b 0)]) rfl rfl ?_)
        refine x_put (ci := 11) (ty := .int) (v := .int u3.1) (b := mdO g b mL) (b' := mdO g b (mL.1, mL.2.1, mL.2.2.1, mL.2.2.2.1, u3.1, mL.2.2.2.2.2.1, mL.2.2.2.2.2.2.1, mL.2.2.2.2.2.2.2.1, mL.2.2.2.2.2.2.2.2.1, mL.2.2.2.2.2.2.2.2.2)) (wss' := [mdO g b (mL.1, mL.2.1, mL.2.2.1, mL.2.2.2.1, u3.1, mL.2.2.2.2.2.1, mL.2.2.2.2.2.2.1, mL.2.2.2.2.2.2.2.1, mL.2.2.2.2.2.2.2.2.1, mL.2.2.2.2.2.2.2.2.2), iaW g (b 1) 110 u3.2, iaW g (b 3) 110 rL]) C ixX10 tyX10 tyX10_ok nmX10 rfl 9 (by decide) wd_1501 (fun _ h => h) rfl (tyX10_ok 9 (by decide)) rfl rfl 0 rfl 0 (mdO_at0 g b _) (Nat.le_of_ble_eq_true rfl) rfl rfl dX10_minutesUntilDark_41 ?_
        refine x_iinc (v := x1 + 1) (lv' := [(1, .int (x1 + 1)), (0, .ref (b 0))]) C dX10_minutesUntilDark_44 1 rfl rfl (by decide) rfl ?_
        refine x_goto (tgt := 20) C dX10_minutesUntilDark_47 (by decide) ?_
        refine x_locals (lv' := [(0, .ref (b 0)), (1, .int (x1 + 1))]) [1, 0] rfl ?_
        exact ih (mL.1, mL.2.1, mL.2.2.1, mL.2.2.2.1, u3.1, mL.2.2.2.2.2.1, mL.2.2.2.2.2.2.1, mL.2.2.2.2.2.2.2.1, mL.2.2.2.2.2.2.2.2.1, mL.2.2.2.2.2.2.2.2.2) u3.2 rL (x1 + 1) hf
      · have hf := x_f h2 hf
        refine x_aload_n C dX10_minutesUntilDark_29 rfl 0 rfl ?_
        obtain ⟨u4, hu4, hf⟩ := x_b hf
        refine x_callV (n := 0) (As := []) (rest := []) C (c_X10_lit g l b mL sL hu4) ⟨⟨wd_1603, wd_1600, wd_78⟩, ⟨by decide, by decide, by decide⟩, rfl, rfl, Nat.le_of_ble_eq_true rfl, Nat.le_of_ble_eq_true rfl⟩ wd_1602 wd_32 ⟨0, 11, _, _, rfl, rfl, rfl⟩ [iaW g (b 3) 110 rL] (x_pickD [0, 1, 2] 3 rfl rfl rfl) rfl rfl (Nat.le_of_ble_eq_true rfl) ⟨Nat.le_of_ble_eq_true rfl, Nat.le_of_ble_eq_true rfl⟩ dX10_minutesUntilDark_30 (x_goD (wss2 := [mdO g b mL, iaW g (b 1) 110 sL, iaW g (b 3) 110 rL]) (stk2 := [.int u4]) rfl rfl ?_)
        refine x_if_le (tgt := 50) C dX10_minutesUntilDark_33 (by decide) (fun h5 => ?_) (fun h5 => ?_)
        · have hf := x_t h5 hf
          refine x_aload_n C dX10_minutesUntilDark_50 rfl 0 rfl ?_
          refine x_get (ci := 11) (v := .ref (b 3)) (b := mdO g b mL) C ixX10 rfl 2 (by decide) wd_1494 (fun _ h => h) 0 rfl 0 (mdO_at0 g b _) rfl dX10_minutesUntilDark_51 ?_
          refine x_iconst (v := 0) C dX10_minutesUntilDark_54 (by decide) ?_
          refine x_aload_n C dX10_minutesUntilDark_55 rfl 0 rfl ?_
          refine x_get (ci := 11) (v := .ref (b 1)) (b := mdO g b mL) C ixX10 rfl 0 (by decide) wd_1492 (fun _ h => h) 0 rfl 0 (mdO_at0 g b _) rfl dX10_minutesUntilDark_56 ?_
          refine x_iconst (v := 0) C dX10_minutesUntilDark_59 (by decide) ?_
          obtain ⟨u6, hu6, hf⟩ := x_b hf
          refine x_callS (n := 4) (As := [.ref (b 3), .int (0 : Int32), .ref (b 1), .int (0 : Int32)]) (rest := []) C (c_X10_copiesD g l (b 3) 110 (b 1) 110 rL sL (0 : Int32) (0 : Int32) hu6) ⟨⟨wd_1561, wd_1559, wd_78⟩, ⟨by decide, by decide, by decide⟩, rfl, rfl, Nat.le_of_ble_eq_true rfl, Nat.le_of_ble_eq_true rfl⟩ wd_1560 [mdO g b mL] (x_pickD [2, 1, 0] 3 rfl rfl rfl) rfl rfl (Nat.le_of_ble_eq_true rfl) ⟨Nat.le_of_ble_eq_true rfl, Nat.le_of_ble_eq_true rfl⟩ dX10_minutesUntilDark_60 (x_goD (wss2 := [iaW g (b 3) 110 rL, iaW g (b 1) 110 u6, mdO g b mL]) (stk2 := []) rfl rfl ?_)
          refine x_iload_n C dX10_minutesUntilDark_63 rfl 1 rfl ?_
          refine x_perm (wss' := [mdO g b mL, iaW g (b 1) 110 u6, iaW g (b 3) 110 rL]) (x_pick [2, 1, 0] 3 rfl rfl rfl) ?_
          exact x_iret C hr ⟨by cases hf; rfl, by cases hf; rfl⟩ dX10_minutesUntilDark_64
        · have hf := x_f h5 hf
          refine x_aload_n C dX10_minutesUntilDark_36 rfl 0 rfl ?_
          refine x_aload_n C dX10_minutesUntilDark_37 rfl 0 rfl ?_
          obtain ⟨u7, hu7, hf⟩ := x_b hf
          refine x_callV (n := 0) (As := []) (rest := [.ref (b 0)]) C (c_X10_minutePasses g l b mL sL hu7) ⟨⟨wd_1667, wd_1664, wd_78⟩, ⟨by decide, by decide, by decide⟩, rfl, rfl, Nat.le_of_ble_eq_true rfl, Nat.le_of_ble_eq_true rfl⟩ wd_1666 wd_42 ⟨0, 11, _, _, rfl, rfl, rfl⟩ [iaW g (b 3) 110 rL] (x_pickD [0, 1, 2] 3 rfl rfl rfl) rfl rfl (Nat.le_of_ble_eq_true rfl) ⟨Nat.le_of_ble_eq_true rfl, Nat.le_of_ble_eq_true rfl⟩ dX10_minutesUntilDark_38 (x_goD (wss2 := [mdO g b mL, iaW g (b 1) 110 u7.2, iaW g (b 3) 110 rL]) (stk2 := [.int u7.1, .ref (b 0)]) rfl rfl ?_)
          refine x_put (ci := 11) (ty := .int) (v := .int u7.1) (b := mdO g b mL) (b' := mdO g b (mL.1, mL.2.1, mL.2.2.1, mL.2.2.2.1, u7.1, mL.2.2.2.2.2.1, mL.2.2.2.2.2.2.1, mL.2.2.2.2.2.2.2.1, mL.2.2.2.2.2.2.2.2.1, mL.2.2.2.2.2.2.2.2.2)) (wss' := [mdO g b (mL.1, mL.2.1, mL.2.2.1, mL.2.2.2.1, u7.1, mL.2.2.2.2.2.1, mL.2.2.2.2.2.2.1, mL.2.2.2.2.2.2.2.1, mL.2.2.2.2.2.2.2.2.1, mL.2.2.2.2.2.2.2.2.2), iaW g (b 1) 110 u7.2, iaW g (b 3) 110 rL]) C ixX10 tyX10 tyX10_ok nmX10 rfl 9 (by decide) wd_1501 (fun _ h => h) rfl (tyX10_ok 9 (by decide)) rfl rfl 0 rfl 0 (mdO_at0 g b _) (Nat.le_of_ble_eq_true rfl) rfl rfl dX10_minutesUntilDark_41 ?_
          refine x_iinc (v := x1 + 1) (lv' := [(1, .int (x1 + 1)), (0, .ref (b 0))]) C dX10_minutesUntilDark_44 1 rfl rfl (by decide) rfl ?_
          refine x_goto (tgt := 20) C dX10_minutesUntilDark_47 (by decide) ?_
          refine x_locals (lv' := [(0, .ref (b 0)), (1, .int (x1 + 1))]) [1, 0] rfl ?_
          exact ih (mL.1, mL.2.1, mL.2.2.1, mL.2.2.2.1, u7.1, mL.2.2.2.2.2.1, mL.2.2.2.2.2.2.1, mL.2.2.2.2.2.2.2.1, mL.2.2.2.2.2.2.2.2.1, mL.2.2.2.2.2.2.2.2.2) u7.2 rL (x1 + 1) hf
  refine x_aload_n C dX10_minutesUntilDark_0 rfl 0 rfl ?_
  refine x_iconst (v := 0) C dX10_minutesUntilDark_1 (by decide) ?_
  refine x_put (ci := 11) (ty := .int) (v := .int (0 : Int32)) (b := mdO g b m) (b' := mdO g b (m.1, (0 : Int32), m.2.2.1, m.2.2.2.1, m.2.2.2.2.1, m.2.2.2.2.2.1, m.2.2.2.2.2.2.1, m.2.2.2.2.2.2.2.1, m.2.2.2.2.2.2.2.2.1, m.2.2.2.2.2.2.2.2.2)) (wss' := [mdO g b (m.1, (0 : Int32), m.2.2.1, m.2.2.2.1, m.2.2.2.2.1, m.2.2.2.2.2.1, m.2.2.2.2.2.2.1, m.2.2.2.2.2.2.2.1, m.2.2.2.2.2.2.2.2.1, m.2.2.2.2.2.2.2.2.2), iaW g (b 1) 110 s, iaW g (b 3) 110 r]) C ixX10 tyX10 tyX10_ok nmX10 rfl 6 (by decide) wd_1498 (fun _ h => h) rfl (tyX10_ok 6 (by decide)) rfl rfl 0 rfl 0 (mdO_at0 g b _) (Nat.le_of_ble_eq_true rfl) rfl rfl dX10_minutesUntilDark_2 ?_
  refine x_aload_n C dX10_minutesUntilDark_5 rfl 0 rfl ?_
  refine x_get (ci := 11) (v := .ref (b 1)) (b := mdO g b (m.1, (0 : Int32), m.2.2.1, m.2.2.2.1, m.2.2.2.2.1, m.2.2.2.2.2.1, m.2.2.2.2.2.2.1, m.2.2.2.2.2.2.2.1, m.2.2.2.2.2.2.2.2.1, m.2.2.2.2.2.2.2.2.2)) C ixX10 rfl 0 (by decide) wd_1492 (fun _ h => h) 0 rfl 0 (mdO_at0 g b _) rfl dX10_minutesUntilDark_6 ?_
  refine x_iconst (v := 0) C dX10_minutesUntilDark_9 (by decide) ?_
  refine x_aload_n C dX10_minutesUntilDark_10 rfl 0 rfl ?_
  refine x_get (ci := 11) (v := .ref (b 3)) (b := mdO g b (m.1, (0 : Int32), m.2.2.1, m.2.2.2.1, m.2.2.2.2.1, m.2.2.2.2.2.1, m.2.2.2.2.2.2.1, m.2.2.2.2.2.2.2.1, m.2.2.2.2.2.2.2.2.1, m.2.2.2.2.2.2.2.2.2)) C ixX10 rfl 2 (by decide) wd_1494 (fun _ h => h) 0 rfl 0 (mdO_at0 g b _) rfl dX10_minutesUntilDark_11 ?_
  refine x_iconst (v := 0) C dX10_minutesUntilDark_14 (by decide) ?_
  obtain ⟨u1, hu1, hf⟩ := x_b hf
  refine x_callS (n := 4) (As := [.ref (b 1), .int (0 : Int32), .ref (b 3), .int (0 : Int32)]) (rest := []) C (c_X10_copiesD g l (b 1) 110 (b 3) 110 s r (0 : Int32) (0 : Int32) hu1) ⟨⟨wd_1561, wd_1559, wd_78⟩, ⟨by decide, by decide, by decide⟩, rfl, rfl, Nat.le_of_ble_eq_true rfl, Nat.le_of_ble_eq_true rfl⟩ wd_1560 [mdO g b (m.1, (0 : Int32), m.2.2.1, m.2.2.2.1, m.2.2.2.2.1, m.2.2.2.2.2.1, m.2.2.2.2.2.2.1, m.2.2.2.2.2.2.2.1, m.2.2.2.2.2.2.2.2.1, m.2.2.2.2.2.2.2.2.2)] (x_pickD [1, 2, 0] 3 rfl rfl rfl) rfl rfl (Nat.le_of_ble_eq_true rfl) ⟨Nat.le_of_ble_eq_true rfl, Nat.le_of_ble_eq_true rfl⟩ dX10_minutesUntilDark_15 (x_goD (wss2 := [iaW g (b 1) 110 s, iaW g (b 3) 110 u1, mdO g b (m.1, (0 : Int32), m.2.2.1, m.2.2.2.1, m.2.2.2.2.1, m.2.2.2.2.2.1, m.2.2.2.2.2.2.1, m.2.2.2.2.2.2.2.1, m.2.2.2.2.2.2.2.2.1, m.2.2.2.2.2.2.2.2.2)]) (stk2 := []) rfl rfl ?_)
  refine x_iconst (v := 0) C dX10_minutesUntilDark_18 (by decide) ?_
  refine x_istore_n (lv' := [(1, .int (0 : Int32)), (0, .ref (b 0))]) C dX10_minutesUntilDark_19 rfl (by decide) rfl ?_
  refine x_perm (wss' := [mdO g b (m.1, (0 : Int32), m.2.2.1, m.2.2.2.1, m.2.2.2.2.1, m.2.2.2.2.2.1, m.2.2.2.2.2.2.1, m.2.2.2.2.2.2.2.1, m.2.2.2.2.2.2.2.2.1, m.2.2.2.2.2.2.2.2.2), iaW g (b 1) 110 s, iaW g (b 3) 110 u1]) (x_pick [2, 0, 1] 3 rfl rfl rfl) ?_
  refine x_locals (lv' := [(0, .ref (b 0)), (1, .int (0 : Int32))]) [1, 0] rfl ?_
  exact hL20 xFuel (m.1, (0 : Int32), m.2.2.1, m.2.2.2.1, m.2.2.2.2.1, m.2.2.2.2.2.1, m.2.2.2.2.2.2.1, m.2.2.2.2.2.2.2.1, m.2.2.2.2.2.2.2.2.1, m.2.2.2.2.2.2.2.2.2) s u1 (0 : Int32) hf
theorem wd_1766 : Cond.instanceMethod yX10_minutesUntilDark ∈ xTB := xTB_in 1766 (by decide +kernel) (by decide +kernel)
theorem wd_1767 : Cond.selects yX10_minutesUntilDark.cls yX10_minutesUntilDark yX10_minutesUntilDark ∈ xTB := xTB_in 1767 (by decide +kernel) (by decide +kernel)
theorem wd_1768 : Cond.code yX10_minutesUntilDark cX10_minutesUntilDark 2 (some .int) ∈ xTB := xTB_in 1768 (by decide +kernel) (by decide +kernel)
theorem wd_1773 : Cond.methodLink RX10 145 yX10_minutesUntilDark ∈ xTB := xTB_in 1773 (by decide +kernel) (by decide +kernel)
theorem dX10_minutesUntilDarkByLeaps_0 : decode cX10_minutesUntilDarkByLeaps 0 = .ok (.aload_n 0, 1) := by decide +kernel
theorem dX10_minutesUntilDarkByLeaps_1 : decode cX10_minutesUntilDarkByLeaps 1 = .ok (.invokevirtual 145, 3) := by decide +kernel
theorem dX10_minutesUntilDarkByLeaps_4 : decode cX10_minutesUntilDarkByLeaps 4 = .ok (.ireturn, 1) := by decide +kernel
set_option maxHeartbeats 4000000 in
set_option maxRecDepth 100000 in
theorem c_X10_minutesUntilDarkByLeaps (g : xG) (l : Launch) (b : Nat → Nat) (m : MdT) (s : (Nat → Int32)) (r : (Nat → Int32))  {u : Int32 × MdT × (Nat → Int32) × (Nat → Int32)} (hf : f_X10_minutesUntilDarkByLeaps m s r = some u) : ConD g l yX10_minutesUntilDarkByLeaps cX10_minutesUntilDarkByLeaps 1 (some .int) ({ frames := 5, cells := 0, slots := 0, locals := 109 } : Room) [.ref (b 0)] [mdO g b m, iaW g (b 1) 110 s, iaW g (b 3) 110 r] (some (.int u.1)) [mdO g b u.2.1, iaW g (b 1) 110 u.2.2.1, iaW g (b 3) 110 u.2.2.2] := by
  unfold f_X10_minutesUntilDarkByLeaps at hf
  refine Con_of [mdO g b m, iaW g (b 1) 110 s, iaW g (b 3) 110 r] [(0, .ref (b 0))] rfl rfl (by decide) (Nat.le_of_ble_eq_true rfl) ?_
  intro pW eW sW mW argsW belowW methW c9 C hnm hr
  have C : CX g RX10 cX10_minutesUntilDarkByLeaps 1 _ pW sW mW argsW methW c9 := C
  refine x_aload_n C dX10_minutesUntilDarkByLeaps_0 rfl 0 rfl ?_
  obtain ⟨u1, hu1, hf⟩ := x_b hf
  refine x_callV (n := 0) (As := []) (rest := []) C (c_X10_minutesUntilDark g l b m s r hu1) ⟨⟨wd_1768, wd_1773, wd_78⟩, ⟨by decide, by decide, by decide⟩, rfl, rfl, Nat.le_of_ble_eq_true rfl, Nat.le_of_ble_eq_true rfl⟩ wd_1766 wd_1767 ⟨0, 11, _, _, rfl, rfl, rfl⟩ [] (x_pickD [0, 1, 2] 3 rfl rfl rfl) rfl rfl (Nat.le_of_ble_eq_true rfl) ⟨Nat.le_of_ble_eq_true rfl, Nat.le_of_ble_eq_true rfl⟩ dX10_minutesUntilDarkByLeaps_1 (x_goD (wss2 := [mdO g b u1.2.1, iaW g (b 1) 110 u1.2.2.1, iaW g (b 3) 110 u1.2.2.2]) (stk2 := [.int u1.1]) rfl rfl ?_)
  exact x_iret C hr ⟨by cases hf; rfl, by cases hf; rfl⟩ dX10_minutesUntilDarkByLeaps_4
theorem dX10_lastCandle_0 : decode cX10_lastCandle 0 = .ok (.aload_n 0, 1) := by decide +kernel
theorem dX10_lastCandle_1 : decode cX10_lastCandle 1 = .ok (.aload_n 0, 1) := by decide +kernel
theorem dX10_lastCandle_2 : decode cX10_lastCandle 2 = .ok (.getfield 9, 3) := by decide +kernel
theorem dX10_lastCandle_5 : decode cX10_lastCandle 5 = .ok (.bipush 7, 2) := by decide +kernel
theorem dX10_lastCandle_7 : decode cX10_lastCandle 7 = .ok (.iaload, 1) := by decide +kernel
theorem dX10_lastCandle_8 : decode cX10_lastCandle 8 = .ok (.ifCond .ne 7, 3) := by decide +kernel
theorem dX10_lastCandle_11 : decode cX10_lastCandle 11 = .ok (.iconst 1, 1) := by decide +kernel
theorem dX10_lastCandle_12 : decode cX10_lastCandle 12 = .ok (.goto 4, 3) := by decide +kernel
theorem dX10_lastCandle_15 : decode cX10_lastCandle 15 = .ok (.iconst 0, 1) := by decide +kernel
theorem dX10_lastCandle_16 : decode cX10_lastCandle 16 = .ok (.iconst 1, 1) := by decide +kernel
theorem dX10_lastCandle_17 : decode cX10_lastCandle 17 = .ok (.invokevirtual 63, 3) := by decide +kernel
theorem dX10_lastCandle_20 : decode cX10_lastCandle 20 = .ok (.ifCond .eq 7, 3) := by decide +kernel
theorem dX10_lastCandle_23 : decode cX10_lastCandle 23 = .ok (.iconst 0, 1) := by decide +kernel
theorem dX10_lastCandle_24 : decode cX10_lastCandle 24 = .ok (.goto 12, 3) := by decide +kernel
theorem dX10_lastCandle_27 : decode cX10_lastCandle 27 = .ok (.aload_n 0, 1) := by decide +kernel
theorem dX10_lastCandle_28 : decode cX10_lastCandle 28 = .ok (.getfield 9, 3) := by decide +kernel
theorem dX10_lastCandle_31 : decode cX10_lastCandle 31 = .ok (.bipush 7, 2) := by decide +kernel
theorem dX10_lastCandle_33 : decode cX10_lastCandle 33 = .ok (.iaload, 1) := by decide +kernel
theorem dX10_lastCandle_34 : decode cX10_lastCandle 34 = .ok (.iconst 1, 1) := by decide +kernel
theorem dX10_lastCandle_35 : decode cX10_lastCandle 35 = .ok (.isub, 1) := by decide +kernel
theorem dX10_lastCandle_36 : decode cX10_lastCandle 36 = .ok (.ireturn, 1) := by decide +kernel
set_option maxHeartbeats 4000000 in
set_option maxRecDepth 100000 in
theorem c_X10_lastCandle (g : xG) (l : Launch) (b : Nat → Nat) (m : MdT) (s : (Nat → Int32))  {u : Int32 × MdT} (hf : f_X10_lastCandle m s = some u) : ConD g l yX10_lastCandle cX10_lastCandle 1 (some .int) ({ frames := 1, cells := 0, slots := 0, locals := 22 } : Room) [.ref (b 0)] [mdO g b m, iaW g (b 1) 110 s] (some (.int u.1)) [mdO g b u.2, iaW g (b 1) 110 s] := by
  unfold f_X10_lastCandle at hf
  refine Con_of [mdO g b m, iaW g (b 1) 110 s] [(0, .ref (b 0))] rfl rfl (by decide) (Nat.le_of_ble_eq_true rfl) ?_
  intro pW eW sW mW argsW belowW methW c9 C hnm hr
  have C : CX g RX10 cX10_lastCandle 1 _ pW sW mW argsW methW c9 := C
  have hL16 : ∀ (mL : MdT) (y0 : Int32), f_X10_lastCandle_16 mL s y0 = some u → VW g (va_A ([mdO g b m, iaW g (b 1) 110 s] : List va_W).flatten sW.heap.size) 1 pW l eW ({ frames := 1, cells := 0, slots := 0, locals := 22 } : Room) sW mW argsW belowW methW c9 0 0 (MQ belowW (xQc g ([mdO g b m, iaW g (b 1) 110 s] : List va_W).flatten sW.heap.size (fun v9 w9 => v9 = some (.int u.1) ∧ w9 = ([mdO g b u.2, iaW g (b 1) 110 s] : List va_W).flatten)) argsW sW 0 0 (va_A ([mdO g b m, iaW g (b 1) 110 s] : List va_W).flatten sW.heap.size)) [mdO g b mL, iaW g (b 1) 110 s] [(0, .ref (b 0))] 16 [.int y0, .ref (b 0)] := by
    intro mL y0 hf
    unfold f_X10_lastCandle_16 at hf
    refine x_iconst (v := 1) C dX10_lastCandle_16 (by decide) ?_
    obtain ⟨u1, hu1, hf⟩ := x_b hf
    refine x_callV (n := 2) (As := [.int y0, .int (1 : Int32)]) (rest := []) C (c_X10_isThrown g l b mL y0 (1 : Int32) hu1) ⟨⟨wd_1575, wd_1572, wd_78⟩, ⟨by decide, by decide, by decide⟩, rfl, rfl, Nat.le_of_ble_eq_true rfl, Nat.le_of_ble_eq_true rfl⟩ wd_1574 wd_26 ⟨0, 11, _, _, rfl, rfl, rfl⟩ [iaW g (b 1) 110 s] (x_pickD [0, 1] 2 rfl rfl rfl) rfl rfl (Nat.le_of_ble_eq_true rfl) ⟨Nat.le_of_ble_eq_true rfl, Nat.le_of_ble_eq_true rfl⟩ dX10_lastCandle_17 (x_goD (wss2 := [mdO g b u1.2, iaW g (b 1) 110 s]) (stk2 := [.int u1.1]) rfl rfl ?_)
    refine x_if_eq (tgt := 27) C dX10_lastCandle_20 (by decide) (fun h2 => ?_) (fun h2 => ?_)
    · have hf := x_t h2 hf
      refine x_aload_n C dX10_lastCandle_27 rfl 0 rfl ?_
      refine x_get (ci := 11) (v := .ref (b 1)) (b := mdO g b u1.2) C ixX10 rfl 0 (by decide) wd_1492 (fun _ h => h) 0 rfl 0 (mdO_at0 g b _) rfl dX10_lastCandle_28 ?_
      refine x_bipush (v := 7) C dX10_lastCandle_31 (by decide) ?_
      obtain ⟨h3, hf⟩ := x_n hf
      refine x_iald (b := iaW g (b 1) 110 s) C 1 rfl 0 (iaW_at0 g (b 1) 110 _) h3 dX10_lastCandle_33 ?_
      refine x_iconst (v := 1) C dX10_lastCandle_34 (by decide) ?_
      refine x_isub C dX10_lastCandle_35 ?_
      exact x_iret C hr ⟨by cases hf; rfl, by cases hf; rfl⟩ dX10_lastCandle_36
    · have hf := x_f h2 hf
      refine x_iconst (v := 0) C dX10_lastCandle_23 (by decide) ?_
      refine x_goto (tgt := 36) C dX10_lastCandle_24 (by decide) ?_
      exact x_iret C hr ⟨by cases hf; rfl, by cases hf; rfl⟩ dX10_lastCandle_36
  refine x_aload_n C dX10_lastCandle_0 rfl 0 rfl ?_
  refine x_aload_n C dX10_lastCandle_1 rfl 0 rfl ?_
  refine x_get (ci := 11) (v := .ref (b 1)) (b := mdO g b m) C ixX10 rfl 0 (by decide) wd_1492 (fun _ h => h) 0 rfl 0 (mdO_at0 g b _) rfl dX10_lastCandle_2 ?_
  refine x_bipush (v := 7) C dX10_lastCandle_5 (by decide) ?_
  obtain ⟨h1, hf⟩ := x_n hf
  refine x_iald (b := iaW g (b 1) 110 s) C 1 rfl 0 (iaW_at0 g (b 1) 110 _) h1 dX10_lastCandle_7 ?_
  refine x_if_ne (tgt := 15) C dX10_lastCandle_8 (by decide) (fun h2 => ?_) (fun h2 => ?_)
  · have hf := x_f h2 hf
    refine x_iconst (v := 0) C dX10_lastCandle_15 (by decide) ?_
    exact hL16 m (0 : Int32) hf
  · have hf := x_t h2 hf
    refine x_iconst (v := 1) C dX10_lastCandle_11 (by decide) ?_
    refine x_goto (tgt := 16) C dX10_lastCandle_12 (by decide) ?_
    exact hL16 m (1 : Int32) hf
theorem dX10_loudestVoice_0 : decode cX10_loudestVoice 0 = .ok (.bipush 115, 2) := by decide +kernel
theorem dX10_loudestVoice_2 : decode cX10_loudestVoice 2 = .ok (.istore_n 1, 1) := by decide +kernel
theorem dX10_loudestVoice_3 : decode cX10_loudestVoice 3 = .ok (.aload_n 0, 1) := by decide +kernel
theorem dX10_loudestVoice_4 : decode cX10_loudestVoice 4 = .ok (.bipush 97, 2) := by decide +kernel
theorem dX10_loudestVoice_6 : decode cX10_loudestVoice 6 = .ok (.invokevirtual 136, 3) := by decide +kernel
theorem dX10_loudestVoice_9 : decode cX10_loudestVoice 9 = .ok (.aload_n 0, 1) := by decide +kernel
theorem dX10_loudestVoice_10 : decode cX10_loudestVoice 10 = .ok (.iload_n 1, 1) := by decide +kernel
theorem dX10_loudestVoice_11 : decode cX10_loudestVoice 11 = .ok (.invokevirtual 136, 3) := by decide +kernel
theorem dX10_loudestVoice_14 : decode cX10_loudestVoice 14 = .ok (.if_icmp .le 8, 3) := by decide +kernel
theorem dX10_loudestVoice_17 : decode cX10_loudestVoice 17 = .ok (.bipush 97, 2) := by decide +kernel
theorem dX10_loudestVoice_19 : decode cX10_loudestVoice 19 = .ok (.goto 4, 3) := by decide +kernel
theorem dX10_loudestVoice_22 : decode cX10_loudestVoice 22 = .ok (.iload_n 1, 1) := by decide +kernel
theorem dX10_loudestVoice_23 : decode cX10_loudestVoice 23 = .ok (.istore_n 1, 1) := by decide +kernel
theorem dX10_loudestVoice_24 : decode cX10_loudestVoice 24 = .ok (.aload_n 0, 1) := by decide +kernel
theorem dX10_loudestVoice_25 : decode cX10_loudestVoice 25 = .ok (.bipush 116, 2) := by decide +kernel
theorem dX10_loudestVoice_27 : decode cX10_loudestVoice 27 = .ok (.invokevirtual 136, 3) := by decide +kernel
theorem dX10_loudestVoice_30 : decode cX10_loudestVoice 30 = .ok (.aload_n 0, 1) := by decide +kernel
theorem dX10_loudestVoice_31 : decode cX10_loudestVoice 31 = .ok (.iload_n 1, 1) := by decide +kernel
theorem dX10_loudestVoice_32 : decode cX10_loudestVoice 32 = .ok (.invokevirtual 136, 3) := by decide +kernel
theorem dX10_loudestVoice_35 : decode cX10_loudestVoice 35 = .ok (.if_icmp .le 8, 3) := by decide +kernel
theorem dX10_loudestVoice_38 : decode cX10_loudestVoice 38 = .ok (.bipush 116, 2) := by decide +kernel
theorem dX10_loudestVoice_40 : decode cX10_loudestVoice 40 = .ok (.goto 4, 3) := by decide +kernel
theorem dX10_loudestVoice_43 : decode cX10_loudestVoice 43 = .ok (.iload_n 1, 1) := by decide +kernel
theorem dX10_loudestVoice_44 : decode cX10_loudestVoice 44 = .ok (.istore_n 1, 1) := by decide +kernel
theorem dX10_loudestVoice_45 : decode cX10_loudestVoice 45 = .ok (.aload_n 0, 1) := by decide +kernel
theorem dX10_loudestVoice_46 : decode cX10_loudestVoice 46 = .ok (.bipush 98, 2) := by decide +kernel
theorem dX10_loudestVoice_48 : decode cX10_loudestVoice 48 = .ok (.invokevirtual 136, 3) := by decide +kernel
theorem dX10_loudestVoice_51 : decode cX10_loudestVoice 51 = .ok (.aload_n 0, 1) := by decide +kernel
theorem dX10_loudestVoice_52 : decode cX10_loudestVoice 52 = .ok (.iload_n 1, 1) := by decide +kernel
theorem dX10_loudestVoice_53 : decode cX10_loudestVoice 53 = .ok (.invokevirtual 136, 3) := by decide +kernel
theorem dX10_loudestVoice_56 : decode cX10_loudestVoice 56 = .ok (.if_icmp .le 8, 3) := by decide +kernel
theorem dX10_loudestVoice_59 : decode cX10_loudestVoice 59 = .ok (.bipush 98, 2) := by decide +kernel
theorem dX10_loudestVoice_61 : decode cX10_loudestVoice 61 = .ok (.goto 4, 3) := by decide +kernel
theorem dX10_loudestVoice_64 : decode cX10_loudestVoice 64 = .ok (.iload_n 1, 1) := by decide +kernel
theorem dX10_loudestVoice_65 : decode cX10_loudestVoice 65 = .ok (.istore_n 1, 1) := by decide +kernel
theorem dX10_loudestVoice_66 : decode cX10_loudestVoice 66 = .ok (.aload_n 0, 1) := by decide +kernel
theorem dX10_loudestVoice_67 : decode cX10_loudestVoice 67 = .ok (.aload_n 0, 1) := by decide +kernel
theorem dX10_loudestVoice_68 : decode cX10_loudestVoice 68 = .ok (.invokevirtual 85, 3) := by decide +kernel
theorem dX10_loudestVoice_71 : decode cX10_loudestVoice 71 = .ok (.ifCond .ne 7, 3) := by decide +kernel
theorem dX10_loudestVoice_74 : decode cX10_loudestVoice 74 = .ok (.iconst 1, 1) := by decide +kernel
theorem dX10_loudestVoice_75 : decode cX10_loudestVoice 75 = .ok (.goto 4, 3) := by decide +kernel
theorem dX10_loudestVoice_78 : decode cX10_loudestVoice 78 = .ok (.iconst 0, 1) := by decide +kernel
theorem dX10_loudestVoice_79 : decode cX10_loudestVoice 79 = .ok (.iconst 1, 1) := by decide +kernel
theorem dX10_loudestVoice_80 : decode cX10_loudestVoice 80 = .ok (.invokevirtual 63, 3) := by decide +kernel
theorem dX10_loudestVoice_83 : decode cX10_loudestVoice 83 = .ok (.ifCond .eq 7, 3) := by decide +kernel
theorem dX10_loudestVoice_86 : decode cX10_loudestVoice 86 = .ok (.iconst 0, 1) := by decide +kernel
theorem dX10_loudestVoice_87 : decode cX10_loudestVoice 87 = .ok (.goto 5, 3) := by decide +kernel
theorem dX10_loudestVoice_90 : decode cX10_loudestVoice 90 = .ok (.iload_n 1, 1) := by decide +kernel
theorem dX10_loudestVoice_91 : decode cX10_loudestVoice 91 = .ok (.i2c, 1) := by decide +kernel
theorem dX10_loudestVoice_92 : decode cX10_loudestVoice 92 = .ok (.ireturn, 1) := by decide +kernel
set_option maxHeartbeats 4000000 in
set_option maxRecDepth 100000 in
theorem c_X10_loudestVoice (g : xG) (l : Launch) (b : Nat → Nat) (m : MdT) (s : (Nat → Int32))  {u : Int32 × MdT} (hf : f_X10_loudestVoice m s = some u) : ConD g l yX10_loudestVoice cX10_loudestVoice 2 (some .char) ({ frames := 2, cells := 0, slots := 0, locals := 45 } : Room) [.ref (b 0)] [mdO g b m, iaW g (b 1) 110 s] (some (.int u.1)) [mdO g b u.2, iaW g (b 1) 110 s] := by
  unfold f_X10_loudestVoice at hf
  refine Con_of [mdO g b m, iaW g (b 1) 110 s] [(0, .ref (b 0))] rfl rfl (by decide) (Nat.le_of_ble_eq_true rfl) ?_
  intro pW eW sW mW argsW belowW methW c9 C hnm hr
  have C : CX g RX10 cX10_loudestVoice 2 _ pW sW mW argsW methW c9 := C
  have hL65 : ∀ (mL : MdT) (y0 : Int32), f_X10_loudestVoice_65 mL s y0 = some u → VW g (va_A ([mdO g b m, iaW g (b 1) 110 s] : List va_W).flatten sW.heap.size) 2 pW l eW ({ frames := 2, cells := 0, slots := 0, locals := 45 } : Room) sW mW argsW belowW methW c9 0 0 (MQ belowW (xQc g ([mdO g b m, iaW g (b 1) 110 s] : List va_W).flatten sW.heap.size (fun v9 w9 => v9 = some (.int u.1) ∧ w9 = ([mdO g b u.2, iaW g (b 1) 110 s] : List va_W).flatten)) argsW sW 0 0 (va_A ([mdO g b m, iaW g (b 1) 110 s] : List va_W).flatten sW.heap.size)) [mdO g b mL, iaW g (b 1) 110 s] [(0, .ref (b 0))] 65 [.int y0] := by
    intro mL y0 hf
    unfold f_X10_loudestVoice_65 at hf
    refine x_istore_n (lv' := [(1, .int y0), (0, .ref (b 0))]) C dX10_loudestVoice_65 rfl (by decide) rfl ?_
    refine x_aload_n C dX10_loudestVoice_66 rfl 1 rfl ?_
    refine x_aload_n C dX10_loudestVoice_67 rfl 1 rfl ?_
    obtain ⟨u1, hu1, hf⟩ := x_b hf
    refine x_callV (n := 0) (As := []) (rest := [.ref (b 0)]) C (c_X10_lit g l b mL s hu1) ⟨⟨wd_1603, wd_1600, wd_78⟩, ⟨by decide, by decide, by decide⟩, rfl, rfl, Nat.le_of_ble_eq_true rfl, Nat.le_of_ble_eq_true rfl⟩ wd_1602 wd_32 ⟨0, 11, _, _, rfl, rfl, rfl⟩ [] (x_pickD [0, 1] 2 rfl rfl rfl) rfl rfl (Nat.le_of_ble_eq_true rfl) ⟨Nat.le_of_ble_eq_true rfl, Nat.le_of_ble_eq_true rfl⟩ dX10_loudestVoice_68 (x_goD (wss2 := [mdO g b mL, iaW g (b 1) 110 s]) (stk2 := [.int u1, .ref (b 0)]) rfl rfl ?_)
    refine x_if_ne (tgt := 78) C dX10_loudestVoice_71 (by decide) (fun h2 => ?_) (fun h2 => ?_)
    · have hf := x_f h2 hf
      refine x_iconst (v := 0) C dX10_loudestVoice_78 (by decide) ?_
      refine x_iconst (v := 1) C dX10_loudestVoice_79 (by decide) ?_
      obtain ⟨u3, hu3, hf⟩ := x_b hf
      refine x_callV (n := 2) (As := [.int (0 : Int32), .int (1 : Int32)]) (rest := []) C (c_X10_isThrown g l b mL (0 : Int32) (1 : Int32) hu3) ⟨⟨wd_1575, wd_1572, wd_78⟩, ⟨by decide, by decide, by decide⟩, rfl, rfl, Nat.le_of_ble_eq_true rfl, Nat.le_of_ble_eq_true rfl⟩ wd_1574 wd_26 ⟨0, 11, _, _, rfl, rfl, rfl⟩ [iaW g (b 1) 110 s] (x_pickD [0, 1] 2 rfl rfl rfl) rfl rfl (Nat.le_of_ble_eq_true rfl) ⟨Nat.le_of_ble_eq_true rfl, Nat.le_of_ble_eq_true rfl⟩ dX10_loudestVoice_80 (x_goD (wss2 := [mdO g b u3.2, iaW g (b 1) 110 s]) (stk2 := [.int u3.1]) rfl rfl ?_)
      refine x_if_eq (tgt := 90) C dX10_loudestVoice_83 (by decide) (fun h4 => ?_) (fun h4 => ?_)
      · have hf := x_t h4 hf
        refine x_iload_n C dX10_loudestVoice_90 rfl 0 rfl ?_
        refine x_i2c C dX10_loudestVoice_91 rfl ?_
        obtain ⟨h5, hf⟩ := x_y hf
        exact x_zret C hr (x_narC h5).1 ⟨by cases hf; rfl, by cases hf; rfl⟩ dX10_loudestVoice_92
      · have hf := x_f h4 hf
        refine x_iconst (v := 0) C dX10_loudestVoice_86 (by decide) ?_
        refine x_goto (tgt := 92) C dX10_loudestVoice_87 (by decide) ?_
        exact x_zret C hr rfl ⟨by cases hf; rfl, by cases hf; rfl⟩ dX10_loudestVoice_92
    · have hf := x_t h2 hf
      refine x_iconst (v := 1) C dX10_loudestVoice_74 (by decide) ?_
      refine x_goto (tgt := 79) C dX10_loudestVoice_75 (by decide) ?_
      refine x_iconst (v := 1) C dX10_loudestVoice_79 (by decide) ?_
      obtain ⟨u6, hu6, hf⟩ := x_b hf
      refine x_callV (n := 2) (As := [.int (1 : Int32), .int (1 : Int32)]) (rest := []) C (c_X10_isThrown g l b mL (1 : Int32) (1 : Int32) hu6) ⟨⟨wd_1575, wd_1572, wd_78⟩, ⟨by decide, by decide, by decide⟩, rfl, rfl, Nat.le_of_ble_eq_true rfl, Nat.le_of_ble_eq_true rfl⟩ wd_1574 wd_26 ⟨0, 11, _, _, rfl, rfl, rfl⟩ [iaW g (b 1) 110 s] (x_pickD [0, 1] 2 rfl rfl rfl) rfl rfl (Nat.le_of_ble_eq_true rfl) ⟨Nat.le_of_ble_eq_true rfl, Nat.le_of_ble_eq_true rfl⟩ dX10_loudestVoice_80 (x_goD (wss2 := [mdO g b u6.2, iaW g (b 1) 110 s]) (stk2 := [.int u6.1]) rfl rfl ?_)
      refine x_if_eq (tgt := 90) C dX10_loudestVoice_83 (by decide) (fun h7 => ?_) (fun h7 => ?_)
      · have hf := x_t h7 hf
        refine x_iload_n C dX10_loudestVoice_90 rfl 0 rfl ?_
        refine x_i2c C dX10_loudestVoice_91 rfl ?_
        obtain ⟨h8, hf⟩ := x_y hf
        exact x_zret C hr (x_narC h8).1 ⟨by cases hf; rfl, by cases hf; rfl⟩ dX10_loudestVoice_92
      · have hf := x_f h7 hf
        refine x_iconst (v := 0) C dX10_loudestVoice_86 (by decide) ?_
        refine x_goto (tgt := 92) C dX10_loudestVoice_87 (by decide) ?_
        exact x_zret C hr rfl ⟨by cases hf; rfl, by cases hf; rfl⟩ dX10_loudestVoice_92
  have hL44 : ∀ (mL : MdT) (y0 : Int32), f_X10_loudestVoice_44 mL s y0 = some u → VW g (va_A ([mdO g b m, iaW g (b 1) 110 s] : List va_W).flatten sW.heap.size) 2 pW l eW ({ frames := 2, cells := 0, slots := 0, locals := 45 } : Room) sW mW argsW belowW methW c9 0 0 (MQ belowW (xQc g ([mdO g b m, iaW g (b 1) 110 s] : List va_W).flatten sW.heap.size (fun v9 w9 => v9 = some (.int u.1) ∧ w9 = ([mdO g b u.2, iaW g (b 1) 110 s] : List va_W).flatten)) argsW sW 0 0 (va_A ([mdO g b m, iaW g (b 1) 110 s] : List va_W).flatten sW.heap.size)) [mdO g b mL, iaW g (b 1) 110 s] [(0, .ref (b 0))] 44 [.int y0] := by
    intro mL y0 hf
    unfold f_X10_loudestVoice_44 at hf
    refine x_istore_n (lv' := [(1, .int y0), (0, .ref (b 0))]) C dX10_loudestVoice_44 rfl (by decide) rfl ?_
    refine x_aload_n C dX10_loudestVoice_45 rfl 1 rfl ?_
    refine x_bipush (v := 98) C dX10_loudestVoice_46 (by decide) ?_
    obtain ⟨u1, hu1, hf⟩ := x_b hf
    refine x_callV (n := 1) (As := [.int (98 : Int32)]) (rest := []) C (c_X10_sounds g l b mL s (98 : Int32) hu1) ⟨⟨wd_1715, wd_1712, wd_78⟩, ⟨by decide, by decide, by decide⟩, rfl, rfl, Nat.le_of_ble_eq_true rfl, Nat.le_of_ble_eq_true rfl⟩ wd_1714 wd_47 ⟨0, 11, _, _, rfl, rfl, rfl⟩ [] (x_pickD [0, 1] 2 rfl rfl rfl) rfl rfl (Nat.le_of_ble_eq_true rfl) ⟨Nat.le_of_ble_eq_true rfl, Nat.le_of_ble_eq_true rfl⟩ dX10_loudestVoice_48 (x_goD (wss2 := [mdO g b mL, iaW g (b 1) 110 s]) (stk2 := [.int u1]) rfl rfl ?_)
    refine x_aload_n C dX10_loudestVoice_51 rfl 1 rfl ?_
    refine x_iload_n C dX10_loudestVoice_52 rfl 0 rfl ?_
    obtain ⟨u2, hu2, hf⟩ := x_b hf
    refine x_callV (n := 1) (As := [.int y0]) (rest := [.int u1]) C (c_X10_sounds g l b mL s y0 hu2) ⟨⟨wd_1715, wd_1712, wd_78⟩, ⟨by decide, by decide, by decide⟩, rfl, rfl, Nat.le_of_ble_eq_true rfl, Nat.le_of_ble_eq_true rfl⟩ wd_1714 wd_47 ⟨0, 11, _, _, rfl, rfl, rfl⟩ [] (x_pickD [0, 1] 2 rfl rfl rfl) rfl rfl (Nat.le_of_ble_eq_true rfl) ⟨Nat.le_of_ble_eq_true rfl, Nat.le_of_ble_eq_true rfl⟩ dX10_loudestVoice_53 (x_goD (wss2 := [mdO g b mL, iaW g (b 1) 110 s]) (stk2 := [.int u2, .int u1]) rfl rfl ?_)
    refine x_icmp_le (tgt := 64) C dX10_loudestVoice_56 (by decide) (fun h3 => ?_) (fun h3 => ?_)
    · have hf := x_t h3 hf
      refine x_iload_n C dX10_loudestVoice_64 rfl 0 rfl ?_
      refine x_locals (lv' := [(0, .ref (b 0))]) [1] rfl ?_
      exact hL65 mL y0 hf
    · have hf := x_f h3 hf
      refine x_bipush (v := 98) C dX10_loudestVoice_59 (by decide) ?_
      refine x_goto (tgt := 65) C dX10_loudestVoice_61 (by decide) ?_
      refine x_locals (lv' := [(0, .ref (b 0))]) [1] rfl ?_
      exact hL65 mL (98 : Int32) hf
  have hL23 : ∀ (mL : MdT) (y0 : Int32), f_X10_loudestVoice_23 mL s y0 = some u → VW g (va_A ([mdO g b m, iaW g (b 1) 110 s] : List va_W).flatten sW.heap.size) 2 pW l eW ({ frames := 2, cells := 0, slots := 0, locals := 45 } : Room) sW mW argsW belowW methW c9 0 0 (MQ belowW (xQc g ([mdO g b m, iaW g (b 1) 110 s] : List va_W).flatten sW.heap.size (fun v9 w9 => v9 = some (.int u.1) ∧ w9 = ([mdO g b u.2, iaW g (b 1) 110 s] : List va_W).flatten)) argsW sW 0 0 (va_A ([mdO g b m, iaW g (b 1) 110 s] : List va_W).flatten sW.heap.size)) [mdO g b mL, iaW g (b 1) 110 s] [(0, .ref (b 0))] 23 [.int y0] := by
    intro mL y0 hf
    unfold f_X10_loudestVoice_23 at hf
    refine x_istore_n (lv' := [(1, .int y0), (0, .ref (b 0))]) C dX10_loudestVoice_23 rfl (by decide) rfl ?_
    refine x_aload_n C dX10_loudestVoice_24 rfl 1 rfl ?_
    refine x_bipush (v := 116) C dX10_loudestVoice_25 (by decide) ?_
    obtain ⟨u1, hu1, hf⟩ := x_b hf
    refine x_callV (n := 1) (As := [.int (116 : Int32)]) (rest := []) C (c_X10_sounds g l b mL s (116 : Int32) hu1) ⟨⟨wd_1715, wd_1712, wd_78⟩, ⟨by decide, by decide, by decide⟩, rfl, rfl, Nat.le_of_ble_eq_true rfl, Nat.le_of_ble_eq_true rfl⟩ wd_1714 wd_47 ⟨0, 11, _, _, rfl, rfl, rfl⟩ [] (x_pickD [0, 1] 2 rfl rfl rfl) rfl rfl (Nat.le_of_ble_eq_true rfl) ⟨Nat.le_of_ble_eq_true rfl, Nat.le_of_ble_eq_true rfl⟩ dX10_loudestVoice_27 (x_goD (wss2 := [mdO g b mL, iaW g (b 1) 110 s]) (stk2 := [.int u1]) rfl rfl ?_)
    refine x_aload_n C dX10_loudestVoice_30 rfl 1 rfl ?_
    refine x_iload_n C dX10_loudestVoice_31 rfl 0 rfl ?_
    obtain ⟨u2, hu2, hf⟩ := x_b hf
    refine x_callV (n := 1) (As := [.int y0]) (rest := [.int u1]) C (c_X10_sounds g l b mL s y0 hu2) ⟨⟨wd_1715, wd_1712, wd_78⟩, ⟨by decide, by decide, by decide⟩, rfl, rfl, Nat.le_of_ble_eq_true rfl, Nat.le_of_ble_eq_true rfl⟩ wd_1714 wd_47 ⟨0, 11, _, _, rfl, rfl, rfl⟩ [] (x_pickD [0, 1] 2 rfl rfl rfl) rfl rfl (Nat.le_of_ble_eq_true rfl) ⟨Nat.le_of_ble_eq_true rfl, Nat.le_of_ble_eq_true rfl⟩ dX10_loudestVoice_32 (x_goD (wss2 := [mdO g b mL, iaW g (b 1) 110 s]) (stk2 := [.int u2, .int u1]) rfl rfl ?_)
    refine x_icmp_le (tgt := 43) C dX10_loudestVoice_35 (by decide) (fun h3 => ?_) (fun h3 => ?_)
    · have hf := x_t h3 hf
      refine x_iload_n C dX10_loudestVoice_43 rfl 0 rfl ?_
      refine x_locals (lv' := [(0, .ref (b 0))]) [1] rfl ?_
      exact hL44 mL y0 hf
    · have hf := x_f h3 hf
      refine x_bipush (v := 116) C dX10_loudestVoice_38 (by decide) ?_
      refine x_goto (tgt := 44) C dX10_loudestVoice_40 (by decide) ?_
      refine x_locals (lv' := [(0, .ref (b 0))]) [1] rfl ?_
      exact hL44 mL (116 : Int32) hf
  refine x_bipush (v := 115) C dX10_loudestVoice_0 (by decide) ?_
  refine x_istore_n (lv' := [(1, .int (115 : Int32)), (0, .ref (b 0))]) C dX10_loudestVoice_2 rfl (by decide) rfl ?_
  refine x_aload_n C dX10_loudestVoice_3 rfl 1 rfl ?_
  refine x_bipush (v := 97) C dX10_loudestVoice_4 (by decide) ?_
  obtain ⟨u1, hu1, hf⟩ := x_b hf
  refine x_callV (n := 1) (As := [.int (97 : Int32)]) (rest := []) C (c_X10_sounds g l b m s (97 : Int32) hu1) ⟨⟨wd_1715, wd_1712, wd_78⟩, ⟨by decide, by decide, by decide⟩, rfl, rfl, Nat.le_of_ble_eq_true rfl, Nat.le_of_ble_eq_true rfl⟩ wd_1714 wd_47 ⟨0, 11, _, _, rfl, rfl, rfl⟩ [] (x_pickD [0, 1] 2 rfl rfl rfl) rfl rfl (Nat.le_of_ble_eq_true rfl) ⟨Nat.le_of_ble_eq_true rfl, Nat.le_of_ble_eq_true rfl⟩ dX10_loudestVoice_6 (x_goD (wss2 := [mdO g b m, iaW g (b 1) 110 s]) (stk2 := [.int u1]) rfl rfl ?_)
  refine x_aload_n C dX10_loudestVoice_9 rfl 1 rfl ?_
  refine x_iload_n C dX10_loudestVoice_10 rfl 0 rfl ?_
  obtain ⟨u2, hu2, hf⟩ := x_b hf
  refine x_callV (n := 1) (As := [.int (115 : Int32)]) (rest := [.int u1]) C (c_X10_sounds g l b m s (115 : Int32) hu2) ⟨⟨wd_1715, wd_1712, wd_78⟩, ⟨by decide, by decide, by decide⟩, rfl, rfl, Nat.le_of_ble_eq_true rfl, Nat.le_of_ble_eq_true rfl⟩ wd_1714 wd_47 ⟨0, 11, _, _, rfl, rfl, rfl⟩ [] (x_pickD [0, 1] 2 rfl rfl rfl) rfl rfl (Nat.le_of_ble_eq_true rfl) ⟨Nat.le_of_ble_eq_true rfl, Nat.le_of_ble_eq_true rfl⟩ dX10_loudestVoice_11 (x_goD (wss2 := [mdO g b m, iaW g (b 1) 110 s]) (stk2 := [.int u2, .int u1]) rfl rfl ?_)
  refine x_icmp_le (tgt := 22) C dX10_loudestVoice_14 (by decide) (fun h3 => ?_) (fun h3 => ?_)
  · have hf := x_t h3 hf
    refine x_iload_n C dX10_loudestVoice_22 rfl 0 rfl ?_
    refine x_locals (lv' := [(0, .ref (b 0))]) [1] rfl ?_
    exact hL23 m (115 : Int32) hf
  · have hf := x_f h3 hf
    refine x_bipush (v := 97) C dX10_loudestVoice_17 (by decide) ?_
    refine x_goto (tgt := 23) C dX10_loudestVoice_19 (by decide) ?_
    refine x_locals (lv' := [(0, .ref (b 0))]) [1] rfl ?_
    exact hL23 m (97 : Int32) hf
theorem dX10_addedWax_0 : decode cX10_addedWax 0 = .ok (.aload_n 0, 1) := by decide +kernel
theorem dX10_addedWax_1 : decode cX10_addedWax 1 = .ok (.iconst 0, 1) := by decide +kernel
theorem dX10_addedWax_2 : decode cX10_addedWax 2 = .ok (.putfield 41, 3) := by decide +kernel
theorem dX10_addedWax_5 : decode cX10_addedWax 5 = .ok (.aload_n 0, 1) := by decide +kernel
theorem dX10_addedWax_6 : decode cX10_addedWax 6 = .ok (.getfield 9, 3) := by decide +kernel
theorem dX10_addedWax_9 : decode cX10_addedWax 9 = .ok (.bipush 8, 2) := by decide +kernel
theorem dX10_addedWax_11 : decode cX10_addedWax 11 = .ok (.iaload, 1) := by decide +kernel
theorem dX10_addedWax_12 : decode cX10_addedWax 12 = .ok (.i2l, 1) := by decide +kernel
theorem dX10_addedWax_13 : decode cX10_addedWax 13 = .ok (.lreturn, 1) := by decide +kernel
set_option maxHeartbeats 4000000 in
set_option maxRecDepth 100000 in
theorem c_X10_addedWax (g : xG) (l : Launch) (b : Nat → Nat) (m : MdT) (s : (Nat → Int32))  {u : Int64 × MdT} (hf : f_X10_addedWax m s = some u) : ConD g l yX10_addedWax cX10_addedWax 1 (some .long) ({ frames := 0, cells := 0, slots := 0, locals := 0 } : Room) [.ref (b 0)] [mdO g b m, iaW g (b 1) 110 s] (some (.long u.1)) [mdO g b u.2, iaW g (b 1) 110 s] := by
  unfold f_X10_addedWax at hf
  refine Con_of [mdO g b m, iaW g (b 1) 110 s] [(0, .ref (b 0))] rfl rfl (by decide) (Nat.le_of_ble_eq_true rfl) ?_
  intro pW eW sW mW argsW belowW methW c9 C hnm hr
  have C : CX g RX10 cX10_addedWax 1 _ pW sW mW argsW methW c9 := C
  refine x_aload_n C dX10_addedWax_0 rfl 0 rfl ?_
  refine x_iconst (v := 0) C dX10_addedWax_1 (by decide) ?_
  refine x_put (ci := 11) (ty := .int) (v := .int (0 : Int32)) (b := mdO g b m) (b' := mdO g b (m.1, (0 : Int32), m.2.2.1, m.2.2.2.1, m.2.2.2.2.1, m.2.2.2.2.2.1, m.2.2.2.2.2.2.1, m.2.2.2.2.2.2.2.1, m.2.2.2.2.2.2.2.2.1, m.2.2.2.2.2.2.2.2.2)) (wss' := [mdO g b (m.1, (0 : Int32), m.2.2.1, m.2.2.2.1, m.2.2.2.2.1, m.2.2.2.2.2.1, m.2.2.2.2.2.2.1, m.2.2.2.2.2.2.2.1, m.2.2.2.2.2.2.2.2.1, m.2.2.2.2.2.2.2.2.2), iaW g (b 1) 110 s]) C ixX10 tyX10 tyX10_ok nmX10 rfl 6 (by decide) wd_1498 (fun _ h => h) rfl (tyX10_ok 6 (by decide)) rfl rfl 0 rfl 0 (mdO_at0 g b _) (Nat.le_of_ble_eq_true rfl) rfl rfl dX10_addedWax_2 ?_
  refine x_aload_n C dX10_addedWax_5 rfl 0 rfl ?_
  refine x_get (ci := 11) (v := .ref (b 1)) (b := mdO g b (m.1, (0 : Int32), m.2.2.1, m.2.2.2.1, m.2.2.2.2.1, m.2.2.2.2.2.1, m.2.2.2.2.2.2.1, m.2.2.2.2.2.2.2.1, m.2.2.2.2.2.2.2.2.1, m.2.2.2.2.2.2.2.2.2)) C ixX10 rfl 0 (by decide) wd_1492 (fun _ h => h) 0 rfl 0 (mdO_at0 g b _) rfl dX10_addedWax_6 ?_
  refine x_bipush (v := 8) C dX10_addedWax_9 (by decide) ?_
  obtain ⟨h1, hf⟩ := x_n hf
  refine x_iald (b := iaW g (b 1) 110 s) C 1 rfl 0 (iaW_at0 g (b 1) 110 _) h1 dX10_addedWax_11 ?_
  refine x_i2l C dX10_addedWax_12 rfl ?_
  exact x_lret C hr ⟨by cases hf; rfl, by cases hf; rfl⟩ dX10_addedWax_13
theorem wd_1783 : Cond.instanceMethod yX10_addedWax ∈ xTB := xTB_in 1783 (by decide +kernel) (by decide +kernel)
theorem wd_1784 : Cond.selects yX10_addedWax.cls yX10_addedWax yX10_addedWax ∈ xTB := xTB_in 1784 (by decide +kernel) (by decide +kernel)
theorem wd_1785 : Cond.code yX10_addedWax cX10_addedWax 1 (some .long) ∈ xTB := xTB_in 1785 (by decide +kernel) (by decide +kernel)
theorem wd_1790 : Cond.methodLink RX10 148 yX10_addedWax ∈ xTB := xTB_in 1790 (by decide +kernel) (by decide +kernel)
theorem dX10_addedWaxByParts_0 : decode cX10_addedWaxByParts 0 = .ok (.aload_n 0, 1) := by decide +kernel
theorem dX10_addedWaxByParts_1 : decode cX10_addedWaxByParts 1 = .ok (.invokevirtual 148, 3) := by decide +kernel
theorem dX10_addedWaxByParts_4 : decode cX10_addedWaxByParts 4 = .ok (.lreturn, 1) := by decide +kernel
set_option maxHeartbeats 4000000 in
set_option maxRecDepth 100000 in
theorem c_X10_addedWaxByParts (g : xG) (l : Launch) (b : Nat → Nat) (m : MdT) (s : (Nat → Int32))  {u : Int64 × MdT} (hf : f_X10_addedWaxByParts m s = some u) : ConD g l yX10_addedWaxByParts cX10_addedWaxByParts 1 (some .long) ({ frames := 1, cells := 0, slots := 0, locals := 20 } : Room) [.ref (b 0)] [mdO g b m, iaW g (b 1) 110 s] (some (.long u.1)) [mdO g b u.2, iaW g (b 1) 110 s] := by
  unfold f_X10_addedWaxByParts at hf
  refine Con_of [mdO g b m, iaW g (b 1) 110 s] [(0, .ref (b 0))] rfl rfl (by decide) (Nat.le_of_ble_eq_true rfl) ?_
  intro pW eW sW mW argsW belowW methW c9 C hnm hr
  have C : CX g RX10 cX10_addedWaxByParts 1 _ pW sW mW argsW methW c9 := C
  refine x_aload_n C dX10_addedWaxByParts_0 rfl 0 rfl ?_
  obtain ⟨u1, hu1, hf⟩ := x_b hf
  refine x_callV (n := 0) (As := []) (rest := []) C (c_X10_addedWax g l b m s hu1) ⟨⟨wd_1785, wd_1790, wd_78⟩, ⟨by decide, by decide, by decide⟩, rfl, rfl, Nat.le_of_ble_eq_true rfl, Nat.le_of_ble_eq_true rfl⟩ wd_1783 wd_1784 ⟨0, 11, _, _, rfl, rfl, rfl⟩ [] (x_pickD [0, 1] 2 rfl rfl rfl) rfl rfl (Nat.le_of_ble_eq_true rfl) ⟨Nat.le_of_ble_eq_true rfl, Nat.le_of_ble_eq_true rfl⟩ dX10_addedWaxByParts_1 (x_goD (wss2 := [mdO g b u1.2, iaW g (b 1) 110 s]) (stk2 := [.long u1.1]) rfl rfl ?_)
  exact x_lret C hr ⟨by cases hf; rfl, by cases hf; rfl⟩ dX10_addedWaxByParts_4
theorem dX10_burnt_0 : decode cX10_burnt 0 = .ok (.aload_n 0, 1) := by decide +kernel
theorem dX10_burnt_1 : decode cX10_burnt 1 = .ok (.iconst 0, 1) := by decide +kernel
theorem dX10_burnt_2 : decode cX10_burnt 2 = .ok (.putfield 41, 3) := by decide +kernel
theorem dX10_burnt_5 : decode cX10_burnt 5 = .ok (.aload_n 0, 1) := by decide +kernel
theorem dX10_burnt_6 : decode cX10_burnt 6 = .ok (.getfield 9, 3) := by decide +kernel
theorem dX10_burnt_9 : decode cX10_burnt 9 = .ok (.bipush 9, 2) := by decide +kernel
theorem dX10_burnt_11 : decode cX10_burnt 11 = .ok (.iaload, 1) := by decide +kernel
theorem dX10_burnt_12 : decode cX10_burnt 12 = .ok (.ireturn, 1) := by decide +kernel
set_option maxHeartbeats 4000000 in
set_option maxRecDepth 100000 in
theorem c_X10_burnt (g : xG) (l : Launch) (b : Nat → Nat) (m : MdT) (s : (Nat → Int32))  {u : Int32 × MdT} (hf : f_X10_burnt m s = some u) : ConD g l yX10_burnt cX10_burnt 1 (some .int) ({ frames := 0, cells := 0, slots := 0, locals := 0 } : Room) [.ref (b 0)] [mdO g b m, iaW g (b 1) 110 s] (some (.int u.1)) [mdO g b u.2, iaW g (b 1) 110 s] := by
  unfold f_X10_burnt at hf
  refine Con_of [mdO g b m, iaW g (b 1) 110 s] [(0, .ref (b 0))] rfl rfl (by decide) (Nat.le_of_ble_eq_true rfl) ?_
  intro pW eW sW mW argsW belowW methW c9 C hnm hr
  have C : CX g RX10 cX10_burnt 1 _ pW sW mW argsW methW c9 := C
  refine x_aload_n C dX10_burnt_0 rfl 0 rfl ?_
  refine x_iconst (v := 0) C dX10_burnt_1 (by decide) ?_
  refine x_put (ci := 11) (ty := .int) (v := .int (0 : Int32)) (b := mdO g b m) (b' := mdO g b (m.1, (0 : Int32), m.2.2.1, m.2.2.2.1, m.2.2.2.2.1, m.2.2.2.2.2.1, m.2.2.2.2.2.2.1, m.2.2.2.2.2.2.2.1, m.2.2.2.2.2.2.2.2.1, m.2.2.2.2.2.2.2.2.2)) (wss' := [mdO g b (m.1, (0 : Int32), m.2.2.1, m.2.2.2.1, m.2.2.2.2.1, m.2.2.2.2.2.1, m.2.2.2.2.2.2.1, m.2.2.2.2.2.2.2.1, m.2.2.2.2.2.2.2.2.1, m.2.2.2.2.2.2.2.2.2), iaW g (b 1) 110 s]) C ixX10 tyX10 tyX10_ok nmX10 rfl 6 (by decide) wd_1498 (fun _ h => h) rfl (tyX10_ok 6 (by decide)) rfl rfl 0 rfl 0 (mdO_at0 g b _) (Nat.le_of_ble_eq_true rfl) rfl rfl dX10_burnt_2 ?_
  refine x_aload_n C dX10_burnt_5 rfl 0 rfl ?_
  refine x_get (ci := 11) (v := .ref (b 1)) (b := mdO g b (m.1, (0 : Int32), m.2.2.1, m.2.2.2.1, m.2.2.2.2.1, m.2.2.2.2.2.1, m.2.2.2.2.2.2.1, m.2.2.2.2.2.2.2.1, m.2.2.2.2.2.2.2.2.1, m.2.2.2.2.2.2.2.2.2)) C ixX10 rfl 0 (by decide) wd_1492 (fun _ h => h) 0 rfl 0 (mdO_at0 g b _) rfl dX10_burnt_6 ?_
  refine x_bipush (v := 9) C dX10_burnt_9 (by decide) ?_
  obtain ⟨h1, hf⟩ := x_n hf
  refine x_iald (b := iaW g (b 1) 110 s) C 1 rfl 0 (iaW_at0 g (b 1) 110 _) h1 dX10_burnt_11 ?_
  exact x_iret C hr ⟨by cases hf; rfl, by cases hf; rfl⟩ dX10_burnt_12
theorem dX10_allWax_0 : decode cX10_allWax 0 = .ok (.iconst 0, 1) := by decide +kernel
theorem dX10_allWax_1 : decode cX10_allWax 1 = .ok (.istore_n 1, 1) := by decide +kernel
theorem dX10_allWax_2 : decode cX10_allWax 2 = .ok (.iconst 0, 1) := by decide +kernel
theorem dX10_allWax_3 : decode cX10_allWax 3 = .ok (.istore_n 2, 1) := by decide +kernel
theorem dX10_allWax_4 : decode cX10_allWax 4 = .ok (.iload_n 2, 1) := by decide +kernel
theorem dX10_allWax_5 : decode cX10_allWax 5 = .ok (.aload_n 0, 1) := by decide +kernel
theorem dX10_allWax_6 : decode cX10_allWax 6 = .ok (.getfield 9, 3) := by decide +kernel
theorem dX10_allWax_9 : decode cX10_allWax 9 = .ok (.iconst 3, 1) := by decide +kernel
theorem dX10_allWax_10 : decode cX10_allWax 10 = .ok (.iaload, 1) := by decide +kernel
theorem dX10_allWax_11 : decode cX10_allWax 11 = .ok (.if_icmp .ge 18, 3) := by decide +kernel
theorem dX10_allWax_14 : decode cX10_allWax 14 = .ok (.iload_n 1, 1) := by decide +kernel
theorem dX10_allWax_15 : decode cX10_allWax 15 = .ok (.aload_n 0, 1) := by decide +kernel
theorem dX10_allWax_16 : decode cX10_allWax 16 = .ok (.iload_n 2, 1) := by decide +kernel
theorem dX10_allWax_17 : decode cX10_allWax 17 = .ok (.iconst 1, 1) := by decide +kernel
theorem dX10_allWax_18 : decode cX10_allWax 18 = .ok (.invokevirtual 55, 3) := by decide +kernel
theorem dX10_allWax_21 : decode cX10_allWax 21 = .ok (.iadd, 1) := by decide +kernel
theorem dX10_allWax_22 : decode cX10_allWax 22 = .ok (.istore_n 1, 1) := by decide +kernel
theorem dX10_allWax_23 : decode cX10_allWax 23 = .ok (.iinc 2 1, 3) := by decide +kernel
theorem dX10_allWax_26 : decode cX10_allWax 26 = .ok (.goto (-22), 3) := by decide +kernel
theorem dX10_allWax_29 : decode cX10_allWax 29 = .ok (.iload_n 1, 1) := by decide +kernel
theorem dX10_allWax_30 : decode cX10_allWax 30 = .ok (.ireturn, 1) := by decide +kernel
set_option maxHeartbeats 4000000 in
set_option maxRecDepth 100000 in
theorem c_X10_allWax (g : xG) (l : Launch) (b : Nat → Nat) (m : MdT) (s : (Nat → Int32))  {u : Int32} (hf : f_X10_allWax m s = some u) : ConD g l yX10_allWax cX10_allWax 3 (some .int) ({ frames := 1, cells := 0, slots := 0, locals := 22 } : Room) [.ref (b 0)] [mdO g b m, iaW g (b 1) 110 s] (some (.int u)) [mdO g b m, iaW g (b 1) 110 s] := by
  unfold f_X10_allWax at hf
  refine Con_of [mdO g b m, iaW g (b 1) 110 s] [(0, .ref (b 0))] rfl rfl (by decide) (Nat.le_of_ble_eq_true rfl) ?_
  intro pW eW sW mW argsW belowW methW c9 C hnm hr
  have C : CX g RX10 cX10_allWax 3 _ pW sW mW argsW methW c9 := C
  have hL4 : ∀ (nW : Nat) (x1 : Int32) (x2 : Int32), f_X10_allWax_4 nW m s x1 x2 = some u → VW g (va_A ([mdO g b m, iaW g (b 1) 110 s] : List va_W).flatten sW.heap.size) 3 pW l eW ({ frames := 1, cells := 0, slots := 0, locals := 22 } : Room) sW mW argsW belowW methW c9 0 0 (MQ belowW (xQc g ([mdO g b m, iaW g (b 1) 110 s] : List va_W).flatten sW.heap.size (fun v9 w9 => v9 = some (.int u) ∧ w9 = ([mdO g b m, iaW g (b 1) 110 s] : List va_W).flatten)) argsW sW 0 0 (va_A ([mdO g b m, iaW g (b 1) 110 s] : List va_W).flatten sW.heap.size)) [mdO g b m, iaW g (b 1) 110 s] [(0, .ref (b 0)), (1, .int x1), (2, .int x2)] 4 [] := by
    intro nW
    induction nW with
    | zero => intro x1 x2 hf; rw [f_X10_allWax_4] at hf; cases hf
    | succ nW ih =>
      intro x1 x2 hf
      rw [f_X10_allWax_4] at hf
      refine x_iload_n C dX10_allWax_4 rfl 2 rfl ?_
      refine x_aload_n C dX10_allWax_5 rfl 0 rfl ?_
      refine x_get (ci := 11) (v := .ref (b 1)) (b := mdO g b m) C ixX10 rfl 0 (by decide) wd_1492 (fun _ h => h) 0 rfl 0 (mdO_at0 g b _) rfl dX10_allWax_6 ?_
      refine x_iconst (v := 3) C dX10_allWax_9 (by decide) ?_
      obtain ⟨h1, hf⟩ := x_n hf
      refine x_iald (b := iaW g (b 1) 110 s) C 1 rfl 0 (iaW_at0 g (b 1) 110 _) h1 dX10_allWax_10 ?_
      refine x_icmp_ge (tgt := 29) C dX10_allWax_11 (by decide) (fun h2 => ?_) (fun h2 => ?_)
      · have hf := x_t h2 hf
        refine x_iload_n C dX10_allWax_29 rfl 1 rfl ?_
        exact x_iret C hr ⟨by cases hf; rfl, by cases hf; rfl⟩ dX10_allWax_30
      · have hf := x_f h2 hf
        refine x_iload_n C dX10_allWax_14 rfl 1 rfl ?_
        refine x_aload_n C dX10_allWax_15 rfl 0 rfl ?_
        refine x_iload_n C dX10_allWax_16 rfl 2 rfl ?_
        refine x_iconst (v := 1) C dX10_allWax_17 (by decide) ?_
        obtain ⟨u3, hu3, hf⟩ := x_b hf
        refine x_callV (n := 2) (As := [.int x2, .int (1 : Int32)]) (rest := [.int x1]) C (c_X10_of g l b m s x2 (1 : Int32) hu3) ⟨⟨wd_1599, wd_1596, wd_78⟩, ⟨by decide, by decide, by decide⟩, rfl, rfl, Nat.le_of_ble_eq_true rfl, Nat.le_of_ble_eq_true rfl⟩ wd_1598 wd_31 ⟨0, 11, _, _, rfl, rfl, rfl⟩ [] (x_pickD [0, 1] 2 rfl rfl rfl) rfl rfl (Nat.le_of_ble_eq_true rfl) ⟨Nat.le_of_ble_eq_true rfl, Nat.le_of_ble_eq_true rfl⟩ dX10_allWax_18 (x_goD (wss2 := [mdO g b m, iaW g (b 1) 110 s]) (stk2 := [.int u3, .int x1]) rfl rfl ?_)
        refine x_iadd C dX10_allWax_21 ?_
        refine x_istore_n (lv' := [(1, .int (x1 + u3)), (0, .ref (b 0)), (2, .int x2)]) C dX10_allWax_22 rfl (by decide) rfl ?_
        refine x_iinc (v := x2 + 1) (lv' := [(2, .int (x2 + 1)), (1, .int (x1 + u3)), (0, .ref (b 0))]) C dX10_allWax_23 2 rfl rfl (by decide) rfl ?_
        refine x_goto (tgt := 4) C dX10_allWax_26 (by decide) ?_
        refine x_locals (lv' := [(0, .ref (b 0)), (1, .int (x1 + u3)), (2, .int (x2 + 1))]) [2, 1, 0] rfl ?_
        exact ih (x1 + u3) (x2 + 1) hf
  refine x_iconst (v := 0) C dX10_allWax_0 (by decide) ?_
  refine x_istore_n (lv' := [(1, .int (0 : Int32)), (0, .ref (b 0))]) C dX10_allWax_1 rfl (by decide) rfl ?_
  refine x_iconst (v := 0) C dX10_allWax_2 (by decide) ?_
  refine x_istore_n (lv' := [(2, .int (0 : Int32)), (1, .int (0 : Int32)), (0, .ref (b 0))]) C dX10_allWax_3 rfl (by decide) rfl ?_
  refine x_locals (lv' := [(0, .ref (b 0)), (1, .int (0 : Int32)), (2, .int (0 : Int32))]) [2, 1, 0] rfl ?_
  exact hL4 xFuel (0 : Int32) (0 : Int32) hf
theorem wd_48 : Cond.selects yX10_allWax.cls yX10_allWax yX10_allWax ∈ xTB := xTB_in 48 (by decide +kernel) (by decide +kernel)
theorem wd_1799 : Cond.methodLink RX10 152 yX10_allWax ∈ xTB := xTB_in 1799 (by decide +kernel) (by decide +kernel)
theorem wd_1801 : Cond.instanceMethod yX10_allWax ∈ xTB := xTB_in 1801 (by decide +kernel) (by decide +kernel)
theorem wd_1802 : Cond.code yX10_allWax cX10_allWax 3 (some .int) ∈ xTB := xTB_in 1802 (by decide +kernel) (by decide +kernel)
theorem dX10_meanWax_0 : decode cX10_meanWax 0 = .ok (.aload_n 0, 1) := by decide +kernel
theorem dX10_meanWax_1 : decode cX10_meanWax 1 = .ok (.aload_n 0, 1) := by decide +kernel
theorem dX10_meanWax_2 : decode cX10_meanWax 2 = .ok (.getfield 9, 3) := by decide +kernel
theorem dX10_meanWax_5 : decode cX10_meanWax 5 = .ok (.iconst 3, 1) := by decide +kernel
theorem dX10_meanWax_6 : decode cX10_meanWax 6 = .ok (.iaload, 1) := by decide +kernel
theorem dX10_meanWax_7 : decode cX10_meanWax 7 = .ok (.ifCond .ne 7, 3) := by decide +kernel
theorem dX10_meanWax_10 : decode cX10_meanWax 10 = .ok (.iconst 1, 1) := by decide +kernel
theorem dX10_meanWax_11 : decode cX10_meanWax 11 = .ok (.goto 4, 3) := by decide +kernel
theorem dX10_meanWax_14 : decode cX10_meanWax 14 = .ok (.iconst 0, 1) := by decide +kernel
theorem dX10_meanWax_15 : decode cX10_meanWax 15 = .ok (.iconst 1, 1) := by decide +kernel
theorem dX10_meanWax_16 : decode cX10_meanWax 16 = .ok (.invokevirtual 63, 3) := by decide +kernel
theorem dX10_meanWax_19 : decode cX10_meanWax 19 = .ok (.ifCond .eq 7, 3) := by decide +kernel
theorem dX10_meanWax_22 : decode cX10_meanWax 22 = .ok (.dconst 0, 1) := by decide +kernel
theorem dX10_meanWax_23 : decode cX10_meanWax 23 = .ok (.goto 16, 3) := by decide +kernel
theorem dX10_meanWax_26 : decode cX10_meanWax 26 = .ok (.aload_n 0, 1) := by decide +kernel
theorem dX10_meanWax_27 : decode cX10_meanWax 27 = .ok (.invokevirtual 152, 3) := by decide +kernel
theorem dX10_meanWax_30 : decode cX10_meanWax 30 = .ok (.i2d, 1) := by decide +kernel
theorem dX10_meanWax_31 : decode cX10_meanWax 31 = .ok (.aload_n 0, 1) := by decide +kernel
theorem dX10_meanWax_32 : decode cX10_meanWax 32 = .ok (.getfield 9, 3) := by decide +kernel
theorem dX10_meanWax_35 : decode cX10_meanWax 35 = .ok (.iconst 3, 1) := by decide +kernel
theorem dX10_meanWax_36 : decode cX10_meanWax 36 = .ok (.iaload, 1) := by decide +kernel
theorem dX10_meanWax_37 : decode cX10_meanWax 37 = .ok (.i2d, 1) := by decide +kernel
theorem dX10_meanWax_38 : decode cX10_meanWax 38 = .ok (.ddiv, 1) := by decide +kernel
theorem dX10_meanWax_39 : decode cX10_meanWax 39 = .ok (.dreturn, 1) := by decide +kernel
set_option maxHeartbeats 4000000 in
set_option maxRecDepth 100000 in
theorem c_X10_meanWax (g : xG) (l : Launch) (b : Nat → Nat) (m : MdT) (s : (Nat → Int32))  {u : UInt64 × MdT} (hf : f_X10_meanWax m s = some u) : ConD g l yX10_meanWax cX10_meanWax 1 (some .double) ({ frames := 2, cells := 0, slots := 0, locals := 44 } : Room) [.ref (b 0)] [mdO g b m, iaW g (b 1) 110 s] (some (.double u.1)) [mdO g b u.2, iaW g (b 1) 110 s] := by
  unfold f_X10_meanWax at hf
  refine Con_of [mdO g b m, iaW g (b 1) 110 s] [(0, .ref (b 0))] rfl rfl (by decide) (Nat.le_of_ble_eq_true rfl) ?_
  intro pW eW sW mW argsW belowW methW c9 C hnm hr
  have C : CX g RX10 cX10_meanWax 1 _ pW sW mW argsW methW c9 := C
  have hL15 : ∀ (mL : MdT) (y0 : Int32), f_X10_meanWax_15 mL s y0 = some u → VW g (va_A ([mdO g b m, iaW g (b 1) 110 s] : List va_W).flatten sW.heap.size) 1 pW l eW ({ frames := 2, cells := 0, slots := 0, locals := 44 } : Room) sW mW argsW belowW methW c9 0 0 (MQ belowW (xQc g ([mdO g b m, iaW g (b 1) 110 s] : List va_W).flatten sW.heap.size (fun v9 w9 => v9 = some (.double u.1) ∧ w9 = ([mdO g b u.2, iaW g (b 1) 110 s] : List va_W).flatten)) argsW sW 0 0 (va_A ([mdO g b m, iaW g (b 1) 110 s] : List va_W).flatten sW.heap.size)) [mdO g b mL, iaW g (b 1) 110 s] [(0, .ref (b 0))] 15 [.int y0, .ref (b 0)] := by
    intro mL y0 hf
    unfold f_X10_meanWax_15 at hf
    refine x_iconst (v := 1) C dX10_meanWax_15 (by decide) ?_
    obtain ⟨u1, hu1, hf⟩ := x_b hf
    refine x_callV (n := 2) (As := [.int y0, .int (1 : Int32)]) (rest := []) C (c_X10_isThrown g l b mL y0 (1 : Int32) hu1) ⟨⟨wd_1575, wd_1572, wd_78⟩, ⟨by decide, by decide, by decide⟩, rfl, rfl, Nat.le_of_ble_eq_true rfl, Nat.le_of_ble_eq_true rfl⟩ wd_1574 wd_26 ⟨0, 11, _, _, rfl, rfl, rfl⟩ [iaW g (b 1) 110 s] (x_pickD [0, 1] 2 rfl rfl rfl) rfl rfl (Nat.le_of_ble_eq_true rfl) ⟨Nat.le_of_ble_eq_true rfl, Nat.le_of_ble_eq_true rfl⟩ dX10_meanWax_16 (x_goD (wss2 := [mdO g b u1.2, iaW g (b 1) 110 s]) (stk2 := [.int u1.1]) rfl rfl ?_)
    refine x_if_eq (tgt := 26) C dX10_meanWax_19 (by decide) (fun h2 => ?_) (fun h2 => ?_)
    · have hf := x_t h2 hf
      refine x_aload_n C dX10_meanWax_26 rfl 0 rfl ?_
      obtain ⟨u3, hu3, hf⟩ := x_b hf
      refine x_callV (n := 0) (As := []) (rest := []) C (c_X10_allWax g l b u1.2 s hu3) ⟨⟨wd_1802, wd_1799, wd_78⟩, ⟨by decide, by decide, by decide⟩, rfl, rfl, Nat.le_of_ble_eq_true rfl, Nat.le_of_ble_eq_true rfl⟩ wd_1801 wd_48 ⟨0, 11, _, _, rfl, rfl, rfl⟩ [] (x_pickD [0, 1] 2 rfl rfl rfl) rfl rfl (Nat.le_of_ble_eq_true rfl) ⟨Nat.le_of_ble_eq_true rfl, Nat.le_of_ble_eq_true rfl⟩ dX10_meanWax_27 (x_goD (wss2 := [mdO g b u1.2, iaW g (b 1) 110 s]) (stk2 := [.int u3]) rfl rfl ?_)
      refine x_i2d C dX10_meanWax_30 ?_
      refine x_aload_n C dX10_meanWax_31 rfl 0 rfl ?_
      refine x_get (ci := 11) (v := .ref (b 1)) (b := mdO g b u1.2) C ixX10 rfl 0 (by decide) wd_1492 (fun _ h => h) 0 rfl 0 (mdO_at0 g b _) rfl dX10_meanWax_32 ?_
      refine x_iconst (v := 3) C dX10_meanWax_35 (by decide) ?_
      obtain ⟨h4, hf⟩ := x_n hf
      refine x_iald (b := iaW g (b 1) 110 s) C 1 rfl 0 (iaW_at0 g (b 1) 110 _) h4 dX10_meanWax_36 ?_
      refine x_i2d C dX10_meanWax_37 ?_
      obtain ⟨h5, hf⟩ := x_y hf
      refine x_ddiv C dX10_meanWax_38 h5 ?_
      exact x_dret C hr ⟨by cases hf; rfl, by cases hf; rfl⟩ dX10_meanWax_39
    · have hf := x_f h2 hf
      refine x_dconst0 C dX10_meanWax_22 ?_
      refine x_goto (tgt := 39) C dX10_meanWax_23 (by decide) ?_
      exact x_dret C hr ⟨by cases hf; rfl, by cases hf; rfl⟩ dX10_meanWax_39
  refine x_aload_n C dX10_meanWax_0 rfl 0 rfl ?_
  refine x_aload_n C dX10_meanWax_1 rfl 0 rfl ?_
  refine x_get (ci := 11) (v := .ref (b 1)) (b := mdO g b m) C ixX10 rfl 0 (by decide) wd_1492 (fun _ h => h) 0 rfl 0 (mdO_at0 g b _) rfl dX10_meanWax_2 ?_
  refine x_iconst (v := 3) C dX10_meanWax_5 (by decide) ?_
  obtain ⟨h1, hf⟩ := x_n hf
  refine x_iald (b := iaW g (b 1) 110 s) C 1 rfl 0 (iaW_at0 g (b 1) 110 _) h1 dX10_meanWax_6 ?_
  refine x_if_ne (tgt := 14) C dX10_meanWax_7 (by decide) (fun h2 => ?_) (fun h2 => ?_)
  · have hf := x_f h2 hf
    refine x_iconst (v := 0) C dX10_meanWax_14 (by decide) ?_
    exact hL15 m (0 : Int32) hf
  · have hf := x_t h2 hf
    refine x_iconst (v := 1) C dX10_meanWax_10 (by decide) ?_
    refine x_goto (tgt := 15) C dX10_meanWax_11 (by decide) ?_
    exact hL15 m (1 : Int32) hf
theorem dX10_litShare_0 : decode cX10_litShare 0 = .ok (.aload_n 0, 1) := by decide +kernel
theorem dX10_litShare_1 : decode cX10_litShare 1 = .ok (.aload_n 0, 1) := by decide +kernel
theorem dX10_litShare_2 : decode cX10_litShare 2 = .ok (.getfield 9, 3) := by decide +kernel
theorem dX10_litShare_5 : decode cX10_litShare 5 = .ok (.iconst 3, 1) := by decide +kernel
theorem dX10_litShare_6 : decode cX10_litShare 6 = .ok (.iaload, 1) := by decide +kernel
theorem dX10_litShare_7 : decode cX10_litShare 7 = .ok (.ifCond .ne 7, 3) := by decide +kernel
theorem dX10_litShare_10 : decode cX10_litShare 10 = .ok (.iconst 1, 1) := by decide +kernel
theorem dX10_litShare_11 : decode cX10_litShare 11 = .ok (.goto 4, 3) := by decide +kernel
theorem dX10_litShare_14 : decode cX10_litShare 14 = .ok (.iconst 0, 1) := by decide +kernel
theorem dX10_litShare_15 : decode cX10_litShare 15 = .ok (.iconst 1, 1) := by decide +kernel
theorem dX10_litShare_16 : decode cX10_litShare 16 = .ok (.invokevirtual 63, 3) := by decide +kernel
theorem dX10_litShare_19 : decode cX10_litShare 19 = .ok (.ifCond .eq 7, 3) := by decide +kernel
theorem dX10_litShare_22 : decode cX10_litShare 22 = .ok (.fconst 0, 1) := by decide +kernel
theorem dX10_litShare_23 : decode cX10_litShare 23 = .ok (.goto 16, 3) := by decide +kernel
theorem dX10_litShare_26 : decode cX10_litShare 26 = .ok (.aload_n 0, 1) := by decide +kernel
theorem dX10_litShare_27 : decode cX10_litShare 27 = .ok (.invokevirtual 85, 3) := by decide +kernel
theorem dX10_litShare_30 : decode cX10_litShare 30 = .ok (.i2f, 1) := by decide +kernel
theorem dX10_litShare_31 : decode cX10_litShare 31 = .ok (.aload_n 0, 1) := by decide +kernel
theorem dX10_litShare_32 : decode cX10_litShare 32 = .ok (.getfield 9, 3) := by decide +kernel
theorem dX10_litShare_35 : decode cX10_litShare 35 = .ok (.iconst 3, 1) := by decide +kernel
theorem dX10_litShare_36 : decode cX10_litShare 36 = .ok (.iaload, 1) := by decide +kernel
theorem dX10_litShare_37 : decode cX10_litShare 37 = .ok (.i2f, 1) := by decide +kernel
theorem dX10_litShare_38 : decode cX10_litShare 38 = .ok (.fdiv, 1) := by decide +kernel
theorem dX10_litShare_39 : decode cX10_litShare 39 = .ok (.freturn, 1) := by decide +kernel
set_option maxHeartbeats 4000000 in
set_option maxRecDepth 100000 in
theorem c_X10_litShare (g : xG) (l : Launch) (b : Nat → Nat) (m : MdT) (s : (Nat → Int32))  {u : UInt32 × MdT} (hf : f_X10_litShare m s = some u) : ConD g l yX10_litShare cX10_litShare 1 (some .float) ({ frames := 2, cells := 0, slots := 0, locals := 44 } : Room) [.ref (b 0)] [mdO g b m, iaW g (b 1) 110 s] (some (.float u.1)) [mdO g b u.2, iaW g (b 1) 110 s] := by
  unfold f_X10_litShare at hf
  refine Con_of [mdO g b m, iaW g (b 1) 110 s] [(0, .ref (b 0))] rfl rfl (by decide) (Nat.le_of_ble_eq_true rfl) ?_
  intro pW eW sW mW argsW belowW methW c9 C hnm hr
  have C : CX g RX10 cX10_litShare 1 _ pW sW mW argsW methW c9 := C
  have hL15 : ∀ (mL : MdT) (y0 : Int32), f_X10_litShare_15 mL s y0 = some u → VW g (va_A ([mdO g b m, iaW g (b 1) 110 s] : List va_W).flatten sW.heap.size) 1 pW l eW ({ frames := 2, cells := 0, slots := 0, locals := 44 } : Room) sW mW argsW belowW methW c9 0 0 (MQ belowW (xQc g ([mdO g b m, iaW g (b 1) 110 s] : List va_W).flatten sW.heap.size (fun v9 w9 => v9 = some (.float u.1) ∧ w9 = ([mdO g b u.2, iaW g (b 1) 110 s] : List va_W).flatten)) argsW sW 0 0 (va_A ([mdO g b m, iaW g (b 1) 110 s] : List va_W).flatten sW.heap.size)) [mdO g b mL, iaW g (b 1) 110 s] [(0, .ref (b 0))] 15 [.int y0, .ref (b 0)] := by
    intro mL y0 hf
    unfold f_X10_litShare_15 at hf
    refine x_iconst (v := 1) C dX10_litShare_15 (by decide) ?_
    obtain ⟨u1, hu1, hf⟩ := x_b hf
    refine x_callV (n := 2) (As := [.int y0, .int (1 : Int32)]) (rest := []) C (c_X10_isThrown g l b mL y0 (1 : Int32) hu1) ⟨⟨wd_1575, wd_1572, wd_78⟩, ⟨by decide, by decide, by decide⟩, rfl, rfl, Nat.le_of_ble_eq_true rfl, Nat.le_of_ble_eq_true rfl⟩ wd_1574 wd_26 ⟨0, 11, _, _, rfl, rfl, rfl⟩ [iaW g (b 1) 110 s] (x_pickD [0, 1] 2 rfl rfl rfl) rfl rfl (Nat.le_of_ble_eq_true rfl) ⟨Nat.le_of_ble_eq_true rfl, Nat.le_of_ble_eq_true rfl⟩ dX10_litShare_16 (x_goD (wss2 := [mdO g b u1.2, iaW g (b 1) 110 s]) (stk2 := [.int u1.1]) rfl rfl ?_)
    refine x_if_eq (tgt := 26) C dX10_litShare_19 (by decide) (fun h2 => ?_) (fun h2 => ?_)
    · have hf := x_t h2 hf
      refine x_aload_n C dX10_litShare_26 rfl 0 rfl ?_
      obtain ⟨u3, hu3, hf⟩ := x_b hf
      refine x_callV (n := 0) (As := []) (rest := []) C (c_X10_lit g l b u1.2 s hu3) ⟨⟨wd_1603, wd_1600, wd_78⟩, ⟨by decide, by decide, by decide⟩, rfl, rfl, Nat.le_of_ble_eq_true rfl, Nat.le_of_ble_eq_true rfl⟩ wd_1602 wd_32 ⟨0, 11, _, _, rfl, rfl, rfl⟩ [] (x_pickD [0, 1] 2 rfl rfl rfl) rfl rfl (Nat.le_of_ble_eq_true rfl) ⟨Nat.le_of_ble_eq_true rfl, Nat.le_of_ble_eq_true rfl⟩ dX10_litShare_27 (x_goD (wss2 := [mdO g b u1.2, iaW g (b 1) 110 s]) (stk2 := [.int u3]) rfl rfl ?_)
      refine x_i2f C dX10_litShare_30 ?_
      refine x_aload_n C dX10_litShare_31 rfl 0 rfl ?_
      refine x_get (ci := 11) (v := .ref (b 1)) (b := mdO g b u1.2) C ixX10 rfl 0 (by decide) wd_1492 (fun _ h => h) 0 rfl 0 (mdO_at0 g b _) rfl dX10_litShare_32 ?_
      refine x_iconst (v := 3) C dX10_litShare_35 (by decide) ?_
      obtain ⟨h4, hf⟩ := x_n hf
      refine x_iald (b := iaW g (b 1) 110 s) C 1 rfl 0 (iaW_at0 g (b 1) 110 _) h4 dX10_litShare_36 ?_
      refine x_i2f C dX10_litShare_37 ?_
      obtain ⟨h5, hf⟩ := x_y hf
      refine x_fdiv C dX10_litShare_38 h5 ?_
      exact x_fret C hr ⟨by cases hf; rfl, by cases hf; rfl⟩ dX10_litShare_39
    · have hf := x_f h2 hf
      refine x_fconst0 C dX10_litShare_22 ?_
      refine x_goto (tgt := 39) C dX10_litShare_23 (by decide) ?_
      exact x_fret C hr ⟨by cases hf; rfl, by cases hf; rfl⟩ dX10_litShare_39
  refine x_aload_n C dX10_litShare_0 rfl 0 rfl ?_
  refine x_aload_n C dX10_litShare_1 rfl 0 rfl ?_
  refine x_get (ci := 11) (v := .ref (b 1)) (b := mdO g b m) C ixX10 rfl 0 (by decide) wd_1492 (fun _ h => h) 0 rfl 0 (mdO_at0 g b _) rfl dX10_litShare_2 ?_
  refine x_iconst (v := 3) C dX10_litShare_5 (by decide) ?_
  obtain ⟨h1, hf⟩ := x_n hf
  refine x_iald (b := iaW g (b 1) 110 s) C 1 rfl 0 (iaW_at0 g (b 1) 110 _) h1 dX10_litShare_6 ?_
  refine x_if_ne (tgt := 14) C dX10_litShare_7 (by decide) (fun h2 => ?_) (fun h2 => ?_)
  · have hf := x_f h2 hf
    refine x_iconst (v := 0) C dX10_litShare_14 (by decide) ?_
    exact hL15 m (0 : Int32) hf
  · have hf := x_t h2 hf
    refine x_iconst (v := 1) C dX10_litShare_10 (by decide) ?_
    refine x_goto (tgt := 15) C dX10_litShare_11 (by decide) ?_
    exact hL15 m (1 : Int32) hf
theorem dX10_isConsistent_0 : decode cX10_isConsistent 0 = .ok (.aload_n 0, 1) := by decide +kernel
theorem dX10_isConsistent_1 : decode cX10_isConsistent 1 = .ok (.iconst 0, 1) := by decide +kernel
theorem dX10_isConsistent_2 : decode cX10_isConsistent 2 = .ok (.putfield 41, 3) := by decide +kernel
theorem dX10_isConsistent_5 : decode cX10_isConsistent 5 = .ok (.aload_n 0, 1) := by decide +kernel
theorem dX10_isConsistent_6 : decode cX10_isConsistent 6 = .ok (.getfield 9, 3) := by decide +kernel
theorem dX10_isConsistent_9 : decode cX10_isConsistent 9 = .ok (.bipush 8, 2) := by decide +kernel
theorem dX10_isConsistent_11 : decode cX10_isConsistent 11 = .ok (.iaload, 1) := by decide +kernel
theorem dX10_isConsistent_12 : decode cX10_isConsistent 12 = .ok (.aload_n 0, 1) := by decide +kernel
theorem dX10_isConsistent_13 : decode cX10_isConsistent 13 = .ok (.invokevirtual 152, 3) := by decide +kernel
theorem dX10_isConsistent_16 : decode cX10_isConsistent 16 = .ok (.aload_n 0, 1) := by decide +kernel
theorem dX10_isConsistent_17 : decode cX10_isConsistent 17 = .ok (.getfield 9, 3) := by decide +kernel
theorem dX10_isConsistent_20 : decode cX10_isConsistent 20 = .ok (.iconst 2, 1) := by decide +kernel
theorem dX10_isConsistent_21 : decode cX10_isConsistent 21 = .ok (.iaload, 1) := by decide +kernel
theorem dX10_isConsistent_22 : decode cX10_isConsistent 22 = .ok (.iadd, 1) := by decide +kernel
theorem dX10_isConsistent_23 : decode cX10_isConsistent 23 = .ok (.aload_n 0, 1) := by decide +kernel
theorem dX10_isConsistent_24 : decode cX10_isConsistent 24 = .ok (.getfield 9, 3) := by decide +kernel
theorem dX10_isConsistent_27 : decode cX10_isConsistent 27 = .ok (.bipush 9, 2) := by decide +kernel
theorem dX10_isConsistent_29 : decode cX10_isConsistent 29 = .ok (.iaload, 1) := by decide +kernel
theorem dX10_isConsistent_30 : decode cX10_isConsistent 30 = .ok (.iadd, 1) := by decide +kernel
theorem dX10_isConsistent_31 : decode cX10_isConsistent 31 = .ok (.if_icmp .ne 7, 3) := by decide +kernel
theorem dX10_isConsistent_34 : decode cX10_isConsistent 34 = .ok (.iconst 1, 1) := by decide +kernel
theorem dX10_isConsistent_35 : decode cX10_isConsistent 35 = .ok (.goto 4, 3) := by decide +kernel
theorem dX10_isConsistent_38 : decode cX10_isConsistent 38 = .ok (.iconst 0, 1) := by decide +kernel
theorem dX10_isConsistent_39 : decode cX10_isConsistent 39 = .ok (.istore_n 1, 1) := by decide +kernel
theorem dX10_isConsistent_40 : decode cX10_isConsistent 40 = .ok (.iconst 0, 1) := by decide +kernel
theorem dX10_isConsistent_41 : decode cX10_isConsistent 41 = .ok (.istore_n 2, 1) := by decide +kernel
theorem dX10_isConsistent_42 : decode cX10_isConsistent 42 = .ok (.iload_n 2, 1) := by decide +kernel
theorem dX10_isConsistent_43 : decode cX10_isConsistent 43 = .ok (.aload_n 0, 1) := by decide +kernel
theorem dX10_isConsistent_44 : decode cX10_isConsistent 44 = .ok (.getfield 9, 3) := by decide +kernel
theorem dX10_isConsistent_47 : decode cX10_isConsistent 47 = .ok (.iconst 3, 1) := by decide +kernel
theorem dX10_isConsistent_48 : decode cX10_isConsistent 48 = .ok (.iaload, 1) := by decide +kernel
theorem dX10_isConsistent_49 : decode cX10_isConsistent 49 = .ok (.if_icmp .ge 35, 3) := by decide +kernel
theorem dX10_isConsistent_52 : decode cX10_isConsistent 52 = .ok (.iload_n 1, 1) := by decide +kernel
theorem dX10_isConsistent_53 : decode cX10_isConsistent 53 = .ok (.aload_n 0, 1) := by decide +kernel
theorem dX10_isConsistent_54 : decode cX10_isConsistent 54 = .ok (.iload_n 2, 1) := by decide +kernel
theorem dX10_isConsistent_55 : decode cX10_isConsistent 55 = .ok (.iconst 1, 1) := by decide +kernel
theorem dX10_isConsistent_56 : decode cX10_isConsistent 56 = .ok (.invokevirtual 55, 3) := by decide +kernel
theorem dX10_isConsistent_59 : decode cX10_isConsistent 59 = .ok (.ifCond .gt 12, 3) := by decide +kernel
theorem dX10_isConsistent_62 : decode cX10_isConsistent 62 = .ok (.aload_n 0, 1) := by decide +kernel
theorem dX10_isConsistent_63 : decode cX10_isConsistent 63 = .ok (.iload_n 2, 1) := by decide +kernel
theorem dX10_isConsistent_64 : decode cX10_isConsistent 64 = .ok (.iconst 3, 1) := by decide +kernel
theorem dX10_isConsistent_65 : decode cX10_isConsistent 65 = .ok (.invokevirtual 55, 3) := by decide +kernel
theorem dX10_isConsistent_68 : decode cX10_isConsistent 68 = .ok (.ifCond .ne 7, 3) := by decide +kernel
theorem dX10_isConsistent_71 : decode cX10_isConsistent 71 = .ok (.iconst 1, 1) := by decide +kernel
theorem dX10_isConsistent_72 : decode cX10_isConsistent 72 = .ok (.goto 4, 3) := by decide +kernel
theorem dX10_isConsistent_75 : decode cX10_isConsistent 75 = .ok (.iconst 0, 1) := by decide +kernel
theorem dX10_isConsistent_76 : decode cX10_isConsistent 76 = .ok (.iand, 1) := by decide +kernel
theorem dX10_isConsistent_77 : decode cX10_isConsistent 77 = .ok (.istore_n 1, 1) := by decide +kernel
theorem dX10_isConsistent_78 : decode cX10_isConsistent 78 = .ok (.iinc 2 1, 3) := by decide +kernel
theorem dX10_isConsistent_81 : decode cX10_isConsistent 81 = .ok (.goto (-39), 3) := by decide +kernel
theorem dX10_isConsistent_84 : decode cX10_isConsistent 84 = .ok (.iload_n 1, 1) := by decide +kernel
theorem dX10_isConsistent_85 : decode cX10_isConsistent 85 = .ok (.ireturn, 1) := by decide +kernel
set_option maxHeartbeats 4000000 in
set_option maxRecDepth 100000 in
theorem c_X10_isConsistent (g : xG) (l : Launch) (b : Nat → Nat) (m : MdT) (s : (Nat → Int32))  {u : Int32 × MdT} (hf : f_X10_isConsistent m s = some u) : ConD g l yX10_isConsistent cX10_isConsistent 3 (some .boolean) ({ frames := 2, cells := 0, slots := 0, locals := 44 } : Room) [.ref (b 0)] [mdO g b m, iaW g (b 1) 110 s] (some (.int u.1)) [mdO g b u.2, iaW g (b 1) 110 s] := by
  unfold f_X10_isConsistent at hf
  refine Con_of [mdO g b m, iaW g (b 1) 110 s] [(0, .ref (b 0))] rfl rfl (by decide) (Nat.le_of_ble_eq_true rfl) ?_
  intro pW eW sW mW argsW belowW methW c9 C hnm hr
  have C : CX g RX10 cX10_isConsistent 3 _ pW sW mW argsW methW c9 := C
  have hL42 : ∀ (nW : Nat) (mL : MdT) (x1 : Int32) (x2 : Int32), f_X10_isConsistent_42 nW mL s x1 x2 = some u → VW g (va_A ([mdO g b m, iaW g (b 1) 110 s] : List va_W).flatten sW.heap.size) 3 pW l eW ({ frames := 2, cells := 0, slots := 0, locals := 44 } : Room) sW mW argsW belowW methW c9 0 0 (MQ belowW (xQc g ([mdO g b m, iaW g (b 1) 110 s] : List va_W).flatten sW.heap.size (fun v9 w9 => v9 = some (.int u.1) ∧ w9 = ([mdO g b u.2, iaW g (b 1) 110 s] : List va_W).flatten)) argsW sW 0 0 (va_A ([mdO g b m, iaW g (b 1) 110 s] : List va_W).flatten sW.heap.size)) [mdO g b mL, iaW g (b 1) 110 s] [(0, .ref (b 0)), (1, .int x1), (2, .int x2)] 42 [] := by
    intro nW
    induction nW with
    | zero => intro mL x1 x2 hf; rw [f_X10_isConsistent_42] at hf; cases hf
    | succ nW ih =>
      intro mL x1 x2 hf
      rw [f_X10_isConsistent_42] at hf
      refine x_iload_n C dX10_isConsistent_42 rfl 2 rfl ?_
      refine x_aload_n C dX10_isConsistent_43 rfl 0 rfl ?_
      refine x_get (ci := 11) (v := .ref (b 1)) (b := mdO g b mL) C ixX10 rfl 0 (by decide) wd_1492 (fun _ h => h) 0 rfl 0 (mdO_at0 g b _) rfl dX10_isConsistent_44 ?_
      refine x_iconst (v := 3) C dX10_isConsistent_47 (by decide) ?_
      obtain ⟨h1, hf⟩ := x_n hf
      refine x_iald (b := iaW g (b 1) 110 s) C 1 rfl 0 (iaW_at0 g (b 1) 110 _) h1 dX10_isConsistent_48 ?_
      refine x_icmp_ge (tgt := 84) C dX10_isConsistent_49 (by decide) (fun h2 => ?_) (fun h2 => ?_)
      · have hf := x_t h2 hf
        refine x_iload_n C dX10_isConsistent_84 rfl 1 rfl ?_
        obtain ⟨h3, hf⟩ := x_y hf
        exact x_zret C hr (x_narZ h3).1 ⟨by cases hf; rfl, by cases hf; rfl⟩ dX10_isConsistent_85
      · have hf := x_f h2 hf
        refine x_iload_n C dX10_isConsistent_52 rfl 1 rfl ?_
        refine x_aload_n C dX10_isConsistent_53 rfl 0 rfl ?_
        refine x_iload_n C dX10_isConsistent_54 rfl 2 rfl ?_
        refine x_iconst (v := 1) C dX10_isConsistent_55 (by decide) ?_
        obtain ⟨u4, hu4, hf⟩ := x_b hf
        refine x_callV (n := 2) (As := [.int x2, .int (1 : Int32)]) (rest := [.int x1]) C (c_X10_of g l b mL s x2 (1 : Int32) hu4) ⟨⟨wd_1599, wd_1596, wd_78⟩, ⟨by decide, by decide, by decide⟩, rfl, rfl, Nat.le_of_ble_eq_true rfl, Nat.le_of_ble_eq_true rfl⟩ wd_1598 wd_31 ⟨0, 11, _, _, rfl, rfl, rfl⟩ [] (x_pickD [0, 1] 2 rfl rfl rfl) rfl rfl (Nat.le_of_ble_eq_true rfl) ⟨Nat.le_of_ble_eq_true rfl, Nat.le_of_ble_eq_true rfl⟩ dX10_isConsistent_56 (x_goD (wss2 := [mdO g b mL, iaW g (b 1) 110 s]) (stk2 := [.int u4, .int x1]) rfl rfl ?_)
        refine x_if_gt (tgt := 71) C dX10_isConsistent_59 (by decide) (fun h5 => ?_) (fun h5 => ?_)
        · have hf := x_t h5 hf
          refine x_iconst (v := 1) C dX10_isConsistent_71 (by decide) ?_
          refine x_goto (tgt := 76) C dX10_isConsistent_72 (by decide) ?_
          refine x_iand C dX10_isConsistent_76 ?_
          refine x_istore_n (lv' := [(1, .int (x1 &&& (1 : Int32))), (0, .ref (b 0)), (2, .int x2)]) C dX10_isConsistent_77 rfl (by decide) rfl ?_
          refine x_iinc (v := x2 + 1) (lv' := [(2, .int (x2 + 1)), (1, .int (x1 &&& (1 : Int32))), (0, .ref (b 0))]) C dX10_isConsistent_78 2 rfl rfl (by decide) rfl ?_
          refine x_goto (tgt := 42) C dX10_isConsistent_81 (by decide) ?_
          refine x_locals (lv' := [(0, .ref (b 0)), (1, .int (x1 &&& (1 : Int32))), (2, .int (x2 + 1))]) [2, 1, 0] rfl ?_
          exact ih mL (x1 &&& (1 : Int32)) (x2 + 1) hf
        · have hf := x_f h5 hf
          refine x_aload_n C dX10_isConsistent_62 rfl 0 rfl ?_
          refine x_iload_n C dX10_isConsistent_63 rfl 2 rfl ?_
          refine x_iconst (v := 3) C dX10_isConsistent_64 (by decide) ?_
          obtain ⟨u6, hu6, hf⟩ := x_b hf
          refine x_callV (n := 2) (As := [.int x2, .int (3 : Int32)]) (rest := [.int x1]) C (c_X10_of g l b mL s x2 (3 : Int32) hu6) ⟨⟨wd_1599, wd_1596, wd_78⟩, ⟨by decide, by decide, by decide⟩, rfl, rfl, Nat.le_of_ble_eq_true rfl, Nat.le_of_ble_eq_true rfl⟩ wd_1598 wd_31 ⟨0, 11, _, _, rfl, rfl, rfl⟩ [] (x_pickD [0, 1] 2 rfl rfl rfl) rfl rfl (Nat.le_of_ble_eq_true rfl) ⟨Nat.le_of_ble_eq_true rfl, Nat.le_of_ble_eq_true rfl⟩ dX10_isConsistent_65 (x_goD (wss2 := [mdO g b mL, iaW g (b 1) 110 s]) (stk2 := [.int u6, .int x1]) rfl rfl ?_)
          refine x_if_ne (tgt := 75) C dX10_isConsistent_68 (by decide) (fun h7 => ?_) (fun h7 => ?_)
          · have hf := x_f h7 hf
            refine x_iconst (v := 0) C dX10_isConsistent_75 (by decide) ?_
            refine x_iand C dX10_isConsistent_76 ?_
            refine x_istore_n (lv' := [(1, .int (x1 &&& (0 : Int32))), (0, .ref (b 0)), (2, .int x2)]) C dX10_isConsistent_77 rfl (by decide) rfl ?_
            refine x_iinc (v := x2 + 1) (lv' := [(2, .int (x2 + 1)), (1, .int (x1 &&& (0 : Int32))), (0, .ref (b 0))]) C dX10_isConsistent_78 2 rfl rfl (by decide) rfl ?_
            refine x_goto (tgt := 42) C dX10_isConsistent_81 (by decide) ?_
            refine x_locals (lv' := [(0, .ref (b 0)), (1, .int (x1 &&& (0 : Int32))), (2, .int (x2 + 1))]) [2, 1, 0] rfl ?_
            exact ih mL (x1 &&& (0 : Int32)) (x2 + 1) hf
          · have hf := x_t h7 hf
            refine x_iconst (v := 1) C dX10_isConsistent_71 (by decide) ?_
            refine x_goto (tgt := 76) C dX10_isConsistent_72 (by decide) ?_
            refine x_iand C dX10_isConsistent_76 ?_
            refine x_istore_n (lv' := [(1, .int (x1 &&& (1 : Int32))), (0, .ref (b 0)), (2, .int x2)]) C dX10_isConsistent_77 rfl (by decide) rfl ?_
            refine x_iinc (v := x2 + 1) (lv' := [(2, .int (x2 + 1)), (1, .int (x1 &&& (1 : Int32))), (0, .ref (b 0))]) C dX10_isConsistent_78 2 rfl rfl (by decide) rfl ?_
            refine x_goto (tgt := 42) C dX10_isConsistent_81 (by decide) ?_
            refine x_locals (lv' := [(0, .ref (b 0)), (1, .int (x1 &&& (1 : Int32))), (2, .int (x2 + 1))]) [2, 1, 0] rfl ?_
            exact ih mL (x1 &&& (1 : Int32)) (x2 + 1) hf
  have hL39 : ∀ (mL : MdT) (y0 : Int32), f_X10_isConsistent_39 mL s y0 = some u → VW g (va_A ([mdO g b m, iaW g (b 1) 110 s] : List va_W).flatten sW.heap.size) 3 pW l eW ({ frames := 2, cells := 0, slots := 0, locals := 44 } : Room) sW mW argsW belowW methW c9 0 0 (MQ belowW (xQc g ([mdO g b m, iaW g (b 1) 110 s] : List va_W).flatten sW.heap.size (fun v9 w9 => v9 = some (.int u.1) ∧ w9 = ([mdO g b u.2, iaW g (b 1) 110 s] : List va_W).flatten)) argsW sW 0 0 (va_A ([mdO g b m, iaW g (b 1) 110 s] : List va_W).flatten sW.heap.size)) [mdO g b mL, iaW g (b 1) 110 s] [(0, .ref (b 0))] 39 [.int y0] := by
    intro mL y0 hf
    unfold f_X10_isConsistent_39 at hf
    refine x_istore_n (lv' := [(1, .int y0), (0, .ref (b 0))]) C dX10_isConsistent_39 rfl (by decide) rfl ?_
    refine x_iconst (v := 0) C dX10_isConsistent_40 (by decide) ?_
    refine x_istore_n (lv' := [(2, .int (0 : Int32)), (1, .int y0), (0, .ref (b 0))]) C dX10_isConsistent_41 rfl (by decide) rfl ?_
    refine x_locals (lv' := [(0, .ref (b 0)), (1, .int y0), (2, .int (0 : Int32))]) [2, 1, 0] rfl ?_
    exact hL42 xFuel mL y0 (0 : Int32) hf
  refine x_aload_n C dX10_isConsistent_0 rfl 0 rfl ?_
  refine x_iconst (v := 0) C dX10_isConsistent_1 (by decide) ?_
  refine x_put (ci := 11) (ty := .int) (v := .int (0 : Int32)) (b := mdO g b m) (b' := mdO g b (m.1, (0 : Int32), m.2.2.1, m.2.2.2.1, m.2.2.2.2.1, m.2.2.2.2.2.1, m.2.2.2.2.2.2.1, m.2.2.2.2.2.2.2.1, m.2.2.2.2.2.2.2.2.1, m.2.2.2.2.2.2.2.2.2)) (wss' := [mdO g b (m.1, (0 : Int32), m.2.2.1, m.2.2.2.1, m.2.2.2.2.1, m.2.2.2.2.2.1, m.2.2.2.2.2.2.1, m.2.2.2.2.2.2.2.1, m.2.2.2.2.2.2.2.2.1, m.2.2.2.2.2.2.2.2.2), iaW g (b 1) 110 s]) C ixX10 tyX10 tyX10_ok nmX10 rfl 6 (by decide) wd_1498 (fun _ h => h) rfl (tyX10_ok 6 (by decide)) rfl rfl 0 rfl 0 (mdO_at0 g b _) (Nat.le_of_ble_eq_true rfl) rfl rfl dX10_isConsistent_2 ?_
  refine x_aload_n C dX10_isConsistent_5 rfl 0 rfl ?_
  refine x_get (ci := 11) (v := .ref (b 1)) (b := mdO g b (m.1, (0 : Int32), m.2.2.1, m.2.2.2.1, m.2.2.2.2.1, m.2.2.2.2.2.1, m.2.2.2.2.2.2.1, m.2.2.2.2.2.2.2.1, m.2.2.2.2.2.2.2.2.1, m.2.2.2.2.2.2.2.2.2)) C ixX10 rfl 0 (by decide) wd_1492 (fun _ h => h) 0 rfl 0 (mdO_at0 g b _) rfl dX10_isConsistent_6 ?_
  refine x_bipush (v := 8) C dX10_isConsistent_9 (by decide) ?_
  obtain ⟨h1, hf⟩ := x_n hf
  refine x_iald (b := iaW g (b 1) 110 s) C 1 rfl 0 (iaW_at0 g (b 1) 110 _) h1 dX10_isConsistent_11 ?_
  refine x_aload_n C dX10_isConsistent_12 rfl 0 rfl ?_
  obtain ⟨u2, hu2, hf⟩ := x_b hf
  refine x_callV (n := 0) (As := []) (rest := [.int (s (8 : Int32).toNatClampNeg)]) C (c_X10_allWax g l b (m.1, (0 : Int32), m.2.2.1, m.2.2.2.1, m.2.2.2.2.1, m.2.2.2.2.2.1, m.2.2.2.2.2.2.1, m.2.2.2.2.2.2.2.1, m.2.2.2.2.2.2.2.2.1, m.2.2.2.2.2.2.2.2.2) s hu2) ⟨⟨wd_1802, wd_1799, wd_78⟩, ⟨by decide, by decide, by decide⟩, rfl, rfl, Nat.le_of_ble_eq_true rfl, Nat.le_of_ble_eq_true rfl⟩ wd_1801 wd_48 ⟨0, 11, _, _, rfl, rfl, rfl⟩ [] (x_pickD [0, 1] 2 rfl rfl rfl) rfl rfl (Nat.le_of_ble_eq_true rfl) ⟨Nat.le_of_ble_eq_true rfl, Nat.le_of_ble_eq_true rfl⟩ dX10_isConsistent_13 (x_goD (wss2 := [mdO g b (m.1, (0 : Int32), m.2.2.1, m.2.2.2.1, m.2.2.2.2.1, m.2.2.2.2.2.1, m.2.2.2.2.2.2.1, m.2.2.2.2.2.2.2.1, m.2.2.2.2.2.2.2.2.1, m.2.2.2.2.2.2.2.2.2), iaW g (b 1) 110 s]) (stk2 := [.int u2, .int (s (8 : Int32).toNatClampNeg)]) rfl rfl ?_)
  refine x_aload_n C dX10_isConsistent_16 rfl 0 rfl ?_
  refine x_get (ci := 11) (v := .ref (b 1)) (b := mdO g b (m.1, (0 : Int32), m.2.2.1, m.2.2.2.1, m.2.2.2.2.1, m.2.2.2.2.2.1, m.2.2.2.2.2.2.1, m.2.2.2.2.2.2.2.1, m.2.2.2.2.2.2.2.2.1, m.2.2.2.2.2.2.2.2.2)) C ixX10 rfl 0 (by decide) wd_1492 (fun _ h => h) 0 rfl 0 (mdO_at0 g b _) rfl dX10_isConsistent_17 ?_
  refine x_iconst (v := 2) C dX10_isConsistent_20 (by decide) ?_
  obtain ⟨h3, hf⟩ := x_n hf
  refine x_iald (b := iaW g (b 1) 110 s) C 1 rfl 0 (iaW_at0 g (b 1) 110 _) h3 dX10_isConsistent_21 ?_
  refine x_iadd C dX10_isConsistent_22 ?_
  refine x_aload_n C dX10_isConsistent_23 rfl 0 rfl ?_
  refine x_get (ci := 11) (v := .ref (b 1)) (b := mdO g b (m.1, (0 : Int32), m.2.2.1, m.2.2.2.1, m.2.2.2.2.1, m.2.2.2.2.2.1, m.2.2.2.2.2.2.1, m.2.2.2.2.2.2.2.1, m.2.2.2.2.2.2.2.2.1, m.2.2.2.2.2.2.2.2.2)) C ixX10 rfl 0 (by decide) wd_1492 (fun _ h => h) 0 rfl 0 (mdO_at0 g b _) rfl dX10_isConsistent_24 ?_
  refine x_bipush (v := 9) C dX10_isConsistent_27 (by decide) ?_
  obtain ⟨h4, hf⟩ := x_n hf
  refine x_iald (b := iaW g (b 1) 110 s) C 1 rfl 0 (iaW_at0 g (b 1) 110 _) h4 dX10_isConsistent_29 ?_
  refine x_iadd C dX10_isConsistent_30 ?_
  refine x_icmp_ne (tgt := 38) C dX10_isConsistent_31 (by decide) (fun h5 => ?_) (fun h5 => ?_)
  · have hf := x_f h5 hf
    refine x_iconst (v := 0) C dX10_isConsistent_38 (by decide) ?_
    exact hL39 (m.1, (0 : Int32), m.2.2.1, m.2.2.2.1, m.2.2.2.2.1, m.2.2.2.2.2.1, m.2.2.2.2.2.2.1, m.2.2.2.2.2.2.2.1, m.2.2.2.2.2.2.2.2.1, m.2.2.2.2.2.2.2.2.2) (0 : Int32) hf
  · have hf := x_t h5 hf
    refine x_iconst (v := 1) C dX10_isConsistent_34 (by decide) ?_
    refine x_goto (tgt := 39) C dX10_isConsistent_35 (by decide) ?_
    exact hL39 (m.1, (0 : Int32), m.2.2.1, m.2.2.2.1, m.2.2.2.2.1, m.2.2.2.2.2.1, m.2.2.2.2.2.2.1, m.2.2.2.2.2.2.2.1, m.2.2.2.2.2.2.2.2.1, m.2.2.2.2.2.2.2.2.2) (1 : Int32) hf
theorem wd_1503 : Cond.fieldLink RX10 32 "CandleConcertModel" "line" "[I" ∈ xTB := xTB_in 1503 (by decide +kernel) (by decide +kernel)
theorem wd_1504 : Cond.fieldLink RX10 155 "CandleConcertModel" "lined" "I" ∈ xTB := xTB_in 1504 (by decide +kernel) (by decide +kernel)
theorem dX10_puts_0 : decode cX10_puts 0 = .ok (.aload_n 0, 1) := by decide +kernel
theorem dX10_puts_1 : decode cX10_puts 1 = .ok (.getfield 32, 3) := by decide +kernel
theorem dX10_puts_4 : decode cX10_puts 4 = .ok (.aload_n 0, 1) := by decide +kernel
theorem dX10_puts_5 : decode cX10_puts 5 = .ok (.getfield 155, 3) := by decide +kernel
theorem dX10_puts_8 : decode cX10_puts 8 = .ok (.iload_n 1, 1) := by decide +kernel
theorem dX10_puts_9 : decode cX10_puts 9 = .ok (.iastore, 1) := by decide +kernel
theorem dX10_puts_10 : decode cX10_puts 10 = .ok (.aload_n 0, 1) := by decide +kernel
theorem dX10_puts_11 : decode cX10_puts 11 = .ok (.dup, 1) := by decide +kernel
theorem dX10_puts_12 : decode cX10_puts 12 = .ok (.getfield 155, 3) := by decide +kernel
theorem dX10_puts_15 : decode cX10_puts 15 = .ok (.iconst 1, 1) := by decide +kernel
theorem dX10_puts_16 : decode cX10_puts 16 = .ok (.iadd, 1) := by decide +kernel
theorem dX10_puts_17 : decode cX10_puts 17 = .ok (.putfield 155, 3) := by decide +kernel
theorem dX10_puts_20 : decode cX10_puts 20 = .ok (.return_, 1) := by decide +kernel
set_option maxHeartbeats 4000000 in
set_option maxRecDepth 100000 in
theorem c_X10_puts (g : xG) (l : Launch) (b : Nat → Nat) (m : MdT) (ln : (Nat → Int32)) (x1 : Int32) {u : MdT × (Nat → Int32)} (hf : f_X10_puts m ln x1 = some u) : ConD g l yX10_puts cX10_puts 2 none ({ frames := 0, cells := 0, slots := 0, locals := 0 } : Room) [.ref (b 0), .int x1] [mdO g b m, iaW g (b 6) 200 ln] (none) [mdO g b u.1, iaW g (b 6) 200 u.2] := by
  unfold f_X10_puts at hf
  refine Con_of [mdO g b m, iaW g (b 6) 200 ln] [(0, .ref (b 0)), (1, .int x1)] rfl rfl (by decide) (Nat.le_of_ble_eq_true rfl) ?_
  intro pW eW sW mW argsW belowW methW c9 C hnm hr
  have C : CX g RX10 cX10_puts 2 _ pW sW mW argsW methW c9 := C
  refine x_aload_n C dX10_puts_0 rfl 0 rfl ?_
  refine x_get (ci := 11) (v := .ref (b 6)) (b := mdO g b m) C ixX10 rfl 11 (by decide) wd_1503 (fun _ h => h) 0 rfl 0 (mdO_at0 g b _) rfl dX10_puts_1 ?_
  refine x_aload_n C dX10_puts_4 rfl 0 rfl ?_
  refine x_get (ci := 11) (v := .int m.2.2.2.2.2.2.1) (b := mdO g b m) C ixX10 rfl 12 (by decide) wd_1504 (fun _ h => h) 0 rfl 0 (mdO_at0 g b _) rfl dX10_puts_5 ?_
  refine x_iload_n C dX10_puts_8 rfl 1 rfl ?_
  obtain ⟨h1, hf⟩ := x_n hf
  refine x_iast (b := iaW g (b 6) 200 ln) (b' := iaW g (b 6) 200 (upd ln m.2.2.2.2.2.2.1.toNatClampNeg x1)) (wss' := [mdO g b m, iaW g (b 6) 200 (upd ln m.2.2.2.2.2.2.1.toNatClampNeg x1)]) C 1 rfl 0 (iaW_at0 g (b 6) 200 _) h1 rfl rfl dX10_puts_9 ?_
  refine x_aload_n C dX10_puts_10 rfl 0 rfl ?_
  refine x_dup C dX10_puts_11 rfl ?_
  refine x_get (ci := 11) (v := .int m.2.2.2.2.2.2.1) (b := mdO g b m) C ixX10 rfl 12 (by decide) wd_1504 (fun _ h => h) 0 rfl 0 (mdO_at0 g b _) rfl dX10_puts_12 ?_
  refine x_iconst (v := 1) C dX10_puts_15 (by decide) ?_
  refine x_iadd C dX10_puts_16 ?_
  refine x_put (ci := 11) (ty := .int) (v := .int (m.2.2.2.2.2.2.1 + (1 : Int32))) (b := mdO g b m) (b' := mdO g b (m.1, m.2.1, m.2.2.1, m.2.2.2.1, m.2.2.2.2.1, m.2.2.2.2.2.1, m.2.2.2.2.2.2.1 + (1 : Int32), m.2.2.2.2.2.2.2.1, m.2.2.2.2.2.2.2.2.1, m.2.2.2.2.2.2.2.2.2)) (wss' := [mdO g b (m.1, m.2.1, m.2.2.1, m.2.2.2.1, m.2.2.2.2.1, m.2.2.2.2.2.1, m.2.2.2.2.2.2.1 + (1 : Int32), m.2.2.2.2.2.2.2.1, m.2.2.2.2.2.2.2.2.1, m.2.2.2.2.2.2.2.2.2), iaW g (b 6) 200 (upd ln m.2.2.2.2.2.2.1.toNatClampNeg x1)]) C ixX10 tyX10 tyX10_ok nmX10 rfl 12 (by decide) wd_1504 (fun _ h => h) rfl (tyX10_ok 12 (by decide)) rfl rfl 0 rfl 0 (mdO_at0 g b _) (Nat.le_of_ble_eq_true rfl) rfl rfl dX10_puts_17 ?_
  exact x_vret C hr ⟨by cases hf; rfl, by cases hf; rfl⟩ dX10_puts_20
theorem wd_50 : Cond.selects yX10_puts.cls yX10_puts yX10_puts ∈ xTB := xTB_in 50 (by decide +kernel) (by decide +kernel)
theorem wd_1819 : Cond.methodLink RX10 161 yX10_puts ∈ xTB := xTB_in 1819 (by decide +kernel) (by decide +kernel)
theorem wd_1821 : Cond.instanceMethod yX10_puts ∈ xTB := xTB_in 1821 (by decide +kernel) (by decide +kernel)
theorem wd_1822 : Cond.code yX10_puts cX10_puts 2 none ∈ xTB := xTB_in 1822 (by decide +kernel) (by decide +kernel)
theorem dX10_number_0 : decode cX10_number 0 = .ok (.iload_n 1, 1) := by decide +kernel
theorem dX10_number_1 : decode cX10_number 1 = .ok (.bipush 10, 2) := by decide +kernel
theorem dX10_number_3 : decode cX10_number 3 = .ok (.if_icmp .lt 11, 3) := by decide +kernel
theorem dX10_number_6 : decode cX10_number 6 = .ok (.aload_n 0, 1) := by decide +kernel
theorem dX10_number_7 : decode cX10_number 7 = .ok (.iload_n 1, 1) := by decide +kernel
theorem dX10_number_8 : decode cX10_number 8 = .ok (.bipush 10, 2) := by decide +kernel
theorem dX10_number_10 : decode cX10_number 10 = .ok (.idiv, 1) := by decide +kernel
theorem dX10_number_11 : decode cX10_number 11 = .ok (.invokevirtual 158, 3) := by decide +kernel
theorem dX10_number_14 : decode cX10_number 14 = .ok (.aload_n 0, 1) := by decide +kernel
theorem dX10_number_15 : decode cX10_number 15 = .ok (.bipush 48, 2) := by decide +kernel
theorem dX10_number_17 : decode cX10_number 17 = .ok (.iload_n 1, 1) := by decide +kernel
theorem dX10_number_18 : decode cX10_number 18 = .ok (.bipush 10, 2) := by decide +kernel
theorem dX10_number_20 : decode cX10_number 20 = .ok (.irem, 1) := by decide +kernel
theorem dX10_number_21 : decode cX10_number 21 = .ok (.iadd, 1) := by decide +kernel
theorem dX10_number_22 : decode cX10_number 22 = .ok (.invokevirtual 161, 3) := by decide +kernel
theorem dX10_number_25 : decode cX10_number 25 = .ok (.return_, 1) := by decide +kernel
set_option maxHeartbeats 4000000 in
set_option maxRecDepth 100000 in
theorem c_X10_number_0 (g : xG) (l : Launch) (b : Nat → Nat) (m : MdT) (ln : (Nat → Int32)) (x1 : Int32) {u : MdT × (Nat → Int32)} (hf : f_X10_number_0 m ln x1 = some u) : ConD g l yX10_number cX10_number 2 none ({ frames := 1, cells := 0, slots := 0, locals := 21 } : Room) [.ref (b 0), .int x1] [mdO g b m, iaW g (b 6) 200 ln] (none) [mdO g b u.1, iaW g (b 6) 200 u.2] := by
  unfold f_X10_number_0 at hf
  refine Con_of [mdO g b m, iaW g (b 6) 200 ln] [(0, .ref (b 0)), (1, .int x1)] rfl rfl (by decide) (Nat.le_of_ble_eq_true rfl) ?_
  intro pW eW sW mW argsW belowW methW c9 C hnm hr
  have C : CX g RX10 cX10_number 2 _ pW sW mW argsW methW c9 := C
  refine x_iload_n C dX10_number_0 rfl 1 rfl ?_
  refine x_bipush (v := 10) C dX10_number_1 (by decide) ?_
  refine x_icmp_lt (tgt := 14) C dX10_number_3 (by decide) (fun h1 => ?_) (fun h1 => ?_)
  · have hf := x_t h1 hf
    refine x_aload_n C dX10_number_14 rfl 0 rfl ?_
    refine x_bipush (v := 48) C dX10_number_15 (by decide) ?_
    refine x_iload_n C dX10_number_17 rfl 1 rfl ?_
    refine x_bipush (v := 10) C dX10_number_18 (by decide) ?_
    obtain ⟨h2, hf⟩ := x_n hf
    refine x_irem C dX10_number_20 h2 ?_
    refine x_iadd C dX10_number_21 ?_
    obtain ⟨u3, hu3, hf⟩ := x_b hf
    refine x_callV (n := 1) (As := [.int ((48 : Int32) + (x1 - x1 / (10 : Int32) * (10 : Int32)))]) (rest := []) C (c_X10_puts g l b m ln ((48 : Int32) + (x1 - x1 / (10 : Int32) * (10 : Int32))) hu3) ⟨⟨wd_1822, wd_1819, wd_78⟩, ⟨by decide, by decide, by decide⟩, rfl, rfl, Nat.le_of_ble_eq_true rfl, Nat.le_of_ble_eq_true rfl⟩ wd_1821 wd_50 ⟨0, 11, _, _, rfl, rfl, rfl⟩ [] (x_pickD [0, 1] 2 rfl rfl rfl) rfl rfl (Nat.le_of_ble_eq_true rfl) ⟨Nat.le_of_ble_eq_true rfl, Nat.le_of_ble_eq_true rfl⟩ dX10_number_22 (x_goD (wss2 := [mdO g b u3.1, iaW g (b 6) 200 u3.2]) (stk2 := []) rfl rfl ?_)
    exact x_vret C hr ⟨by cases hf; rfl, by cases hf; rfl⟩ dX10_number_25
  · have hf := x_f h1 hf
    cases hf
theorem wd_49 : Cond.selects yX10_number.cls yX10_number yX10_number ∈ xTB := xTB_in 49 (by decide +kernel) (by decide +kernel)
theorem wd_1815 : Cond.methodLink RX10 158 yX10_number ∈ xTB := xTB_in 1815 (by decide +kernel) (by decide +kernel)
theorem wd_1817 : Cond.instanceMethod yX10_number ∈ xTB := xTB_in 1817 (by decide +kernel) (by decide +kernel)
theorem wd_1818 : Cond.code yX10_number cX10_number 2 none ∈ xTB := xTB_in 1818 (by decide +kernel) (by decide +kernel)
set_option maxHeartbeats 4000000 in
set_option maxRecDepth 100000 in
theorem c_X10_number_1 (g : xG) (l : Launch) (b : Nat → Nat) (m : MdT) (ln : (Nat → Int32)) (x1 : Int32) {u : MdT × (Nat → Int32)} (hf : f_X10_number_1 m ln x1 = some u) : ConD g l yX10_number cX10_number 2 none ({ frames := 2, cells := 0, slots := 0, locals := 42 } : Room) [.ref (b 0), .int x1] [mdO g b m, iaW g (b 6) 200 ln] (none) [mdO g b u.1, iaW g (b 6) 200 u.2] := by
  unfold f_X10_number_1 at hf
  refine Con_of [mdO g b m, iaW g (b 6) 200 ln] [(0, .ref (b 0)), (1, .int x1)] rfl rfl (by decide) (Nat.le_of_ble_eq_true rfl) ?_
  intro pW eW sW mW argsW belowW methW c9 C hnm hr
  have C : CX g RX10 cX10_number 2 _ pW sW mW argsW methW c9 := C
  refine x_iload_n C dX10_number_0 rfl 1 rfl ?_
  refine x_bipush (v := 10) C dX10_number_1 (by decide) ?_
  refine x_icmp_lt (tgt := 14) C dX10_number_3 (by decide) (fun h1 => ?_) (fun h1 => ?_)
  · have hf := x_t h1 hf
    refine x_aload_n C dX10_number_14 rfl 0 rfl ?_
    refine x_bipush (v := 48) C dX10_number_15 (by decide) ?_
    refine x_iload_n C dX10_number_17 rfl 1 rfl ?_
    refine x_bipush (v := 10) C dX10_number_18 (by decide) ?_
    obtain ⟨h2, hf⟩ := x_n hf
    refine x_irem C dX10_number_20 h2 ?_
    refine x_iadd C dX10_number_21 ?_
    obtain ⟨u3, hu3, hf⟩ := x_b hf
    refine x_callV (n := 1) (As := [.int ((48 : Int32) + (x1 - x1 / (10 : Int32) * (10 : Int32)))]) (rest := []) C (c_X10_puts g l b m ln ((48 : Int32) + (x1 - x1 / (10 : Int32) * (10 : Int32))) hu3) ⟨⟨wd_1822, wd_1819, wd_78⟩, ⟨by decide, by decide, by decide⟩, rfl, rfl, Nat.le_of_ble_eq_true rfl, Nat.le_of_ble_eq_true rfl⟩ wd_1821 wd_50 ⟨0, 11, _, _, rfl, rfl, rfl⟩ [] (x_pickD [0, 1] 2 rfl rfl rfl) rfl rfl (Nat.le_of_ble_eq_true rfl) ⟨Nat.le_of_ble_eq_true rfl, Nat.le_of_ble_eq_true rfl⟩ dX10_number_22 (x_goD (wss2 := [mdO g b u3.1, iaW g (b 6) 200 u3.2]) (stk2 := []) rfl rfl ?_)
    exact x_vret C hr ⟨by cases hf; rfl, by cases hf; rfl⟩ dX10_number_25
  · have hf := x_f h1 hf
    refine x_aload_n C dX10_number_6 rfl 0 rfl ?_
    refine x_iload_n C dX10_number_7 rfl 1 rfl ?_
    refine x_bipush (v := 10) C dX10_number_8 (by decide) ?_
    obtain ⟨h4, hf⟩ := x_n hf
    refine x_idiv C dX10_number_10 h4 ?_
    obtain ⟨u5, hu5, hf⟩ := x_b hf
    refine x_callV (n := 1) (As := [.int (x1 / (10 : Int32))]) (rest := []) C (c_X10_number_0 g l b m ln (x1 / (10 : Int32)) hu5) ⟨⟨wd_1818, wd_1815, wd_78⟩, ⟨by decide, by decide, by decide⟩, rfl, rfl, Nat.le_of_ble_eq_true rfl, Nat.le_of_ble_eq_true rfl⟩ wd_1817 wd_49 ⟨0, 11, _, _, rfl, rfl, rfl⟩ [] (x_pickD [0, 1] 2 rfl rfl rfl) rfl rfl (Nat.le_of_ble_eq_true rfl) ⟨Nat.le_of_ble_eq_true rfl, Nat.le_of_ble_eq_true rfl⟩ dX10_number_11 (x_goD (wss2 := [mdO g b u5.1, iaW g (b 6) 200 u5.2]) (stk2 := []) rfl rfl ?_)
    refine x_aload_n C dX10_number_14 rfl 0 rfl ?_
    refine x_bipush (v := 48) C dX10_number_15 (by decide) ?_
    refine x_iload_n C dX10_number_17 rfl 1 rfl ?_
    refine x_bipush (v := 10) C dX10_number_18 (by decide) ?_
    obtain ⟨h6, hf⟩ := x_n hf
    refine x_irem C dX10_number_20 h6 ?_
    refine x_iadd C dX10_number_21 ?_
    obtain ⟨u7, hu7, hf⟩ := x_b hf
    refine x_callV (n := 1) (As := [.int ((48 : Int32) + (x1 - x1 / (10 : Int32) * (10 : Int32)))]) (rest := []) C (c_X10_puts g l b u5.1 u5.2 ((48 : Int32) + (x1 - x1 / (10 : Int32) * (10 : Int32))) hu7) ⟨⟨wd_1822, wd_1819, wd_78⟩, ⟨by decide, by decide, by decide⟩, rfl, rfl, Nat.le_of_ble_eq_true rfl, Nat.le_of_ble_eq_true rfl⟩ wd_1821 wd_50 ⟨0, 11, _, _, rfl, rfl, rfl⟩ [] (x_pickD [0, 1] 2 rfl rfl rfl) rfl rfl (Nat.le_of_ble_eq_true rfl) ⟨Nat.le_of_ble_eq_true rfl, Nat.le_of_ble_eq_true rfl⟩ dX10_number_22 (x_goD (wss2 := [mdO g b u7.1, iaW g (b 6) 200 u7.2]) (stk2 := []) rfl rfl ?_)
    exact x_vret C hr ⟨by cases hf; rfl, by cases hf; rfl⟩ dX10_number_25
set_option maxHeartbeats 4000000 in
set_option maxRecDepth 100000 in
theorem c_X10_number_2 (g : xG) (l : Launch) (b : Nat → Nat) (m : MdT) (ln : (Nat → Int32)) (x1 : Int32) {u : MdT × (Nat → Int32)} (hf : f_X10_number_2 m ln x1 = some u) : ConD g l yX10_number cX10_number 2 none ({ frames := 3, cells := 0, slots := 0, locals := 63 } : Room) [.ref (b 0), .int x1] [mdO g b m, iaW g (b 6) 200 ln] (none) [mdO g b u.1, iaW g (b 6) 200 u.2] := by
  unfold f_X10_number_2 at hf
  refine Con_of [mdO g b m, iaW g (b 6) 200 ln] [(0, .ref (b 0)), (1, .int x1)] rfl rfl (by decide) (Nat.le_of_ble_eq_true rfl) ?_
  intro pW eW sW mW argsW belowW methW c9 C hnm hr
  have C : CX g RX10 cX10_number 2 _ pW sW mW argsW methW c9 := C
  refine x_iload_n C dX10_number_0 rfl 1 rfl ?_
  refine x_bipush (v := 10) C dX10_number_1 (by decide) ?_
  refine x_icmp_lt (tgt := 14) C dX10_number_3 (by decide) (fun h1 => ?_) (fun h1 => ?_)
  · have hf := x_t h1 hf
    refine x_aload_n C dX10_number_14 rfl 0 rfl ?_
    refine x_bipush (v := 48) C dX10_number_15 (by decide) ?_
    refine x_iload_n C dX10_number_17 rfl 1 rfl ?_
    refine x_bipush (v := 10) C dX10_number_18 (by decide) ?_
    obtain ⟨h2, hf⟩ := x_n hf
    refine x_irem C dX10_number_20 h2 ?_
    refine x_iadd C dX10_number_21 ?_
    obtain ⟨u3, hu3, hf⟩ := x_b hf
    refine x_callV (n := 1) (As := [.int ((48 : Int32) + (x1 - x1 / (10 : Int32) * (10 : Int32)))]) (rest := []) C (c_X10_puts g l b m ln ((48 : Int32) + (x1 - x1 / (10 : Int32) * (10 : Int32))) hu3) ⟨⟨wd_1822, wd_1819, wd_78⟩, ⟨by decide, by decide, by decide⟩, rfl, rfl, Nat.le_of_ble_eq_true rfl, Nat.le_of_ble_eq_true rfl⟩ wd_1821 wd_50 ⟨0, 11, _, _, rfl, rfl, rfl⟩ [] (x_pickD [0, 1] 2 rfl rfl rfl) rfl rfl (Nat.le_of_ble_eq_true rfl) ⟨Nat.le_of_ble_eq_true rfl, Nat.le_of_ble_eq_true rfl⟩ dX10_number_22 (x_goD (wss2 := [mdO g b u3.1, iaW g (b 6) 200 u3.2]) (stk2 := []) rfl rfl ?_)
    exact x_vret C hr ⟨by cases hf; rfl, by cases hf; rfl⟩ dX10_number_25
  · have hf := x_f h1 hf
    refine x_aload_n C dX10_number_6 rfl 0 rfl ?_
    refine x_iload_n C dX10_number_7 rfl 1 rfl ?_
    refine x_bipush (v := 10) C dX10_number_8 (by decide) ?_
    obtain ⟨h4, hf⟩ := x_n hf
    refine x_idiv C dX10_number_10 h4 ?_
    obtain ⟨u5, hu5, hf⟩ := x_b hf
    refine x_callV (n := 1) (As := [.int (x1 / (10 : Int32))]) (rest := []) C (c_X10_number_1 g l b m ln (x1 / (10 : Int32)) hu5) ⟨⟨wd_1818, wd_1815, wd_78⟩, ⟨by decide, by decide, by decide⟩, rfl, rfl, Nat.le_of_ble_eq_true rfl, Nat.le_of_ble_eq_true rfl⟩ wd_1817 wd_49 ⟨0, 11, _, _, rfl, rfl, rfl⟩ [] (x_pickD [0, 1] 2 rfl rfl rfl) rfl rfl (Nat.le_of_ble_eq_true rfl) ⟨Nat.le_of_ble_eq_true rfl, Nat.le_of_ble_eq_true rfl⟩ dX10_number_11 (x_goD (wss2 := [mdO g b u5.1, iaW g (b 6) 200 u5.2]) (stk2 := []) rfl rfl ?_)
    refine x_aload_n C dX10_number_14 rfl 0 rfl ?_
    refine x_bipush (v := 48) C dX10_number_15 (by decide) ?_
    refine x_iload_n C dX10_number_17 rfl 1 rfl ?_
    refine x_bipush (v := 10) C dX10_number_18 (by decide) ?_
    obtain ⟨h6, hf⟩ := x_n hf
    refine x_irem C dX10_number_20 h6 ?_
    refine x_iadd C dX10_number_21 ?_
    obtain ⟨u7, hu7, hf⟩ := x_b hf
    refine x_callV (n := 1) (As := [.int ((48 : Int32) + (x1 - x1 / (10 : Int32) * (10 : Int32)))]) (rest := []) C (c_X10_puts g l b u5.1 u5.2 ((48 : Int32) + (x1 - x1 / (10 : Int32) * (10 : Int32))) hu7) ⟨⟨wd_1822, wd_1819, wd_78⟩, ⟨by decide, by decide, by decide⟩, rfl, rfl, Nat.le_of_ble_eq_true rfl, Nat.le_of_ble_eq_true rfl⟩ wd_1821 wd_50 ⟨0, 11, _, _, rfl, rfl, rfl⟩ [] (x_pickD [0, 1] 2 rfl rfl rfl) rfl rfl (Nat.le_of_ble_eq_true rfl) ⟨Nat.le_of_ble_eq_true rfl, Nat.le_of_ble_eq_true rfl⟩ dX10_number_22 (x_goD (wss2 := [mdO g b u7.1, iaW g (b 6) 200 u7.2]) (stk2 := []) rfl rfl ?_)
    exact x_vret C hr ⟨by cases hf; rfl, by cases hf; rfl⟩ dX10_number_25
set_option maxHeartbeats 4000000 in
set_option maxRecDepth 100000 in
theorem c_X10_number_3 (g : xG) (l : Launch) (b : Nat → Nat) (m : MdT) (ln : (Nat → Int32)) (x1 : Int32) {u : MdT × (Nat → Int32)} (hf : f_X10_number_3 m ln x1 = some u) : ConD g l yX10_number cX10_number 2 none ({ frames := 4, cells := 0, slots := 0, locals := 84 } : Room) [.ref (b 0), .int x1] [mdO g b m, iaW g (b 6) 200 ln] (none) [mdO g b u.1, iaW g (b 6) 200 u.2] := by
  unfold f_X10_number_3 at hf
  refine Con_of [mdO g b m, iaW g (b 6) 200 ln] [(0, .ref (b 0)), (1, .int x1)] rfl rfl (by decide) (Nat.le_of_ble_eq_true rfl) ?_
  intro pW eW sW mW argsW belowW methW c9 C hnm hr
  have C : CX g RX10 cX10_number 2 _ pW sW mW argsW methW c9 := C
  refine x_iload_n C dX10_number_0 rfl 1 rfl ?_
  refine x_bipush (v := 10) C dX10_number_1 (by decide) ?_
  refine x_icmp_lt (tgt := 14) C dX10_number_3 (by decide) (fun h1 => ?_) (fun h1 => ?_)
  · have hf := x_t h1 hf
    refine x_aload_n C dX10_number_14 rfl 0 rfl ?_
    refine x_bipush (v := 48) C dX10_number_15 (by decide) ?_
    refine x_iload_n C dX10_number_17 rfl 1 rfl ?_
    refine x_bipush (v := 10) C dX10_number_18 (by decide) ?_
    obtain ⟨h2, hf⟩ := x_n hf
    refine x_irem C dX10_number_20 h2 ?_
    refine x_iadd C dX10_number_21 ?_
    obtain ⟨u3, hu3, hf⟩ := x_b hf
    refine x_callV (n := 1) (As := [.int ((48 : Int32) + (x1 - x1 / (10 : Int32) * (10 : Int32)))]) (rest := []) C (c_X10_puts g l b m ln ((48 : Int32) + (x1 - x1 / (10 : Int32) * (10 : Int32))) hu3) ⟨⟨wd_1822, wd_1819, wd_78⟩, ⟨by decide, by decide, by decide⟩, rfl, rfl, Nat.le_of_ble_eq_true rfl, Nat.le_of_ble_eq_true rfl⟩ wd_1821 wd_50 ⟨0, 11, _, _, rfl, rfl, rfl⟩ [] (x_pickD [0, 1] 2 rfl rfl rfl) rfl rfl (Nat.le_of_ble_eq_true rfl) ⟨Nat.le_of_ble_eq_true rfl, Nat.le_of_ble_eq_true rfl⟩ dX10_number_22 (x_goD (wss2 := [mdO g b u3.1, iaW g (b 6) 200 u3.2]) (stk2 := []) rfl rfl ?_)
    exact x_vret C hr ⟨by cases hf; rfl, by cases hf; rfl⟩ dX10_number_25
  · have hf := x_f h1 hf
    refine x_aload_n C dX10_number_6 rfl 0 rfl ?_
    refine x_iload_n C dX10_number_7 rfl 1 rfl ?_
    refine x_bipush (v := 10) C dX10_number_8 (by decide) ?_
    obtain ⟨h4, hf⟩ := x_n hf
    refine x_idiv C dX10_number_10 h4 ?_
    obtain ⟨u5, hu5, hf⟩ := x_b hf
    refine x_callV (n := 1) (As := [.int (x1 / (10 : Int32))]) (rest := []) C (c_X10_number_2 g l b m ln (x1 / (10 : Int32)) hu5) ⟨⟨wd_1818, wd_1815, wd_78⟩, ⟨by decide, by decide, by decide⟩, rfl, rfl, Nat.le_of_ble_eq_true rfl, Nat.le_of_ble_eq_true rfl⟩ wd_1817 wd_49 ⟨0, 11, _, _, rfl, rfl, rfl⟩ [] (x_pickD [0, 1] 2 rfl rfl rfl) rfl rfl (Nat.le_of_ble_eq_true rfl) ⟨Nat.le_of_ble_eq_true rfl, Nat.le_of_ble_eq_true rfl⟩ dX10_number_11 (x_goD (wss2 := [mdO g b u5.1, iaW g (b 6) 200 u5.2]) (stk2 := []) rfl rfl ?_)
    refine x_aload_n C dX10_number_14 rfl 0 rfl ?_
    refine x_bipush (v := 48) C dX10_number_15 (by decide) ?_
    refine x_iload_n C dX10_number_17 rfl 1 rfl ?_
    refine x_bipush (v := 10) C dX10_number_18 (by decide) ?_
    obtain ⟨h6, hf⟩ := x_n hf
    refine x_irem C dX10_number_20 h6 ?_
    refine x_iadd C dX10_number_21 ?_
    obtain ⟨u7, hu7, hf⟩ := x_b hf
    refine x_callV (n := 1) (As := [.int ((48 : Int32) + (x1 - x1 / (10 : Int32) * (10 : Int32)))]) (rest := []) C (c_X10_puts g l b u5.1 u5.2 ((48 : Int32) + (x1 - x1 / (10 : Int32) * (10 : Int32))) hu7) ⟨⟨wd_1822, wd_1819, wd_78⟩, ⟨by decide, by decide, by decide⟩, rfl, rfl, Nat.le_of_ble_eq_true rfl, Nat.le_of_ble_eq_true rfl⟩ wd_1821 wd_50 ⟨0, 11, _, _, rfl, rfl, rfl⟩ [] (x_pickD [0, 1] 2 rfl rfl rfl) rfl rfl (Nat.le_of_ble_eq_true rfl) ⟨Nat.le_of_ble_eq_true rfl, Nat.le_of_ble_eq_true rfl⟩ dX10_number_22 (x_goD (wss2 := [mdO g b u7.1, iaW g (b 6) 200 u7.2]) (stk2 := []) rfl rfl ?_)
    exact x_vret C hr ⟨by cases hf; rfl, by cases hf; rfl⟩ dX10_number_25
set_option maxHeartbeats 4000000 in
set_option maxRecDepth 100000 in
theorem c_X10_number_4 (g : xG) (l : Launch) (b : Nat → Nat) (m : MdT) (ln : (Nat → Int32)) (x1 : Int32) {u : MdT × (Nat → Int32)} (hf : f_X10_number_4 m ln x1 = some u) : ConD g l yX10_number cX10_number 2 none ({ frames := 5, cells := 0, slots := 0, locals := 105 } : Room) [.ref (b 0), .int x1] [mdO g b m, iaW g (b 6) 200 ln] (none) [mdO g b u.1, iaW g (b 6) 200 u.2] := by
  unfold f_X10_number_4 at hf
  refine Con_of [mdO g b m, iaW g (b 6) 200 ln] [(0, .ref (b 0)), (1, .int x1)] rfl rfl (by decide) (Nat.le_of_ble_eq_true rfl) ?_
  intro pW eW sW mW argsW belowW methW c9 C hnm hr
  have C : CX g RX10 cX10_number 2 _ pW sW mW argsW methW c9 := C
  refine x_iload_n C dX10_number_0 rfl 1 rfl ?_
  refine x_bipush (v := 10) C dX10_number_1 (by decide) ?_
  refine x_icmp_lt (tgt := 14) C dX10_number_3 (by decide) (fun h1 => ?_) (fun h1 => ?_)
  · have hf := x_t h1 hf
    refine x_aload_n C dX10_number_14 rfl 0 rfl ?_
    refine x_bipush (v := 48) C dX10_number_15 (by decide) ?_
    refine x_iload_n C dX10_number_17 rfl 1 rfl ?_
    refine x_bipush (v := 10) C dX10_number_18 (by decide) ?_
    obtain ⟨h2, hf⟩ := x_n hf
    refine x_irem C dX10_number_20 h2 ?_
    refine x_iadd C dX10_number_21 ?_
    obtain ⟨u3, hu3, hf⟩ := x_b hf
    refine x_callV (n := 1) (As := [.int ((48 : Int32) + (x1 - x1 / (10 : Int32) * (10 : Int32)))]) (rest := []) C (c_X10_puts g l b m ln ((48 : Int32) + (x1 - x1 / (10 : Int32) * (10 : Int32))) hu3) ⟨⟨wd_1822, wd_1819, wd_78⟩, ⟨by decide, by decide, by decide⟩, rfl, rfl, Nat.le_of_ble_eq_true rfl, Nat.le_of_ble_eq_true rfl⟩ wd_1821 wd_50 ⟨0, 11, _, _, rfl, rfl, rfl⟩ [] (x_pickD [0, 1] 2 rfl rfl rfl) rfl rfl (Nat.le_of_ble_eq_true rfl) ⟨Nat.le_of_ble_eq_true rfl, Nat.le_of_ble_eq_true rfl⟩ dX10_number_22 (x_goD (wss2 := [mdO g b u3.1, iaW g (b 6) 200 u3.2]) (stk2 := []) rfl rfl ?_)
    exact x_vret C hr ⟨by cases hf; rfl, by cases hf; rfl⟩ dX10_number_25
  · have hf := x_f h1 hf
    refine x_aload_n C dX10_number_6 rfl 0 rfl ?_
    refine x_iload_n C dX10_number_7 rfl 1 rfl ?_
    refine x_bipush (v := 10) C dX10_number_8 (by decide) ?_
    obtain ⟨h4, hf⟩ := x_n hf
    refine x_idiv C dX10_number_10 h4 ?_
    obtain ⟨u5, hu5, hf⟩ := x_b hf
    refine x_callV (n := 1) (As := [.int (x1 / (10 : Int32))]) (rest := []) C (c_X10_number_3 g l b m ln (x1 / (10 : Int32)) hu5) ⟨⟨wd_1818, wd_1815, wd_78⟩, ⟨by decide, by decide, by decide⟩, rfl, rfl, Nat.le_of_ble_eq_true rfl, Nat.le_of_ble_eq_true rfl⟩ wd_1817 wd_49 ⟨0, 11, _, _, rfl, rfl, rfl⟩ [] (x_pickD [0, 1] 2 rfl rfl rfl) rfl rfl (Nat.le_of_ble_eq_true rfl) ⟨Nat.le_of_ble_eq_true rfl, Nat.le_of_ble_eq_true rfl⟩ dX10_number_11 (x_goD (wss2 := [mdO g b u5.1, iaW g (b 6) 200 u5.2]) (stk2 := []) rfl rfl ?_)
    refine x_aload_n C dX10_number_14 rfl 0 rfl ?_
    refine x_bipush (v := 48) C dX10_number_15 (by decide) ?_
    refine x_iload_n C dX10_number_17 rfl 1 rfl ?_
    refine x_bipush (v := 10) C dX10_number_18 (by decide) ?_
    obtain ⟨h6, hf⟩ := x_n hf
    refine x_irem C dX10_number_20 h6 ?_
    refine x_iadd C dX10_number_21 ?_
    obtain ⟨u7, hu7, hf⟩ := x_b hf
    refine x_callV (n := 1) (As := [.int ((48 : Int32) + (x1 - x1 / (10 : Int32) * (10 : Int32)))]) (rest := []) C (c_X10_puts g l b u5.1 u5.2 ((48 : Int32) + (x1 - x1 / (10 : Int32) * (10 : Int32))) hu7) ⟨⟨wd_1822, wd_1819, wd_78⟩, ⟨by decide, by decide, by decide⟩, rfl, rfl, Nat.le_of_ble_eq_true rfl, Nat.le_of_ble_eq_true rfl⟩ wd_1821 wd_50 ⟨0, 11, _, _, rfl, rfl, rfl⟩ [] (x_pickD [0, 1] 2 rfl rfl rfl) rfl rfl (Nat.le_of_ble_eq_true rfl) ⟨Nat.le_of_ble_eq_true rfl, Nat.le_of_ble_eq_true rfl⟩ dX10_number_22 (x_goD (wss2 := [mdO g b u7.1, iaW g (b 6) 200 u7.2]) (stk2 := []) rfl rfl ?_)
    exact x_vret C hr ⟨by cases hf; rfl, by cases hf; rfl⟩ dX10_number_25
set_option maxHeartbeats 4000000 in
set_option maxRecDepth 100000 in
theorem c_X10_number_5 (g : xG) (l : Launch) (b : Nat → Nat) (m : MdT) (ln : (Nat → Int32)) (x1 : Int32) {u : MdT × (Nat → Int32)} (hf : f_X10_number_5 m ln x1 = some u) : ConD g l yX10_number cX10_number 2 none ({ frames := 6, cells := 0, slots := 0, locals := 126 } : Room) [.ref (b 0), .int x1] [mdO g b m, iaW g (b 6) 200 ln] (none) [mdO g b u.1, iaW g (b 6) 200 u.2] := by
  unfold f_X10_number_5 at hf
  refine Con_of [mdO g b m, iaW g (b 6) 200 ln] [(0, .ref (b 0)), (1, .int x1)] rfl rfl (by decide) (Nat.le_of_ble_eq_true rfl) ?_
  intro pW eW sW mW argsW belowW methW c9 C hnm hr
  have C : CX g RX10 cX10_number 2 _ pW sW mW argsW methW c9 := C
  refine x_iload_n C dX10_number_0 rfl 1 rfl ?_
  refine x_bipush (v := 10) C dX10_number_1 (by decide) ?_
  refine x_icmp_lt (tgt := 14) C dX10_number_3 (by decide) (fun h1 => ?_) (fun h1 => ?_)
  · have hf := x_t h1 hf
    refine x_aload_n C dX10_number_14 rfl 0 rfl ?_
    refine x_bipush (v := 48) C dX10_number_15 (by decide) ?_
    refine x_iload_n C dX10_number_17 rfl 1 rfl ?_
    refine x_bipush (v := 10) C dX10_number_18 (by decide) ?_
    obtain ⟨h2, hf⟩ := x_n hf
    refine x_irem C dX10_number_20 h2 ?_
    refine x_iadd C dX10_number_21 ?_
    obtain ⟨u3, hu3, hf⟩ := x_b hf
    refine x_callV (n := 1) (As := [.int ((48 : Int32) + (x1 - x1 / (10 : Int32) * (10 : Int32)))]) (rest := []) C (c_X10_puts g l b m ln ((48 : Int32) + (x1 - x1 / (10 : Int32) * (10 : Int32))) hu3) ⟨⟨wd_1822, wd_1819, wd_78⟩, ⟨by decide, by decide, by decide⟩, rfl, rfl, Nat.le_of_ble_eq_true rfl, Nat.le_of_ble_eq_true rfl⟩ wd_1821 wd_50 ⟨0, 11, _, _, rfl, rfl, rfl⟩ [] (x_pickD [0, 1] 2 rfl rfl rfl) rfl rfl (Nat.le_of_ble_eq_true rfl) ⟨Nat.le_of_ble_eq_true rfl, Nat.le_of_ble_eq_true rfl⟩ dX10_number_22 (x_goD (wss2 := [mdO g b u3.1, iaW g (b 6) 200 u3.2]) (stk2 := []) rfl rfl ?_)
    exact x_vret C hr ⟨by cases hf; rfl, by cases hf; rfl⟩ dX10_number_25
  · have hf := x_f h1 hf
    refine x_aload_n C dX10_number_6 rfl 0 rfl ?_
    refine x_iload_n C dX10_number_7 rfl 1 rfl ?_
    refine x_bipush (v := 10) C dX10_number_8 (by decide) ?_
    obtain ⟨h4, hf⟩ := x_n hf
    refine x_idiv C dX10_number_10 h4 ?_
    obtain ⟨u5, hu5, hf⟩ := x_b hf
    refine x_callV (n := 1) (As := [.int (x1 / (10 : Int32))]) (rest := []) C (c_X10_number_4 g l b m ln (x1 / (10 : Int32)) hu5) ⟨⟨wd_1818, wd_1815, wd_78⟩, ⟨by decide, by decide, by decide⟩, rfl, rfl, Nat.le_of_ble_eq_true rfl, Nat.le_of_ble_eq_true rfl⟩ wd_1817 wd_49 ⟨0, 11, _, _, rfl, rfl, rfl⟩ [] (x_pickD [0, 1] 2 rfl rfl rfl) rfl rfl (Nat.le_of_ble_eq_true rfl) ⟨Nat.le_of_ble_eq_true rfl, Nat.le_of_ble_eq_true rfl⟩ dX10_number_11 (x_goD (wss2 := [mdO g b u5.1, iaW g (b 6) 200 u5.2]) (stk2 := []) rfl rfl ?_)
    refine x_aload_n C dX10_number_14 rfl 0 rfl ?_
    refine x_bipush (v := 48) C dX10_number_15 (by decide) ?_
    refine x_iload_n C dX10_number_17 rfl 1 rfl ?_
    refine x_bipush (v := 10) C dX10_number_18 (by decide) ?_
    obtain ⟨h6, hf⟩ := x_n hf
    refine x_irem C dX10_number_20 h6 ?_
    refine x_iadd C dX10_number_21 ?_
    obtain ⟨u7, hu7, hf⟩ := x_b hf
    refine x_callV (n := 1) (As := [.int ((48 : Int32) + (x1 - x1 / (10 : Int32) * (10 : Int32)))]) (rest := []) C (c_X10_puts g l b u5.1 u5.2 ((48 : Int32) + (x1 - x1 / (10 : Int32) * (10 : Int32))) hu7) ⟨⟨wd_1822, wd_1819, wd_78⟩, ⟨by decide, by decide, by decide⟩, rfl, rfl, Nat.le_of_ble_eq_true rfl, Nat.le_of_ble_eq_true rfl⟩ wd_1821 wd_50 ⟨0, 11, _, _, rfl, rfl, rfl⟩ [] (x_pickD [0, 1] 2 rfl rfl rfl) rfl rfl (Nat.le_of_ble_eq_true rfl) ⟨Nat.le_of_ble_eq_true rfl, Nat.le_of_ble_eq_true rfl⟩ dX10_number_22 (x_goD (wss2 := [mdO g b u7.1, iaW g (b 6) 200 u7.2]) (stk2 := []) rfl rfl ?_)
    exact x_vret C hr ⟨by cases hf; rfl, by cases hf; rfl⟩ dX10_number_25
set_option maxHeartbeats 4000000 in
set_option maxRecDepth 100000 in
theorem c_X10_number_6 (g : xG) (l : Launch) (b : Nat → Nat) (m : MdT) (ln : (Nat → Int32)) (x1 : Int32) {u : MdT × (Nat → Int32)} (hf : f_X10_number_6 m ln x1 = some u) : ConD g l yX10_number cX10_number 2 none ({ frames := 7, cells := 0, slots := 0, locals := 147 } : Room) [.ref (b 0), .int x1] [mdO g b m, iaW g (b 6) 200 ln] (none) [mdO g b u.1, iaW g (b 6) 200 u.2] := by
  unfold f_X10_number_6 at hf
  refine Con_of [mdO g b m, iaW g (b 6) 200 ln] [(0, .ref (b 0)), (1, .int x1)] rfl rfl (by decide) (Nat.le_of_ble_eq_true rfl) ?_
  intro pW eW sW mW argsW belowW methW c9 C hnm hr
  have C : CX g RX10 cX10_number 2 _ pW sW mW argsW methW c9 := C
  refine x_iload_n C dX10_number_0 rfl 1 rfl ?_
  refine x_bipush (v := 10) C dX10_number_1 (by decide) ?_
  refine x_icmp_lt (tgt := 14) C dX10_number_3 (by decide) (fun h1 => ?_) (fun h1 => ?_)
  · have hf := x_t h1 hf
    refine x_aload_n C dX10_number_14 rfl 0 rfl ?_
    refine x_bipush (v := 48) C dX10_number_15 (by decide) ?_
    refine x_iload_n C dX10_number_17 rfl 1 rfl ?_
    refine x_bipush (v := 10) C dX10_number_18 (by decide) ?_
    obtain ⟨h2, hf⟩ := x_n hf
    refine x_irem C dX10_number_20 h2 ?_
    refine x_iadd C dX10_number_21 ?_
    obtain ⟨u3, hu3, hf⟩ := x_b hf
    refine x_callV (n := 1) (As := [.int ((48 : Int32) + (x1 - x1 / (10 : Int32) * (10 : Int32)))]) (rest := []) C (c_X10_puts g l b m ln ((48 : Int32) + (x1 - x1 / (10 : Int32) * (10 : Int32))) hu3) ⟨⟨wd_1822, wd_1819, wd_78⟩, ⟨by decide, by decide, by decide⟩, rfl, rfl, Nat.le_of_ble_eq_true rfl, Nat.le_of_ble_eq_true rfl⟩ wd_1821 wd_50 ⟨0, 11, _, _, rfl, rfl, rfl⟩ [] (x_pickD [0, 1] 2 rfl rfl rfl) rfl rfl (Nat.le_of_ble_eq_true rfl) ⟨Nat.le_of_ble_eq_true rfl, Nat.le_of_ble_eq_true rfl⟩ dX10_number_22 (x_goD (wss2 := [mdO g b u3.1, iaW g (b 6) 200 u3.2]) (stk2 := []) rfl rfl ?_)
    exact x_vret C hr ⟨by cases hf; rfl, by cases hf; rfl⟩ dX10_number_25
  · have hf := x_f h1 hf
    refine x_aload_n C dX10_number_6 rfl 0 rfl ?_
    refine x_iload_n C dX10_number_7 rfl 1 rfl ?_
    refine x_bipush (v := 10) C dX10_number_8 (by decide) ?_
    obtain ⟨h4, hf⟩ := x_n hf
    refine x_idiv C dX10_number_10 h4 ?_
    obtain ⟨u5, hu5, hf⟩ := x_b hf
    refine x_callV (n := 1) (As := [.int (x1 / (10 : Int32))]) (rest := []) C (c_X10_number_5 g l b m ln (x1 / (10 : Int32)) hu5) ⟨⟨wd_1818, wd_1815, wd_78⟩, ⟨by decide, by decide, by decide⟩, rfl, rfl, Nat.le_of_ble_eq_true rfl, Nat.le_of_ble_eq_true rfl⟩ wd_1817 wd_49 ⟨0, 11, _, _, rfl, rfl, rfl⟩ [] (x_pickD [0, 1] 2 rfl rfl rfl) rfl rfl (Nat.le_of_ble_eq_true rfl) ⟨Nat.le_of_ble_eq_true rfl, Nat.le_of_ble_eq_true rfl⟩ dX10_number_11 (x_goD (wss2 := [mdO g b u5.1, iaW g (b 6) 200 u5.2]) (stk2 := []) rfl rfl ?_)
    refine x_aload_n C dX10_number_14 rfl 0 rfl ?_
    refine x_bipush (v := 48) C dX10_number_15 (by decide) ?_
    refine x_iload_n C dX10_number_17 rfl 1 rfl ?_
    refine x_bipush (v := 10) C dX10_number_18 (by decide) ?_
    obtain ⟨h6, hf⟩ := x_n hf
    refine x_irem C dX10_number_20 h6 ?_
    refine x_iadd C dX10_number_21 ?_
    obtain ⟨u7, hu7, hf⟩ := x_b hf
    refine x_callV (n := 1) (As := [.int ((48 : Int32) + (x1 - x1 / (10 : Int32) * (10 : Int32)))]) (rest := []) C (c_X10_puts g l b u5.1 u5.2 ((48 : Int32) + (x1 - x1 / (10 : Int32) * (10 : Int32))) hu7) ⟨⟨wd_1822, wd_1819, wd_78⟩, ⟨by decide, by decide, by decide⟩, rfl, rfl, Nat.le_of_ble_eq_true rfl, Nat.le_of_ble_eq_true rfl⟩ wd_1821 wd_50 ⟨0, 11, _, _, rfl, rfl, rfl⟩ [] (x_pickD [0, 1] 2 rfl rfl rfl) rfl rfl (Nat.le_of_ble_eq_true rfl) ⟨Nat.le_of_ble_eq_true rfl, Nat.le_of_ble_eq_true rfl⟩ dX10_number_22 (x_goD (wss2 := [mdO g b u7.1, iaW g (b 6) 200 u7.2]) (stk2 := []) rfl rfl ?_)
    exact x_vret C hr ⟨by cases hf; rfl, by cases hf; rfl⟩ dX10_number_25
set_option maxHeartbeats 4000000 in
set_option maxRecDepth 100000 in
theorem c_X10_number_7 (g : xG) (l : Launch) (b : Nat → Nat) (m : MdT) (ln : (Nat → Int32)) (x1 : Int32) {u : MdT × (Nat → Int32)} (hf : f_X10_number_7 m ln x1 = some u) : ConD g l yX10_number cX10_number 2 none ({ frames := 8, cells := 0, slots := 0, locals := 168 } : Room) [.ref (b 0), .int x1] [mdO g b m, iaW g (b 6) 200 ln] (none) [mdO g b u.1, iaW g (b 6) 200 u.2] := by
  unfold f_X10_number_7 at hf
  refine Con_of [mdO g b m, iaW g (b 6) 200 ln] [(0, .ref (b 0)), (1, .int x1)] rfl rfl (by decide) (Nat.le_of_ble_eq_true rfl) ?_
  intro pW eW sW mW argsW belowW methW c9 C hnm hr
  have C : CX g RX10 cX10_number 2 _ pW sW mW argsW methW c9 := C
  refine x_iload_n C dX10_number_0 rfl 1 rfl ?_
  refine x_bipush (v := 10) C dX10_number_1 (by decide) ?_
  refine x_icmp_lt (tgt := 14) C dX10_number_3 (by decide) (fun h1 => ?_) (fun h1 => ?_)
  · have hf := x_t h1 hf
    refine x_aload_n C dX10_number_14 rfl 0 rfl ?_
    refine x_bipush (v := 48) C dX10_number_15 (by decide) ?_
    refine x_iload_n C dX10_number_17 rfl 1 rfl ?_
    refine x_bipush (v := 10) C dX10_number_18 (by decide) ?_
    obtain ⟨h2, hf⟩ := x_n hf
    refine x_irem C dX10_number_20 h2 ?_
    refine x_iadd C dX10_number_21 ?_
    obtain ⟨u3, hu3, hf⟩ := x_b hf
    refine x_callV (n := 1) (As := [.int ((48 : Int32) + (x1 - x1 / (10 : Int32) * (10 : Int32)))]) (rest := []) C (c_X10_puts g l b m ln ((48 : Int32) + (x1 - x1 / (10 : Int32) * (10 : Int32))) hu3) ⟨⟨wd_1822, wd_1819, wd_78⟩, ⟨by decide, by decide, by decide⟩, rfl, rfl, Nat.le_of_ble_eq_true rfl, Nat.le_of_ble_eq_true rfl⟩ wd_1821 wd_50 ⟨0, 11, _, _, rfl, rfl, rfl⟩ [] (x_pickD [0, 1] 2 rfl rfl rfl) rfl rfl (Nat.le_of_ble_eq_true rfl) ⟨Nat.le_of_ble_eq_true rfl, Nat.le_of_ble_eq_true rfl⟩ dX10_number_22 (x_goD (wss2 := [mdO g b u3.1, iaW g (b 6) 200 u3.2]) (stk2 := []) rfl rfl ?_)
    exact x_vret C hr ⟨by cases hf; rfl, by cases hf; rfl⟩ dX10_number_25
  · have hf := x_f h1 hf
    refine x_aload_n C dX10_number_6 rfl 0 rfl ?_
    refine x_iload_n C dX10_number_7 rfl 1 rfl ?_
    refine x_bipush (v := 10) C dX10_number_8 (by decide) ?_
    obtain ⟨h4, hf⟩ := x_n hf
    refine x_idiv C dX10_number_10 h4 ?_
    obtain ⟨u5, hu5, hf⟩ := x_b hf
    refine x_callV (n := 1) (As := [.int (x1 / (10 : Int32))]) (rest := []) C (c_X10_number_6 g l b m ln (x1 / (10 : Int32)) hu5) ⟨⟨wd_1818, wd_1815, wd_78⟩, ⟨by decide, by decide, by decide⟩, rfl, rfl, Nat.le_of_ble_eq_true rfl, Nat.le_of_ble_eq_true rfl⟩ wd_1817 wd_49 ⟨0, 11, _, _, rfl, rfl, rfl⟩ [] (x_pickD [0, 1] 2 rfl rfl rfl) rfl rfl (Nat.le_of_ble_eq_true rfl) ⟨Nat.le_of_ble_eq_true rfl, Nat.le_of_ble_eq_true rfl⟩ dX10_number_11 (x_goD (wss2 := [mdO g b u5.1, iaW g (b 6) 200 u5.2]) (stk2 := []) rfl rfl ?_)
    refine x_aload_n C dX10_number_14 rfl 0 rfl ?_
    refine x_bipush (v := 48) C dX10_number_15 (by decide) ?_
    refine x_iload_n C dX10_number_17 rfl 1 rfl ?_
    refine x_bipush (v := 10) C dX10_number_18 (by decide) ?_
    obtain ⟨h6, hf⟩ := x_n hf
    refine x_irem C dX10_number_20 h6 ?_
    refine x_iadd C dX10_number_21 ?_
    obtain ⟨u7, hu7, hf⟩ := x_b hf
    refine x_callV (n := 1) (As := [.int ((48 : Int32) + (x1 - x1 / (10 : Int32) * (10 : Int32)))]) (rest := []) C (c_X10_puts g l b u5.1 u5.2 ((48 : Int32) + (x1 - x1 / (10 : Int32) * (10 : Int32))) hu7) ⟨⟨wd_1822, wd_1819, wd_78⟩, ⟨by decide, by decide, by decide⟩, rfl, rfl, Nat.le_of_ble_eq_true rfl, Nat.le_of_ble_eq_true rfl⟩ wd_1821 wd_50 ⟨0, 11, _, _, rfl, rfl, rfl⟩ [] (x_pickD [0, 1] 2 rfl rfl rfl) rfl rfl (Nat.le_of_ble_eq_true rfl) ⟨Nat.le_of_ble_eq_true rfl, Nat.le_of_ble_eq_true rfl⟩ dX10_number_22 (x_goD (wss2 := [mdO g b u7.1, iaW g (b 6) 200 u7.2]) (stk2 := []) rfl rfl ?_)
    exact x_vret C hr ⟨by cases hf; rfl, by cases hf; rfl⟩ dX10_number_25
set_option maxHeartbeats 4000000 in
set_option maxRecDepth 100000 in
theorem c_X10_number_8 (g : xG) (l : Launch) (b : Nat → Nat) (m : MdT) (ln : (Nat → Int32)) (x1 : Int32) {u : MdT × (Nat → Int32)} (hf : f_X10_number_8 m ln x1 = some u) : ConD g l yX10_number cX10_number 2 none ({ frames := 9, cells := 0, slots := 0, locals := 189 } : Room) [.ref (b 0), .int x1] [mdO g b m, iaW g (b 6) 200 ln] (none) [mdO g b u.1, iaW g (b 6) 200 u.2] := by
  unfold f_X10_number_8 at hf
  refine Con_of [mdO g b m, iaW g (b 6) 200 ln] [(0, .ref (b 0)), (1, .int x1)] rfl rfl (by decide) (Nat.le_of_ble_eq_true rfl) ?_
  intro pW eW sW mW argsW belowW methW c9 C hnm hr
  have C : CX g RX10 cX10_number 2 _ pW sW mW argsW methW c9 := C
  refine x_iload_n C dX10_number_0 rfl 1 rfl ?_
  refine x_bipush (v := 10) C dX10_number_1 (by decide) ?_
  refine x_icmp_lt (tgt := 14) C dX10_number_3 (by decide) (fun h1 => ?_) (fun h1 => ?_)
  · have hf := x_t h1 hf
    refine x_aload_n C dX10_number_14 rfl 0 rfl ?_
    refine x_bipush (v := 48) C dX10_number_15 (by decide) ?_
    refine x_iload_n C dX10_number_17 rfl 1 rfl ?_
    refine x_bipush (v := 10) C dX10_number_18 (by decide) ?_
    obtain ⟨h2, hf⟩ := x_n hf
    refine x_irem C dX10_number_20 h2 ?_
    refine x_iadd C dX10_number_21 ?_
    obtain ⟨u3, hu3, hf⟩ := x_b hf
    refine x_callV (n := 1) (As := [.int ((48 : Int32) + (x1 - x1 / (10 : Int32) * (10 : Int32)))]) (rest := []) C (c_X10_puts g l b m ln ((48 : Int32) + (x1 - x1 / (10 : Int32) * (10 : Int32))) hu3) ⟨⟨wd_1822, wd_1819, wd_78⟩, ⟨by decide, by decide, by decide⟩, rfl, rfl, Nat.le_of_ble_eq_true rfl, Nat.le_of_ble_eq_true rfl⟩ wd_1821 wd_50 ⟨0, 11, _, _, rfl, rfl, rfl⟩ [] (x_pickD [0, 1] 2 rfl rfl rfl) rfl rfl (Nat.le_of_ble_eq_true rfl) ⟨Nat.le_of_ble_eq_true rfl, Nat.le_of_ble_eq_true rfl⟩ dX10_number_22 (x_goD (wss2 := [mdO g b u3.1, iaW g (b 6) 200 u3.2]) (stk2 := []) rfl rfl ?_)
    exact x_vret C hr ⟨by cases hf; rfl, by cases hf; rfl⟩ dX10_number_25
  · have hf := x_f h1 hf
    refine x_aload_n C dX10_number_6 rfl 0 rfl ?_
    refine x_iload_n C dX10_number_7 rfl 1 rfl ?_
    refine x_bipush (v := 10) C dX10_number_8 (by decide) ?_
    obtain ⟨h4, hf⟩ := x_n hf
    refine x_idiv C dX10_number_10 h4 ?_
    obtain ⟨u5, hu5, hf⟩ := x_b hf
    refine x_callV (n := 1) (As := [.int (x1 / (10 : Int32))]) (rest := []) C (c_X10_number_7 g l b m ln (x1 / (10 : Int32)) hu5) ⟨⟨wd_1818, wd_1815, wd_78⟩, ⟨by decide, by decide, by decide⟩, rfl, rfl, Nat.le_of_ble_eq_true rfl, Nat.le_of_ble_eq_true rfl⟩ wd_1817 wd_49 ⟨0, 11, _, _, rfl, rfl, rfl⟩ [] (x_pickD [0, 1] 2 rfl rfl rfl) rfl rfl (Nat.le_of_ble_eq_true rfl) ⟨Nat.le_of_ble_eq_true rfl, Nat.le_of_ble_eq_true rfl⟩ dX10_number_11 (x_goD (wss2 := [mdO g b u5.1, iaW g (b 6) 200 u5.2]) (stk2 := []) rfl rfl ?_)
    refine x_aload_n C dX10_number_14 rfl 0 rfl ?_
    refine x_bipush (v := 48) C dX10_number_15 (by decide) ?_
    refine x_iload_n C dX10_number_17 rfl 1 rfl ?_
    refine x_bipush (v := 10) C dX10_number_18 (by decide) ?_
    obtain ⟨h6, hf⟩ := x_n hf
    refine x_irem C dX10_number_20 h6 ?_
    refine x_iadd C dX10_number_21 ?_
    obtain ⟨u7, hu7, hf⟩ := x_b hf
    refine x_callV (n := 1) (As := [.int ((48 : Int32) + (x1 - x1 / (10 : Int32) * (10 : Int32)))]) (rest := []) C (c_X10_puts g l b u5.1 u5.2 ((48 : Int32) + (x1 - x1 / (10 : Int32) * (10 : Int32))) hu7) ⟨⟨wd_1822, wd_1819, wd_78⟩, ⟨by decide, by decide, by decide⟩, rfl, rfl, Nat.le_of_ble_eq_true rfl, Nat.le_of_ble_eq_true rfl⟩ wd_1821 wd_50 ⟨0, 11, _, _, rfl, rfl, rfl⟩ [] (x_pickD [0, 1] 2 rfl rfl rfl) rfl rfl (Nat.le_of_ble_eq_true rfl) ⟨Nat.le_of_ble_eq_true rfl, Nat.le_of_ble_eq_true rfl⟩ dX10_number_22 (x_goD (wss2 := [mdO g b u7.1, iaW g (b 6) 200 u7.2]) (stk2 := []) rfl rfl ?_)
    exact x_vret C hr ⟨by cases hf; rfl, by cases hf; rfl⟩ dX10_number_25
set_option maxHeartbeats 4000000 in
set_option maxRecDepth 100000 in
theorem c_X10_number_9 (g : xG) (l : Launch) (b : Nat → Nat) (m : MdT) (ln : (Nat → Int32)) (x1 : Int32) {u : MdT × (Nat → Int32)} (hf : f_X10_number_9 m ln x1 = some u) : ConD g l yX10_number cX10_number 2 none ({ frames := 10, cells := 0, slots := 0, locals := 210 } : Room) [.ref (b 0), .int x1] [mdO g b m, iaW g (b 6) 200 ln] (none) [mdO g b u.1, iaW g (b 6) 200 u.2] := by
  unfold f_X10_number_9 at hf
  refine Con_of [mdO g b m, iaW g (b 6) 200 ln] [(0, .ref (b 0)), (1, .int x1)] rfl rfl (by decide) (Nat.le_of_ble_eq_true rfl) ?_
  intro pW eW sW mW argsW belowW methW c9 C hnm hr
  have C : CX g RX10 cX10_number 2 _ pW sW mW argsW methW c9 := C
  refine x_iload_n C dX10_number_0 rfl 1 rfl ?_
  refine x_bipush (v := 10) C dX10_number_1 (by decide) ?_
  refine x_icmp_lt (tgt := 14) C dX10_number_3 (by decide) (fun h1 => ?_) (fun h1 => ?_)
  · have hf := x_t h1 hf
    refine x_aload_n C dX10_number_14 rfl 0 rfl ?_
    refine x_bipush (v := 48) C dX10_number_15 (by decide) ?_
    refine x_iload_n C dX10_number_17 rfl 1 rfl ?_
    refine x_bipush (v := 10) C dX10_number_18 (by decide) ?_
    obtain ⟨h2, hf⟩ := x_n hf
    refine x_irem C dX10_number_20 h2 ?_
    refine x_iadd C dX10_number_21 ?_
    obtain ⟨u3, hu3, hf⟩ := x_b hf
    refine x_callV (n := 1) (As := [.int ((48 : Int32) + (x1 - x1 / (10 : Int32) * (10 : Int32)))]) (rest := []) C (c_X10_puts g l b m ln ((48 : Int32) + (x1 - x1 / (10 : Int32) * (10 : Int32))) hu3) ⟨⟨wd_1822, wd_1819, wd_78⟩, ⟨by decide, by decide, by decide⟩, rfl, rfl, Nat.le_of_ble_eq_true rfl, Nat.le_of_ble_eq_true rfl⟩ wd_1821 wd_50 ⟨0, 11, _, _, rfl, rfl, rfl⟩ [] (x_pickD [0, 1] 2 rfl rfl rfl) rfl rfl (Nat.le_of_ble_eq_true rfl) ⟨Nat.le_of_ble_eq_true rfl, Nat.le_of_ble_eq_true rfl⟩ dX10_number_22 (x_goD (wss2 := [mdO g b u3.1, iaW g (b 6) 200 u3.2]) (stk2 := []) rfl rfl ?_)
    exact x_vret C hr ⟨by cases hf; rfl, by cases hf; rfl⟩ dX10_number_25
  · have hf := x_f h1 hf
    refine x_aload_n C dX10_number_6 rfl 0 rfl ?_
    refine x_iload_n C dX10_number_7 rfl 1 rfl ?_
    refine x_bipush (v := 10) C dX10_number_8 (by decide) ?_
    obtain ⟨h4, hf⟩ := x_n hf
    refine x_idiv C dX10_number_10 h4 ?_
    obtain ⟨u5, hu5, hf⟩ := x_b hf
    refine x_callV (n := 1) (As := [.int (x1 / (10 : Int32))]) (rest := []) C (c_X10_number_8 g l b m ln (x1 / (10 : Int32)) hu5) ⟨⟨wd_1818, wd_1815, wd_78⟩, ⟨by decide, by decide, by decide⟩, rfl, rfl, Nat.le_of_ble_eq_true rfl, Nat.le_of_ble_eq_true rfl⟩ wd_1817 wd_49 ⟨0, 11, _, _, rfl, rfl, rfl⟩ [] (x_pickD [0, 1] 2 rfl rfl rfl) rfl rfl (Nat.le_of_ble_eq_true rfl) ⟨Nat.le_of_ble_eq_true rfl, Nat.le_of_ble_eq_true rfl⟩ dX10_number_11 (x_goD (wss2 := [mdO g b u5.1, iaW g (b 6) 200 u5.2]) (stk2 := []) rfl rfl ?_)
    refine x_aload_n C dX10_number_14 rfl 0 rfl ?_
    refine x_bipush (v := 48) C dX10_number_15 (by decide) ?_
    refine x_iload_n C dX10_number_17 rfl 1 rfl ?_
    refine x_bipush (v := 10) C dX10_number_18 (by decide) ?_
    obtain ⟨h6, hf⟩ := x_n hf
    refine x_irem C dX10_number_20 h6 ?_
    refine x_iadd C dX10_number_21 ?_
    obtain ⟨u7, hu7, hf⟩ := x_b hf
    refine x_callV (n := 1) (As := [.int ((48 : Int32) + (x1 - x1 / (10 : Int32) * (10 : Int32)))]) (rest := []) C (c_X10_puts g l b u5.1 u5.2 ((48 : Int32) + (x1 - x1 / (10 : Int32) * (10 : Int32))) hu7) ⟨⟨wd_1822, wd_1819, wd_78⟩, ⟨by decide, by decide, by decide⟩, rfl, rfl, Nat.le_of_ble_eq_true rfl, Nat.le_of_ble_eq_true rfl⟩ wd_1821 wd_50 ⟨0, 11, _, _, rfl, rfl, rfl⟩ [] (x_pickD [0, 1] 2 rfl rfl rfl) rfl rfl (Nat.le_of_ble_eq_true rfl) ⟨Nat.le_of_ble_eq_true rfl, Nat.le_of_ble_eq_true rfl⟩ dX10_number_22 (x_goD (wss2 := [mdO g b u7.1, iaW g (b 6) 200 u7.2]) (stk2 := []) rfl rfl ?_)
    exact x_vret C hr ⟨by cases hf; rfl, by cases hf; rfl⟩ dX10_number_25
theorem dX10_writeCandle_0 : decode cX10_writeCandle 0 = .ok (.aload_n 0, 1) := by decide +kernel
theorem dX10_writeCandle_1 : decode cX10_writeCandle 1 = .ok (.aload_n 0, 1) := by decide +kernel
theorem dX10_writeCandle_2 : decode cX10_writeCandle 2 = .ok (.iload_n 1, 1) := by decide +kernel
theorem dX10_writeCandle_3 : decode cX10_writeCandle 3 = .ok (.invokevirtual 82, 3) := by decide +kernel
theorem dX10_writeCandle_6 : decode cX10_writeCandle 6 = .ok (.ifCond .ne 7, 3) := by decide +kernel
theorem dX10_writeCandle_9 : decode cX10_writeCandle 9 = .ok (.iconst 1, 1) := by decide +kernel
theorem dX10_writeCandle_10 : decode cX10_writeCandle 10 = .ok (.goto 4, 3) := by decide +kernel
theorem dX10_writeCandle_13 : decode cX10_writeCandle 13 = .ok (.iconst 0, 1) := by decide +kernel
theorem dX10_writeCandle_14 : decode cX10_writeCandle 14 = .ok (.iconst 1, 1) := by decide +kernel
theorem dX10_writeCandle_15 : decode cX10_writeCandle 15 = .ok (.invokevirtual 63, 3) := by decide +kernel
theorem dX10_writeCandle_18 : decode cX10_writeCandle 18 = .ok (.ifCond .eq 5, 3) := by decide +kernel
theorem dX10_writeCandle_21 : decode cX10_writeCandle 21 = .ok (.iconst 0, 1) := by decide +kernel
theorem dX10_writeCandle_22 : decode cX10_writeCandle 22 = .ok (.ireturn, 1) := by decide +kernel
theorem dX10_writeCandle_23 : decode cX10_writeCandle 23 = .ok (.aload_n 0, 1) := by decide +kernel
theorem dX10_writeCandle_24 : decode cX10_writeCandle 24 = .ok (.iconst 0, 1) := by decide +kernel
theorem dX10_writeCandle_25 : decode cX10_writeCandle 25 = .ok (.putfield 155, 3) := by decide +kernel
theorem dX10_writeCandle_28 : decode cX10_writeCandle 28 = .ok (.aload_n 0, 1) := by decide +kernel
theorem dX10_writeCandle_29 : decode cX10_writeCandle 29 = .ok (.iload_n 1, 1) := by decide +kernel
theorem dX10_writeCandle_30 : decode cX10_writeCandle 30 = .ok (.invokevirtual 158, 3) := by decide +kernel
theorem dX10_writeCandle_33 : decode cX10_writeCandle 33 = .ok (.aload_n 0, 1) := by decide +kernel
theorem dX10_writeCandle_34 : decode cX10_writeCandle 34 = .ok (.aload_n 0, 1) := by decide +kernel
theorem dX10_writeCandle_35 : decode cX10_writeCandle 35 = .ok (.iload_n 1, 1) := by decide +kernel
theorem dX10_writeCandle_36 : decode cX10_writeCandle 36 = .ok (.iconst 0, 1) := by decide +kernel
theorem dX10_writeCandle_37 : decode cX10_writeCandle 37 = .ok (.invokevirtual 55, 3) := by decide +kernel
theorem dX10_writeCandle_40 : decode cX10_writeCandle 40 = .ok (.invokevirtual 161, 3) := by decide +kernel
theorem dX10_writeCandle_43 : decode cX10_writeCandle 43 = .ok (.aload_n 0, 1) := by decide +kernel
theorem dX10_writeCandle_44 : decode cX10_writeCandle 44 = .ok (.bipush 61, 2) := by decide +kernel
theorem dX10_writeCandle_46 : decode cX10_writeCandle 46 = .ok (.invokevirtual 161, 3) := by decide +kernel
theorem dX10_writeCandle_49 : decode cX10_writeCandle 49 = .ok (.aload_n 0, 1) := by decide +kernel
theorem dX10_writeCandle_50 : decode cX10_writeCandle 50 = .ok (.aload_n 0, 1) := by decide +kernel
theorem dX10_writeCandle_51 : decode cX10_writeCandle 51 = .ok (.iload_n 1, 1) := by decide +kernel
theorem dX10_writeCandle_52 : decode cX10_writeCandle 52 = .ok (.iconst 1, 1) := by decide +kernel
theorem dX10_writeCandle_53 : decode cX10_writeCandle 53 = .ok (.invokevirtual 55, 3) := by decide +kernel
theorem dX10_writeCandle_56 : decode cX10_writeCandle 56 = .ok (.invokevirtual 158, 3) := by decide +kernel
theorem dX10_writeCandle_59 : decode cX10_writeCandle 59 = .ok (.aload_n 0, 1) := by decide +kernel
theorem dX10_writeCandle_60 : decode cX10_writeCandle 60 = .ok (.bipush 47, 2) := by decide +kernel
theorem dX10_writeCandle_62 : decode cX10_writeCandle 62 = .ok (.invokevirtual 161, 3) := by decide +kernel
theorem dX10_writeCandle_65 : decode cX10_writeCandle 65 = .ok (.aload_n 0, 1) := by decide +kernel
theorem dX10_writeCandle_66 : decode cX10_writeCandle 66 = .ok (.aload_n 0, 1) := by decide +kernel
theorem dX10_writeCandle_67 : decode cX10_writeCandle 67 = .ok (.iload_n 1, 1) := by decide +kernel
theorem dX10_writeCandle_68 : decode cX10_writeCandle 68 = .ok (.invokevirtual 120, 3) := by decide +kernel
theorem dX10_writeCandle_71 : decode cX10_writeCandle 71 = .ok (.invokevirtual 158, 3) := by decide +kernel
theorem dX10_writeCandle_74 : decode cX10_writeCandle 74 = .ok (.aload_n 0, 1) := by decide +kernel
theorem dX10_writeCandle_75 : decode cX10_writeCandle 75 = .ok (.iload_n 1, 1) := by decide +kernel
theorem dX10_writeCandle_76 : decode cX10_writeCandle 76 = .ok (.iconst 3, 1) := by decide +kernel
theorem dX10_writeCandle_77 : decode cX10_writeCandle 77 = .ok (.invokevirtual 55, 3) := by decide +kernel
theorem dX10_writeCandle_80 : decode cX10_writeCandle 80 = .ok (.iconst 1, 1) := by decide +kernel
theorem dX10_writeCandle_81 : decode cX10_writeCandle 81 = .ok (.if_icmp .ne 9, 3) := by decide +kernel
theorem dX10_writeCandle_84 : decode cX10_writeCandle 84 = .ok (.aload_n 0, 1) := by decide +kernel
theorem dX10_writeCandle_85 : decode cX10_writeCandle 85 = .ok (.bipush 42, 2) := by decide +kernel
theorem dX10_writeCandle_87 : decode cX10_writeCandle 87 = .ok (.invokevirtual 161, 3) := by decide +kernel
theorem dX10_writeCandle_90 : decode cX10_writeCandle 90 = .ok (.aload_n 0, 1) := by decide +kernel
theorem dX10_writeCandle_91 : decode cX10_writeCandle 91 = .ok (.getfield 155, 3) := by decide +kernel
theorem dX10_writeCandle_94 : decode cX10_writeCandle 94 = .ok (.ireturn, 1) := by decide +kernel
set_option maxHeartbeats 4000000 in
set_option maxRecDepth 100000 in
theorem c_X10_writeCandle (g : xG) (l : Launch) (b : Nat → Nat) (m : MdT) (s : (Nat → Int32)) (ln : (Nat → Int32)) (x1 : Int32) {u : Int32 × MdT × (Nat → Int32)} (hf : f_X10_writeCandle m s ln x1 = some u) : ConD g l yX10_writeCandle cX10_writeCandle 2 (some .int) ({ frames := 11, cells := 0, slots := 0, locals := 231 } : Room) [.ref (b 0), .int x1] [mdO g b m, iaW g (b 1) 110 s, iaW g (b 6) 200 ln] (some (.int u.1)) [mdO g b u.2.1, iaW g (b 1) 110 s, iaW g (b 6) 200 u.2.2] := by
  unfold f_X10_writeCandle at hf
  refine Con_of [mdO g b m, iaW g (b 1) 110 s, iaW g (b 6) 200 ln] [(0, .ref (b 0)), (1, .int x1)] rfl rfl (by decide) (Nat.le_of_ble_eq_true rfl) ?_
  intro pW eW sW mW argsW belowW methW c9 C hnm hr
  have C : CX g RX10 cX10_writeCandle 2 _ pW sW mW argsW methW c9 := C
  have hL14 : ∀ (mL : MdT) (lnL : (Nat → Int32)) (x1 : Int32) (y0 : Int32), f_X10_writeCandle_14 mL s lnL x1 y0 = some u → VW g (va_A ([mdO g b m, iaW g (b 1) 110 s, iaW g (b 6) 200 ln] : List va_W).flatten sW.heap.size) 2 pW l eW ({ frames := 11, cells := 0, slots := 0, locals := 231 } : Room) sW mW argsW belowW methW c9 0 0 (MQ belowW (xQc g ([mdO g b m, iaW g (b 1) 110 s, iaW g (b 6) 200 ln] : List va_W).flatten sW.heap.size (fun v9 w9 => v9 = some (.int u.1) ∧ w9 = ([mdO g b u.2.1, iaW g (b 1) 110 s, iaW g (b 6) 200 u.2.2] : List va_W).flatten)) argsW sW 0 0 (va_A ([mdO g b m, iaW g (b 1) 110 s, iaW g (b 6) 200 ln] : List va_W).flatten sW.heap.size)) [mdO g b mL, iaW g (b 1) 110 s, iaW g (b 6) 200 lnL] [(0, .ref (b 0)), (1, .int x1)] 14 [.int y0, .ref (b 0)] := by
    intro mL lnL x1 y0 hf
    unfold f_X10_writeCandle_14 at hf
    refine x_iconst (v := 1) C dX10_writeCandle_14 (by decide) ?_
    obtain ⟨u1, hu1, hf⟩ := x_b hf
    refine x_callV (n := 2) (As := [.int y0, .int (1 : Int32)]) (rest := []) C (c_X10_isThrown g l b mL y0 (1 : Int32) hu1) ⟨⟨wd_1575, wd_1572, wd_78⟩, ⟨by decide, by decide, by decide⟩, rfl, rfl, Nat.le_of_ble_eq_true rfl, Nat.le_of_ble_eq_true rfl⟩ wd_1574 wd_26 ⟨0, 11, _, _, rfl, rfl, rfl⟩ [iaW g (b 1) 110 s, iaW g (b 6) 200 lnL] (x_pickD [0, 1, 2] 3 rfl rfl rfl) rfl rfl (Nat.le_of_ble_eq_true rfl) ⟨Nat.le_of_ble_eq_true rfl, Nat.le_of_ble_eq_true rfl⟩ dX10_writeCandle_15 (x_goD (wss2 := [mdO g b u1.2, iaW g (b 1) 110 s, iaW g (b 6) 200 lnL]) (stk2 := [.int u1.1]) rfl rfl ?_)
    refine x_if_eq (tgt := 23) C dX10_writeCandle_18 (by decide) (fun h2 => ?_) (fun h2 => ?_)
    · have hf := x_t h2 hf
      refine x_aload_n C dX10_writeCandle_23 rfl 0 rfl ?_
      refine x_iconst (v := 0) C dX10_writeCandle_24 (by decide) ?_
      refine x_put (ci := 11) (ty := .int) (v := .int (0 : Int32)) (b := mdO g b u1.2) (b' := mdO g b (u1.2.1, u1.2.2.1, u1.2.2.2.1, u1.2.2.2.2.1, u1.2.2.2.2.2.1, u1.2.2.2.2.2.2.1, (0 : Int32), u1.2.2.2.2.2.2.2.2.1, u1.2.2.2.2.2.2.2.2.2.1, u1.2.2.2.2.2.2.2.2.2.2)) (wss' := [mdO g b (u1.2.1, u1.2.2.1, u1.2.2.2.1, u1.2.2.2.2.1, u1.2.2.2.2.2.1, u1.2.2.2.2.2.2.1, (0 : Int32), u1.2.2.2.2.2.2.2.2.1, u1.2.2.2.2.2.2.2.2.2.1, u1.2.2.2.2.2.2.2.2.2.2), iaW g (b 1) 110 s, iaW g (b 6) 200 lnL]) C ixX10 tyX10 tyX10_ok nmX10 rfl 12 (by decide) wd_1504 (fun _ h => h) rfl (tyX10_ok 12 (by decide)) rfl rfl 0 rfl 0 (mdO_at0 g b _) (Nat.le_of_ble_eq_true rfl) rfl rfl dX10_writeCandle_25 ?_
      refine x_aload_n C dX10_writeCandle_28 rfl 0 rfl ?_
      refine x_iload_n C dX10_writeCandle_29 rfl 1 rfl ?_
      obtain ⟨u3, hu3, hf⟩ := x_b hf
      refine x_callV (n := 1) (As := [.int x1]) (rest := []) C (c_X10_number_9 g l b (u1.2.1, u1.2.2.1, u1.2.2.2.1, u1.2.2.2.2.1, u1.2.2.2.2.2.1, u1.2.2.2.2.2.2.1, (0 : Int32), u1.2.2.2.2.2.2.2.2.1, u1.2.2.2.2.2.2.2.2.2.1, u1.2.2.2.2.2.2.2.2.2.2) lnL x1 hu3) ⟨⟨wd_1818, wd_1815, wd_78⟩, ⟨by decide, by decide, by decide⟩, rfl, rfl, Nat.le_of_ble_eq_true rfl, Nat.le_of_ble_eq_true rfl⟩ wd_1817 wd_49 ⟨0, 11, _, _, rfl, rfl, rfl⟩ [iaW g (b 1) 110 s] (x_pickD [0, 2, 1] 3 rfl rfl rfl) rfl rfl (Nat.le_of_ble_eq_true rfl) ⟨Nat.le_of_ble_eq_true rfl, Nat.le_of_ble_eq_true rfl⟩ dX10_writeCandle_30 (x_goD (wss2 := [mdO g b u3.1, iaW g (b 6) 200 u3.2, iaW g (b 1) 110 s]) (stk2 := []) rfl rfl ?_)
      refine x_aload_n C dX10_writeCandle_33 rfl 0 rfl ?_
      refine x_aload_n C dX10_writeCandle_34 rfl 0 rfl ?_
      refine x_iload_n C dX10_writeCandle_35 rfl 1 rfl ?_
      refine x_iconst (v := 0) C dX10_writeCandle_36 (by decide) ?_
      obtain ⟨u4, hu4, hf⟩ := x_b hf
      refine x_callV (n := 2) (As := [.int x1, .int (0 : Int32)]) (rest := [.ref (b 0)]) C (c_X10_of g l b u3.1 s x1 (0 : Int32) hu4) ⟨⟨wd_1599, wd_1596, wd_78⟩, ⟨by decide, by decide, by decide⟩, rfl, rfl, Nat.le_of_ble_eq_true rfl, Nat.le_of_ble_eq_true rfl⟩ wd_1598 wd_31 ⟨0, 11, _, _, rfl, rfl, rfl⟩ [iaW g (b 6) 200 u3.2] (x_pickD [0, 2, 1] 3 rfl rfl rfl) rfl rfl (Nat.le_of_ble_eq_true rfl) ⟨Nat.le_of_ble_eq_true rfl, Nat.le_of_ble_eq_true rfl⟩ dX10_writeCandle_37 (x_goD (wss2 := [mdO g b u3.1, iaW g (b 1) 110 s, iaW g (b 6) 200 u3.2]) (stk2 := [.int u4, .ref (b 0)]) rfl rfl ?_)
      obtain ⟨u5, hu5, hf⟩ := x_b hf
      refine x_callV (n := 1) (As := [.int u4]) (rest := []) C (c_X10_puts g l b u3.1 u3.2 u4 hu5) ⟨⟨wd_1822, wd_1819, wd_78⟩, ⟨by decide, by decide, by decide⟩, rfl, rfl, Nat.le_of_ble_eq_true rfl, Nat.le_of_ble_eq_true rfl⟩ wd_1821 wd_50 ⟨0, 11, _, _, rfl, rfl, rfl⟩ [iaW g (b 1) 110 s] (x_pickD [0, 2, 1] 3 rfl rfl rfl) rfl rfl (Nat.le_of_ble_eq_true rfl) ⟨Nat.le_of_ble_eq_true rfl, Nat.le_of_ble_eq_true rfl⟩ dX10_writeCandle_40 (x_goD (wss2 := [mdO g b u5.1, iaW g (b 6) 200 u5.2, iaW g (b 1) 110 s]) (stk2 := []) rfl rfl ?_)
      refine x_aload_n C dX10_writeCandle_43 rfl 0 rfl ?_
      refine x_bipush (v := 61) C dX10_writeCandle_44 (by decide) ?_
      obtain ⟨u6, hu6, hf⟩ := x_b hf
      refine x_callV (n := 1) (As := [.int (61 : Int32)]) (rest := []) C (c_X10_puts g l b u5.1 u5.2 (61 : Int32) hu6) ⟨⟨wd_1822, wd_1819, wd_78⟩, ⟨by decide, by decide, by decide⟩, rfl, rfl, Nat.le_of_ble_eq_true rfl, Nat.le_of_ble_eq_true rfl⟩ wd_1821 wd_50 ⟨0, 11, _, _, rfl, rfl, rfl⟩ [iaW g (b 1) 110 s] (x_pickD [0, 1, 2] 3 rfl rfl rfl) rfl rfl (Nat.le_of_ble_eq_true rfl) ⟨Nat.le_of_ble_eq_true rfl, Nat.le_of_ble_eq_true rfl⟩ dX10_writeCandle_46 (x_goD (wss2 := [mdO g b u6.1, iaW g (b 6) 200 u6.2, iaW g (b 1) 110 s]) (stk2 := []) rfl rfl ?_)
      refine x_aload_n C dX10_writeCandle_49 rfl 0 rfl ?_
      refine x_aload_n C dX10_writeCandle_50 rfl 0 rfl ?_
      refine x_iload_n C dX10_writeCandle_51 rfl 1 rfl ?_
      refine x_iconst (v := 1) C dX10_writeCandle_52 (by decide) ?_
      obtain ⟨u7, hu7, hf⟩ := x_b hf
      refine x_callV (n := 2) (As := [.int x1, .int (1 : Int32)]) (rest := [.ref (b 0)]) C (c_X10_of g l b u6.1 s x1 (1 : Int32) hu7) ⟨⟨wd_1599, wd_1596, wd_78⟩, ⟨by decide, by decide, by decide⟩, rfl, rfl, Nat.le_of_ble_eq_true rfl, Nat.le_of_ble_eq_true rfl⟩ wd_1598 wd_31 ⟨0, 11, _, _, rfl, rfl, rfl⟩ [iaW g (b 6) 200 u6.2] (x_pickD [0, 2, 1] 3 rfl rfl rfl) rfl rfl (Nat.le_of_ble_eq_true rfl) ⟨Nat.le_of_ble_eq_true rfl, Nat.le_of_ble_eq_true rfl⟩ dX10_writeCandle_53 (x_goD (wss2 := [mdO g b u6.1, iaW g (b 1) 110 s, iaW g (b 6) 200 u6.2]) (stk2 := [.int u7, .ref (b 0)]) rfl rfl ?_)
      obtain ⟨u8, hu8, hf⟩ := x_b hf
      refine x_callV (n := 1) (As := [.int u7]) (rest := []) C (c_X10_number_9 g l b u6.1 u6.2 u7 hu8) ⟨⟨wd_1818, wd_1815, wd_78⟩, ⟨by decide, by decide, by decide⟩, rfl, rfl, Nat.le_of_ble_eq_true rfl, Nat.le_of_ble_eq_true rfl⟩ wd_1817 wd_49 ⟨0, 11, _, _, rfl, rfl, rfl⟩ [iaW g (b 1) 110 s] (x_pickD [0, 2, 1] 3 rfl rfl rfl) rfl rfl (Nat.le_of_ble_eq_true rfl) ⟨Nat.le_of_ble_eq_true rfl, Nat.le_of_ble_eq_true rfl⟩ dX10_writeCandle_56 (x_goD (wss2 := [mdO g b u8.1, iaW g (b 6) 200 u8.2, iaW g (b 1) 110 s]) (stk2 := []) rfl rfl ?_)
      refine x_aload_n C dX10_writeCandle_59 rfl 0 rfl ?_
      refine x_bipush (v := 47) C dX10_writeCandle_60 (by decide) ?_
      obtain ⟨u9, hu9, hf⟩ := x_b hf
      refine x_callV (n := 1) (As := [.int (47 : Int32)]) (rest := []) C (c_X10_puts g l b u8.1 u8.2 (47 : Int32) hu9) ⟨⟨wd_1822, wd_1819, wd_78⟩, ⟨by decide, by decide, by decide⟩, rfl, rfl, Nat.le_of_ble_eq_true rfl, Nat.le_of_ble_eq_true rfl⟩ wd_1821 wd_50 ⟨0, 11, _, _, rfl, rfl, rfl⟩ [iaW g (b 1) 110 s] (x_pickD [0, 1, 2] 3 rfl rfl rfl) rfl rfl (Nat.le_of_ble_eq_true rfl) ⟨Nat.le_of_ble_eq_true rfl, Nat.le_of_ble_eq_true rfl⟩ dX10_writeCandle_62 (x_goD (wss2 := [mdO g b u9.1, iaW g (b 6) 200 u9.2, iaW g (b 1) 110 s]) (stk2 := []) rfl rfl ?_)
      refine x_aload_n C dX10_writeCandle_65 rfl 0 rfl ?_
      refine x_aload_n C dX10_writeCandle_66 rfl 0 rfl ?_
      refine x_iload_n C dX10_writeCandle_67 rfl 1 rfl ?_
      obtain ⟨u10, hu10, hf⟩ := x_b hf
      refine x_callV (n := 1) (As := [.int x1]) (rest := [.ref (b 0)]) C (c_X10_burns g l b u9.1 s x1 hu10) ⟨⟨wd_1683, wd_1680, wd_78⟩, ⟨by decide, by decide, by decide⟩, rfl, rfl, Nat.le_of_ble_eq_true rfl, Nat.le_of_ble_eq_true rfl⟩ wd_1682 wd_46 ⟨0, 11, _, _, rfl, rfl, rfl⟩ [iaW g (b 6) 200 u9.2] (x_pickD [0, 2, 1] 3 rfl rfl rfl) rfl rfl (Nat.le_of_ble_eq_true rfl) ⟨Nat.le_of_ble_eq_true rfl, Nat.le_of_ble_eq_true rfl⟩ dX10_writeCandle_68 (x_goD (wss2 := [mdO g b u9.1, iaW g (b 1) 110 s, iaW g (b 6) 200 u9.2]) (stk2 := [.int u10, .ref (b 0)]) rfl rfl ?_)
      obtain ⟨u11, hu11, hf⟩ := x_b hf
      refine x_callV (n := 1) (As := [.int u10]) (rest := []) C (c_X10_number_9 g l b u9.1 u9.2 u10 hu11) ⟨⟨wd_1818, wd_1815, wd_78⟩, ⟨by decide, by decide, by decide⟩, rfl, rfl, Nat.le_of_ble_eq_true rfl, Nat.le_of_ble_eq_true rfl⟩ wd_1817 wd_49 ⟨0, 11, _, _, rfl, rfl, rfl⟩ [iaW g (b 1) 110 s] (x_pickD [0, 2, 1] 3 rfl rfl rfl) rfl rfl (Nat.le_of_ble_eq_true rfl) ⟨Nat.le_of_ble_eq_true rfl, Nat.le_of_ble_eq_true rfl⟩ dX10_writeCandle_71 (x_goD (wss2 := [mdO g b u11.1, iaW g (b 6) 200 u11.2, iaW g (b 1) 110 s]) (stk2 := []) rfl rfl ?_)
      refine x_aload_n C dX10_writeCandle_74 rfl 0 rfl ?_
      refine x_iload_n C dX10_writeCandle_75 rfl 1 rfl ?_
      refine x_iconst (v := 3) C dX10_writeCandle_76 (by decide) ?_
      obtain ⟨u12, hu12, hf⟩ := x_b hf
      refine x_callV (n := 2) (As := [.int x1, .int (3 : Int32)]) (rest := []) C (c_X10_of g l b u11.1 s x1 (3 : Int32) hu12) ⟨⟨wd_1599, wd_1596, wd_78⟩, ⟨by decide, by decide, by decide⟩, rfl, rfl, Nat.le_of_ble_eq_true rfl, Nat.le_of_ble_eq_true rfl⟩ wd_1598 wd_31 ⟨0, 11, _, _, rfl, rfl, rfl⟩ [iaW g (b 6) 200 u11.2] (x_pickD [0, 2, 1] 3 rfl rfl rfl) rfl rfl (Nat.le_of_ble_eq_true rfl) ⟨Nat.le_of_ble_eq_true rfl, Nat.le_of_ble_eq_true rfl⟩ dX10_writeCandle_77 (x_goD (wss2 := [mdO g b u11.1, iaW g (b 1) 110 s, iaW g (b 6) 200 u11.2]) (stk2 := [.int u12]) rfl rfl ?_)
      refine x_iconst (v := 1) C dX10_writeCandle_80 (by decide) ?_
      refine x_icmp_ne (tgt := 90) C dX10_writeCandle_81 (by decide) (fun h13 => ?_) (fun h13 => ?_)
      · have hf := x_f h13 hf
        refine x_aload_n C dX10_writeCandle_90 rfl 0 rfl ?_
        refine x_get (ci := 11) (v := .int u11.1.2.2.2.2.2.2.1) (b := mdO g b u11.1) C ixX10 rfl 12 (by decide) wd_1504 (fun _ h => h) 0 rfl 0 (mdO_at0 g b _) rfl dX10_writeCandle_91 ?_
        exact x_iret C hr ⟨by cases hf; rfl, by cases hf; rfl⟩ dX10_writeCandle_94
      · have hf := x_t h13 hf
        refine x_aload_n C dX10_writeCandle_84 rfl 0 rfl ?_
        refine x_bipush (v := 42) C dX10_writeCandle_85 (by decide) ?_
        obtain ⟨u14, hu14, hf⟩ := x_b hf
        refine x_callV (n := 1) (As := [.int (42 : Int32)]) (rest := []) C (c_X10_puts g l b u11.1 u11.2 (42 : Int32) hu14) ⟨⟨wd_1822, wd_1819, wd_78⟩, ⟨by decide, by decide, by decide⟩, rfl, rfl, Nat.le_of_ble_eq_true rfl, Nat.le_of_ble_eq_true rfl⟩ wd_1821 wd_50 ⟨0, 11, _, _, rfl, rfl, rfl⟩ [iaW g (b 1) 110 s] (x_pickD [0, 2, 1] 3 rfl rfl rfl) rfl rfl (Nat.le_of_ble_eq_true rfl) ⟨Nat.le_of_ble_eq_true rfl, Nat.le_of_ble_eq_true rfl⟩ dX10_writeCandle_87 (x_goD (wss2 := [mdO g b u14.1, iaW g (b 6) 200 u14.2, iaW g (b 1) 110 s]) (stk2 := []) rfl rfl ?_)
        refine x_aload_n C dX10_writeCandle_90 rfl 0 rfl ?_
        refine x_get (ci := 11) (v := .int u14.1.2.2.2.2.2.2.1) (b := mdO g b u14.1) C ixX10 rfl 12 (by decide) wd_1504 (fun _ h => h) 0 rfl 0 (mdO_at0 g b _) rfl dX10_writeCandle_91 ?_
        refine x_perm (wss' := [mdO g b u14.1, iaW g (b 1) 110 s, iaW g (b 6) 200 u14.2]) (x_pick [0, 2, 1] 3 rfl rfl rfl) ?_
        exact x_iret C hr ⟨by cases hf; rfl, by cases hf; rfl⟩ dX10_writeCandle_94
    · have hf := x_f h2 hf
      refine x_iconst (v := 0) C dX10_writeCandle_21 (by decide) ?_
      exact x_iret C hr ⟨by cases hf; rfl, by cases hf; rfl⟩ dX10_writeCandle_22
  refine x_aload_n C dX10_writeCandle_0 rfl 0 rfl ?_
  refine x_aload_n C dX10_writeCandle_1 rfl 0 rfl ?_
  refine x_iload_n C dX10_writeCandle_2 rfl 1 rfl ?_
  obtain ⟨u1, hu1, hf⟩ := x_b hf
  refine x_callV (n := 1) (As := [.int x1]) (rest := [.ref (b 0)]) C (c_X10_isCandle g l b m s x1 hu1) ⟨⟨wd_1595, wd_1592, wd_78⟩, ⟨by decide, by decide, by decide⟩, rfl, rfl, Nat.le_of_ble_eq_true rfl, Nat.le_of_ble_eq_true rfl⟩ wd_1594 wd_30 ⟨0, 11, _, _, rfl, rfl, rfl⟩ [iaW g (b 6) 200 ln] (x_pickD [0, 1, 2] 3 rfl rfl rfl) rfl rfl (Nat.le_of_ble_eq_true rfl) ⟨Nat.le_of_ble_eq_true rfl, Nat.le_of_ble_eq_true rfl⟩ dX10_writeCandle_3 (x_goD (wss2 := [mdO g b m, iaW g (b 1) 110 s, iaW g (b 6) 200 ln]) (stk2 := [.int u1, .ref (b 0)]) rfl rfl ?_)
  refine x_if_ne (tgt := 13) C dX10_writeCandle_6 (by decide) (fun h2 => ?_) (fun h2 => ?_)
  · have hf := x_f h2 hf
    refine x_iconst (v := 0) C dX10_writeCandle_13 (by decide) ?_
    exact hL14 m ln x1 (0 : Int32) hf
  · have hf := x_t h2 hf
    refine x_iconst (v := 1) C dX10_writeCandle_9 (by decide) ?_
    refine x_goto (tgt := 14) C dX10_writeCandle_10 (by decide) ?_
    exact hL14 m ln x1 (1 : Int32) hf
theorem dX10_writeEvents_0 : decode cX10_writeEvents 0 = .ok (.aload_n 0, 1) := by decide +kernel
theorem dX10_writeEvents_1 : decode cX10_writeEvents 1 = .ok (.iconst 0, 1) := by decide +kernel
theorem dX10_writeEvents_2 : decode cX10_writeEvents 2 = .ok (.putfield 41, 3) := by decide +kernel
theorem dX10_writeEvents_5 : decode cX10_writeEvents 5 = .ok (.aload_n 0, 1) := by decide +kernel
theorem dX10_writeEvents_6 : decode cX10_writeEvents 6 = .ok (.iconst 0, 1) := by decide +kernel
theorem dX10_writeEvents_7 : decode cX10_writeEvents 7 = .ok (.putfield 155, 3) := by decide +kernel
theorem dX10_writeEvents_10 : decode cX10_writeEvents 10 = .ok (.iconst 0, 1) := by decide +kernel
theorem dX10_writeEvents_11 : decode cX10_writeEvents 11 = .ok (.istore_n 1, 1) := by decide +kernel
theorem dX10_writeEvents_12 : decode cX10_writeEvents 12 = .ok (.iload_n 1, 1) := by decide +kernel
theorem dX10_writeEvents_13 : decode cX10_writeEvents 13 = .ok (.aload_n 0, 1) := by decide +kernel
theorem dX10_writeEvents_14 : decode cX10_writeEvents 14 = .ok (.getfield 9, 3) := by decide +kernel
theorem dX10_writeEvents_17 : decode cX10_writeEvents 17 = .ok (.iconst 4, 1) := by decide +kernel
theorem dX10_writeEvents_18 : decode cX10_writeEvents 18 = .ok (.iaload, 1) := by decide +kernel
theorem dX10_writeEvents_19 : decode cX10_writeEvents 19 = .ok (.if_icmp .ge 60, 3) := by decide +kernel
theorem dX10_writeEvents_22 : decode cX10_writeEvents 22 = .ok (.iload_n 1, 1) := by decide +kernel
theorem dX10_writeEvents_23 : decode cX10_writeEvents 23 = .ok (.ifCond .le 9, 3) := by decide +kernel
theorem dX10_writeEvents_26 : decode cX10_writeEvents 26 = .ok (.aload_n 0, 1) := by decide +kernel
theorem dX10_writeEvents_27 : decode cX10_writeEvents 27 = .ok (.bipush 32, 2) := by decide +kernel
theorem dX10_writeEvents_29 : decode cX10_writeEvents 29 = .ok (.invokevirtual 161, 3) := by decide +kernel
theorem dX10_writeEvents_32 : decode cX10_writeEvents 32 = .ok (.aload_n 0, 1) := by decide +kernel
theorem dX10_writeEvents_33 : decode cX10_writeEvents 33 = .ok (.aload_n 0, 1) := by decide +kernel
theorem dX10_writeEvents_34 : decode cX10_writeEvents 34 = .ok (.iload_n 1, 1) := by decide +kernel
theorem dX10_writeEvents_35 : decode cX10_writeEvents 35 = .ok (.iconst 0, 1) := by decide +kernel
theorem dX10_writeEvents_36 : decode cX10_writeEvents 36 = .ok (.invokevirtual 101, 3) := by decide +kernel
theorem dX10_writeEvents_39 : decode cX10_writeEvents 39 = .ok (.invokevirtual 158, 3) := by decide +kernel
theorem dX10_writeEvents_42 : decode cX10_writeEvents 42 = .ok (.aload_n 0, 1) := by decide +kernel
theorem dX10_writeEvents_43 : decode cX10_writeEvents 43 = .ok (.aload_n 0, 1) := by decide +kernel
theorem dX10_writeEvents_44 : decode cX10_writeEvents 44 = .ok (.iload_n 1, 1) := by decide +kernel
theorem dX10_writeEvents_45 : decode cX10_writeEvents 45 = .ok (.iconst 2, 1) := by decide +kernel
theorem dX10_writeEvents_46 : decode cX10_writeEvents 46 = .ok (.invokevirtual 101, 3) := by decide +kernel
theorem dX10_writeEvents_49 : decode cX10_writeEvents 49 = .ok (.iconst 1, 1) := by decide +kernel
theorem dX10_writeEvents_50 : decode cX10_writeEvents 50 = .ok (.if_icmp .ne 8, 3) := by decide +kernel
theorem dX10_writeEvents_53 : decode cX10_writeEvents 53 = .ok (.bipush 108, 2) := by decide +kernel
theorem dX10_writeEvents_55 : decode cX10_writeEvents 55 = .ok (.goto 5, 3) := by decide +kernel
theorem dX10_writeEvents_58 : decode cX10_writeEvents 58 = .ok (.bipush 115, 2) := by decide +kernel
theorem dX10_writeEvents_60 : decode cX10_writeEvents 60 = .ok (.invokevirtual 161, 3) := by decide +kernel
theorem dX10_writeEvents_63 : decode cX10_writeEvents 63 = .ok (.aload_n 0, 1) := by decide +kernel
theorem dX10_writeEvents_64 : decode cX10_writeEvents 64 = .ok (.aload_n 0, 1) := by decide +kernel
theorem dX10_writeEvents_65 : decode cX10_writeEvents 65 = .ok (.iload_n 1, 1) := by decide +kernel
theorem dX10_writeEvents_66 : decode cX10_writeEvents 66 = .ok (.iconst 1, 1) := by decide +kernel
theorem dX10_writeEvents_67 : decode cX10_writeEvents 67 = .ok (.invokevirtual 101, 3) := by decide +kernel
theorem dX10_writeEvents_70 : decode cX10_writeEvents 70 = .ok (.invokevirtual 158, 3) := by decide +kernel
theorem dX10_writeEvents_73 : decode cX10_writeEvents 73 = .ok (.iinc 1 1, 3) := by decide +kernel
theorem dX10_writeEvents_76 : decode cX10_writeEvents 76 = .ok (.goto (-64), 3) := by decide +kernel
theorem dX10_writeEvents_79 : decode cX10_writeEvents 79 = .ok (.aload_n 0, 1) := by decide +kernel
theorem dX10_writeEvents_80 : decode cX10_writeEvents 80 = .ok (.getfield 155, 3) := by decide +kernel
theorem dX10_writeEvents_83 : decode cX10_writeEvents 83 = .ok (.ireturn, 1) := by decide +kernel
set_option maxHeartbeats 4000000 in
set_option maxRecDepth 100000 in
theorem c_X10_writeEvents (g : xG) (l : Launch) (b : Nat → Nat) (m : MdT) (s : (Nat → Int32)) (ln : (Nat → Int32))  {u : Int32 × MdT × (Nat → Int32)} (hf : f_X10_writeEvents m s ln = some u) : ConD g l yX10_writeEvents cX10_writeEvents 2 (some .int) ({ frames := 11, cells := 0, slots := 0, locals := 231 } : Room) [.ref (b 0)] [mdO g b m, iaW g (b 1) 110 s, iaW g (b 6) 200 ln] (some (.int u.1)) [mdO g b u.2.1, iaW g (b 1) 110 s, iaW g (b 6) 200 u.2.2] := by
  unfold f_X10_writeEvents at hf
  refine Con_of [mdO g b m, iaW g (b 1) 110 s, iaW g (b 6) 200 ln] [(0, .ref (b 0))] rfl rfl (by decide) (Nat.le_of_ble_eq_true rfl) ?_
  intro pW eW sW mW argsW belowW methW c9 C hnm hr
  have C : CX g RX10 cX10_writeEvents 2 _ pW sW mW argsW methW c9 := C
  have hL12 : ∀ (nW : Nat) (mL : MdT) (lnL : (Nat → Int32)) (x1 : Int32), f_X10_writeEvents_12 nW mL s lnL x1 = some u → VW g (va_A ([mdO g b m, iaW g (b 1) 110 s, iaW g (b 6) 200 ln] : List va_W).flatten sW.heap.size) 2 pW l eW ({ frames := 11, cells := 0, slots := 0, locals := 231 } : Room) sW mW argsW belowW methW c9 0 0 (MQ belowW (xQc g ([mdO g b m, iaW g (b 1) 110 s, iaW g (b 6) 200 ln] : List va_W).flatten sW.heap.size (fun v9 w9 => v9 = some (.int u.1) ∧ w9 = ([mdO g b u.2.1, iaW g (b 1) 110 s, iaW g (b 6) 200 u.2.2] : List va_W).flatten)) argsW sW 0 0 (va_A ([mdO g b m, iaW g (b 1) 110 s, iaW g (b 6) 200 ln] : List va_W).flatten sW.heap.size)) [mdO g b mL, iaW g (b 1) 110 s, iaW g (b 6) 200 lnL] [(0, .ref (b 0)), (1, .int x1)] 12 [] := by
    intro nW
    induction nW with
    | zero => intro mL lnL x1 hf; rw [f_X10_writeEvents_12] at hf; cases hf
    | succ nW ih =>
      intro mL lnL x1 hf
      rw [f_X10_writeEvents_12] at hf
      refine x_iload_n C dX10_writeEvents_12 rfl 1 rfl ?_
      refine x_aload_n C dX10_writeEvents_13 rfl 0 rfl ?_
      refine x_get (ci := 11) (v := .ref (b 1)) (b := mdO g b mL) C ixX10 rfl 0 (by decide) wd_1492 (fun _ h => h) 0 rfl 0 (mdO_at0 g b _) rfl dX10_writeEvents_14 ?_
      refine x_iconst (v := 4) C dX10_writeEvents_17 (by decide) ?_
      obtain ⟨h1, hf⟩ := x_n hf
      refine x_iald (b := iaW g (b 1) 110 s) C 1 rfl 0 (iaW_at0 g (b 1) 110 _) h1 dX10_writeEvents_18 ?_
      refine x_icmp_ge (tgt := 79) C dX10_writeEvents_19 (by decide) (fun h2 => ?_) (fun h2 => ?_)
      · have hf := x_t h2 hf
        refine x_aload_n C dX10_writeEvents_79 rfl 0 rfl ?_
        refine x_get (ci := 11) (v := .int mL.2.2.2.2.2.2.1) (b := mdO g b mL) C ixX10 rfl 12 (by decide) wd_1504 (fun _ h => h) 0 rfl 0 (mdO_at0 g b _) rfl dX10_writeEvents_80 ?_
        exact x_iret C hr ⟨by cases hf; rfl, by cases hf; rfl⟩ dX10_writeEvents_83
      · have hf := x_f h2 hf
        refine x_iload_n C dX10_writeEvents_22 rfl 1 rfl ?_
        refine x_if_le (tgt := 32) C dX10_writeEvents_23 (by decide) (fun h3 => ?_) (fun h3 => ?_)
        · have hf := x_t h3 hf
          refine x_aload_n C dX10_writeEvents_32 rfl 0 rfl ?_
          refine x_aload_n C dX10_writeEvents_33 rfl 0 rfl ?_
          refine x_iload_n C dX10_writeEvents_34 rfl 1 rfl ?_
          refine x_iconst (v := 0) C dX10_writeEvents_35 (by decide) ?_
          obtain ⟨u4, hu4, hf⟩ := x_b hf
          refine x_callV (n := 2) (As := [.int x1, .int (0 : Int32)]) (rest := [.ref (b 0)]) C (c_X10_ofEvent g l b mL s x1 (0 : Int32) hu4) ⟨⟨wd_1639, wd_1636, wd_78⟩, ⟨by decide, by decide, by decide⟩, rfl, rfl, Nat.le_of_ble_eq_true rfl, Nat.le_of_ble_eq_true rfl⟩ wd_1638 wd_37 ⟨0, 11, _, _, rfl, rfl, rfl⟩ [iaW g (b 6) 200 lnL] (x_pickD [0, 1, 2] 3 rfl rfl rfl) rfl rfl (Nat.le_of_ble_eq_true rfl) ⟨Nat.le_of_ble_eq_true rfl, Nat.le_of_ble_eq_true rfl⟩ dX10_writeEvents_36 (x_goD (wss2 := [mdO g b mL, iaW g (b 1) 110 s, iaW g (b 6) 200 lnL]) (stk2 := [.int u4, .ref (b 0)]) rfl rfl ?_)
          obtain ⟨u5, hu5, hf⟩ := x_b hf
          refine x_callV (n := 1) (As := [.int u4]) (rest := []) C (c_X10_number_9 g l b mL lnL u4 hu5) ⟨⟨wd_1818, wd_1815, wd_78⟩, ⟨by decide, by decide, by decide⟩, rfl, rfl, Nat.le_of_ble_eq_true rfl, Nat.le_of_ble_eq_true rfl⟩ wd_1817 wd_49 ⟨0, 11, _, _, rfl, rfl, rfl⟩ [iaW g (b 1) 110 s] (x_pickD [0, 2, 1] 3 rfl rfl rfl) rfl rfl (Nat.le_of_ble_eq_true rfl) ⟨Nat.le_of_ble_eq_true rfl, Nat.le_of_ble_eq_true rfl⟩ dX10_writeEvents_39 (x_goD (wss2 := [mdO g b u5.1, iaW g (b 6) 200 u5.2, iaW g (b 1) 110 s]) (stk2 := []) rfl rfl ?_)
          refine x_aload_n C dX10_writeEvents_42 rfl 0 rfl ?_
          refine x_aload_n C dX10_writeEvents_43 rfl 0 rfl ?_
          refine x_iload_n C dX10_writeEvents_44 rfl 1 rfl ?_
          refine x_iconst (v := 2) C dX10_writeEvents_45 (by decide) ?_
          obtain ⟨u6, hu6, hf⟩ := x_b hf
          refine x_callV (n := 2) (As := [.int x1, .int (2 : Int32)]) (rest := [.ref (b 0)]) C (c_X10_ofEvent g l b u5.1 s x1 (2 : Int32) hu6) ⟨⟨wd_1639, wd_1636, wd_78⟩, ⟨by decide, by decide, by decide⟩, rfl, rfl, Nat.le_of_ble_eq_true rfl, Nat.le_of_ble_eq_true rfl⟩ wd_1638 wd_37 ⟨0, 11, _, _, rfl, rfl, rfl⟩ [iaW g (b 6) 200 u5.2] (x_pickD [0, 2, 1] 3 rfl rfl rfl) rfl rfl (Nat.le_of_ble_eq_true rfl) ⟨Nat.le_of_ble_eq_true rfl, Nat.le_of_ble_eq_true rfl⟩ dX10_writeEvents_46 (x_goD (wss2 := [mdO g b u5.1, iaW g (b 1) 110 s, iaW g (b 6) 200 u5.2]) (stk2 := [.int u6, .ref (b 0)]) rfl rfl ?_)
          refine x_iconst (v := 1) C dX10_writeEvents_49 (by decide) ?_
          refine x_icmp_ne (tgt := 58) C dX10_writeEvents_50 (by decide) (fun h7 => ?_) (fun h7 => ?_)
          · have hf := x_f h7 hf
            refine x_bipush (v := 115) C dX10_writeEvents_58 (by decide) ?_
            obtain ⟨u8, hu8, hf⟩ := x_b hf
            refine x_callV (n := 1) (As := [.int (115 : Int32)]) (rest := []) C (c_X10_puts g l b u5.1 u5.2 (115 : Int32) hu8) ⟨⟨wd_1822, wd_1819, wd_78⟩, ⟨by decide, by decide, by decide⟩, rfl, rfl, Nat.le_of_ble_eq_true rfl, Nat.le_of_ble_eq_true rfl⟩ wd_1821 wd_50 ⟨0, 11, _, _, rfl, rfl, rfl⟩ [iaW g (b 1) 110 s] (x_pickD [0, 2, 1] 3 rfl rfl rfl) rfl rfl (Nat.le_of_ble_eq_true rfl) ⟨Nat.le_of_ble_eq_true rfl, Nat.le_of_ble_eq_true rfl⟩ dX10_writeEvents_60 (x_goD (wss2 := [mdO g b u8.1, iaW g (b 6) 200 u8.2, iaW g (b 1) 110 s]) (stk2 := []) rfl rfl ?_)
            refine x_aload_n C dX10_writeEvents_63 rfl 0 rfl ?_
            refine x_aload_n C dX10_writeEvents_64 rfl 0 rfl ?_
            refine x_iload_n C dX10_writeEvents_65 rfl 1 rfl ?_
            refine x_iconst (v := 1) C dX10_writeEvents_66 (by decide) ?_
            obtain ⟨u9, hu9, hf⟩ := x_b hf
            refine x_callV (n := 2) (As := [.int x1, .int (1 : Int32)]) (rest := [.ref (b 0)]) C (c_X10_ofEvent g l b u8.1 s x1 (1 : Int32) hu9) ⟨⟨wd_1639, wd_1636, wd_78⟩, ⟨by decide, by decide, by decide⟩, rfl, rfl, Nat.le_of_ble_eq_true rfl, Nat.le_of_ble_eq_true rfl⟩ wd_1638 wd_37 ⟨0, 11, _, _, rfl, rfl, rfl⟩ [iaW g (b 6) 200 u8.2] (x_pickD [0, 2, 1] 3 rfl rfl rfl) rfl rfl (Nat.le_of_ble_eq_true rfl) ⟨Nat.le_of_ble_eq_true rfl, Nat.le_of_ble_eq_true rfl⟩ dX10_writeEvents_67 (x_goD (wss2 := [mdO g b u8.1, iaW g (b 1) 110 s, iaW g (b 6) 200 u8.2]) (stk2 := [.int u9, .ref (b 0)]) rfl rfl ?_)
            obtain ⟨u10, hu10, hf⟩ := x_b hf
            refine x_callV (n := 1) (As := [.int u9]) (rest := []) C (c_X10_number_9 g l b u8.1 u8.2 u9 hu10) ⟨⟨wd_1818, wd_1815, wd_78⟩, ⟨by decide, by decide, by decide⟩, rfl, rfl, Nat.le_of_ble_eq_true rfl, Nat.le_of_ble_eq_true rfl⟩ wd_1817 wd_49 ⟨0, 11, _, _, rfl, rfl, rfl⟩ [iaW g (b 1) 110 s] (x_pickD [0, 2, 1] 3 rfl rfl rfl) rfl rfl (Nat.le_of_ble_eq_true rfl) ⟨Nat.le_of_ble_eq_true rfl, Nat.le_of_ble_eq_true rfl⟩ dX10_writeEvents_70 (x_goD (wss2 := [mdO g b u10.1, iaW g (b 6) 200 u10.2, iaW g (b 1) 110 s]) (stk2 := []) rfl rfl ?_)
            refine x_iinc (v := x1 + 1) (lv' := [(1, .int (x1 + 1)), (0, .ref (b 0))]) C dX10_writeEvents_73 1 rfl rfl (by decide) rfl ?_
            refine x_goto (tgt := 12) C dX10_writeEvents_76 (by decide) ?_
            refine x_perm (wss' := [mdO g b u10.1, iaW g (b 1) 110 s, iaW g (b 6) 200 u10.2]) (x_pick [0, 2, 1] 3 rfl rfl rfl) ?_
            refine x_locals (lv' := [(0, .ref (b 0)), (1, .int (x1 + 1))]) [1, 0] rfl ?_
            exact ih u10.1 u10.2 (x1 + 1) hf
          · have hf := x_t h7 hf
            refine x_bipush (v := 108) C dX10_writeEvents_53 (by decide) ?_
            refine x_goto (tgt := 60) C dX10_writeEvents_55 (by decide) ?_
            obtain ⟨u11, hu11, hf⟩ := x_b hf
            refine x_callV (n := 1) (As := [.int (108 : Int32)]) (rest := []) C (c_X10_puts g l b u5.1 u5.2 (108 : Int32) hu11) ⟨⟨wd_1822, wd_1819, wd_78⟩, ⟨by decide, by decide, by decide⟩, rfl, rfl, Nat.le_of_ble_eq_true rfl, Nat.le_of_ble_eq_true rfl⟩ wd_1821 wd_50 ⟨0, 11, _, _, rfl, rfl, rfl⟩ [iaW g (b 1) 110 s] (x_pickD [0, 2, 1] 3 rfl rfl rfl) rfl rfl (Nat.le_of_ble_eq_true rfl) ⟨Nat.le_of_ble_eq_true rfl, Nat.le_of_ble_eq_true rfl⟩ dX10_writeEvents_60 (x_goD (wss2 := [mdO g b u11.1, iaW g (b 6) 200 u11.2, iaW g (b 1) 110 s]) (stk2 := []) rfl rfl ?_)
            refine x_aload_n C dX10_writeEvents_63 rfl 0 rfl ?_
            refine x_aload_n C dX10_writeEvents_64 rfl 0 rfl ?_
            refine x_iload_n C dX10_writeEvents_65 rfl 1 rfl ?_
            refine x_iconst (v := 1) C dX10_writeEvents_66 (by decide) ?_
            obtain ⟨u12, hu12, hf⟩ := x_b hf
            refine x_callV (n := 2) (As := [.int x1, .int (1 : Int32)]) (rest := [.ref (b 0)]) C (c_X10_ofEvent g l b u11.1 s x1 (1 : Int32) hu12) ⟨⟨wd_1639, wd_1636, wd_78⟩, ⟨by decide, by decide, by decide⟩, rfl, rfl, Nat.le_of_ble_eq_true rfl, Nat.le_of_ble_eq_true rfl⟩ wd_1638 wd_37 ⟨0, 11, _, _, rfl, rfl, rfl⟩ [iaW g (b 6) 200 u11.2] (x_pickD [0, 2, 1] 3 rfl rfl rfl) rfl rfl (Nat.le_of_ble_eq_true rfl) ⟨Nat.le_of_ble_eq_true rfl, Nat.le_of_ble_eq_true rfl⟩ dX10_writeEvents_67 (x_goD (wss2 := [mdO g b u11.1, iaW g (b 1) 110 s, iaW g (b 6) 200 u11.2]) (stk2 := [.int u12, .ref (b 0)]) rfl rfl ?_)
            obtain ⟨u13, hu13, hf⟩ := x_b hf
            refine x_callV (n := 1) (As := [.int u12]) (rest := []) C (c_X10_number_9 g l b u11.1 u11.2 u12 hu13) ⟨⟨wd_1818, wd_1815, wd_78⟩, ⟨by decide, by decide, by decide⟩, rfl, rfl, Nat.le_of_ble_eq_true rfl, Nat.le_of_ble_eq_true rfl⟩ wd_1817 wd_49 ⟨0, 11, _, _, rfl, rfl, rfl⟩ [iaW g (b 1) 110 s] (x_pickD [0, 2, 1] 3 rfl rfl rfl) rfl rfl (Nat.le_of_ble_eq_true rfl) ⟨Nat.le_of_ble_eq_true rfl, Nat.le_of_ble_eq_true rfl⟩ dX10_writeEvents_70 (x_goD (wss2 := [mdO g b u13.1, iaW g (b 6) 200 u13.2, iaW g (b 1) 110 s]) (stk2 := []) rfl rfl ?_)
            refine x_iinc (v := x1 + 1) (lv' := [(1, .int (x1 + 1)), (0, .ref (b 0))]) C dX10_writeEvents_73 1 rfl rfl (by decide) rfl ?_
            refine x_goto (tgt := 12) C dX10_writeEvents_76 (by decide) ?_
            refine x_perm (wss' := [mdO g b u13.1, iaW g (b 1) 110 s, iaW g (b 6) 200 u13.2]) (x_pick [0, 2, 1] 3 rfl rfl rfl) ?_
            refine x_locals (lv' := [(0, .ref (b 0)), (1, .int (x1 + 1))]) [1, 0] rfl ?_
            exact ih u13.1 u13.2 (x1 + 1) hf
        · have hf := x_f h3 hf
          refine x_aload_n C dX10_writeEvents_26 rfl 0 rfl ?_
          refine x_bipush (v := 32) C dX10_writeEvents_27 (by decide) ?_
          obtain ⟨u14, hu14, hf⟩ := x_b hf
          refine x_callV (n := 1) (As := [.int (32 : Int32)]) (rest := []) C (c_X10_puts g l b mL lnL (32 : Int32) hu14) ⟨⟨wd_1822, wd_1819, wd_78⟩, ⟨by decide, by decide, by decide⟩, rfl, rfl, Nat.le_of_ble_eq_true rfl, Nat.le_of_ble_eq_true rfl⟩ wd_1821 wd_50 ⟨0, 11, _, _, rfl, rfl, rfl⟩ [iaW g (b 1) 110 s] (x_pickD [0, 2, 1] 3 rfl rfl rfl) rfl rfl (Nat.le_of_ble_eq_true rfl) ⟨Nat.le_of_ble_eq_true rfl, Nat.le_of_ble_eq_true rfl⟩ dX10_writeEvents_29 (x_goD (wss2 := [mdO g b u14.1, iaW g (b 6) 200 u14.2, iaW g (b 1) 110 s]) (stk2 := []) rfl rfl ?_)
          refine x_aload_n C dX10_writeEvents_32 rfl 0 rfl ?_
          refine x_aload_n C dX10_writeEvents_33 rfl 0 rfl ?_
          refine x_iload_n C dX10_writeEvents_34 rfl 1 rfl ?_
          refine x_iconst (v := 0) C dX10_writeEvents_35 (by decide) ?_
          obtain ⟨u15, hu15, hf⟩ := x_b hf
          refine x_callV (n := 2) (As := [.int x1, .int (0 : Int32)]) (rest := [.ref (b 0)]) C (c_X10_ofEvent g l b u14.1 s x1 (0 : Int32) hu15) ⟨⟨wd_1639, wd_1636, wd_78⟩, ⟨by decide, by decide, by decide⟩, rfl, rfl, Nat.le_of_ble_eq_true rfl, Nat.le_of_ble_eq_true rfl⟩ wd_1638 wd_37 ⟨0, 11, _, _, rfl, rfl, rfl⟩ [iaW g (b 6) 200 u14.2] (x_pickD [0, 2, 1] 3 rfl rfl rfl) rfl rfl (Nat.le_of_ble_eq_true rfl) ⟨Nat.le_of_ble_eq_true rfl, Nat.le_of_ble_eq_true rfl⟩ dX10_writeEvents_36 (x_goD (wss2 := [mdO g b u14.1, iaW g (b 1) 110 s, iaW g (b 6) 200 u14.2]) (stk2 := [.int u15, .ref (b 0)]) rfl rfl ?_)
          obtain ⟨u16, hu16, hf⟩ := x_b hf
          refine x_callV (n := 1) (As := [.int u15]) (rest := []) C (c_X10_number_9 g l b u14.1 u14.2 u15 hu16) ⟨⟨wd_1818, wd_1815, wd_78⟩, ⟨by decide, by decide, by decide⟩, rfl, rfl, Nat.le_of_ble_eq_true rfl, Nat.le_of_ble_eq_true rfl⟩ wd_1817 wd_49 ⟨0, 11, _, _, rfl, rfl, rfl⟩ [iaW g (b 1) 110 s] (x_pickD [0, 2, 1] 3 rfl rfl rfl) rfl rfl (Nat.le_of_ble_eq_true rfl) ⟨Nat.le_of_ble_eq_true rfl, Nat.le_of_ble_eq_true rfl⟩ dX10_writeEvents_39 (x_goD (wss2 := [mdO g b u16.1, iaW g (b 6) 200 u16.2, iaW g (b 1) 110 s]) (stk2 := []) rfl rfl ?_)
          refine x_aload_n C dX10_writeEvents_42 rfl 0 rfl ?_
          refine x_aload_n C dX10_writeEvents_43 rfl 0 rfl ?_
          refine x_iload_n C dX10_writeEvents_44 rfl 1 rfl ?_
          refine x_iconst (v := 2) C dX10_writeEvents_45 (by decide) ?_
          obtain ⟨u17, hu17, hf⟩ := x_b hf
          refine x_callV (n := 2) (As := [.int x1, .int (2 : Int32)]) (rest := [.ref (b 0)]) C (c_X10_ofEvent g l b u16.1 s x1 (2 : Int32) hu17) ⟨⟨wd_1639, wd_1636, wd_78⟩, ⟨by decide, by decide, by decide⟩, rfl, rfl, Nat.le_of_ble_eq_true rfl, Nat.le_of_ble_eq_true rfl⟩ wd_1638 wd_37 ⟨0, 11, _, _, rfl, rfl, rfl⟩ [iaW g (b 6) 200 u16.2] (x_pickD [0, 2, 1] 3 rfl rfl rfl) rfl rfl (Nat.le_of_ble_eq_true rfl) ⟨Nat.le_of_ble_eq_true rfl, Nat.le_of_ble_eq_true rfl⟩ dX10_writeEvents_46 (x_goD (wss2 := [mdO g b u16.1, iaW g (b 1) 110 s, iaW g (b 6) 200 u16.2]) (stk2 := [.int u17, .ref (b 0)]) rfl rfl ?_)
          refine x_iconst (v := 1) C dX10_writeEvents_49 (by decide) ?_
          refine x_icmp_ne (tgt := 58) C dX10_writeEvents_50 (by decide) (fun h18 => ?_) (fun h18 => ?_)
          · have hf := x_f h18 hf
            refine x_bipush (v := 115) C dX10_writeEvents_58 (by decide) ?_
            obtain ⟨u19, hu19, hf⟩ := x_b hf
            refine x_callV (n := 1) (As := [.int (115 : Int32)]) (rest := []) C (c_X10_puts g l b u16.1 u16.2 (115 : Int32) hu19) ⟨⟨wd_1822, wd_1819, wd_78⟩, ⟨by decide, by decide, by decide⟩, rfl, rfl, Nat.le_of_ble_eq_true rfl, Nat.le_of_ble_eq_true rfl⟩ wd_1821 wd_50 ⟨0, 11, _, _, rfl, rfl, rfl⟩ [iaW g (b 1) 110 s] (x_pickD [0, 2, 1] 3 rfl rfl rfl) rfl rfl (Nat.le_of_ble_eq_true rfl) ⟨Nat.le_of_ble_eq_true rfl, Nat.le_of_ble_eq_true rfl⟩ dX10_writeEvents_60 (x_goD (wss2 := [mdO g b u19.1, iaW g (b 6) 200 u19.2, iaW g (b 1) 110 s]) (stk2 := []) rfl rfl ?_)
            refine x_aload_n C dX10_writeEvents_63 rfl 0 rfl ?_
            refine x_aload_n C dX10_writeEvents_64 rfl 0 rfl ?_
            refine x_iload_n C dX10_writeEvents_65 rfl 1 rfl ?_
            refine x_iconst (v := 1) C dX10_writeEvents_66 (by decide) ?_
            obtain ⟨u20, hu20, hf⟩ := x_b hf
            refine x_callV (n := 2) (As := [.int x1, .int (1 : Int32)]) (rest := [.ref (b 0)]) C (c_X10_ofEvent g l b u19.1 s x1 (1 : Int32) hu20) ⟨⟨wd_1639, wd_1636, wd_78⟩, ⟨by decide, by decide, by decide⟩, rfl, rfl, Nat.le_of_ble_eq_true rfl, Nat.le_of_ble_eq_true rfl⟩ wd_1638 wd_37 ⟨0, 11, _, _, rfl, rfl, rfl⟩ [iaW g (b 6) 200 u19.2] (x_pickD [0, 2, 1] 3 rfl rfl rfl) rfl rfl (Nat.le_of_ble_eq_true rfl) ⟨Nat.le_of_ble_eq_true rfl, Nat.le_of_ble_eq_true rfl⟩ dX10_writeEvents_67 (x_goD (wss2 := [mdO g b u19.1, iaW g (b 1) 110 s, iaW g (b 6) 200 u19.2]) (stk2 := [.int u20, .ref (b 0)]) rfl rfl ?_)
            obtain ⟨u21, hu21, hf⟩ := x_b hf
            refine x_callV (n := 1) (As := [.int u20]) (rest := []) C (c_X10_number_9 g l b u19.1 u19.2 u20 hu21) ⟨⟨wd_1818, wd_1815, wd_78⟩, ⟨by decide, by decide, by decide⟩, rfl, rfl, Nat.le_of_ble_eq_true rfl, Nat.le_of_ble_eq_true rfl⟩ wd_1817 wd_49 ⟨0, 11, _, _, rfl, rfl, rfl⟩ [iaW g (b 1) 110 s] (x_pickD [0, 2, 1] 3 rfl rfl rfl) rfl rfl (Nat.le_of_ble_eq_true rfl) ⟨Nat.le_of_ble_eq_true rfl, Nat.le_of_ble_eq_true rfl⟩ dX10_writeEvents_70 (x_goD (wss2 := [mdO g b u21.1, iaW g (b 6) 200 u21.2, iaW g (b 1) 110 s]) (stk2 := []) rfl rfl ?_)
            refine x_iinc (v := x1 + 1) (lv' := [(1, .int (x1 + 1)), (0, .ref (b 0))]) C dX10_writeEvents_73 1 rfl rfl (by decide) rfl ?_
            refine x_goto (tgt := 12) C dX10_writeEvents_76 (by decide) ?_
            refine x_perm (wss' := [mdO g b u21.1, iaW g (b 1) 110 s, iaW g (b 6) 200 u21.2]) (x_pick [0, 2, 1] 3 rfl rfl rfl) ?_
            refine x_locals (lv' := [(0, .ref (b 0)), (1, .int (x1 + 1))]) [1, 0] rfl ?_
            exact ih u21.1 u21.2 (x1 + 1) hf
          · have hf := x_t h18 hf
            refine x_bipush (v := 108) C dX10_writeEvents_53 (by decide) ?_
            refine x_goto (tgt := 60) C dX10_writeEvents_55 (by decide) ?_
            obtain ⟨u22, hu22, hf⟩ := x_b hf
            refine x_callV (n := 1) (As := [.int (108 : Int32)]) (rest := []) C (c_X10_puts g l b u16.1 u16.2 (108 : Int32) hu22) ⟨⟨wd_1822, wd_1819, wd_78⟩, ⟨by decide, by decide, by decide⟩, rfl, rfl, Nat.le_of_ble_eq_true rfl, Nat.le_of_ble_eq_true rfl⟩ wd_1821 wd_50 ⟨0, 11, _, _, rfl, rfl, rfl⟩ [iaW g (b 1) 110 s] (x_pickD [0, 2, 1] 3 rfl rfl rfl) rfl rfl (Nat.le_of_ble_eq_true rfl) ⟨Nat.le_of_ble_eq_true rfl, Nat.le_of_ble_eq_true rfl⟩ dX10_writeEvents_60 (x_goD (wss2 := [mdO g b u22.1, iaW g (b 6) 200 u22.2, iaW g (b 1) 110 s]) (stk2 := []) rfl rfl ?_)
            refine x_aload_n C dX10_writeEvents_63 rfl 0 rfl ?_
            refine x_aload_n C dX10_writeEvents_64 rfl 0 rfl ?_
            refine x_iload_n C dX10_writeEvents_65 rfl 1 rfl ?_
            refine x_iconst (v := 1) C dX10_writeEvents_66 (by decide) ?_
            obtain ⟨u23, hu23, hf⟩ := x_b hf
            refine x_callV (n := 2) (As := [.int x1, .int (1 : Int32)]) (rest := [.ref (b 0)]) C (c_X10_ofEvent g l b u22.1 s x1 (1 : Int32) hu23) ⟨⟨wd_1639, wd_1636, wd_78⟩, ⟨by decide, by decide, by decide⟩, rfl, rfl, Nat.le_of_ble_eq_true rfl, Nat.le_of_ble_eq_true rfl⟩ wd_1638 wd_37 ⟨0, 11, _, _, rfl, rfl, rfl⟩ [iaW g (b 6) 200 u22.2] (x_pickD [0, 2, 1] 3 rfl rfl rfl) rfl rfl (Nat.le_of_ble_eq_true rfl) ⟨Nat.le_of_ble_eq_true rfl, Nat.le_of_ble_eq_true rfl⟩ dX10_writeEvents_67 (x_goD (wss2 := [mdO g b u22.1, iaW g (b 1) 110 s, iaW g (b 6) 200 u22.2]) (stk2 := [.int u23, .ref (b 0)]) rfl rfl ?_)
            obtain ⟨u24, hu24, hf⟩ := x_b hf
            refine x_callV (n := 1) (As := [.int u23]) (rest := []) C (c_X10_number_9 g l b u22.1 u22.2 u23 hu24) ⟨⟨wd_1818, wd_1815, wd_78⟩, ⟨by decide, by decide, by decide⟩, rfl, rfl, Nat.le_of_ble_eq_true rfl, Nat.le_of_ble_eq_true rfl⟩ wd_1817 wd_49 ⟨0, 11, _, _, rfl, rfl, rfl⟩ [iaW g (b 1) 110 s] (x_pickD [0, 2, 1] 3 rfl rfl rfl) rfl rfl (Nat.le_of_ble_eq_true rfl) ⟨Nat.le_of_ble_eq_true rfl, Nat.le_of_ble_eq_true rfl⟩ dX10_writeEvents_70 (x_goD (wss2 := [mdO g b u24.1, iaW g (b 6) 200 u24.2, iaW g (b 1) 110 s]) (stk2 := []) rfl rfl ?_)
            refine x_iinc (v := x1 + 1) (lv' := [(1, .int (x1 + 1)), (0, .ref (b 0))]) C dX10_writeEvents_73 1 rfl rfl (by decide) rfl ?_
            refine x_goto (tgt := 12) C dX10_writeEvents_76 (by decide) ?_
            refine x_perm (wss' := [mdO g b u24.1, iaW g (b 1) 110 s, iaW g (b 6) 200 u24.2]) (x_pick [0, 2, 1] 3 rfl rfl rfl) ?_
            refine x_locals (lv' := [(0, .ref (b 0)), (1, .int (x1 + 1))]) [1, 0] rfl ?_
            exact ih u24.1 u24.2 (x1 + 1) hf
  refine x_aload_n C dX10_writeEvents_0 rfl 0 rfl ?_
  refine x_iconst (v := 0) C dX10_writeEvents_1 (by decide) ?_
  refine x_put (ci := 11) (ty := .int) (v := .int (0 : Int32)) (b := mdO g b m) (b' := mdO g b (m.1, (0 : Int32), m.2.2.1, m.2.2.2.1, m.2.2.2.2.1, m.2.2.2.2.2.1, m.2.2.2.2.2.2.1, m.2.2.2.2.2.2.2.1, m.2.2.2.2.2.2.2.2.1, m.2.2.2.2.2.2.2.2.2)) (wss' := [mdO g b (m.1, (0 : Int32), m.2.2.1, m.2.2.2.1, m.2.2.2.2.1, m.2.2.2.2.2.1, m.2.2.2.2.2.2.1, m.2.2.2.2.2.2.2.1, m.2.2.2.2.2.2.2.2.1, m.2.2.2.2.2.2.2.2.2), iaW g (b 1) 110 s, iaW g (b 6) 200 ln]) C ixX10 tyX10 tyX10_ok nmX10 rfl 6 (by decide) wd_1498 (fun _ h => h) rfl (tyX10_ok 6 (by decide)) rfl rfl 0 rfl 0 (mdO_at0 g b _) (Nat.le_of_ble_eq_true rfl) rfl rfl dX10_writeEvents_2 ?_
  refine x_aload_n C dX10_writeEvents_5 rfl 0 rfl ?_
  refine x_iconst (v := 0) C dX10_writeEvents_6 (by decide) ?_
  refine x_put (ci := 11) (ty := .int) (v := .int (0 : Int32)) (b := mdO g b (m.1, (0 : Int32), m.2.2.1, m.2.2.2.1, m.2.2.2.2.1, m.2.2.2.2.2.1, m.2.2.2.2.2.2.1, m.2.2.2.2.2.2.2.1, m.2.2.2.2.2.2.2.2.1, m.2.2.2.2.2.2.2.2.2)) (b' := mdO g b (m.1, (0 : Int32), m.2.2.1, m.2.2.2.1, m.2.2.2.2.1, m.2.2.2.2.2.1, (0 : Int32), m.2.2.2.2.2.2.2.1, m.2.2.2.2.2.2.2.2.1, m.2.2.2.2.2.2.2.2.2)) (wss' := [mdO g b (m.1, (0 : Int32), m.2.2.1, m.2.2.2.1, m.2.2.2.2.1, m.2.2.2.2.2.1, (0 : Int32), m.2.2.2.2.2.2.2.1, m.2.2.2.2.2.2.2.2.1, m.2.2.2.2.2.2.2.2.2), iaW g (b 1) 110 s, iaW g (b 6) 200 ln]) C ixX10 tyX10 tyX10_ok nmX10 rfl 12 (by decide) wd_1504 (fun _ h => h) rfl (tyX10_ok 12 (by decide)) rfl rfl 0 rfl 0 (mdO_at0 g b _) (Nat.le_of_ble_eq_true rfl) rfl rfl dX10_writeEvents_7 ?_
  refine x_iconst (v := 0) C dX10_writeEvents_10 (by decide) ?_
  refine x_istore_n (lv' := [(1, .int (0 : Int32)), (0, .ref (b 0))]) C dX10_writeEvents_11 rfl (by decide) rfl ?_
  refine x_locals (lv' := [(0, .ref (b 0)), (1, .int (0 : Int32))]) [1, 0] rfl ?_
  exact hL12 xFuel (m.1, (0 : Int32), m.2.2.1, m.2.2.2.1, m.2.2.2.2.1, m.2.2.2.2.2.1, (0 : Int32), m.2.2.2.2.2.2.2.1, m.2.2.2.2.2.2.2.2.1, m.2.2.2.2.2.2.2.2.2) ln (0 : Int32) hf
theorem dX10_charAt_0 : decode cX10_charAt 0 = .ok (.aload_n 0, 1) := by decide +kernel
theorem dX10_charAt_1 : decode cX10_charAt 1 = .ok (.iload_n 1, 1) := by decide +kernel
theorem dX10_charAt_2 : decode cX10_charAt 2 = .ok (.iconst 0, 1) := by decide +kernel
theorem dX10_charAt_3 : decode cX10_charAt 3 = .ok (.aload_n 0, 1) := by decide +kernel
theorem dX10_charAt_4 : decode cX10_charAt 4 = .ok (.getfield 155, 3) := by decide +kernel
theorem dX10_charAt_7 : decode cX10_charAt 7 = .ok (.iconst 1, 1) := by decide +kernel
theorem dX10_charAt_8 : decode cX10_charAt 8 = .ok (.isub, 1) := by decide +kernel
theorem dX10_charAt_9 : decode cX10_charAt 9 = .ok (.invokestatic 51, 3) := by decide +kernel
theorem dX10_charAt_12 : decode cX10_charAt 12 = .ok (.ifCond .ne 7, 3) := by decide +kernel
theorem dX10_charAt_15 : decode cX10_charAt 15 = .ok (.iconst 1, 1) := by decide +kernel
theorem dX10_charAt_16 : decode cX10_charAt 16 = .ok (.goto 4, 3) := by decide +kernel
theorem dX10_charAt_19 : decode cX10_charAt 19 = .ok (.iconst 0, 1) := by decide +kernel
theorem dX10_charAt_20 : decode cX10_charAt 20 = .ok (.iconst 1, 1) := by decide +kernel
theorem dX10_charAt_21 : decode cX10_charAt 21 = .ok (.invokevirtual 63, 3) := by decide +kernel
theorem dX10_charAt_24 : decode cX10_charAt 24 = .ok (.ifCond .eq 7, 3) := by decide +kernel
theorem dX10_charAt_27 : decode cX10_charAt 27 = .ok (.iconst 0, 1) := by decide +kernel
theorem dX10_charAt_28 : decode cX10_charAt 28 = .ok (.goto 10, 3) := by decide +kernel
theorem dX10_charAt_31 : decode cX10_charAt 31 = .ok (.aload_n 0, 1) := by decide +kernel
theorem dX10_charAt_32 : decode cX10_charAt 32 = .ok (.getfield 32, 3) := by decide +kernel
theorem dX10_charAt_35 : decode cX10_charAt 35 = .ok (.iload_n 1, 1) := by decide +kernel
theorem dX10_charAt_36 : decode cX10_charAt 36 = .ok (.iaload, 1) := by decide +kernel
theorem dX10_charAt_37 : decode cX10_charAt 37 = .ok (.i2c, 1) := by decide +kernel
theorem dX10_charAt_38 : decode cX10_charAt 38 = .ok (.ireturn, 1) := by decide +kernel
set_option maxHeartbeats 4000000 in
set_option maxRecDepth 100000 in
theorem c_X10_charAt (g : xG) (l : Launch) (b : Nat → Nat) (m : MdT) (ln : (Nat → Int32)) (x1 : Int32) {u : Int32 × MdT} (hf : f_X10_charAt m ln x1 = some u) : ConD g l yX10_charAt cX10_charAt 2 (some .char) ({ frames := 1, cells := 0, slots := 0, locals := 22 } : Room) [.ref (b 0), .int x1] [mdO g b m, iaW g (b 6) 200 ln] (some (.int u.1)) [mdO g b u.2, iaW g (b 6) 200 ln] := by
  unfold f_X10_charAt at hf
  refine Con_of [mdO g b m, iaW g (b 6) 200 ln] [(0, .ref (b 0)), (1, .int x1)] rfl rfl (by decide) (Nat.le_of_ble_eq_true rfl) ?_
  intro pW eW sW mW argsW belowW methW c9 C hnm hr
  have C : CX g RX10 cX10_charAt 2 _ pW sW mW argsW methW c9 := C
  have hL20 : ∀ (mL : MdT) (x1 : Int32) (y0 : Int32), f_X10_charAt_20 mL ln x1 y0 = some u → VW g (va_A ([mdO g b m, iaW g (b 6) 200 ln] : List va_W).flatten sW.heap.size) 2 pW l eW ({ frames := 1, cells := 0, slots := 0, locals := 22 } : Room) sW mW argsW belowW methW c9 0 0 (MQ belowW (xQc g ([mdO g b m, iaW g (b 6) 200 ln] : List va_W).flatten sW.heap.size (fun v9 w9 => v9 = some (.int u.1) ∧ w9 = ([mdO g b u.2, iaW g (b 6) 200 ln] : List va_W).flatten)) argsW sW 0 0 (va_A ([mdO g b m, iaW g (b 6) 200 ln] : List va_W).flatten sW.heap.size)) [mdO g b mL, iaW g (b 6) 200 ln] [(0, .ref (b 0)), (1, .int x1)] 20 [.int y0, .ref (b 0)] := by
    intro mL x1 y0 hf
    unfold f_X10_charAt_20 at hf
    refine x_iconst (v := 1) C dX10_charAt_20 (by decide) ?_
    obtain ⟨u1, hu1, hf⟩ := x_b hf
    refine x_callV (n := 2) (As := [.int y0, .int (1 : Int32)]) (rest := []) C (c_X10_isThrown g l b mL y0 (1 : Int32) hu1) ⟨⟨wd_1575, wd_1572, wd_78⟩, ⟨by decide, by decide, by decide⟩, rfl, rfl, Nat.le_of_ble_eq_true rfl, Nat.le_of_ble_eq_true rfl⟩ wd_1574 wd_26 ⟨0, 11, _, _, rfl, rfl, rfl⟩ [iaW g (b 6) 200 ln] (x_pickD [0, 1] 2 rfl rfl rfl) rfl rfl (Nat.le_of_ble_eq_true rfl) ⟨Nat.le_of_ble_eq_true rfl, Nat.le_of_ble_eq_true rfl⟩ dX10_charAt_21 (x_goD (wss2 := [mdO g b u1.2, iaW g (b 6) 200 ln]) (stk2 := [.int u1.1]) rfl rfl ?_)
    refine x_if_eq (tgt := 31) C dX10_charAt_24 (by decide) (fun h2 => ?_) (fun h2 => ?_)
    · have hf := x_t h2 hf
      refine x_aload_n C dX10_charAt_31 rfl 0 rfl ?_
      refine x_get (ci := 11) (v := .ref (b 6)) (b := mdO g b u1.2) C ixX10 rfl 11 (by decide) wd_1503 (fun _ h => h) 0 rfl 0 (mdO_at0 g b _) rfl dX10_charAt_32 ?_
      refine x_iload_n C dX10_charAt_35 rfl 1 rfl ?_
      obtain ⟨h3, hf⟩ := x_n hf
      refine x_iald (b := iaW g (b 6) 200 ln) C 1 rfl 0 (iaW_at0 g (b 6) 200 _) h3 dX10_charAt_36 ?_
      refine x_i2c C dX10_charAt_37 rfl ?_
      obtain ⟨h4, hf⟩ := x_y hf
      exact x_zret C hr (x_narC h4).1 ⟨by cases hf; rfl, by cases hf; rfl⟩ dX10_charAt_38
    · have hf := x_f h2 hf
      refine x_iconst (v := 0) C dX10_charAt_27 (by decide) ?_
      refine x_goto (tgt := 38) C dX10_charAt_28 (by decide) ?_
      exact x_zret C hr rfl ⟨by cases hf; rfl, by cases hf; rfl⟩ dX10_charAt_38
  refine x_aload_n C dX10_charAt_0 rfl 0 rfl ?_
  refine x_iload_n C dX10_charAt_1 rfl 1 rfl ?_
  refine x_iconst (v := 0) C dX10_charAt_2 (by decide) ?_
  refine x_aload_n C dX10_charAt_3 rfl 0 rfl ?_
  refine x_get (ci := 11) (v := .int m.2.2.2.2.2.2.1) (b := mdO g b m) C ixX10 rfl 12 (by decide) wd_1504 (fun _ h => h) 0 rfl 0 (mdO_at0 g b _) rfl dX10_charAt_4 ?_
  refine x_iconst (v := 1) C dX10_charAt_7 (by decide) ?_
  refine x_isub C dX10_charAt_8 ?_
  obtain ⟨u1, hu1, hf⟩ := x_b hf
  refine x_callS (n := 3) (As := [.int x1, .int (0 : Int32), .int (m.2.2.2.2.2.2.1 - (1 : Int32))]) (rest := [.ref (b 0)]) C (c_X10_isIn g l x1 (0 : Int32) (m.2.2.2.2.2.2.1 - (1 : Int32)) hu1) ⟨⟨wd_1571, wd_1569, wd_78⟩, ⟨by decide, by decide, by decide⟩, rfl, rfl, Nat.le_of_ble_eq_true rfl, Nat.le_of_ble_eq_true rfl⟩ wd_1570 [mdO g b m, iaW g (b 6) 200 ln] (x_pickD [0, 1] 2 rfl rfl rfl) rfl rfl (Nat.le_of_ble_eq_true rfl) ⟨Nat.le_of_ble_eq_true rfl, Nat.le_of_ble_eq_true rfl⟩ dX10_charAt_9 (x_goD (wss2 := [mdO g b m, iaW g (b 6) 200 ln]) (stk2 := [.int u1, .ref (b 0)]) rfl rfl ?_)
  refine x_if_ne (tgt := 19) C dX10_charAt_12 (by decide) (fun h2 => ?_) (fun h2 => ?_)
  · have hf := x_f h2 hf
    refine x_iconst (v := 0) C dX10_charAt_19 (by decide) ?_
    exact hL20 m x1 (0 : Int32) hf
  · have hf := x_t h2 hf
    refine x_iconst (v := 1) C dX10_charAt_15 (by decide) ?_
    refine x_goto (tgt := 20) C dX10_charAt_16 (by decide) ?_
    exact hL20 m x1 (1 : Int32) hf
theorem wd_1505 : Cond.fieldLink RX10 35 "CandleConcertModel" "tape" "[I" ∈ xTB := xTB_in 1505 (by decide +kernel) (by decide +kernel)
theorem wd_1507 : Cond.fieldLink RX10 164 "CandleConcertModel" "taped" "I" ∈ xTB := xTB_in 1507 (by decide +kernel) (by decide +kernel)
theorem dX10_type_0 : decode cX10_type 0 = .ok (.aload_n 0, 1) := by decide +kernel
theorem dX10_type_1 : decode cX10_type 1 = .ok (.aload_n 0, 1) := by decide +kernel
theorem dX10_type_2 : decode cX10_type 2 = .ok (.getfield 164, 3) := by decide +kernel
theorem dX10_type_5 : decode cX10_type 5 = .ok (.bipush 60, 2) := by decide +kernel
theorem dX10_type_7 : decode cX10_type 7 = .ok (.if_icmp .ne 7, 3) := by decide +kernel
theorem dX10_type_10 : decode cX10_type 10 = .ok (.iconst 1, 1) := by decide +kernel
theorem dX10_type_11 : decode cX10_type 11 = .ok (.goto 4, 3) := by decide +kernel
theorem dX10_type_14 : decode cX10_type 14 = .ok (.iconst 0, 1) := by decide +kernel
theorem dX10_type_15 : decode cX10_type 15 = .ok (.iconst 1, 1) := by decide +kernel
theorem dX10_type_16 : decode cX10_type 16 = .ok (.invokevirtual 63, 3) := by decide +kernel
theorem dX10_type_19 : decode cX10_type 19 = .ok (.ifCond .eq 5, 3) := by decide +kernel
theorem dX10_type_22 : decode cX10_type 22 = .ok (.iconst 0, 1) := by decide +kernel
theorem dX10_type_23 : decode cX10_type 23 = .ok (.ireturn, 1) := by decide +kernel
theorem dX10_type_24 : decode cX10_type 24 = .ok (.aload_n 0, 1) := by decide +kernel
theorem dX10_type_25 : decode cX10_type 25 = .ok (.getfield 35, 3) := by decide +kernel
theorem dX10_type_28 : decode cX10_type 28 = .ok (.aload_n 0, 1) := by decide +kernel
theorem dX10_type_29 : decode cX10_type 29 = .ok (.getfield 164, 3) := by decide +kernel
theorem dX10_type_32 : decode cX10_type 32 = .ok (.iload_n 1, 1) := by decide +kernel
theorem dX10_type_33 : decode cX10_type 33 = .ok (.iastore, 1) := by decide +kernel
theorem dX10_type_34 : decode cX10_type 34 = .ok (.aload_n 0, 1) := by decide +kernel
theorem dX10_type_35 : decode cX10_type 35 = .ok (.dup, 1) := by decide +kernel
theorem dX10_type_36 : decode cX10_type 36 = .ok (.getfield 164, 3) := by decide +kernel
theorem dX10_type_39 : decode cX10_type 39 = .ok (.iconst 1, 1) := by decide +kernel
theorem dX10_type_40 : decode cX10_type 40 = .ok (.iadd, 1) := by decide +kernel
theorem dX10_type_41 : decode cX10_type 41 = .ok (.putfield 164, 3) := by decide +kernel
theorem dX10_type_44 : decode cX10_type 44 = .ok (.aload_n 0, 1) := by decide +kernel
theorem dX10_type_45 : decode cX10_type 45 = .ok (.getfield 164, 3) := by decide +kernel
theorem dX10_type_48 : decode cX10_type 48 = .ok (.ireturn, 1) := by decide +kernel
set_option maxHeartbeats 4000000 in
set_option maxRecDepth 100000 in
theorem c_X10_type (g : xG) (l : Launch) (b : Nat → Nat) (m : MdT) (tp : (Nat → Int32)) (x1 : Int32) {u : Int32 × MdT × (Nat → Int32)} (hf : f_X10_type m tp x1 = some u) : ConD g l yX10_type cX10_type 2 (some .int) ({ frames := 1, cells := 0, slots := 0, locals := 22 } : Room) [.ref (b 0), .int x1] [mdO g b m, iaW g (b 7) 60 tp] (some (.int u.1)) [mdO g b u.2.1, iaW g (b 7) 60 u.2.2] := by
  unfold f_X10_type at hf
  refine Con_of [mdO g b m, iaW g (b 7) 60 tp] [(0, .ref (b 0)), (1, .int x1)] rfl rfl (by decide) (Nat.le_of_ble_eq_true rfl) ?_
  intro pW eW sW mW argsW belowW methW c9 C hnm hr
  have C : CX g RX10 cX10_type 2 _ pW sW mW argsW methW c9 := C
  have hL15 : ∀ (mL : MdT) (tpL : (Nat → Int32)) (x1 : Int32) (y0 : Int32), f_X10_type_15 mL tpL x1 y0 = some u → VW g (va_A ([mdO g b m, iaW g (b 7) 60 tp] : List va_W).flatten sW.heap.size) 2 pW l eW ({ frames := 1, cells := 0, slots := 0, locals := 22 } : Room) sW mW argsW belowW methW c9 0 0 (MQ belowW (xQc g ([mdO g b m, iaW g (b 7) 60 tp] : List va_W).flatten sW.heap.size (fun v9 w9 => v9 = some (.int u.1) ∧ w9 = ([mdO g b u.2.1, iaW g (b 7) 60 u.2.2] : List va_W).flatten)) argsW sW 0 0 (va_A ([mdO g b m, iaW g (b 7) 60 tp] : List va_W).flatten sW.heap.size)) [mdO g b mL, iaW g (b 7) 60 tpL] [(0, .ref (b 0)), (1, .int x1)] 15 [.int y0, .ref (b 0)] := by
    intro mL tpL x1 y0 hf
    unfold f_X10_type_15 at hf
    refine x_iconst (v := 1) C dX10_type_15 (by decide) ?_
    obtain ⟨u1, hu1, hf⟩ := x_b hf
    refine x_callV (n := 2) (As := [.int y0, .int (1 : Int32)]) (rest := []) C (c_X10_isThrown g l b mL y0 (1 : Int32) hu1) ⟨⟨wd_1575, wd_1572, wd_78⟩, ⟨by decide, by decide, by decide⟩, rfl, rfl, Nat.le_of_ble_eq_true rfl, Nat.le_of_ble_eq_true rfl⟩ wd_1574 wd_26 ⟨0, 11, _, _, rfl, rfl, rfl⟩ [iaW g (b 7) 60 tpL] (x_pickD [0, 1] 2 rfl rfl rfl) rfl rfl (Nat.le_of_ble_eq_true rfl) ⟨Nat.le_of_ble_eq_true rfl, Nat.le_of_ble_eq_true rfl⟩ dX10_type_16 (x_goD (wss2 := [mdO g b u1.2, iaW g (b 7) 60 tpL]) (stk2 := [.int u1.1]) rfl rfl ?_)
    refine x_if_eq (tgt := 24) C dX10_type_19 (by decide) (fun h2 => ?_) (fun h2 => ?_)
    · have hf := x_t h2 hf
      refine x_aload_n C dX10_type_24 rfl 0 rfl ?_
      refine x_get (ci := 11) (v := .ref (b 7)) (b := mdO g b u1.2) C ixX10 rfl 13 (by decide) wd_1505 (fun _ h => h) 0 rfl 0 (mdO_at0 g b _) rfl dX10_type_25 ?_
      refine x_aload_n C dX10_type_28 rfl 0 rfl ?_
      refine x_get (ci := 11) (v := .int u1.2.2.2.2.2.2.2.2.1) (b := mdO g b u1.2) C ixX10 rfl 15 (by decide) wd_1507 (fun _ h => h) 0 rfl 0 (mdO_at0 g b _) rfl dX10_type_29 ?_
      refine x_iload_n C dX10_type_32 rfl 1 rfl ?_
      obtain ⟨h3, hf⟩ := x_n hf
      refine x_iast (b := iaW g (b 7) 60 tpL) (b' := iaW g (b 7) 60 (upd tpL u1.2.2.2.2.2.2.2.2.1.toNatClampNeg x1)) (wss' := [mdO g b u1.2, iaW g (b 7) 60 (upd tpL u1.2.2.2.2.2.2.2.2.1.toNatClampNeg x1)]) C 1 rfl 0 (iaW_at0 g (b 7) 60 _) h3 rfl rfl dX10_type_33 ?_
      refine x_aload_n C dX10_type_34 rfl 0 rfl ?_
      refine x_dup C dX10_type_35 rfl ?_
      refine x_get (ci := 11) (v := .int u1.2.2.2.2.2.2.2.2.1) (b := mdO g b u1.2) C ixX10 rfl 15 (by decide) wd_1507 (fun _ h => h) 0 rfl 0 (mdO_at0 g b _) rfl dX10_type_36 ?_
      refine x_iconst (v := 1) C dX10_type_39 (by decide) ?_
      refine x_iadd C dX10_type_40 ?_
      refine x_put (ci := 11) (ty := .int) (v := .int (u1.2.2.2.2.2.2.2.2.1 + (1 : Int32))) (b := mdO g b u1.2) (b' := mdO g b (u1.2.1, u1.2.2.1, u1.2.2.2.1, u1.2.2.2.2.1, u1.2.2.2.2.2.1, u1.2.2.2.2.2.2.1, u1.2.2.2.2.2.2.2.1, u1.2.2.2.2.2.2.2.2.1 + (1 : Int32), u1.2.2.2.2.2.2.2.2.2.1, u1.2.2.2.2.2.2.2.2.2.2)) (wss' := [mdO g b (u1.2.1, u1.2.2.1, u1.2.2.2.1, u1.2.2.2.2.1, u1.2.2.2.2.2.1, u1.2.2.2.2.2.2.1, u1.2.2.2.2.2.2.2.1, u1.2.2.2.2.2.2.2.2.1 + (1 : Int32), u1.2.2.2.2.2.2.2.2.2.1, u1.2.2.2.2.2.2.2.2.2.2), iaW g (b 7) 60 (upd tpL u1.2.2.2.2.2.2.2.2.1.toNatClampNeg x1)]) C ixX10 tyX10 tyX10_ok nmX10 rfl 15 (by decide) wd_1507 (fun _ h => h) rfl (tyX10_ok 15 (by decide)) rfl rfl 0 rfl 0 (mdO_at0 g b _) (Nat.le_of_ble_eq_true rfl) rfl rfl dX10_type_41 ?_
      refine x_aload_n C dX10_type_44 rfl 0 rfl ?_
      refine x_get (ci := 11) (v := .int (u1.2.2.2.2.2.2.2.2.1 + (1 : Int32))) (b := mdO g b (u1.2.1, u1.2.2.1, u1.2.2.2.1, u1.2.2.2.2.1, u1.2.2.2.2.2.1, u1.2.2.2.2.2.2.1, u1.2.2.2.2.2.2.2.1, u1.2.2.2.2.2.2.2.2.1 + (1 : Int32), u1.2.2.2.2.2.2.2.2.2.1, u1.2.2.2.2.2.2.2.2.2.2)) C ixX10 rfl 15 (by decide) wd_1507 (fun _ h => h) 0 rfl 0 (mdO_at0 g b _) rfl dX10_type_45 ?_
      exact x_iret C hr ⟨by cases hf; rfl, by cases hf; rfl⟩ dX10_type_48
    · have hf := x_f h2 hf
      refine x_iconst (v := 0) C dX10_type_22 (by decide) ?_
      exact x_iret C hr ⟨by cases hf; rfl, by cases hf; rfl⟩ dX10_type_23
  refine x_aload_n C dX10_type_0 rfl 0 rfl ?_
  refine x_aload_n C dX10_type_1 rfl 0 rfl ?_
  refine x_get (ci := 11) (v := .int m.2.2.2.2.2.2.2.1) (b := mdO g b m) C ixX10 rfl 15 (by decide) wd_1507 (fun _ h => h) 0 rfl 0 (mdO_at0 g b _) rfl dX10_type_2 ?_
  refine x_bipush (v := 60) C dX10_type_5 (by decide) ?_
  refine x_icmp_ne (tgt := 14) C dX10_type_7 (by decide) (fun h1 => ?_) (fun h1 => ?_)
  · have hf := x_f h1 hf
    refine x_iconst (v := 0) C dX10_type_14 (by decide) ?_
    exact hL15 m tp x1 (0 : Int32) hf
  · have hf := x_t h1 hf
    refine x_iconst (v := 1) C dX10_type_10 (by decide) ?_
    refine x_goto (tgt := 15) C dX10_type_11 (by decide) ?_
    exact hL15 m tp x1 (1 : Int32) hf
theorem wd_1508 : Cond.fieldLink RX10 167 "CandleConcertModel" "here" "I" ∈ xTB := xTB_in 1508 (by decide +kernel) (by decide +kernel)
theorem dX10_now_0 : decode cX10_now 0 = .ok (.aload_n 0, 1) := by decide +kernel
theorem dX10_now_1 : decode cX10_now 1 = .ok (.getfield 167, 3) := by decide +kernel
theorem dX10_now_4 : decode cX10_now 4 = .ok (.aload_n 0, 1) := by decide +kernel
theorem dX10_now_5 : decode cX10_now 5 = .ok (.getfield 164, 3) := by decide +kernel
theorem dX10_now_8 : decode cX10_now 8 = .ok (.if_icmp .ge 15, 3) := by decide +kernel
theorem dX10_now_11 : decode cX10_now 11 = .ok (.aload_n 0, 1) := by decide +kernel
theorem dX10_now_12 : decode cX10_now 12 = .ok (.getfield 35, 3) := by decide +kernel
theorem dX10_now_15 : decode cX10_now 15 = .ok (.aload_n 0, 1) := by decide +kernel
theorem dX10_now_16 : decode cX10_now 16 = .ok (.getfield 167, 3) := by decide +kernel
theorem dX10_now_19 : decode cX10_now 19 = .ok (.iaload, 1) := by decide +kernel
theorem dX10_now_20 : decode cX10_now 20 = .ok (.goto 4, 3) := by decide +kernel
theorem dX10_now_23 : decode cX10_now 23 = .ok (.iconst (-1), 1) := by decide +kernel
theorem dX10_now_24 : decode cX10_now 24 = .ok (.ireturn, 1) := by decide +kernel
set_option maxHeartbeats 4000000 in
set_option maxRecDepth 100000 in
theorem c_X10_now (g : xG) (l : Launch) (b : Nat → Nat) (m : MdT) (tp : (Nat → Int32))  {u : Int32} (hf : f_X10_now m tp = some u) : ConD g l yX10_now cX10_now 1 (some .int) ({ frames := 0, cells := 0, slots := 0, locals := 0 } : Room) [.ref (b 0)] [mdO g b m, iaW g (b 7) 60 tp] (some (.int u)) [mdO g b m, iaW g (b 7) 60 tp] := by
  unfold f_X10_now at hf
  refine Con_of [mdO g b m, iaW g (b 7) 60 tp] [(0, .ref (b 0))] rfl rfl (by decide) (Nat.le_of_ble_eq_true rfl) ?_
  intro pW eW sW mW argsW belowW methW c9 C hnm hr
  have C : CX g RX10 cX10_now 1 _ pW sW mW argsW methW c9 := C
  refine x_aload_n C dX10_now_0 rfl 0 rfl ?_
  refine x_get (ci := 11) (v := .int m.2.2.2.2.2.2.2.2.1) (b := mdO g b m) C ixX10 rfl 16 (by decide) wd_1508 (fun _ h => h) 0 rfl 0 (mdO_at0 g b _) rfl dX10_now_1 ?_
  refine x_aload_n C dX10_now_4 rfl 0 rfl ?_
  refine x_get (ci := 11) (v := .int m.2.2.2.2.2.2.2.1) (b := mdO g b m) C ixX10 rfl 15 (by decide) wd_1507 (fun _ h => h) 0 rfl 0 (mdO_at0 g b _) rfl dX10_now_5 ?_
  refine x_icmp_ge (tgt := 23) C dX10_now_8 (by decide) (fun h1 => ?_) (fun h1 => ?_)
  · have hf := x_t h1 hf
    refine x_iconst (v := (-1)) C dX10_now_23 (by decide) ?_
    exact x_iret C hr ⟨by cases hf; rfl, by cases hf; rfl⟩ dX10_now_24
  · have hf := x_f h1 hf
    refine x_aload_n C dX10_now_11 rfl 0 rfl ?_
    refine x_get (ci := 11) (v := .ref (b 7)) (b := mdO g b m) C ixX10 rfl 13 (by decide) wd_1505 (fun _ h => h) 0 rfl 0 (mdO_at0 g b _) rfl dX10_now_12 ?_
    refine x_aload_n C dX10_now_15 rfl 0 rfl ?_
    refine x_get (ci := 11) (v := .int m.2.2.2.2.2.2.2.2.1) (b := mdO g b m) C ixX10 rfl 16 (by decide) wd_1508 (fun _ h => h) 0 rfl 0 (mdO_at0 g b _) rfl dX10_now_16 ?_
    obtain ⟨h2, hf⟩ := x_n hf
    refine x_iald (b := iaW g (b 7) 60 tp) C 1 rfl 0 (iaW_at0 g (b 7) 60 _) h2 dX10_now_19 ?_
    refine x_goto (tgt := 24) C dX10_now_20 (by decide) ?_
    exact x_iret C hr ⟨by cases hf; rfl, by cases hf; rfl⟩ dX10_now_24
theorem wd_53 : Cond.selects yX10_now.cls yX10_now yX10_now ∈ xTB := xTB_in 53 (by decide +kernel) (by decide +kernel)
theorem wd_1847 : Cond.methodLink RX10 170 yX10_now ∈ xTB := xTB_in 1847 (by decide +kernel) (by decide +kernel)
theorem wd_1849 : Cond.instanceMethod yX10_now ∈ xTB := xTB_in 1849 (by decide +kernel) (by decide +kernel)
theorem wd_1850 : Cond.code yX10_now cX10_now 1 (some .int) ∈ xTB := xTB_in 1850 (by decide +kernel) (by decide +kernel)
theorem dX10_isSign_0 : decode cX10_isSign 0 = .ok (.aload_n 0, 1) := by decide +kernel
theorem dX10_isSign_1 : decode cX10_isSign 1 = .ok (.invokevirtual 170, 3) := by decide +kernel
theorem dX10_isSign_4 : decode cX10_isSign 4 = .ok (.iload_n 1, 1) := by decide +kernel
theorem dX10_isSign_5 : decode cX10_isSign 5 = .ok (.if_icmp .ne 7, 3) := by decide +kernel
theorem dX10_isSign_8 : decode cX10_isSign 8 = .ok (.iconst 1, 1) := by decide +kernel
theorem dX10_isSign_9 : decode cX10_isSign 9 = .ok (.goto 4, 3) := by decide +kernel
theorem dX10_isSign_12 : decode cX10_isSign 12 = .ok (.iconst 0, 1) := by decide +kernel
theorem dX10_isSign_13 : decode cX10_isSign 13 = .ok (.istore_n 2, 1) := by decide +kernel
theorem dX10_isSign_14 : decode cX10_isSign 14 = .ok (.aload_n 0, 1) := by decide +kernel
theorem dX10_isSign_15 : decode cX10_isSign 15 = .ok (.dup, 1) := by decide +kernel
theorem dX10_isSign_16 : decode cX10_isSign 16 = .ok (.getfield 167, 3) := by decide +kernel
theorem dX10_isSign_19 : decode cX10_isSign 19 = .ok (.iload_n 2, 1) := by decide +kernel
theorem dX10_isSign_20 : decode cX10_isSign 20 = .ok (.ifCond .eq 7, 3) := by decide +kernel
theorem dX10_isSign_23 : decode cX10_isSign 23 = .ok (.iconst 1, 1) := by decide +kernel
theorem dX10_isSign_24 : decode cX10_isSign 24 = .ok (.goto 4, 3) := by decide +kernel
theorem dX10_isSign_27 : decode cX10_isSign 27 = .ok (.iconst 0, 1) := by decide +kernel
theorem dX10_isSign_28 : decode cX10_isSign 28 = .ok (.iadd, 1) := by decide +kernel
theorem dX10_isSign_29 : decode cX10_isSign 29 = .ok (.putfield 167, 3) := by decide +kernel
theorem dX10_isSign_32 : decode cX10_isSign 32 = .ok (.iload_n 2, 1) := by decide +kernel
theorem dX10_isSign_33 : decode cX10_isSign 33 = .ok (.ireturn, 1) := by decide +kernel
set_option maxHeartbeats 4000000 in
set_option maxRecDepth 100000 in
theorem c_X10_isSign (g : xG) (l : Launch) (b : Nat → Nat) (m : MdT) (tp : (Nat → Int32)) (x1 : Int32) {u : Int32 × MdT} (hf : f_X10_isSign m tp x1 = some u) : ConD g l yX10_isSign cX10_isSign 3 (some .boolean) ({ frames := 1, cells := 0, slots := 0, locals := 20 } : Room) [.ref (b 0), .int x1] [mdO g b m, iaW g (b 7) 60 tp] (some (.int u.1)) [mdO g b u.2, iaW g (b 7) 60 tp] := by
  unfold f_X10_isSign at hf
  refine Con_of [mdO g b m, iaW g (b 7) 60 tp] [(0, .ref (b 0)), (1, .int x1)] rfl rfl (by decide) (Nat.le_of_ble_eq_true rfl) ?_
  intro pW eW sW mW argsW belowW methW c9 C hnm hr
  have C : CX g RX10 cX10_isSign 3 _ pW sW mW argsW methW c9 := C
  have hL13 : ∀ (mL : MdT) (y0 : Int32), f_X10_isSign_13 mL tp y0 = some u → VW g (va_A ([mdO g b m, iaW g (b 7) 60 tp] : List va_W).flatten sW.heap.size) 3 pW l eW ({ frames := 1, cells := 0, slots := 0, locals := 20 } : Room) sW mW argsW belowW methW c9 0 0 (MQ belowW (xQc g ([mdO g b m, iaW g (b 7) 60 tp] : List va_W).flatten sW.heap.size (fun v9 w9 => v9 = some (.int u.1) ∧ w9 = ([mdO g b u.2, iaW g (b 7) 60 tp] : List va_W).flatten)) argsW sW 0 0 (va_A ([mdO g b m, iaW g (b 7) 60 tp] : List va_W).flatten sW.heap.size)) [mdO g b mL, iaW g (b 7) 60 tp] [(0, .ref (b 0))] 13 [.int y0] := by
    intro mL y0 hf
    unfold f_X10_isSign_13 at hf
    refine x_istore_n (lv' := [(2, .int y0), (0, .ref (b 0))]) C dX10_isSign_13 rfl (by decide) rfl ?_
    refine x_aload_n C dX10_isSign_14 rfl 1 rfl ?_
    refine x_dup C dX10_isSign_15 rfl ?_
    refine x_get (ci := 11) (v := .int mL.2.2.2.2.2.2.2.2.1) (b := mdO g b mL) C ixX10 rfl 16 (by decide) wd_1508 (fun _ h => h) 0 rfl 0 (mdO_at0 g b _) rfl dX10_isSign_16 ?_
    refine x_iload_n C dX10_isSign_19 rfl 0 rfl ?_
    refine x_if_eq (tgt := 27) C dX10_isSign_20 (by decide) (fun h1 => ?_) (fun h1 => ?_)
    · have hf := x_t h1 hf
      refine x_iconst (v := 0) C dX10_isSign_27 (by decide) ?_
      refine x_iadd C dX10_isSign_28 ?_
      refine x_put (ci := 11) (ty := .int) (v := .int (mL.2.2.2.2.2.2.2.2.1 + (0 : Int32))) (b := mdO g b mL) (b' := mdO g b (mL.1, mL.2.1, mL.2.2.1, mL.2.2.2.1, mL.2.2.2.2.1, mL.2.2.2.2.2.1, mL.2.2.2.2.2.2.1, mL.2.2.2.2.2.2.2.1, mL.2.2.2.2.2.2.2.2.1 + (0 : Int32), mL.2.2.2.2.2.2.2.2.2)) (wss' := [mdO g b (mL.1, mL.2.1, mL.2.2.1, mL.2.2.2.1, mL.2.2.2.2.1, mL.2.2.2.2.2.1, mL.2.2.2.2.2.2.1, mL.2.2.2.2.2.2.2.1, mL.2.2.2.2.2.2.2.2.1 + (0 : Int32), mL.2.2.2.2.2.2.2.2.2), iaW g (b 7) 60 tp]) C ixX10 tyX10 tyX10_ok nmX10 rfl 16 (by decide) wd_1508 (fun _ h => h) rfl (tyX10_ok 16 (by decide)) rfl rfl 0 rfl 0 (mdO_at0 g b _) (Nat.le_of_ble_eq_true rfl) rfl rfl dX10_isSign_29 ?_
      refine x_iload_n C dX10_isSign_32 rfl 0 rfl ?_
      obtain ⟨h2, hf⟩ := x_y hf
      exact x_zret C hr (x_narZ h2).1 ⟨by cases hf; rfl, by cases hf; rfl⟩ dX10_isSign_33
    · have hf := x_f h1 hf
      refine x_iconst (v := 1) C dX10_isSign_23 (by decide) ?_
      refine x_goto (tgt := 28) C dX10_isSign_24 (by decide) ?_
      refine x_iadd C dX10_isSign_28 ?_
      refine x_put (ci := 11) (ty := .int) (v := .int (mL.2.2.2.2.2.2.2.2.1 + (1 : Int32))) (b := mdO g b mL) (b' := mdO g b (mL.1, mL.2.1, mL.2.2.1, mL.2.2.2.1, mL.2.2.2.2.1, mL.2.2.2.2.2.1, mL.2.2.2.2.2.2.1, mL.2.2.2.2.2.2.2.1, mL.2.2.2.2.2.2.2.2.1 + (1 : Int32), mL.2.2.2.2.2.2.2.2.2)) (wss' := [mdO g b (mL.1, mL.2.1, mL.2.2.1, mL.2.2.2.1, mL.2.2.2.2.1, mL.2.2.2.2.2.1, mL.2.2.2.2.2.2.1, mL.2.2.2.2.2.2.2.1, mL.2.2.2.2.2.2.2.2.1 + (1 : Int32), mL.2.2.2.2.2.2.2.2.2), iaW g (b 7) 60 tp]) C ixX10 tyX10 tyX10_ok nmX10 rfl 16 (by decide) wd_1508 (fun _ h => h) rfl (tyX10_ok 16 (by decide)) rfl rfl 0 rfl 0 (mdO_at0 g b _) (Nat.le_of_ble_eq_true rfl) rfl rfl dX10_isSign_29 ?_
      refine x_iload_n C dX10_isSign_32 rfl 0 rfl ?_
      obtain ⟨h3, hf⟩ := x_y hf
      exact x_zret C hr (x_narZ h3).1 ⟨by cases hf; rfl, by cases hf; rfl⟩ dX10_isSign_33
  refine x_aload_n C dX10_isSign_0 rfl 0 rfl ?_
  obtain ⟨u1, hu1, hf⟩ := x_b hf
  refine x_callV (n := 0) (As := []) (rest := []) C (c_X10_now g l b m tp hu1) ⟨⟨wd_1850, wd_1847, wd_78⟩, ⟨by decide, by decide, by decide⟩, rfl, rfl, Nat.le_of_ble_eq_true rfl, Nat.le_of_ble_eq_true rfl⟩ wd_1849 wd_53 ⟨0, 11, _, _, rfl, rfl, rfl⟩ [] (x_pickD [0, 1] 2 rfl rfl rfl) rfl rfl (Nat.le_of_ble_eq_true rfl) ⟨Nat.le_of_ble_eq_true rfl, Nat.le_of_ble_eq_true rfl⟩ dX10_isSign_1 (x_goD (wss2 := [mdO g b m, iaW g (b 7) 60 tp]) (stk2 := [.int u1]) rfl rfl ?_)
  refine x_iload_n C dX10_isSign_4 rfl 1 rfl ?_
  refine x_icmp_ne (tgt := 12) C dX10_isSign_5 (by decide) (fun h2 => ?_) (fun h2 => ?_)
  · have hf := x_f h2 hf
    refine x_iconst (v := 0) C dX10_isSign_12 (by decide) ?_
    refine x_locals (lv' := [(0, .ref (b 0))]) [0] rfl ?_
    exact hL13 m (0 : Int32) hf
  · have hf := x_t h2 hf
    refine x_iconst (v := 1) C dX10_isSign_8 (by decide) ?_
    refine x_goto (tgt := 13) C dX10_isSign_9 (by decide) ?_
    refine x_locals (lv' := [(0, .ref (b 0))]) [0] rfl ?_
    exact hL13 m (1 : Int32) hf
theorem wd_1506 : Cond.fieldLink RX10 38 "CandleConcertModel" "commands" "[I" ∈ xTB := xTB_in 1506 (by decide +kernel) (by decide +kernel)
theorem dX10_isNumber_0 : decode cX10_isNumber 0 = .ok (.iconst 0, 1) := by decide +kernel
theorem dX10_isNumber_1 : decode cX10_isNumber 1 = .ok (.istore_n 3, 1) := by decide +kernel
theorem dX10_isNumber_2 : decode cX10_isNumber 2 = .ok (.iconst 0, 1) := by decide +kernel
theorem dX10_isNumber_3 : decode cX10_isNumber 3 = .ok (.istore 4, 2) := by decide +kernel
theorem dX10_isNumber_5 : decode cX10_isNumber 5 = .ok (.iload 4, 2) := by decide +kernel
theorem dX10_isNumber_7 : decode cX10_isNumber 7 = .ok (.iload_n 1, 1) := by decide +kernel
theorem dX10_isNumber_8 : decode cX10_isNumber 8 = .ok (.if_icmp .ge 46, 3) := by decide +kernel
theorem dX10_isNumber_11 : decode cX10_isNumber 11 = .ok (.aload_n 0, 1) := by decide +kernel
theorem dX10_isNumber_12 : decode cX10_isNumber 12 = .ok (.invokevirtual 170, 3) := by decide +kernel
theorem dX10_isNumber_15 : decode cX10_isNumber 15 = .ok (.bipush 48, 2) := by decide +kernel
theorem dX10_isNumber_17 : decode cX10_isNumber 17 = .ok (.bipush 57, 2) := by decide +kernel
theorem dX10_isNumber_19 : decode cX10_isNumber 19 = .ok (.invokestatic 51, 3) := by decide +kernel
theorem dX10_isNumber_22 : decode cX10_isNumber 22 = .ok (.ifCond .eq 32, 3) := by decide +kernel
theorem dX10_isNumber_25 : decode cX10_isNumber 25 = .ok (.bipush 10, 2) := by decide +kernel
theorem dX10_isNumber_27 : decode cX10_isNumber 27 = .ok (.iload_n 3, 1) := by decide +kernel
theorem dX10_isNumber_28 : decode cX10_isNumber 28 = .ok (.imul, 1) := by decide +kernel
theorem dX10_isNumber_29 : decode cX10_isNumber 29 = .ok (.aload_n 0, 1) := by decide +kernel
theorem dX10_isNumber_30 : decode cX10_isNumber 30 = .ok (.invokevirtual 170, 3) := by decide +kernel
theorem dX10_isNumber_33 : decode cX10_isNumber 33 = .ok (.iadd, 1) := by decide +kernel
theorem dX10_isNumber_34 : decode cX10_isNumber 34 = .ok (.bipush 48, 2) := by decide +kernel
theorem dX10_isNumber_36 : decode cX10_isNumber 36 = .ok (.isub, 1) := by decide +kernel
theorem dX10_isNumber_37 : decode cX10_isNumber 37 = .ok (.istore_n 3, 1) := by decide +kernel
theorem dX10_isNumber_38 : decode cX10_isNumber 38 = .ok (.aload_n 0, 1) := by decide +kernel
theorem dX10_isNumber_39 : decode cX10_isNumber 39 = .ok (.dup, 1) := by decide +kernel
theorem dX10_isNumber_40 : decode cX10_isNumber 40 = .ok (.getfield 167, 3) := by decide +kernel
theorem dX10_isNumber_43 : decode cX10_isNumber 43 = .ok (.iconst 1, 1) := by decide +kernel
theorem dX10_isNumber_44 : decode cX10_isNumber 44 = .ok (.iadd, 1) := by decide +kernel
theorem dX10_isNumber_45 : decode cX10_isNumber 45 = .ok (.putfield 167, 3) := by decide +kernel
theorem dX10_isNumber_48 : decode cX10_isNumber 48 = .ok (.iinc 4 1, 3) := by decide +kernel
theorem dX10_isNumber_51 : decode cX10_isNumber 51 = .ok (.goto (-46), 3) := by decide +kernel
theorem dX10_isNumber_54 : decode cX10_isNumber 54 = .ok (.aload_n 0, 1) := by decide +kernel
theorem dX10_isNumber_55 : decode cX10_isNumber 55 = .ok (.getfield 38, 3) := by decide +kernel
theorem dX10_isNumber_58 : decode cX10_isNumber 58 = .ok (.iload_n 2, 1) := by decide +kernel
theorem dX10_isNumber_59 : decode cX10_isNumber 59 = .ok (.iload_n 3, 1) := by decide +kernel
theorem dX10_isNumber_60 : decode cX10_isNumber 60 = .ok (.iastore, 1) := by decide +kernel
theorem dX10_isNumber_61 : decode cX10_isNumber 61 = .ok (.iload 4, 2) := by decide +kernel
theorem dX10_isNumber_63 : decode cX10_isNumber 63 = .ok (.ifCond .le 7, 3) := by decide +kernel
theorem dX10_isNumber_66 : decode cX10_isNumber 66 = .ok (.iconst 1, 1) := by decide +kernel
theorem dX10_isNumber_67 : decode cX10_isNumber 67 = .ok (.goto 4, 3) := by decide +kernel
theorem dX10_isNumber_70 : decode cX10_isNumber 70 = .ok (.iconst 0, 1) := by decide +kernel
theorem dX10_isNumber_71 : decode cX10_isNumber 71 = .ok (.ireturn, 1) := by decide +kernel
set_option maxHeartbeats 4000000 in
set_option maxRecDepth 100000 in
theorem c_X10_isNumber (g : xG) (l : Launch) (b : Nat → Nat) (m : MdT) (tp : (Nat → Int32)) (cm : (Nat → Int32)) (x1 : Int32) (x2 : Int32) {u : Int32 × MdT × (Nat → Int32)} (hf : f_X10_isNumber m tp cm x1 x2 = some u) : ConD g l yX10_isNumber cX10_isNumber 5 (some .boolean) ({ frames := 1, cells := 0, slots := 0, locals := 22 } : Room) [.ref (b 0), .int x1, .int x2] [mdO g b m, iaW g (b 7) 60 tp, iaW g (b 8) 124 cm] (some (.int u.1)) [mdO g b u.2.1, iaW g (b 7) 60 tp, iaW g (b 8) 124 u.2.2] := by
  unfold f_X10_isNumber at hf
  refine Con_of [mdO g b m, iaW g (b 7) 60 tp, iaW g (b 8) 124 cm] [(0, .ref (b 0)), (1, .int x1), (2, .int x2)] rfl rfl (by decide) (Nat.le_of_ble_eq_true rfl) ?_
  intro pW eW sW mW argsW belowW methW c9 C hnm hr
  have C : CX g RX10 cX10_isNumber 5 _ pW sW mW argsW methW c9 := C
  have hL54 : ∀ (mL : MdT) (cmL : (Nat → Int32)) (x2 : Int32) (x3 : Int32) (x4 : Int32), f_X10_isNumber_54 mL tp cmL x2 x3 x4 = some u → VW g (va_A ([mdO g b m, iaW g (b 7) 60 tp, iaW g (b 8) 124 cm] : List va_W).flatten sW.heap.size) 5 pW l eW ({ frames := 1, cells := 0, slots := 0, locals := 22 } : Room) sW mW argsW belowW methW c9 0 0 (MQ belowW (xQc g ([mdO g b m, iaW g (b 7) 60 tp, iaW g (b 8) 124 cm] : List va_W).flatten sW.heap.size (fun v9 w9 => v9 = some (.int u.1) ∧ w9 = ([mdO g b u.2.1, iaW g (b 7) 60 tp, iaW g (b 8) 124 u.2.2] : List va_W).flatten)) argsW sW 0 0 (va_A ([mdO g b m, iaW g (b 7) 60 tp, iaW g (b 8) 124 cm] : List va_W).flatten sW.heap.size)) [mdO g b mL, iaW g (b 7) 60 tp, iaW g (b 8) 124 cmL] [(0, .ref (b 0)), (2, .int x2), (3, .int x3), (4, .int x4)] 54 [] := by
    intro mL cmL x2 x3 x4 hf
    unfold f_X10_isNumber_54 at hf
    refine x_aload_n C dX10_isNumber_54 rfl 0 rfl ?_
    refine x_get (ci := 11) (v := .ref (b 8)) (b := mdO g b mL) C ixX10 rfl 14 (by decide) wd_1506 (fun _ h => h) 0 rfl 0 (mdO_at0 g b _) rfl dX10_isNumber_55 ?_
    refine x_iload_n C dX10_isNumber_58 rfl 1 rfl ?_
    refine x_iload_n C dX10_isNumber_59 rfl 2 rfl ?_
    obtain ⟨h1, hf⟩ := x_n hf
    refine x_iast (b := iaW g (b 8) 124 cmL) (b' := iaW g (b 8) 124 (upd cmL x2.toNatClampNeg x3)) (wss' := [mdO g b mL, iaW g (b 7) 60 tp, iaW g (b 8) 124 (upd cmL x2.toNatClampNeg x3)]) C 2 rfl 0 (iaW_at0 g (b 8) 124 _) h1 rfl rfl dX10_isNumber_60 ?_
    refine x_iload C dX10_isNumber_61 3 rfl ?_
    refine x_if_le (tgt := 70) C dX10_isNumber_63 (by decide) (fun h2 => ?_) (fun h2 => ?_)
    · have hf := x_t h2 hf
      refine x_iconst (v := 0) C dX10_isNumber_70 (by decide) ?_
      exact x_zret C hr rfl ⟨by cases hf; rfl, by cases hf; rfl⟩ dX10_isNumber_71
    · have hf := x_f h2 hf
      refine x_iconst (v := 1) C dX10_isNumber_66 (by decide) ?_
      refine x_goto (tgt := 71) C dX10_isNumber_67 (by decide) ?_
      exact x_zret C hr rfl ⟨by cases hf; rfl, by cases hf; rfl⟩ dX10_isNumber_71
  have hL5 : ∀ (nW : Nat) (mL : MdT) (cmL : (Nat → Int32)) (x1 : Int32) (x2 : Int32) (x3 : Int32) (x4 : Int32), f_X10_isNumber_5 nW mL tp cmL x1 x2 x3 x4 = some u → VW g (va_A ([mdO g b m, iaW g (b 7) 60 tp, iaW g (b 8) 124 cm] : List va_W).flatten sW.heap.size) 5 pW l eW ({ frames := 1, cells := 0, slots := 0, locals := 22 } : Room) sW mW argsW belowW methW c9 0 0 (MQ belowW (xQc g ([mdO g b m, iaW g (b 7) 60 tp, iaW g (b 8) 124 cm] : List va_W).flatten sW.heap.size (fun v9 w9 => v9 = some (.int u.1) ∧ w9 = ([mdO g b u.2.1, iaW g (b 7) 60 tp, iaW g (b 8) 124 u.2.2] : List va_W).flatten)) argsW sW 0 0 (va_A ([mdO g b m, iaW g (b 7) 60 tp, iaW g (b 8) 124 cm] : List va_W).flatten sW.heap.size)) [mdO g b mL, iaW g (b 7) 60 tp, iaW g (b 8) 124 cmL] [(0, .ref (b 0)), (1, .int x1), (2, .int x2), (3, .int x3), (4, .int x4)] 5 [] := by
    intro nW
    induction nW with
    | zero => intro mL cmL x1 x2 x3 x4 hf; rw [f_X10_isNumber_5] at hf; cases hf
    | succ nW ih =>
      intro mL cmL x1 x2 x3 x4 hf
      rw [f_X10_isNumber_5] at hf
      refine x_iload C dX10_isNumber_5 4 rfl ?_
      refine x_iload_n C dX10_isNumber_7 rfl 1 rfl ?_
      refine x_icmp_ge (tgt := 54) C dX10_isNumber_8 (by decide) (fun h1 => ?_) (fun h1 => ?_)
      · have hf := x_t h1 hf
        refine x_locals (lv' := [(0, .ref (b 0)), (2, .int x2), (3, .int x3), (4, .int x4)]) [0, 2, 3, 4] rfl ?_
        exact hL54 mL cmL x2 x3 x4 hf
      · have hf := x_f h1 hf
        refine x_aload_n C dX10_isNumber_11 rfl 0 rfl ?_
        obtain ⟨u2, hu2, hf⟩ := x_b hf
        refine x_callV (n := 0) (As := []) (rest := []) C (c_X10_now g l b mL tp hu2) ⟨⟨wd_1850, wd_1847, wd_78⟩, ⟨by decide, by decide, by decide⟩, rfl, rfl, Nat.le_of_ble_eq_true rfl, Nat.le_of_ble_eq_true rfl⟩ wd_1849 wd_53 ⟨0, 11, _, _, rfl, rfl, rfl⟩ [iaW g (b 8) 124 cmL] (x_pickD [0, 1, 2] 3 rfl rfl rfl) rfl rfl (Nat.le_of_ble_eq_true rfl) ⟨Nat.le_of_ble_eq_true rfl, Nat.le_of_ble_eq_true rfl⟩ dX10_isNumber_12 (x_goD (wss2 := [mdO g b mL, iaW g (b 7) 60 tp, iaW g (b 8) 124 cmL]) (stk2 := [.int u2]) rfl rfl ?_)
        refine x_bipush (v := 48) C dX10_isNumber_15 (by decide) ?_
        refine x_bipush (v := 57) C dX10_isNumber_17 (by decide) ?_
        obtain ⟨u3, hu3, hf⟩ := x_b hf
        refine x_callS (n := 3) (As := [.int u2, .int (48 : Int32), .int (57 : Int32)]) (rest := []) C (c_X10_isIn g l u2 (48 : Int32) (57 : Int32) hu3) ⟨⟨wd_1571, wd_1569, wd_78⟩, ⟨by decide, by decide, by decide⟩, rfl, rfl, Nat.le_of_ble_eq_true rfl, Nat.le_of_ble_eq_true rfl⟩ wd_1570 [mdO g b mL, iaW g (b 7) 60 tp, iaW g (b 8) 124 cmL] (x_pickD [0, 1, 2] 3 rfl rfl rfl) rfl rfl (Nat.le_of_ble_eq_true rfl) ⟨Nat.le_of_ble_eq_true rfl, Nat.le_of_ble_eq_true rfl⟩ dX10_isNumber_19 (x_goD (wss2 := [mdO g b mL, iaW g (b 7) 60 tp, iaW g (b 8) 124 cmL]) (stk2 := [.int u3]) rfl rfl ?_)
        refine x_if_eq (tgt := 54) C dX10_isNumber_22 (by decide) (fun h4 => ?_) (fun h4 => ?_)
        · have hf := x_t h4 hf
          refine x_locals (lv' := [(0, .ref (b 0)), (2, .int x2), (3, .int x3), (4, .int x4)]) [0, 2, 3, 4] rfl ?_
          exact hL54 mL cmL x2 x3 x4 hf
        · have hf := x_f h4 hf
          refine x_bipush (v := 10) C dX10_isNumber_25 (by decide) ?_
          refine x_iload_n C dX10_isNumber_27 rfl 3 rfl ?_
          refine x_imul C dX10_isNumber_28 ?_
          refine x_aload_n C dX10_isNumber_29 rfl 0 rfl ?_
          obtain ⟨u5, hu5, hf⟩ := x_b hf
          refine x_callV (n := 0) (As := []) (rest := [.int ((10 : Int32) * x3)]) C (c_X10_now g l b mL tp hu5) ⟨⟨wd_1850, wd_1847, wd_78⟩, ⟨by decide, by decide, by decide⟩, rfl, rfl, Nat.le_of_ble_eq_true rfl, Nat.le_of_ble_eq_true rfl⟩ wd_1849 wd_53 ⟨0, 11, _, _, rfl, rfl, rfl⟩ [iaW g (b 8) 124 cmL] (x_pickD [0, 1, 2] 3 rfl rfl rfl) rfl rfl (Nat.le_of_ble_eq_true rfl) ⟨Nat.le_of_ble_eq_true rfl, Nat.le_of_ble_eq_true rfl⟩ dX10_isNumber_30 (x_goD (wss2 := [mdO g b mL, iaW g (b 7) 60 tp, iaW g (b 8) 124 cmL]) (stk2 := [.int u5, .int ((10 : Int32) * x3)]) rfl rfl ?_)
          refine x_iadd C dX10_isNumber_33 ?_
          refine x_bipush (v := 48) C dX10_isNumber_34 (by decide) ?_
          refine x_isub C dX10_isNumber_36 ?_
          refine x_istore_n (lv' := [(3, .int ((((10 : Int32) * x3) + u5) - (48 : Int32))), (0, .ref (b 0)), (1, .int x1), (2, .int x2), (4, .int x4)]) C dX10_isNumber_37 rfl (by decide) rfl ?_
          refine x_aload_n C dX10_isNumber_38 rfl 1 rfl ?_
          refine x_dup C dX10_isNumber_39 rfl ?_
          refine x_get (ci := 11) (v := .int mL.2.2.2.2.2.2.2.2.1) (b := mdO g b mL) C ixX10 rfl 16 (by decide) wd_1508 (fun _ h => h) 0 rfl 0 (mdO_at0 g b _) rfl dX10_isNumber_40 ?_
          refine x_iconst (v := 1) C dX10_isNumber_43 (by decide) ?_
          refine x_iadd C dX10_isNumber_44 ?_
          refine x_put (ci := 11) (ty := .int) (v := .int (mL.2.2.2.2.2.2.2.2.1 + (1 : Int32))) (b := mdO g b mL) (b' := mdO g b (mL.1, mL.2.1, mL.2.2.1, mL.2.2.2.1, mL.2.2.2.2.1, mL.2.2.2.2.2.1, mL.2.2.2.2.2.2.1, mL.2.2.2.2.2.2.2.1, mL.2.2.2.2.2.2.2.2.1 + (1 : Int32), mL.2.2.2.2.2.2.2.2.2)) (wss' := [mdO g b (mL.1, mL.2.1, mL.2.2.1, mL.2.2.2.1, mL.2.2.2.2.1, mL.2.2.2.2.2.1, mL.2.2.2.2.2.2.1, mL.2.2.2.2.2.2.2.1, mL.2.2.2.2.2.2.2.2.1 + (1 : Int32), mL.2.2.2.2.2.2.2.2.2), iaW g (b 7) 60 tp, iaW g (b 8) 124 cmL]) C ixX10 tyX10 tyX10_ok nmX10 rfl 16 (by decide) wd_1508 (fun _ h => h) rfl (tyX10_ok 16 (by decide)) rfl rfl 0 rfl 0 (mdO_at0 g b _) (Nat.le_of_ble_eq_true rfl) rfl rfl dX10_isNumber_45 ?_
          refine x_iinc (v := x4 + 1) (lv' := [(4, .int (x4 + 1)), (3, .int ((((10 : Int32) * x3) + u5) - (48 : Int32))), (0, .ref (b 0)), (1, .int x1), (2, .int x2)]) C dX10_isNumber_48 4 rfl rfl (by decide) rfl ?_
          refine x_goto (tgt := 5) C dX10_isNumber_51 (by decide) ?_
          refine x_locals (lv' := [(0, .ref (b 0)), (1, .int x1), (2, .int x2), (3, .int ((((10 : Int32) * x3) + u5) - (48 : Int32))), (4, .int (x4 + 1))]) [2, 3, 4, 1, 0] rfl ?_
          exact ih (mL.1, mL.2.1, mL.2.2.1, mL.2.2.2.1, mL.2.2.2.2.1, mL.2.2.2.2.2.1, mL.2.2.2.2.2.2.1, mL.2.2.2.2.2.2.2.1, mL.2.2.2.2.2.2.2.2.1 + (1 : Int32), mL.2.2.2.2.2.2.2.2.2) cmL x1 x2 ((((10 : Int32) * x3) + u5) - (48 : Int32)) (x4 + 1) hf
  refine x_iconst (v := 0) C dX10_isNumber_0 (by decide) ?_
  refine x_istore_n (lv' := [(3, .int (0 : Int32)), (0, .ref (b 0)), (1, .int x1), (2, .int x2)]) C dX10_isNumber_1 rfl (by decide) rfl ?_
  refine x_iconst (v := 0) C dX10_isNumber_2 (by decide) ?_
  refine x_istore (lv' := [(4, .int (0 : Int32)), (3, .int (0 : Int32)), (0, .ref (b 0)), (1, .int x1), (2, .int x2)]) C dX10_isNumber_3 (by decide) rfl ?_
  refine x_locals (lv' := [(0, .ref (b 0)), (1, .int x1), (2, .int x2), (3, .int (0 : Int32)), (4, .int (0 : Int32))]) [2, 3, 4, 1, 0] rfl ?_
  exact hL5 xFuel m cm x1 x2 (0 : Int32) (0 : Int32) hf
theorem wd_57 : Cond.selects yX10_isSign.cls yX10_isSign yX10_isSign ∈ xTB := xTB_in 57 (by decide +kernel) (by decide +kernel)
theorem wd_1867 : Cond.methodLink RX10 173 yJ0_length_8abf5 ∈ xTB := xTB_in 1867 (by decide +kernel) (by decide +kernel)
theorem wd_1868 : Cond.methodLink RX10 178 yJ0_charAt_5068e ∈ xTB := xTB_in 1868 (by decide +kernel) (by decide +kernel)
theorem wd_1869 : Cond.methodLink RX10 182 yX10_isSign ∈ xTB := xTB_in 1869 (by decide +kernel) (by decide +kernel)
theorem wd_1871 : Cond.instanceMethod yX10_isSign ∈ xTB := xTB_in 1871 (by decide +kernel) (by decide +kernel)
theorem wd_1872 : Cond.code yX10_isSign cX10_isSign 3 (some .boolean) ∈ xTB := xTB_in 1872 (by decide +kernel) (by decide +kernel)
theorem dX10_isWord_0 : decode cX10_isWord 0 = .ok (.iconst 0, 1) := by decide +kernel
theorem dX10_isWord_1 : decode cX10_isWord 1 = .ok (.istore_n 2, 1) := by decide +kernel
theorem dX10_isWord_2 : decode cX10_isWord 2 = .ok (.iload_n 2, 1) := by decide +kernel
theorem dX10_isWord_3 : decode cX10_isWord 3 = .ok (.aload_n 1, 1) := by decide +kernel
theorem dX10_isWord_4 : decode cX10_isWord 4 = .ok (.invokevirtual 173, 3) := by decide +kernel
theorem dX10_isWord_7 : decode cX10_isWord 7 = .ok (.if_icmp .ge 23, 3) := by decide +kernel
theorem dX10_isWord_10 : decode cX10_isWord 10 = .ok (.aload_n 0, 1) := by decide +kernel
theorem dX10_isWord_11 : decode cX10_isWord 11 = .ok (.aload_n 1, 1) := by decide +kernel
theorem dX10_isWord_12 : decode cX10_isWord 12 = .ok (.iload_n 2, 1) := by decide +kernel
theorem dX10_isWord_13 : decode cX10_isWord 13 = .ok (.invokevirtual 178, 3) := by decide +kernel
theorem dX10_isWord_16 : decode cX10_isWord 16 = .ok (.invokevirtual 182, 3) := by decide +kernel
theorem dX10_isWord_19 : decode cX10_isWord 19 = .ok (.ifCond .ne 5, 3) := by decide +kernel
theorem dX10_isWord_22 : decode cX10_isWord 22 = .ok (.iconst 0, 1) := by decide +kernel
theorem dX10_isWord_23 : decode cX10_isWord 23 = .ok (.ireturn, 1) := by decide +kernel
theorem dX10_isWord_24 : decode cX10_isWord 24 = .ok (.iinc 2 1, 3) := by decide +kernel
theorem dX10_isWord_27 : decode cX10_isWord 27 = .ok (.goto (-25), 3) := by decide +kernel
theorem dX10_isWord_30 : decode cX10_isWord 30 = .ok (.iconst 1, 1) := by decide +kernel
theorem dX10_isWord_31 : decode cX10_isWord 31 = .ok (.ireturn, 1) := by decide +kernel
set_option maxHeartbeats 4000000 in
set_option maxRecDepth 100000 in
theorem c_X10_isWord (g : xG) (l : Launch) (b : Nat → Nat) (m : MdT) (tp : (Nat → Int32)) (x1 : Nat) {u : Int32 × MdT} (hf : f_X10_isWord m tp x1 = some u) : ConD g l yX10_isWord cX10_isWord 3 (some .boolean) ({ frames := 4, cells := 0, slots := 0, locals := 85 } : Room) [.ref (b 0), .ref (g.2.2 (300 + x1))] [mdO g b m, iaW g (b 7) 60 tp] (some (.int u.1)) [mdO g b u.2, iaW g (b 7) 60 tp] := by
  unfold f_X10_isWord at hf
  refine Con_of [mdO g b m, iaW g (b 7) 60 tp] [(0, .ref (b 0)), (1, .ref (g.2.2 (300 + x1)))] rfl rfl (by decide) (Nat.le_of_ble_eq_true rfl) ?_
  intro pW eW sW mW argsW belowW methW c9 C hnm hr
  have C : CX g RX10 cX10_isWord 3 _ pW sW mW argsW methW c9 := C
  have hL2 : ∀ (nW : Nat) (mL : MdT) (x1 : Nat) (x2 : Int32), f_X10_isWord_2 nW mL tp x1 x2 = some u → VW g (va_A ([mdO g b m, iaW g (b 7) 60 tp] : List va_W).flatten sW.heap.size) 3 pW l eW ({ frames := 4, cells := 0, slots := 0, locals := 85 } : Room) sW mW argsW belowW methW c9 0 0 (MQ belowW (xQc g ([mdO g b m, iaW g (b 7) 60 tp] : List va_W).flatten sW.heap.size (fun v9 w9 => v9 = some (.int u.1) ∧ w9 = ([mdO g b u.2, iaW g (b 7) 60 tp] : List va_W).flatten)) argsW sW 0 0 (va_A ([mdO g b m, iaW g (b 7) 60 tp] : List va_W).flatten sW.heap.size)) [mdO g b mL, iaW g (b 7) 60 tp] [(0, .ref (b 0)), (1, .ref (g.2.2 (300 + x1))), (2, .int x2)] 2 [] := by
    intro nW
    induction nW with
    | zero => intro mL x1 x2 hf; rw [f_X10_isWord_2] at hf; cases hf
    | succ nW ih =>
      intro mL x1 x2 hf
      rw [f_X10_isWord_2] at hf
      refine x_iload_n C dX10_isWord_2 rfl 2 rfl ?_
      refine x_aload_n C dX10_isWord_3 rfl 1 rfl ?_
      obtain ⟨u1, hu1, hf⟩ := x_b hf
      obtain ⟨h2, hf⟩ := x_y hf
      refine x_callVR (n := 0) (As := []) (rest := [.int x2]) C (c_J0_length_8abf5 g l x1 hu1) ⟨⟨wd_603, wd_1867, wd_76⟩, ⟨by decide, by decide, by decide⟩, rfl, rfl, Nat.le_of_ble_eq_true rfl, Nat.le_of_ble_eq_true rfl⟩ wd_601 wd_602 (CX_so C h2).1 [mdO g b mL, iaW g (b 7) 60 tp] (x_pickD [0, 1] 2 rfl rfl rfl) rfl rfl (Nat.le_of_ble_eq_true rfl) ⟨Nat.le_of_ble_eq_true rfl, Nat.le_of_ble_eq_true rfl⟩ dX10_isWord_4 (x_goD (wss2 := [mdO g b mL, iaW g (b 7) 60 tp]) (stk2 := [.int u1, .int x2]) rfl rfl ?_)
      refine x_icmp_ge (tgt := 30) C dX10_isWord_7 (by decide) (fun h3 => ?_) (fun h3 => ?_)
      · have hf := x_t h3 hf
        refine x_iconst (v := 1) C dX10_isWord_30 (by decide) ?_
        exact x_zret C hr rfl ⟨by cases hf; rfl, by cases hf; rfl⟩ dX10_isWord_31
      · have hf := x_f h3 hf
        refine x_aload_n C dX10_isWord_10 rfl 0 rfl ?_
        refine x_aload_n C dX10_isWord_11 rfl 1 rfl ?_
        refine x_iload_n C dX10_isWord_12 rfl 2 rfl ?_
        obtain ⟨u4, hu4, hf⟩ := x_b hf
        obtain ⟨h5, hf⟩ := x_y hf
        refine x_callVR (n := 1) (As := [.int x2]) (rest := [.ref (b 0)]) C (c_J0_charAt_5068e g l x1 x2 hu4) ⟨⟨wd_1355, wd_1868, wd_76⟩, ⟨by decide, by decide, by decide⟩, rfl, rfl, Nat.le_of_ble_eq_true rfl, Nat.le_of_ble_eq_true rfl⟩ wd_1353 wd_1354 (CX_so C h5).1 [mdO g b mL, iaW g (b 7) 60 tp] (x_pickD [0, 1] 2 rfl rfl rfl) rfl rfl (Nat.le_of_ble_eq_true rfl) ⟨Nat.le_of_ble_eq_true rfl, Nat.le_of_ble_eq_true rfl⟩ dX10_isWord_13 (x_goD (wss2 := [mdO g b mL, iaW g (b 7) 60 tp]) (stk2 := [.int u4, .ref (b 0)]) rfl rfl ?_)
        obtain ⟨u6, hu6, hf⟩ := x_b hf
        refine x_callV (n := 1) (As := [.int u4]) (rest := []) C (c_X10_isSign g l b mL tp u4 hu6) ⟨⟨wd_1872, wd_1869, wd_78⟩, ⟨by decide, by decide, by decide⟩, rfl, rfl, Nat.le_of_ble_eq_true rfl, Nat.le_of_ble_eq_true rfl⟩ wd_1871 wd_57 ⟨0, 11, _, _, rfl, rfl, rfl⟩ [] (x_pickD [0, 1] 2 rfl rfl rfl) rfl rfl (Nat.le_of_ble_eq_true rfl) ⟨Nat.le_of_ble_eq_true rfl, Nat.le_of_ble_eq_true rfl⟩ dX10_isWord_16 (x_goD (wss2 := [mdO g b u6.2, iaW g (b 7) 60 tp]) (stk2 := [.int u6.1]) rfl rfl ?_)
        refine x_if_ne (tgt := 24) C dX10_isWord_19 (by decide) (fun h7 => ?_) (fun h7 => ?_)
        · have hf := x_f h7 hf
          refine x_iinc (v := x2 + 1) (lv' := [(2, .int (x2 + 1)), (0, .ref (b 0)), (1, .ref (g.2.2 (300 + x1)))]) C dX10_isWord_24 2 rfl rfl (by decide) rfl ?_
          refine x_goto (tgt := 2) C dX10_isWord_27 (by decide) ?_
          refine x_locals (lv' := [(0, .ref (b 0)), (1, .ref (g.2.2 (300 + x1))), (2, .int (x2 + 1))]) [1, 2, 0] rfl ?_
          exact ih u6.2 x1 (x2 + 1) hf
        · have hf := x_t h7 hf
          refine x_iconst (v := 0) C dX10_isWord_22 (by decide) ?_
          exact x_zret C hr rfl ⟨by cases hf; rfl, by cases hf; rfl⟩ dX10_isWord_23
  refine x_iconst (v := 0) C dX10_isWord_0 (by decide) ?_
  refine x_istore_n (lv' := [(2, .int (0 : Int32)), (0, .ref (b 0)), (1, .ref (g.2.2 (300 + x1)))]) C dX10_isWord_1 rfl (by decide) rfl ?_
  refine x_locals (lv' := [(0, .ref (b 0)), (1, .ref (g.2.2 (300 + x1))), (2, .int (0 : Int32))]) [1, 2, 0] rfl ?_
  exact hL2 xFuel m x1 (0 : Int32) hf
theorem wd_56 : Cond.selects yX10_isWord.cls yX10_isWord yX10_isWord ∈ xTB := xTB_in 56 (by decide +kernel) (by decide +kernel)
theorem wd_58 : Cond.selects yX10_isNumber.cls yX10_isNumber yX10_isNumber ∈ xTB := xTB_in 58 (by decide +kernel) (by decide +kernel)
theorem wd_1863 : Cond.methodLink RX10 187 yX10_isWord ∈ xTB := xTB_in 1863 (by decide +kernel) (by decide +kernel)
theorem wd_1865 : Cond.instanceMethod yX10_isWord ∈ xTB := xTB_in 1865 (by decide +kernel) (by decide +kernel)
theorem wd_1866 : Cond.code yX10_isWord cX10_isWord 3 (some .boolean) ∈ xTB := xTB_in 1866 (by decide +kernel) (by decide +kernel)
theorem wd_1873 : Cond.methodLink RX10 191 yX10_isNumber ∈ xTB := xTB_in 1873 (by decide +kernel) (by decide +kernel)
theorem wd_1875 : Cond.instanceMethod yX10_isNumber ∈ xTB := xTB_in 1875 (by decide +kernel) (by decide +kernel)
theorem wd_1876 : Cond.code yX10_isNumber cX10_isNumber 5 (some .boolean) ∈ xTB := xTB_in 1876 (by decide +kernel) (by decide +kernel)
theorem dX10_readsCandle_0 : decode cX10_readsCandle 0 = .ok (.aload_n 0, 1) := by decide +kernel
theorem dX10_readsCandle_1 : decode cX10_readsCandle 1 = .ok (.ldc 185, 2) := by decide +kernel
theorem dX10_readsCandle_3 : decode cX10_readsCandle 3 = .ok (.invokevirtual 187, 3) := by decide +kernel
theorem dX10_readsCandle_6 : decode cX10_readsCandle 6 = .ok (.ifCond .eq 13, 3) := by decide +kernel
theorem dX10_readsCandle_9 : decode cX10_readsCandle 9 = .ok (.aload_n 0, 1) := by decide +kernel
theorem dX10_readsCandle_10 : decode cX10_readsCandle 10 = .ok (.invokevirtual 170, 3) := by decide +kernel
theorem dX10_readsCandle_13 : decode cX10_readsCandle 13 = .ok (.invokestatic 59, 3) := by decide +kernel
theorem dX10_readsCandle_16 : decode cX10_readsCandle 16 = .ok (.ifCond .ne 5, 3) := by decide +kernel
theorem dX10_readsCandle_19 : decode cX10_readsCandle 19 = .ok (.iconst 0, 1) := by decide +kernel
theorem dX10_readsCandle_20 : decode cX10_readsCandle 20 = .ok (.ireturn, 1) := by decide +kernel
theorem dX10_readsCandle_21 : decode cX10_readsCandle 21 = .ok (.aload_n 0, 1) := by decide +kernel
theorem dX10_readsCandle_22 : decode cX10_readsCandle 22 = .ok (.getfield 38, 3) := by decide +kernel
theorem dX10_readsCandle_25 : decode cX10_readsCandle 25 = .ok (.iload_n 1, 1) := by decide +kernel
theorem dX10_readsCandle_26 : decode cX10_readsCandle 26 = .ok (.iconst 1, 1) := by decide +kernel
theorem dX10_readsCandle_27 : decode cX10_readsCandle 27 = .ok (.iadd, 1) := by decide +kernel
theorem dX10_readsCandle_28 : decode cX10_readsCandle 28 = .ok (.aload_n 0, 1) := by decide +kernel
theorem dX10_readsCandle_29 : decode cX10_readsCandle 29 = .ok (.invokevirtual 170, 3) := by decide +kernel
theorem dX10_readsCandle_32 : decode cX10_readsCandle 32 = .ok (.iastore, 1) := by decide +kernel
theorem dX10_readsCandle_33 : decode cX10_readsCandle 33 = .ok (.aload_n 0, 1) := by decide +kernel
theorem dX10_readsCandle_34 : decode cX10_readsCandle 34 = .ok (.dup, 1) := by decide +kernel
theorem dX10_readsCandle_35 : decode cX10_readsCandle 35 = .ok (.getfield 167, 3) := by decide +kernel
theorem dX10_readsCandle_38 : decode cX10_readsCandle 38 = .ok (.iconst 1, 1) := by decide +kernel
theorem dX10_readsCandle_39 : decode cX10_readsCandle 39 = .ok (.iadd, 1) := by decide +kernel
theorem dX10_readsCandle_40 : decode cX10_readsCandle 40 = .ok (.putfield 167, 3) := by decide +kernel
theorem dX10_readsCandle_43 : decode cX10_readsCandle 43 = .ok (.aload_n 0, 1) := by decide +kernel
theorem dX10_readsCandle_44 : decode cX10_readsCandle 44 = .ok (.iconst 3, 1) := by decide +kernel
theorem dX10_readsCandle_45 : decode cX10_readsCandle 45 = .ok (.iload_n 1, 1) := by decide +kernel
theorem dX10_readsCandle_46 : decode cX10_readsCandle 46 = .ok (.iconst 2, 1) := by decide +kernel
theorem dX10_readsCandle_47 : decode cX10_readsCandle 47 = .ok (.iadd, 1) := by decide +kernel
theorem dX10_readsCandle_48 : decode cX10_readsCandle 48 = .ok (.invokevirtual 191, 3) := by decide +kernel
theorem dX10_readsCandle_51 : decode cX10_readsCandle 51 = .ok (.ifCond .eq 27, 3) := by decide +kernel
theorem dX10_readsCandle_54 : decode cX10_readsCandle 54 = .ok (.aload_n 0, 1) := by decide +kernel
theorem dX10_readsCandle_55 : decode cX10_readsCandle 55 = .ok (.bipush 47, 2) := by decide +kernel
theorem dX10_readsCandle_57 : decode cX10_readsCandle 57 = .ok (.invokevirtual 182, 3) := by decide +kernel
theorem dX10_readsCandle_60 : decode cX10_readsCandle 60 = .ok (.ifCond .eq 18, 3) := by decide +kernel
theorem dX10_readsCandle_63 : decode cX10_readsCandle 63 = .ok (.aload_n 0, 1) := by decide +kernel
theorem dX10_readsCandle_64 : decode cX10_readsCandle 64 = .ok (.iconst 1, 1) := by decide +kernel
theorem dX10_readsCandle_65 : decode cX10_readsCandle 65 = .ok (.iload_n 1, 1) := by decide +kernel
theorem dX10_readsCandle_66 : decode cX10_readsCandle 66 = .ok (.iconst 3, 1) := by decide +kernel
theorem dX10_readsCandle_67 : decode cX10_readsCandle 67 = .ok (.iadd, 1) := by decide +kernel
theorem dX10_readsCandle_68 : decode cX10_readsCandle 68 = .ok (.invokevirtual 191, 3) := by decide +kernel
theorem dX10_readsCandle_71 : decode cX10_readsCandle 71 = .ok (.ifCond .eq 7, 3) := by decide +kernel
theorem dX10_readsCandle_74 : decode cX10_readsCandle 74 = .ok (.iconst 1, 1) := by decide +kernel
theorem dX10_readsCandle_75 : decode cX10_readsCandle 75 = .ok (.goto 4, 3) := by decide +kernel
theorem dX10_readsCandle_78 : decode cX10_readsCandle 78 = .ok (.iconst 0, 1) := by decide +kernel
theorem dX10_readsCandle_79 : decode cX10_readsCandle 79 = .ok (.ireturn, 1) := by decide +kernel
set_option maxHeartbeats 4000000 in
set_option maxRecDepth 100000 in
theorem c_X10_readsCandle (g : xG) (l : Launch) (b : Nat → Nat) (m : MdT) (tp : (Nat → Int32)) (cm : (Nat → Int32)) (x1 : Int32) {u : Int32 × MdT × (Nat → Int32)} (hf : f_X10_readsCandle m tp cm x1 = some u) : ConD g l yX10_readsCandle cX10_readsCandle 2 (some .boolean) ({ frames := 5, cells := 0, slots := 0, locals := 107 } : Room) [.ref (b 0), .int x1] [mdO g b m, iaW g (b 7) 60 tp, iaW g (b 8) 124 cm] (some (.int u.1)) [mdO g b u.2.1, iaW g (b 7) 60 tp, iaW g (b 8) 124 u.2.2] := by
  unfold f_X10_readsCandle at hf
  refine Con_of [mdO g b m, iaW g (b 7) 60 tp, iaW g (b 8) 124 cm] [(0, .ref (b 0)), (1, .int x1)] rfl rfl (by decide) (Nat.le_of_ble_eq_true rfl) ?_
  intro pW eW sW mW argsW belowW methW c9 C hnm hr
  have C : CX g RX10 cX10_readsCandle 2 _ pW sW mW argsW methW c9 := C
  refine x_aload_n C dX10_readsCandle_0 rfl 0 rfl ?_
  refine x_ldcS (tx := "andle ") C (CX_str C ("CandleConcertModel", 185, "andle ", 18) (by decide)) dX10_readsCandle_1 ?_
  obtain ⟨u1, hu1, hf⟩ := x_b hf
  refine x_callV (n := 1) (As := [.ref (g.2.2 (300 + 18))]) (rest := []) C (c_X10_isWord g l b m tp 18 hu1) ⟨⟨wd_1866, wd_1863, wd_78⟩, ⟨by decide, by decide, by decide⟩, rfl, rfl, Nat.le_of_ble_eq_true rfl, Nat.le_of_ble_eq_true rfl⟩ wd_1865 wd_56 ⟨0, 11, _, _, rfl, rfl, rfl⟩ [iaW g (b 8) 124 cm] (x_pickD [0, 1, 2] 3 rfl rfl rfl) rfl rfl (Nat.le_of_ble_eq_true rfl) ⟨Nat.le_of_ble_eq_true rfl, Nat.le_of_ble_eq_true rfl⟩ dX10_readsCandle_3 (x_goD (wss2 := [mdO g b u1.2, iaW g (b 7) 60 tp, iaW g (b 8) 124 cm]) (stk2 := [.int u1.1]) rfl rfl ?_)
  refine x_if_eq (tgt := 19) C dX10_readsCandle_6 (by decide) (fun h2 => ?_) (fun h2 => ?_)
  · have hf := x_t h2 hf
    refine x_iconst (v := 0) C dX10_readsCandle_19 (by decide) ?_
    exact x_zret C hr rfl ⟨by cases hf; rfl, by cases hf; rfl⟩ dX10_readsCandle_20
  · have hf := x_f h2 hf
    refine x_aload_n C dX10_readsCandle_9 rfl 0 rfl ?_
    obtain ⟨u3, hu3, hf⟩ := x_b hf
    refine x_callV (n := 0) (As := []) (rest := []) C (c_X10_now g l b u1.2 tp hu3) ⟨⟨wd_1850, wd_1847, wd_78⟩, ⟨by decide, by decide, by decide⟩, rfl, rfl, Nat.le_of_ble_eq_true rfl, Nat.le_of_ble_eq_true rfl⟩ wd_1849 wd_53 ⟨0, 11, _, _, rfl, rfl, rfl⟩ [iaW g (b 8) 124 cm] (x_pickD [0, 1, 2] 3 rfl rfl rfl) rfl rfl (Nat.le_of_ble_eq_true rfl) ⟨Nat.le_of_ble_eq_true rfl, Nat.le_of_ble_eq_true rfl⟩ dX10_readsCandle_10 (x_goD (wss2 := [mdO g b u1.2, iaW g (b 7) 60 tp, iaW g (b 8) 124 cm]) (stk2 := [.int u3]) rfl rfl ?_)
    obtain ⟨u4, hu4, hf⟩ := x_b hf
    refine x_callS (n := 1) (As := [.int u3]) (rest := []) C (c_X10_isVoice g l u3 hu4) ⟨⟨wd_1568, wd_1566, wd_78⟩, ⟨by decide, by decide, by decide⟩, rfl, rfl, Nat.le_of_ble_eq_true rfl, Nat.le_of_ble_eq_true rfl⟩ wd_1567 [mdO g b u1.2, iaW g (b 7) 60 tp, iaW g (b 8) 124 cm] (x_pickD [0, 1, 2] 3 rfl rfl rfl) rfl rfl (Nat.le_of_ble_eq_true rfl) ⟨Nat.le_of_ble_eq_true rfl, Nat.le_of_ble_eq_true rfl⟩ dX10_readsCandle_13 (x_goD (wss2 := [mdO g b u1.2, iaW g (b 7) 60 tp, iaW g (b 8) 124 cm]) (stk2 := [.int u4]) rfl rfl ?_)
    refine x_if_ne (tgt := 21) C dX10_readsCandle_16 (by decide) (fun h5 => ?_) (fun h5 => ?_)
    · have hf := x_f h5 hf
      refine x_aload_n C dX10_readsCandle_21 rfl 0 rfl ?_
      refine x_get (ci := 11) (v := .ref (b 8)) (b := mdO g b u1.2) C ixX10 rfl 14 (by decide) wd_1506 (fun _ h => h) 0 rfl 0 (mdO_at0 g b _) rfl dX10_readsCandle_22 ?_
      refine x_iload_n C dX10_readsCandle_25 rfl 1 rfl ?_
      refine x_iconst (v := 1) C dX10_readsCandle_26 (by decide) ?_
      refine x_iadd C dX10_readsCandle_27 ?_
      refine x_aload_n C dX10_readsCandle_28 rfl 0 rfl ?_
      obtain ⟨u6, hu6, hf⟩ := x_b hf
      refine x_callV (n := 0) (As := []) (rest := [.int (x1 + (1 : Int32)), .ref (b 8)]) C (c_X10_now g l b u1.2 tp hu6) ⟨⟨wd_1850, wd_1847, wd_78⟩, ⟨by decide, by decide, by decide⟩, rfl, rfl, Nat.le_of_ble_eq_true rfl, Nat.le_of_ble_eq_true rfl⟩ wd_1849 wd_53 ⟨0, 11, _, _, rfl, rfl, rfl⟩ [iaW g (b 8) 124 cm] (x_pickD [0, 1, 2] 3 rfl rfl rfl) rfl rfl (Nat.le_of_ble_eq_true rfl) ⟨Nat.le_of_ble_eq_true rfl, Nat.le_of_ble_eq_true rfl⟩ dX10_readsCandle_29 (x_goD (wss2 := [mdO g b u1.2, iaW g (b 7) 60 tp, iaW g (b 8) 124 cm]) (stk2 := [.int u6, .int (x1 + (1 : Int32)), .ref (b 8)]) rfl rfl ?_)
      obtain ⟨h7, hf⟩ := x_n hf
      refine x_iast (b := iaW g (b 8) 124 cm) (b' := iaW g (b 8) 124 (upd cm (x1 + (1 : Int32)).toNatClampNeg u6)) (wss' := [mdO g b u1.2, iaW g (b 7) 60 tp, iaW g (b 8) 124 (upd cm (x1 + (1 : Int32)).toNatClampNeg u6)]) C 2 rfl 0 (iaW_at0 g (b 8) 124 _) h7 rfl rfl dX10_readsCandle_32 ?_
      refine x_aload_n C dX10_readsCandle_33 rfl 0 rfl ?_
      refine x_dup C dX10_readsCandle_34 rfl ?_
      refine x_get (ci := 11) (v := .int u1.2.2.2.2.2.2.2.2.2.1) (b := mdO g b u1.2) C ixX10 rfl 16 (by decide) wd_1508 (fun _ h => h) 0 rfl 0 (mdO_at0 g b _) rfl dX10_readsCandle_35 ?_
      refine x_iconst (v := 1) C dX10_readsCandle_38 (by decide) ?_
      refine x_iadd C dX10_readsCandle_39 ?_
      refine x_put (ci := 11) (ty := .int) (v := .int (u1.2.2.2.2.2.2.2.2.2.1 + (1 : Int32))) (b := mdO g b u1.2) (b' := mdO g b (u1.2.1, u1.2.2.1, u1.2.2.2.1, u1.2.2.2.2.1, u1.2.2.2.2.2.1, u1.2.2.2.2.2.2.1, u1.2.2.2.2.2.2.2.1, u1.2.2.2.2.2.2.2.2.1, u1.2.2.2.2.2.2.2.2.2.1 + (1 : Int32), u1.2.2.2.2.2.2.2.2.2.2)) (wss' := [mdO g b (u1.2.1, u1.2.2.1, u1.2.2.2.1, u1.2.2.2.2.1, u1.2.2.2.2.2.1, u1.2.2.2.2.2.2.1, u1.2.2.2.2.2.2.2.1, u1.2.2.2.2.2.2.2.2.1, u1.2.2.2.2.2.2.2.2.2.1 + (1 : Int32), u1.2.2.2.2.2.2.2.2.2.2), iaW g (b 7) 60 tp, iaW g (b 8) 124 (upd cm (x1 + (1 : Int32)).toNatClampNeg u6)]) C ixX10 tyX10 tyX10_ok nmX10 rfl 16 (by decide) wd_1508 (fun _ h => h) rfl (tyX10_ok 16 (by decide)) rfl rfl 0 rfl 0 (mdO_at0 g b _) (Nat.le_of_ble_eq_true rfl) rfl rfl dX10_readsCandle_40 ?_
      refine x_aload_n C dX10_readsCandle_43 rfl 0 rfl ?_
      refine x_iconst (v := 3) C dX10_readsCandle_44 (by decide) ?_
      refine x_iload_n C dX10_readsCandle_45 rfl 1 rfl ?_
      refine x_iconst (v := 2) C dX10_readsCandle_46 (by decide) ?_
      refine x_iadd C dX10_readsCandle_47 ?_
      obtain ⟨u8, hu8, hf⟩ := x_b hf
      refine x_callV (n := 2) (As := [.int (3 : Int32), .int (x1 + (2 : Int32))]) (rest := []) C (c_X10_isNumber g l b (u1.2.1, u1.2.2.1, u1.2.2.2.1, u1.2.2.2.2.1, u1.2.2.2.2.2.1, u1.2.2.2.2.2.2.1, u1.2.2.2.2.2.2.2.1, u1.2.2.2.2.2.2.2.2.1, u1.2.2.2.2.2.2.2.2.2.1 + (1 : Int32), u1.2.2.2.2.2.2.2.2.2.2) tp (upd cm (x1 + (1 : Int32)).toNatClampNeg u6) (3 : Int32) (x1 + (2 : Int32)) hu8) ⟨⟨wd_1876, wd_1873, wd_78⟩, ⟨by decide, by decide, by decide⟩, rfl, rfl, Nat.le_of_ble_eq_true rfl, Nat.le_of_ble_eq_true rfl⟩ wd_1875 wd_58 ⟨0, 11, _, _, rfl, rfl, rfl⟩ [] (x_pickD [0, 1, 2] 3 rfl rfl rfl) rfl rfl (Nat.le_of_ble_eq_true rfl) ⟨Nat.le_of_ble_eq_true rfl, Nat.le_of_ble_eq_true rfl⟩ dX10_readsCandle_48 (x_goD (wss2 := [mdO g b u8.2.1, iaW g (b 7) 60 tp, iaW g (b 8) 124 u8.2.2]) (stk2 := [.int u8.1]) rfl rfl ?_)
      refine x_if_eq (tgt := 78) C dX10_readsCandle_51 (by decide) (fun h9 => ?_) (fun h9 => ?_)
      · have hf := x_t h9 hf
        refine x_iconst (v := 0) C dX10_readsCandle_78 (by decide) ?_
        exact x_zret C hr rfl ⟨by cases hf; rfl, by cases hf; rfl⟩ dX10_readsCandle_79
      · have hf := x_f h9 hf
        refine x_aload_n C dX10_readsCandle_54 rfl 0 rfl ?_
        refine x_bipush (v := 47) C dX10_readsCandle_55 (by decide) ?_
        obtain ⟨u10, hu10, hf⟩ := x_b hf
        refine x_callV (n := 1) (As := [.int (47 : Int32)]) (rest := []) C (c_X10_isSign g l b u8.2.1 tp (47 : Int32) hu10) ⟨⟨wd_1872, wd_1869, wd_78⟩, ⟨by decide, by decide, by decide⟩, rfl, rfl, Nat.le_of_ble_eq_true rfl, Nat.le_of_ble_eq_true rfl⟩ wd_1871 wd_57 ⟨0, 11, _, _, rfl, rfl, rfl⟩ [iaW g (b 8) 124 u8.2.2] (x_pickD [0, 1, 2] 3 rfl rfl rfl) rfl rfl (Nat.le_of_ble_eq_true rfl) ⟨Nat.le_of_ble_eq_true rfl, Nat.le_of_ble_eq_true rfl⟩ dX10_readsCandle_57 (x_goD (wss2 := [mdO g b u10.2, iaW g (b 7) 60 tp, iaW g (b 8) 124 u8.2.2]) (stk2 := [.int u10.1]) rfl rfl ?_)
        refine x_if_eq (tgt := 78) C dX10_readsCandle_60 (by decide) (fun h11 => ?_) (fun h11 => ?_)
        · have hf := x_t h11 hf
          refine x_iconst (v := 0) C dX10_readsCandle_78 (by decide) ?_
          exact x_zret C hr rfl ⟨by cases hf; rfl, by cases hf; rfl⟩ dX10_readsCandle_79
        · have hf := x_f h11 hf
          refine x_aload_n C dX10_readsCandle_63 rfl 0 rfl ?_
          refine x_iconst (v := 1) C dX10_readsCandle_64 (by decide) ?_
          refine x_iload_n C dX10_readsCandle_65 rfl 1 rfl ?_
          refine x_iconst (v := 3) C dX10_readsCandle_66 (by decide) ?_
          refine x_iadd C dX10_readsCandle_67 ?_
          obtain ⟨u12, hu12, hf⟩ := x_b hf
          refine x_callV (n := 2) (As := [.int (1 : Int32), .int (x1 + (3 : Int32))]) (rest := []) C (c_X10_isNumber g l b u10.2 tp u8.2.2 (1 : Int32) (x1 + (3 : Int32)) hu12) ⟨⟨wd_1876, wd_1873, wd_78⟩, ⟨by decide, by decide, by decide⟩, rfl, rfl, Nat.le_of_ble_eq_true rfl, Nat.le_of_ble_eq_true rfl⟩ wd_1875 wd_58 ⟨0, 11, _, _, rfl, rfl, rfl⟩ [] (x_pickD [0, 1, 2] 3 rfl rfl rfl) rfl rfl (Nat.le_of_ble_eq_true rfl) ⟨Nat.le_of_ble_eq_true rfl, Nat.le_of_ble_eq_true rfl⟩ dX10_readsCandle_68 (x_goD (wss2 := [mdO g b u12.2.1, iaW g (b 7) 60 tp, iaW g (b 8) 124 u12.2.2]) (stk2 := [.int u12.1]) rfl rfl ?_)
          refine x_if_eq (tgt := 78) C dX10_readsCandle_71 (by decide) (fun h13 => ?_) (fun h13 => ?_)
          · have hf := x_t h13 hf
            refine x_iconst (v := 0) C dX10_readsCandle_78 (by decide) ?_
            exact x_zret C hr rfl ⟨by cases hf; rfl, by cases hf; rfl⟩ dX10_readsCandle_79
          · have hf := x_f h13 hf
            refine x_iconst (v := 1) C dX10_readsCandle_74 (by decide) ?_
            refine x_goto (tgt := 79) C dX10_readsCandle_75 (by decide) ?_
            exact x_zret C hr rfl ⟨by cases hf; rfl, by cases hf; rfl⟩ dX10_readsCandle_79
    · have hf := x_t h5 hf
      refine x_iconst (v := 0) C dX10_readsCandle_19 (by decide) ?_
      exact x_zret C hr rfl ⟨by cases hf; rfl, by cases hf; rfl⟩ dX10_readsCandle_20
theorem dX10_isKind_0 : decode cX10_isKind 0 = .ok (.aload_n 0, 1) := by decide +kernel
theorem dX10_isKind_1 : decode cX10_isKind 1 = .ok (.getfield 38, 3) := by decide +kernel
theorem dX10_isKind_4 : decode cX10_isKind 4 = .ok (.iload_n 1, 1) := by decide +kernel
theorem dX10_isKind_5 : decode cX10_isKind 5 = .ok (.aload_n 0, 1) := by decide +kernel
theorem dX10_isKind_6 : decode cX10_isKind 6 = .ok (.invokevirtual 170, 3) := by decide +kernel
theorem dX10_isKind_9 : decode cX10_isKind 9 = .ok (.bipush 108, 2) := by decide +kernel
theorem dX10_isKind_11 : decode cX10_isKind 11 = .ok (.if_icmp .ne 7, 3) := by decide +kernel
theorem dX10_isKind_14 : decode cX10_isKind 14 = .ok (.iconst 1, 1) := by decide +kernel
theorem dX10_isKind_15 : decode cX10_isKind 15 = .ok (.goto 4, 3) := by decide +kernel
theorem dX10_isKind_18 : decode cX10_isKind 18 = .ok (.iconst 0, 1) := by decide +kernel
theorem dX10_isKind_19 : decode cX10_isKind 19 = .ok (.iastore, 1) := by decide +kernel
theorem dX10_isKind_20 : decode cX10_isKind 20 = .ok (.aload_n 0, 1) := by decide +kernel
theorem dX10_isKind_21 : decode cX10_isKind 21 = .ok (.bipush 108, 2) := by decide +kernel
theorem dX10_isKind_23 : decode cX10_isKind 23 = .ok (.invokevirtual 182, 3) := by decide +kernel
theorem dX10_isKind_26 : decode cX10_isKind 26 = .ok (.ifCond .ne 12, 3) := by decide +kernel
theorem dX10_isKind_29 : decode cX10_isKind 29 = .ok (.aload_n 0, 1) := by decide +kernel
theorem dX10_isKind_30 : decode cX10_isKind 30 = .ok (.bipush 115, 2) := by decide +kernel
theorem dX10_isKind_32 : decode cX10_isKind 32 = .ok (.invokevirtual 182, 3) := by decide +kernel
theorem dX10_isKind_35 : decode cX10_isKind 35 = .ok (.ifCond .eq 7, 3) := by decide +kernel
theorem dX10_isKind_38 : decode cX10_isKind 38 = .ok (.iconst 1, 1) := by decide +kernel
theorem dX10_isKind_39 : decode cX10_isKind 39 = .ok (.goto 4, 3) := by decide +kernel
theorem dX10_isKind_42 : decode cX10_isKind 42 = .ok (.iconst 0, 1) := by decide +kernel
theorem dX10_isKind_43 : decode cX10_isKind 43 = .ok (.ireturn, 1) := by decide +kernel
set_option maxHeartbeats 4000000 in
set_option maxRecDepth 100000 in
theorem c_X10_isKind (g : xG) (l : Launch) (b : Nat → Nat) (m : MdT) (tp : (Nat → Int32)) (cm : (Nat → Int32)) (x1 : Int32) {u : Int32 × MdT × (Nat → Int32)} (hf : f_X10_isKind m tp cm x1 = some u) : ConD g l yX10_isKind cX10_isKind 2 (some .boolean) ({ frames := 2, cells := 0, slots := 0, locals := 42 } : Room) [.ref (b 0), .int x1] [mdO g b m, iaW g (b 7) 60 tp, iaW g (b 8) 124 cm] (some (.int u.1)) [mdO g b u.2.1, iaW g (b 7) 60 tp, iaW g (b 8) 124 u.2.2] := by
  unfold f_X10_isKind at hf
  refine Con_of [mdO g b m, iaW g (b 7) 60 tp, iaW g (b 8) 124 cm] [(0, .ref (b 0)), (1, .int x1)] rfl rfl (by decide) (Nat.le_of_ble_eq_true rfl) ?_
  intro pW eW sW mW argsW belowW methW c9 C hnm hr
  have C : CX g RX10 cX10_isKind 2 _ pW sW mW argsW methW c9 := C
  have hL19 : ∀ (mL : MdT) (cmL : (Nat → Int32)) (y0 : Int32) (y1 : Int32), f_X10_isKind_19 mL tp cmL y0 y1 = some u → VW g (va_A ([mdO g b m, iaW g (b 7) 60 tp, iaW g (b 8) 124 cm] : List va_W).flatten sW.heap.size) 2 pW l eW ({ frames := 2, cells := 0, slots := 0, locals := 42 } : Room) sW mW argsW belowW methW c9 0 0 (MQ belowW (xQc g ([mdO g b m, iaW g (b 7) 60 tp, iaW g (b 8) 124 cm] : List va_W).flatten sW.heap.size (fun v9 w9 => v9 = some (.int u.1) ∧ w9 = ([mdO g b u.2.1, iaW g (b 7) 60 tp, iaW g (b 8) 124 u.2.2] : List va_W).flatten)) argsW sW 0 0 (va_A ([mdO g b m, iaW g (b 7) 60 tp, iaW g (b 8) 124 cm] : List va_W).flatten sW.heap.size)) [mdO g b mL, iaW g (b 7) 60 tp, iaW g (b 8) 124 cmL] [(0, .ref (b 0))] 19 [.int y0, .int y1, .ref (b 8)] := by
    intro mL cmL y0 y1 hf
    unfold f_X10_isKind_19 at hf
    obtain ⟨h1, hf⟩ := x_n hf
    refine x_iast (b := iaW g (b 8) 124 cmL) (b' := iaW g (b 8) 124 (upd cmL y1.toNatClampNeg y0)) (wss' := [mdO g b mL, iaW g (b 7) 60 tp, iaW g (b 8) 124 (upd cmL y1.toNatClampNeg y0)]) C 2 rfl 0 (iaW_at0 g (b 8) 124 _) h1 rfl rfl dX10_isKind_19 ?_
    refine x_aload_n C dX10_isKind_20 rfl 0 rfl ?_
    refine x_bipush (v := 108) C dX10_isKind_21 (by decide) ?_
    obtain ⟨u2, hu2, hf⟩ := x_b hf
    refine x_callV (n := 1) (As := [.int (108 : Int32)]) (rest := []) C (c_X10_isSign g l b mL tp (108 : Int32) hu2) ⟨⟨wd_1872, wd_1869, wd_78⟩, ⟨by decide, by decide, by decide⟩, rfl, rfl, Nat.le_of_ble_eq_true rfl, Nat.le_of_ble_eq_true rfl⟩ wd_1871 wd_57 ⟨0, 11, _, _, rfl, rfl, rfl⟩ [iaW g (b 8) 124 (upd cmL y1.toNatClampNeg y0)] (x_pickD [0, 1, 2] 3 rfl rfl rfl) rfl rfl (Nat.le_of_ble_eq_true rfl) ⟨Nat.le_of_ble_eq_true rfl, Nat.le_of_ble_eq_true rfl⟩ dX10_isKind_23 (x_goD (wss2 := [mdO g b u2.2, iaW g (b 7) 60 tp, iaW g (b 8) 124 (upd cmL y1.toNatClampNeg y0)]) (stk2 := [.int u2.1]) rfl rfl ?_)
    refine x_if_ne (tgt := 38) C dX10_isKind_26 (by decide) (fun h3 => ?_) (fun h3 => ?_)
    · have hf := x_f h3 hf
      refine x_iconst (v := 1) C dX10_isKind_38 (by decide) ?_
      refine x_goto (tgt := 43) C dX10_isKind_39 (by decide) ?_
      exact x_zret C hr rfl ⟨by cases hf; rfl, by cases hf; rfl⟩ dX10_isKind_43
    · have hf := x_t h3 hf
      refine x_aload_n C dX10_isKind_29 rfl 0 rfl ?_
      refine x_bipush (v := 115) C dX10_isKind_30 (by decide) ?_
      obtain ⟨u4, hu4, hf⟩ := x_b hf
      refine x_callV (n := 1) (As := [.int (115 : Int32)]) (rest := []) C (c_X10_isSign g l b u2.2 tp (115 : Int32) hu4) ⟨⟨wd_1872, wd_1869, wd_78⟩, ⟨by decide, by decide, by decide⟩, rfl, rfl, Nat.le_of_ble_eq_true rfl, Nat.le_of_ble_eq_true rfl⟩ wd_1871 wd_57 ⟨0, 11, _, _, rfl, rfl, rfl⟩ [iaW g (b 8) 124 (upd cmL y1.toNatClampNeg y0)] (x_pickD [0, 1, 2] 3 rfl rfl rfl) rfl rfl (Nat.le_of_ble_eq_true rfl) ⟨Nat.le_of_ble_eq_true rfl, Nat.le_of_ble_eq_true rfl⟩ dX10_isKind_32 (x_goD (wss2 := [mdO g b u4.2, iaW g (b 7) 60 tp, iaW g (b 8) 124 (upd cmL y1.toNatClampNeg y0)]) (stk2 := [.int u4.1]) rfl rfl ?_)
      refine x_if_eq (tgt := 42) C dX10_isKind_35 (by decide) (fun h5 => ?_) (fun h5 => ?_)
      · have hf := x_t h5 hf
        refine x_iconst (v := 0) C dX10_isKind_42 (by decide) ?_
        exact x_zret C hr rfl ⟨by cases hf; rfl, by cases hf; rfl⟩ dX10_isKind_43
      · have hf := x_f h5 hf
        refine x_iconst (v := 1) C dX10_isKind_38 (by decide) ?_
        refine x_goto (tgt := 43) C dX10_isKind_39 (by decide) ?_
        exact x_zret C hr rfl ⟨by cases hf; rfl, by cases hf; rfl⟩ dX10_isKind_43
  refine x_aload_n C dX10_isKind_0 rfl 0 rfl ?_
  refine x_get (ci := 11) (v := .ref (b 8)) (b := mdO g b m) C ixX10 rfl 14 (by decide) wd_1506 (fun _ h => h) 0 rfl 0 (mdO_at0 g b _) rfl dX10_isKind_1 ?_
  refine x_iload_n C dX10_isKind_4 rfl 1 rfl ?_
  refine x_aload_n C dX10_isKind_5 rfl 0 rfl ?_
  obtain ⟨u1, hu1, hf⟩ := x_b hf
  refine x_callV (n := 0) (As := []) (rest := [.int x1, .ref (b 8)]) C (c_X10_now g l b m tp hu1) ⟨⟨wd_1850, wd_1847, wd_78⟩, ⟨by decide, by decide, by decide⟩, rfl, rfl, Nat.le_of_ble_eq_true rfl, Nat.le_of_ble_eq_true rfl⟩ wd_1849 wd_53 ⟨0, 11, _, _, rfl, rfl, rfl⟩ [iaW g (b 8) 124 cm] (x_pickD [0, 1, 2] 3 rfl rfl rfl) rfl rfl (Nat.le_of_ble_eq_true rfl) ⟨Nat.le_of_ble_eq_true rfl, Nat.le_of_ble_eq_true rfl⟩ dX10_isKind_6 (x_goD (wss2 := [mdO g b m, iaW g (b 7) 60 tp, iaW g (b 8) 124 cm]) (stk2 := [.int u1, .int x1, .ref (b 8)]) rfl rfl ?_)
  refine x_bipush (v := 108) C dX10_isKind_9 (by decide) ?_
  refine x_icmp_ne (tgt := 18) C dX10_isKind_11 (by decide) (fun h2 => ?_) (fun h2 => ?_)
  · have hf := x_f h2 hf
    refine x_iconst (v := 0) C dX10_isKind_18 (by decide) ?_
    refine x_locals (lv' := [(0, .ref (b 0))]) [0] rfl ?_
    exact hL19 m cm (0 : Int32) x1 hf
  · have hf := x_t h2 hf
    refine x_iconst (v := 1) C dX10_isKind_14 (by decide) ?_
    refine x_goto (tgt := 19) C dX10_isKind_15 (by decide) ?_
    refine x_locals (lv' := [(0, .ref (b 0))]) [0] rfl ?_
    exact hL19 m cm (1 : Int32) x1 hf
theorem wd_60 : Cond.selects yX10_isKind.cls yX10_isKind yX10_isKind ∈ xTB := xTB_in 60 (by decide +kernel) (by decide +kernel)
theorem wd_1885 : Cond.methodLink RX10 199 yX10_isKind ∈ xTB := xTB_in 1885 (by decide +kernel) (by decide +kernel)
theorem wd_1887 : Cond.instanceMethod yX10_isKind ∈ xTB := xTB_in 1887 (by decide +kernel) (by decide +kernel)
theorem wd_1888 : Cond.code yX10_isKind cX10_isKind 2 (some .boolean) ∈ xTB := xTB_in 1888 (by decide +kernel) (by decide +kernel)
theorem dX10_readsP_0 : decode cX10_readsP 0 = .ok (.aload_n 0, 1) := by decide +kernel
theorem dX10_readsP_1 : decode cX10_readsP 1 = .ok (.bipush 111, 2) := by decide +kernel
theorem dX10_readsP_3 : decode cX10_readsP 3 = .ok (.invokevirtual 182, 3) := by decide +kernel
theorem dX10_readsP_6 : decode cX10_readsP 6 = .ok (.ifCond .eq 49, 3) := by decide +kernel
theorem dX10_readsP_9 : decode cX10_readsP 9 = .ok (.aload_n 0, 1) := by decide +kernel
theorem dX10_readsP_10 : decode cX10_readsP 10 = .ok (.ldc 195, 2) := by decide +kernel
theorem dX10_readsP_12 : decode cX10_readsP 12 = .ok (.invokevirtual 187, 3) := by decide +kernel
theorem dX10_readsP_15 : decode cX10_readsP 15 = .ok (.ifCond .eq 38, 3) := by decide +kernel
theorem dX10_readsP_18 : decode cX10_readsP 18 = .ok (.aload_n 0, 1) := by decide +kernel
theorem dX10_readsP_19 : decode cX10_readsP 19 = .ok (.iconst 1, 1) := by decide +kernel
theorem dX10_readsP_20 : decode cX10_readsP 20 = .ok (.iload_n 1, 1) := by decide +kernel
theorem dX10_readsP_21 : decode cX10_readsP 21 = .ok (.iconst 1, 1) := by decide +kernel
theorem dX10_readsP_22 : decode cX10_readsP 22 = .ok (.iadd, 1) := by decide +kernel
theorem dX10_readsP_23 : decode cX10_readsP 23 = .ok (.invokevirtual 191, 3) := by decide +kernel
theorem dX10_readsP_26 : decode cX10_readsP 26 = .ok (.ifCond .eq 27, 3) := by decide +kernel
theorem dX10_readsP_29 : decode cX10_readsP 29 = .ok (.aload_n 0, 1) := by decide +kernel
theorem dX10_readsP_30 : decode cX10_readsP 30 = .ok (.bipush 43, 2) := by decide +kernel
theorem dX10_readsP_32 : decode cX10_readsP 32 = .ok (.invokevirtual 182, 3) := by decide +kernel
theorem dX10_readsP_35 : decode cX10_readsP 35 = .ok (.ifCond .eq 18, 3) := by decide +kernel
theorem dX10_readsP_38 : decode cX10_readsP 38 = .ok (.aload_n 0, 1) := by decide +kernel
theorem dX10_readsP_39 : decode cX10_readsP 39 = .ok (.iconst 3, 1) := by decide +kernel
theorem dX10_readsP_40 : decode cX10_readsP 40 = .ok (.iload_n 1, 1) := by decide +kernel
theorem dX10_readsP_41 : decode cX10_readsP 41 = .ok (.iconst 2, 1) := by decide +kernel
theorem dX10_readsP_42 : decode cX10_readsP 42 = .ok (.iadd, 1) := by decide +kernel
theorem dX10_readsP_43 : decode cX10_readsP 43 = .ok (.invokevirtual 191, 3) := by decide +kernel
theorem dX10_readsP_46 : decode cX10_readsP 46 = .ok (.ifCond .eq 7, 3) := by decide +kernel
theorem dX10_readsP_49 : decode cX10_readsP 49 = .ok (.iconst 1, 1) := by decide +kernel
theorem dX10_readsP_50 : decode cX10_readsP 50 = .ok (.goto 4, 3) := by decide +kernel
theorem dX10_readsP_53 : decode cX10_readsP 53 = .ok (.iconst 0, 1) := by decide +kernel
theorem dX10_readsP_54 : decode cX10_readsP 54 = .ok (.ireturn, 1) := by decide +kernel
theorem dX10_readsP_55 : decode cX10_readsP 55 = .ok (.aload_n 0, 1) := by decide +kernel
theorem dX10_readsP_56 : decode cX10_readsP 56 = .ok (.getfield 38, 3) := by decide +kernel
theorem dX10_readsP_59 : decode cX10_readsP 59 = .ok (.iload_n 1, 1) := by decide +kernel
theorem dX10_readsP_60 : decode cX10_readsP 60 = .ok (.bipush 110, 2) := by decide +kernel
theorem dX10_readsP_62 : decode cX10_readsP 62 = .ok (.iastore, 1) := by decide +kernel
theorem dX10_readsP_63 : decode cX10_readsP 63 = .ok (.aload_n 0, 1) := by decide +kernel
theorem dX10_readsP_64 : decode cX10_readsP 64 = .ok (.ldc 197, 2) := by decide +kernel
theorem dX10_readsP_66 : decode cX10_readsP 66 = .ok (.invokevirtual 187, 3) := by decide +kernel
theorem dX10_readsP_69 : decode cX10_readsP 69 = .ok (.ifCond .eq 48, 3) := by decide +kernel
theorem dX10_readsP_72 : decode cX10_readsP 72 = .ok (.aload_n 0, 1) := by decide +kernel
theorem dX10_readsP_73 : decode cX10_readsP 73 = .ok (.iconst 3, 1) := by decide +kernel
theorem dX10_readsP_74 : decode cX10_readsP 74 = .ok (.iload_n 1, 1) := by decide +kernel
theorem dX10_readsP_75 : decode cX10_readsP 75 = .ok (.iconst 1, 1) := by decide +kernel
theorem dX10_readsP_76 : decode cX10_readsP 76 = .ok (.iadd, 1) := by decide +kernel
theorem dX10_readsP_77 : decode cX10_readsP 77 = .ok (.invokevirtual 191, 3) := by decide +kernel
theorem dX10_readsP_80 : decode cX10_readsP 80 = .ok (.ifCond .eq 37, 3) := by decide +kernel
theorem dX10_readsP_83 : decode cX10_readsP 83 = .ok (.aload_n 0, 1) := by decide +kernel
theorem dX10_readsP_84 : decode cX10_readsP 84 = .ok (.bipush 32, 2) := by decide +kernel
theorem dX10_readsP_86 : decode cX10_readsP 86 = .ok (.invokevirtual 182, 3) := by decide +kernel
theorem dX10_readsP_89 : decode cX10_readsP 89 = .ok (.ifCond .eq 28, 3) := by decide +kernel
theorem dX10_readsP_92 : decode cX10_readsP 92 = .ok (.aload_n 0, 1) := by decide +kernel
theorem dX10_readsP_93 : decode cX10_readsP 93 = .ok (.iload_n 1, 1) := by decide +kernel
theorem dX10_readsP_94 : decode cX10_readsP 94 = .ok (.iconst 3, 1) := by decide +kernel
theorem dX10_readsP_95 : decode cX10_readsP 95 = .ok (.iadd, 1) := by decide +kernel
theorem dX10_readsP_96 : decode cX10_readsP 96 = .ok (.invokevirtual 199, 3) := by decide +kernel
theorem dX10_readsP_99 : decode cX10_readsP 99 = .ok (.ifCond .eq 18, 3) := by decide +kernel
theorem dX10_readsP_102 : decode cX10_readsP 102 = .ok (.aload_n 0, 1) := by decide +kernel
theorem dX10_readsP_103 : decode cX10_readsP 103 = .ok (.iconst 1, 1) := by decide +kernel
theorem dX10_readsP_104 : decode cX10_readsP 104 = .ok (.iload_n 1, 1) := by decide +kernel
theorem dX10_readsP_105 : decode cX10_readsP 105 = .ok (.iconst 2, 1) := by decide +kernel
theorem dX10_readsP_106 : decode cX10_readsP 106 = .ok (.iadd, 1) := by decide +kernel
theorem dX10_readsP_107 : decode cX10_readsP 107 = .ok (.invokevirtual 191, 3) := by decide +kernel
theorem dX10_readsP_110 : decode cX10_readsP 110 = .ok (.ifCond .eq 7, 3) := by decide +kernel
theorem dX10_readsP_113 : decode cX10_readsP 113 = .ok (.iconst 1, 1) := by decide +kernel
theorem dX10_readsP_114 : decode cX10_readsP 114 = .ok (.goto 4, 3) := by decide +kernel
theorem dX10_readsP_117 : decode cX10_readsP 117 = .ok (.iconst 0, 1) := by decide +kernel
theorem dX10_readsP_118 : decode cX10_readsP 118 = .ok (.ireturn, 1) := by decide +kernel
set_option maxHeartbeats 4000000 in
set_option maxRecDepth 100000 in
theorem c_X10_readsP (g : xG) (l : Launch) (b : Nat → Nat) (m : MdT) (tp : (Nat → Int32)) (cm : (Nat → Int32)) (x1 : Int32) {u : Int32 × MdT × (Nat → Int32)} (hf : f_X10_readsP m tp cm x1 = some u) : ConD g l yX10_readsP cX10_readsP 2 (some .boolean) ({ frames := 5, cells := 0, slots := 0, locals := 107 } : Room) [.ref (b 0), .int x1] [mdO g b m, iaW g (b 7) 60 tp, iaW g (b 8) 124 cm] (some (.int u.1)) [mdO g b u.2.1, iaW g (b 7) 60 tp, iaW g (b 8) 124 u.2.2] := by
  unfold f_X10_readsP at hf
  refine Con_of [mdO g b m, iaW g (b 7) 60 tp, iaW g (b 8) 124 cm] [(0, .ref (b 0)), (1, .int x1)] rfl rfl (by decide) (Nat.le_of_ble_eq_true rfl) ?_
  intro pW eW sW mW argsW belowW methW c9 C hnm hr
  have C : CX g RX10 cX10_readsP 2 _ pW sW mW argsW methW c9 := C
  refine x_aload_n C dX10_readsP_0 rfl 0 rfl ?_
  refine x_bipush (v := 111) C dX10_readsP_1 (by decide) ?_
  obtain ⟨u1, hu1, hf⟩ := x_b hf
  refine x_callV (n := 1) (As := [.int (111 : Int32)]) (rest := []) C (c_X10_isSign g l b m tp (111 : Int32) hu1) ⟨⟨wd_1872, wd_1869, wd_78⟩, ⟨by decide, by decide, by decide⟩, rfl, rfl, Nat.le_of_ble_eq_true rfl, Nat.le_of_ble_eq_true rfl⟩ wd_1871 wd_57 ⟨0, 11, _, _, rfl, rfl, rfl⟩ [iaW g (b 8) 124 cm] (x_pickD [0, 1, 2] 3 rfl rfl rfl) rfl rfl (Nat.le_of_ble_eq_true rfl) ⟨Nat.le_of_ble_eq_true rfl, Nat.le_of_ble_eq_true rfl⟩ dX10_readsP_3 (x_goD (wss2 := [mdO g b u1.2, iaW g (b 7) 60 tp, iaW g (b 8) 124 cm]) (stk2 := [.int u1.1]) rfl rfl ?_)
  refine x_if_eq (tgt := 55) C dX10_readsP_6 (by decide) (fun h2 => ?_) (fun h2 => ?_)
  · have hf := x_t h2 hf
    refine x_aload_n C dX10_readsP_55 rfl 0 rfl ?_
    refine x_get (ci := 11) (v := .ref (b 8)) (b := mdO g b u1.2) C ixX10 rfl 14 (by decide) wd_1506 (fun _ h => h) 0 rfl 0 (mdO_at0 g b _) rfl dX10_readsP_56 ?_
    refine x_iload_n C dX10_readsP_59 rfl 1 rfl ?_
    refine x_bipush (v := 110) C dX10_readsP_60 (by decide) ?_
    obtain ⟨h3, hf⟩ := x_n hf
    refine x_iast (b := iaW g (b 8) 124 cm) (b' := iaW g (b 8) 124 (upd cm x1.toNatClampNeg (110 : Int32))) (wss' := [mdO g b u1.2, iaW g (b 7) 60 tp, iaW g (b 8) 124 (upd cm x1.toNatClampNeg (110 : Int32))]) C 2 rfl 0 (iaW_at0 g (b 8) 124 _) h3 rfl rfl dX10_readsP_62 ?_
    refine x_aload_n C dX10_readsP_63 rfl 0 rfl ?_
    refine x_ldcS (tx := "lan ") C (CX_str C ("CandleConcertModel", 197, "lan ", 22) (by decide)) dX10_readsP_64 ?_
    obtain ⟨u4, hu4, hf⟩ := x_b hf
    refine x_callV (n := 1) (As := [.ref (g.2.2 (300 + 22))]) (rest := []) C (c_X10_isWord g l b u1.2 tp 22 hu4) ⟨⟨wd_1866, wd_1863, wd_78⟩, ⟨by decide, by decide, by decide⟩, rfl, rfl, Nat.le_of_ble_eq_true rfl, Nat.le_of_ble_eq_true rfl⟩ wd_1865 wd_56 ⟨0, 11, _, _, rfl, rfl, rfl⟩ [iaW g (b 8) 124 (upd cm x1.toNatClampNeg (110 : Int32))] (x_pickD [0, 1, 2] 3 rfl rfl rfl) rfl rfl (Nat.le_of_ble_eq_true rfl) ⟨Nat.le_of_ble_eq_true rfl, Nat.le_of_ble_eq_true rfl⟩ dX10_readsP_66 (x_goD (wss2 := [mdO g b u4.2, iaW g (b 7) 60 tp, iaW g (b 8) 124 (upd cm x1.toNatClampNeg (110 : Int32))]) (stk2 := [.int u4.1]) rfl rfl ?_)
    refine x_if_eq (tgt := 117) C dX10_readsP_69 (by decide) (fun h5 => ?_) (fun h5 => ?_)
    · have hf := x_t h5 hf
      refine x_iconst (v := 0) C dX10_readsP_117 (by decide) ?_
      exact x_zret C hr rfl ⟨by cases hf; rfl, by cases hf; rfl⟩ dX10_readsP_118
    · have hf := x_f h5 hf
      refine x_aload_n C dX10_readsP_72 rfl 0 rfl ?_
      refine x_iconst (v := 3) C dX10_readsP_73 (by decide) ?_
      refine x_iload_n C dX10_readsP_74 rfl 1 rfl ?_
      refine x_iconst (v := 1) C dX10_readsP_75 (by decide) ?_
      refine x_iadd C dX10_readsP_76 ?_
      obtain ⟨u6, hu6, hf⟩ := x_b hf
      refine x_callV (n := 2) (As := [.int (3 : Int32), .int (x1 + (1 : Int32))]) (rest := []) C (c_X10_isNumber g l b u4.2 tp (upd cm x1.toNatClampNeg (110 : Int32)) (3 : Int32) (x1 + (1 : Int32)) hu6) ⟨⟨wd_1876, wd_1873, wd_78⟩, ⟨by decide, by decide, by decide⟩, rfl, rfl, Nat.le_of_ble_eq_true rfl, Nat.le_of_ble_eq_true rfl⟩ wd_1875 wd_58 ⟨0, 11, _, _, rfl, rfl, rfl⟩ [] (x_pickD [0, 1, 2] 3 rfl rfl rfl) rfl rfl (Nat.le_of_ble_eq_true rfl) ⟨Nat.le_of_ble_eq_true rfl, Nat.le_of_ble_eq_true rfl⟩ dX10_readsP_77 (x_goD (wss2 := [mdO g b u6.2.1, iaW g (b 7) 60 tp, iaW g (b 8) 124 u6.2.2]) (stk2 := [.int u6.1]) rfl rfl ?_)
      refine x_if_eq (tgt := 117) C dX10_readsP_80 (by decide) (fun h7 => ?_) (fun h7 => ?_)
      · have hf := x_t h7 hf
        refine x_iconst (v := 0) C dX10_readsP_117 (by decide) ?_
        exact x_zret C hr rfl ⟨by cases hf; rfl, by cases hf; rfl⟩ dX10_readsP_118
      · have hf := x_f h7 hf
        refine x_aload_n C dX10_readsP_83 rfl 0 rfl ?_
        refine x_bipush (v := 32) C dX10_readsP_84 (by decide) ?_
        obtain ⟨u8, hu8, hf⟩ := x_b hf
        refine x_callV (n := 1) (As := [.int (32 : Int32)]) (rest := []) C (c_X10_isSign g l b u6.2.1 tp (32 : Int32) hu8) ⟨⟨wd_1872, wd_1869, wd_78⟩, ⟨by decide, by decide, by decide⟩, rfl, rfl, Nat.le_of_ble_eq_true rfl, Nat.le_of_ble_eq_true rfl⟩ wd_1871 wd_57 ⟨0, 11, _, _, rfl, rfl, rfl⟩ [iaW g (b 8) 124 u6.2.2] (x_pickD [0, 1, 2] 3 rfl rfl rfl) rfl rfl (Nat.le_of_ble_eq_true rfl) ⟨Nat.le_of_ble_eq_true rfl, Nat.le_of_ble_eq_true rfl⟩ dX10_readsP_86 (x_goD (wss2 := [mdO g b u8.2, iaW g (b 7) 60 tp, iaW g (b 8) 124 u6.2.2]) (stk2 := [.int u8.1]) rfl rfl ?_)
        refine x_if_eq (tgt := 117) C dX10_readsP_89 (by decide) (fun h9 => ?_) (fun h9 => ?_)
        · have hf := x_t h9 hf
          refine x_iconst (v := 0) C dX10_readsP_117 (by decide) ?_
          exact x_zret C hr rfl ⟨by cases hf; rfl, by cases hf; rfl⟩ dX10_readsP_118
        · have hf := x_f h9 hf
          refine x_aload_n C dX10_readsP_92 rfl 0 rfl ?_
          refine x_iload_n C dX10_readsP_93 rfl 1 rfl ?_
          refine x_iconst (v := 3) C dX10_readsP_94 (by decide) ?_
          refine x_iadd C dX10_readsP_95 ?_
          obtain ⟨u10, hu10, hf⟩ := x_b hf
          refine x_callV (n := 1) (As := [.int (x1 + (3 : Int32))]) (rest := []) C (c_X10_isKind g l b u8.2 tp u6.2.2 (x1 + (3 : Int32)) hu10) ⟨⟨wd_1888, wd_1885, wd_78⟩, ⟨by decide, by decide, by decide⟩, rfl, rfl, Nat.le_of_ble_eq_true rfl, Nat.le_of_ble_eq_true rfl⟩ wd_1887 wd_60 ⟨0, 11, _, _, rfl, rfl, rfl⟩ [] (x_pickD [0, 1, 2] 3 rfl rfl rfl) rfl rfl (Nat.le_of_ble_eq_true rfl) ⟨Nat.le_of_ble_eq_true rfl, Nat.le_of_ble_eq_true rfl⟩ dX10_readsP_96 (x_goD (wss2 := [mdO g b u10.2.1, iaW g (b 7) 60 tp, iaW g (b 8) 124 u10.2.2]) (stk2 := [.int u10.1]) rfl rfl ?_)
          refine x_if_eq (tgt := 117) C dX10_readsP_99 (by decide) (fun h11 => ?_) (fun h11 => ?_)
          · have hf := x_t h11 hf
            refine x_iconst (v := 0) C dX10_readsP_117 (by decide) ?_
            exact x_zret C hr rfl ⟨by cases hf; rfl, by cases hf; rfl⟩ dX10_readsP_118
          · have hf := x_f h11 hf
            refine x_aload_n C dX10_readsP_102 rfl 0 rfl ?_
            refine x_iconst (v := 1) C dX10_readsP_103 (by decide) ?_
            refine x_iload_n C dX10_readsP_104 rfl 1 rfl ?_
            refine x_iconst (v := 2) C dX10_readsP_105 (by decide) ?_
            refine x_iadd C dX10_readsP_106 ?_
            obtain ⟨u12, hu12, hf⟩ := x_b hf
            refine x_callV (n := 2) (As := [.int (1 : Int32), .int (x1 + (2 : Int32))]) (rest := []) C (c_X10_isNumber g l b u10.2.1 tp u10.2.2 (1 : Int32) (x1 + (2 : Int32)) hu12) ⟨⟨wd_1876, wd_1873, wd_78⟩, ⟨by decide, by decide, by decide⟩, rfl, rfl, Nat.le_of_ble_eq_true rfl, Nat.le_of_ble_eq_true rfl⟩ wd_1875 wd_58 ⟨0, 11, _, _, rfl, rfl, rfl⟩ [] (x_pickD [0, 1, 2] 3 rfl rfl rfl) rfl rfl (Nat.le_of_ble_eq_true rfl) ⟨Nat.le_of_ble_eq_true rfl, Nat.le_of_ble_eq_true rfl⟩ dX10_readsP_107 (x_goD (wss2 := [mdO g b u12.2.1, iaW g (b 7) 60 tp, iaW g (b 8) 124 u12.2.2]) (stk2 := [.int u12.1]) rfl rfl ?_)
            refine x_if_eq (tgt := 117) C dX10_readsP_110 (by decide) (fun h13 => ?_) (fun h13 => ?_)
            · have hf := x_t h13 hf
              refine x_iconst (v := 0) C dX10_readsP_117 (by decide) ?_
              exact x_zret C hr rfl ⟨by cases hf; rfl, by cases hf; rfl⟩ dX10_readsP_118
            · have hf := x_f h13 hf
              refine x_iconst (v := 1) C dX10_readsP_113 (by decide) ?_
              refine x_goto (tgt := 118) C dX10_readsP_114 (by decide) ?_
              exact x_zret C hr rfl ⟨by cases hf; rfl, by cases hf; rfl⟩ dX10_readsP_118
  · have hf := x_f h2 hf
    refine x_aload_n C dX10_readsP_9 rfl 0 rfl ?_
    refine x_ldcS (tx := "ur ") C (CX_str C ("CandleConcertModel", 195, "ur ", 21) (by decide)) dX10_readsP_10 ?_
    obtain ⟨u14, hu14, hf⟩ := x_b hf
    refine x_callV (n := 1) (As := [.ref (g.2.2 (300 + 21))]) (rest := []) C (c_X10_isWord g l b u1.2 tp 21 hu14) ⟨⟨wd_1866, wd_1863, wd_78⟩, ⟨by decide, by decide, by decide⟩, rfl, rfl, Nat.le_of_ble_eq_true rfl, Nat.le_of_ble_eq_true rfl⟩ wd_1865 wd_56 ⟨0, 11, _, _, rfl, rfl, rfl⟩ [iaW g (b 8) 124 cm] (x_pickD [0, 1, 2] 3 rfl rfl rfl) rfl rfl (Nat.le_of_ble_eq_true rfl) ⟨Nat.le_of_ble_eq_true rfl, Nat.le_of_ble_eq_true rfl⟩ dX10_readsP_12 (x_goD (wss2 := [mdO g b u14.2, iaW g (b 7) 60 tp, iaW g (b 8) 124 cm]) (stk2 := [.int u14.1]) rfl rfl ?_)
    refine x_if_eq (tgt := 53) C dX10_readsP_15 (by decide) (fun h15 => ?_) (fun h15 => ?_)
    · have hf := x_t h15 hf
      refine x_iconst (v := 0) C dX10_readsP_53 (by decide) ?_
      exact x_zret C hr rfl ⟨by cases hf; rfl, by cases hf; rfl⟩ dX10_readsP_54
    · have hf := x_f h15 hf
      refine x_aload_n C dX10_readsP_18 rfl 0 rfl ?_
      refine x_iconst (v := 1) C dX10_readsP_19 (by decide) ?_
      refine x_iload_n C dX10_readsP_20 rfl 1 rfl ?_
      refine x_iconst (v := 1) C dX10_readsP_21 (by decide) ?_
      refine x_iadd C dX10_readsP_22 ?_
      obtain ⟨u16, hu16, hf⟩ := x_b hf
      refine x_callV (n := 2) (As := [.int (1 : Int32), .int (x1 + (1 : Int32))]) (rest := []) C (c_X10_isNumber g l b u14.2 tp cm (1 : Int32) (x1 + (1 : Int32)) hu16) ⟨⟨wd_1876, wd_1873, wd_78⟩, ⟨by decide, by decide, by decide⟩, rfl, rfl, Nat.le_of_ble_eq_true rfl, Nat.le_of_ble_eq_true rfl⟩ wd_1875 wd_58 ⟨0, 11, _, _, rfl, rfl, rfl⟩ [] (x_pickD [0, 1, 2] 3 rfl rfl rfl) rfl rfl (Nat.le_of_ble_eq_true rfl) ⟨Nat.le_of_ble_eq_true rfl, Nat.le_of_ble_eq_true rfl⟩ dX10_readsP_23 (x_goD (wss2 := [mdO g b u16.2.1, iaW g (b 7) 60 tp, iaW g (b 8) 124 u16.2.2]) (stk2 := [.int u16.1]) rfl rfl ?_)
      refine x_if_eq (tgt := 53) C dX10_readsP_26 (by decide) (fun h17 => ?_) (fun h17 => ?_)
      · have hf := x_t h17 hf
        refine x_iconst (v := 0) C dX10_readsP_53 (by decide) ?_
        exact x_zret C hr rfl ⟨by cases hf; rfl, by cases hf; rfl⟩ dX10_readsP_54
      · have hf := x_f h17 hf
        refine x_aload_n C dX10_readsP_29 rfl 0 rfl ?_
        refine x_bipush (v := 43) C dX10_readsP_30 (by decide) ?_
        obtain ⟨u18, hu18, hf⟩ := x_b hf
        refine x_callV (n := 1) (As := [.int (43 : Int32)]) (rest := []) C (c_X10_isSign g l b u16.2.1 tp (43 : Int32) hu18) ⟨⟨wd_1872, wd_1869, wd_78⟩, ⟨by decide, by decide, by decide⟩, rfl, rfl, Nat.le_of_ble_eq_true rfl, Nat.le_of_ble_eq_true rfl⟩ wd_1871 wd_57 ⟨0, 11, _, _, rfl, rfl, rfl⟩ [iaW g (b 8) 124 u16.2.2] (x_pickD [0, 1, 2] 3 rfl rfl rfl) rfl rfl (Nat.le_of_ble_eq_true rfl) ⟨Nat.le_of_ble_eq_true rfl, Nat.le_of_ble_eq_true rfl⟩ dX10_readsP_32 (x_goD (wss2 := [mdO g b u18.2, iaW g (b 7) 60 tp, iaW g (b 8) 124 u16.2.2]) (stk2 := [.int u18.1]) rfl rfl ?_)
        refine x_if_eq (tgt := 53) C dX10_readsP_35 (by decide) (fun h19 => ?_) (fun h19 => ?_)
        · have hf := x_t h19 hf
          refine x_iconst (v := 0) C dX10_readsP_53 (by decide) ?_
          exact x_zret C hr rfl ⟨by cases hf; rfl, by cases hf; rfl⟩ dX10_readsP_54
        · have hf := x_f h19 hf
          refine x_aload_n C dX10_readsP_38 rfl 0 rfl ?_
          refine x_iconst (v := 3) C dX10_readsP_39 (by decide) ?_
          refine x_iload_n C dX10_readsP_40 rfl 1 rfl ?_
          refine x_iconst (v := 2) C dX10_readsP_41 (by decide) ?_
          refine x_iadd C dX10_readsP_42 ?_
          obtain ⟨u20, hu20, hf⟩ := x_b hf
          refine x_callV (n := 2) (As := [.int (3 : Int32), .int (x1 + (2 : Int32))]) (rest := []) C (c_X10_isNumber g l b u18.2 tp u16.2.2 (3 : Int32) (x1 + (2 : Int32)) hu20) ⟨⟨wd_1876, wd_1873, wd_78⟩, ⟨by decide, by decide, by decide⟩, rfl, rfl, Nat.le_of_ble_eq_true rfl, Nat.le_of_ble_eq_true rfl⟩ wd_1875 wd_58 ⟨0, 11, _, _, rfl, rfl, rfl⟩ [] (x_pickD [0, 1, 2] 3 rfl rfl rfl) rfl rfl (Nat.le_of_ble_eq_true rfl) ⟨Nat.le_of_ble_eq_true rfl, Nat.le_of_ble_eq_true rfl⟩ dX10_readsP_43 (x_goD (wss2 := [mdO g b u20.2.1, iaW g (b 7) 60 tp, iaW g (b 8) 124 u20.2.2]) (stk2 := [.int u20.1]) rfl rfl ?_)
          refine x_if_eq (tgt := 53) C dX10_readsP_46 (by decide) (fun h21 => ?_) (fun h21 => ?_)
          · have hf := x_t h21 hf
            refine x_iconst (v := 0) C dX10_readsP_53 (by decide) ?_
            exact x_zret C hr rfl ⟨by cases hf; rfl, by cases hf; rfl⟩ dX10_readsP_54
          · have hf := x_f h21 hf
            refine x_iconst (v := 1) C dX10_readsP_49 (by decide) ?_
            refine x_goto (tgt := 54) C dX10_readsP_50 (by decide) ?_
            exact x_zret C hr rfl ⟨by cases hf; rfl, by cases hf; rfl⟩ dX10_readsP_54
theorem dX10_readsD_0 : decode cX10_readsD 0 = .ok (.aload_n 0, 1) := by decide +kernel
theorem dX10_readsD_1 : decode cX10_readsD 1 = .ok (.bipush 114, 2) := by decide +kernel
theorem dX10_readsD_3 : decode cX10_readsD 3 = .ok (.invokevirtual 182, 3) := by decide +kernel
theorem dX10_readsD_6 : decode cX10_readsD 6 = .ok (.ifCond .ne 5, 3) := by decide +kernel
theorem dX10_readsD_9 : decode cX10_readsD 9 = .ok (.iconst 0, 1) := by decide +kernel
theorem dX10_readsD_10 : decode cX10_readsD 10 = .ok (.ireturn, 1) := by decide +kernel
theorem dX10_readsD_11 : decode cX10_readsD 11 = .ok (.aload_n 0, 1) := by decide +kernel
theorem dX10_readsD_12 : decode cX10_readsD 12 = .ok (.bipush 97, 2) := by decide +kernel
theorem dX10_readsD_14 : decode cX10_readsD 14 = .ok (.invokevirtual 182, 3) := by decide +kernel
theorem dX10_readsD_17 : decode cX10_readsD 17 = .ok (.ifCond .eq 29, 3) := by decide +kernel
theorem dX10_readsD_20 : decode cX10_readsD 20 = .ok (.aload_n 0, 1) := by decide +kernel
theorem dX10_readsD_21 : decode cX10_readsD 21 = .ok (.ldc 202, 2) := by decide +kernel
theorem dX10_readsD_23 : decode cX10_readsD 23 = .ok (.invokevirtual 187, 3) := by decide +kernel
theorem dX10_readsD_26 : decode cX10_readsD 26 = .ok (.ifCond .eq 18, 3) := by decide +kernel
theorem dX10_readsD_29 : decode cX10_readsD 29 = .ok (.aload_n 0, 1) := by decide +kernel
theorem dX10_readsD_30 : decode cX10_readsD 30 = .ok (.iconst 1, 1) := by decide +kernel
theorem dX10_readsD_31 : decode cX10_readsD 31 = .ok (.iload_n 1, 1) := by decide +kernel
theorem dX10_readsD_32 : decode cX10_readsD 32 = .ok (.iconst 1, 1) := by decide +kernel
theorem dX10_readsD_33 : decode cX10_readsD 33 = .ok (.iadd, 1) := by decide +kernel
theorem dX10_readsD_34 : decode cX10_readsD 34 = .ok (.invokevirtual 191, 3) := by decide +kernel
theorem dX10_readsD_37 : decode cX10_readsD 37 = .ok (.ifCond .eq 7, 3) := by decide +kernel
theorem dX10_readsD_40 : decode cX10_readsD 40 = .ok (.iconst 1, 1) := by decide +kernel
theorem dX10_readsD_41 : decode cX10_readsD 41 = .ok (.goto 4, 3) := by decide +kernel
theorem dX10_readsD_44 : decode cX10_readsD 44 = .ok (.iconst 0, 1) := by decide +kernel
theorem dX10_readsD_45 : decode cX10_readsD 45 = .ok (.ireturn, 1) := by decide +kernel
theorem dX10_readsD_46 : decode cX10_readsD 46 = .ok (.aload_n 0, 1) := by decide +kernel
theorem dX10_readsD_47 : decode cX10_readsD 47 = .ok (.getfield 38, 3) := by decide +kernel
theorem dX10_readsD_50 : decode cX10_readsD 50 = .ok (.iload_n 1, 1) := by decide +kernel
theorem dX10_readsD_51 : decode cX10_readsD 51 = .ok (.bipush 111, 2) := by decide +kernel
theorem dX10_readsD_53 : decode cX10_readsD 53 = .ok (.iastore, 1) := by decide +kernel
theorem dX10_readsD_54 : decode cX10_readsD 54 = .ok (.aload_n 0, 1) := by decide +kernel
theorem dX10_readsD_55 : decode cX10_readsD 55 = .ok (.ldc 204, 2) := by decide +kernel
theorem dX10_readsD_57 : decode cX10_readsD 57 = .ok (.invokevirtual 187, 3) := by decide +kernel
theorem dX10_readsD_60 : decode cX10_readsD 60 = .ok (.ifCond .eq 18, 3) := by decide +kernel
theorem dX10_readsD_63 : decode cX10_readsD 63 = .ok (.aload_n 0, 1) := by decide +kernel
theorem dX10_readsD_64 : decode cX10_readsD 64 = .ok (.iconst 3, 1) := by decide +kernel
theorem dX10_readsD_65 : decode cX10_readsD 65 = .ok (.iload_n 1, 1) := by decide +kernel
theorem dX10_readsD_66 : decode cX10_readsD 66 = .ok (.iconst 1, 1) := by decide +kernel
theorem dX10_readsD_67 : decode cX10_readsD 67 = .ok (.iadd, 1) := by decide +kernel
theorem dX10_readsD_68 : decode cX10_readsD 68 = .ok (.invokevirtual 191, 3) := by decide +kernel
theorem dX10_readsD_71 : decode cX10_readsD 71 = .ok (.ifCond .eq 7, 3) := by decide +kernel
theorem dX10_readsD_74 : decode cX10_readsD 74 = .ok (.iconst 1, 1) := by decide +kernel
theorem dX10_readsD_75 : decode cX10_readsD 75 = .ok (.goto 4, 3) := by decide +kernel
theorem dX10_readsD_78 : decode cX10_readsD 78 = .ok (.iconst 0, 1) := by decide +kernel
theorem dX10_readsD_79 : decode cX10_readsD 79 = .ok (.ireturn, 1) := by decide +kernel
set_option maxHeartbeats 4000000 in
set_option maxRecDepth 100000 in
theorem c_X10_readsD (g : xG) (l : Launch) (b : Nat → Nat) (m : MdT) (tp : (Nat → Int32)) (cm : (Nat → Int32)) (x1 : Int32) {u : Int32 × MdT × (Nat → Int32)} (hf : f_X10_readsD m tp cm x1 = some u) : ConD g l yX10_readsD cX10_readsD 2 (some .boolean) ({ frames := 5, cells := 0, slots := 0, locals := 107 } : Room) [.ref (b 0), .int x1] [mdO g b m, iaW g (b 7) 60 tp, iaW g (b 8) 124 cm] (some (.int u.1)) [mdO g b u.2.1, iaW g (b 7) 60 tp, iaW g (b 8) 124 u.2.2] := by
  unfold f_X10_readsD at hf
  refine Con_of [mdO g b m, iaW g (b 7) 60 tp, iaW g (b 8) 124 cm] [(0, .ref (b 0)), (1, .int x1)] rfl rfl (by decide) (Nat.le_of_ble_eq_true rfl) ?_
  intro pW eW sW mW argsW belowW methW c9 C hnm hr
  have C : CX g RX10 cX10_readsD 2 _ pW sW mW argsW methW c9 := C
  refine x_aload_n C dX10_readsD_0 rfl 0 rfl ?_
  refine x_bipush (v := 114) C dX10_readsD_1 (by decide) ?_
  obtain ⟨u1, hu1, hf⟩ := x_b hf
  refine x_callV (n := 1) (As := [.int (114 : Int32)]) (rest := []) C (c_X10_isSign g l b m tp (114 : Int32) hu1) ⟨⟨wd_1872, wd_1869, wd_78⟩, ⟨by decide, by decide, by decide⟩, rfl, rfl, Nat.le_of_ble_eq_true rfl, Nat.le_of_ble_eq_true rfl⟩ wd_1871 wd_57 ⟨0, 11, _, _, rfl, rfl, rfl⟩ [iaW g (b 8) 124 cm] (x_pickD [0, 1, 2] 3 rfl rfl rfl) rfl rfl (Nat.le_of_ble_eq_true rfl) ⟨Nat.le_of_ble_eq_true rfl, Nat.le_of_ble_eq_true rfl⟩ dX10_readsD_3 (x_goD (wss2 := [mdO g b u1.2, iaW g (b 7) 60 tp, iaW g (b 8) 124 cm]) (stk2 := [.int u1.1]) rfl rfl ?_)
  refine x_if_ne (tgt := 11) C dX10_readsD_6 (by decide) (fun h2 => ?_) (fun h2 => ?_)
  · have hf := x_f h2 hf
    refine x_aload_n C dX10_readsD_11 rfl 0 rfl ?_
    refine x_bipush (v := 97) C dX10_readsD_12 (by decide) ?_
    obtain ⟨u3, hu3, hf⟩ := x_b hf
    refine x_callV (n := 1) (As := [.int (97 : Int32)]) (rest := []) C (c_X10_isSign g l b u1.2 tp (97 : Int32) hu3) ⟨⟨wd_1872, wd_1869, wd_78⟩, ⟨by decide, by decide, by decide⟩, rfl, rfl, Nat.le_of_ble_eq_true rfl, Nat.le_of_ble_eq_true rfl⟩ wd_1871 wd_57 ⟨0, 11, _, _, rfl, rfl, rfl⟩ [iaW g (b 8) 124 cm] (x_pickD [0, 1, 2] 3 rfl rfl rfl) rfl rfl (Nat.le_of_ble_eq_true rfl) ⟨Nat.le_of_ble_eq_true rfl, Nat.le_of_ble_eq_true rfl⟩ dX10_readsD_14 (x_goD (wss2 := [mdO g b u3.2, iaW g (b 7) 60 tp, iaW g (b 8) 124 cm]) (stk2 := [.int u3.1]) rfl rfl ?_)
    refine x_if_eq (tgt := 46) C dX10_readsD_17 (by decide) (fun h4 => ?_) (fun h4 => ?_)
    · have hf := x_t h4 hf
      refine x_aload_n C dX10_readsD_46 rfl 0 rfl ?_
      refine x_get (ci := 11) (v := .ref (b 8)) (b := mdO g b u3.2) C ixX10 rfl 14 (by decide) wd_1506 (fun _ h => h) 0 rfl 0 (mdO_at0 g b _) rfl dX10_readsD_47 ?_
      refine x_iload_n C dX10_readsD_50 rfl 1 rfl ?_
      refine x_bipush (v := 111) C dX10_readsD_51 (by decide) ?_
      obtain ⟨h5, hf⟩ := x_n hf
      refine x_iast (b := iaW g (b 8) 124 cm) (b' := iaW g (b 8) 124 (upd cm x1.toNatClampNeg (111 : Int32))) (wss' := [mdO g b u3.2, iaW g (b 7) 60 tp, iaW g (b 8) 124 (upd cm x1.toNatClampNeg (111 : Int32))]) C 2 rfl 0 (iaW_at0 g (b 8) 124 _) h5 rfl rfl dX10_readsD_53 ?_
      refine x_aload_n C dX10_readsD_54 rfl 0 rfl ?_
      refine x_ldcS (tx := "op ") C (CX_str C ("CandleConcertModel", 204, "op ", 24) (by decide)) dX10_readsD_55 ?_
      obtain ⟨u6, hu6, hf⟩ := x_b hf
      refine x_callV (n := 1) (As := [.ref (g.2.2 (300 + 24))]) (rest := []) C (c_X10_isWord g l b u3.2 tp 24 hu6) ⟨⟨wd_1866, wd_1863, wd_78⟩, ⟨by decide, by decide, by decide⟩, rfl, rfl, Nat.le_of_ble_eq_true rfl, Nat.le_of_ble_eq_true rfl⟩ wd_1865 wd_56 ⟨0, 11, _, _, rfl, rfl, rfl⟩ [iaW g (b 8) 124 (upd cm x1.toNatClampNeg (111 : Int32))] (x_pickD [0, 1, 2] 3 rfl rfl rfl) rfl rfl (Nat.le_of_ble_eq_true rfl) ⟨Nat.le_of_ble_eq_true rfl, Nat.le_of_ble_eq_true rfl⟩ dX10_readsD_57 (x_goD (wss2 := [mdO g b u6.2, iaW g (b 7) 60 tp, iaW g (b 8) 124 (upd cm x1.toNatClampNeg (111 : Int32))]) (stk2 := [.int u6.1]) rfl rfl ?_)
      refine x_if_eq (tgt := 78) C dX10_readsD_60 (by decide) (fun h7 => ?_) (fun h7 => ?_)
      · have hf := x_t h7 hf
        refine x_iconst (v := 0) C dX10_readsD_78 (by decide) ?_
        exact x_zret C hr rfl ⟨by cases hf; rfl, by cases hf; rfl⟩ dX10_readsD_79
      · have hf := x_f h7 hf
        refine x_aload_n C dX10_readsD_63 rfl 0 rfl ?_
        refine x_iconst (v := 3) C dX10_readsD_64 (by decide) ?_
        refine x_iload_n C dX10_readsD_65 rfl 1 rfl ?_
        refine x_iconst (v := 1) C dX10_readsD_66 (by decide) ?_
        refine x_iadd C dX10_readsD_67 ?_
        obtain ⟨u8, hu8, hf⟩ := x_b hf
        refine x_callV (n := 2) (As := [.int (3 : Int32), .int (x1 + (1 : Int32))]) (rest := []) C (c_X10_isNumber g l b u6.2 tp (upd cm x1.toNatClampNeg (111 : Int32)) (3 : Int32) (x1 + (1 : Int32)) hu8) ⟨⟨wd_1876, wd_1873, wd_78⟩, ⟨by decide, by decide, by decide⟩, rfl, rfl, Nat.le_of_ble_eq_true rfl, Nat.le_of_ble_eq_true rfl⟩ wd_1875 wd_58 ⟨0, 11, _, _, rfl, rfl, rfl⟩ [] (x_pickD [0, 1, 2] 3 rfl rfl rfl) rfl rfl (Nat.le_of_ble_eq_true rfl) ⟨Nat.le_of_ble_eq_true rfl, Nat.le_of_ble_eq_true rfl⟩ dX10_readsD_68 (x_goD (wss2 := [mdO g b u8.2.1, iaW g (b 7) 60 tp, iaW g (b 8) 124 u8.2.2]) (stk2 := [.int u8.1]) rfl rfl ?_)
        refine x_if_eq (tgt := 78) C dX10_readsD_71 (by decide) (fun h9 => ?_) (fun h9 => ?_)
        · have hf := x_t h9 hf
          refine x_iconst (v := 0) C dX10_readsD_78 (by decide) ?_
          exact x_zret C hr rfl ⟨by cases hf; rfl, by cases hf; rfl⟩ dX10_readsD_79
        · have hf := x_f h9 hf
          refine x_iconst (v := 1) C dX10_readsD_74 (by decide) ?_
          refine x_goto (tgt := 79) C dX10_readsD_75 (by decide) ?_
          exact x_zret C hr rfl ⟨by cases hf; rfl, by cases hf; rfl⟩ dX10_readsD_79
    · have hf := x_f h4 hf
      refine x_aload_n C dX10_readsD_20 rfl 0 rfl ?_
      refine x_ldcS (tx := "ught ") C (CX_str C ("CandleConcertModel", 202, "ught ", 23) (by decide)) dX10_readsD_21 ?_
      obtain ⟨u10, hu10, hf⟩ := x_b hf
      refine x_callV (n := 1) (As := [.ref (g.2.2 (300 + 23))]) (rest := []) C (c_X10_isWord g l b u3.2 tp 23 hu10) ⟨⟨wd_1866, wd_1863, wd_78⟩, ⟨by decide, by decide, by decide⟩, rfl, rfl, Nat.le_of_ble_eq_true rfl, Nat.le_of_ble_eq_true rfl⟩ wd_1865 wd_56 ⟨0, 11, _, _, rfl, rfl, rfl⟩ [iaW g (b 8) 124 cm] (x_pickD [0, 1, 2] 3 rfl rfl rfl) rfl rfl (Nat.le_of_ble_eq_true rfl) ⟨Nat.le_of_ble_eq_true rfl, Nat.le_of_ble_eq_true rfl⟩ dX10_readsD_23 (x_goD (wss2 := [mdO g b u10.2, iaW g (b 7) 60 tp, iaW g (b 8) 124 cm]) (stk2 := [.int u10.1]) rfl rfl ?_)
      refine x_if_eq (tgt := 44) C dX10_readsD_26 (by decide) (fun h11 => ?_) (fun h11 => ?_)
      · have hf := x_t h11 hf
        refine x_iconst (v := 0) C dX10_readsD_44 (by decide) ?_
        exact x_zret C hr rfl ⟨by cases hf; rfl, by cases hf; rfl⟩ dX10_readsD_45
      · have hf := x_f h11 hf
        refine x_aload_n C dX10_readsD_29 rfl 0 rfl ?_
        refine x_iconst (v := 1) C dX10_readsD_30 (by decide) ?_
        refine x_iload_n C dX10_readsD_31 rfl 1 rfl ?_
        refine x_iconst (v := 1) C dX10_readsD_32 (by decide) ?_
        refine x_iadd C dX10_readsD_33 ?_
        obtain ⟨u12, hu12, hf⟩ := x_b hf
        refine x_callV (n := 2) (As := [.int (1 : Int32), .int (x1 + (1 : Int32))]) (rest := []) C (c_X10_isNumber g l b u10.2 tp cm (1 : Int32) (x1 + (1 : Int32)) hu12) ⟨⟨wd_1876, wd_1873, wd_78⟩, ⟨by decide, by decide, by decide⟩, rfl, rfl, Nat.le_of_ble_eq_true rfl, Nat.le_of_ble_eq_true rfl⟩ wd_1875 wd_58 ⟨0, 11, _, _, rfl, rfl, rfl⟩ [] (x_pickD [0, 1, 2] 3 rfl rfl rfl) rfl rfl (Nat.le_of_ble_eq_true rfl) ⟨Nat.le_of_ble_eq_true rfl, Nat.le_of_ble_eq_true rfl⟩ dX10_readsD_34 (x_goD (wss2 := [mdO g b u12.2.1, iaW g (b 7) 60 tp, iaW g (b 8) 124 u12.2.2]) (stk2 := [.int u12.1]) rfl rfl ?_)
        refine x_if_eq (tgt := 44) C dX10_readsD_37 (by decide) (fun h13 => ?_) (fun h13 => ?_)
        · have hf := x_t h13 hf
          refine x_iconst (v := 0) C dX10_readsD_44 (by decide) ?_
          exact x_zret C hr rfl ⟨by cases hf; rfl, by cases hf; rfl⟩ dX10_readsD_45
        · have hf := x_f h13 hf
          refine x_iconst (v := 1) C dX10_readsD_40 (by decide) ?_
          refine x_goto (tgt := 45) C dX10_readsD_41 (by decide) ?_
          exact x_zret C hr rfl ⟨by cases hf; rfl, by cases hf; rfl⟩ dX10_readsD_45
  · have hf := x_t h2 hf
    refine x_iconst (v := 0) C dX10_readsD_9 (by decide) ?_
    exact x_zret C hr rfl ⟨by cases hf; rfl, by cases hf; rfl⟩ dX10_readsD_10
theorem dX10_readsWait_0 : decode cX10_readsWait 0 = .ok (.aload_n 0, 1) := by decide +kernel
theorem dX10_readsWait_1 : decode cX10_readsWait 1 = .ok (.getfield 38, 3) := by decide +kernel
theorem dX10_readsWait_4 : decode cX10_readsWait 4 = .ok (.iload_n 1, 1) := by decide +kernel
theorem dX10_readsWait_5 : decode cX10_readsWait 5 = .ok (.iconst 1, 1) := by decide +kernel
theorem dX10_readsWait_6 : decode cX10_readsWait 6 = .ok (.iadd, 1) := by decide +kernel
theorem dX10_readsWait_7 : decode cX10_readsWait 7 = .ok (.iconst 1, 1) := by decide +kernel
theorem dX10_readsWait_8 : decode cX10_readsWait 8 = .ok (.iastore, 1) := by decide +kernel
theorem dX10_readsWait_9 : decode cX10_readsWait 9 = .ok (.aload_n 0, 1) := by decide +kernel
theorem dX10_readsWait_10 : decode cX10_readsWait 10 = .ok (.ldc 206, 2) := by decide +kernel
theorem dX10_readsWait_12 : decode cX10_readsWait 12 = .ok (.invokevirtual 187, 3) := by decide +kernel
theorem dX10_readsWait_15 : decode cX10_readsWait 15 = .ok (.ifCond .eq 27, 3) := by decide +kernel
theorem dX10_readsWait_18 : decode cX10_readsWait 18 = .ok (.aload_n 0, 1) := by decide +kernel
theorem dX10_readsWait_19 : decode cX10_readsWait 19 = .ok (.bipush 32, 2) := by decide +kernel
theorem dX10_readsWait_21 : decode cX10_readsWait 21 = .ok (.invokevirtual 182, 3) := by decide +kernel
theorem dX10_readsWait_24 : decode cX10_readsWait 24 = .ok (.ifCond .eq 14, 3) := by decide +kernel
theorem dX10_readsWait_27 : decode cX10_readsWait 27 = .ok (.aload_n 0, 1) := by decide +kernel
theorem dX10_readsWait_28 : decode cX10_readsWait 28 = .ok (.iconst 3, 1) := by decide +kernel
theorem dX10_readsWait_29 : decode cX10_readsWait 29 = .ok (.iload_n 1, 1) := by decide +kernel
theorem dX10_readsWait_30 : decode cX10_readsWait 30 = .ok (.iconst 1, 1) := by decide +kernel
theorem dX10_readsWait_31 : decode cX10_readsWait 31 = .ok (.iadd, 1) := by decide +kernel
theorem dX10_readsWait_32 : decode cX10_readsWait 32 = .ok (.invokevirtual 191, 3) := by decide +kernel
theorem dX10_readsWait_35 : decode cX10_readsWait 35 = .ok (.ifCond .eq 7, 3) := by decide +kernel
theorem dX10_readsWait_38 : decode cX10_readsWait 38 = .ok (.iconst 1, 1) := by decide +kernel
theorem dX10_readsWait_39 : decode cX10_readsWait 39 = .ok (.goto 4, 3) := by decide +kernel
theorem dX10_readsWait_42 : decode cX10_readsWait 42 = .ok (.iconst 0, 1) := by decide +kernel
theorem dX10_readsWait_43 : decode cX10_readsWait 43 = .ok (.ireturn, 1) := by decide +kernel
set_option maxHeartbeats 4000000 in
set_option maxRecDepth 100000 in
theorem c_X10_readsWait (g : xG) (l : Launch) (b : Nat → Nat) (m : MdT) (tp : (Nat → Int32)) (cm : (Nat → Int32)) (x1 : Int32) {u : Int32 × MdT × (Nat → Int32)} (hf : f_X10_readsWait m tp cm x1 = some u) : ConD g l yX10_readsWait cX10_readsWait 2 (some .boolean) ({ frames := 5, cells := 0, slots := 0, locals := 107 } : Room) [.ref (b 0), .int x1] [mdO g b m, iaW g (b 7) 60 tp, iaW g (b 8) 124 cm] (some (.int u.1)) [mdO g b u.2.1, iaW g (b 7) 60 tp, iaW g (b 8) 124 u.2.2] := by
  unfold f_X10_readsWait at hf
  refine Con_of [mdO g b m, iaW g (b 7) 60 tp, iaW g (b 8) 124 cm] [(0, .ref (b 0)), (1, .int x1)] rfl rfl (by decide) (Nat.le_of_ble_eq_true rfl) ?_
  intro pW eW sW mW argsW belowW methW c9 C hnm hr
  have C : CX g RX10 cX10_readsWait 2 _ pW sW mW argsW methW c9 := C
  refine x_aload_n C dX10_readsWait_0 rfl 0 rfl ?_
  refine x_get (ci := 11) (v := .ref (b 8)) (b := mdO g b m) C ixX10 rfl 14 (by decide) wd_1506 (fun _ h => h) 0 rfl 0 (mdO_at0 g b _) rfl dX10_readsWait_1 ?_
  refine x_iload_n C dX10_readsWait_4 rfl 1 rfl ?_
  refine x_iconst (v := 1) C dX10_readsWait_5 (by decide) ?_
  refine x_iadd C dX10_readsWait_6 ?_
  refine x_iconst (v := 1) C dX10_readsWait_7 (by decide) ?_
  obtain ⟨h1, hf⟩ := x_n hf
  refine x_iast (b := iaW g (b 8) 124 cm) (b' := iaW g (b 8) 124 (upd cm (x1 + (1 : Int32)).toNatClampNeg (1 : Int32))) (wss' := [mdO g b m, iaW g (b 7) 60 tp, iaW g (b 8) 124 (upd cm (x1 + (1 : Int32)).toNatClampNeg (1 : Int32))]) C 2 rfl 0 (iaW_at0 g (b 8) 124 _) h1 rfl rfl dX10_readsWait_8 ?_
  refine x_aload_n C dX10_readsWait_9 rfl 0 rfl ?_
  refine x_ldcS (tx := "ait") C (CX_str C ("CandleConcertModel", 206, "ait", 25) (by decide)) dX10_readsWait_10 ?_
  obtain ⟨u2, hu2, hf⟩ := x_b hf
  refine x_callV (n := 1) (As := [.ref (g.2.2 (300 + 25))]) (rest := []) C (c_X10_isWord g l b m tp 25 hu2) ⟨⟨wd_1866, wd_1863, wd_78⟩, ⟨by decide, by decide, by decide⟩, rfl, rfl, Nat.le_of_ble_eq_true rfl, Nat.le_of_ble_eq_true rfl⟩ wd_1865 wd_56 ⟨0, 11, _, _, rfl, rfl, rfl⟩ [iaW g (b 8) 124 (upd cm (x1 + (1 : Int32)).toNatClampNeg (1 : Int32))] (x_pickD [0, 1, 2] 3 rfl rfl rfl) rfl rfl (Nat.le_of_ble_eq_true rfl) ⟨Nat.le_of_ble_eq_true rfl, Nat.le_of_ble_eq_true rfl⟩ dX10_readsWait_12 (x_goD (wss2 := [mdO g b u2.2, iaW g (b 7) 60 tp, iaW g (b 8) 124 (upd cm (x1 + (1 : Int32)).toNatClampNeg (1 : Int32))]) (stk2 := [.int u2.1]) rfl rfl ?_)
  refine x_if_eq (tgt := 42) C dX10_readsWait_15 (by decide) (fun h3 => ?_) (fun h3 => ?_)
  · have hf := x_t h3 hf
    refine x_iconst (v := 0) C dX10_readsWait_42 (by decide) ?_
    exact x_zret C hr rfl ⟨by cases hf; rfl, by cases hf; rfl⟩ dX10_readsWait_43
  · have hf := x_f h3 hf
    refine x_aload_n C dX10_readsWait_18 rfl 0 rfl ?_
    refine x_bipush (v := 32) C dX10_readsWait_19 (by decide) ?_
    obtain ⟨u4, hu4, hf⟩ := x_b hf
    refine x_callV (n := 1) (As := [.int (32 : Int32)]) (rest := []) C (c_X10_isSign g l b u2.2 tp (32 : Int32) hu4) ⟨⟨wd_1872, wd_1869, wd_78⟩, ⟨by decide, by decide, by decide⟩, rfl, rfl, Nat.le_of_ble_eq_true rfl, Nat.le_of_ble_eq_true rfl⟩ wd_1871 wd_57 ⟨0, 11, _, _, rfl, rfl, rfl⟩ [iaW g (b 8) 124 (upd cm (x1 + (1 : Int32)).toNatClampNeg (1 : Int32))] (x_pickD [0, 1, 2] 3 rfl rfl rfl) rfl rfl (Nat.le_of_ble_eq_true rfl) ⟨Nat.le_of_ble_eq_true rfl, Nat.le_of_ble_eq_true rfl⟩ dX10_readsWait_21 (x_goD (wss2 := [mdO g b u4.2, iaW g (b 7) 60 tp, iaW g (b 8) 124 (upd cm (x1 + (1 : Int32)).toNatClampNeg (1 : Int32))]) (stk2 := [.int u4.1]) rfl rfl ?_)
    refine x_if_eq (tgt := 38) C dX10_readsWait_24 (by decide) (fun h5 => ?_) (fun h5 => ?_)
    · have hf := x_t h5 hf
      refine x_iconst (v := 1) C dX10_readsWait_38 (by decide) ?_
      refine x_goto (tgt := 43) C dX10_readsWait_39 (by decide) ?_
      exact x_zret C hr rfl ⟨by cases hf; rfl, by cases hf; rfl⟩ dX10_readsWait_43
    · have hf := x_f h5 hf
      refine x_aload_n C dX10_readsWait_27 rfl 0 rfl ?_
      refine x_iconst (v := 3) C dX10_readsWait_28 (by decide) ?_
      refine x_iload_n C dX10_readsWait_29 rfl 1 rfl ?_
      refine x_iconst (v := 1) C dX10_readsWait_30 (by decide) ?_
      refine x_iadd C dX10_readsWait_31 ?_
      obtain ⟨u6, hu6, hf⟩ := x_b hf
      refine x_callV (n := 2) (As := [.int (3 : Int32), .int (x1 + (1 : Int32))]) (rest := []) C (c_X10_isNumber g l b u4.2 tp (upd cm (x1 + (1 : Int32)).toNatClampNeg (1 : Int32)) (3 : Int32) (x1 + (1 : Int32)) hu6) ⟨⟨wd_1876, wd_1873, wd_78⟩, ⟨by decide, by decide, by decide⟩, rfl, rfl, Nat.le_of_ble_eq_true rfl, Nat.le_of_ble_eq_true rfl⟩ wd_1875 wd_58 ⟨0, 11, _, _, rfl, rfl, rfl⟩ [] (x_pickD [0, 1, 2] 3 rfl rfl rfl) rfl rfl (Nat.le_of_ble_eq_true rfl) ⟨Nat.le_of_ble_eq_true rfl, Nat.le_of_ble_eq_true rfl⟩ dX10_readsWait_32 (x_goD (wss2 := [mdO g b u6.2.1, iaW g (b 7) 60 tp, iaW g (b 8) 124 u6.2.2]) (stk2 := [.int u6.1]) rfl rfl ?_)
      refine x_if_eq (tgt := 42) C dX10_readsWait_35 (by decide) (fun h7 => ?_) (fun h7 => ?_)
      · have hf := x_t h7 hf
        refine x_iconst (v := 0) C dX10_readsWait_42 (by decide) ?_
        exact x_zret C hr rfl ⟨by cases hf; rfl, by cases hf; rfl⟩ dX10_readsWait_43
      · have hf := x_f h7 hf
        refine x_iconst (v := 1) C dX10_readsWait_38 (by decide) ?_
        refine x_goto (tgt := 43) C dX10_readsWait_39 (by decide) ?_
        exact x_zret C hr rfl ⟨by cases hf; rfl, by cases hf; rfl⟩ dX10_readsWait_43
theorem wd_55 : Cond.selects yX10_readsCandle.cls yX10_readsCandle yX10_readsCandle ∈ xTB := xTB_in 55 (by decide +kernel) (by decide +kernel)
theorem wd_59 : Cond.selects yX10_readsP.cls yX10_readsP yX10_readsP ∈ xTB := xTB_in 59 (by decide +kernel) (by decide +kernel)
theorem wd_61 : Cond.selects yX10_readsD.cls yX10_readsD yX10_readsD ∈ xTB := xTB_in 61 (by decide +kernel) (by decide +kernel)
theorem wd_62 : Cond.selects yX10_readsWait.cls yX10_readsWait yX10_readsWait ∈ xTB := xTB_in 62 (by decide +kernel) (by decide +kernel)
theorem wd_1858 : Cond.methodLink RX10 208 yX10_readsCandle ∈ xTB := xTB_in 1858 (by decide +kernel) (by decide +kernel)
theorem wd_1860 : Cond.instanceMethod yX10_readsCandle ∈ xTB := xTB_in 1860 (by decide +kernel) (by decide +kernel)
theorem wd_1861 : Cond.code yX10_readsCandle cX10_readsCandle 2 (some .boolean) ∈ xTB := xTB_in 1861 (by decide +kernel) (by decide +kernel)
theorem wd_1879 : Cond.methodLink RX10 215 yX10_readsP ∈ xTB := xTB_in 1879 (by decide +kernel) (by decide +kernel)
theorem wd_1881 : Cond.instanceMethod yX10_readsP ∈ xTB := xTB_in 1881 (by decide +kernel) (by decide +kernel)
theorem wd_1882 : Cond.code yX10_readsP cX10_readsP 2 (some .boolean) ∈ xTB := xTB_in 1882 (by decide +kernel) (by decide +kernel)
theorem wd_1889 : Cond.methodLink RX10 218 yX10_readsD ∈ xTB := xTB_in 1889 (by decide +kernel) (by decide +kernel)
theorem wd_1891 : Cond.instanceMethod yX10_readsD ∈ xTB := xTB_in 1891 (by decide +kernel) (by decide +kernel)
theorem wd_1892 : Cond.code yX10_readsD cX10_readsD 2 (some .boolean) ∈ xTB := xTB_in 1892 (by decide +kernel) (by decide +kernel)
theorem wd_1895 : Cond.methodLink RX10 221 yX10_readsWait ∈ xTB := xTB_in 1895 (by decide +kernel) (by decide +kernel)
theorem wd_1897 : Cond.instanceMethod yX10_readsWait ∈ xTB := xTB_in 1897 (by decide +kernel) (by decide +kernel)
theorem wd_1898 : Cond.code yX10_readsWait cX10_readsWait 2 (some .boolean) ∈ xTB := xTB_in 1898 (by decide +kernel) (by decide +kernel)
theorem dX10_readsRest_0 : decode cX10_readsRest 0 = .ok (.iload_n 1, 1) := by decide +kernel
theorem dX10_readsRest_1 : decode cX10_readsRest 1 = .ok (.lookupswitch 121 #[(99, 51), (100, 115), (108, 57), (112, 109), (115, 83)], 51) := by decide +kernel
theorem dX10_readsRest_52 : decode cX10_readsRest 52 = .ok (.aload_n 0, 1) := by decide +kernel
theorem dX10_readsRest_53 : decode cX10_readsRest 53 = .ok (.iload_n 2, 1) := by decide +kernel
theorem dX10_readsRest_54 : decode cX10_readsRest 54 = .ok (.invokevirtual 208, 3) := by decide +kernel
theorem dX10_readsRest_57 : decode cX10_readsRest 57 = .ok (.ireturn, 1) := by decide +kernel
theorem dX10_readsRest_58 : decode cX10_readsRest 58 = .ok (.aload_n 0, 1) := by decide +kernel
theorem dX10_readsRest_59 : decode cX10_readsRest 59 = .ok (.ldc 211, 2) := by decide +kernel
theorem dX10_readsRest_61 : decode cX10_readsRest 61 = .ok (.invokevirtual 187, 3) := by decide +kernel
theorem dX10_readsRest_64 : decode cX10_readsRest 64 = .ok (.ifCond .eq 18, 3) := by decide +kernel
theorem dX10_readsRest_67 : decode cX10_readsRest 67 = .ok (.aload_n 0, 1) := by decide +kernel
theorem dX10_readsRest_68 : decode cX10_readsRest 68 = .ok (.iconst 1, 1) := by decide +kernel
theorem dX10_readsRest_69 : decode cX10_readsRest 69 = .ok (.iload_n 2, 1) := by decide +kernel
theorem dX10_readsRest_70 : decode cX10_readsRest 70 = .ok (.iconst 1, 1) := by decide +kernel
theorem dX10_readsRest_71 : decode cX10_readsRest 71 = .ok (.iadd, 1) := by decide +kernel
theorem dX10_readsRest_72 : decode cX10_readsRest 72 = .ok (.invokevirtual 191, 3) := by decide +kernel
theorem dX10_readsRest_75 : decode cX10_readsRest 75 = .ok (.ifCond .eq 7, 3) := by decide +kernel
theorem dX10_readsRest_78 : decode cX10_readsRest 78 = .ok (.iconst 1, 1) := by decide +kernel
theorem dX10_readsRest_79 : decode cX10_readsRest 79 = .ok (.goto 4, 3) := by decide +kernel
theorem dX10_readsRest_82 : decode cX10_readsRest 82 = .ok (.iconst 0, 1) := by decide +kernel
theorem dX10_readsRest_83 : decode cX10_readsRest 83 = .ok (.ireturn, 1) := by decide +kernel
theorem dX10_readsRest_84 : decode cX10_readsRest 84 = .ok (.aload_n 0, 1) := by decide +kernel
theorem dX10_readsRest_85 : decode cX10_readsRest 85 = .ok (.ldc 213, 2) := by decide +kernel
theorem dX10_readsRest_87 : decode cX10_readsRest 87 = .ok (.invokevirtual 187, 3) := by decide +kernel
theorem dX10_readsRest_90 : decode cX10_readsRest 90 = .ok (.ifCond .eq 18, 3) := by decide +kernel
theorem dX10_readsRest_93 : decode cX10_readsRest 93 = .ok (.aload_n 0, 1) := by decide +kernel
theorem dX10_readsRest_94 : decode cX10_readsRest 94 = .ok (.iconst 1, 1) := by decide +kernel
theorem dX10_readsRest_95 : decode cX10_readsRest 95 = .ok (.iload_n 2, 1) := by decide +kernel
theorem dX10_readsRest_96 : decode cX10_readsRest 96 = .ok (.iconst 1, 1) := by decide +kernel
theorem dX10_readsRest_97 : decode cX10_readsRest 97 = .ok (.iadd, 1) := by decide +kernel
theorem dX10_readsRest_98 : decode cX10_readsRest 98 = .ok (.invokevirtual 191, 3) := by decide +kernel
theorem dX10_readsRest_101 : decode cX10_readsRest 101 = .ok (.ifCond .eq 7, 3) := by decide +kernel
theorem dX10_readsRest_104 : decode cX10_readsRest 104 = .ok (.iconst 1, 1) := by decide +kernel
theorem dX10_readsRest_105 : decode cX10_readsRest 105 = .ok (.goto 4, 3) := by decide +kernel
theorem dX10_readsRest_108 : decode cX10_readsRest 108 = .ok (.iconst 0, 1) := by decide +kernel
theorem dX10_readsRest_109 : decode cX10_readsRest 109 = .ok (.ireturn, 1) := by decide +kernel
theorem dX10_readsRest_110 : decode cX10_readsRest 110 = .ok (.aload_n 0, 1) := by decide +kernel
theorem dX10_readsRest_111 : decode cX10_readsRest 111 = .ok (.iload_n 2, 1) := by decide +kernel
theorem dX10_readsRest_112 : decode cX10_readsRest 112 = .ok (.invokevirtual 215, 3) := by decide +kernel
theorem dX10_readsRest_115 : decode cX10_readsRest 115 = .ok (.ireturn, 1) := by decide +kernel
theorem dX10_readsRest_116 : decode cX10_readsRest 116 = .ok (.aload_n 0, 1) := by decide +kernel
theorem dX10_readsRest_117 : decode cX10_readsRest 117 = .ok (.iload_n 2, 1) := by decide +kernel
theorem dX10_readsRest_118 : decode cX10_readsRest 118 = .ok (.invokevirtual 218, 3) := by decide +kernel
theorem dX10_readsRest_121 : decode cX10_readsRest 121 = .ok (.ireturn, 1) := by decide +kernel
theorem dX10_readsRest_122 : decode cX10_readsRest 122 = .ok (.aload_n 0, 1) := by decide +kernel
theorem dX10_readsRest_123 : decode cX10_readsRest 123 = .ok (.iload_n 2, 1) := by decide +kernel
theorem dX10_readsRest_124 : decode cX10_readsRest 124 = .ok (.invokevirtual 221, 3) := by decide +kernel
theorem dX10_readsRest_127 : decode cX10_readsRest 127 = .ok (.ireturn, 1) := by decide +kernel
set_option maxHeartbeats 4000000 in
set_option maxRecDepth 100000 in
theorem c_X10_readsRest (g : xG) (l : Launch) (b : Nat → Nat) (m : MdT) (tp : (Nat → Int32)) (cm : (Nat → Int32)) (x1 : Int32) (x2 : Int32) {u : Int32 × MdT × (Nat → Int32)} (hf : f_X10_readsRest m tp cm x1 x2 = some u) : ConD g l yX10_readsRest cX10_readsRest 3 (some .boolean) ({ frames := 6, cells := 0, slots := 0, locals := 128 } : Room) [.ref (b 0), .int x1, .int x2] [mdO g b m, iaW g (b 7) 60 tp, iaW g (b 8) 124 cm] (some (.int u.1)) [mdO g b u.2.1, iaW g (b 7) 60 tp, iaW g (b 8) 124 u.2.2] := by
  unfold f_X10_readsRest at hf
  refine Con_of [mdO g b m, iaW g (b 7) 60 tp, iaW g (b 8) 124 cm] [(0, .ref (b 0)), (1, .int x1), (2, .int x2)] rfl rfl (by decide) (Nat.le_of_ble_eq_true rfl) ?_
  intro pW eW sW mW argsW belowW methW c9 C hnm hr
  have C : CX g RX10 cX10_readsRest 3 _ pW sW mW argsW methW c9 := C
  refine x_iload_n C dX10_readsRest_0 rfl 1 rfl ?_
  by_cases h1 : x1 = 99
  · have hf := x_t h1 hf
    refine x_lookup (off := 51) (tgt := 52) C dX10_readsRest_1 (by decide) (by rw [h1]; rfl) (by decide) ?_
    refine x_aload_n C dX10_readsRest_52 rfl 0 rfl ?_
    refine x_iload_n C dX10_readsRest_53 rfl 2 rfl ?_
    obtain ⟨u2, hu2, hf⟩ := x_b hf
    refine x_callV (n := 1) (As := [.int x2]) (rest := []) C (c_X10_readsCandle g l b m tp cm x2 hu2) ⟨⟨wd_1861, wd_1858, wd_78⟩, ⟨by decide, by decide, by decide⟩, rfl, rfl, Nat.le_of_ble_eq_true rfl, Nat.le_of_ble_eq_true rfl⟩ wd_1860 wd_55 ⟨0, 11, _, _, rfl, rfl, rfl⟩ [] (x_pickD [0, 1, 2] 3 rfl rfl rfl) rfl rfl (Nat.le_of_ble_eq_true rfl) ⟨Nat.le_of_ble_eq_true rfl, Nat.le_of_ble_eq_true rfl⟩ dX10_readsRest_54 (x_goD (wss2 := [mdO g b u2.2.1, iaW g (b 7) 60 tp, iaW g (b 8) 124 u2.2.2]) (stk2 := [.int u2.1]) rfl rfl ?_)
    obtain ⟨h3, hf⟩ := x_y hf
    exact x_zret C hr (x_narZ h3).1 ⟨by cases hf; rfl, by cases hf; rfl⟩ dX10_readsRest_57
  · have hf := x_f h1 hf
    by_cases h4 : x1 = 100
    · have hf := x_t h4 hf
      refine x_lookup (off := 115) (tgt := 116) C dX10_readsRest_1 (by decide) (by rw [h4]; rfl) (by decide) ?_
      refine x_aload_n C dX10_readsRest_116 rfl 0 rfl ?_
      refine x_iload_n C dX10_readsRest_117 rfl 2 rfl ?_
      obtain ⟨u5, hu5, hf⟩ := x_b hf
      refine x_callV (n := 1) (As := [.int x2]) (rest := []) C (c_X10_readsD g l b m tp cm x2 hu5) ⟨⟨wd_1892, wd_1889, wd_78⟩, ⟨by decide, by decide, by decide⟩, rfl, rfl, Nat.le_of_ble_eq_true rfl, Nat.le_of_ble_eq_true rfl⟩ wd_1891 wd_61 ⟨0, 11, _, _, rfl, rfl, rfl⟩ [] (x_pickD [0, 1, 2] 3 rfl rfl rfl) rfl rfl (Nat.le_of_ble_eq_true rfl) ⟨Nat.le_of_ble_eq_true rfl, Nat.le_of_ble_eq_true rfl⟩ dX10_readsRest_118 (x_goD (wss2 := [mdO g b u5.2.1, iaW g (b 7) 60 tp, iaW g (b 8) 124 u5.2.2]) (stk2 := [.int u5.1]) rfl rfl ?_)
      obtain ⟨h6, hf⟩ := x_y hf
      exact x_zret C hr (x_narZ h6).1 ⟨by cases hf; rfl, by cases hf; rfl⟩ dX10_readsRest_121
    · have hf := x_f h4 hf
      by_cases h7 : x1 = 108
      · have hf := x_t h7 hf
        refine x_lookup (off := 57) (tgt := 58) C dX10_readsRest_1 (by decide) (by rw [h7]; rfl) (by decide) ?_
        refine x_aload_n C dX10_readsRest_58 rfl 0 rfl ?_
        refine x_ldcS (tx := "ight ") C (CX_str C ("CandleConcertModel", 211, "ight ", 19) (by decide)) dX10_readsRest_59 ?_
        obtain ⟨u8, hu8, hf⟩ := x_b hf
        refine x_callV (n := 1) (As := [.ref (g.2.2 (300 + 19))]) (rest := []) C (c_X10_isWord g l b m tp 19 hu8) ⟨⟨wd_1866, wd_1863, wd_78⟩, ⟨by decide, by decide, by decide⟩, rfl, rfl, Nat.le_of_ble_eq_true rfl, Nat.le_of_ble_eq_true rfl⟩ wd_1865 wd_56 ⟨0, 11, _, _, rfl, rfl, rfl⟩ [iaW g (b 8) 124 cm] (x_pickD [0, 1, 2] 3 rfl rfl rfl) rfl rfl (Nat.le_of_ble_eq_true rfl) ⟨Nat.le_of_ble_eq_true rfl, Nat.le_of_ble_eq_true rfl⟩ dX10_readsRest_61 (x_goD (wss2 := [mdO g b u8.2, iaW g (b 7) 60 tp, iaW g (b 8) 124 cm]) (stk2 := [.int u8.1]) rfl rfl ?_)
        refine x_if_eq (tgt := 82) C dX10_readsRest_64 (by decide) (fun h9 => ?_) (fun h9 => ?_)
        · have hf := x_t h9 hf
          refine x_iconst (v := 0) C dX10_readsRest_82 (by decide) ?_
          exact x_zret C hr rfl ⟨by cases hf; rfl, by cases hf; rfl⟩ dX10_readsRest_83
        · have hf := x_f h9 hf
          refine x_aload_n C dX10_readsRest_67 rfl 0 rfl ?_
          refine x_iconst (v := 1) C dX10_readsRest_68 (by decide) ?_
          refine x_iload_n C dX10_readsRest_69 rfl 2 rfl ?_
          refine x_iconst (v := 1) C dX10_readsRest_70 (by decide) ?_
          refine x_iadd C dX10_readsRest_71 ?_
          obtain ⟨u10, hu10, hf⟩ := x_b hf
          refine x_callV (n := 2) (As := [.int (1 : Int32), .int (x2 + (1 : Int32))]) (rest := []) C (c_X10_isNumber g l b u8.2 tp cm (1 : Int32) (x2 + (1 : Int32)) hu10) ⟨⟨wd_1876, wd_1873, wd_78⟩, ⟨by decide, by decide, by decide⟩, rfl, rfl, Nat.le_of_ble_eq_true rfl, Nat.le_of_ble_eq_true rfl⟩ wd_1875 wd_58 ⟨0, 11, _, _, rfl, rfl, rfl⟩ [] (x_pickD [0, 1, 2] 3 rfl rfl rfl) rfl rfl (Nat.le_of_ble_eq_true rfl) ⟨Nat.le_of_ble_eq_true rfl, Nat.le_of_ble_eq_true rfl⟩ dX10_readsRest_72 (x_goD (wss2 := [mdO g b u10.2.1, iaW g (b 7) 60 tp, iaW g (b 8) 124 u10.2.2]) (stk2 := [.int u10.1]) rfl rfl ?_)
          refine x_if_eq (tgt := 82) C dX10_readsRest_75 (by decide) (fun h11 => ?_) (fun h11 => ?_)
          · have hf := x_t h11 hf
            refine x_iconst (v := 0) C dX10_readsRest_82 (by decide) ?_
            exact x_zret C hr rfl ⟨by cases hf; rfl, by cases hf; rfl⟩ dX10_readsRest_83
          · have hf := x_f h11 hf
            refine x_iconst (v := 1) C dX10_readsRest_78 (by decide) ?_
            refine x_goto (tgt := 83) C dX10_readsRest_79 (by decide) ?_
            exact x_zret C hr rfl ⟨by cases hf; rfl, by cases hf; rfl⟩ dX10_readsRest_83
      · have hf := x_f h7 hf
        by_cases h12 : x1 = 112
        · have hf := x_t h12 hf
          refine x_lookup (off := 109) (tgt := 110) C dX10_readsRest_1 (by decide) (by rw [h12]; rfl) (by decide) ?_
          refine x_aload_n C dX10_readsRest_110 rfl 0 rfl ?_
          refine x_iload_n C dX10_readsRest_111 rfl 2 rfl ?_
          obtain ⟨u13, hu13, hf⟩ := x_b hf
          refine x_callV (n := 1) (As := [.int x2]) (rest := []) C (c_X10_readsP g l b m tp cm x2 hu13) ⟨⟨wd_1882, wd_1879, wd_78⟩, ⟨by decide, by decide, by decide⟩, rfl, rfl, Nat.le_of_ble_eq_true rfl, Nat.le_of_ble_eq_true rfl⟩ wd_1881 wd_59 ⟨0, 11, _, _, rfl, rfl, rfl⟩ [] (x_pickD [0, 1, 2] 3 rfl rfl rfl) rfl rfl (Nat.le_of_ble_eq_true rfl) ⟨Nat.le_of_ble_eq_true rfl, Nat.le_of_ble_eq_true rfl⟩ dX10_readsRest_112 (x_goD (wss2 := [mdO g b u13.2.1, iaW g (b 7) 60 tp, iaW g (b 8) 124 u13.2.2]) (stk2 := [.int u13.1]) rfl rfl ?_)
          obtain ⟨h14, hf⟩ := x_y hf
          exact x_zret C hr (x_narZ h14).1 ⟨by cases hf; rfl, by cases hf; rfl⟩ dX10_readsRest_115
        · have hf := x_f h12 hf
          by_cases h15 : x1 = 115
          · have hf := x_t h15 hf
            refine x_lookup (off := 83) (tgt := 84) C dX10_readsRest_1 (by decide) (by rw [h15]; rfl) (by decide) ?_
            refine x_aload_n C dX10_readsRest_84 rfl 0 rfl ?_
            refine x_ldcS (tx := "nuff ") C (CX_str C ("CandleConcertModel", 213, "nuff ", 20) (by decide)) dX10_readsRest_85 ?_
            obtain ⟨u16, hu16, hf⟩ := x_b hf
            refine x_callV (n := 1) (As := [.ref (g.2.2 (300 + 20))]) (rest := []) C (c_X10_isWord g l b m tp 20 hu16) ⟨⟨wd_1866, wd_1863, wd_78⟩, ⟨by decide, by decide, by decide⟩, rfl, rfl, Nat.le_of_ble_eq_true rfl, Nat.le_of_ble_eq_true rfl⟩ wd_1865 wd_56 ⟨0, 11, _, _, rfl, rfl, rfl⟩ [iaW g (b 8) 124 cm] (x_pickD [0, 1, 2] 3 rfl rfl rfl) rfl rfl (Nat.le_of_ble_eq_true rfl) ⟨Nat.le_of_ble_eq_true rfl, Nat.le_of_ble_eq_true rfl⟩ dX10_readsRest_87 (x_goD (wss2 := [mdO g b u16.2, iaW g (b 7) 60 tp, iaW g (b 8) 124 cm]) (stk2 := [.int u16.1]) rfl rfl ?_)
            refine x_if_eq (tgt := 108) C dX10_readsRest_90 (by decide) (fun h17 => ?_) (fun h17 => ?_)
            · have hf := x_t h17 hf
              refine x_iconst (v := 0) C dX10_readsRest_108 (by decide) ?_
              exact x_zret C hr rfl ⟨by cases hf; rfl, by cases hf; rfl⟩ dX10_readsRest_109
            · have hf := x_f h17 hf
              refine x_aload_n C dX10_readsRest_93 rfl 0 rfl ?_
              refine x_iconst (v := 1) C dX10_readsRest_94 (by decide) ?_
              refine x_iload_n C dX10_readsRest_95 rfl 2 rfl ?_
              refine x_iconst (v := 1) C dX10_readsRest_96 (by decide) ?_
              refine x_iadd C dX10_readsRest_97 ?_
              obtain ⟨u18, hu18, hf⟩ := x_b hf
              refine x_callV (n := 2) (As := [.int (1 : Int32), .int (x2 + (1 : Int32))]) (rest := []) C (c_X10_isNumber g l b u16.2 tp cm (1 : Int32) (x2 + (1 : Int32)) hu18) ⟨⟨wd_1876, wd_1873, wd_78⟩, ⟨by decide, by decide, by decide⟩, rfl, rfl, Nat.le_of_ble_eq_true rfl, Nat.le_of_ble_eq_true rfl⟩ wd_1875 wd_58 ⟨0, 11, _, _, rfl, rfl, rfl⟩ [] (x_pickD [0, 1, 2] 3 rfl rfl rfl) rfl rfl (Nat.le_of_ble_eq_true rfl) ⟨Nat.le_of_ble_eq_true rfl, Nat.le_of_ble_eq_true rfl⟩ dX10_readsRest_98 (x_goD (wss2 := [mdO g b u18.2.1, iaW g (b 7) 60 tp, iaW g (b 8) 124 u18.2.2]) (stk2 := [.int u18.1]) rfl rfl ?_)
              refine x_if_eq (tgt := 108) C dX10_readsRest_101 (by decide) (fun h19 => ?_) (fun h19 => ?_)
              · have hf := x_t h19 hf
                refine x_iconst (v := 0) C dX10_readsRest_108 (by decide) ?_
                exact x_zret C hr rfl ⟨by cases hf; rfl, by cases hf; rfl⟩ dX10_readsRest_109
              · have hf := x_f h19 hf
                refine x_iconst (v := 1) C dX10_readsRest_104 (by decide) ?_
                refine x_goto (tgt := 109) C dX10_readsRest_105 (by decide) ?_
                exact x_zret C hr rfl ⟨by cases hf; rfl, by cases hf; rfl⟩ dX10_readsRest_109
          · have hf := x_f h15 hf
            refine x_lookup (off := 121) (tgt := 122) C dX10_readsRest_1 (by decide) (by rw [lv_osw h1 (by decide)]; rw [lv_osw h4 (by decide)]; rw [lv_osw h7 (by decide)]; rw [lv_osw h12 (by decide)]; rw [lv_osw h15 (by decide)]; rfl) (by decide) ?_
            refine x_aload_n C dX10_readsRest_122 rfl 0 rfl ?_
            refine x_iload_n C dX10_readsRest_123 rfl 2 rfl ?_
            obtain ⟨u20, hu20, hf⟩ := x_b hf
            refine x_callV (n := 1) (As := [.int x2]) (rest := []) C (c_X10_readsWait g l b m tp cm x2 hu20) ⟨⟨wd_1898, wd_1895, wd_78⟩, ⟨by decide, by decide, by decide⟩, rfl, rfl, Nat.le_of_ble_eq_true rfl, Nat.le_of_ble_eq_true rfl⟩ wd_1897 wd_62 ⟨0, 11, _, _, rfl, rfl, rfl⟩ [] (x_pickD [0, 1, 2] 3 rfl rfl rfl) rfl rfl (Nat.le_of_ble_eq_true rfl) ⟨Nat.le_of_ble_eq_true rfl, Nat.le_of_ble_eq_true rfl⟩ dX10_readsRest_124 (x_goD (wss2 := [mdO g b u20.2.1, iaW g (b 7) 60 tp, iaW g (b 8) 124 u20.2.2]) (stk2 := [.int u20.1]) rfl rfl ?_)
            obtain ⟨h21, hf⟩ := x_y hf
            exact x_zret C hr (x_narZ h21).1 ⟨by cases hf; rfl, by cases hf; rfl⟩ dX10_readsRest_127
theorem dX10_isFirst_0 : decode cX10_isFirst 0 = .ok (.iload_n 0, 1) := by decide +kernel
theorem dX10_isFirst_1 : decode cX10_isFirst 1 = .ok (.bipush 99, 2) := by decide +kernel
theorem dX10_isFirst_3 : decode cX10_isFirst 3 = .ok (.if_icmp .eq 33, 3) := by decide +kernel
theorem dX10_isFirst_6 : decode cX10_isFirst 6 = .ok (.iload_n 0, 1) := by decide +kernel
theorem dX10_isFirst_7 : decode cX10_isFirst 7 = .ok (.bipush 108, 2) := by decide +kernel
theorem dX10_isFirst_9 : decode cX10_isFirst 9 = .ok (.if_icmp .eq 27, 3) := by decide +kernel
theorem dX10_isFirst_12 : decode cX10_isFirst 12 = .ok (.iload_n 0, 1) := by decide +kernel
theorem dX10_isFirst_13 : decode cX10_isFirst 13 = .ok (.bipush 115, 2) := by decide +kernel
theorem dX10_isFirst_15 : decode cX10_isFirst 15 = .ok (.if_icmp .eq 21, 3) := by decide +kernel
theorem dX10_isFirst_18 : decode cX10_isFirst 18 = .ok (.iload_n 0, 1) := by decide +kernel
theorem dX10_isFirst_19 : decode cX10_isFirst 19 = .ok (.bipush 112, 2) := by decide +kernel
theorem dX10_isFirst_21 : decode cX10_isFirst 21 = .ok (.if_icmp .eq 15, 3) := by decide +kernel
theorem dX10_isFirst_24 : decode cX10_isFirst 24 = .ok (.iload_n 0, 1) := by decide +kernel
theorem dX10_isFirst_25 : decode cX10_isFirst 25 = .ok (.bipush 100, 2) := by decide +kernel
theorem dX10_isFirst_27 : decode cX10_isFirst 27 = .ok (.if_icmp .eq 9, 3) := by decide +kernel
theorem dX10_isFirst_30 : decode cX10_isFirst 30 = .ok (.iload_n 0, 1) := by decide +kernel
theorem dX10_isFirst_31 : decode cX10_isFirst 31 = .ok (.bipush 119, 2) := by decide +kernel
theorem dX10_isFirst_33 : decode cX10_isFirst 33 = .ok (.if_icmp .ne 7, 3) := by decide +kernel
theorem dX10_isFirst_36 : decode cX10_isFirst 36 = .ok (.iconst 1, 1) := by decide +kernel
theorem dX10_isFirst_37 : decode cX10_isFirst 37 = .ok (.goto 4, 3) := by decide +kernel
theorem dX10_isFirst_40 : decode cX10_isFirst 40 = .ok (.iconst 0, 1) := by decide +kernel
theorem dX10_isFirst_41 : decode cX10_isFirst 41 = .ok (.ireturn, 1) := by decide +kernel
set_option maxHeartbeats 4000000 in
set_option maxRecDepth 100000 in
theorem c_X10_isFirst (g : xG) (l : Launch)   (x0 : Int32) {u : Int32} (hf : f_X10_isFirst x0 = some u) : ConD g l yX10_isFirst cX10_isFirst 1 (some .boolean) ({ frames := 0, cells := 0, slots := 0, locals := 0 } : Room) [.int x0] [] (some (.int u)) [] := by
  unfold f_X10_isFirst at hf
  refine Con_of [] [(0, .int x0)] rfl rfl (by decide) (Nat.le_of_ble_eq_true rfl) ?_
  intro pW eW sW mW argsW belowW methW c9 C hnm hr
  have C : CX g RX10 cX10_isFirst 1 _ pW sW mW argsW methW c9 := C
  refine x_iload_n C dX10_isFirst_0 rfl 0 rfl ?_
  refine x_bipush (v := 99) C dX10_isFirst_1 (by decide) ?_
  refine x_icmp_eq (tgt := 36) C dX10_isFirst_3 (by decide) (fun h1 => ?_) (fun h1 => ?_)
  · have hf := x_t h1 hf
    refine x_iconst (v := 1) C dX10_isFirst_36 (by decide) ?_
    refine x_goto (tgt := 41) C dX10_isFirst_37 (by decide) ?_
    exact x_zret C hr rfl ⟨by cases hf; rfl, by cases hf; rfl⟩ dX10_isFirst_41
  · have hf := x_f h1 hf
    refine x_iload_n C dX10_isFirst_6 rfl 0 rfl ?_
    refine x_bipush (v := 108) C dX10_isFirst_7 (by decide) ?_
    refine x_icmp_eq (tgt := 36) C dX10_isFirst_9 (by decide) (fun h2 => ?_) (fun h2 => ?_)
    · have hf := x_t h2 hf
      refine x_iconst (v := 1) C dX10_isFirst_36 (by decide) ?_
      refine x_goto (tgt := 41) C dX10_isFirst_37 (by decide) ?_
      exact x_zret C hr rfl ⟨by cases hf; rfl, by cases hf; rfl⟩ dX10_isFirst_41
    · have hf := x_f h2 hf
      refine x_iload_n C dX10_isFirst_12 rfl 0 rfl ?_
      refine x_bipush (v := 115) C dX10_isFirst_13 (by decide) ?_
      refine x_icmp_eq (tgt := 36) C dX10_isFirst_15 (by decide) (fun h3 => ?_) (fun h3 => ?_)
      · have hf := x_t h3 hf
        refine x_iconst (v := 1) C dX10_isFirst_36 (by decide) ?_
        refine x_goto (tgt := 41) C dX10_isFirst_37 (by decide) ?_
        exact x_zret C hr rfl ⟨by cases hf; rfl, by cases hf; rfl⟩ dX10_isFirst_41
      · have hf := x_f h3 hf
        refine x_iload_n C dX10_isFirst_18 rfl 0 rfl ?_
        refine x_bipush (v := 112) C dX10_isFirst_19 (by decide) ?_
        refine x_icmp_eq (tgt := 36) C dX10_isFirst_21 (by decide) (fun h4 => ?_) (fun h4 => ?_)
        · have hf := x_t h4 hf
          refine x_iconst (v := 1) C dX10_isFirst_36 (by decide) ?_
          refine x_goto (tgt := 41) C dX10_isFirst_37 (by decide) ?_
          exact x_zret C hr rfl ⟨by cases hf; rfl, by cases hf; rfl⟩ dX10_isFirst_41
        · have hf := x_f h4 hf
          refine x_iload_n C dX10_isFirst_24 rfl 0 rfl ?_
          refine x_bipush (v := 100) C dX10_isFirst_25 (by decide) ?_
          refine x_icmp_eq (tgt := 36) C dX10_isFirst_27 (by decide) (fun h5 => ?_) (fun h5 => ?_)
          · have hf := x_t h5 hf
            refine x_iconst (v := 1) C dX10_isFirst_36 (by decide) ?_
            refine x_goto (tgt := 41) C dX10_isFirst_37 (by decide) ?_
            exact x_zret C hr rfl ⟨by cases hf; rfl, by cases hf; rfl⟩ dX10_isFirst_41
          · have hf := x_f h5 hf
            refine x_iload_n C dX10_isFirst_30 rfl 0 rfl ?_
            refine x_bipush (v := 119) C dX10_isFirst_31 (by decide) ?_
            refine x_icmp_ne (tgt := 40) C dX10_isFirst_33 (by decide) (fun h6 => ?_) (fun h6 => ?_)
            · have hf := x_f h6 hf
              refine x_iconst (v := 0) C dX10_isFirst_40 (by decide) ?_
              exact x_zret C hr rfl ⟨by cases hf; rfl, by cases hf; rfl⟩ dX10_isFirst_41
            · have hf := x_t h6 hf
              refine x_iconst (v := 1) C dX10_isFirst_36 (by decide) ?_
              refine x_goto (tgt := 41) C dX10_isFirst_37 (by decide) ?_
              exact x_zret C hr rfl ⟨by cases hf; rfl, by cases hf; rfl⟩ dX10_isFirst_41
theorem wd_54 : Cond.selects yX10_readsRest.cls yX10_readsRest yX10_readsRest ∈ xTB := xTB_in 54 (by decide +kernel) (by decide +kernel)
theorem wd_1509 : Cond.fieldLink RX10 224 "CandleConcertModel" "commandMany" "I" ∈ xTB := xTB_in 1509 (by decide +kernel) (by decide +kernel)
theorem wd_1851 : Cond.methodLink RX10 227 yX10_isFirst ∈ xTB := xTB_in 1851 (by decide +kernel) (by decide +kernel)
theorem wd_1852 : Cond.static yX10_isFirst ∈ xTB := xTB_in 1852 (by decide +kernel) (by decide +kernel)
theorem wd_1853 : Cond.code yX10_isFirst cX10_isFirst 1 (some .boolean) ∈ xTB := xTB_in 1853 (by decide +kernel) (by decide +kernel)
theorem wd_1854 : Cond.methodLink RX10 230 yX10_readsRest ∈ xTB := xTB_in 1854 (by decide +kernel) (by decide +kernel)
theorem wd_1856 : Cond.instanceMethod yX10_readsRest ∈ xTB := xTB_in 1856 (by decide +kernel) (by decide +kernel)
theorem wd_1857 : Cond.code yX10_readsRest cX10_readsRest 3 (some .boolean) ∈ xTB := xTB_in 1857 (by decide +kernel) (by decide +kernel)
theorem dX10_readsCommand_0 : decode cX10_readsCommand 0 = .ok (.iconst 4, 1) := by decide +kernel
theorem dX10_readsCommand_1 : decode cX10_readsCommand 1 = .ok (.aload_n 0, 1) := by decide +kernel
theorem dX10_readsCommand_2 : decode cX10_readsCommand 2 = .ok (.getfield 224, 3) := by decide +kernel
theorem dX10_readsCommand_5 : decode cX10_readsCommand 5 = .ok (.imul, 1) := by decide +kernel
theorem dX10_readsCommand_6 : decode cX10_readsCommand 6 = .ok (.istore_n 1, 1) := by decide +kernel
theorem dX10_readsCommand_7 : decode cX10_readsCommand 7 = .ok (.aload_n 0, 1) := by decide +kernel
theorem dX10_readsCommand_8 : decode cX10_readsCommand 8 = .ok (.invokevirtual 170, 3) := by decide +kernel
theorem dX10_readsCommand_11 : decode cX10_readsCommand 11 = .ok (.istore_n 2, 1) := by decide +kernel
theorem dX10_readsCommand_12 : decode cX10_readsCommand 12 = .ok (.iload_n 2, 1) := by decide +kernel
theorem dX10_readsCommand_13 : decode cX10_readsCommand 13 = .ok (.invokestatic 227, 3) := by decide +kernel
theorem dX10_readsCommand_16 : decode cX10_readsCommand 16 = .ok (.ifCond .ne 5, 3) := by decide +kernel
theorem dX10_readsCommand_19 : decode cX10_readsCommand 19 = .ok (.iconst 0, 1) := by decide +kernel
theorem dX10_readsCommand_20 : decode cX10_readsCommand 20 = .ok (.ireturn, 1) := by decide +kernel
theorem dX10_readsCommand_21 : decode cX10_readsCommand 21 = .ok (.aload_n 0, 1) := by decide +kernel
theorem dX10_readsCommand_22 : decode cX10_readsCommand 22 = .ok (.getfield 38, 3) := by decide +kernel
theorem dX10_readsCommand_25 : decode cX10_readsCommand 25 = .ok (.iload_n 1, 1) := by decide +kernel
theorem dX10_readsCommand_26 : decode cX10_readsCommand 26 = .ok (.iload_n 2, 1) := by decide +kernel
theorem dX10_readsCommand_27 : decode cX10_readsCommand 27 = .ok (.iastore, 1) := by decide +kernel
theorem dX10_readsCommand_28 : decode cX10_readsCommand 28 = .ok (.aload_n 0, 1) := by decide +kernel
theorem dX10_readsCommand_29 : decode cX10_readsCommand 29 = .ok (.dup, 1) := by decide +kernel
theorem dX10_readsCommand_30 : decode cX10_readsCommand 30 = .ok (.getfield 167, 3) := by decide +kernel
theorem dX10_readsCommand_33 : decode cX10_readsCommand 33 = .ok (.iconst 1, 1) := by decide +kernel
theorem dX10_readsCommand_34 : decode cX10_readsCommand 34 = .ok (.iadd, 1) := by decide +kernel
theorem dX10_readsCommand_35 : decode cX10_readsCommand 35 = .ok (.putfield 167, 3) := by decide +kernel
theorem dX10_readsCommand_38 : decode cX10_readsCommand 38 = .ok (.aload_n 0, 1) := by decide +kernel
theorem dX10_readsCommand_39 : decode cX10_readsCommand 39 = .ok (.dup, 1) := by decide +kernel
theorem dX10_readsCommand_40 : decode cX10_readsCommand 40 = .ok (.getfield 224, 3) := by decide +kernel
theorem dX10_readsCommand_43 : decode cX10_readsCommand 43 = .ok (.iconst 1, 1) := by decide +kernel
theorem dX10_readsCommand_44 : decode cX10_readsCommand 44 = .ok (.iadd, 1) := by decide +kernel
theorem dX10_readsCommand_45 : decode cX10_readsCommand 45 = .ok (.putfield 224, 3) := by decide +kernel
theorem dX10_readsCommand_48 : decode cX10_readsCommand 48 = .ok (.aload_n 0, 1) := by decide +kernel
theorem dX10_readsCommand_49 : decode cX10_readsCommand 49 = .ok (.iload_n 2, 1) := by decide +kernel
theorem dX10_readsCommand_50 : decode cX10_readsCommand 50 = .ok (.iload_n 1, 1) := by decide +kernel
theorem dX10_readsCommand_51 : decode cX10_readsCommand 51 = .ok (.invokevirtual 230, 3) := by decide +kernel
theorem dX10_readsCommand_54 : decode cX10_readsCommand 54 = .ok (.ireturn, 1) := by decide +kernel
set_option maxHeartbeats 4000000 in
set_option maxRecDepth 100000 in
theorem c_X10_readsCommand (g : xG) (l : Launch) (b : Nat → Nat) (m : MdT) (tp : (Nat → Int32)) (cm : (Nat → Int32))  {u : Int32 × MdT × (Nat → Int32)} (hf : f_X10_readsCommand m tp cm = some u) : ConD g l yX10_readsCommand cX10_readsCommand 3 (some .boolean) ({ frames := 7, cells := 0, slots := 0, locals := 150 } : Room) [.ref (b 0)] [mdO g b m, iaW g (b 7) 60 tp, iaW g (b 8) 124 cm] (some (.int u.1)) [mdO g b u.2.1, iaW g (b 7) 60 tp, iaW g (b 8) 124 u.2.2] := by
  unfold f_X10_readsCommand at hf
  refine Con_of [mdO g b m, iaW g (b 7) 60 tp, iaW g (b 8) 124 cm] [(0, .ref (b 0))] rfl rfl (by decide) (Nat.le_of_ble_eq_true rfl) ?_
  intro pW eW sW mW argsW belowW methW c9 C hnm hr
  have C : CX g RX10 cX10_readsCommand 3 _ pW sW mW argsW methW c9 := C
  refine x_iconst (v := 4) C dX10_readsCommand_0 (by decide) ?_
  refine x_aload_n C dX10_readsCommand_1 rfl 0 rfl ?_
  refine x_get (ci := 11) (v := .int m.2.2.2.2.2.2.2.2.2) (b := mdO g b m) C ixX10 rfl 17 (by decide) wd_1509 (fun _ h => h) 0 rfl 0 (mdO_at0 g b _) rfl dX10_readsCommand_2 ?_
  refine x_imul C dX10_readsCommand_5 ?_
  refine x_istore_n (lv' := [(1, .int ((4 : Int32) * m.2.2.2.2.2.2.2.2.2)), (0, .ref (b 0))]) C dX10_readsCommand_6 rfl (by decide) rfl ?_
  refine x_aload_n C dX10_readsCommand_7 rfl 1 rfl ?_
  obtain ⟨u1, hu1, hf⟩ := x_b hf
  refine x_callV (n := 0) (As := []) (rest := []) C (c_X10_now g l b m tp hu1) ⟨⟨wd_1850, wd_1847, wd_78⟩, ⟨by decide, by decide, by decide⟩, rfl, rfl, Nat.le_of_ble_eq_true rfl, Nat.le_of_ble_eq_true rfl⟩ wd_1849 wd_53 ⟨0, 11, _, _, rfl, rfl, rfl⟩ [iaW g (b 8) 124 cm] (x_pickD [0, 1, 2] 3 rfl rfl rfl) rfl rfl (Nat.le_of_ble_eq_true rfl) ⟨Nat.le_of_ble_eq_true rfl, Nat.le_of_ble_eq_true rfl⟩ dX10_readsCommand_8 (x_goD (wss2 := [mdO g b m, iaW g (b 7) 60 tp, iaW g (b 8) 124 cm]) (stk2 := [.int u1]) rfl rfl ?_)
  refine x_istore_n (lv' := [(2, .int u1), (1, .int ((4 : Int32) * m.2.2.2.2.2.2.2.2.2)), (0, .ref (b 0))]) C dX10_readsCommand_11 rfl (by decide) rfl ?_
  refine x_iload_n C dX10_readsCommand_12 rfl 0 rfl ?_
  obtain ⟨u2, hu2, hf⟩ := x_b hf
  refine x_callS (n := 1) (As := [.int u1]) (rest := []) C (c_X10_isFirst g l u1 hu2) ⟨⟨wd_1853, wd_1851, wd_78⟩, ⟨by decide, by decide, by decide⟩, rfl, rfl, Nat.le_of_ble_eq_true rfl, Nat.le_of_ble_eq_true rfl⟩ wd_1852 [mdO g b m, iaW g (b 7) 60 tp, iaW g (b 8) 124 cm] (x_pickD [0, 1, 2] 3 rfl rfl rfl) rfl rfl (Nat.le_of_ble_eq_true rfl) ⟨Nat.le_of_ble_eq_true rfl, Nat.le_of_ble_eq_true rfl⟩ dX10_readsCommand_13 (x_goD (wss2 := [mdO g b m, iaW g (b 7) 60 tp, iaW g (b 8) 124 cm]) (stk2 := [.int u2]) rfl rfl ?_)
  refine x_if_ne (tgt := 21) C dX10_readsCommand_16 (by decide) (fun h3 => ?_) (fun h3 => ?_)
  · have hf := x_f h3 hf
    refine x_aload_n C dX10_readsCommand_21 rfl 2 rfl ?_
    refine x_get (ci := 11) (v := .ref (b 8)) (b := mdO g b m) C ixX10 rfl 14 (by decide) wd_1506 (fun _ h => h) 0 rfl 0 (mdO_at0 g b _) rfl dX10_readsCommand_22 ?_
    refine x_iload_n C dX10_readsCommand_25 rfl 1 rfl ?_
    refine x_iload_n C dX10_readsCommand_26 rfl 0 rfl ?_
    obtain ⟨h4, hf⟩ := x_n hf
    refine x_iast (b := iaW g (b 8) 124 cm) (b' := iaW g (b 8) 124 (upd cm ((4 : Int32) * m.2.2.2.2.2.2.2.2.2).toNatClampNeg u1)) (wss' := [mdO g b m, iaW g (b 7) 60 tp, iaW g (b 8) 124 (upd cm ((4 : Int32) * m.2.2.2.2.2.2.2.2.2).toNatClampNeg u1)]) C 2 rfl 0 (iaW_at0 g (b 8) 124 _) h4 rfl rfl dX10_readsCommand_27 ?_
    refine x_aload_n C dX10_readsCommand_28 rfl 2 rfl ?_
    refine x_dup C dX10_readsCommand_29 rfl ?_
    refine x_get (ci := 11) (v := .int m.2.2.2.2.2.2.2.2.1) (b := mdO g b m) C ixX10 rfl 16 (by decide) wd_1508 (fun _ h => h) 0 rfl 0 (mdO_at0 g b _) rfl dX10_readsCommand_30 ?_
    refine x_iconst (v := 1) C dX10_readsCommand_33 (by decide) ?_
    refine x_iadd C dX10_readsCommand_34 ?_
    refine x_put (ci := 11) (ty := .int) (v := .int (m.2.2.2.2.2.2.2.2.1 + (1 : Int32))) (b := mdO g b m) (b' := mdO g b (m.1, m.2.1, m.2.2.1, m.2.2.2.1, m.2.2.2.2.1, m.2.2.2.2.2.1, m.2.2.2.2.2.2.1, m.2.2.2.2.2.2.2.1, m.2.2.2.2.2.2.2.2.1 + (1 : Int32), m.2.2.2.2.2.2.2.2.2)) (wss' := [mdO g b (m.1, m.2.1, m.2.2.1, m.2.2.2.1, m.2.2.2.2.1, m.2.2.2.2.2.1, m.2.2.2.2.2.2.1, m.2.2.2.2.2.2.2.1, m.2.2.2.2.2.2.2.2.1 + (1 : Int32), m.2.2.2.2.2.2.2.2.2), iaW g (b 7) 60 tp, iaW g (b 8) 124 (upd cm ((4 : Int32) * m.2.2.2.2.2.2.2.2.2).toNatClampNeg u1)]) C ixX10 tyX10 tyX10_ok nmX10 rfl 16 (by decide) wd_1508 (fun _ h => h) rfl (tyX10_ok 16 (by decide)) rfl rfl 0 rfl 0 (mdO_at0 g b _) (Nat.le_of_ble_eq_true rfl) rfl rfl dX10_readsCommand_35 ?_
    refine x_aload_n C dX10_readsCommand_38 rfl 2 rfl ?_
    refine x_dup C dX10_readsCommand_39 rfl ?_
    refine x_get (ci := 11) (v := .int m.2.2.2.2.2.2.2.2.2) (b := mdO g b (m.1, m.2.1, m.2.2.1, m.2.2.2.1, m.2.2.2.2.1, m.2.2.2.2.2.1, m.2.2.2.2.2.2.1, m.2.2.2.2.2.2.2.1, m.2.2.2.2.2.2.2.2.1 + (1 : Int32), m.2.2.2.2.2.2.2.2.2)) C ixX10 rfl 17 (by decide) wd_1509 (fun _ h => h) 0 rfl 0 (mdO_at0 g b _) rfl dX10_readsCommand_40 ?_
    refine x_iconst (v := 1) C dX10_readsCommand_43 (by decide) ?_
    refine x_iadd C dX10_readsCommand_44 ?_
    refine x_put (ci := 11) (ty := .int) (v := .int (m.2.2.2.2.2.2.2.2.2 + (1 : Int32))) (b := mdO g b (m.1, m.2.1, m.2.2.1, m.2.2.2.1, m.2.2.2.2.1, m.2.2.2.2.2.1, m.2.2.2.2.2.2.1, m.2.2.2.2.2.2.2.1, m.2.2.2.2.2.2.2.2.1 + (1 : Int32), m.2.2.2.2.2.2.2.2.2)) (b' := mdO g b (m.1, m.2.1, m.2.2.1, m.2.2.2.1, m.2.2.2.2.1, m.2.2.2.2.2.1, m.2.2.2.2.2.2.1, m.2.2.2.2.2.2.2.1, m.2.2.2.2.2.2.2.2.1 + (1 : Int32), m.2.2.2.2.2.2.2.2.2 + (1 : Int32))) (wss' := [mdO g b (m.1, m.2.1, m.2.2.1, m.2.2.2.1, m.2.2.2.2.1, m.2.2.2.2.2.1, m.2.2.2.2.2.2.1, m.2.2.2.2.2.2.2.1, m.2.2.2.2.2.2.2.2.1 + (1 : Int32), m.2.2.2.2.2.2.2.2.2 + (1 : Int32)), iaW g (b 7) 60 tp, iaW g (b 8) 124 (upd cm ((4 : Int32) * m.2.2.2.2.2.2.2.2.2).toNatClampNeg u1)]) C ixX10 tyX10 tyX10_ok nmX10 rfl 17 (by decide) wd_1509 (fun _ h => h) rfl (tyX10_ok 17 (by decide)) rfl rfl 0 rfl 0 (mdO_at0 g b _) (Nat.le_of_ble_eq_true rfl) rfl rfl dX10_readsCommand_45 ?_
    refine x_aload_n C dX10_readsCommand_48 rfl 2 rfl ?_
    refine x_iload_n C dX10_readsCommand_49 rfl 0 rfl ?_
    refine x_iload_n C dX10_readsCommand_50 rfl 1 rfl ?_
    obtain ⟨u5, hu5, hf⟩ := x_b hf
    refine x_callV (n := 2) (As := [.int u1, .int ((4 : Int32) * m.2.2.2.2.2.2.2.2.2)]) (rest := []) C (c_X10_readsRest g l b (m.1, m.2.1, m.2.2.1, m.2.2.2.1, m.2.2.2.2.1, m.2.2.2.2.2.1, m.2.2.2.2.2.2.1, m.2.2.2.2.2.2.2.1, m.2.2.2.2.2.2.2.2.1 + (1 : Int32), m.2.2.2.2.2.2.2.2.2 + (1 : Int32)) tp (upd cm ((4 : Int32) * m.2.2.2.2.2.2.2.2.2).toNatClampNeg u1) u1 ((4 : Int32) * m.2.2.2.2.2.2.2.2.2) hu5) ⟨⟨wd_1857, wd_1854, wd_78⟩, ⟨by decide, by decide, by decide⟩, rfl, rfl, Nat.le_of_ble_eq_true rfl, Nat.le_of_ble_eq_true rfl⟩ wd_1856 wd_54 ⟨0, 11, _, _, rfl, rfl, rfl⟩ [] (x_pickD [0, 1, 2] 3 rfl rfl rfl) rfl rfl (Nat.le_of_ble_eq_true rfl) ⟨Nat.le_of_ble_eq_true rfl, Nat.le_of_ble_eq_true rfl⟩ dX10_readsCommand_51 (x_goD (wss2 := [mdO g b u5.2.1, iaW g (b 7) 60 tp, iaW g (b 8) 124 u5.2.2]) (stk2 := [.int u5.1]) rfl rfl ?_)
    obtain ⟨h6, hf⟩ := x_y hf
    exact x_zret C hr (x_narZ h6).1 ⟨by cases hf; rfl, by cases hf; rfl⟩ dX10_readsCommand_54
  · have hf := x_t h3 hf
    refine x_iconst (v := 0) C dX10_readsCommand_19 (by decide) ?_
    exact x_zret C hr rfl ⟨by cases hf; rfl, by cases hf; rfl⟩ dX10_readsCommand_20
theorem wd_52 : Cond.selects yX10_readsCommand.cls yX10_readsCommand yX10_readsCommand ∈ xTB := xTB_in 52 (by decide +kernel) (by decide +kernel)
theorem wd_1843 : Cond.methodLink RX10 233 yX10_readsCommand ∈ xTB := xTB_in 1843 (by decide +kernel) (by decide +kernel)
theorem wd_1845 : Cond.instanceMethod yX10_readsCommand ∈ xTB := xTB_in 1845 (by decide +kernel) (by decide +kernel)
theorem wd_1846 : Cond.code yX10_readsCommand cX10_readsCommand 3 (some .boolean) ∈ xTB := xTB_in 1846 (by decide +kernel) (by decide +kernel)
theorem dX10_isProgram_0 : decode cX10_isProgram 0 = .ok (.aload_n 0, 1) := by decide +kernel
theorem dX10_isProgram_1 : decode cX10_isProgram 1 = .ok (.iconst 0, 1) := by decide +kernel
theorem dX10_isProgram_2 : decode cX10_isProgram 2 = .ok (.putfield 167, 3) := by decide +kernel
theorem dX10_isProgram_5 : decode cX10_isProgram 5 = .ok (.aload_n 0, 1) := by decide +kernel
theorem dX10_isProgram_6 : decode cX10_isProgram 6 = .ok (.iconst 0, 1) := by decide +kernel
theorem dX10_isProgram_7 : decode cX10_isProgram 7 = .ok (.putfield 224, 3) := by decide +kernel
theorem dX10_isProgram_10 : decode cX10_isProgram 10 = .ok (.aload_n 0, 1) := by decide +kernel
theorem dX10_isProgram_11 : decode cX10_isProgram 11 = .ok (.invokevirtual 233, 3) := by decide +kernel
theorem dX10_isProgram_14 : decode cX10_isProgram 14 = .ok (.istore_n 1, 1) := by decide +kernel
theorem dX10_isProgram_15 : decode cX10_isProgram 15 = .ok (.iload_n 1, 1) := by decide +kernel
theorem dX10_isProgram_16 : decode cX10_isProgram 16 = .ok (.ifCond .eq 20, 3) := by decide +kernel
theorem dX10_isProgram_19 : decode cX10_isProgram 19 = .ok (.aload_n 0, 1) := by decide +kernel
theorem dX10_isProgram_20 : decode cX10_isProgram 20 = .ok (.bipush 59, 2) := by decide +kernel
theorem dX10_isProgram_22 : decode cX10_isProgram 22 = .ok (.invokevirtual 182, 3) := by decide +kernel
theorem dX10_isProgram_25 : decode cX10_isProgram 25 = .ok (.ifCond .eq 11, 3) := by decide +kernel
theorem dX10_isProgram_28 : decode cX10_isProgram 28 = .ok (.aload_n 0, 1) := by decide +kernel
theorem dX10_isProgram_29 : decode cX10_isProgram 29 = .ok (.invokevirtual 233, 3) := by decide +kernel
theorem dX10_isProgram_32 : decode cX10_isProgram 32 = .ok (.istore_n 1, 1) := by decide +kernel
theorem dX10_isProgram_33 : decode cX10_isProgram 33 = .ok (.goto (-18), 3) := by decide +kernel
theorem dX10_isProgram_36 : decode cX10_isProgram 36 = .ok (.iload_n 1, 1) := by decide +kernel
theorem dX10_isProgram_37 : decode cX10_isProgram 37 = .ok (.ifCond .eq 18, 3) := by decide +kernel
theorem dX10_isProgram_40 : decode cX10_isProgram 40 = .ok (.aload_n 0, 1) := by decide +kernel
theorem dX10_isProgram_41 : decode cX10_isProgram 41 = .ok (.getfield 167, 3) := by decide +kernel
theorem dX10_isProgram_44 : decode cX10_isProgram 44 = .ok (.aload_n 0, 1) := by decide +kernel
theorem dX10_isProgram_45 : decode cX10_isProgram 45 = .ok (.getfield 164, 3) := by decide +kernel
theorem dX10_isProgram_48 : decode cX10_isProgram 48 = .ok (.if_icmp .ne 7, 3) := by decide +kernel
theorem dX10_isProgram_51 : decode cX10_isProgram 51 = .ok (.iconst 1, 1) := by decide +kernel
theorem dX10_isProgram_52 : decode cX10_isProgram 52 = .ok (.goto 4, 3) := by decide +kernel
theorem dX10_isProgram_55 : decode cX10_isProgram 55 = .ok (.iconst 0, 1) := by decide +kernel
theorem dX10_isProgram_56 : decode cX10_isProgram 56 = .ok (.ireturn, 1) := by decide +kernel
set_option maxHeartbeats 4000000 in
set_option maxRecDepth 100000 in
theorem c_X10_isProgram (g : xG) (l : Launch) (b : Nat → Nat) (m : MdT) (tp : (Nat → Int32)) (cm : (Nat → Int32))  {u : Int32 × MdT × (Nat → Int32)} (hf : f_X10_isProgram m tp cm = some u) : ConD g l yX10_isProgram cX10_isProgram 2 (some .boolean) ({ frames := 8, cells := 0, slots := 0, locals := 172 } : Room) [.ref (b 0)] [mdO g b m, iaW g (b 7) 60 tp, iaW g (b 8) 124 cm] (some (.int u.1)) [mdO g b u.2.1, iaW g (b 7) 60 tp, iaW g (b 8) 124 u.2.2] := by
  unfold f_X10_isProgram at hf
  refine Con_of [mdO g b m, iaW g (b 7) 60 tp, iaW g (b 8) 124 cm] [(0, .ref (b 0))] rfl rfl (by decide) (Nat.le_of_ble_eq_true rfl) ?_
  intro pW eW sW mW argsW belowW methW c9 C hnm hr
  have C : CX g RX10 cX10_isProgram 2 _ pW sW mW argsW methW c9 := C
  have hL36 : ∀ (mL : MdT) (cmL : (Nat → Int32)) (x1 : Int32), f_X10_isProgram_36 mL tp cmL x1 = some u → VW g (va_A ([mdO g b m, iaW g (b 7) 60 tp, iaW g (b 8) 124 cm] : List va_W).flatten sW.heap.size) 2 pW l eW ({ frames := 8, cells := 0, slots := 0, locals := 172 } : Room) sW mW argsW belowW methW c9 0 0 (MQ belowW (xQc g ([mdO g b m, iaW g (b 7) 60 tp, iaW g (b 8) 124 cm] : List va_W).flatten sW.heap.size (fun v9 w9 => v9 = some (.int u.1) ∧ w9 = ([mdO g b u.2.1, iaW g (b 7) 60 tp, iaW g (b 8) 124 u.2.2] : List va_W).flatten)) argsW sW 0 0 (va_A ([mdO g b m, iaW g (b 7) 60 tp, iaW g (b 8) 124 cm] : List va_W).flatten sW.heap.size)) [mdO g b mL, iaW g (b 7) 60 tp, iaW g (b 8) 124 cmL] [(0, .ref (b 0)), (1, .int x1)] 36 [] := by
    intro mL cmL x1 hf
    unfold f_X10_isProgram_36 at hf
    refine x_iload_n C dX10_isProgram_36 rfl 1 rfl ?_
    refine x_if_eq (tgt := 55) C dX10_isProgram_37 (by decide) (fun h1 => ?_) (fun h1 => ?_)
    · have hf := x_t h1 hf
      refine x_iconst (v := 0) C dX10_isProgram_55 (by decide) ?_
      exact x_zret C hr rfl ⟨by cases hf; rfl, by cases hf; rfl⟩ dX10_isProgram_56
    · have hf := x_f h1 hf
      refine x_aload_n C dX10_isProgram_40 rfl 0 rfl ?_
      refine x_get (ci := 11) (v := .int mL.2.2.2.2.2.2.2.2.1) (b := mdO g b mL) C ixX10 rfl 16 (by decide) wd_1508 (fun _ h => h) 0 rfl 0 (mdO_at0 g b _) rfl dX10_isProgram_41 ?_
      refine x_aload_n C dX10_isProgram_44 rfl 0 rfl ?_
      refine x_get (ci := 11) (v := .int mL.2.2.2.2.2.2.2.1) (b := mdO g b mL) C ixX10 rfl 15 (by decide) wd_1507 (fun _ h => h) 0 rfl 0 (mdO_at0 g b _) rfl dX10_isProgram_45 ?_
      refine x_icmp_ne (tgt := 55) C dX10_isProgram_48 (by decide) (fun h2 => ?_) (fun h2 => ?_)
      · have hf := x_f h2 hf
        refine x_iconst (v := 0) C dX10_isProgram_55 (by decide) ?_
        exact x_zret C hr rfl ⟨by cases hf; rfl, by cases hf; rfl⟩ dX10_isProgram_56
      · have hf := x_t h2 hf
        refine x_iconst (v := 1) C dX10_isProgram_51 (by decide) ?_
        refine x_goto (tgt := 56) C dX10_isProgram_52 (by decide) ?_
        exact x_zret C hr rfl ⟨by cases hf; rfl, by cases hf; rfl⟩ dX10_isProgram_56
  have hL15 : ∀ (nW : Nat) (mL : MdT) (cmL : (Nat → Int32)) (x1 : Int32), f_X10_isProgram_15 nW mL tp cmL x1 = some u → VW g (va_A ([mdO g b m, iaW g (b 7) 60 tp, iaW g (b 8) 124 cm] : List va_W).flatten sW.heap.size) 2 pW l eW ({ frames := 8, cells := 0, slots := 0, locals := 172 } : Room) sW mW argsW belowW methW c9 0 0 (MQ belowW (xQc g ([mdO g b m, iaW g (b 7) 60 tp, iaW g (b 8) 124 cm] : List va_W).flatten sW.heap.size (fun v9 w9 => v9 = some (.int u.1) ∧ w9 = ([mdO g b u.2.1, iaW g (b 7) 60 tp, iaW g (b 8) 124 u.2.2] : List va_W).flatten)) argsW sW 0 0 (va_A ([mdO g b m, iaW g (b 7) 60 tp, iaW g (b 8) 124 cm] : List va_W).flatten sW.heap.size)) [mdO g b mL, iaW g (b 7) 60 tp, iaW g (b 8) 124 cmL] [(0, .ref (b 0)), (1, .int x1)] 15 [] := by
    intro nW
    induction nW with
    | zero => intro mL cmL x1 hf; rw [f_X10_isProgram_15] at hf; cases hf
    | succ nW ih =>
      intro mL cmL x1 hf
      rw [f_X10_isProgram_15] at hf
      refine x_iload_n C dX10_isProgram_15 rfl 1 rfl ?_
      refine x_if_eq (tgt := 36) C dX10_isProgram_16 (by decide) (fun h1 => ?_) (fun h1 => ?_)
      · have hf := x_t h1 hf
        exact hL36 mL cmL x1 hf
      · have hf := x_f h1 hf
        refine x_aload_n C dX10_isProgram_19 rfl 0 rfl ?_
        refine x_bipush (v := 59) C dX10_isProgram_20 (by decide) ?_
        obtain ⟨u2, hu2, hf⟩ := x_b hf
        refine x_callV (n := 1) (As := [.int (59 : Int32)]) (rest := []) C (c_X10_isSign g l b mL tp (59 : Int32) hu2) ⟨⟨wd_1872, wd_1869, wd_78⟩, ⟨by decide, by decide, by decide⟩, rfl, rfl, Nat.le_of_ble_eq_true rfl, Nat.le_of_ble_eq_true rfl⟩ wd_1871 wd_57 ⟨0, 11, _, _, rfl, rfl, rfl⟩ [iaW g (b 8) 124 cmL] (x_pickD [0, 1, 2] 3 rfl rfl rfl) rfl rfl (Nat.le_of_ble_eq_true rfl) ⟨Nat.le_of_ble_eq_true rfl, Nat.le_of_ble_eq_true rfl⟩ dX10_isProgram_22 (x_goD (wss2 := [mdO g b u2.2, iaW g (b 7) 60 tp, iaW g (b 8) 124 cmL]) (stk2 := [.int u2.1]) rfl rfl ?_)
        refine x_if_eq (tgt := 36) C dX10_isProgram_25 (by decide) (fun h3 => ?_) (fun h3 => ?_)
        · have hf := x_t h3 hf
          exact hL36 u2.2 cmL x1 hf
        · have hf := x_f h3 hf
          refine x_aload_n C dX10_isProgram_28 rfl 0 rfl ?_
          obtain ⟨u4, hu4, hf⟩ := x_b hf
          refine x_callV (n := 0) (As := []) (rest := []) C (c_X10_readsCommand g l b u2.2 tp cmL hu4) ⟨⟨wd_1846, wd_1843, wd_78⟩, ⟨by decide, by decide, by decide⟩, rfl, rfl, Nat.le_of_ble_eq_true rfl, Nat.le_of_ble_eq_true rfl⟩ wd_1845 wd_52 ⟨0, 11, _, _, rfl, rfl, rfl⟩ [] (x_pickD [0, 1, 2] 3 rfl rfl rfl) rfl rfl (Nat.le_of_ble_eq_true rfl) ⟨Nat.le_of_ble_eq_true rfl, Nat.le_of_ble_eq_true rfl⟩ dX10_isProgram_29 (x_goD (wss2 := [mdO g b u4.2.1, iaW g (b 7) 60 tp, iaW g (b 8) 124 u4.2.2]) (stk2 := [.int u4.1]) rfl rfl ?_)
          refine x_istore_n (lv' := [(1, .int u4.1), (0, .ref (b 0))]) C dX10_isProgram_32 rfl (by decide) rfl ?_
          refine x_goto (tgt := 15) C dX10_isProgram_33 (by decide) ?_
          refine x_locals (lv' := [(0, .ref (b 0)), (1, .int u4.1)]) [1, 0] rfl ?_
          exact ih u4.2.1 u4.2.2 u4.1 hf
  refine x_aload_n C dX10_isProgram_0 rfl 0 rfl ?_
  refine x_iconst (v := 0) C dX10_isProgram_1 (by decide) ?_
  refine x_put (ci := 11) (ty := .int) (v := .int (0 : Int32)) (b := mdO g b m) (b' := mdO g b (m.1, m.2.1, m.2.2.1, m.2.2.2.1, m.2.2.2.2.1, m.2.2.2.2.2.1, m.2.2.2.2.2.2.1, m.2.2.2.2.2.2.2.1, (0 : Int32), m.2.2.2.2.2.2.2.2.2)) (wss' := [mdO g b (m.1, m.2.1, m.2.2.1, m.2.2.2.1, m.2.2.2.2.1, m.2.2.2.2.2.1, m.2.2.2.2.2.2.1, m.2.2.2.2.2.2.2.1, (0 : Int32), m.2.2.2.2.2.2.2.2.2), iaW g (b 7) 60 tp, iaW g (b 8) 124 cm]) C ixX10 tyX10 tyX10_ok nmX10 rfl 16 (by decide) wd_1508 (fun _ h => h) rfl (tyX10_ok 16 (by decide)) rfl rfl 0 rfl 0 (mdO_at0 g b _) (Nat.le_of_ble_eq_true rfl) rfl rfl dX10_isProgram_2 ?_
  refine x_aload_n C dX10_isProgram_5 rfl 0 rfl ?_
  refine x_iconst (v := 0) C dX10_isProgram_6 (by decide) ?_
  refine x_put (ci := 11) (ty := .int) (v := .int (0 : Int32)) (b := mdO g b (m.1, m.2.1, m.2.2.1, m.2.2.2.1, m.2.2.2.2.1, m.2.2.2.2.2.1, m.2.2.2.2.2.2.1, m.2.2.2.2.2.2.2.1, (0 : Int32), m.2.2.2.2.2.2.2.2.2)) (b' := mdO g b (m.1, m.2.1, m.2.2.1, m.2.2.2.1, m.2.2.2.2.1, m.2.2.2.2.2.1, m.2.2.2.2.2.2.1, m.2.2.2.2.2.2.2.1, (0 : Int32), (0 : Int32))) (wss' := [mdO g b (m.1, m.2.1, m.2.2.1, m.2.2.2.1, m.2.2.2.2.1, m.2.2.2.2.2.1, m.2.2.2.2.2.2.1, m.2.2.2.2.2.2.2.1, (0 : Int32), (0 : Int32)), iaW g (b 7) 60 tp, iaW g (b 8) 124 cm]) C ixX10 tyX10 tyX10_ok nmX10 rfl 17 (by decide) wd_1509 (fun _ h => h) rfl (tyX10_ok 17 (by decide)) rfl rfl 0 rfl 0 (mdO_at0 g b _) (Nat.le_of_ble_eq_true rfl) rfl rfl dX10_isProgram_7 ?_
  refine x_aload_n C dX10_isProgram_10 rfl 0 rfl ?_
  obtain ⟨u1, hu1, hf⟩ := x_b hf
  refine x_callV (n := 0) (As := []) (rest := []) C (c_X10_readsCommand g l b (m.1, m.2.1, m.2.2.1, m.2.2.2.1, m.2.2.2.2.1, m.2.2.2.2.2.1, m.2.2.2.2.2.2.1, m.2.2.2.2.2.2.2.1, (0 : Int32), (0 : Int32)) tp cm hu1) ⟨⟨wd_1846, wd_1843, wd_78⟩, ⟨by decide, by decide, by decide⟩, rfl, rfl, Nat.le_of_ble_eq_true rfl, Nat.le_of_ble_eq_true rfl⟩ wd_1845 wd_52 ⟨0, 11, _, _, rfl, rfl, rfl⟩ [] (x_pickD [0, 1, 2] 3 rfl rfl rfl) rfl rfl (Nat.le_of_ble_eq_true rfl) ⟨Nat.le_of_ble_eq_true rfl, Nat.le_of_ble_eq_true rfl⟩ dX10_isProgram_11 (x_goD (wss2 := [mdO g b u1.2.1, iaW g (b 7) 60 tp, iaW g (b 8) 124 u1.2.2]) (stk2 := [.int u1.1]) rfl rfl ?_)
  refine x_istore_n (lv' := [(1, .int u1.1), (0, .ref (b 0))]) C dX10_isProgram_14 rfl (by decide) rfl ?_
  refine x_locals (lv' := [(0, .ref (b 0)), (1, .int u1.1)]) [1, 0] rfl ?_
  exact hL15 xFuel u1.2.1 u1.2.2 u1.1 hf
theorem dX10_does_0 : decode cX10_does 0 = .ok (.aload_n 0, 1) := by decide +kernel
theorem dX10_does_1 : decode cX10_does 1 = .ok (.getfield 38, 3) := by decide +kernel
theorem dX10_does_4 : decode cX10_does 4 = .ok (.iload_n 1, 1) := by decide +kernel
theorem dX10_does_5 : decode cX10_does 5 = .ok (.iconst 1, 1) := by decide +kernel
theorem dX10_does_6 : decode cX10_does 6 = .ok (.iadd, 1) := by decide +kernel
theorem dX10_does_7 : decode cX10_does 7 = .ok (.iaload, 1) := by decide +kernel
theorem dX10_does_8 : decode cX10_does 8 = .ok (.istore_n 2, 1) := by decide +kernel
theorem dX10_does_9 : decode cX10_does 9 = .ok (.aload_n 0, 1) := by decide +kernel
theorem dX10_does_10 : decode cX10_does 10 = .ok (.getfield 38, 3) := by decide +kernel
theorem dX10_does_13 : decode cX10_does 13 = .ok (.iload_n 1, 1) := by decide +kernel
theorem dX10_does_14 : decode cX10_does 14 = .ok (.iconst 2, 1) := by decide +kernel
theorem dX10_does_15 : decode cX10_does 15 = .ok (.iadd, 1) := by decide +kernel
theorem dX10_does_16 : decode cX10_does 16 = .ok (.iaload, 1) := by decide +kernel
theorem dX10_does_17 : decode cX10_does 17 = .ok (.istore_n 3, 1) := by decide +kernel
theorem dX10_does_18 : decode cX10_does 18 = .ok (.aload_n 0, 1) := by decide +kernel
theorem dX10_does_19 : decode cX10_does 19 = .ok (.getfield 38, 3) := by decide +kernel
theorem dX10_does_22 : decode cX10_does 22 = .ok (.iload_n 1, 1) := by decide +kernel
theorem dX10_does_23 : decode cX10_does 23 = .ok (.iconst 3, 1) := by decide +kernel
theorem dX10_does_24 : decode cX10_does 24 = .ok (.iadd, 1) := by decide +kernel
theorem dX10_does_25 : decode cX10_does 25 = .ok (.iaload, 1) := by decide +kernel
theorem dX10_does_26 : decode cX10_does 26 = .ok (.istore 4, 2) := by decide +kernel
theorem dX10_does_28 : decode cX10_does 28 = .ok (.aload_n 0, 1) := by decide +kernel
theorem dX10_does_29 : decode cX10_does 29 = .ok (.getfield 38, 3) := by decide +kernel
theorem dX10_does_32 : decode cX10_does 32 = .ok (.iload_n 1, 1) := by decide +kernel
theorem dX10_does_33 : decode cX10_does 33 = .ok (.iaload, 1) := by decide +kernel
theorem dX10_does_34 : decode cX10_does 34 = .ok (.tableswitch 131 99 115 #[82, 119, 131, 131, 131, 131, 131, 131, 131, 91, 131, 110, 125, 103, 131, 131, 97], 82) := by decide +kernel
theorem dX10_does_116 : decode cX10_does 116 = .ok (.aload_n 0, 1) := by decide +kernel
theorem dX10_does_117 : decode cX10_does 117 = .ok (.iload_n 2, 1) := by decide +kernel
theorem dX10_does_118 : decode cX10_does 118 = .ok (.iload_n 3, 1) := by decide +kernel
theorem dX10_does_119 : decode cX10_does 119 = .ok (.iload 4, 2) := by decide +kernel
theorem dX10_does_121 : decode cX10_does 121 = .ok (.invokevirtual 74, 3) := by decide +kernel
theorem dX10_does_124 : decode cX10_does 124 = .ok (.ireturn, 1) := by decide +kernel
theorem dX10_does_125 : decode cX10_does 125 = .ok (.aload_n 0, 1) := by decide +kernel
theorem dX10_does_126 : decode cX10_does 126 = .ok (.iload_n 2, 1) := by decide +kernel
theorem dX10_does_127 : decode cX10_does 127 = .ok (.invokevirtual 89, 3) := by decide +kernel
theorem dX10_does_130 : decode cX10_does 130 = .ok (.ireturn, 1) := by decide +kernel
theorem dX10_does_131 : decode cX10_does 131 = .ok (.aload_n 0, 1) := by decide +kernel
theorem dX10_does_132 : decode cX10_does 132 = .ok (.iload_n 2, 1) := by decide +kernel
theorem dX10_does_133 : decode cX10_does 133 = .ok (.invokevirtual 92, 3) := by decide +kernel
theorem dX10_does_136 : decode cX10_does 136 = .ok (.ireturn, 1) := by decide +kernel
theorem dX10_does_137 : decode cX10_does 137 = .ok (.aload_n 0, 1) := by decide +kernel
theorem dX10_does_138 : decode cX10_does 138 = .ok (.iload_n 2, 1) := by decide +kernel
theorem dX10_does_139 : decode cX10_does 139 = .ok (.iload_n 3, 1) := by decide +kernel
theorem dX10_does_140 : decode cX10_does 140 = .ok (.invokevirtual 95, 3) := by decide +kernel
theorem dX10_does_143 : decode cX10_does 143 = .ok (.ireturn, 1) := by decide +kernel
theorem dX10_does_144 : decode cX10_does 144 = .ok (.aload_n 0, 1) := by decide +kernel
theorem dX10_does_145 : decode cX10_does 145 = .ok (.iload_n 2, 1) := by decide +kernel
theorem dX10_does_146 : decode cX10_does 146 = .ok (.iload_n 3, 1) := by decide +kernel
theorem dX10_does_147 : decode cX10_does 147 = .ok (.iload 4, 2) := by decide +kernel
theorem dX10_does_149 : decode cX10_does 149 = .ok (.invokevirtual 104, 3) := by decide +kernel
theorem dX10_does_152 : decode cX10_does 152 = .ok (.ireturn, 1) := by decide +kernel
theorem dX10_does_153 : decode cX10_does 153 = .ok (.aload_n 0, 1) := by decide +kernel
theorem dX10_does_154 : decode cX10_does 154 = .ok (.iload_n 2, 1) := by decide +kernel
theorem dX10_does_155 : decode cX10_does 155 = .ok (.invokevirtual 98, 3) := by decide +kernel
theorem dX10_does_158 : decode cX10_does 158 = .ok (.ireturn, 1) := by decide +kernel
theorem dX10_does_159 : decode cX10_does 159 = .ok (.aload_n 0, 1) := by decide +kernel
theorem dX10_does_160 : decode cX10_does 160 = .ok (.iload_n 2, 1) := by decide +kernel
theorem dX10_does_161 : decode cX10_does 161 = .ok (.invokevirtual 114, 3) := by decide +kernel
theorem dX10_does_164 : decode cX10_does 164 = .ok (.ireturn, 1) := by decide +kernel
theorem dX10_does_165 : decode cX10_does 165 = .ok (.aload_n 0, 1) := by decide +kernel
theorem dX10_does_166 : decode cX10_does 166 = .ok (.iload_n 2, 1) := by decide +kernel
theorem dX10_does_167 : decode cX10_does 167 = .ok (.invokevirtual 133, 3) := by decide +kernel
theorem dX10_does_170 : decode cX10_does 170 = .ok (.ireturn, 1) := by decide +kernel
set_option maxHeartbeats 4000000 in
set_option maxRecDepth 100000 in
theorem c_X10_does (g : xG) (l : Launch) (b : Nat → Nat) (m : MdT) (s : (Nat → Int32)) (cm : (Nat → Int32)) (x1 : Int32) {u : Int32 × MdT × (Nat → Int32)} (hf : f_X10_does m s cm x1 = some u) : ConD g l yX10_does cX10_does 5 (some .int) ({ frames := 5, cells := 0, slots := 0, locals := 111 } : Room) [.ref (b 0), .int x1] [mdO g b m, iaW g (b 1) 110 s, iaW g (b 8) 124 cm] (some (.int u.1)) [mdO g b u.2.1, iaW g (b 1) 110 u.2.2, iaW g (b 8) 124 cm] := by
  unfold f_X10_does at hf
  refine Con_of [mdO g b m, iaW g (b 1) 110 s, iaW g (b 8) 124 cm] [(0, .ref (b 0)), (1, .int x1)] rfl rfl (by decide) (Nat.le_of_ble_eq_true rfl) ?_
  intro pW eW sW mW argsW belowW methW c9 C hnm hr
  have C : CX g RX10 cX10_does 5 _ pW sW mW argsW methW c9 := C
  refine x_aload_n C dX10_does_0 rfl 0 rfl ?_
  refine x_get (ci := 11) (v := .ref (b 8)) (b := mdO g b m) C ixX10 rfl 14 (by decide) wd_1506 (fun _ h => h) 0 rfl 0 (mdO_at0 g b _) rfl dX10_does_1 ?_
  refine x_iload_n C dX10_does_4 rfl 1 rfl ?_
  refine x_iconst (v := 1) C dX10_does_5 (by decide) ?_
  refine x_iadd C dX10_does_6 ?_
  obtain ⟨h1, hf⟩ := x_n hf
  refine x_iald (b := iaW g (b 8) 124 cm) C 2 rfl 0 (iaW_at0 g (b 8) 124 _) h1 dX10_does_7 ?_
  refine x_istore_n (lv' := [(2, .int (cm (x1 + (1 : Int32)).toNatClampNeg)), (0, .ref (b 0)), (1, .int x1)]) C dX10_does_8 rfl (by decide) rfl ?_
  refine x_aload_n C dX10_does_9 rfl 1 rfl ?_
  refine x_get (ci := 11) (v := .ref (b 8)) (b := mdO g b m) C ixX10 rfl 14 (by decide) wd_1506 (fun _ h => h) 0 rfl 0 (mdO_at0 g b _) rfl dX10_does_10 ?_
  refine x_iload_n C dX10_does_13 rfl 2 rfl ?_
  refine x_iconst (v := 2) C dX10_does_14 (by decide) ?_
  refine x_iadd C dX10_does_15 ?_
  obtain ⟨h2, hf⟩ := x_n hf
  refine x_iald (b := iaW g (b 8) 124 cm) C 2 rfl 0 (iaW_at0 g (b 8) 124 _) h2 dX10_does_16 ?_
  refine x_istore_n (lv' := [(3, .int (cm (x1 + (2 : Int32)).toNatClampNeg)), (2, .int (cm (x1 + (1 : Int32)).toNatClampNeg)), (0, .ref (b 0)), (1, .int x1)]) C dX10_does_17 rfl (by decide) rfl ?_
  refine x_aload_n C dX10_does_18 rfl 2 rfl ?_
  refine x_get (ci := 11) (v := .ref (b 8)) (b := mdO g b m) C ixX10 rfl 14 (by decide) wd_1506 (fun _ h => h) 0 rfl 0 (mdO_at0 g b _) rfl dX10_does_19 ?_
  refine x_iload_n C dX10_does_22 rfl 3 rfl ?_
  refine x_iconst (v := 3) C dX10_does_23 (by decide) ?_
  refine x_iadd C dX10_does_24 ?_
  obtain ⟨h3, hf⟩ := x_n hf
  refine x_iald (b := iaW g (b 8) 124 cm) C 2 rfl 0 (iaW_at0 g (b 8) 124 _) h3 dX10_does_25 ?_
  refine x_istore (lv' := [(4, .int (cm (x1 + (3 : Int32)).toNatClampNeg)), (3, .int (cm (x1 + (2 : Int32)).toNatClampNeg)), (2, .int (cm (x1 + (1 : Int32)).toNatClampNeg)), (0, .ref (b 0)), (1, .int x1)]) C dX10_does_26 (by decide) rfl ?_
  refine x_aload_n C dX10_does_28 rfl 3 rfl ?_
  refine x_get (ci := 11) (v := .ref (b 8)) (b := mdO g b m) C ixX10 rfl 14 (by decide) wd_1506 (fun _ h => h) 0 rfl 0 (mdO_at0 g b _) rfl dX10_does_29 ?_
  refine x_iload_n C dX10_does_32 rfl 4 rfl ?_
  obtain ⟨h4, hf⟩ := x_n hf
  refine x_iald (b := iaW g (b 8) 124 cm) C 2 rfl 0 (iaW_at0 g (b 8) 124 _) h4 dX10_does_33 ?_
  by_cases h5 : (cm x1.toNatClampNeg) = 99
  · have hf := x_t h5 hf
    refine x_tableIn (off := 82) (tgt := 116) C dX10_does_34 (by rw [h5]; decide) (by rw [h5]; decide) (by rw [h5]; rfl) (by decide) ?_
    refine x_aload_n C dX10_does_116 rfl 3 rfl ?_
    refine x_iload_n C dX10_does_117 rfl 2 rfl ?_
    refine x_iload_n C dX10_does_118 rfl 1 rfl ?_
    refine x_iload C dX10_does_119 0 rfl ?_
    obtain ⟨u6, hu6, hf⟩ := x_b hf
    refine x_callV (n := 3) (As := [.int (cm (x1 + (1 : Int32)).toNatClampNeg), .int (cm (x1 + (2 : Int32)).toNatClampNeg), .int (cm (x1 + (3 : Int32)).toNatClampNeg)]) (rest := []) C (c_X10_adds g l b m s (cm (x1 + (1 : Int32)).toNatClampNeg) (cm (x1 + (2 : Int32)).toNatClampNeg) (cm (x1 + (3 : Int32)).toNatClampNeg) hu6) ⟨⟨wd_1565, wd_1562, wd_78⟩, ⟨by decide, by decide, by decide⟩, rfl, rfl, Nat.le_of_ble_eq_true rfl, Nat.le_of_ble_eq_true rfl⟩ wd_1564 wd_25 ⟨0, 11, _, _, rfl, rfl, rfl⟩ [iaW g (b 8) 124 cm] (x_pickD [0, 1, 2] 3 rfl rfl rfl) rfl rfl (Nat.le_of_ble_eq_true rfl) ⟨Nat.le_of_ble_eq_true rfl, Nat.le_of_ble_eq_true rfl⟩ dX10_does_121 (x_goD (wss2 := [mdO g b u6.2.1, iaW g (b 1) 110 u6.2.2, iaW g (b 8) 124 cm]) (stk2 := [.int u6.1]) rfl rfl ?_)
    exact x_iret C hr ⟨by cases hf; rfl, by cases hf; rfl⟩ dX10_does_124
  · have hf := x_f h5 hf
    by_cases h7 : (cm x1.toNatClampNeg) = 100
    · have hf := x_t h7 hf
      refine x_tableIn (off := 119) (tgt := 153) C dX10_does_34 (by rw [h7]; decide) (by rw [h7]; decide) (by rw [h7]; rfl) (by decide) ?_
      refine x_aload_n C dX10_does_153 rfl 3 rfl ?_
      refine x_iload_n C dX10_does_154 rfl 2 rfl ?_
      obtain ⟨u8, hu8, hf⟩ := x_b hf
      refine x_callV (n := 1) (As := [.int (cm (x1 + (1 : Int32)).toNatClampNeg)]) (rest := []) C (c_X10_draws g l b m s (cm (x1 + (1 : Int32)).toNatClampNeg) hu8) ⟨⟨wd_1627, wd_1624, wd_78⟩, ⟨by decide, by decide, by decide⟩, rfl, rfl, Nat.le_of_ble_eq_true rfl, Nat.le_of_ble_eq_true rfl⟩ wd_1626 wd_35 ⟨0, 11, _, _, rfl, rfl, rfl⟩ [iaW g (b 8) 124 cm] (x_pickD [0, 1, 2] 3 rfl rfl rfl) rfl rfl (Nat.le_of_ble_eq_true rfl) ⟨Nat.le_of_ble_eq_true rfl, Nat.le_of_ble_eq_true rfl⟩ dX10_does_155 (x_goD (wss2 := [mdO g b u8.2.1, iaW g (b 1) 110 u8.2.2, iaW g (b 8) 124 cm]) (stk2 := [.int u8.1]) rfl rfl ?_)
      exact x_iret C hr ⟨by cases hf; rfl, by cases hf; rfl⟩ dX10_does_158
    · have hf := x_f h7 hf
      by_cases h9 : (cm x1.toNatClampNeg) = 108
      · have hf := x_t h9 hf
        refine x_tableIn (off := 91) (tgt := 125) C dX10_does_34 (by rw [h9]; decide) (by rw [h9]; decide) (by rw [h9]; rfl) (by decide) ?_
        refine x_aload_n C dX10_does_125 rfl 3 rfl ?_
        refine x_iload_n C dX10_does_126 rfl 2 rfl ?_
        obtain ⟨u10, hu10, hf⟩ := x_b hf
        refine x_callV (n := 1) (As := [.int (cm (x1 + (1 : Int32)).toNatClampNeg)]) (rest := []) C (c_X10_lights g l b m s (cm (x1 + (1 : Int32)).toNatClampNeg) hu10) ⟨⟨wd_1591, wd_1588, wd_78⟩, ⟨by decide, by decide, by decide⟩, rfl, rfl, Nat.le_of_ble_eq_true rfl, Nat.le_of_ble_eq_true rfl⟩ wd_1590 wd_29 ⟨0, 11, _, _, rfl, rfl, rfl⟩ [iaW g (b 8) 124 cm] (x_pickD [0, 1, 2] 3 rfl rfl rfl) rfl rfl (Nat.le_of_ble_eq_true rfl) ⟨Nat.le_of_ble_eq_true rfl, Nat.le_of_ble_eq_true rfl⟩ dX10_does_127 (x_goD (wss2 := [mdO g b u10.2.1, iaW g (b 1) 110 u10.2.2, iaW g (b 8) 124 cm]) (stk2 := [.int u10.1]) rfl rfl ?_)
        exact x_iret C hr ⟨by cases hf; rfl, by cases hf; rfl⟩ dX10_does_130
      · have hf := x_f h9 hf
        by_cases h11 : (cm x1.toNatClampNeg) = 110
        · have hf := x_t h11 hf
          refine x_tableIn (off := 110) (tgt := 144) C dX10_does_34 (by rw [h11]; decide) (by rw [h11]; decide) (by rw [h11]; rfl) (by decide) ?_
          refine x_aload_n C dX10_does_144 rfl 3 rfl ?_
          refine x_iload_n C dX10_does_145 rfl 2 rfl ?_
          refine x_iload_n C dX10_does_146 rfl 1 rfl ?_
          refine x_iload C dX10_does_147 0 rfl ?_
          obtain ⟨u12, hu12, hf⟩ := x_b hf
          refine x_callV (n := 3) (As := [.int (cm (x1 + (1 : Int32)).toNatClampNeg), .int (cm (x1 + (2 : Int32)).toNatClampNeg), .int (cm (x1 + (3 : Int32)).toNatClampNeg)]) (rest := []) C (c_X10_plans g l b m s (cm (x1 + (1 : Int32)).toNatClampNeg) (cm (x1 + (2 : Int32)).toNatClampNeg) (cm (x1 + (3 : Int32)).toNatClampNeg) hu12) ⟨⟨wd_1635, wd_1632, wd_78⟩, ⟨by decide, by decide, by decide⟩, rfl, rfl, Nat.le_of_ble_eq_true rfl, Nat.le_of_ble_eq_true rfl⟩ wd_1634 wd_36 ⟨0, 11, _, _, rfl, rfl, rfl⟩ [iaW g (b 8) 124 cm] (x_pickD [0, 1, 2] 3 rfl rfl rfl) rfl rfl (Nat.le_of_ble_eq_true rfl) ⟨Nat.le_of_ble_eq_true rfl, Nat.le_of_ble_eq_true rfl⟩ dX10_does_149 (x_goD (wss2 := [mdO g b u12.2.1, iaW g (b 1) 110 u12.2.2, iaW g (b 8) 124 cm]) (stk2 := [.int u12.1]) rfl rfl ?_)
          exact x_iret C hr ⟨by cases hf; rfl, by cases hf; rfl⟩ dX10_does_152
        · have hf := x_f h11 hf
          by_cases h13 : (cm x1.toNatClampNeg) = 111
          · have hf := x_t h13 hf
            refine x_tableIn (off := 125) (tgt := 159) C dX10_does_34 (by rw [h13]; decide) (by rw [h13]; decide) (by rw [h13]; rfl) (by decide) ?_
            refine x_aload_n C dX10_does_159 rfl 3 rfl ?_
            refine x_iload_n C dX10_does_160 rfl 2 rfl ?_
            obtain ⟨u14, hu14, hf⟩ := x_b hf
            refine x_callV (n := 1) (As := [.int (cm (x1 + (1 : Int32)).toNatClampNeg)]) (rest := []) C (c_X10_drops g l b m s (cm (x1 + (1 : Int32)).toNatClampNeg) hu14) ⟨⟨wd_1647, wd_1644, wd_78⟩, ⟨by decide, by decide, by decide⟩, rfl, rfl, Nat.le_of_ble_eq_true rfl, Nat.le_of_ble_eq_true rfl⟩ wd_1646 wd_38 ⟨0, 11, _, _, rfl, rfl, rfl⟩ [iaW g (b 8) 124 cm] (x_pickD [0, 1, 2] 3 rfl rfl rfl) rfl rfl (Nat.le_of_ble_eq_true rfl) ⟨Nat.le_of_ble_eq_true rfl, Nat.le_of_ble_eq_true rfl⟩ dX10_does_161 (x_goD (wss2 := [mdO g b u14.2.1, iaW g (b 1) 110 u14.2.2, iaW g (b 8) 124 cm]) (stk2 := [.int u14.1]) rfl rfl ?_)
            exact x_iret C hr ⟨by cases hf; rfl, by cases hf; rfl⟩ dX10_does_164
          · have hf := x_f h13 hf
            by_cases h15 : (cm x1.toNatClampNeg) = 112
            · have hf := x_t h15 hf
              refine x_tableIn (off := 103) (tgt := 137) C dX10_does_34 (by rw [h15]; decide) (by rw [h15]; decide) (by rw [h15]; rfl) (by decide) ?_
              refine x_aload_n C dX10_does_137 rfl 3 rfl ?_
              refine x_iload_n C dX10_does_138 rfl 2 rfl ?_
              refine x_iload_n C dX10_does_139 rfl 1 rfl ?_
              obtain ⟨u16, hu16, hf⟩ := x_b hf
              refine x_callV (n := 2) (As := [.int (cm (x1 + (1 : Int32)).toNatClampNeg), .int (cm (x1 + (2 : Int32)).toNatClampNeg)]) (rest := []) C (c_X10_pours g l b m s (cm (x1 + (1 : Int32)).toNatClampNeg) (cm (x1 + (2 : Int32)).toNatClampNeg) hu16) ⟨⟨wd_1619, wd_1616, wd_78⟩, ⟨by decide, by decide, by decide⟩, rfl, rfl, Nat.le_of_ble_eq_true rfl, Nat.le_of_ble_eq_true rfl⟩ wd_1618 wd_34 ⟨0, 11, _, _, rfl, rfl, rfl⟩ [iaW g (b 8) 124 cm] (x_pickD [0, 1, 2] 3 rfl rfl rfl) rfl rfl (Nat.le_of_ble_eq_true rfl) ⟨Nat.le_of_ble_eq_true rfl, Nat.le_of_ble_eq_true rfl⟩ dX10_does_140 (x_goD (wss2 := [mdO g b u16.2.1, iaW g (b 1) 110 u16.2.2, iaW g (b 8) 124 cm]) (stk2 := [.int u16.1]) rfl rfl ?_)
              exact x_iret C hr ⟨by cases hf; rfl, by cases hf; rfl⟩ dX10_does_143
            · have hf := x_f h15 hf
              by_cases h17 : (cm x1.toNatClampNeg) = 115
              · have hf := x_t h17 hf
                refine x_tableIn (off := 97) (tgt := 131) C dX10_does_34 (by rw [h17]; decide) (by rw [h17]; decide) (by rw [h17]; rfl) (by decide) ?_
                refine x_aload_n C dX10_does_131 rfl 3 rfl ?_
                refine x_iload_n C dX10_does_132 rfl 2 rfl ?_
                obtain ⟨u18, hu18, hf⟩ := x_b hf
                refine x_callV (n := 1) (As := [.int (cm (x1 + (1 : Int32)).toNatClampNeg)]) (rest := []) C (c_X10_snuffs g l b m s (cm (x1 + (1 : Int32)).toNatClampNeg) hu18) ⟨⟨wd_1611, wd_1608, wd_78⟩, ⟨by decide, by decide, by decide⟩, rfl, rfl, Nat.le_of_ble_eq_true rfl, Nat.le_of_ble_eq_true rfl⟩ wd_1610 wd_33 ⟨0, 11, _, _, rfl, rfl, rfl⟩ [iaW g (b 8) 124 cm] (x_pickD [0, 1, 2] 3 rfl rfl rfl) rfl rfl (Nat.le_of_ble_eq_true rfl) ⟨Nat.le_of_ble_eq_true rfl, Nat.le_of_ble_eq_true rfl⟩ dX10_does_133 (x_goD (wss2 := [mdO g b u18.2.1, iaW g (b 1) 110 u18.2.2, iaW g (b 8) 124 cm]) (stk2 := [.int u18.1]) rfl rfl ?_)
                exact x_iret C hr ⟨by cases hf; rfl, by cases hf; rfl⟩ dX10_does_136
              · have hf := x_f h17 hf
                by_cases h20 : (cm x1.toNatClampNeg) = 101
                · refine x_tableIn (off := 131) (tgt := 165) C dX10_does_34 (by rw [h20]; decide) (by rw [h20]; decide) (by rw [h20]; rfl) (by decide) ?_
                  refine x_aload_n C dX10_does_165 rfl 3 rfl ?_
                  refine x_iload_n C dX10_does_166 rfl 2 rfl ?_
                  obtain ⟨u21, hu21, hf⟩ := x_b hf
                  refine x_callV (n := 1) (As := [.int (cm (x1 + (1 : Int32)).toNatClampNeg)]) (rest := []) C (c_X10_waits g l b m s (cm (x1 + (1 : Int32)).toNatClampNeg) hu21) ⟨⟨wd_1663, wd_1660, wd_78⟩, ⟨by decide, by decide, by decide⟩, rfl, rfl, Nat.le_of_ble_eq_true rfl, Nat.le_of_ble_eq_true rfl⟩ wd_1662 wd_41 ⟨0, 11, _, _, rfl, rfl, rfl⟩ [iaW g (b 8) 124 cm] (x_pickD [0, 1, 2] 3 rfl rfl rfl) rfl rfl (Nat.le_of_ble_eq_true rfl) ⟨Nat.le_of_ble_eq_true rfl, Nat.le_of_ble_eq_true rfl⟩ dX10_does_167 (x_goD (wss2 := [mdO g b u21.2.1, iaW g (b 1) 110 u21.2.2, iaW g (b 8) 124 cm]) (stk2 := [.int u21.1]) rfl rfl ?_)
                  exact x_iret C hr ⟨by cases hf; rfl, by cases hf; rfl⟩ dX10_does_170
                · by_cases h22 : (cm x1.toNatClampNeg) = 102
                  · refine x_tableIn (off := 131) (tgt := 165) C dX10_does_34 (by rw [h22]; decide) (by rw [h22]; decide) (by rw [h22]; rfl) (by decide) ?_
                    refine x_aload_n C dX10_does_165 rfl 3 rfl ?_
                    refine x_iload_n C dX10_does_166 rfl 2 rfl ?_
                    obtain ⟨u23, hu23, hf⟩ := x_b hf
                    refine x_callV (n := 1) (As := [.int (cm (x1 + (1 : Int32)).toNatClampNeg)]) (rest := []) C (c_X10_waits g l b m s (cm (x1 + (1 : Int32)).toNatClampNeg) hu23) ⟨⟨wd_1663, wd_1660, wd_78⟩, ⟨by decide, by decide, by decide⟩, rfl, rfl, Nat.le_of_ble_eq_true rfl, Nat.le_of_ble_eq_true rfl⟩ wd_1662 wd_41 ⟨0, 11, _, _, rfl, rfl, rfl⟩ [iaW g (b 8) 124 cm] (x_pickD [0, 1, 2] 3 rfl rfl rfl) rfl rfl (Nat.le_of_ble_eq_true rfl) ⟨Nat.le_of_ble_eq_true rfl, Nat.le_of_ble_eq_true rfl⟩ dX10_does_167 (x_goD (wss2 := [mdO g b u23.2.1, iaW g (b 1) 110 u23.2.2, iaW g (b 8) 124 cm]) (stk2 := [.int u23.1]) rfl rfl ?_)
                    exact x_iret C hr ⟨by cases hf; rfl, by cases hf; rfl⟩ dX10_does_170
                  · by_cases h24 : (cm x1.toNatClampNeg) = 103
                    · refine x_tableIn (off := 131) (tgt := 165) C dX10_does_34 (by rw [h24]; decide) (by rw [h24]; decide) (by rw [h24]; rfl) (by decide) ?_
                      refine x_aload_n C dX10_does_165 rfl 3 rfl ?_
                      refine x_iload_n C dX10_does_166 rfl 2 rfl ?_
                      obtain ⟨u25, hu25, hf⟩ := x_b hf
                      refine x_callV (n := 1) (As := [.int (cm (x1 + (1 : Int32)).toNatClampNeg)]) (rest := []) C (c_X10_waits g l b m s (cm (x1 + (1 : Int32)).toNatClampNeg) hu25) ⟨⟨wd_1663, wd_1660, wd_78⟩, ⟨by decide, by decide, by decide⟩, rfl, rfl, Nat.le_of_ble_eq_true rfl, Nat.le_of_ble_eq_true rfl⟩ wd_1662 wd_41 ⟨0, 11, _, _, rfl, rfl, rfl⟩ [iaW g (b 8) 124 cm] (x_pickD [0, 1, 2] 3 rfl rfl rfl) rfl rfl (Nat.le_of_ble_eq_true rfl) ⟨Nat.le_of_ble_eq_true rfl, Nat.le_of_ble_eq_true rfl⟩ dX10_does_167 (x_goD (wss2 := [mdO g b u25.2.1, iaW g (b 1) 110 u25.2.2, iaW g (b 8) 124 cm]) (stk2 := [.int u25.1]) rfl rfl ?_)
                      exact x_iret C hr ⟨by cases hf; rfl, by cases hf; rfl⟩ dX10_does_170
                    · by_cases h26 : (cm x1.toNatClampNeg) = 104
                      · refine x_tableIn (off := 131) (tgt := 165) C dX10_does_34 (by rw [h26]; decide) (by rw [h26]; decide) (by rw [h26]; rfl) (by decide) ?_
                        refine x_aload_n C dX10_does_165 rfl 3 rfl ?_
                        refine x_iload_n C dX10_does_166 rfl 2 rfl ?_
                        obtain ⟨u27, hu27, hf⟩ := x_b hf
                        refine x_callV (n := 1) (As := [.int (cm (x1 + (1 : Int32)).toNatClampNeg)]) (rest := []) C (c_X10_waits g l b m s (cm (x1 + (1 : Int32)).toNatClampNeg) hu27) ⟨⟨wd_1663, wd_1660, wd_78⟩, ⟨by decide, by decide, by decide⟩, rfl, rfl, Nat.le_of_ble_eq_true rfl, Nat.le_of_ble_eq_true rfl⟩ wd_1662 wd_41 ⟨0, 11, _, _, rfl, rfl, rfl⟩ [iaW g (b 8) 124 cm] (x_pickD [0, 1, 2] 3 rfl rfl rfl) rfl rfl (Nat.le_of_ble_eq_true rfl) ⟨Nat.le_of_ble_eq_true rfl, Nat.le_of_ble_eq_true rfl⟩ dX10_does_167 (x_goD (wss2 := [mdO g b u27.2.1, iaW g (b 1) 110 u27.2.2, iaW g (b 8) 124 cm]) (stk2 := [.int u27.1]) rfl rfl ?_)
                        exact x_iret C hr ⟨by cases hf; rfl, by cases hf; rfl⟩ dX10_does_170
                      · by_cases h28 : (cm x1.toNatClampNeg) = 105
                        · refine x_tableIn (off := 131) (tgt := 165) C dX10_does_34 (by rw [h28]; decide) (by rw [h28]; decide) (by rw [h28]; rfl) (by decide) ?_
                          refine x_aload_n C dX10_does_165 rfl 3 rfl ?_
                          refine x_iload_n C dX10_does_166 rfl 2 rfl ?_
                          obtain ⟨u29, hu29, hf⟩ := x_b hf
                          refine x_callV (n := 1) (As := [.int (cm (x1 + (1 : Int32)).toNatClampNeg)]) (rest := []) C (c_X10_waits g l b m s (cm (x1 + (1 : Int32)).toNatClampNeg) hu29) ⟨⟨wd_1663, wd_1660, wd_78⟩, ⟨by decide, by decide, by decide⟩, rfl, rfl, Nat.le_of_ble_eq_true rfl, Nat.le_of_ble_eq_true rfl⟩ wd_1662 wd_41 ⟨0, 11, _, _, rfl, rfl, rfl⟩ [iaW g (b 8) 124 cm] (x_pickD [0, 1, 2] 3 rfl rfl rfl) rfl rfl (Nat.le_of_ble_eq_true rfl) ⟨Nat.le_of_ble_eq_true rfl, Nat.le_of_ble_eq_true rfl⟩ dX10_does_167 (x_goD (wss2 := [mdO g b u29.2.1, iaW g (b 1) 110 u29.2.2, iaW g (b 8) 124 cm]) (stk2 := [.int u29.1]) rfl rfl ?_)
                          exact x_iret C hr ⟨by cases hf; rfl, by cases hf; rfl⟩ dX10_does_170
                        · by_cases h30 : (cm x1.toNatClampNeg) = 106
                          · refine x_tableIn (off := 131) (tgt := 165) C dX10_does_34 (by rw [h30]; decide) (by rw [h30]; decide) (by rw [h30]; rfl) (by decide) ?_
                            refine x_aload_n C dX10_does_165 rfl 3 rfl ?_
                            refine x_iload_n C dX10_does_166 rfl 2 rfl ?_
                            obtain ⟨u31, hu31, hf⟩ := x_b hf
                            refine x_callV (n := 1) (As := [.int (cm (x1 + (1 : Int32)).toNatClampNeg)]) (rest := []) C (c_X10_waits g l b m s (cm (x1 + (1 : Int32)).toNatClampNeg) hu31) ⟨⟨wd_1663, wd_1660, wd_78⟩, ⟨by decide, by decide, by decide⟩, rfl, rfl, Nat.le_of_ble_eq_true rfl, Nat.le_of_ble_eq_true rfl⟩ wd_1662 wd_41 ⟨0, 11, _, _, rfl, rfl, rfl⟩ [iaW g (b 8) 124 cm] (x_pickD [0, 1, 2] 3 rfl rfl rfl) rfl rfl (Nat.le_of_ble_eq_true rfl) ⟨Nat.le_of_ble_eq_true rfl, Nat.le_of_ble_eq_true rfl⟩ dX10_does_167 (x_goD (wss2 := [mdO g b u31.2.1, iaW g (b 1) 110 u31.2.2, iaW g (b 8) 124 cm]) (stk2 := [.int u31.1]) rfl rfl ?_)
                            exact x_iret C hr ⟨by cases hf; rfl, by cases hf; rfl⟩ dX10_does_170
                          · by_cases h32 : (cm x1.toNatClampNeg) = 107
                            · refine x_tableIn (off := 131) (tgt := 165) C dX10_does_34 (by rw [h32]; decide) (by rw [h32]; decide) (by rw [h32]; rfl) (by decide) ?_
                              refine x_aload_n C dX10_does_165 rfl 3 rfl ?_
                              refine x_iload_n C dX10_does_166 rfl 2 rfl ?_
                              obtain ⟨u33, hu33, hf⟩ := x_b hf
                              refine x_callV (n := 1) (As := [.int (cm (x1 + (1 : Int32)).toNatClampNeg)]) (rest := []) C (c_X10_waits g l b m s (cm (x1 + (1 : Int32)).toNatClampNeg) hu33) ⟨⟨wd_1663, wd_1660, wd_78⟩, ⟨by decide, by decide, by decide⟩, rfl, rfl, Nat.le_of_ble_eq_true rfl, Nat.le_of_ble_eq_true rfl⟩ wd_1662 wd_41 ⟨0, 11, _, _, rfl, rfl, rfl⟩ [iaW g (b 8) 124 cm] (x_pickD [0, 1, 2] 3 rfl rfl rfl) rfl rfl (Nat.le_of_ble_eq_true rfl) ⟨Nat.le_of_ble_eq_true rfl, Nat.le_of_ble_eq_true rfl⟩ dX10_does_167 (x_goD (wss2 := [mdO g b u33.2.1, iaW g (b 1) 110 u33.2.2, iaW g (b 8) 124 cm]) (stk2 := [.int u33.1]) rfl rfl ?_)
                              exact x_iret C hr ⟨by cases hf; rfl, by cases hf; rfl⟩ dX10_does_170
                            · by_cases h34 : (cm x1.toNatClampNeg) = 109
                              · refine x_tableIn (off := 131) (tgt := 165) C dX10_does_34 (by rw [h34]; decide) (by rw [h34]; decide) (by rw [h34]; rfl) (by decide) ?_
                                refine x_aload_n C dX10_does_165 rfl 3 rfl ?_
                                refine x_iload_n C dX10_does_166 rfl 2 rfl ?_
                                obtain ⟨u35, hu35, hf⟩ := x_b hf
                                refine x_callV (n := 1) (As := [.int (cm (x1 + (1 : Int32)).toNatClampNeg)]) (rest := []) C (c_X10_waits g l b m s (cm (x1 + (1 : Int32)).toNatClampNeg) hu35) ⟨⟨wd_1663, wd_1660, wd_78⟩, ⟨by decide, by decide, by decide⟩, rfl, rfl, Nat.le_of_ble_eq_true rfl, Nat.le_of_ble_eq_true rfl⟩ wd_1662 wd_41 ⟨0, 11, _, _, rfl, rfl, rfl⟩ [iaW g (b 8) 124 cm] (x_pickD [0, 1, 2] 3 rfl rfl rfl) rfl rfl (Nat.le_of_ble_eq_true rfl) ⟨Nat.le_of_ble_eq_true rfl, Nat.le_of_ble_eq_true rfl⟩ dX10_does_167 (x_goD (wss2 := [mdO g b u35.2.1, iaW g (b 1) 110 u35.2.2, iaW g (b 8) 124 cm]) (stk2 := [.int u35.1]) rfl rfl ?_)
                                exact x_iret C hr ⟨by cases hf; rfl, by cases hf; rfl⟩ dX10_does_170
                              · by_cases h36 : (cm x1.toNatClampNeg) = 113
                                · refine x_tableIn (off := 131) (tgt := 165) C dX10_does_34 (by rw [h36]; decide) (by rw [h36]; decide) (by rw [h36]; rfl) (by decide) ?_
                                  refine x_aload_n C dX10_does_165 rfl 3 rfl ?_
                                  refine x_iload_n C dX10_does_166 rfl 2 rfl ?_
                                  obtain ⟨u37, hu37, hf⟩ := x_b hf
                                  refine x_callV (n := 1) (As := [.int (cm (x1 + (1 : Int32)).toNatClampNeg)]) (rest := []) C (c_X10_waits g l b m s (cm (x1 + (1 : Int32)).toNatClampNeg) hu37) ⟨⟨wd_1663, wd_1660, wd_78⟩, ⟨by decide, by decide, by decide⟩, rfl, rfl, Nat.le_of_ble_eq_true rfl, Nat.le_of_ble_eq_true rfl⟩ wd_1662 wd_41 ⟨0, 11, _, _, rfl, rfl, rfl⟩ [iaW g (b 8) 124 cm] (x_pickD [0, 1, 2] 3 rfl rfl rfl) rfl rfl (Nat.le_of_ble_eq_true rfl) ⟨Nat.le_of_ble_eq_true rfl, Nat.le_of_ble_eq_true rfl⟩ dX10_does_167 (x_goD (wss2 := [mdO g b u37.2.1, iaW g (b 1) 110 u37.2.2, iaW g (b 8) 124 cm]) (stk2 := [.int u37.1]) rfl rfl ?_)
                                  exact x_iret C hr ⟨by cases hf; rfl, by cases hf; rfl⟩ dX10_does_170
                                · by_cases h38 : (cm x1.toNatClampNeg) = 114
                                  · refine x_tableIn (off := 131) (tgt := 165) C dX10_does_34 (by rw [h38]; decide) (by rw [h38]; decide) (by rw [h38]; rfl) (by decide) ?_
                                    refine x_aload_n C dX10_does_165 rfl 3 rfl ?_
                                    refine x_iload_n C dX10_does_166 rfl 2 rfl ?_
                                    obtain ⟨u39, hu39, hf⟩ := x_b hf
                                    refine x_callV (n := 1) (As := [.int (cm (x1 + (1 : Int32)).toNatClampNeg)]) (rest := []) C (c_X10_waits g l b m s (cm (x1 + (1 : Int32)).toNatClampNeg) hu39) ⟨⟨wd_1663, wd_1660, wd_78⟩, ⟨by decide, by decide, by decide⟩, rfl, rfl, Nat.le_of_ble_eq_true rfl, Nat.le_of_ble_eq_true rfl⟩ wd_1662 wd_41 ⟨0, 11, _, _, rfl, rfl, rfl⟩ [iaW g (b 8) 124 cm] (x_pickD [0, 1, 2] 3 rfl rfl rfl) rfl rfl (Nat.le_of_ble_eq_true rfl) ⟨Nat.le_of_ble_eq_true rfl, Nat.le_of_ble_eq_true rfl⟩ dX10_does_167 (x_goD (wss2 := [mdO g b u39.2.1, iaW g (b 1) 110 u39.2.2, iaW g (b 8) 124 cm]) (stk2 := [.int u39.1]) rfl rfl ?_)
                                    exact x_iret C hr ⟨by cases hf; rfl, by cases hf; rfl⟩ dX10_does_170
                                  · refine x_tableOut (tgt := 165) C dX10_does_34 (by have q0 := lv_neT (a := 99) h5 (by decide); have q1 := lv_neT (a := 100) h7 (by decide); have q2 := lv_neT (a := 108) h9 (by decide); have q3 := lv_neT (a := 110) h11 (by decide); have q4 := lv_neT (a := 111) h13 (by decide); have q5 := lv_neT (a := 112) h15 (by decide); have q6 := lv_neT (a := 115) h17 (by decide); have q7 := lv_neT (a := 101) h20 (by decide); have q8 := lv_neT (a := 102) h22 (by decide); have q9 := lv_neT (a := 103) h24 (by decide); have q10 := lv_neT (a := 104) h26 (by decide); have q11 := lv_neT (a := 105) h28 (by decide); have q12 := lv_neT (a := 106) h30 (by decide); have q13 := lv_neT (a := 107) h32 (by decide); have q14 := lv_neT (a := 109) h34 (by decide); have q15 := lv_neT (a := 113) h36 (by decide); have q16 := lv_neT (a := 114) h38 (by decide); omega) (by decide) ?_
                                    refine x_aload_n C dX10_does_165 rfl 3 rfl ?_
                                    refine x_iload_n C dX10_does_166 rfl 2 rfl ?_
                                    obtain ⟨u19, hu19, hf⟩ := x_b hf
                                    refine x_callV (n := 1) (As := [.int (cm (x1 + (1 : Int32)).toNatClampNeg)]) (rest := []) C (c_X10_waits g l b m s (cm (x1 + (1 : Int32)).toNatClampNeg) hu19) ⟨⟨wd_1663, wd_1660, wd_78⟩, ⟨by decide, by decide, by decide⟩, rfl, rfl, Nat.le_of_ble_eq_true rfl, Nat.le_of_ble_eq_true rfl⟩ wd_1662 wd_41 ⟨0, 11, _, _, rfl, rfl, rfl⟩ [iaW g (b 8) 124 cm] (x_pickD [0, 1, 2] 3 rfl rfl rfl) rfl rfl (Nat.le_of_ble_eq_true rfl) ⟨Nat.le_of_ble_eq_true rfl, Nat.le_of_ble_eq_true rfl⟩ dX10_does_167 (x_goD (wss2 := [mdO g b u19.2.1, iaW g (b 1) 110 u19.2.2, iaW g (b 8) 124 cm]) (stk2 := [.int u19.1]) rfl rfl ?_)
                                    exact x_iret C hr ⟨by cases hf; rfl, by cases hf; rfl⟩ dX10_does_170
theorem wd_51 : Cond.selects yX10_isProgram.cls yX10_isProgram yX10_isProgram ∈ xTB := xTB_in 51 (by decide +kernel) (by decide +kernel)
theorem wd_63 : Cond.selects yX10_does.cls yX10_does yX10_does ∈ xTB := xTB_in 63 (by decide +kernel) (by decide +kernel)
theorem wd_1499 : Cond.fieldLink RX10 25 "CandleConcertModel" "errorAt" "I" ∈ xTB := xTB_in 1499 (by decide +kernel) (by decide +kernel)
theorem wd_1500 : Cond.fieldLink RX10 29 "CandleConcertModel" "failedAt" "I" ∈ xTB := xTB_in 1500 (by decide +kernel) (by decide +kernel)
theorem wd_1839 : Cond.methodLink RX10 237 yX10_isProgram ∈ xTB := xTB_in 1839 (by decide +kernel) (by decide +kernel)
theorem wd_1841 : Cond.instanceMethod yX10_isProgram ∈ xTB := xTB_in 1841 (by decide +kernel) (by decide +kernel)
theorem wd_1842 : Cond.code yX10_isProgram cX10_isProgram 2 (some .boolean) ∈ xTB := xTB_in 1842 (by decide +kernel) (by decide +kernel)
theorem wd_1900 : Cond.methodLink RX10 240 yX10_does ∈ xTB := xTB_in 1900 (by decide +kernel) (by decide +kernel)
theorem wd_1902 : Cond.instanceMethod yX10_does ∈ xTB := xTB_in 1902 (by decide +kernel) (by decide +kernel)
theorem wd_1903 : Cond.code yX10_does cX10_does 5 (some .int) ∈ xTB := xTB_in 1903 (by decide +kernel) (by decide +kernel)
theorem dX10_run_0 : decode cX10_run 0 = .ok (.aload_n 0, 1) := by decide +kernel
theorem dX10_run_1 : decode cX10_run 1 = .ok (.invokevirtual 237, 3) := by decide +kernel
theorem dX10_run_4 : decode cX10_run 4 = .ok (.istore_n 1, 1) := by decide +kernel
theorem dX10_run_5 : decode cX10_run 5 = .ok (.aload_n 0, 1) := by decide +kernel
theorem dX10_run_6 : decode cX10_run 6 = .ok (.iconst 0, 1) := by decide +kernel
theorem dX10_run_7 : decode cX10_run 7 = .ok (.putfield 164, 3) := by decide +kernel
theorem dX10_run_10 : decode cX10_run 10 = .ok (.aload_n 0, 1) := by decide +kernel
theorem dX10_run_11 : decode cX10_run 11 = .ok (.iload_n 1, 1) := by decide +kernel
theorem dX10_run_12 : decode cX10_run 12 = .ok (.ifCond .ne 7, 3) := by decide +kernel
theorem dX10_run_15 : decode cX10_run 15 = .ok (.iconst 1, 1) := by decide +kernel
theorem dX10_run_16 : decode cX10_run 16 = .ok (.goto 4, 3) := by decide +kernel
theorem dX10_run_19 : decode cX10_run 19 = .ok (.iconst 0, 1) := by decide +kernel
theorem dX10_run_20 : decode cX10_run 20 = .ok (.iconst 1, 1) := by decide +kernel
theorem dX10_run_21 : decode cX10_run 21 = .ok (.invokevirtual 63, 3) := by decide +kernel
theorem dX10_run_24 : decode cX10_run 24 = .ok (.ifCond .eq 13, 3) := by decide +kernel
theorem dX10_run_27 : decode cX10_run 27 = .ok (.aload_n 0, 1) := by decide +kernel
theorem dX10_run_28 : decode cX10_run 28 = .ok (.aload_n 0, 1) := by decide +kernel
theorem dX10_run_29 : decode cX10_run 29 = .ok (.getfield 167, 3) := by decide +kernel
theorem dX10_run_32 : decode cX10_run 32 = .ok (.putfield 25, 3) := by decide +kernel
theorem dX10_run_35 : decode cX10_run 35 = .ok (.iconst 0, 1) := by decide +kernel
theorem dX10_run_36 : decode cX10_run 36 = .ok (.ireturn, 1) := by decide +kernel
theorem dX10_run_37 : decode cX10_run 37 = .ok (.aload_n 0, 1) := by decide +kernel
theorem dX10_run_38 : decode cX10_run 38 = .ok (.invokevirtual 71, 3) := by decide +kernel
theorem dX10_run_41 : decode cX10_run 41 = .ok (.iconst 0, 1) := by decide +kernel
theorem dX10_run_42 : decode cX10_run 42 = .ok (.istore_n 2, 1) := by decide +kernel
theorem dX10_run_43 : decode cX10_run 43 = .ok (.iload_n 2, 1) := by decide +kernel
theorem dX10_run_44 : decode cX10_run 44 = .ok (.aload_n 0, 1) := by decide +kernel
theorem dX10_run_45 : decode cX10_run 45 = .ok (.getfield 224, 3) := by decide +kernel
theorem dX10_run_48 : decode cX10_run 48 = .ok (.if_icmp .ge 57, 3) := by decide +kernel
theorem dX10_run_51 : decode cX10_run 51 = .ok (.aload_n 0, 1) := by decide +kernel
theorem dX10_run_52 : decode cX10_run 52 = .ok (.iconst 0, 1) := by decide +kernel
theorem dX10_run_53 : decode cX10_run 53 = .ok (.putfield 41, 3) := by decide +kernel
theorem dX10_run_56 : decode cX10_run 56 = .ok (.aload_n 0, 1) := by decide +kernel
theorem dX10_run_57 : decode cX10_run 57 = .ok (.aload_n 0, 1) := by decide +kernel
theorem dX10_run_58 : decode cX10_run 58 = .ok (.iconst 4, 1) := by decide +kernel
theorem dX10_run_59 : decode cX10_run 59 = .ok (.iload_n 2, 1) := by decide +kernel
theorem dX10_run_60 : decode cX10_run 60 = .ok (.imul, 1) := by decide +kernel
theorem dX10_run_61 : decode cX10_run 61 = .ok (.invokevirtual 240, 3) := by decide +kernel
theorem dX10_run_64 : decode cX10_run 64 = .ok (.putfield 142, 3) := by decide +kernel
theorem dX10_run_67 : decode cX10_run 67 = .ok (.aload_n 0, 1) := by decide +kernel
theorem dX10_run_68 : decode cX10_run 68 = .ok (.getfield 41, 3) := by decide +kernel
theorem dX10_run_71 : decode cX10_run 71 = .ok (.ifCond .eq 28, 3) := by decide +kernel
theorem dX10_run_74 : decode cX10_run 74 = .ok (.aload_n 0, 1) := by decide +kernel
theorem dX10_run_75 : decode cX10_run 75 = .ok (.getfield 13, 3) := by decide +kernel
theorem dX10_run_78 : decode cX10_run 78 = .ok (.iconst 0, 1) := by decide +kernel
theorem dX10_run_79 : decode cX10_run 79 = .ok (.aload_n 0, 1) := by decide +kernel
theorem dX10_run_80 : decode cX10_run 80 = .ok (.getfield 9, 3) := by decide +kernel
theorem dX10_run_83 : decode cX10_run 83 = .ok (.iconst 0, 1) := by decide +kernel
theorem dX10_run_84 : decode cX10_run 84 = .ok (.invokestatic 44, 3) := by decide +kernel
theorem dX10_run_87 : decode cX10_run 87 = .ok (.aload_n 0, 1) := by decide +kernel
theorem dX10_run_88 : decode cX10_run 88 = .ok (.iload_n 2, 1) := by decide +kernel
theorem dX10_run_89 : decode cX10_run 89 = .ok (.putfield 29, 3) := by decide +kernel
theorem dX10_run_92 : decode cX10_run 92 = .ok (.aload_n 0, 1) := by decide +kernel
theorem dX10_run_93 : decode cX10_run 93 = .ok (.iconst 2, 1) := by decide +kernel
theorem dX10_run_94 : decode cX10_run 94 = .ok (.putfield 41, 3) := by decide +kernel
theorem dX10_run_97 : decode cX10_run 97 = .ok (.iconst 0, 1) := by decide +kernel
theorem dX10_run_98 : decode cX10_run 98 = .ok (.ireturn, 1) := by decide +kernel
theorem dX10_run_99 : decode cX10_run 99 = .ok (.iinc 2 1, 3) := by decide +kernel
theorem dX10_run_102 : decode cX10_run 102 = .ok (.goto (-59), 3) := by decide +kernel
theorem dX10_run_105 : decode cX10_run 105 = .ok (.aload_n 0, 1) := by decide +kernel
theorem dX10_run_106 : decode cX10_run 106 = .ok (.aload_n 0, 1) := by decide +kernel
theorem dX10_run_107 : decode cX10_run 107 = .ok (.getfield 224, 3) := by decide +kernel
theorem dX10_run_110 : decode cX10_run 110 = .ok (.invokevirtual 78, 3) := by decide +kernel
theorem dX10_run_113 : decode cX10_run 113 = .ok (.ireturn, 1) := by decide +kernel
set_option maxHeartbeats 4000000 in
set_option maxRecDepth 100000 in
theorem c_X10_run (g : xG) (l : Launch) (b : Nat → Nat) (m : MdT) (s : (Nat → Int32)) (w : (Nat → Int32)) (p : (Nat → Int32)) (tp : (Nat → Int32)) (cm : (Nat → Int32))  {u : Int32 × MdT × (Nat → Int32) × (Nat → Int32) × (Nat → Int32) × (Nat → Int32)} (hf : f_X10_run m s w p tp cm = some u) : ConD g l yX10_run cX10_run 3 (some .int) ({ frames := 9, cells := 0, slots := 0, locals := 193 } : Room) [.ref (b 0)] [mdO g b m, iaW g (b 1) 110 s, iaW g (b 2) 110 w, iaW g (b 5) 880 p, iaW g (b 7) 60 tp, iaW g (b 8) 124 cm] (some (.int u.1)) [mdO g b u.2.1, iaW g (b 1) 110 u.2.2.1, iaW g (b 2) 110 u.2.2.2.1, iaW g (b 5) 880 u.2.2.2.2.1, iaW g (b 7) 60 tp, iaW g (b 8) 124 u.2.2.2.2.2] := by
  unfold f_X10_run at hf
  refine Con_of [mdO g b m, iaW g (b 1) 110 s, iaW g (b 2) 110 w, iaW g (b 5) 880 p, iaW g (b 7) 60 tp, iaW g (b 8) 124 cm] [(0, .ref (b 0))] rfl rfl (by decide) (Nat.le_of_ble_eq_true rfl) ?_
  intro pW eW sW mW argsW belowW methW c9 C hnm hr
  have C : CX g RX10 cX10_run 3 _ pW sW mW argsW methW c9 := C
  have hL43 : ∀ (nW : Nat) (mL : MdT) (sL : (Nat → Int32)) (wL : (Nat → Int32)) (pL : (Nat → Int32)) (cmL : (Nat → Int32)) (x2 : Int32), f_X10_run_43 nW mL sL wL pL tp cmL x2 = some u → VW g (va_A ([mdO g b m, iaW g (b 1) 110 s, iaW g (b 2) 110 w, iaW g (b 5) 880 p, iaW g (b 7) 60 tp, iaW g (b 8) 124 cm] : List va_W).flatten sW.heap.size) 3 pW l eW ({ frames := 9, cells := 0, slots := 0, locals := 193 } : Room) sW mW argsW belowW methW c9 0 0 (MQ belowW (xQc g ([mdO g b m, iaW g (b 1) 110 s, iaW g (b 2) 110 w, iaW g (b 5) 880 p, iaW g (b 7) 60 tp, iaW g (b 8) 124 cm] : List va_W).flatten sW.heap.size (fun v9 w9 => v9 = some (.int u.1) ∧ w9 = ([mdO g b u.2.1, iaW g (b 1) 110 u.2.2.1, iaW g (b 2) 110 u.2.2.2.1, iaW g (b 5) 880 u.2.2.2.2.1, iaW g (b 7) 60 tp, iaW g (b 8) 124 u.2.2.2.2.2] : List va_W).flatten)) argsW sW 0 0 (va_A ([mdO g b m, iaW g (b 1) 110 s, iaW g (b 2) 110 w, iaW g (b 5) 880 p, iaW g (b 7) 60 tp, iaW g (b 8) 124 cm] : List va_W).flatten sW.heap.size)) [mdO g b mL, iaW g (b 1) 110 sL, iaW g (b 2) 110 wL, iaW g (b 5) 880 pL, iaW g (b 7) 60 tp, iaW g (b 8) 124 cmL] [(0, .ref (b 0)), (2, .int x2)] 43 [] := by
    intro nW
    induction nW with
    | zero => intro mL sL wL pL cmL x2 hf; rw [f_X10_run_43] at hf; cases hf
    | succ nW ih =>
      intro mL sL wL pL cmL x2 hf
      rw [f_X10_run_43] at hf
      refine x_iload_n C dX10_run_43 rfl 1 rfl ?_
      refine x_aload_n C dX10_run_44 rfl 0 rfl ?_
      refine x_get (ci := 11) (v := .int mL.2.2.2.2.2.2.2.2.2) (b := mdO g b mL) C ixX10 rfl 17 (by decide) wd_1509 (fun _ h => h) 0 rfl 0 (mdO_at0 g b _) rfl dX10_run_45 ?_
      refine x_icmp_ge (tgt := 105) C dX10_run_48 (by decide) (fun h1 => ?_) (fun h1 => ?_)
      · have hf := x_t h1 hf
        refine x_aload_n C dX10_run_105 rfl 0 rfl ?_
        refine x_aload_n C dX10_run_106 rfl 0 rfl ?_
        refine x_get (ci := 11) (v := .int mL.2.2.2.2.2.2.2.2.2) (b := mdO g b mL) C ixX10 rfl 17 (by decide) wd_1509 (fun _ h => h) 0 rfl 0 (mdO_at0 g b _) rfl dX10_run_107 ?_
        obtain ⟨u2, hu2, hf⟩ := x_b hf
        refine x_callV (n := 1) (As := [.int mL.2.2.2.2.2.2.2.2.2]) (rest := []) C (c_X10_ends g l b mL wL pL mL.2.2.2.2.2.2.2.2.2 hu2) ⟨⟨wd_1583, wd_1580, wd_78⟩, ⟨by decide, by decide, by decide⟩, rfl, rfl, Nat.le_of_ble_eq_true rfl, Nat.le_of_ble_eq_true rfl⟩ wd_1582 wd_28 ⟨0, 11, _, _, rfl, rfl, rfl⟩ [iaW g (b 1) 110 sL, iaW g (b 7) 60 tp, iaW g (b 8) 124 cmL] (x_pickD [0, 2, 3, 1, 4, 5] 6 rfl rfl rfl) rfl rfl (Nat.le_of_ble_eq_true rfl) ⟨Nat.le_of_ble_eq_true rfl, Nat.le_of_ble_eq_true rfl⟩ dX10_run_110 (x_goD (wss2 := [mdO g b u2.2.1, iaW g (b 2) 110 wL, iaW g (b 5) 880 u2.2.2, iaW g (b 1) 110 sL, iaW g (b 7) 60 tp, iaW g (b 8) 124 cmL]) (stk2 := [.int u2.1]) rfl rfl ?_)
        refine x_perm (wss' := [mdO g b u2.2.1, iaW g (b 1) 110 sL, iaW g (b 2) 110 wL, iaW g (b 5) 880 u2.2.2, iaW g (b 7) 60 tp, iaW g (b 8) 124 cmL]) (x_pick [0, 3, 1, 2, 4, 5] 6 rfl rfl rfl) ?_
        exact x_iret C hr ⟨by cases hf; rfl, by cases hf; rfl⟩ dX10_run_113
      · have hf := x_f h1 hf
        refine x_aload_n C dX10_run_51 rfl 0 rfl ?_
        refine x_iconst (v := 0) C dX10_run_52 (by decide) ?_
        refine x_put (ci := 11) (ty := .int) (v := .int (0 : Int32)) (b := mdO g b mL) (b' := mdO g b (mL.1, (0 : Int32), mL.2.2.1, mL.2.2.2.1, mL.2.2.2.2.1, mL.2.2.2.2.2.1, mL.2.2.2.2.2.2.1, mL.2.2.2.2.2.2.2.1, mL.2.2.2.2.2.2.2.2.1, mL.2.2.2.2.2.2.2.2.2)) (wss' := [mdO g b (mL.1, (0 : Int32), mL.2.2.1, mL.2.2.2.1, mL.2.2.2.2.1, mL.2.2.2.2.2.1, mL.2.2.2.2.2.2.1, mL.2.2.2.2.2.2.2.1, mL.2.2.2.2.2.2.2.2.1, mL.2.2.2.2.2.2.2.2.2), iaW g (b 1) 110 sL, iaW g (b 2) 110 wL, iaW g (b 5) 880 pL, iaW g (b 7) 60 tp, iaW g (b 8) 124 cmL]) C ixX10 tyX10 tyX10_ok nmX10 rfl 6 (by decide) wd_1498 (fun _ h => h) rfl (tyX10_ok 6 (by decide)) rfl rfl 0 rfl 0 (mdO_at0 g b _) (Nat.le_of_ble_eq_true rfl) rfl rfl dX10_run_53 ?_
        refine x_aload_n C dX10_run_56 rfl 0 rfl ?_
        refine x_aload_n C dX10_run_57 rfl 0 rfl ?_
        refine x_iconst (v := 4) C dX10_run_58 (by decide) ?_
        refine x_iload_n C dX10_run_59 rfl 1 rfl ?_
        refine x_imul C dX10_run_60 ?_
        obtain ⟨u3, hu3, hf⟩ := x_b hf
        refine x_callV (n := 1) (As := [.int ((4 : Int32) * x2)]) (rest := [.ref (b 0)]) C (c_X10_does g l b (mL.1, (0 : Int32), mL.2.2.1, mL.2.2.2.1, mL.2.2.2.2.1, mL.2.2.2.2.2.1, mL.2.2.2.2.2.2.1, mL.2.2.2.2.2.2.2.1, mL.2.2.2.2.2.2.2.2.1, mL.2.2.2.2.2.2.2.2.2) sL cmL ((4 : Int32) * x2) hu3) ⟨⟨wd_1903, wd_1900, wd_78⟩, ⟨by decide, by decide, by decide⟩, rfl, rfl, Nat.le_of_ble_eq_true rfl, Nat.le_of_ble_eq_true rfl⟩ wd_1902 wd_63 ⟨0, 11, _, _, rfl, rfl, rfl⟩ [iaW g (b 2) 110 wL, iaW g (b 5) 880 pL, iaW g (b 7) 60 tp] (x_pickD [0, 1, 5, 2, 3, 4] 6 rfl rfl rfl) rfl rfl (Nat.le_of_ble_eq_true rfl) ⟨Nat.le_of_ble_eq_true rfl, Nat.le_of_ble_eq_true rfl⟩ dX10_run_61 (x_goD (wss2 := [mdO g b u3.2.1, iaW g (b 1) 110 u3.2.2, iaW g (b 8) 124 cmL, iaW g (b 2) 110 wL, iaW g (b 5) 880 pL, iaW g (b 7) 60 tp]) (stk2 := [.int u3.1, .ref (b 0)]) rfl rfl ?_)
        refine x_put (ci := 11) (ty := .int) (v := .int u3.1) (b := mdO g b u3.2.1) (b' := mdO g b (u3.2.1.1, u3.2.1.2.1, u3.2.1.2.2.1, u3.2.1.2.2.2.1, u3.1, u3.2.1.2.2.2.2.2.1, u3.2.1.2.2.2.2.2.2.1, u3.2.1.2.2.2.2.2.2.2.1, u3.2.1.2.2.2.2.2.2.2.2.1, u3.2.1.2.2.2.2.2.2.2.2.2)) (wss' := [mdO g b (u3.2.1.1, u3.2.1.2.1, u3.2.1.2.2.1, u3.2.1.2.2.2.1, u3.1, u3.2.1.2.2.2.2.2.1, u3.2.1.2.2.2.2.2.2.1, u3.2.1.2.2.2.2.2.2.2.1, u3.2.1.2.2.2.2.2.2.2.2.1, u3.2.1.2.2.2.2.2.2.2.2.2), iaW g (b 1) 110 u3.2.2, iaW g (b 8) 124 cmL, iaW g (b 2) 110 wL, iaW g (b 5) 880 pL, iaW g (b 7) 60 tp]) C ixX10 tyX10 tyX10_ok nmX10 rfl 9 (by decide) wd_1501 (fun _ h => h) rfl (tyX10_ok 9 (by decide)) rfl rfl 0 rfl 0 (mdO_at0 g b _) (Nat.le_of_ble_eq_true rfl) rfl rfl dX10_run_64 ?_
        refine x_aload_n C dX10_run_67 rfl 0 rfl ?_
        refine x_get (ci := 11) (v := .int u3.2.1.2.1) (b := mdO g b (u3.2.1.1, u3.2.1.2.1, u3.2.1.2.2.1, u3.2.1.2.2.2.1, u3.1, u3.2.1.2.2.2.2.2.1, u3.2.1.2.2.2.2.2.2.1, u3.2.1.2.2.2.2.2.2.2.1, u3.2.1.2.2.2.2.2.2.2.2.1, u3.2.1.2.2.2.2.2.2.2.2.2)) C ixX10 rfl 6 (by decide) wd_1498 (fun _ h => h) 0 rfl 0 (mdO_at0 g b _) rfl dX10_run_68 ?_
        refine x_if_eq (tgt := 99) C dX10_run_71 (by decide) (fun h4 => ?_) (fun h4 => ?_)
        · have hf := x_t h4 hf
          refine x_iinc (v := x2 + 1) (lv' := [(2, .int (x2 + 1)), (0, .ref (b 0))]) C dX10_run_99 1 rfl rfl (by decide) rfl ?_
          refine x_goto (tgt := 43) C dX10_run_102 (by decide) ?_
          refine x_perm (wss' := [mdO g b (u3.2.1.1, u3.2.1.2.1, u3.2.1.2.2.1, u3.2.1.2.2.2.1, u3.1, u3.2.1.2.2.2.2.2.1, u3.2.1.2.2.2.2.2.2.1, u3.2.1.2.2.2.2.2.2.2.1, u3.2.1.2.2.2.2.2.2.2.2.1, u3.2.1.2.2.2.2.2.2.2.2.2), iaW g (b 1) 110 u3.2.2, iaW g (b 2) 110 wL, iaW g (b 5) 880 pL, iaW g (b 7) 60 tp, iaW g (b 8) 124 cmL]) (x_pick [0, 1, 3, 4, 5, 2] 6 rfl rfl rfl) ?_
          refine x_locals (lv' := [(0, .ref (b 0)), (2, .int (x2 + 1))]) [1, 0] rfl ?_
          exact ih (u3.2.1.1, u3.2.1.2.1, u3.2.1.2.2.1, u3.2.1.2.2.2.1, u3.1, u3.2.1.2.2.2.2.2.1, u3.2.1.2.2.2.2.2.2.1, u3.2.1.2.2.2.2.2.2.2.1, u3.2.1.2.2.2.2.2.2.2.2.1, u3.2.1.2.2.2.2.2.2.2.2.2) u3.2.2 wL pL cmL (x2 + 1) hf
        · have hf := x_f h4 hf
          refine x_aload_n C dX10_run_74 rfl 0 rfl ?_
          refine x_get (ci := 11) (v := .ref (b 2)) (b := mdO g b (u3.2.1.1, u3.2.1.2.1, u3.2.1.2.2.1, u3.2.1.2.2.2.1, u3.1, u3.2.1.2.2.2.2.2.1, u3.2.1.2.2.2.2.2.2.1, u3.2.1.2.2.2.2.2.2.2.1, u3.2.1.2.2.2.2.2.2.2.2.1, u3.2.1.2.2.2.2.2.2.2.2.2)) C ixX10 rfl 1 (by decide) wd_1493 (fun _ h => h) 0 rfl 0 (mdO_at0 g b _) rfl dX10_run_75 ?_
          refine x_iconst (v := 0) C dX10_run_78 (by decide) ?_
          refine x_aload_n C dX10_run_79 rfl 0 rfl ?_
          refine x_get (ci := 11) (v := .ref (b 1)) (b := mdO g b (u3.2.1.1, u3.2.1.2.1, u3.2.1.2.2.1, u3.2.1.2.2.2.1, u3.1, u3.2.1.2.2.2.2.2.1, u3.2.1.2.2.2.2.2.2.1, u3.2.1.2.2.2.2.2.2.2.1, u3.2.1.2.2.2.2.2.2.2.2.1, u3.2.1.2.2.2.2.2.2.2.2.2)) C ixX10 rfl 0 (by decide) wd_1492 (fun _ h => h) 0 rfl 0 (mdO_at0 g b _) rfl dX10_run_80 ?_
          refine x_iconst (v := 0) C dX10_run_83 (by decide) ?_
          obtain ⟨u5, hu5, hf⟩ := x_b hf
          refine x_callS (n := 4) (As := [.ref (b 2), .int (0 : Int32), .ref (b 1), .int (0 : Int32)]) (rest := []) C (c_X10_copiesD g l (b 2) 110 (b 1) 110 wL u3.2.2 (0 : Int32) (0 : Int32) hu5) ⟨⟨wd_1561, wd_1559, wd_78⟩, ⟨by decide, by decide, by decide⟩, rfl, rfl, Nat.le_of_ble_eq_true rfl, Nat.le_of_ble_eq_true rfl⟩ wd_1560 [mdO g b (u3.2.1.1, u3.2.1.2.1, u3.2.1.2.2.1, u3.2.1.2.2.2.1, u3.1, u3.2.1.2.2.2.2.2.1, u3.2.1.2.2.2.2.2.2.1, u3.2.1.2.2.2.2.2.2.2.1, u3.2.1.2.2.2.2.2.2.2.2.1, u3.2.1.2.2.2.2.2.2.2.2.2), iaW g (b 8) 124 cmL, iaW g (b 5) 880 pL, iaW g (b 7) 60 tp] (x_pickD [3, 1, 0, 2, 4, 5] 6 rfl rfl rfl) rfl rfl (Nat.le_of_ble_eq_true rfl) ⟨Nat.le_of_ble_eq_true rfl, Nat.le_of_ble_eq_true rfl⟩ dX10_run_84 (x_goD (wss2 := [iaW g (b 2) 110 wL, iaW g (b 1) 110 u5, mdO g b (u3.2.1.1, u3.2.1.2.1, u3.2.1.2.2.1, u3.2.1.2.2.2.1, u3.1, u3.2.1.2.2.2.2.2.1, u3.2.1.2.2.2.2.2.2.1, u3.2.1.2.2.2.2.2.2.2.1, u3.2.1.2.2.2.2.2.2.2.2.1, u3.2.1.2.2.2.2.2.2.2.2.2), iaW g (b 8) 124 cmL, iaW g (b 5) 880 pL, iaW g (b 7) 60 tp]) (stk2 := []) rfl rfl ?_)
          refine x_aload_n C dX10_run_87 rfl 0 rfl ?_
          refine x_iload_n C dX10_run_88 rfl 1 rfl ?_
          refine x_put (ci := 11) (ty := .int) (v := .int x2) (b := mdO g b (u3.2.1.1, u3.2.1.2.1, u3.2.1.2.2.1, u3.2.1.2.2.2.1, u3.1, u3.2.1.2.2.2.2.2.1, u3.2.1.2.2.2.2.2.2.1, u3.2.1.2.2.2.2.2.2.2.1, u3.2.1.2.2.2.2.2.2.2.2.1, u3.2.1.2.2.2.2.2.2.2.2.2)) (b' := mdO g b (u3.2.1.1, u3.2.1.2.1, u3.2.1.2.2.1, x2, u3.1, u3.2.1.2.2.2.2.2.1, u3.2.1.2.2.2.2.2.2.1, u3.2.1.2.2.2.2.2.2.2.1, u3.2.1.2.2.2.2.2.2.2.2.1, u3.2.1.2.2.2.2.2.2.2.2.2)) (wss' := [iaW g (b 2) 110 wL, iaW g (b 1) 110 u5, mdO g b (u3.2.1.1, u3.2.1.2.1, u3.2.1.2.2.1, x2, u3.1, u3.2.1.2.2.2.2.2.1, u3.2.1.2.2.2.2.2.2.1, u3.2.1.2.2.2.2.2.2.2.1, u3.2.1.2.2.2.2.2.2.2.2.1, u3.2.1.2.2.2.2.2.2.2.2.2), iaW g (b 8) 124 cmL, iaW g (b 5) 880 pL, iaW g (b 7) 60 tp]) C ixX10 tyX10 tyX10_ok nmX10 rfl 8 (by decide) wd_1500 (fun _ h => h) rfl (tyX10_ok 8 (by decide)) rfl rfl 2 rfl 0 (mdO_at0 g b _) (Nat.le_of_ble_eq_true rfl) rfl rfl dX10_run_89 ?_
          refine x_aload_n C dX10_run_92 rfl 0 rfl ?_
          refine x_iconst (v := 2) C dX10_run_93 (by decide) ?_
          refine x_put (ci := 11) (ty := .int) (v := .int (2 : Int32)) (b := mdO g b (u3.2.1.1, u3.2.1.2.1, u3.2.1.2.2.1, x2, u3.1, u3.2.1.2.2.2.2.2.1, u3.2.1.2.2.2.2.2.2.1, u3.2.1.2.2.2.2.2.2.2.1, u3.2.1.2.2.2.2.2.2.2.2.1, u3.2.1.2.2.2.2.2.2.2.2.2)) (b' := mdO g b (u3.2.1.1, (2 : Int32), u3.2.1.2.2.1, x2, u3.1, u3.2.1.2.2.2.2.2.1, u3.2.1.2.2.2.2.2.2.1, u3.2.1.2.2.2.2.2.2.2.1, u3.2.1.2.2.2.2.2.2.2.2.1, u3.2.1.2.2.2.2.2.2.2.2.2)) (wss' := [iaW g (b 2) 110 wL, iaW g (b 1) 110 u5, mdO g b (u3.2.1.1, (2 : Int32), u3.2.1.2.2.1, x2, u3.1, u3.2.1.2.2.2.2.2.1, u3.2.1.2.2.2.2.2.2.1, u3.2.1.2.2.2.2.2.2.2.1, u3.2.1.2.2.2.2.2.2.2.2.1, u3.2.1.2.2.2.2.2.2.2.2.2), iaW g (b 8) 124 cmL, iaW g (b 5) 880 pL, iaW g (b 7) 60 tp]) C ixX10 tyX10 tyX10_ok nmX10 rfl 6 (by decide) wd_1498 (fun _ h => h) rfl (tyX10_ok 6 (by decide)) rfl rfl 2 rfl 0 (mdO_at0 g b _) (Nat.le_of_ble_eq_true rfl) rfl rfl dX10_run_94 ?_
          refine x_iconst (v := 0) C dX10_run_97 (by decide) ?_
          refine x_perm (wss' := [mdO g b (u3.2.1.1, (2 : Int32), u3.2.1.2.2.1, x2, u3.1, u3.2.1.2.2.2.2.2.1, u3.2.1.2.2.2.2.2.2.1, u3.2.1.2.2.2.2.2.2.2.1, u3.2.1.2.2.2.2.2.2.2.2.1, u3.2.1.2.2.2.2.2.2.2.2.2), iaW g (b 1) 110 u5, iaW g (b 2) 110 wL, iaW g (b 5) 880 pL, iaW g (b 7) 60 tp, iaW g (b 8) 124 cmL]) (x_pick [2, 1, 0, 4, 5, 3] 6 rfl rfl rfl) ?_
          exact x_iret C hr ⟨by cases hf; rfl, by cases hf; rfl⟩ dX10_run_98
  have hL20 : ∀ (mL : MdT) (sL : (Nat → Int32)) (wL : (Nat → Int32)) (pL : (Nat → Int32)) (cmL : (Nat → Int32)) (y0 : Int32), f_X10_run_20 mL sL wL pL tp cmL y0 = some u → VW g (va_A ([mdO g b m, iaW g (b 1) 110 s, iaW g (b 2) 110 w, iaW g (b 5) 880 p, iaW g (b 7) 60 tp, iaW g (b 8) 124 cm] : List va_W).flatten sW.heap.size) 3 pW l eW ({ frames := 9, cells := 0, slots := 0, locals := 193 } : Room) sW mW argsW belowW methW c9 0 0 (MQ belowW (xQc g ([mdO g b m, iaW g (b 1) 110 s, iaW g (b 2) 110 w, iaW g (b 5) 880 p, iaW g (b 7) 60 tp, iaW g (b 8) 124 cm] : List va_W).flatten sW.heap.size (fun v9 w9 => v9 = some (.int u.1) ∧ w9 = ([mdO g b u.2.1, iaW g (b 1) 110 u.2.2.1, iaW g (b 2) 110 u.2.2.2.1, iaW g (b 5) 880 u.2.2.2.2.1, iaW g (b 7) 60 tp, iaW g (b 8) 124 u.2.2.2.2.2] : List va_W).flatten)) argsW sW 0 0 (va_A ([mdO g b m, iaW g (b 1) 110 s, iaW g (b 2) 110 w, iaW g (b 5) 880 p, iaW g (b 7) 60 tp, iaW g (b 8) 124 cm] : List va_W).flatten sW.heap.size)) [mdO g b mL, iaW g (b 1) 110 sL, iaW g (b 2) 110 wL, iaW g (b 5) 880 pL, iaW g (b 7) 60 tp, iaW g (b 8) 124 cmL] [(0, .ref (b 0))] 20 [.int y0, .ref (b 0)] := by
    intro mL sL wL pL cmL y0 hf
    unfold f_X10_run_20 at hf
    refine x_iconst (v := 1) C dX10_run_20 (by decide) ?_
    obtain ⟨u1, hu1, hf⟩ := x_b hf
    refine x_callV (n := 2) (As := [.int y0, .int (1 : Int32)]) (rest := []) C (c_X10_isThrown g l b mL y0 (1 : Int32) hu1) ⟨⟨wd_1575, wd_1572, wd_78⟩, ⟨by decide, by decide, by decide⟩, rfl, rfl, Nat.le_of_ble_eq_true rfl, Nat.le_of_ble_eq_true rfl⟩ wd_1574 wd_26 ⟨0, 11, _, _, rfl, rfl, rfl⟩ [iaW g (b 1) 110 sL, iaW g (b 2) 110 wL, iaW g (b 5) 880 pL, iaW g (b 7) 60 tp, iaW g (b 8) 124 cmL] (x_pickD [0, 1, 2, 3, 4, 5] 6 rfl rfl rfl) rfl rfl (Nat.le_of_ble_eq_true rfl) ⟨Nat.le_of_ble_eq_true rfl, Nat.le_of_ble_eq_true rfl⟩ dX10_run_21 (x_goD (wss2 := [mdO g b u1.2, iaW g (b 1) 110 sL, iaW g (b 2) 110 wL, iaW g (b 5) 880 pL, iaW g (b 7) 60 tp, iaW g (b 8) 124 cmL]) (stk2 := [.int u1.1]) rfl rfl ?_)
    refine x_if_eq (tgt := 37) C dX10_run_24 (by decide) (fun h2 => ?_) (fun h2 => ?_)
    · have hf := x_t h2 hf
      refine x_aload_n C dX10_run_37 rfl 0 rfl ?_
      obtain ⟨u3, hu3, hf⟩ := x_b hf
      refine x_callV (n := 0) (As := []) (rest := []) C (c_X10_keeps g l b u1.2 sL wL hu3) ⟨⟨wd_1558, wd_1555, wd_78⟩, ⟨by decide, by decide, by decide⟩, rfl, rfl, Nat.le_of_ble_eq_true rfl, Nat.le_of_ble_eq_true rfl⟩ wd_1557 wd_24 ⟨0, 11, _, _, rfl, rfl, rfl⟩ [iaW g (b 5) 880 pL, iaW g (b 7) 60 tp, iaW g (b 8) 124 cmL] (x_pickD [0, 1, 2, 3, 4, 5] 6 rfl rfl rfl) rfl rfl (Nat.le_of_ble_eq_true rfl) ⟨Nat.le_of_ble_eq_true rfl, Nat.le_of_ble_eq_true rfl⟩ dX10_run_38 (x_goD (wss2 := [mdO g b u3.1, iaW g (b 1) 110 sL, iaW g (b 2) 110 u3.2, iaW g (b 5) 880 pL, iaW g (b 7) 60 tp, iaW g (b 8) 124 cmL]) (stk2 := []) rfl rfl ?_)
      refine x_iconst (v := 0) C dX10_run_41 (by decide) ?_
      refine x_istore_n (lv' := [(2, .int (0 : Int32)), (0, .ref (b 0))]) C dX10_run_42 rfl (by decide) rfl ?_
      refine x_locals (lv' := [(0, .ref (b 0)), (2, .int (0 : Int32))]) [1, 0] rfl ?_
      exact hL43 xFuel u3.1 sL u3.2 pL cmL (0 : Int32) hf
    · have hf := x_f h2 hf
      refine x_aload_n C dX10_run_27 rfl 0 rfl ?_
      refine x_aload_n C dX10_run_28 rfl 0 rfl ?_
      refine x_get (ci := 11) (v := .int u1.2.2.2.2.2.2.2.2.2.1) (b := mdO g b u1.2) C ixX10 rfl 16 (by decide) wd_1508 (fun _ h => h) 0 rfl 0 (mdO_at0 g b _) rfl dX10_run_29 ?_
      refine x_put (ci := 11) (ty := .int) (v := .int u1.2.2.2.2.2.2.2.2.2.1) (b := mdO g b u1.2) (b' := mdO g b (u1.2.1, u1.2.2.1, u1.2.2.2.2.2.2.2.2.2.1, u1.2.2.2.2.1, u1.2.2.2.2.2.1, u1.2.2.2.2.2.2.1, u1.2.2.2.2.2.2.2.1, u1.2.2.2.2.2.2.2.2.1, u1.2.2.2.2.2.2.2.2.2.1, u1.2.2.2.2.2.2.2.2.2.2)) (wss' := [mdO g b (u1.2.1, u1.2.2.1, u1.2.2.2.2.2.2.2.2.2.1, u1.2.2.2.2.1, u1.2.2.2.2.2.1, u1.2.2.2.2.2.2.1, u1.2.2.2.2.2.2.2.1, u1.2.2.2.2.2.2.2.2.1, u1.2.2.2.2.2.2.2.2.2.1, u1.2.2.2.2.2.2.2.2.2.2), iaW g (b 1) 110 sL, iaW g (b 2) 110 wL, iaW g (b 5) 880 pL, iaW g (b 7) 60 tp, iaW g (b 8) 124 cmL]) C ixX10 tyX10 tyX10_ok nmX10 rfl 7 (by decide) wd_1499 (fun _ h => h) rfl (tyX10_ok 7 (by decide)) rfl rfl 0 rfl 0 (mdO_at0 g b _) (Nat.le_of_ble_eq_true rfl) rfl rfl dX10_run_32 ?_
      refine x_iconst (v := 0) C dX10_run_35 (by decide) ?_
      exact x_iret C hr ⟨by cases hf; rfl, by cases hf; rfl⟩ dX10_run_36
  refine x_aload_n C dX10_run_0 rfl 0 rfl ?_
  obtain ⟨u1, hu1, hf⟩ := x_b hf
  refine x_callV (n := 0) (As := []) (rest := []) C (c_X10_isProgram g l b m tp cm hu1) ⟨⟨wd_1842, wd_1839, wd_78⟩, ⟨by decide, by decide, by decide⟩, rfl, rfl, Nat.le_of_ble_eq_true rfl, Nat.le_of_ble_eq_true rfl⟩ wd_1841 wd_51 ⟨0, 11, _, _, rfl, rfl, rfl⟩ [iaW g (b 1) 110 s, iaW g (b 2) 110 w, iaW g (b 5) 880 p] (x_pickD [0, 4, 5, 1, 2, 3] 6 rfl rfl rfl) rfl rfl (Nat.le_of_ble_eq_true rfl) ⟨Nat.le_of_ble_eq_true rfl, Nat.le_of_ble_eq_true rfl⟩ dX10_run_1 (x_goD (wss2 := [mdO g b u1.2.1, iaW g (b 7) 60 tp, iaW g (b 8) 124 u1.2.2, iaW g (b 1) 110 s, iaW g (b 2) 110 w, iaW g (b 5) 880 p]) (stk2 := [.int u1.1]) rfl rfl ?_)
  refine x_istore_n (lv' := [(1, .int u1.1), (0, .ref (b 0))]) C dX10_run_4 rfl (by decide) rfl ?_
  refine x_aload_n C dX10_run_5 rfl 1 rfl ?_
  refine x_iconst (v := 0) C dX10_run_6 (by decide) ?_
  refine x_put (ci := 11) (ty := .int) (v := .int (0 : Int32)) (b := mdO g b u1.2.1) (b' := mdO g b (u1.2.1.1, u1.2.1.2.1, u1.2.1.2.2.1, u1.2.1.2.2.2.1, u1.2.1.2.2.2.2.1, u1.2.1.2.2.2.2.2.1, u1.2.1.2.2.2.2.2.2.1, (0 : Int32), u1.2.1.2.2.2.2.2.2.2.2.1, u1.2.1.2.2.2.2.2.2.2.2.2)) (wss' := [mdO g b (u1.2.1.1, u1.2.1.2.1, u1.2.1.2.2.1, u1.2.1.2.2.2.1, u1.2.1.2.2.2.2.1, u1.2.1.2.2.2.2.2.1, u1.2.1.2.2.2.2.2.2.1, (0 : Int32), u1.2.1.2.2.2.2.2.2.2.2.1, u1.2.1.2.2.2.2.2.2.2.2.2), iaW g (b 7) 60 tp, iaW g (b 8) 124 u1.2.2, iaW g (b 1) 110 s, iaW g (b 2) 110 w, iaW g (b 5) 880 p]) C ixX10 tyX10 tyX10_ok nmX10 rfl 15 (by decide) wd_1507 (fun _ h => h) rfl (tyX10_ok 15 (by decide)) rfl rfl 0 rfl 0 (mdO_at0 g b _) (Nat.le_of_ble_eq_true rfl) rfl rfl dX10_run_7 ?_
  refine x_aload_n C dX10_run_10 rfl 1 rfl ?_
  refine x_iload_n C dX10_run_11 rfl 0 rfl ?_
  refine x_if_ne (tgt := 19) C dX10_run_12 (by decide) (fun h2 => ?_) (fun h2 => ?_)
  · have hf := x_f h2 hf
    refine x_iconst (v := 0) C dX10_run_19 (by decide) ?_
    refine x_perm (wss' := [mdO g b (u1.2.1.1, u1.2.1.2.1, u1.2.1.2.2.1, u1.2.1.2.2.2.1, u1.2.1.2.2.2.2.1, u1.2.1.2.2.2.2.2.1, u1.2.1.2.2.2.2.2.2.1, (0 : Int32), u1.2.1.2.2.2.2.2.2.2.2.1, u1.2.1.2.2.2.2.2.2.2.2.2), iaW g (b 1) 110 s, iaW g (b 2) 110 w, iaW g (b 5) 880 p, iaW g (b 7) 60 tp, iaW g (b 8) 124 u1.2.2]) (x_pick [0, 3, 4, 5, 1, 2] 6 rfl rfl rfl) ?_
    refine x_locals (lv' := [(0, .ref (b 0))]) [1] rfl ?_
    exact hL20 (u1.2.1.1, u1.2.1.2.1, u1.2.1.2.2.1, u1.2.1.2.2.2.1, u1.2.1.2.2.2.2.1, u1.2.1.2.2.2.2.2.1, u1.2.1.2.2.2.2.2.2.1, (0 : Int32), u1.2.1.2.2.2.2.2.2.2.2.1, u1.2.1.2.2.2.2.2.2.2.2.2) s w p u1.2.2 (0 : Int32) hf
  · have hf := x_t h2 hf
    refine x_iconst (v := 1) C dX10_run_15 (by decide) ?_
    refine x_goto (tgt := 20) C dX10_run_16 (by decide) ?_
    refine x_perm (wss' := [mdO g b (u1.2.1.1, u1.2.1.2.1, u1.2.1.2.2.1, u1.2.1.2.2.2.1, u1.2.1.2.2.2.2.1, u1.2.1.2.2.2.2.2.1, u1.2.1.2.2.2.2.2.2.1, (0 : Int32), u1.2.1.2.2.2.2.2.2.2.2.1, u1.2.1.2.2.2.2.2.2.2.2.2), iaW g (b 1) 110 s, iaW g (b 2) 110 w, iaW g (b 5) 880 p, iaW g (b 7) 60 tp, iaW g (b 8) 124 u1.2.2]) (x_pick [0, 3, 4, 5, 1, 2] 6 rfl rfl rfl) ?_
    refine x_locals (lv' := [(0, .ref (b 0))]) [1] rfl ?_
    exact hL20 (u1.2.1.1, u1.2.1.2.1, u1.2.1.2.2.1, u1.2.1.2.2.2.1, u1.2.1.2.2.2.2.1, u1.2.1.2.2.2.2.2.1, u1.2.1.2.2.2.2.2.2.1, (0 : Int32), u1.2.1.2.2.2.2.2.2.2.2.1, u1.2.1.2.2.2.2.2.2.2.2.2) s w p u1.2.2 (1 : Int32) hf
theorem dX10_errorPosition_0 : decode cX10_errorPosition 0 = .ok (.aload_n 0, 1) := by decide +kernel
theorem dX10_errorPosition_1 : decode cX10_errorPosition 1 = .ok (.aload_n 0, 1) := by decide +kernel
theorem dX10_errorPosition_2 : decode cX10_errorPosition 2 = .ok (.getfield 25, 3) := by decide +kernel
theorem dX10_errorPosition_5 : decode cX10_errorPosition 5 = .ok (.ifCond .ge 7, 3) := by decide +kernel
theorem dX10_errorPosition_8 : decode cX10_errorPosition 8 = .ok (.iconst 1, 1) := by decide +kernel
theorem dX10_errorPosition_9 : decode cX10_errorPosition 9 = .ok (.goto 4, 3) := by decide +kernel
theorem dX10_errorPosition_12 : decode cX10_errorPosition 12 = .ok (.iconst 0, 1) := by decide +kernel
theorem dX10_errorPosition_13 : decode cX10_errorPosition 13 = .ok (.iconst 1, 1) := by decide +kernel
theorem dX10_errorPosition_14 : decode cX10_errorPosition 14 = .ok (.invokevirtual 63, 3) := by decide +kernel
theorem dX10_errorPosition_17 : decode cX10_errorPosition 17 = .ok (.ifCond .eq 7, 3) := by decide +kernel
theorem dX10_errorPosition_20 : decode cX10_errorPosition 20 = .ok (.iconst 0, 1) := by decide +kernel
theorem dX10_errorPosition_21 : decode cX10_errorPosition 21 = .ok (.goto 7, 3) := by decide +kernel
theorem dX10_errorPosition_24 : decode cX10_errorPosition 24 = .ok (.aload_n 0, 1) := by decide +kernel
theorem dX10_errorPosition_25 : decode cX10_errorPosition 25 = .ok (.getfield 25, 3) := by decide +kernel
theorem dX10_errorPosition_28 : decode cX10_errorPosition 28 = .ok (.ireturn, 1) := by decide +kernel
set_option maxHeartbeats 4000000 in
set_option maxRecDepth 100000 in
theorem c_X10_errorPosition (g : xG) (l : Launch) (b : Nat → Nat) (m : MdT)  {u : Int32 × MdT} (hf : f_X10_errorPosition m = some u) : ConD g l yX10_errorPosition cX10_errorPosition 1 (some .int) ({ frames := 1, cells := 0, slots := 0, locals := 22 } : Room) [.ref (b 0)] [mdO g b m] (some (.int u.1)) [mdO g b u.2] := by
  unfold f_X10_errorPosition at hf
  refine Con_of [mdO g b m] [(0, .ref (b 0))] rfl rfl (by decide) (Nat.le_of_ble_eq_true rfl) ?_
  intro pW eW sW mW argsW belowW methW c9 C hnm hr
  have C : CX g RX10 cX10_errorPosition 1 _ pW sW mW argsW methW c9 := C
  refine x_aload_n C dX10_errorPosition_0 rfl 0 rfl ?_
  refine x_aload_n C dX10_errorPosition_1 rfl 0 rfl ?_
  refine x_get (ci := 11) (v := .int m.2.2.1) (b := mdO g b m) C ixX10 rfl 7 (by decide) wd_1499 (fun _ h => h) 0 rfl 0 (mdO_at0 g b _) rfl dX10_errorPosition_2 ?_
  refine x_if_ge (tgt := 12) C dX10_errorPosition_5 (by decide) (fun h1 => ?_) (fun h1 => ?_)
  · have hf := x_t h1 hf
    refine x_iconst (v := 0) C dX10_errorPosition_12 (by decide) ?_
    refine x_iconst (v := 1) C dX10_errorPosition_13 (by decide) ?_
    obtain ⟨u2, hu2, hf⟩ := x_b hf
    refine x_callV (n := 2) (As := [.int (0 : Int32), .int (1 : Int32)]) (rest := []) C (c_X10_isThrown g l b m (0 : Int32) (1 : Int32) hu2) ⟨⟨wd_1575, wd_1572, wd_78⟩, ⟨by decide, by decide, by decide⟩, rfl, rfl, Nat.le_of_ble_eq_true rfl, Nat.le_of_ble_eq_true rfl⟩ wd_1574 wd_26 ⟨0, 11, _, _, rfl, rfl, rfl⟩ [] (x_pickD [0] 1 rfl rfl rfl) rfl rfl (Nat.le_of_ble_eq_true rfl) ⟨Nat.le_of_ble_eq_true rfl, Nat.le_of_ble_eq_true rfl⟩ dX10_errorPosition_14 (x_goD (wss2 := [mdO g b u2.2]) (stk2 := [.int u2.1]) rfl rfl ?_)
    refine x_if_eq (tgt := 24) C dX10_errorPosition_17 (by decide) (fun h3 => ?_) (fun h3 => ?_)
    · have hf := x_t h3 hf
      refine x_aload_n C dX10_errorPosition_24 rfl 0 rfl ?_
      refine x_get (ci := 11) (v := .int u2.2.2.2.1) (b := mdO g b u2.2) C ixX10 rfl 7 (by decide) wd_1499 (fun _ h => h) 0 rfl 0 (mdO_at0 g b _) rfl dX10_errorPosition_25 ?_
      exact x_iret C hr ⟨by cases hf; rfl, by cases hf; rfl⟩ dX10_errorPosition_28
    · have hf := x_f h3 hf
      refine x_iconst (v := 0) C dX10_errorPosition_20 (by decide) ?_
      refine x_goto (tgt := 28) C dX10_errorPosition_21 (by decide) ?_
      exact x_iret C hr ⟨by cases hf; rfl, by cases hf; rfl⟩ dX10_errorPosition_28
  · have hf := x_f h1 hf
    refine x_iconst (v := 1) C dX10_errorPosition_8 (by decide) ?_
    refine x_goto (tgt := 13) C dX10_errorPosition_9 (by decide) ?_
    refine x_iconst (v := 1) C dX10_errorPosition_13 (by decide) ?_
    obtain ⟨u4, hu4, hf⟩ := x_b hf
    refine x_callV (n := 2) (As := [.int (1 : Int32), .int (1 : Int32)]) (rest := []) C (c_X10_isThrown g l b m (1 : Int32) (1 : Int32) hu4) ⟨⟨wd_1575, wd_1572, wd_78⟩, ⟨by decide, by decide, by decide⟩, rfl, rfl, Nat.le_of_ble_eq_true rfl, Nat.le_of_ble_eq_true rfl⟩ wd_1574 wd_26 ⟨0, 11, _, _, rfl, rfl, rfl⟩ [] (x_pickD [0] 1 rfl rfl rfl) rfl rfl (Nat.le_of_ble_eq_true rfl) ⟨Nat.le_of_ble_eq_true rfl, Nat.le_of_ble_eq_true rfl⟩ dX10_errorPosition_14 (x_goD (wss2 := [mdO g b u4.2]) (stk2 := [.int u4.1]) rfl rfl ?_)
    refine x_if_eq (tgt := 24) C dX10_errorPosition_17 (by decide) (fun h5 => ?_) (fun h5 => ?_)
    · have hf := x_t h5 hf
      refine x_aload_n C dX10_errorPosition_24 rfl 0 rfl ?_
      refine x_get (ci := 11) (v := .int u4.2.2.2.1) (b := mdO g b u4.2) C ixX10 rfl 7 (by decide) wd_1499 (fun _ h => h) 0 rfl 0 (mdO_at0 g b _) rfl dX10_errorPosition_25 ?_
      exact x_iret C hr ⟨by cases hf; rfl, by cases hf; rfl⟩ dX10_errorPosition_28
    · have hf := x_f h5 hf
      refine x_iconst (v := 0) C dX10_errorPosition_20 (by decide) ?_
      refine x_goto (tgt := 28) C dX10_errorPosition_21 (by decide) ?_
      exact x_iret C hr ⟨by cases hf; rfl, by cases hf; rfl⟩ dX10_errorPosition_28
theorem dX10_failedCommand_0 : decode cX10_failedCommand 0 = .ok (.aload_n 0, 1) := by decide +kernel
theorem dX10_failedCommand_1 : decode cX10_failedCommand 1 = .ok (.aload_n 0, 1) := by decide +kernel
theorem dX10_failedCommand_2 : decode cX10_failedCommand 2 = .ok (.getfield 29, 3) := by decide +kernel
theorem dX10_failedCommand_5 : decode cX10_failedCommand 5 = .ok (.ifCond .ge 7, 3) := by decide +kernel
theorem dX10_failedCommand_8 : decode cX10_failedCommand 8 = .ok (.iconst 1, 1) := by decide +kernel
theorem dX10_failedCommand_9 : decode cX10_failedCommand 9 = .ok (.goto 4, 3) := by decide +kernel
theorem dX10_failedCommand_12 : decode cX10_failedCommand 12 = .ok (.iconst 0, 1) := by decide +kernel
theorem dX10_failedCommand_13 : decode cX10_failedCommand 13 = .ok (.iconst 1, 1) := by decide +kernel
theorem dX10_failedCommand_14 : decode cX10_failedCommand 14 = .ok (.invokevirtual 63, 3) := by decide +kernel
theorem dX10_failedCommand_17 : decode cX10_failedCommand 17 = .ok (.ifCond .eq 7, 3) := by decide +kernel
theorem dX10_failedCommand_20 : decode cX10_failedCommand 20 = .ok (.iconst 0, 1) := by decide +kernel
theorem dX10_failedCommand_21 : decode cX10_failedCommand 21 = .ok (.goto 7, 3) := by decide +kernel
theorem dX10_failedCommand_24 : decode cX10_failedCommand 24 = .ok (.aload_n 0, 1) := by decide +kernel
theorem dX10_failedCommand_25 : decode cX10_failedCommand 25 = .ok (.getfield 29, 3) := by decide +kernel
theorem dX10_failedCommand_28 : decode cX10_failedCommand 28 = .ok (.ireturn, 1) := by decide +kernel
set_option maxHeartbeats 4000000 in
set_option maxRecDepth 100000 in
theorem c_X10_failedCommand (g : xG) (l : Launch) (b : Nat → Nat) (m : MdT)  {u : Int32 × MdT} (hf : f_X10_failedCommand m = some u) : ConD g l yX10_failedCommand cX10_failedCommand 1 (some .int) ({ frames := 1, cells := 0, slots := 0, locals := 22 } : Room) [.ref (b 0)] [mdO g b m] (some (.int u.1)) [mdO g b u.2] := by
  unfold f_X10_failedCommand at hf
  refine Con_of [mdO g b m] [(0, .ref (b 0))] rfl rfl (by decide) (Nat.le_of_ble_eq_true rfl) ?_
  intro pW eW sW mW argsW belowW methW c9 C hnm hr
  have C : CX g RX10 cX10_failedCommand 1 _ pW sW mW argsW methW c9 := C
  refine x_aload_n C dX10_failedCommand_0 rfl 0 rfl ?_
  refine x_aload_n C dX10_failedCommand_1 rfl 0 rfl ?_
  refine x_get (ci := 11) (v := .int m.2.2.2.1) (b := mdO g b m) C ixX10 rfl 8 (by decide) wd_1500 (fun _ h => h) 0 rfl 0 (mdO_at0 g b _) rfl dX10_failedCommand_2 ?_
  refine x_if_ge (tgt := 12) C dX10_failedCommand_5 (by decide) (fun h1 => ?_) (fun h1 => ?_)
  · have hf := x_t h1 hf
    refine x_iconst (v := 0) C dX10_failedCommand_12 (by decide) ?_
    refine x_iconst (v := 1) C dX10_failedCommand_13 (by decide) ?_
    obtain ⟨u2, hu2, hf⟩ := x_b hf
    refine x_callV (n := 2) (As := [.int (0 : Int32), .int (1 : Int32)]) (rest := []) C (c_X10_isThrown g l b m (0 : Int32) (1 : Int32) hu2) ⟨⟨wd_1575, wd_1572, wd_78⟩, ⟨by decide, by decide, by decide⟩, rfl, rfl, Nat.le_of_ble_eq_true rfl, Nat.le_of_ble_eq_true rfl⟩ wd_1574 wd_26 ⟨0, 11, _, _, rfl, rfl, rfl⟩ [] (x_pickD [0] 1 rfl rfl rfl) rfl rfl (Nat.le_of_ble_eq_true rfl) ⟨Nat.le_of_ble_eq_true rfl, Nat.le_of_ble_eq_true rfl⟩ dX10_failedCommand_14 (x_goD (wss2 := [mdO g b u2.2]) (stk2 := [.int u2.1]) rfl rfl ?_)
    refine x_if_eq (tgt := 24) C dX10_failedCommand_17 (by decide) (fun h3 => ?_) (fun h3 => ?_)
    · have hf := x_t h3 hf
      refine x_aload_n C dX10_failedCommand_24 rfl 0 rfl ?_
      refine x_get (ci := 11) (v := .int u2.2.2.2.2.1) (b := mdO g b u2.2) C ixX10 rfl 8 (by decide) wd_1500 (fun _ h => h) 0 rfl 0 (mdO_at0 g b _) rfl dX10_failedCommand_25 ?_
      exact x_iret C hr ⟨by cases hf; rfl, by cases hf; rfl⟩ dX10_failedCommand_28
    · have hf := x_f h3 hf
      refine x_iconst (v := 0) C dX10_failedCommand_20 (by decide) ?_
      refine x_goto (tgt := 28) C dX10_failedCommand_21 (by decide) ?_
      exact x_iret C hr ⟨by cases hf; rfl, by cases hf; rfl⟩ dX10_failedCommand_28
  · have hf := x_f h1 hf
    refine x_iconst (v := 1) C dX10_failedCommand_8 (by decide) ?_
    refine x_goto (tgt := 13) C dX10_failedCommand_9 (by decide) ?_
    refine x_iconst (v := 1) C dX10_failedCommand_13 (by decide) ?_
    obtain ⟨u4, hu4, hf⟩ := x_b hf
    refine x_callV (n := 2) (As := [.int (1 : Int32), .int (1 : Int32)]) (rest := []) C (c_X10_isThrown g l b m (1 : Int32) (1 : Int32) hu4) ⟨⟨wd_1575, wd_1572, wd_78⟩, ⟨by decide, by decide, by decide⟩, rfl, rfl, Nat.le_of_ble_eq_true rfl, Nat.le_of_ble_eq_true rfl⟩ wd_1574 wd_26 ⟨0, 11, _, _, rfl, rfl, rfl⟩ [] (x_pickD [0] 1 rfl rfl rfl) rfl rfl (Nat.le_of_ble_eq_true rfl) ⟨Nat.le_of_ble_eq_true rfl, Nat.le_of_ble_eq_true rfl⟩ dX10_failedCommand_14 (x_goD (wss2 := [mdO g b u4.2]) (stk2 := [.int u4.1]) rfl rfl ?_)
    refine x_if_eq (tgt := 24) C dX10_failedCommand_17 (by decide) (fun h5 => ?_) (fun h5 => ?_)
    · have hf := x_t h5 hf
      refine x_aload_n C dX10_failedCommand_24 rfl 0 rfl ?_
      refine x_get (ci := 11) (v := .int u4.2.2.2.2.1) (b := mdO g b u4.2) C ixX10 rfl 8 (by decide) wd_1500 (fun _ h => h) 0 rfl 0 (mdO_at0 g b _) rfl dX10_failedCommand_25 ?_
      exact x_iret C hr ⟨by cases hf; rfl, by cases hf; rfl⟩ dX10_failedCommand_28
    · have hf := x_f h5 hf
      refine x_iconst (v := 0) C dX10_failedCommand_20 (by decide) ?_
      refine x_goto (tgt := 28) C dX10_failedCommand_21 (by decide) ?_
      exact x_iret C hr ⟨by cases hf; rfl, by cases hf; rfl⟩ dX10_failedCommand_28
theorem dX10_undo_0 : decode cX10_undo 0 = .ok (.aload_n 0, 1) := by decide +kernel
theorem dX10_undo_1 : decode cX10_undo 1 = .ok (.aload_n 0, 1) := by decide +kernel
theorem dX10_undo_2 : decode cX10_undo 2 = .ok (.getfield 48, 3) := by decide +kernel
theorem dX10_undo_5 : decode cX10_undo 5 = .ok (.ifCond .ne 7, 3) := by decide +kernel
theorem dX10_undo_8 : decode cX10_undo 8 = .ok (.iconst 1, 1) := by decide +kernel
theorem dX10_undo_9 : decode cX10_undo 9 = .ok (.goto 4, 3) := by decide +kernel
theorem dX10_undo_12 : decode cX10_undo 12 = .ok (.iconst 0, 1) := by decide +kernel
theorem dX10_undo_13 : decode cX10_undo 13 = .ok (.iconst 1, 1) := by decide +kernel
theorem dX10_undo_14 : decode cX10_undo 14 = .ok (.invokevirtual 63, 3) := by decide +kernel
theorem dX10_undo_17 : decode cX10_undo 17 = .ok (.ifCond .eq 5, 3) := by decide +kernel
theorem dX10_undo_20 : decode cX10_undo 20 = .ok (.iconst 0, 1) := by decide +kernel
theorem dX10_undo_21 : decode cX10_undo 21 = .ok (.ireturn, 1) := by decide +kernel
theorem dX10_undo_22 : decode cX10_undo 22 = .ok (.aload_n 0, 1) := by decide +kernel
theorem dX10_undo_23 : decode cX10_undo 23 = .ok (.dup, 1) := by decide +kernel
theorem dX10_undo_24 : decode cX10_undo 24 = .ok (.getfield 48, 3) := by decide +kernel
theorem dX10_undo_27 : decode cX10_undo 27 = .ok (.iconst 1, 1) := by decide +kernel
theorem dX10_undo_28 : decode cX10_undo 28 = .ok (.isub, 1) := by decide +kernel
theorem dX10_undo_29 : decode cX10_undo 29 = .ok (.putfield 48, 3) := by decide +kernel
theorem dX10_undo_32 : decode cX10_undo 32 = .ok (.aload_n 0, 1) := by decide +kernel
theorem dX10_undo_33 : decode cX10_undo 33 = .ok (.getfield 22, 3) := by decide +kernel
theorem dX10_undo_36 : decode cX10_undo 36 = .ok (.bipush 110, 2) := by decide +kernel
theorem dX10_undo_38 : decode cX10_undo 38 = .ok (.aload_n 0, 1) := by decide +kernel
theorem dX10_undo_39 : decode cX10_undo 39 = .ok (.getfield 48, 3) := by decide +kernel
theorem dX10_undo_42 : decode cX10_undo 42 = .ok (.imul, 1) := by decide +kernel
theorem dX10_undo_43 : decode cX10_undo 43 = .ok (.aload_n 0, 1) := by decide +kernel
theorem dX10_undo_44 : decode cX10_undo 44 = .ok (.getfield 9, 3) := by decide +kernel
theorem dX10_undo_47 : decode cX10_undo 47 = .ok (.iconst 0, 1) := by decide +kernel
theorem dX10_undo_48 : decode cX10_undo 48 = .ok (.invokestatic 44, 3) := by decide +kernel
theorem dX10_undo_51 : decode cX10_undo 51 = .ok (.aload_n 0, 1) := by decide +kernel
theorem dX10_undo_52 : decode cX10_undo 52 = .ok (.getfield 48, 3) := by decide +kernel
theorem dX10_undo_55 : decode cX10_undo 55 = .ok (.ireturn, 1) := by decide +kernel
set_option maxHeartbeats 4000000 in
set_option maxRecDepth 100000 in
theorem c_X10_undo (g : xG) (l : Launch) (b : Nat → Nat) (m : MdT) (s : (Nat → Int32)) (p : (Nat → Int32))  {u : Int32 × MdT × (Nat → Int32)} (hf : f_X10_undo m s p = some u) : ConD g l yX10_undo cX10_undo 1 (some .int) ({ frames := 1, cells := 0, slots := 0, locals := 24 } : Room) [.ref (b 0)] [mdO g b m, iaW g (b 1) 110 s, iaW g (b 5) 880 p] (some (.int u.1)) [mdO g b u.2.1, iaW g (b 1) 110 u.2.2, iaW g (b 5) 880 p] := by
  unfold f_X10_undo at hf
  refine Con_of [mdO g b m, iaW g (b 1) 110 s, iaW g (b 5) 880 p] [(0, .ref (b 0))] rfl rfl (by decide) (Nat.le_of_ble_eq_true rfl) ?_
  intro pW eW sW mW argsW belowW methW c9 C hnm hr
  have C : CX g RX10 cX10_undo 1 _ pW sW mW argsW methW c9 := C
  have hL13 : ∀ (mL : MdT) (sL : (Nat → Int32)) (y0 : Int32), f_X10_undo_13 mL sL p y0 = some u → VW g (va_A ([mdO g b m, iaW g (b 1) 110 s, iaW g (b 5) 880 p] : List va_W).flatten sW.heap.size) 1 pW l eW ({ frames := 1, cells := 0, slots := 0, locals := 24 } : Room) sW mW argsW belowW methW c9 0 0 (MQ belowW (xQc g ([mdO g b m, iaW g (b 1) 110 s, iaW g (b 5) 880 p] : List va_W).flatten sW.heap.size (fun v9 w9 => v9 = some (.int u.1) ∧ w9 = ([mdO g b u.2.1, iaW g (b 1) 110 u.2.2, iaW g (b 5) 880 p] : List va_W).flatten)) argsW sW 0 0 (va_A ([mdO g b m, iaW g (b 1) 110 s, iaW g (b 5) 880 p] : List va_W).flatten sW.heap.size)) [mdO g b mL, iaW g (b 1) 110 sL, iaW g (b 5) 880 p] [(0, .ref (b 0))] 13 [.int y0, .ref (b 0)] := by
    intro mL sL y0 hf
    unfold f_X10_undo_13 at hf
    refine x_iconst (v := 1) C dX10_undo_13 (by decide) ?_
    obtain ⟨u1, hu1, hf⟩ := x_b hf
    refine x_callV (n := 2) (As := [.int y0, .int (1 : Int32)]) (rest := []) C (c_X10_isThrown g l b mL y0 (1 : Int32) hu1) ⟨⟨wd_1575, wd_1572, wd_78⟩, ⟨by decide, by decide, by decide⟩, rfl, rfl, Nat.le_of_ble_eq_true rfl, Nat.le_of_ble_eq_true rfl⟩ wd_1574 wd_26 ⟨0, 11, _, _, rfl, rfl, rfl⟩ [iaW g (b 1) 110 sL, iaW g (b 5) 880 p] (x_pickD [0, 1, 2] 3 rfl rfl rfl) rfl rfl (Nat.le_of_ble_eq_true rfl) ⟨Nat.le_of_ble_eq_true rfl, Nat.le_of_ble_eq_true rfl⟩ dX10_undo_14 (x_goD (wss2 := [mdO g b u1.2, iaW g (b 1) 110 sL, iaW g (b 5) 880 p]) (stk2 := [.int u1.1]) rfl rfl ?_)
    refine x_if_eq (tgt := 22) C dX10_undo_17 (by decide) (fun h2 => ?_) (fun h2 => ?_)
    · have hf := x_t h2 hf
      refine x_aload_n C dX10_undo_22 rfl 0 rfl ?_
      refine x_dup C dX10_undo_23 rfl ?_
      refine x_get (ci := 11) (v := .int u1.2.1) (b := mdO g b u1.2) C ixX10 rfl 5 (by decide) wd_1497 (fun _ h => h) 0 rfl 0 (mdO_at0 g b _) rfl dX10_undo_24 ?_
      refine x_iconst (v := 1) C dX10_undo_27 (by decide) ?_
      refine x_isub C dX10_undo_28 ?_
      refine x_put (ci := 11) (ty := .int) (v := .int (u1.2.1 - (1 : Int32))) (b := mdO g b u1.2) (b' := mdO g b (u1.2.1 - (1 : Int32), u1.2.2.1, u1.2.2.2.1, u1.2.2.2.2.1, u1.2.2.2.2.2.1, u1.2.2.2.2.2.2.1, u1.2.2.2.2.2.2.2.1, u1.2.2.2.2.2.2.2.2.1, u1.2.2.2.2.2.2.2.2.2.1, u1.2.2.2.2.2.2.2.2.2.2)) (wss' := [mdO g b (u1.2.1 - (1 : Int32), u1.2.2.1, u1.2.2.2.1, u1.2.2.2.2.1, u1.2.2.2.2.2.1, u1.2.2.2.2.2.2.1, u1.2.2.2.2.2.2.2.1, u1.2.2.2.2.2.2.2.2.1, u1.2.2.2.2.2.2.2.2.2.1, u1.2.2.2.2.2.2.2.2.2.2), iaW g (b 1) 110 sL, iaW g (b 5) 880 p]) C ixX10 tyX10 tyX10_ok nmX10 rfl 5 (by decide) wd_1497 (fun _ h => h) rfl (tyX10_ok 5 (by decide)) rfl rfl 0 rfl 0 (mdO_at0 g b _) (Nat.le_of_ble_eq_true rfl) rfl rfl dX10_undo_29 ?_
      refine x_aload_n C dX10_undo_32 rfl 0 rfl ?_
      refine x_get (ci := 11) (v := .ref (b 5)) (b := mdO g b (u1.2.1 - (1 : Int32), u1.2.2.1, u1.2.2.2.1, u1.2.2.2.2.1, u1.2.2.2.2.2.1, u1.2.2.2.2.2.2.1, u1.2.2.2.2.2.2.2.1, u1.2.2.2.2.2.2.2.2.1, u1.2.2.2.2.2.2.2.2.2.1, u1.2.2.2.2.2.2.2.2.2.2)) C ixX10 rfl 4 (by decide) wd_1496 (fun _ h => h) 0 rfl 0 (mdO_at0 g b _) rfl dX10_undo_33 ?_
      refine x_bipush (v := 110) C dX10_undo_36 (by decide) ?_
      refine x_aload_n C dX10_undo_38 rfl 0 rfl ?_
      refine x_get (ci := 11) (v := .int (u1.2.1 - (1 : Int32))) (b := mdO g b (u1.2.1 - (1 : Int32), u1.2.2.1, u1.2.2.2.1, u1.2.2.2.2.1, u1.2.2.2.2.2.1, u1.2.2.2.2.2.2.1, u1.2.2.2.2.2.2.2.1, u1.2.2.2.2.2.2.2.2.1, u1.2.2.2.2.2.2.2.2.2.1, u1.2.2.2.2.2.2.2.2.2.2)) C ixX10 rfl 5 (by decide) wd_1497 (fun _ h => h) 0 rfl 0 (mdO_at0 g b _) rfl dX10_undo_39 ?_
      refine x_imul C dX10_undo_42 ?_
      refine x_aload_n C dX10_undo_43 rfl 0 rfl ?_
      refine x_get (ci := 11) (v := .ref (b 1)) (b := mdO g b (u1.2.1 - (1 : Int32), u1.2.2.1, u1.2.2.2.1, u1.2.2.2.2.1, u1.2.2.2.2.2.1, u1.2.2.2.2.2.2.1, u1.2.2.2.2.2.2.2.1, u1.2.2.2.2.2.2.2.2.1, u1.2.2.2.2.2.2.2.2.2.1, u1.2.2.2.2.2.2.2.2.2.2)) C ixX10 rfl 0 (by decide) wd_1492 (fun _ h => h) 0 rfl 0 (mdO_at0 g b _) rfl dX10_undo_44 ?_
      refine x_iconst (v := 0) C dX10_undo_47 (by decide) ?_
      obtain ⟨u3, hu3, hf⟩ := x_b hf
      refine x_callS (n := 4) (As := [.ref (b 5), .int ((110 : Int32) * (u1.2.1 - (1 : Int32))), .ref (b 1), .int (0 : Int32)]) (rest := []) C (c_X10_copiesD g l (b 5) 880 (b 1) 110 p sL ((110 : Int32) * (u1.2.1 - (1 : Int32))) (0 : Int32) hu3) ⟨⟨wd_1561, wd_1559, wd_78⟩, ⟨by decide, by decide, by decide⟩, rfl, rfl, Nat.le_of_ble_eq_true rfl, Nat.le_of_ble_eq_true rfl⟩ wd_1560 [mdO g b (u1.2.1 - (1 : Int32), u1.2.2.1, u1.2.2.2.1, u1.2.2.2.2.1, u1.2.2.2.2.2.1, u1.2.2.2.2.2.2.1, u1.2.2.2.2.2.2.2.1, u1.2.2.2.2.2.2.2.2.1, u1.2.2.2.2.2.2.2.2.2.1, u1.2.2.2.2.2.2.2.2.2.2)] (x_pickD [2, 1, 0] 3 rfl rfl rfl) rfl rfl (Nat.le_of_ble_eq_true rfl) ⟨Nat.le_of_ble_eq_true rfl, Nat.le_of_ble_eq_true rfl⟩ dX10_undo_48 (x_goD (wss2 := [iaW g (b 5) 880 p, iaW g (b 1) 110 u3, mdO g b (u1.2.1 - (1 : Int32), u1.2.2.1, u1.2.2.2.1, u1.2.2.2.2.1, u1.2.2.2.2.2.1, u1.2.2.2.2.2.2.1, u1.2.2.2.2.2.2.2.1, u1.2.2.2.2.2.2.2.2.1, u1.2.2.2.2.2.2.2.2.2.1, u1.2.2.2.2.2.2.2.2.2.2)]) (stk2 := []) rfl rfl ?_)
      refine x_aload_n C dX10_undo_51 rfl 0 rfl ?_
      refine x_get (ci := 11) (v := .int (u1.2.1 - (1 : Int32))) (b := mdO g b (u1.2.1 - (1 : Int32), u1.2.2.1, u1.2.2.2.1, u1.2.2.2.2.1, u1.2.2.2.2.2.1, u1.2.2.2.2.2.2.1, u1.2.2.2.2.2.2.2.1, u1.2.2.2.2.2.2.2.2.1, u1.2.2.2.2.2.2.2.2.2.1, u1.2.2.2.2.2.2.2.2.2.2)) C ixX10 rfl 5 (by decide) wd_1497 (fun _ h => h) 2 rfl 0 (mdO_at0 g b _) rfl dX10_undo_52 ?_
      refine x_perm (wss' := [mdO g b (u1.2.1 - (1 : Int32), u1.2.2.1, u1.2.2.2.1, u1.2.2.2.2.1, u1.2.2.2.2.2.1, u1.2.2.2.2.2.2.1, u1.2.2.2.2.2.2.2.1, u1.2.2.2.2.2.2.2.2.1, u1.2.2.2.2.2.2.2.2.2.1, u1.2.2.2.2.2.2.2.2.2.2), iaW g (b 1) 110 u3, iaW g (b 5) 880 p]) (x_pick [2, 1, 0] 3 rfl rfl rfl) ?_
      exact x_iret C hr ⟨by cases hf; rfl, by cases hf; rfl⟩ dX10_undo_55
    · have hf := x_f h2 hf
      refine x_iconst (v := 0) C dX10_undo_20 (by decide) ?_
      exact x_iret C hr ⟨by cases hf; rfl, by cases hf; rfl⟩ dX10_undo_21
  refine x_aload_n C dX10_undo_0 rfl 0 rfl ?_
  refine x_aload_n C dX10_undo_1 rfl 0 rfl ?_
  refine x_get (ci := 11) (v := .int m.1) (b := mdO g b m) C ixX10 rfl 5 (by decide) wd_1497 (fun _ h => h) 0 rfl 0 (mdO_at0 g b _) rfl dX10_undo_2 ?_
  refine x_if_ne (tgt := 12) C dX10_undo_5 (by decide) (fun h1 => ?_) (fun h1 => ?_)
  · have hf := x_f h1 hf
    refine x_iconst (v := 0) C dX10_undo_12 (by decide) ?_
    exact hL13 m s (0 : Int32) hf
  · have hf := x_t h1 hf
    refine x_iconst (v := 1) C dX10_undo_8 (by decide) ?_
    refine x_goto (tgt := 13) C dX10_undo_9 (by decide) ?_
    exact hL13 m s (1 : Int32) hf
theorem wd_1495 : Cond.fieldLink RX10 19 "CandleConcertModel" "saved" "[I" ∈ xTB := xTB_in 1495 (by decide +kernel) (by decide +kernel)
theorem wd_1502 : Cond.fieldLink RX10 243 "CandleConcertModel" "isSaved" "Z" ∈ xTB := xTB_in 1502 (by decide +kernel) (by decide +kernel)
theorem dX10_save_0 : decode cX10_save 0 = .ok (.aload_n 0, 1) := by decide +kernel
theorem dX10_save_1 : decode cX10_save 1 = .ok (.iconst 0, 1) := by decide +kernel
theorem dX10_save_2 : decode cX10_save 2 = .ok (.putfield 41, 3) := by decide +kernel
theorem dX10_save_5 : decode cX10_save 5 = .ok (.aload_n 0, 1) := by decide +kernel
theorem dX10_save_6 : decode cX10_save 6 = .ok (.getfield 9, 3) := by decide +kernel
theorem dX10_save_9 : decode cX10_save 9 = .ok (.iconst 0, 1) := by decide +kernel
theorem dX10_save_10 : decode cX10_save 10 = .ok (.aload_n 0, 1) := by decide +kernel
theorem dX10_save_11 : decode cX10_save 11 = .ok (.getfield 19, 3) := by decide +kernel
theorem dX10_save_14 : decode cX10_save 14 = .ok (.iconst 0, 1) := by decide +kernel
theorem dX10_save_15 : decode cX10_save 15 = .ok (.invokestatic 44, 3) := by decide +kernel
theorem dX10_save_18 : decode cX10_save 18 = .ok (.aload_n 0, 1) := by decide +kernel
theorem dX10_save_19 : decode cX10_save 19 = .ok (.iconst 1, 1) := by decide +kernel
theorem dX10_save_20 : decode cX10_save 20 = .ok (.putfield 243, 3) := by decide +kernel
theorem dX10_save_23 : decode cX10_save 23 = .ok (.aload_n 0, 1) := by decide +kernel
theorem dX10_save_24 : decode cX10_save 24 = .ok (.getfield 9, 3) := by decide +kernel
theorem dX10_save_27 : decode cX10_save 27 = .ok (.iconst 3, 1) := by decide +kernel
theorem dX10_save_28 : decode cX10_save 28 = .ok (.iaload, 1) := by decide +kernel
theorem dX10_save_29 : decode cX10_save 29 = .ok (.ireturn, 1) := by decide +kernel
set_option maxHeartbeats 4000000 in
set_option maxRecDepth 100000 in
theorem c_X10_save (g : xG) (l : Launch) (b : Nat → Nat) (m : MdT) (s : (Nat → Int32)) (d : (Nat → Int32))  {u : Int32 × MdT × (Nat → Int32)} (hf : f_X10_save m s d = some u) : ConD g l yX10_save cX10_save 1 (some .int) ({ frames := 1, cells := 0, slots := 0, locals := 24 } : Room) [.ref (b 0)] [mdO g b m, iaW g (b 1) 110 s, iaW g (b 4) 110 d] (some (.int u.1)) [mdO g b u.2.1, iaW g (b 1) 110 s, iaW g (b 4) 110 u.2.2] := by
  unfold f_X10_save at hf
  refine Con_of [mdO g b m, iaW g (b 1) 110 s, iaW g (b 4) 110 d] [(0, .ref (b 0))] rfl rfl (by decide) (Nat.le_of_ble_eq_true rfl) ?_
  intro pW eW sW mW argsW belowW methW c9 C hnm hr
  have C : CX g RX10 cX10_save 1 _ pW sW mW argsW methW c9 := C
  refine x_aload_n C dX10_save_0 rfl 0 rfl ?_
  refine x_iconst (v := 0) C dX10_save_1 (by decide) ?_
  refine x_put (ci := 11) (ty := .int) (v := .int (0 : Int32)) (b := mdO g b m) (b' := mdO g b (m.1, (0 : Int32), m.2.2.1, m.2.2.2.1, m.2.2.2.2.1, m.2.2.2.2.2.1, m.2.2.2.2.2.2.1, m.2.2.2.2.2.2.2.1, m.2.2.2.2.2.2.2.2.1, m.2.2.2.2.2.2.2.2.2)) (wss' := [mdO g b (m.1, (0 : Int32), m.2.2.1, m.2.2.2.1, m.2.2.2.2.1, m.2.2.2.2.2.1, m.2.2.2.2.2.2.1, m.2.2.2.2.2.2.2.1, m.2.2.2.2.2.2.2.2.1, m.2.2.2.2.2.2.2.2.2), iaW g (b 1) 110 s, iaW g (b 4) 110 d]) C ixX10 tyX10 tyX10_ok nmX10 rfl 6 (by decide) wd_1498 (fun _ h => h) rfl (tyX10_ok 6 (by decide)) rfl rfl 0 rfl 0 (mdO_at0 g b _) (Nat.le_of_ble_eq_true rfl) rfl rfl dX10_save_2 ?_
  refine x_aload_n C dX10_save_5 rfl 0 rfl ?_
  refine x_get (ci := 11) (v := .ref (b 1)) (b := mdO g b (m.1, (0 : Int32), m.2.2.1, m.2.2.2.1, m.2.2.2.2.1, m.2.2.2.2.2.1, m.2.2.2.2.2.2.1, m.2.2.2.2.2.2.2.1, m.2.2.2.2.2.2.2.2.1, m.2.2.2.2.2.2.2.2.2)) C ixX10 rfl 0 (by decide) wd_1492 (fun _ h => h) 0 rfl 0 (mdO_at0 g b _) rfl dX10_save_6 ?_
  refine x_iconst (v := 0) C dX10_save_9 (by decide) ?_
  refine x_aload_n C dX10_save_10 rfl 0 rfl ?_
  refine x_get (ci := 11) (v := .ref (b 4)) (b := mdO g b (m.1, (0 : Int32), m.2.2.1, m.2.2.2.1, m.2.2.2.2.1, m.2.2.2.2.2.1, m.2.2.2.2.2.2.1, m.2.2.2.2.2.2.2.1, m.2.2.2.2.2.2.2.2.1, m.2.2.2.2.2.2.2.2.2)) C ixX10 rfl 3 (by decide) wd_1495 (fun _ h => h) 0 rfl 0 (mdO_at0 g b _) rfl dX10_save_11 ?_
  refine x_iconst (v := 0) C dX10_save_14 (by decide) ?_
  obtain ⟨u1, hu1, hf⟩ := x_b hf
  refine x_callS (n := 4) (As := [.ref (b 1), .int (0 : Int32), .ref (b 4), .int (0 : Int32)]) (rest := []) C (c_X10_copiesD g l (b 1) 110 (b 4) 110 s d (0 : Int32) (0 : Int32) hu1) ⟨⟨wd_1561, wd_1559, wd_78⟩, ⟨by decide, by decide, by decide⟩, rfl, rfl, Nat.le_of_ble_eq_true rfl, Nat.le_of_ble_eq_true rfl⟩ wd_1560 [mdO g b (m.1, (0 : Int32), m.2.2.1, m.2.2.2.1, m.2.2.2.2.1, m.2.2.2.2.2.1, m.2.2.2.2.2.2.1, m.2.2.2.2.2.2.2.1, m.2.2.2.2.2.2.2.2.1, m.2.2.2.2.2.2.2.2.2)] (x_pickD [1, 2, 0] 3 rfl rfl rfl) rfl rfl (Nat.le_of_ble_eq_true rfl) ⟨Nat.le_of_ble_eq_true rfl, Nat.le_of_ble_eq_true rfl⟩ dX10_save_15 (x_goD (wss2 := [iaW g (b 1) 110 s, iaW g (b 4) 110 u1, mdO g b (m.1, (0 : Int32), m.2.2.1, m.2.2.2.1, m.2.2.2.2.1, m.2.2.2.2.2.1, m.2.2.2.2.2.2.1, m.2.2.2.2.2.2.2.1, m.2.2.2.2.2.2.2.2.1, m.2.2.2.2.2.2.2.2.2)]) (stk2 := []) rfl rfl ?_)
  refine x_aload_n C dX10_save_18 rfl 0 rfl ?_
  refine x_iconst (v := 1) C dX10_save_19 (by decide) ?_
  refine x_put (ci := 11) (ty := .boolean) (v := .int (1 : Int32)) (b := mdO g b (m.1, (0 : Int32), m.2.2.1, m.2.2.2.1, m.2.2.2.2.1, m.2.2.2.2.2.1, m.2.2.2.2.2.2.1, m.2.2.2.2.2.2.2.1, m.2.2.2.2.2.2.2.2.1, m.2.2.2.2.2.2.2.2.2)) (b' := mdO g b (m.1, (0 : Int32), m.2.2.1, m.2.2.2.1, m.2.2.2.2.1, (1 : Int32), m.2.2.2.2.2.2.1, m.2.2.2.2.2.2.2.1, m.2.2.2.2.2.2.2.2.1, m.2.2.2.2.2.2.2.2.2)) (wss' := [iaW g (b 1) 110 s, iaW g (b 4) 110 u1, mdO g b (m.1, (0 : Int32), m.2.2.1, m.2.2.2.1, m.2.2.2.2.1, (1 : Int32), m.2.2.2.2.2.2.1, m.2.2.2.2.2.2.2.1, m.2.2.2.2.2.2.2.2.1, m.2.2.2.2.2.2.2.2.2)]) C ixX10 tyX10 tyX10_ok nmX10 rfl 10 (by decide) wd_1502 (fun _ h => h) rfl (tyX10_ok 10 (by decide)) rfl rfl 2 rfl 0 (mdO_at0 g b _) (Nat.le_of_ble_eq_true rfl) rfl rfl dX10_save_20 ?_
  refine x_aload_n C dX10_save_23 rfl 0 rfl ?_
  refine x_get (ci := 11) (v := .ref (b 1)) (b := mdO g b (m.1, (0 : Int32), m.2.2.1, m.2.2.2.1, m.2.2.2.2.1, (1 : Int32), m.2.2.2.2.2.2.1, m.2.2.2.2.2.2.2.1, m.2.2.2.2.2.2.2.2.1, m.2.2.2.2.2.2.2.2.2)) C ixX10 rfl 0 (by decide) wd_1492 (fun _ h => h) 2 rfl 0 (mdO_at0 g b _) rfl dX10_save_24 ?_
  refine x_iconst (v := 3) C dX10_save_27 (by decide) ?_
  obtain ⟨h2, hf⟩ := x_n hf
  refine x_iald (b := iaW g (b 1) 110 s) C 0 rfl 0 (iaW_at0 g (b 1) 110 _) h2 dX10_save_28 ?_
  refine x_perm (wss' := [mdO g b (m.1, (0 : Int32), m.2.2.1, m.2.2.2.1, m.2.2.2.2.1, (1 : Int32), m.2.2.2.2.2.2.1, m.2.2.2.2.2.2.2.1, m.2.2.2.2.2.2.2.2.1, m.2.2.2.2.2.2.2.2.2), iaW g (b 1) 110 s, iaW g (b 4) 110 u1]) (x_pick [2, 0, 1] 3 rfl rfl rfl) ?_
  exact x_iret C hr ⟨by cases hf; rfl, by cases hf; rfl⟩ dX10_save_29
theorem dX10_restore_0 : decode cX10_restore 0 = .ok (.aload_n 0, 1) := by decide +kernel
theorem dX10_restore_1 : decode cX10_restore 1 = .ok (.aload_n 0, 1) := by decide +kernel
theorem dX10_restore_2 : decode cX10_restore 2 = .ok (.getfield 243, 3) := by decide +kernel
theorem dX10_restore_5 : decode cX10_restore 5 = .ok (.ifCond .ne 7, 3) := by decide +kernel
theorem dX10_restore_8 : decode cX10_restore 8 = .ok (.iconst 1, 1) := by decide +kernel
theorem dX10_restore_9 : decode cX10_restore 9 = .ok (.goto 4, 3) := by decide +kernel
theorem dX10_restore_12 : decode cX10_restore 12 = .ok (.iconst 0, 1) := by decide +kernel
theorem dX10_restore_13 : decode cX10_restore 13 = .ok (.iconst 1, 1) := by decide +kernel
theorem dX10_restore_14 : decode cX10_restore 14 = .ok (.invokevirtual 63, 3) := by decide +kernel
theorem dX10_restore_17 : decode cX10_restore 17 = .ok (.ifCond .eq 5, 3) := by decide +kernel
theorem dX10_restore_20 : decode cX10_restore 20 = .ok (.iconst 0, 1) := by decide +kernel
theorem dX10_restore_21 : decode cX10_restore 21 = .ok (.ireturn, 1) := by decide +kernel
theorem dX10_restore_22 : decode cX10_restore 22 = .ok (.aload_n 0, 1) := by decide +kernel
theorem dX10_restore_23 : decode cX10_restore 23 = .ok (.getfield 19, 3) := by decide +kernel
theorem dX10_restore_26 : decode cX10_restore 26 = .ok (.iconst 0, 1) := by decide +kernel
theorem dX10_restore_27 : decode cX10_restore 27 = .ok (.aload_n 0, 1) := by decide +kernel
theorem dX10_restore_28 : decode cX10_restore 28 = .ok (.getfield 9, 3) := by decide +kernel
theorem dX10_restore_31 : decode cX10_restore 31 = .ok (.iconst 0, 1) := by decide +kernel
theorem dX10_restore_32 : decode cX10_restore 32 = .ok (.invokestatic 44, 3) := by decide +kernel
theorem dX10_restore_35 : decode cX10_restore 35 = .ok (.aload_n 0, 1) := by decide +kernel
theorem dX10_restore_36 : decode cX10_restore 36 = .ok (.iconst 0, 1) := by decide +kernel
theorem dX10_restore_37 : decode cX10_restore 37 = .ok (.putfield 48, 3) := by decide +kernel
theorem dX10_restore_40 : decode cX10_restore 40 = .ok (.aload_n 0, 1) := by decide +kernel
theorem dX10_restore_41 : decode cX10_restore 41 = .ok (.getfield 9, 3) := by decide +kernel
theorem dX10_restore_44 : decode cX10_restore 44 = .ok (.iconst 3, 1) := by decide +kernel
theorem dX10_restore_45 : decode cX10_restore 45 = .ok (.iaload, 1) := by decide +kernel
theorem dX10_restore_46 : decode cX10_restore 46 = .ok (.ireturn, 1) := by decide +kernel
set_option maxHeartbeats 4000000 in
set_option maxRecDepth 100000 in
theorem c_X10_restore (g : xG) (l : Launch) (b : Nat → Nat) (m : MdT) (s : (Nat → Int32)) (d : (Nat → Int32))  {u : Int32 × MdT × (Nat → Int32)} (hf : f_X10_restore m s d = some u) : ConD g l yX10_restore cX10_restore 1 (some .int) ({ frames := 1, cells := 0, slots := 0, locals := 24 } : Room) [.ref (b 0)] [mdO g b m, iaW g (b 1) 110 s, iaW g (b 4) 110 d] (some (.int u.1)) [mdO g b u.2.1, iaW g (b 1) 110 u.2.2, iaW g (b 4) 110 d] := by
  unfold f_X10_restore at hf
  refine Con_of [mdO g b m, iaW g (b 1) 110 s, iaW g (b 4) 110 d] [(0, .ref (b 0))] rfl rfl (by decide) (Nat.le_of_ble_eq_true rfl) ?_
  intro pW eW sW mW argsW belowW methW c9 C hnm hr
  have C : CX g RX10 cX10_restore 1 _ pW sW mW argsW methW c9 := C
  have hL13 : ∀ (mL : MdT) (sL : (Nat → Int32)) (y0 : Int32), f_X10_restore_13 mL sL d y0 = some u → VW g (va_A ([mdO g b m, iaW g (b 1) 110 s, iaW g (b 4) 110 d] : List va_W).flatten sW.heap.size) 1 pW l eW ({ frames := 1, cells := 0, slots := 0, locals := 24 } : Room) sW mW argsW belowW methW c9 0 0 (MQ belowW (xQc g ([mdO g b m, iaW g (b 1) 110 s, iaW g (b 4) 110 d] : List va_W).flatten sW.heap.size (fun v9 w9 => v9 = some (.int u.1) ∧ w9 = ([mdO g b u.2.1, iaW g (b 1) 110 u.2.2, iaW g (b 4) 110 d] : List va_W).flatten)) argsW sW 0 0 (va_A ([mdO g b m, iaW g (b 1) 110 s, iaW g (b 4) 110 d] : List va_W).flatten sW.heap.size)) [mdO g b mL, iaW g (b 1) 110 sL, iaW g (b 4) 110 d] [(0, .ref (b 0))] 13 [.int y0, .ref (b 0)] := by
    intro mL sL y0 hf
    unfold f_X10_restore_13 at hf
    refine x_iconst (v := 1) C dX10_restore_13 (by decide) ?_
    obtain ⟨u1, hu1, hf⟩ := x_b hf
    refine x_callV (n := 2) (As := [.int y0, .int (1 : Int32)]) (rest := []) C (c_X10_isThrown g l b mL y0 (1 : Int32) hu1) ⟨⟨wd_1575, wd_1572, wd_78⟩, ⟨by decide, by decide, by decide⟩, rfl, rfl, Nat.le_of_ble_eq_true rfl, Nat.le_of_ble_eq_true rfl⟩ wd_1574 wd_26 ⟨0, 11, _, _, rfl, rfl, rfl⟩ [iaW g (b 1) 110 sL, iaW g (b 4) 110 d] (x_pickD [0, 1, 2] 3 rfl rfl rfl) rfl rfl (Nat.le_of_ble_eq_true rfl) ⟨Nat.le_of_ble_eq_true rfl, Nat.le_of_ble_eq_true rfl⟩ dX10_restore_14 (x_goD (wss2 := [mdO g b u1.2, iaW g (b 1) 110 sL, iaW g (b 4) 110 d]) (stk2 := [.int u1.1]) rfl rfl ?_)
    refine x_if_eq (tgt := 22) C dX10_restore_17 (by decide) (fun h2 => ?_) (fun h2 => ?_)
    · have hf := x_t h2 hf
      refine x_aload_n C dX10_restore_22 rfl 0 rfl ?_
      refine x_get (ci := 11) (v := .ref (b 4)) (b := mdO g b u1.2) C ixX10 rfl 3 (by decide) wd_1495 (fun _ h => h) 0 rfl 0 (mdO_at0 g b _) rfl dX10_restore_23 ?_
      refine x_iconst (v := 0) C dX10_restore_26 (by decide) ?_
      refine x_aload_n C dX10_restore_27 rfl 0 rfl ?_
      refine x_get (ci := 11) (v := .ref (b 1)) (b := mdO g b u1.2) C ixX10 rfl 0 (by decide) wd_1492 (fun _ h => h) 0 rfl 0 (mdO_at0 g b _) rfl dX10_restore_28 ?_
      refine x_iconst (v := 0) C dX10_restore_31 (by decide) ?_
      obtain ⟨u3, hu3, hf⟩ := x_b hf
      refine x_callS (n := 4) (As := [.ref (b 4), .int (0 : Int32), .ref (b 1), .int (0 : Int32)]) (rest := []) C (c_X10_copiesD g l (b 4) 110 (b 1) 110 d sL (0 : Int32) (0 : Int32) hu3) ⟨⟨wd_1561, wd_1559, wd_78⟩, ⟨by decide, by decide, by decide⟩, rfl, rfl, Nat.le_of_ble_eq_true rfl, Nat.le_of_ble_eq_true rfl⟩ wd_1560 [mdO g b u1.2] (x_pickD [2, 1, 0] 3 rfl rfl rfl) rfl rfl (Nat.le_of_ble_eq_true rfl) ⟨Nat.le_of_ble_eq_true rfl, Nat.le_of_ble_eq_true rfl⟩ dX10_restore_32 (x_goD (wss2 := [iaW g (b 4) 110 d, iaW g (b 1) 110 u3, mdO g b u1.2]) (stk2 := []) rfl rfl ?_)
      refine x_aload_n C dX10_restore_35 rfl 0 rfl ?_
      refine x_iconst (v := 0) C dX10_restore_36 (by decide) ?_
      refine x_put (ci := 11) (ty := .int) (v := .int (0 : Int32)) (b := mdO g b u1.2) (b' := mdO g b ((0 : Int32), u1.2.2.1, u1.2.2.2.1, u1.2.2.2.2.1, u1.2.2.2.2.2.1, u1.2.2.2.2.2.2.1, u1.2.2.2.2.2.2.2.1, u1.2.2.2.2.2.2.2.2.1, u1.2.2.2.2.2.2.2.2.2.1, u1.2.2.2.2.2.2.2.2.2.2)) (wss' := [iaW g (b 4) 110 d, iaW g (b 1) 110 u3, mdO g b ((0 : Int32), u1.2.2.1, u1.2.2.2.1, u1.2.2.2.2.1, u1.2.2.2.2.2.1, u1.2.2.2.2.2.2.1, u1.2.2.2.2.2.2.2.1, u1.2.2.2.2.2.2.2.2.1, u1.2.2.2.2.2.2.2.2.2.1, u1.2.2.2.2.2.2.2.2.2.2)]) C ixX10 tyX10 tyX10_ok nmX10 rfl 5 (by decide) wd_1497 (fun _ h => h) rfl (tyX10_ok 5 (by decide)) rfl rfl 2 rfl 0 (mdO_at0 g b _) (Nat.le_of_ble_eq_true rfl) rfl rfl dX10_restore_37 ?_
      refine x_aload_n C dX10_restore_40 rfl 0 rfl ?_
      refine x_get (ci := 11) (v := .ref (b 1)) (b := mdO g b ((0 : Int32), u1.2.2.1, u1.2.2.2.1, u1.2.2.2.2.1, u1.2.2.2.2.2.1, u1.2.2.2.2.2.2.1, u1.2.2.2.2.2.2.2.1, u1.2.2.2.2.2.2.2.2.1, u1.2.2.2.2.2.2.2.2.2.1, u1.2.2.2.2.2.2.2.2.2.2)) C ixX10 rfl 0 (by decide) wd_1492 (fun _ h => h) 2 rfl 0 (mdO_at0 g b _) rfl dX10_restore_41 ?_
      refine x_iconst (v := 3) C dX10_restore_44 (by decide) ?_
      obtain ⟨h4, hf⟩ := x_n hf
      refine x_iald (b := iaW g (b 1) 110 u3) C 1 rfl 0 (iaW_at0 g (b 1) 110 _) h4 dX10_restore_45 ?_
      refine x_perm (wss' := [mdO g b ((0 : Int32), u1.2.2.1, u1.2.2.2.1, u1.2.2.2.2.1, u1.2.2.2.2.2.1, u1.2.2.2.2.2.2.1, u1.2.2.2.2.2.2.2.1, u1.2.2.2.2.2.2.2.2.1, u1.2.2.2.2.2.2.2.2.2.1, u1.2.2.2.2.2.2.2.2.2.2), iaW g (b 1) 110 u3, iaW g (b 4) 110 d]) (x_pick [2, 1, 0] 3 rfl rfl rfl) ?_
      exact x_iret C hr ⟨by cases hf; rfl, by cases hf; rfl⟩ dX10_restore_46
    · have hf := x_f h2 hf
      refine x_iconst (v := 0) C dX10_restore_20 (by decide) ?_
      exact x_iret C hr ⟨by cases hf; rfl, by cases hf; rfl⟩ dX10_restore_21
  refine x_aload_n C dX10_restore_0 rfl 0 rfl ?_
  refine x_aload_n C dX10_restore_1 rfl 0 rfl ?_
  refine x_get (ci := 11) (v := .int m.2.2.2.2.2.1) (b := mdO g b m) C ixX10 rfl 10 (by decide) wd_1502 (fun _ h => h) 0 rfl 0 (mdO_at0 g b _) rfl dX10_restore_2 ?_
  refine x_if_ne (tgt := 12) C dX10_restore_5 (by decide) (fun h1 => ?_) (fun h1 => ?_)
  · have hf := x_f h1 hf
    refine x_iconst (v := 0) C dX10_restore_12 (by decide) ?_
    exact hL13 m s (0 : Int32) hf
  · have hf := x_t h1 hf
    refine x_iconst (v := 1) C dX10_restore_8 (by decide) ?_
    refine x_goto (tgt := 13) C dX10_restore_9 (by decide) ?_
    exact hL13 m s (1 : Int32) hf
