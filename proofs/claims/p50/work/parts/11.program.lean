/-! PROGRAM, HISTORY: pure functions and contracts, by program (wip/p50/build_all.py) -/
theorem dJ3_checkIndex_8e157_0 : decode cJ3_checkIndex_8e157 0 = .ok (.iload_n 0, 1) := by decide +kernel
theorem dJ3_checkIndex_8e157_1 : decode cJ3_checkIndex_8e157 1 = .ok (.ifCond .lt 8, 3) := by decide +kernel
theorem dJ3_checkIndex_8e157_4 : decode cJ3_checkIndex_8e157 4 = .ok (.iload_n 0, 1) := by decide +kernel
theorem dJ3_checkIndex_8e157_5 : decode cJ3_checkIndex_8e157 5 = .ok (.iload_n 1, 1) := by decide +kernel
theorem dJ3_checkIndex_8e157_6 : decode cJ3_checkIndex_8e157 6 = .ok (.if_icmp .lt 10, 3) := by decide +kernel
theorem dJ3_checkIndex_8e157_9 : decode cJ3_checkIndex_8e157 9 = .ok (.aload_n 2, 1) := by decide +kernel
theorem dJ3_checkIndex_8e157_10 : decode cJ3_checkIndex_8e157 10 = .ok (.iload_n 0, 1) := by decide +kernel
theorem dJ3_checkIndex_8e157_11 : decode cJ3_checkIndex_8e157 11 = .ok (.iload_n 1, 1) := by decide +kernel
theorem dJ3_checkIndex_8e157_12 : decode cJ3_checkIndex_8e157 12 = .ok (.invokestatic 95, 3) := by decide +kernel
theorem dJ3_checkIndex_8e157_15 : decode cJ3_checkIndex_8e157 15 = .ok (.athrow, 1) := by decide +kernel
theorem dJ3_checkIndex_8e157_16 : decode cJ3_checkIndex_8e157 16 = .ok (.iload_n 0, 1) := by decide +kernel
theorem dJ3_checkIndex_8e157_17 : decode cJ3_checkIndex_8e157 17 = .ok (.ireturn, 1) := by decide +kernel
set_option maxHeartbeats 4000000 in
set_option maxRecDepth 100000 in
theorem c_J3_checkIndex_8e157_n (g : xG) (l : Launch)   (x0 : Int32) (x1 : Int32) {u : Int32} (hf : f_J3_checkIndex_8e157_n x0 x1 = some u) : ConD g l yJ3_checkIndex_8e157 cJ3_checkIndex_8e157 3 (some .int) ({ frames := 0, cells := 0, slots := 0, locals := 0 } : Room) [.int x0, .int x1, .null] [] (some (.int u)) [] := by
  unfold f_J3_checkIndex_8e157_n at hf
  refine Con_of [] [(0, .int x0), (1, .int x1), (2, .null)] rfl rfl (by decide) (Nat.le_of_ble_eq_true rfl) ?_
  intro pW eW sW mW argsW belowW methW c9 C hnm hr
  have C : CX g RJ3 cJ3_checkIndex_8e157 3 _ pW sW mW argsW methW c9 := C
  refine x_iload_n C dJ3_checkIndex_8e157_0 rfl 0 rfl ?_
  refine x_if_lt (tgt := 9) C dJ3_checkIndex_8e157_1 (by decide) (fun h1 => ?_) (fun h1 => ?_)
  · have hf := x_t h1 hf
    cases hf
  · have hf := x_f h1 hf
    refine x_iload_n C dJ3_checkIndex_8e157_4 rfl 0 rfl ?_
    refine x_iload_n C dJ3_checkIndex_8e157_5 rfl 1 rfl ?_
    refine x_icmp_lt (tgt := 16) C dJ3_checkIndex_8e157_6 (by decide) (fun h2 => ?_) (fun h2 => ?_)
    · have hf := x_t h2 hf
      refine x_iload_n C dJ3_checkIndex_8e157_16 rfl 0 rfl ?_
      exact x_iret C hr ⟨by cases hf; rfl, by cases hf; rfl⟩ dJ3_checkIndex_8e157_17
    · have hf := x_f h2 hf
      cases hf
set_option maxHeartbeats 4000000 in
set_option maxRecDepth 100000 in
theorem c_J3_checkIndex_8e157_r (g : xG) (l : Launch) (t : Nat)  (x0 : Int32) (x1 : Int32) {u : Int32} (hf : f_J3_checkIndex_8e157_r x0 x1 = some u) : ConD g l yJ3_checkIndex_8e157 cJ3_checkIndex_8e157 3 (some .int) ({ frames := 0, cells := 0, slots := 0, locals := 0 } : Room) [.int x0, .int x1, .ref t] [] (some (.int u)) [] := by
  unfold f_J3_checkIndex_8e157_r at hf
  refine Con_of [] [(0, .int x0), (1, .int x1), (2, .ref t)] rfl rfl (by decide) (Nat.le_of_ble_eq_true rfl) ?_
  intro pW eW sW mW argsW belowW methW c9 C hnm hr
  have C : CX g RJ3 cJ3_checkIndex_8e157 3 _ pW sW mW argsW methW c9 := C
  refine x_iload_n C dJ3_checkIndex_8e157_0 rfl 0 rfl ?_
  refine x_if_lt (tgt := 9) C dJ3_checkIndex_8e157_1 (by decide) (fun h1 => ?_) (fun h1 => ?_)
  · have hf := x_t h1 hf
    cases hf
  · have hf := x_f h1 hf
    refine x_iload_n C dJ3_checkIndex_8e157_4 rfl 0 rfl ?_
    refine x_iload_n C dJ3_checkIndex_8e157_5 rfl 1 rfl ?_
    refine x_icmp_lt (tgt := 16) C dJ3_checkIndex_8e157_6 (by decide) (fun h2 => ?_) (fun h2 => ?_)
    · have hf := x_t h2 hf
      refine x_iload_n C dJ3_checkIndex_8e157_16 rfl 0 rfl ?_
      exact x_iret C hr ⟨by cases hf; rfl, by cases hf; rfl⟩ dJ3_checkIndex_8e157_17
    · have hf := x_f h2 hf
      cases hf
theorem c_J3_checkIndex_8e157 (g : xG) (l : Launch) (x0 x1 : Int32) {u : Int32} (hf : f_J3_checkIndex_8e157 x0 x1 = some u) : ConD g l yJ3_checkIndex_8e157 cJ3_checkIndex_8e157 3 (some .int) ({ frames := 0, cells := 0, slots := 0, locals := 0 } : Room) [.int x0, .int x1, va_rf (xfm g)] [] (some (.int u)) [] := by
  cases h : xfm g with
  | none => exact c_J3_checkIndex_8e157_n g l x0 x1 hf
  | some t => exact c_J3_checkIndex_8e157_r g l t x0 x1 hf
theorem wd_982 : Cond.fieldLink RX6 21 "CandleConcert$Program" "length" "I" ∈ xTB := xTB_in 982 (by decide +kernel) (by decide +kernel)
theorem dX6_isFull_0 : decode cX6_isFull 0 = .ok (.aload_n 0, 1) := by decide +kernel
theorem dX6_isFull_1 : decode cX6_isFull 1 = .ok (.getfield 21, 3) := by decide +kernel
theorem dX6_isFull_4 : decode cX6_isFull 4 = .ok (.bipush 60, 2) := by decide +kernel
theorem dX6_isFull_6 : decode cX6_isFull 6 = .ok (.if_icmp .lt 7, 3) := by decide +kernel
theorem dX6_isFull_9 : decode cX6_isFull 9 = .ok (.iconst 1, 1) := by decide +kernel
theorem dX6_isFull_10 : decode cX6_isFull 10 = .ok (.goto 4, 3) := by decide +kernel
theorem dX6_isFull_13 : decode cX6_isFull 13 = .ok (.iconst 0, 1) := by decide +kernel
theorem dX6_isFull_14 : decode cX6_isFull 14 = .ok (.ireturn, 1) := by decide +kernel
set_option maxHeartbeats 4000000 in
set_option maxRecDepth 100000 in
theorem c_X6_isFull (g : xG) (l : Launch) (b : Nat → Nat) (q : PrT)  {u : Int32} (hf : f_X6_isFull q = some u) : ConD g l yX6_isFull cX6_isFull 1 (some .boolean) ({ frames := 0, cells := 0, slots := 0, locals := 0 } : Room) [.ref (b 0)] [prO g b q] (some (.int u)) [prO g b q] := by
  unfold f_X6_isFull at hf
  refine Con_of [prO g b q] [(0, .ref (b 0))] rfl rfl (by decide) (Nat.le_of_ble_eq_true rfl) ?_
  intro pW eW sW mW argsW belowW methW c9 C hnm hr
  have C : CX g RX6 cX6_isFull 1 _ pW sW mW argsW methW c9 := C
  refine x_aload_n C dX6_isFull_0 rfl 0 rfl ?_
  refine x_get (ci := 8) (v := .int q.2.1) (b := prO g b q) C ixX6 rfl 2 (by decide) wd_982 (fun _ h => h) 0 rfl 0 (prO_at0 g b _) rfl dX6_isFull_1 ?_
  refine x_bipush (v := 60) C dX6_isFull_4 (by decide) ?_
  refine x_icmp_lt (tgt := 13) C dX6_isFull_6 (by decide) (fun h1 => ?_) (fun h1 => ?_)
  · have hf := x_t h1 hf
    refine x_iconst (v := 0) C dX6_isFull_13 (by decide) ?_
    exact x_zret C hr rfl ⟨by cases hf; rfl, by cases hf; rfl⟩ dX6_isFull_14
  · have hf := x_f h1 hf
    refine x_iconst (v := 1) C dX6_isFull_9 (by decide) ?_
    refine x_goto (tgt := 14) C dX6_isFull_10 (by decide) ?_
    exact x_zret C hr rfl ⟨by cases hf; rfl, by cases hf; rfl⟩ dX6_isFull_14
theorem wd_30 : Cond.initialized RX6 ∈ xTB := xTB_in 30 (by decide +kernel) (by decide +kernel)
theorem wd_979 : Cond.fieldLink RX6 9 "CandleConcert$Program" "text" "[C" ∈ xTB := xTB_in 979 (by decide +kernel) (by decide +kernel)
theorem wd_1136 : Cond.instanceMethod yX6_isFull ∈ xTB := xTB_in 1136 (by decide +kernel) (by decide +kernel)
theorem wd_1137 : Cond.selects yX6_isFull.cls yX6_isFull yX6_isFull ∈ xTB := xTB_in 1137 (by decide +kernel) (by decide +kernel)
theorem wd_1138 : Cond.code yX6_isFull cX6_isFull 1 (some .boolean) ∈ xTB := xTB_in 1138 (by decide +kernel) (by decide +kernel)
theorem wd_1144 : Cond.methodLink RX6 32 yX6_isFull ∈ xTB := xTB_in 1144 (by decide +kernel) (by decide +kernel)
theorem dX6_append_0 : decode cX6_append 0 = .ok (.aload_n 0, 1) := by decide +kernel
theorem dX6_append_1 : decode cX6_append 1 = .ok (.invokevirtual 32, 3) := by decide +kernel
theorem dX6_append_4 : decode cX6_append 4 = .ok (.ifCond .ne 23, 3) := by decide +kernel
theorem dX6_append_7 : decode cX6_append 7 = .ok (.aload_n 0, 1) := by decide +kernel
theorem dX6_append_8 : decode cX6_append 8 = .ok (.getfield 9, 3) := by decide +kernel
theorem dX6_append_11 : decode cX6_append 11 = .ok (.aload_n 0, 1) := by decide +kernel
theorem dX6_append_12 : decode cX6_append 12 = .ok (.getfield 21, 3) := by decide +kernel
theorem dX6_append_15 : decode cX6_append 15 = .ok (.iload_n 1, 1) := by decide +kernel
theorem dX6_append_16 : decode cX6_append 16 = .ok (.castore, 1) := by decide +kernel
theorem dX6_append_17 : decode cX6_append 17 = .ok (.aload_n 0, 1) := by decide +kernel
theorem dX6_append_18 : decode cX6_append 18 = .ok (.dup, 1) := by decide +kernel
theorem dX6_append_19 : decode cX6_append 19 = .ok (.getfield 21, 3) := by decide +kernel
theorem dX6_append_22 : decode cX6_append 22 = .ok (.iconst 1, 1) := by decide +kernel
theorem dX6_append_23 : decode cX6_append 23 = .ok (.iadd, 1) := by decide +kernel
theorem dX6_append_24 : decode cX6_append 24 = .ok (.putfield 21, 3) := by decide +kernel
theorem dX6_append_27 : decode cX6_append 27 = .ok (.aload_n 0, 1) := by decide +kernel
theorem dX6_append_28 : decode cX6_append 28 = .ok (.getfield 21, 3) := by decide +kernel
theorem dX6_append_31 : decode cX6_append 31 = .ok (.ireturn, 1) := by decide +kernel
set_option maxHeartbeats 4000000 in
set_option maxRecDepth 100000 in
theorem c_X6_append (g : xG) (l : Launch) (b : Nat → Nat) (q : PrT) (x1 : Int32) {u : Int32 × PrT} (hf : f_X6_append q x1 = some u) : ConD g l yX6_append cX6_append 2 (some .int) ({ frames := 1, cells := 0, slots := 0, locals := 20 } : Room) [.ref (b 0), .int x1] [prO g b q] (some (.int u.1)) [prO g b u.2] := by
  unfold f_X6_append at hf
  refine Con_of [prO g b q] [(0, .ref (b 0)), (1, .int x1)] rfl rfl (by decide) (Nat.le_of_ble_eq_true rfl) ?_
  intro pW eW sW mW argsW belowW methW c9 C hnm hr
  have C : CX g RX6 cX6_append 2 _ pW sW mW argsW methW c9 := C
  refine x_aload_n C dX6_append_0 rfl 0 rfl ?_
  obtain ⟨u1, hu1, hf⟩ := x_b hf
  refine x_callV (n := 0) (As := []) (rest := []) C (c_X6_isFull g l b q hu1) ⟨⟨wd_1138, wd_1144, wd_30⟩, ⟨by decide, by decide, by decide⟩, rfl, rfl, Nat.le_of_ble_eq_true rfl, Nat.le_of_ble_eq_true rfl⟩ wd_1136 wd_1137 ⟨0, 8, _, _, rfl, rfl, rfl⟩ [] (x_pickD [0] 1 rfl rfl rfl) rfl rfl (Nat.le_of_ble_eq_true rfl) ⟨Nat.le_of_ble_eq_true rfl, Nat.le_of_ble_eq_true rfl⟩ dX6_append_1 (x_goD (wss2 := [prO g b q]) (stk2 := [.int u1]) rfl rfl ?_)
  refine x_if_ne (tgt := 27) C dX6_append_4 (by decide) (fun h2 => ?_) (fun h2 => ?_)
  · have hf := x_f h2 hf
    refine x_aload_n C dX6_append_27 rfl 0 rfl ?_
    refine x_get (ci := 8) (v := .int q.2.1) (b := prO g b q) C ixX6 rfl 2 (by decide) wd_982 (fun _ h => h) 0 rfl 0 (prO_at0 g b _) rfl dX6_append_28 ?_
    exact x_iret C hr ⟨by cases hf; rfl, by cases hf; rfl⟩ dX6_append_31
  · have hf := x_t h2 hf
    refine x_aload_n C dX6_append_7 rfl 0 rfl ?_
    refine x_get (ci := 8) (v := .ref (b 1)) (b := prO g b q) C ixX6 rfl 0 (by decide) wd_979 (fun _ h => h) 0 rfl 0 (prO_at0 g b _) rfl dX6_append_8 ?_
    refine x_aload_n C dX6_append_11 rfl 0 rfl ?_
    refine x_get (ci := 8) (v := .int q.2.1) (b := prO g b q) C ixX6 rfl 2 (by decide) wd_982 (fun _ h => h) 0 rfl 0 (prO_at0 g b _) rfl dX6_append_12 ?_
    refine x_iload_n C dX6_append_15 rfl 1 rfl ?_
    obtain ⟨h3, hf⟩ := x_n hf
    refine x_cast (b := prO g b q) (b' := prO g b (upd q.1 q.2.1.toNatClampNeg (vp_nar .char x1), q.2.1, q.2.2.1, q.2.2.2)) (wss' := [prO g b (upd q.1 q.2.1.toNatClampNeg (vp_nar .char x1), q.2.1, q.2.2.1, q.2.2.2)]) C 0 rfl 1 (prO_at1 g b _) h3 rfl rfl dX6_append_16 ?_
    refine x_aload_n C dX6_append_17 rfl 0 rfl ?_
    refine x_dup C dX6_append_18 rfl ?_
    refine x_get (ci := 8) (v := .int q.2.1) (b := prO g b (upd q.1 q.2.1.toNatClampNeg (vp_nar .char x1), q.2.1, q.2.2.1, q.2.2.2)) C ixX6 rfl 2 (by decide) wd_982 (fun _ h => h) 0 rfl 0 (prO_at0 g b _) rfl dX6_append_19 ?_
    refine x_iconst (v := 1) C dX6_append_22 (by decide) ?_
    refine x_iadd C dX6_append_23 ?_
    refine x_put (ci := 8) (ty := .int) (v := .int (q.2.1 + (1 : Int32))) (b := prO g b (upd q.1 q.2.1.toNatClampNeg (vp_nar .char x1), q.2.1, q.2.2.1, q.2.2.2)) (b' := prO g b (upd q.1 q.2.1.toNatClampNeg (vp_nar .char x1), q.2.1 + (1 : Int32), q.2.2.1, q.2.2.2)) (wss' := [prO g b (upd q.1 q.2.1.toNatClampNeg (vp_nar .char x1), q.2.1 + (1 : Int32), q.2.2.1, q.2.2.2)]) C ixX6 tyX6 tyX6_ok nmX6 rfl 2 (by decide) wd_982 (fun _ h => h) rfl (tyX6_ok 2 (by decide)) rfl rfl 0 rfl 0 (prO_at0 g b _) (Nat.le_of_ble_eq_true rfl) rfl rfl dX6_append_24 ?_
    refine x_aload_n C dX6_append_27 rfl 0 rfl ?_
    refine x_get (ci := 8) (v := .int (q.2.1 + (1 : Int32))) (b := prO g b (upd q.1 q.2.1.toNatClampNeg (vp_nar .char x1), q.2.1 + (1 : Int32), q.2.2.1, q.2.2.2)) C ixX6 rfl 2 (by decide) wd_982 (fun _ h => h) 0 rfl 0 (prO_at0 g b _) rfl dX6_append_28 ?_
    exact x_iret C hr ⟨by cases hf; rfl, by cases hf; rfl⟩ dX6_append_31
theorem dX6_clear_0 : decode cX6_clear 0 = .ok (.aload_n 0, 1) := by decide +kernel
theorem dX6_clear_1 : decode cX6_clear 1 = .ok (.iconst 0, 1) := by decide +kernel
theorem dX6_clear_2 : decode cX6_clear 2 = .ok (.putfield 21, 3) := by decide +kernel
theorem dX6_clear_5 : decode cX6_clear 5 = .ok (.return_, 1) := by decide +kernel
set_option maxHeartbeats 4000000 in
set_option maxRecDepth 100000 in
theorem c_X6_clear (g : xG) (l : Launch) (b : Nat → Nat) (q : PrT)  {u : PrT} (hf : f_X6_clear q = some u) : ConD g l yX6_clear cX6_clear 1 none ({ frames := 0, cells := 0, slots := 0, locals := 0 } : Room) [.ref (b 0)] [prO g b q] (none) [prO g b u] := by
  unfold f_X6_clear at hf
  refine Con_of [prO g b q] [(0, .ref (b 0))] rfl rfl (by decide) (Nat.le_of_ble_eq_true rfl) ?_
  intro pW eW sW mW argsW belowW methW c9 C hnm hr
  have C : CX g RX6 cX6_clear 1 _ pW sW mW argsW methW c9 := C
  refine x_aload_n C dX6_clear_0 rfl 0 rfl ?_
  refine x_iconst (v := 0) C dX6_clear_1 (by decide) ?_
  refine x_put (ci := 8) (ty := .int) (v := .int (0 : Int32)) (b := prO g b q) (b' := prO g b (q.1, (0 : Int32), q.2.2.1, q.2.2.2)) (wss' := [prO g b (q.1, (0 : Int32), q.2.2.1, q.2.2.2)]) C ixX6 tyX6 tyX6_ok nmX6 rfl 2 (by decide) wd_982 (fun _ h => h) rfl (tyX6_ok 2 (by decide)) rfl rfl 0 rfl 0 (prO_at0 g b _) (Nat.le_of_ble_eq_true rfl) rfl rfl dX6_clear_2 ?_
  exact x_vret C hr ⟨by cases hf; rfl, by cases hf; rfl⟩ dX6_clear_5
theorem wd_985 : Cond.fieldLink RX6 28 "CandleConcert$Program" "position" "I" ∈ xTB := xTB_in 985 (by decide +kernel) (by decide +kernel)
theorem dX6_accept_0 : decode cX6_accept 0 = .ok (.aload_n 0, 1) := by decide +kernel
theorem dX6_accept_1 : decode cX6_accept 1 = .ok (.getfield 28, 3) := by decide +kernel
theorem dX6_accept_4 : decode cX6_accept 4 = .ok (.aload_n 0, 1) := by decide +kernel
theorem dX6_accept_5 : decode cX6_accept 5 = .ok (.getfield 21, 3) := by decide +kernel
theorem dX6_accept_8 : decode cX6_accept 8 = .ok (.if_icmp .ge 16, 3) := by decide +kernel
theorem dX6_accept_11 : decode cX6_accept 11 = .ok (.aload_n 0, 1) := by decide +kernel
theorem dX6_accept_12 : decode cX6_accept 12 = .ok (.getfield 9, 3) := by decide +kernel
theorem dX6_accept_15 : decode cX6_accept 15 = .ok (.aload_n 0, 1) := by decide +kernel
theorem dX6_accept_16 : decode cX6_accept 16 = .ok (.getfield 28, 3) := by decide +kernel
theorem dX6_accept_19 : decode cX6_accept 19 = .ok (.caload, 1) := by decide +kernel
theorem dX6_accept_20 : decode cX6_accept 20 = .ok (.iload_n 1, 1) := by decide +kernel
theorem dX6_accept_21 : decode cX6_accept 21 = .ok (.if_icmp .eq 5, 3) := by decide +kernel
theorem dX6_accept_24 : decode cX6_accept 24 = .ok (.iconst 0, 1) := by decide +kernel
theorem dX6_accept_25 : decode cX6_accept 25 = .ok (.ireturn, 1) := by decide +kernel
theorem dX6_accept_26 : decode cX6_accept 26 = .ok (.aload_n 0, 1) := by decide +kernel
theorem dX6_accept_27 : decode cX6_accept 27 = .ok (.dup, 1) := by decide +kernel
theorem dX6_accept_28 : decode cX6_accept 28 = .ok (.getfield 28, 3) := by decide +kernel
theorem dX6_accept_31 : decode cX6_accept 31 = .ok (.iconst 1, 1) := by decide +kernel
theorem dX6_accept_32 : decode cX6_accept 32 = .ok (.iadd, 1) := by decide +kernel
theorem dX6_accept_33 : decode cX6_accept 33 = .ok (.putfield 28, 3) := by decide +kernel
theorem dX6_accept_36 : decode cX6_accept 36 = .ok (.iconst 1, 1) := by decide +kernel
theorem dX6_accept_37 : decode cX6_accept 37 = .ok (.ireturn, 1) := by decide +kernel
set_option maxHeartbeats 4000000 in
set_option maxRecDepth 100000 in
theorem c_X6_accept (g : xG) (l : Launch) (b : Nat → Nat) (q : PrT) (x1 : Int32) {u : Int32 × PrT} (hf : f_X6_accept q x1 = some u) : ConD g l yX6_accept cX6_accept 2 (some .boolean) ({ frames := 0, cells := 0, slots := 0, locals := 0 } : Room) [.ref (b 0), .int x1] [prO g b q] (some (.int u.1)) [prO g b u.2] := by
  unfold f_X6_accept at hf
  refine Con_of [prO g b q] [(0, .ref (b 0)), (1, .int x1)] rfl rfl (by decide) (Nat.le_of_ble_eq_true rfl) ?_
  intro pW eW sW mW argsW belowW methW c9 C hnm hr
  have C : CX g RX6 cX6_accept 2 _ pW sW mW argsW methW c9 := C
  refine x_aload_n C dX6_accept_0 rfl 0 rfl ?_
  refine x_get (ci := 8) (v := .int q.2.2.2) (b := prO g b q) C ixX6 rfl 4 (by decide) wd_985 (fun _ h => h) 0 rfl 0 (prO_at0 g b _) rfl dX6_accept_1 ?_
  refine x_aload_n C dX6_accept_4 rfl 0 rfl ?_
  refine x_get (ci := 8) (v := .int q.2.1) (b := prO g b q) C ixX6 rfl 2 (by decide) wd_982 (fun _ h => h) 0 rfl 0 (prO_at0 g b _) rfl dX6_accept_5 ?_
  refine x_icmp_ge (tgt := 24) C dX6_accept_8 (by decide) (fun h1 => ?_) (fun h1 => ?_)
  · have hf := x_t h1 hf
    refine x_iconst (v := 0) C dX6_accept_24 (by decide) ?_
    exact x_zret C hr rfl ⟨by cases hf; rfl, by cases hf; rfl⟩ dX6_accept_25
  · have hf := x_f h1 hf
    refine x_aload_n C dX6_accept_11 rfl 0 rfl ?_
    refine x_get (ci := 8) (v := .ref (b 1)) (b := prO g b q) C ixX6 rfl 0 (by decide) wd_979 (fun _ h => h) 0 rfl 0 (prO_at0 g b _) rfl dX6_accept_12 ?_
    refine x_aload_n C dX6_accept_15 rfl 0 rfl ?_
    refine x_get (ci := 8) (v := .int q.2.2.2) (b := prO g b q) C ixX6 rfl 4 (by decide) wd_985 (fun _ h => h) 0 rfl 0 (prO_at0 g b _) rfl dX6_accept_16 ?_
    obtain ⟨h2, hf⟩ := x_n hf
    refine x_cald (b := prO g b q) C 0 rfl 1 (prO_at1 g b _) h2 dX6_accept_19 ?_
    refine x_iload_n C dX6_accept_20 rfl 1 rfl ?_
    refine x_icmp_eq (tgt := 26) C dX6_accept_21 (by decide) (fun h3 => ?_) (fun h3 => ?_)
    · have hf := x_t h3 hf
      refine x_aload_n C dX6_accept_26 rfl 0 rfl ?_
      refine x_dup C dX6_accept_27 rfl ?_
      refine x_get (ci := 8) (v := .int q.2.2.2) (b := prO g b q) C ixX6 rfl 4 (by decide) wd_985 (fun _ h => h) 0 rfl 0 (prO_at0 g b _) rfl dX6_accept_28 ?_
      refine x_iconst (v := 1) C dX6_accept_31 (by decide) ?_
      refine x_iadd C dX6_accept_32 ?_
      refine x_put (ci := 8) (ty := .int) (v := .int (q.2.2.2 + (1 : Int32))) (b := prO g b q) (b' := prO g b (q.1, q.2.1, q.2.2.1, q.2.2.2 + (1 : Int32))) (wss' := [prO g b (q.1, q.2.1, q.2.2.1, q.2.2.2 + (1 : Int32))]) C ixX6 tyX6 tyX6_ok nmX6 rfl 4 (by decide) wd_985 (fun _ h => h) rfl (tyX6_ok 4 (by decide)) rfl rfl 0 rfl 0 (prO_at0 g b _) (Nat.le_of_ble_eq_true rfl) rfl rfl dX6_accept_33 ?_
      refine x_iconst (v := 1) C dX6_accept_36 (by decide) ?_
      exact x_zret C hr rfl ⟨by cases hf; rfl, by cases hf; rfl⟩ dX6_accept_37
    · have hf := x_f h3 hf
      refine x_iconst (v := 0) C dX6_accept_24 (by decide) ?_
      exact x_zret C hr rfl ⟨by cases hf; rfl, by cases hf; rfl⟩ dX6_accept_25
theorem wd_352 : Cond.fieldLink RJ0 38 "java/lang/String" "COMPACT_STRINGS" "Z" ∈ xTB := xTB_in 352 (by decide +kernel) (by decide +kernel)
theorem wd_483 : Cond.fieldLink RJ0 15 "java/lang/String" "coder" "B" ∈ xTB := xTB_in 483 (by decide +kernel) (by decide +kernel)
theorem dJ0_coder_7d493_0 : decode cJ0_coder_7d493 0 = .ok (.getstatic 38, 3) := by decide +kernel
theorem dJ0_coder_7d493_3 : decode cJ0_coder_7d493 3 = .ok (.ifCond .eq 10, 3) := by decide +kernel
theorem dJ0_coder_7d493_6 : decode cJ0_coder_7d493 6 = .ok (.aload_n 0, 1) := by decide +kernel
theorem dJ0_coder_7d493_7 : decode cJ0_coder_7d493 7 = .ok (.getfield 15, 3) := by decide +kernel
theorem dJ0_coder_7d493_10 : decode cJ0_coder_7d493 10 = .ok (.goto 4, 3) := by decide +kernel
theorem dJ0_coder_7d493_13 : decode cJ0_coder_7d493 13 = .ok (.iconst 1, 1) := by decide +kernel
theorem dJ0_coder_7d493_14 : decode cJ0_coder_7d493 14 = .ok (.ireturn, 1) := by decide +kernel
set_option maxHeartbeats 4000000 in
set_option maxRecDepth 100000 in
theorem c_J0_coder_7d493 (g : xG) (l : Launch)   (x0 : Nat) {u : Int32} (hf : f_J0_coder_7d493 x0 = some u) : ConD g l yJ0_coder_7d493 cJ0_coder_7d493 1 (some .byte) ({ frames := 0, cells := 0, slots := 0, locals := 0 } : Room) [.ref (g.2.2 (300 + x0))] [] (some (.int u)) [] := by
  unfold f_J0_coder_7d493 at hf
  refine Con_of [] [(0, .ref (g.2.2 (300 + x0)))] rfl rfl (by decide) (Nat.le_of_ble_eq_true rfl) ?_
  intro pW eW sW mW argsW belowW methW c9 C hnm hr
  have C : CX g RJ0 cJ0_coder_7d493 1 _ pW sW mW argsW methW c9 := C
  refine x_gets (Cn := "java/lang/String") (n := "COMPACT_STRINGS") (d := "Z") C (CX_cs C) wd_352 (fun _ h => h) dJ0_coder_7d493_0 ?_
  refine x_if_eq (tgt := 13) C dJ0_coder_7d493_3 (by decide) (fun h1 => ?_) (fun h1 => ?_)
  · have hf := x_t h1 hf
    refine x_iconst (v := 1) C dJ0_coder_7d493_13 (by decide) ?_
    exact x_zret C hr rfl ⟨by cases hf; rfl, by cases hf; rfl⟩ dJ0_coder_7d493_14
  · have hf := x_f h1 hf
    refine x_aload_n C dJ0_coder_7d493_6 rfl 0 rfl ?_
    obtain ⟨h2, hf⟩ := x_y hf
    refine x_getOF C (CX_so C h2).2.1 wd_483 (fun _ h => h) dJ0_coder_7d493_7 ?_
    refine x_goto (tgt := 14) C dJ0_coder_7d493_10 (by decide) ?_
    exact x_zret C hr rfl ⟨by cases hf; rfl, by cases hf; rfl⟩ dJ0_coder_7d493_14
theorem wd_36 : Cond.initialized RJ0 ∈ xTB := xTB_in 36 (by decide +kernel) (by decide +kernel)
theorem wd_348 : Cond.methodLink RJ0 335 yJ0_coder_7d493 ∈ xTB := xTB_in 348 (by decide +kernel) (by decide +kernel)
theorem wd_349 : Cond.instanceMethod yJ0_coder_7d493 ∈ xTB := xTB_in 349 (by decide +kernel) (by decide +kernel)
theorem wd_350 : Cond.selects yJ0_coder_7d493.cls yJ0_coder_7d493 yJ0_coder_7d493 ∈ xTB := xTB_in 350 (by decide +kernel) (by decide +kernel)
theorem wd_351 : Cond.code yJ0_coder_7d493 cJ0_coder_7d493 1 (some .byte) ∈ xTB := xTB_in 351 (by decide +kernel) (by decide +kernel)
theorem wd_482 : Cond.fieldLink RJ0 9 "java/lang/String" "value" "[B" ∈ xTB := xTB_in 482 (by decide +kernel) (by decide +kernel)
theorem dJ0_length_8abf5_0 : decode cJ0_length_8abf5 0 = .ok (.aload_n 0, 1) := by decide +kernel
theorem dJ0_length_8abf5_1 : decode cJ0_length_8abf5 1 = .ok (.getfield 9, 3) := by decide +kernel
theorem dJ0_length_8abf5_4 : decode cJ0_length_8abf5 4 = .ok (.arraylength, 1) := by decide +kernel
theorem dJ0_length_8abf5_5 : decode cJ0_length_8abf5 5 = .ok (.aload_n 0, 1) := by decide +kernel
theorem dJ0_length_8abf5_6 : decode cJ0_length_8abf5 6 = .ok (.invokevirtual 335, 3) := by decide +kernel
theorem dJ0_length_8abf5_9 : decode cJ0_length_8abf5 9 = .ok (.ishr, 1) := by decide +kernel
theorem dJ0_length_8abf5_10 : decode cJ0_length_8abf5 10 = .ok (.ireturn, 1) := by decide +kernel
set_option maxHeartbeats 4000000 in
set_option maxRecDepth 100000 in
theorem c_J0_length_8abf5 (g : xG) (l : Launch)   (x0 : Nat) {u : Int32} (hf : f_J0_length_8abf5 x0 = some u) : ConD g l yJ0_length_8abf5 cJ0_length_8abf5 1 (some .int) ({ frames := 1, cells := 0, slots := 0, locals := 20 } : Room) [.ref (g.2.2 (300 + x0))] [] (some (.int u)) [] := by
  unfold f_J0_length_8abf5 at hf
  refine Con_of [] [(0, .ref (g.2.2 (300 + x0)))] rfl rfl (by decide) (Nat.le_of_ble_eq_true rfl) ?_
  intro pW eW sW mW argsW belowW methW c9 C hnm hr
  have C : CX g RJ0 cJ0_length_8abf5 1 _ pW sW mW argsW methW c9 := C
  refine x_aload_n C dJ0_length_8abf5_0 rfl 0 rfl ?_
  obtain ⟨h1, hf⟩ := x_y hf
  refine x_getOF C (CX_so C h1).2.2 wd_482 (fun _ h => h) dJ0_length_8abf5_1 ?_
  obtain ⟨h2, hf⟩ := x_y hf
  refine x_stn C (CX_sv C h2) rfl dJ0_length_8abf5_4 ?_
  refine x_aload_n C dJ0_length_8abf5_5 rfl 0 rfl ?_
  obtain ⟨u3, hu3, hf⟩ := x_b hf
  obtain ⟨h4, hf⟩ := x_y hf
  refine x_callVR (n := 0) (As := []) (rest := [.int (Int32.ofNat (stLen.getD x0 0))]) C (c_J0_coder_7d493 g l x0 hu3) ⟨⟨wd_351, wd_348, wd_36⟩, ⟨by decide, by decide, by decide⟩, rfl, rfl, Nat.le_of_ble_eq_true rfl, Nat.le_of_ble_eq_true rfl⟩ wd_349 wd_350 (CX_so C h4).1 [] (x_pickD [] 0 rfl rfl rfl) rfl rfl (Nat.le_of_ble_eq_true rfl) ⟨Nat.le_of_ble_eq_true rfl, Nat.le_of_ble_eq_true rfl⟩ dJ0_length_8abf5_6 (x_goD (wss2 := []) (stk2 := [.int u3, .int (Int32.ofNat (stLen.getD x0 0))]) rfl rfl ?_)
  refine x_ishr C dJ0_length_8abf5_9 ?_
  exact x_iret C hr ⟨by cases hf; rfl, by cases hf; rfl⟩ dJ0_length_8abf5_10
theorem dJ0_isLatin1_aae02_0 : decode cJ0_isLatin1_aae02 0 = .ok (.getstatic 38, 3) := by decide +kernel
theorem dJ0_isLatin1_aae02_3 : decode cJ0_isLatin1_aae02 3 = .ok (.ifCond .eq 14, 3) := by decide +kernel
theorem dJ0_isLatin1_aae02_6 : decode cJ0_isLatin1_aae02 6 = .ok (.aload_n 0, 1) := by decide +kernel
theorem dJ0_isLatin1_aae02_7 : decode cJ0_isLatin1_aae02 7 = .ok (.getfield 15, 3) := by decide +kernel
theorem dJ0_isLatin1_aae02_10 : decode cJ0_isLatin1_aae02 10 = .ok (.ifCond .ne 7, 3) := by decide +kernel
theorem dJ0_isLatin1_aae02_13 : decode cJ0_isLatin1_aae02 13 = .ok (.iconst 1, 1) := by decide +kernel
theorem dJ0_isLatin1_aae02_14 : decode cJ0_isLatin1_aae02 14 = .ok (.goto 4, 3) := by decide +kernel
theorem dJ0_isLatin1_aae02_17 : decode cJ0_isLatin1_aae02 17 = .ok (.iconst 0, 1) := by decide +kernel
theorem dJ0_isLatin1_aae02_18 : decode cJ0_isLatin1_aae02 18 = .ok (.ireturn, 1) := by decide +kernel
set_option maxHeartbeats 4000000 in
set_option maxRecDepth 100000 in
theorem c_J0_isLatin1_aae02 (g : xG) (l : Launch)   (x0 : Nat) {u : Int32} (hf : f_J0_isLatin1_aae02 x0 = some u) : ConD g l yJ0_isLatin1_aae02 cJ0_isLatin1_aae02 1 (some .boolean) ({ frames := 0, cells := 0, slots := 0, locals := 0 } : Room) [.ref (g.2.2 (300 + x0))] [] (some (.int u)) [] := by
  unfold f_J0_isLatin1_aae02 at hf
  refine Con_of [] [(0, .ref (g.2.2 (300 + x0)))] rfl rfl (by decide) (Nat.le_of_ble_eq_true rfl) ?_
  intro pW eW sW mW argsW belowW methW c9 C hnm hr
  have C : CX g RJ0 cJ0_isLatin1_aae02 1 _ pW sW mW argsW methW c9 := C
  refine x_gets (Cn := "java/lang/String") (n := "COMPACT_STRINGS") (d := "Z") C (CX_cs C) wd_352 (fun _ h => h) dJ0_isLatin1_aae02_0 ?_
  refine x_if_eq (tgt := 17) C dJ0_isLatin1_aae02_3 (by decide) (fun h1 => ?_) (fun h1 => ?_)
  · have hf := x_t h1 hf
    refine x_iconst (v := 0) C dJ0_isLatin1_aae02_17 (by decide) ?_
    exact x_zret C hr rfl ⟨by cases hf; rfl, by cases hf; rfl⟩ dJ0_isLatin1_aae02_18
  · have hf := x_f h1 hf
    refine x_aload_n C dJ0_isLatin1_aae02_6 rfl 0 rfl ?_
    obtain ⟨h2, hf⟩ := x_y hf
    refine x_getOF C (CX_so C h2).2.1 wd_483 (fun _ h => h) dJ0_isLatin1_aae02_7 ?_
    refine x_if_ne (tgt := 17) C dJ0_isLatin1_aae02_10 (by decide) (fun h3 => ?_) (fun h3 => ?_)
    · have hf := x_f h3 hf
      refine x_iconst (v := 0) C dJ0_isLatin1_aae02_17 (by decide) ?_
      exact x_zret C hr rfl ⟨by cases hf; rfl, by cases hf; rfl⟩ dJ0_isLatin1_aae02_18
    · have hf := x_t h3 hf
      refine x_iconst (v := 1) C dJ0_isLatin1_aae02_13 (by decide) ?_
      refine x_goto (tgt := 18) C dJ0_isLatin1_aae02_14 (by decide) ?_
      exact x_zret C hr rfl ⟨by cases hf; rfl, by cases hf; rfl⟩ dJ0_isLatin1_aae02_18
theorem wd_39 : Cond.initialized RJ3 ∈ xTB := xTB_in 39 (by decide +kernel) (by decide +kernel)
theorem wd_330 : Cond.fieldLink RJ0 1053 "jdk/internal/util/Preconditions" "SIOOBE_FORMATTER" "Ljava/util/function/BiFunction;" ∈ xTB := xTB_in 330 (by decide +kernel) (by decide +kernel)
theorem wd_560 : Cond.methodLink RJ0 1059 yJ3_checkIndex_8e157 ∈ xTB := xTB_in 560 (by decide +kernel) (by decide +kernel)
theorem wd_561 : Cond.static yJ3_checkIndex_8e157 ∈ xTB := xTB_in 561 (by decide +kernel) (by decide +kernel)
theorem wd_562 : Cond.code yJ3_checkIndex_8e157 cJ3_checkIndex_8e157 3 (some .int) ∈ xTB := xTB_in 562 (by decide +kernel) (by decide +kernel)
theorem dJ0_checkIndex_df160_0 : decode cJ0_checkIndex_df160 0 = .ok (.iload_n 0, 1) := by decide +kernel
theorem dJ0_checkIndex_df160_1 : decode cJ0_checkIndex_df160 1 = .ok (.iload_n 1, 1) := by decide +kernel
theorem dJ0_checkIndex_df160_2 : decode cJ0_checkIndex_df160 2 = .ok (.getstatic 1053, 3) := by decide +kernel
theorem dJ0_checkIndex_df160_5 : decode cJ0_checkIndex_df160 5 = .ok (.invokestatic 1059, 3) := by decide +kernel
theorem dJ0_checkIndex_df160_8 : decode cJ0_checkIndex_df160 8 = .ok (.pop, 1) := by decide +kernel
theorem dJ0_checkIndex_df160_9 : decode cJ0_checkIndex_df160 9 = .ok (.return_, 1) := by decide +kernel
set_option maxHeartbeats 4000000 in
set_option maxRecDepth 100000 in
theorem c_J0_checkIndex_df160 (g : xG) (l : Launch)   (x0 : Int32) (x1 : Int32) {u : Unit} (hf : f_J0_checkIndex_df160 x0 x1 = some u) : ConD g l yJ0_checkIndex_df160 cJ0_checkIndex_df160 2 none ({ frames := 1, cells := 0, slots := 0, locals := 22 } : Room) [.int x0, .int x1] [] (none) [] := by
  unfold f_J0_checkIndex_df160 at hf
  refine Con_of [] [(0, .int x0), (1, .int x1)] rfl rfl (by decide) (Nat.le_of_ble_eq_true rfl) ?_
  intro pW eW sW mW argsW belowW methW c9 C hnm hr
  have C : CX g RJ0 cJ0_checkIndex_df160 2 _ pW sW mW argsW methW c9 := C
  refine x_iload_n C dJ0_checkIndex_df160_0 rfl 0 rfl ?_
  refine x_iload_n C dJ0_checkIndex_df160_1 rfl 1 rfl ?_
  refine x_gets (Cn := "jdk/internal/util/Preconditions") (n := "SIOOBE_FORMATTER") (d := "Ljava/util/function/BiFunction;") C (CX_fm C) wd_330 (fun _ h => h) dJ0_checkIndex_df160_2 ?_
  obtain ⟨u1, hu1, hf⟩ := x_b hf
  refine x_callS (n := 3) (As := [.int x0, .int x1, va_rf (xfm g)]) (rest := []) C (c_J3_checkIndex_8e157 g l x0 x1 hu1) ⟨⟨wd_562, wd_560, wd_39⟩, ⟨by decide, by decide, by decide⟩, rfl, rfl, Nat.le_of_ble_eq_true rfl, Nat.le_of_ble_eq_true rfl⟩ wd_561 [] (x_pickD [] 0 rfl rfl rfl) rfl rfl (Nat.le_of_ble_eq_true rfl) ⟨Nat.le_of_ble_eq_true rfl, Nat.le_of_ble_eq_true rfl⟩ dJ0_checkIndex_df160_5 (x_goD (wss2 := []) (stk2 := [.int u1]) rfl rfl ?_)
  refine x_pop C dJ0_checkIndex_df160_8 rfl ?_
  exact x_vret C hr ⟨by cases hf; rfl, by cases hf; rfl⟩ dJ0_checkIndex_df160_9
theorem wd_558 : Cond.static yJ0_checkIndex_df160 ∈ xTB := xTB_in 558 (by decide +kernel) (by decide +kernel)
theorem wd_559 : Cond.code yJ0_checkIndex_df160 cJ0_checkIndex_df160 2 none ∈ xTB := xTB_in 559 (by decide +kernel) (by decide +kernel)
theorem wd_1040 : Cond.methodLink RJ1 9 yJ0_checkIndex_df160 ∈ xTB := xTB_in 1040 (by decide +kernel) (by decide +kernel)
theorem dJ1_charAt_3b067_0 : decode cJ1_charAt_3b067 0 = .ok (.iload_n 1, 1) := by decide +kernel
theorem dJ1_charAt_3b067_1 : decode cJ1_charAt_3b067 1 = .ok (.aload_n 0, 1) := by decide +kernel
theorem dJ1_charAt_3b067_2 : decode cJ1_charAt_3b067 2 = .ok (.arraylength, 1) := by decide +kernel
theorem dJ1_charAt_3b067_3 : decode cJ1_charAt_3b067 3 = .ok (.invokestatic 9, 3) := by decide +kernel
theorem dJ1_charAt_3b067_6 : decode cJ1_charAt_3b067 6 = .ok (.aload_n 0, 1) := by decide +kernel
theorem dJ1_charAt_3b067_7 : decode cJ1_charAt_3b067 7 = .ok (.iload_n 1, 1) := by decide +kernel
theorem dJ1_charAt_3b067_8 : decode cJ1_charAt_3b067 8 = .ok (.baload, 1) := by decide +kernel
theorem dJ1_charAt_3b067_9 : decode cJ1_charAt_3b067 9 = .ok (.sipush 255, 3) := by decide +kernel
theorem dJ1_charAt_3b067_12 : decode cJ1_charAt_3b067 12 = .ok (.iand, 1) := by decide +kernel
theorem dJ1_charAt_3b067_13 : decode cJ1_charAt_3b067 13 = .ok (.i2c, 1) := by decide +kernel
theorem dJ1_charAt_3b067_14 : decode cJ1_charAt_3b067 14 = .ok (.ireturn, 1) := by decide +kernel
set_option maxHeartbeats 4000000 in
set_option maxRecDepth 100000 in
theorem c_J1_charAt_3b067 (g : xG) (l : Launch)   (x0 : Nat) (x1 : Int32) {u : Int32} (hf : f_J1_charAt_3b067 x0 x1 = some u) : ConD g l yJ1_charAt_3b067 cJ1_charAt_3b067 2 (some .char) ({ frames := 2, cells := 0, slots := 0, locals := 43 } : Room) [.ref (g.2.2 (400 + x0)), .int x1] [] (some (.int u)) [] := by
  unfold f_J1_charAt_3b067 at hf
  refine Con_of [] [(0, .ref (g.2.2 (400 + x0))), (1, .int x1)] rfl rfl (by decide) (Nat.le_of_ble_eq_true rfl) ?_
  intro pW eW sW mW argsW belowW methW c9 C hnm hr
  have C : CX g RJ1 cJ1_charAt_3b067 2 _ pW sW mW argsW methW c9 := C
  refine x_iload_n C dJ1_charAt_3b067_0 rfl 1 rfl ?_
  refine x_aload_n C dJ1_charAt_3b067_1 rfl 0 rfl ?_
  obtain ⟨h1, hf⟩ := x_y hf
  refine x_stn C (CX_sv C h1) rfl dJ1_charAt_3b067_2 ?_
  obtain ⟨u2, hu2, hf⟩ := x_b hf
  refine x_callS (n := 2) (As := [.int x1, .int (Int32.ofNat (stLen.getD x0 0))]) (rest := []) C (c_J0_checkIndex_df160 g l x1 (Int32.ofNat (stLen.getD x0 0)) hu2) ⟨⟨wd_559, wd_1040, wd_36⟩, ⟨by decide, by decide, by decide⟩, rfl, rfl, Nat.le_of_ble_eq_true rfl, Nat.le_of_ble_eq_true rfl⟩ wd_558 [] (x_pickD [] 0 rfl rfl rfl) rfl rfl (Nat.le_of_ble_eq_true rfl) ⟨Nat.le_of_ble_eq_true rfl, Nat.le_of_ble_eq_true rfl⟩ dJ1_charAt_3b067_3 (x_goD (wss2 := []) (stk2 := []) rfl rfl ?_)
  refine x_aload_n C dJ1_charAt_3b067_6 rfl 0 rfl ?_
  refine x_iload_n C dJ1_charAt_3b067_7 rfl 1 rfl ?_
  obtain ⟨h3, hf⟩ := x_y hf
  obtain ⟨h4, hf⟩ := x_n hf
  refine x_stb (f := fun j => (stByt.getD x0 []).getD j 0) C (CX_sv C h3) h4 dJ1_charAt_3b067_8 ?_
  refine x_sipush (v := 255) C dJ1_charAt_3b067_9 (by decide) ?_
  refine x_iand C dJ1_charAt_3b067_12 ?_
  refine x_i2c C dJ1_charAt_3b067_13 rfl ?_
  obtain ⟨h5, hf⟩ := x_y hf
  exact x_zret C hr (x_narC h5).1 ⟨by cases hf; rfl, by cases hf; rfl⟩ dJ1_charAt_3b067_14
theorem wd_38 : Cond.initialized RJ1 ∈ xTB := xTB_in 38 (by decide +kernel) (by decide +kernel)
theorem wd_1033 : Cond.methodLink RJ0 492 yJ0_isLatin1_aae02 ∈ xTB := xTB_in 1033 (by decide +kernel) (by decide +kernel)
theorem wd_1034 : Cond.instanceMethod yJ0_isLatin1_aae02 ∈ xTB := xTB_in 1034 (by decide +kernel) (by decide +kernel)
theorem wd_1035 : Cond.selects yJ0_isLatin1_aae02.cls yJ0_isLatin1_aae02 yJ0_isLatin1_aae02 ∈ xTB := xTB_in 1035 (by decide +kernel) (by decide +kernel)
theorem wd_1036 : Cond.code yJ0_isLatin1_aae02 cJ0_isLatin1_aae02 1 (some .boolean) ∈ xTB := xTB_in 1036 (by decide +kernel) (by decide +kernel)
theorem wd_1037 : Cond.methodLink RJ0 495 yJ1_charAt_3b067 ∈ xTB := xTB_in 1037 (by decide +kernel) (by decide +kernel)
theorem wd_1038 : Cond.static yJ1_charAt_3b067 ∈ xTB := xTB_in 1038 (by decide +kernel) (by decide +kernel)
theorem wd_1039 : Cond.code yJ1_charAt_3b067 cJ1_charAt_3b067 2 (some .char) ∈ xTB := xTB_in 1039 (by decide +kernel) (by decide +kernel)
theorem dJ0_charAt_5068e_0 : decode cJ0_charAt_5068e 0 = .ok (.aload_n 0, 1) := by decide +kernel
theorem dJ0_charAt_5068e_1 : decode cJ0_charAt_5068e 1 = .ok (.invokevirtual 492, 3) := by decide +kernel
theorem dJ0_charAt_5068e_4 : decode cJ0_charAt_5068e 4 = .ok (.ifCond .eq 12, 3) := by decide +kernel
theorem dJ0_charAt_5068e_7 : decode cJ0_charAt_5068e 7 = .ok (.aload_n 0, 1) := by decide +kernel
theorem dJ0_charAt_5068e_8 : decode cJ0_charAt_5068e 8 = .ok (.getfield 9, 3) := by decide +kernel
theorem dJ0_charAt_5068e_11 : decode cJ0_charAt_5068e 11 = .ok (.iload_n 1, 1) := by decide +kernel
theorem dJ0_charAt_5068e_12 : decode cJ0_charAt_5068e 12 = .ok (.invokestatic 495, 3) := by decide +kernel
theorem dJ0_charAt_5068e_15 : decode cJ0_charAt_5068e 15 = .ok (.ireturn, 1) := by decide +kernel
theorem dJ0_charAt_5068e_16 : decode cJ0_charAt_5068e 16 = .ok (.aload_n 0, 1) := by decide +kernel
theorem dJ0_charAt_5068e_17 : decode cJ0_charAt_5068e 17 = .ok (.getfield 9, 3) := by decide +kernel
theorem dJ0_charAt_5068e_20 : decode cJ0_charAt_5068e 20 = .ok (.iload_n 1, 1) := by decide +kernel
theorem dJ0_charAt_5068e_21 : decode cJ0_charAt_5068e 21 = .ok (.invokestatic 498, 3) := by decide +kernel
theorem dJ0_charAt_5068e_24 : decode cJ0_charAt_5068e 24 = .ok (.ireturn, 1) := by decide +kernel
set_option maxHeartbeats 4000000 in
set_option maxRecDepth 100000 in
theorem c_J0_charAt_5068e (g : xG) (l : Launch)   (x0 : Nat) (x1 : Int32) {u : Int32} (hf : f_J0_charAt_5068e x0 x1 = some u) : ConD g l yJ0_charAt_5068e cJ0_charAt_5068e 2 (some .char) ({ frames := 3, cells := 0, slots := 0, locals := 64 } : Room) [.ref (g.2.2 (300 + x0)), .int x1] [] (some (.int u)) [] := by
  unfold f_J0_charAt_5068e at hf
  refine Con_of [] [(0, .ref (g.2.2 (300 + x0))), (1, .int x1)] rfl rfl (by decide) (Nat.le_of_ble_eq_true rfl) ?_
  intro pW eW sW mW argsW belowW methW c9 C hnm hr
  have C : CX g RJ0 cJ0_charAt_5068e 2 _ pW sW mW argsW methW c9 := C
  refine x_aload_n C dJ0_charAt_5068e_0 rfl 0 rfl ?_
  obtain ⟨u1, hu1, hf⟩ := x_b hf
  obtain ⟨h2, hf⟩ := x_y hf
  refine x_callVR (n := 0) (As := []) (rest := []) C (c_J0_isLatin1_aae02 g l x0 hu1) ⟨⟨wd_1036, wd_1033, wd_36⟩, ⟨by decide, by decide, by decide⟩, rfl, rfl, Nat.le_of_ble_eq_true rfl, Nat.le_of_ble_eq_true rfl⟩ wd_1034 wd_1035 (CX_so C h2).1 [] (x_pickD [] 0 rfl rfl rfl) rfl rfl (Nat.le_of_ble_eq_true rfl) ⟨Nat.le_of_ble_eq_true rfl, Nat.le_of_ble_eq_true rfl⟩ dJ0_charAt_5068e_1 (x_goD (wss2 := []) (stk2 := [.int u1]) rfl rfl ?_)
  refine x_if_eq (tgt := 16) C dJ0_charAt_5068e_4 (by decide) (fun h3 => ?_) (fun h3 => ?_)
  · have hf := x_t h3 hf
    cases hf
  · have hf := x_f h3 hf
    refine x_aload_n C dJ0_charAt_5068e_7 rfl 0 rfl ?_
    obtain ⟨h5, hf⟩ := x_y hf
    refine x_getOF C (CX_so C h5).2.2 wd_482 (fun _ h => h) dJ0_charAt_5068e_8 ?_
    refine x_iload_n C dJ0_charAt_5068e_11 rfl 1 rfl ?_
    obtain ⟨u6, hu6, hf⟩ := x_b hf
    refine x_callS (n := 2) (As := [.ref (g.2.2 (400 + x0)), .int x1]) (rest := []) C (c_J1_charAt_3b067 g l x0 x1 hu6) ⟨⟨wd_1039, wd_1037, wd_38⟩, ⟨by decide, by decide, by decide⟩, rfl, rfl, Nat.le_of_ble_eq_true rfl, Nat.le_of_ble_eq_true rfl⟩ wd_1038 [] (x_pickD [] 0 rfl rfl rfl) rfl rfl (Nat.le_of_ble_eq_true rfl) ⟨Nat.le_of_ble_eq_true rfl, Nat.le_of_ble_eq_true rfl⟩ dJ0_charAt_5068e_12 (x_goD (wss2 := []) (stk2 := [.int u6]) rfl rfl ?_)
    obtain ⟨h7, hf⟩ := x_y hf
    exact x_zret C hr (x_narC h7).1 ⟨by cases hf; rfl, by cases hf; rfl⟩ dJ0_charAt_5068e_15
theorem wd_10 : Cond.selects yX6_accept.cls yX6_accept yX6_accept ∈ xTB := xTB_in 10 (by decide +kernel) (by decide +kernel)
theorem wd_345 : Cond.instanceMethod yJ0_length_8abf5 ∈ xTB := xTB_in 345 (by decide +kernel) (by decide +kernel)
theorem wd_346 : Cond.selects yJ0_length_8abf5.cls yJ0_length_8abf5 yJ0_length_8abf5 ∈ xTB := xTB_in 346 (by decide +kernel) (by decide +kernel)
theorem wd_347 : Cond.code yJ0_length_8abf5 cJ0_length_8abf5 1 (some .int) ∈ xTB := xTB_in 347 (by decide +kernel) (by decide +kernel)
theorem wd_1030 : Cond.instanceMethod yJ0_charAt_5068e ∈ xTB := xTB_in 1030 (by decide +kernel) (by decide +kernel)
theorem wd_1031 : Cond.selects yJ0_charAt_5068e.cls yJ0_charAt_5068e yJ0_charAt_5068e ∈ xTB := xTB_in 1031 (by decide +kernel) (by decide +kernel)
theorem wd_1032 : Cond.code yJ0_charAt_5068e cJ0_charAt_5068e 2 (some .char) ∈ xTB := xTB_in 1032 (by decide +kernel) (by decide +kernel)
theorem wd_1161 : Cond.methodLink RX6 40 yX6_accept ∈ xTB := xTB_in 1161 (by decide +kernel) (by decide +kernel)
theorem wd_1163 : Cond.instanceMethod yX6_accept ∈ xTB := xTB_in 1163 (by decide +kernel) (by decide +kernel)
theorem wd_1164 : Cond.code yX6_accept cX6_accept 2 (some .boolean) ∈ xTB := xTB_in 1164 (by decide +kernel) (by decide +kernel)
theorem wd_1170 : Cond.methodLink RX6 143 yJ0_length_8abf5 ∈ xTB := xTB_in 1170 (by decide +kernel) (by decide +kernel)
theorem wd_1171 : Cond.methodLink RX6 148 yJ0_charAt_5068e ∈ xTB := xTB_in 1171 (by decide +kernel) (by decide +kernel)
theorem dX6_acceptAll_0 : decode cX6_acceptAll 0 = .ok (.iconst 0, 1) := by decide +kernel
theorem dX6_acceptAll_1 : decode cX6_acceptAll 1 = .ok (.istore_n 2, 1) := by decide +kernel
theorem dX6_acceptAll_2 : decode cX6_acceptAll 2 = .ok (.iload_n 2, 1) := by decide +kernel
theorem dX6_acceptAll_3 : decode cX6_acceptAll 3 = .ok (.aload_n 1, 1) := by decide +kernel
theorem dX6_acceptAll_4 : decode cX6_acceptAll 4 = .ok (.invokevirtual 143, 3) := by decide +kernel
theorem dX6_acceptAll_7 : decode cX6_acceptAll 7 = .ok (.if_icmp .ge 23, 3) := by decide +kernel
theorem dX6_acceptAll_10 : decode cX6_acceptAll 10 = .ok (.aload_n 0, 1) := by decide +kernel
theorem dX6_acceptAll_11 : decode cX6_acceptAll 11 = .ok (.aload_n 1, 1) := by decide +kernel
theorem dX6_acceptAll_12 : decode cX6_acceptAll 12 = .ok (.iload_n 2, 1) := by decide +kernel
theorem dX6_acceptAll_13 : decode cX6_acceptAll 13 = .ok (.invokevirtual 148, 3) := by decide +kernel
theorem dX6_acceptAll_16 : decode cX6_acceptAll 16 = .ok (.invokevirtual 40, 3) := by decide +kernel
theorem dX6_acceptAll_19 : decode cX6_acceptAll 19 = .ok (.ifCond .ne 5, 3) := by decide +kernel
theorem dX6_acceptAll_22 : decode cX6_acceptAll 22 = .ok (.iconst 0, 1) := by decide +kernel
theorem dX6_acceptAll_23 : decode cX6_acceptAll 23 = .ok (.ireturn, 1) := by decide +kernel
theorem dX6_acceptAll_24 : decode cX6_acceptAll 24 = .ok (.iinc 2 1, 3) := by decide +kernel
theorem dX6_acceptAll_27 : decode cX6_acceptAll 27 = .ok (.goto (-25), 3) := by decide +kernel
theorem dX6_acceptAll_30 : decode cX6_acceptAll 30 = .ok (.iconst 1, 1) := by decide +kernel
theorem dX6_acceptAll_31 : decode cX6_acceptAll 31 = .ok (.ireturn, 1) := by decide +kernel
set_option maxHeartbeats 4000000 in
set_option maxRecDepth 100000 in
theorem c_X6_acceptAll (g : xG) (l : Launch) (b : Nat → Nat) (q : PrT) (x1 : Nat) {u : Int32 × PrT} (hf : f_X6_acceptAll q x1 = some u) : ConD g l yX6_acceptAll cX6_acceptAll 3 (some .boolean) ({ frames := 4, cells := 0, slots := 0, locals := 85 } : Room) [.ref (b 0), .ref (g.2.2 (300 + x1))] [prO g b q] (some (.int u.1)) [prO g b u.2] := by
  unfold f_X6_acceptAll at hf
  refine Con_of [prO g b q] [(0, .ref (b 0)), (1, .ref (g.2.2 (300 + x1)))] rfl rfl (by decide) (Nat.le_of_ble_eq_true rfl) ?_
  intro pW eW sW mW argsW belowW methW c9 C hnm hr
  have C : CX g RX6 cX6_acceptAll 3 _ pW sW mW argsW methW c9 := C
  have hL2 : ∀ (nW : Nat) (qL : PrT) (x1 : Nat) (x2 : Int32), f_X6_acceptAll_2 nW qL x1 x2 = some u → VW g (va_A ([prO g b q] : List va_W).flatten sW.heap.size) 3 pW l eW ({ frames := 4, cells := 0, slots := 0, locals := 85 } : Room) sW mW argsW belowW methW c9 0 0 (MQ belowW (xQc g ([prO g b q] : List va_W).flatten sW.heap.size (fun v9 w9 => v9 = some (.int u.1) ∧ w9 = ([prO g b u.2] : List va_W).flatten)) argsW sW 0 0 (va_A ([prO g b q] : List va_W).flatten sW.heap.size)) [prO g b qL] [(0, .ref (b 0)), (1, .ref (g.2.2 (300 + x1))), (2, .int x2)] 2 [] := by
    intro nW
    induction nW with
    | zero => intro qL x1 x2 hf; rw [f_X6_acceptAll_2] at hf; cases hf
    | succ nW ih =>
      intro qL x1 x2 hf
      rw [f_X6_acceptAll_2] at hf
      refine x_iload_n C dX6_acceptAll_2 rfl 2 rfl ?_
      refine x_aload_n C dX6_acceptAll_3 rfl 1 rfl ?_
      obtain ⟨u1, hu1, hf⟩ := x_b hf
      obtain ⟨h2, hf⟩ := x_y hf
      refine x_callVR (n := 0) (As := []) (rest := [.int x2]) C (c_J0_length_8abf5 g l x1 hu1) ⟨⟨wd_347, wd_1170, wd_36⟩, ⟨by decide, by decide, by decide⟩, rfl, rfl, Nat.le_of_ble_eq_true rfl, Nat.le_of_ble_eq_true rfl⟩ wd_345 wd_346 (CX_so C h2).1 [prO g b qL] (x_pickD [0] 1 rfl rfl rfl) rfl rfl (Nat.le_of_ble_eq_true rfl) ⟨Nat.le_of_ble_eq_true rfl, Nat.le_of_ble_eq_true rfl⟩ dX6_acceptAll_4 (x_goD (wss2 := [prO g b qL]) (stk2 := [.int u1, .int x2]) rfl rfl ?_)
      refine x_icmp_ge (tgt := 30) C dX6_acceptAll_7 (by decide) (fun h3 => ?_) (fun h3 => ?_)
      · have hf := x_t h3 hf
        refine x_iconst (v := 1) C dX6_acceptAll_30 (by decide) ?_
        exact x_zret C hr rfl ⟨by cases hf; rfl, by cases hf; rfl⟩ dX6_acceptAll_31
      · have hf := x_f h3 hf
        refine x_aload_n C dX6_acceptAll_10 rfl 0 rfl ?_
        refine x_aload_n C dX6_acceptAll_11 rfl 1 rfl ?_
        refine x_iload_n C dX6_acceptAll_12 rfl 2 rfl ?_
        obtain ⟨u4, hu4, hf⟩ := x_b hf
        obtain ⟨h5, hf⟩ := x_y hf
        refine x_callVR (n := 1) (As := [.int x2]) (rest := [.ref (b 0)]) C (c_J0_charAt_5068e g l x1 x2 hu4) ⟨⟨wd_1032, wd_1171, wd_36⟩, ⟨by decide, by decide, by decide⟩, rfl, rfl, Nat.le_of_ble_eq_true rfl, Nat.le_of_ble_eq_true rfl⟩ wd_1030 wd_1031 (CX_so C h5).1 [prO g b qL] (x_pickD [0] 1 rfl rfl rfl) rfl rfl (Nat.le_of_ble_eq_true rfl) ⟨Nat.le_of_ble_eq_true rfl, Nat.le_of_ble_eq_true rfl⟩ dX6_acceptAll_13 (x_goD (wss2 := [prO g b qL]) (stk2 := [.int u4, .ref (b 0)]) rfl rfl ?_)
        obtain ⟨u6, hu6, hf⟩ := x_b hf
        refine x_callV (n := 1) (As := [.int u4]) (rest := []) C (c_X6_accept g l b qL u4 hu6) ⟨⟨wd_1164, wd_1161, wd_30⟩, ⟨by decide, by decide, by decide⟩, rfl, rfl, Nat.le_of_ble_eq_true rfl, Nat.le_of_ble_eq_true rfl⟩ wd_1163 wd_10 ⟨0, 8, _, _, rfl, rfl, rfl⟩ [] (x_pickD [0] 1 rfl rfl rfl) rfl rfl (Nat.le_of_ble_eq_true rfl) ⟨Nat.le_of_ble_eq_true rfl, Nat.le_of_ble_eq_true rfl⟩ dX6_acceptAll_16 (x_goD (wss2 := [prO g b u6.2]) (stk2 := [.int u6.1]) rfl rfl ?_)
        refine x_if_ne (tgt := 24) C dX6_acceptAll_19 (by decide) (fun h7 => ?_) (fun h7 => ?_)
        · have hf := x_f h7 hf
          refine x_iinc (v := x2 + 1) (lv' := [(2, .int (x2 + 1)), (0, .ref (b 0)), (1, .ref (g.2.2 (300 + x1)))]) C dX6_acceptAll_24 2 rfl rfl (by decide) rfl ?_
          refine x_goto (tgt := 2) C dX6_acceptAll_27 (by decide) ?_
          refine x_locals (lv' := [(0, .ref (b 0)), (1, .ref (g.2.2 (300 + x1))), (2, .int (x2 + 1))]) [1, 2, 0] rfl ?_
          exact ih u6.2 x1 (x2 + 1) hf
        · have hf := x_t h7 hf
          refine x_iconst (v := 0) C dX6_acceptAll_22 (by decide) ?_
          exact x_zret C hr rfl ⟨by cases hf; rfl, by cases hf; rfl⟩ dX6_acceptAll_23
  refine x_iconst (v := 0) C dX6_acceptAll_0 (by decide) ?_
  refine x_istore_n (lv' := [(2, .int (0 : Int32)), (0, .ref (b 0)), (1, .ref (g.2.2 (300 + x1)))]) C dX6_acceptAll_1 rfl (by decide) rfl ?_
  refine x_locals (lv' := [(0, .ref (b 0)), (1, .ref (g.2.2 (300 + x1))), (2, .int (0 : Int32))]) [1, 2, 0] rfl ?_
  exact hL2 xFuel q x1 (0 : Int32) hf
theorem dX6_readDigits_0 : decode cX6_readDigits 0 = .ok (.iconst (-1), 1) := by decide +kernel
theorem dX6_readDigits_1 : decode cX6_readDigits 1 = .ok (.istore_n 2, 1) := by decide +kernel
theorem dX6_readDigits_2 : decode cX6_readDigits 2 = .ok (.iconst 0, 1) := by decide +kernel
theorem dX6_readDigits_3 : decode cX6_readDigits 3 = .ok (.istore_n 3, 1) := by decide +kernel
theorem dX6_readDigits_4 : decode cX6_readDigits 4 = .ok (.iload_n 3, 1) := by decide +kernel
theorem dX6_readDigits_5 : decode cX6_readDigits 5 = .ok (.iload_n 1, 1) := by decide +kernel
theorem dX6_readDigits_6 : decode cX6_readDigits 6 = .ok (.if_icmp .ge 76, 3) := by decide +kernel
theorem dX6_readDigits_9 : decode cX6_readDigits 9 = .ok (.aload_n 0, 1) := by decide +kernel
theorem dX6_readDigits_10 : decode cX6_readDigits 10 = .ok (.getfield 28, 3) := by decide +kernel
theorem dX6_readDigits_13 : decode cX6_readDigits 13 = .ok (.aload_n 0, 1) := by decide +kernel
theorem dX6_readDigits_14 : decode cX6_readDigits 14 = .ok (.getfield 21, 3) := by decide +kernel
theorem dX6_readDigits_17 : decode cX6_readDigits 17 = .ok (.if_icmp .ge 65, 3) := by decide +kernel
theorem dX6_readDigits_20 : decode cX6_readDigits 20 = .ok (.aload_n 0, 1) := by decide +kernel
theorem dX6_readDigits_21 : decode cX6_readDigits 21 = .ok (.getfield 9, 3) := by decide +kernel
theorem dX6_readDigits_24 : decode cX6_readDigits 24 = .ok (.aload_n 0, 1) := by decide +kernel
theorem dX6_readDigits_25 : decode cX6_readDigits 25 = .ok (.getfield 28, 3) := by decide +kernel
theorem dX6_readDigits_28 : decode cX6_readDigits 28 = .ok (.caload, 1) := by decide +kernel
theorem dX6_readDigits_29 : decode cX6_readDigits 29 = .ok (.bipush 48, 2) := by decide +kernel
theorem dX6_readDigits_31 : decode cX6_readDigits 31 = .ok (.isub, 1) := by decide +kernel
theorem dX6_readDigits_32 : decode cX6_readDigits 32 = .ok (.istore 4, 2) := by decide +kernel
theorem dX6_readDigits_34 : decode cX6_readDigits 34 = .ok (.iload 4, 2) := by decide +kernel
theorem dX6_readDigits_36 : decode cX6_readDigits 36 = .ok (.ifCond .lt 46, 3) := by decide +kernel
theorem dX6_readDigits_39 : decode cX6_readDigits 39 = .ok (.iload 4, 2) := by decide +kernel
theorem dX6_readDigits_41 : decode cX6_readDigits 41 = .ok (.bipush 9, 2) := by decide +kernel
theorem dX6_readDigits_43 : decode cX6_readDigits 43 = .ok (.if_icmp .le 6, 3) := by decide +kernel
theorem dX6_readDigits_46 : decode cX6_readDigits 46 = .ok (.goto 36, 3) := by decide +kernel
theorem dX6_readDigits_49 : decode cX6_readDigits 49 = .ok (.iload_n 3, 1) := by decide +kernel
theorem dX6_readDigits_50 : decode cX6_readDigits 50 = .ok (.ifCond .ne 8, 3) := by decide +kernel
theorem dX6_readDigits_53 : decode cX6_readDigits 53 = .ok (.iload 4, 2) := by decide +kernel
theorem dX6_readDigits_55 : decode cX6_readDigits 55 = .ok (.goto 10, 3) := by decide +kernel
theorem dX6_readDigits_58 : decode cX6_readDigits 58 = .ok (.bipush 10, 2) := by decide +kernel
theorem dX6_readDigits_60 : decode cX6_readDigits 60 = .ok (.iload_n 2, 1) := by decide +kernel
theorem dX6_readDigits_61 : decode cX6_readDigits 61 = .ok (.imul, 1) := by decide +kernel
theorem dX6_readDigits_62 : decode cX6_readDigits 62 = .ok (.iload 4, 2) := by decide +kernel
theorem dX6_readDigits_64 : decode cX6_readDigits 64 = .ok (.iadd, 1) := by decide +kernel
theorem dX6_readDigits_65 : decode cX6_readDigits 65 = .ok (.istore_n 2, 1) := by decide +kernel
theorem dX6_readDigits_66 : decode cX6_readDigits 66 = .ok (.aload_n 0, 1) := by decide +kernel
theorem dX6_readDigits_67 : decode cX6_readDigits 67 = .ok (.dup, 1) := by decide +kernel
theorem dX6_readDigits_68 : decode cX6_readDigits 68 = .ok (.getfield 28, 3) := by decide +kernel
theorem dX6_readDigits_71 : decode cX6_readDigits 71 = .ok (.iconst 1, 1) := by decide +kernel
theorem dX6_readDigits_72 : decode cX6_readDigits 72 = .ok (.iadd, 1) := by decide +kernel
theorem dX6_readDigits_73 : decode cX6_readDigits 73 = .ok (.putfield 28, 3) := by decide +kernel
theorem dX6_readDigits_76 : decode cX6_readDigits 76 = .ok (.iinc 3 1, 3) := by decide +kernel
theorem dX6_readDigits_79 : decode cX6_readDigits 79 = .ok (.goto (-75), 3) := by decide +kernel
theorem dX6_readDigits_82 : decode cX6_readDigits 82 = .ok (.iload_n 2, 1) := by decide +kernel
theorem dX6_readDigits_83 : decode cX6_readDigits 83 = .ok (.ireturn, 1) := by decide +kernel
set_option maxHeartbeats 4000000 in
set_option maxRecDepth 100000 in
theorem c_X6_readDigits (g : xG) (l : Launch) (b : Nat → Nat) (q : PrT) (x1 : Int32) {u : Int32 × PrT} (hf : f_X6_readDigits q x1 = some u) : ConD g l yX6_readDigits cX6_readDigits 5 (some .int) ({ frames := 0, cells := 0, slots := 0, locals := 0 } : Room) [.ref (b 0), .int x1] [prO g b q] (some (.int u.1)) [prO g b u.2] := by
  unfold f_X6_readDigits at hf
  refine Con_of [prO g b q] [(0, .ref (b 0)), (1, .int x1)] rfl rfl (by decide) (Nat.le_of_ble_eq_true rfl) ?_
  intro pW eW sW mW argsW belowW methW c9 C hnm hr
  have C : CX g RX6 cX6_readDigits 5 _ pW sW mW argsW methW c9 := C
  have hL4 : ∀ (nW : Nat) (qL : PrT) (x1 : Int32) (x2 : Int32) (x3 : Int32), f_X6_readDigits_4 nW qL x1 x2 x3 = some u → VW g (va_A ([prO g b q] : List va_W).flatten sW.heap.size) 5 pW l eW ({ frames := 0, cells := 0, slots := 0, locals := 0 } : Room) sW mW argsW belowW methW c9 0 0 (MQ belowW (xQc g ([prO g b q] : List va_W).flatten sW.heap.size (fun v9 w9 => v9 = some (.int u.1) ∧ w9 = ([prO g b u.2] : List va_W).flatten)) argsW sW 0 0 (va_A ([prO g b q] : List va_W).flatten sW.heap.size)) [prO g b qL] [(0, .ref (b 0)), (1, .int x1), (2, .int x2), (3, .int x3)] 4 [] := by
    intro nW
    induction nW with
    | zero => intro qL x1 x2 x3 hf; rw [f_X6_readDigits_4] at hf; cases hf
    | succ nW ih =>
      intro qL x1 x2 x3 hf
      rw [f_X6_readDigits_4] at hf
      refine x_iload_n C dX6_readDigits_4 rfl 3 rfl ?_
      refine x_iload_n C dX6_readDigits_5 rfl 1 rfl ?_
      refine x_icmp_ge (tgt := 82) C dX6_readDigits_6 (by decide) (fun h1 => ?_) (fun h1 => ?_)
      · have hf := x_t h1 hf
        refine x_iload_n C dX6_readDigits_82 rfl 2 rfl ?_
        exact x_iret C hr ⟨by cases hf; rfl, by cases hf; rfl⟩ dX6_readDigits_83
      · have hf := x_f h1 hf
        refine x_aload_n C dX6_readDigits_9 rfl 0 rfl ?_
        refine x_get (ci := 8) (v := .int qL.2.2.2) (b := prO g b qL) C ixX6 rfl 4 (by decide) wd_985 (fun _ h => h) 0 rfl 0 (prO_at0 g b _) rfl dX6_readDigits_10 ?_
        refine x_aload_n C dX6_readDigits_13 rfl 0 rfl ?_
        refine x_get (ci := 8) (v := .int qL.2.1) (b := prO g b qL) C ixX6 rfl 2 (by decide) wd_982 (fun _ h => h) 0 rfl 0 (prO_at0 g b _) rfl dX6_readDigits_14 ?_
        refine x_icmp_ge (tgt := 82) C dX6_readDigits_17 (by decide) (fun h2 => ?_) (fun h2 => ?_)
        · have hf := x_t h2 hf
          refine x_iload_n C dX6_readDigits_82 rfl 2 rfl ?_
          exact x_iret C hr ⟨by cases hf; rfl, by cases hf; rfl⟩ dX6_readDigits_83
        · have hf := x_f h2 hf
          refine x_aload_n C dX6_readDigits_20 rfl 0 rfl ?_
          refine x_get (ci := 8) (v := .ref (b 1)) (b := prO g b qL) C ixX6 rfl 0 (by decide) wd_979 (fun _ h => h) 0 rfl 0 (prO_at0 g b _) rfl dX6_readDigits_21 ?_
          refine x_aload_n C dX6_readDigits_24 rfl 0 rfl ?_
          refine x_get (ci := 8) (v := .int qL.2.2.2) (b := prO g b qL) C ixX6 rfl 4 (by decide) wd_985 (fun _ h => h) 0 rfl 0 (prO_at0 g b _) rfl dX6_readDigits_25 ?_
          obtain ⟨h3, hf⟩ := x_n hf
          refine x_cald (b := prO g b qL) C 0 rfl 1 (prO_at1 g b _) h3 dX6_readDigits_28 ?_
          refine x_bipush (v := 48) C dX6_readDigits_29 (by decide) ?_
          refine x_isub C dX6_readDigits_31 ?_
          refine x_istore (lv' := [(4, .int ((qL.1 qL.2.2.2.toNatClampNeg) - (48 : Int32))), (0, .ref (b 0)), (1, .int x1), (2, .int x2), (3, .int x3)]) C dX6_readDigits_32 (by decide) rfl ?_
          refine x_iload C dX6_readDigits_34 0 rfl ?_
          refine x_if_lt (tgt := 82) C dX6_readDigits_36 (by decide) (fun h4 => ?_) (fun h4 => ?_)
          · have hf := x_t h4 hf
            refine x_iload_n C dX6_readDigits_82 rfl 3 rfl ?_
            exact x_iret C hr ⟨by cases hf; rfl, by cases hf; rfl⟩ dX6_readDigits_83
          · have hf := x_f h4 hf
            refine x_iload C dX6_readDigits_39 0 rfl ?_
            refine x_bipush (v := 9) C dX6_readDigits_41 (by decide) ?_
            refine x_icmp_le (tgt := 49) C dX6_readDigits_43 (by decide) (fun h5 => ?_) (fun h5 => ?_)
            · have hf := x_t h5 hf
              refine x_iload_n C dX6_readDigits_49 rfl 4 rfl ?_
              refine x_if_ne (tgt := 58) C dX6_readDigits_50 (by decide) (fun h6 => ?_) (fun h6 => ?_)
              · have hf := x_f h6 hf
                refine x_bipush (v := 10) C dX6_readDigits_58 (by decide) ?_
                refine x_iload_n C dX6_readDigits_60 rfl 3 rfl ?_
                refine x_imul C dX6_readDigits_61 ?_
                refine x_iload C dX6_readDigits_62 0 rfl ?_
                refine x_iadd C dX6_readDigits_64 ?_
                refine x_istore_n (lv' := [(2, .int (((10 : Int32) * x2) + ((qL.1 qL.2.2.2.toNatClampNeg) - (48 : Int32)))), (4, .int ((qL.1 qL.2.2.2.toNatClampNeg) - (48 : Int32))), (0, .ref (b 0)), (1, .int x1), (3, .int x3)]) C dX6_readDigits_65 rfl (by decide) rfl ?_
                refine x_aload_n C dX6_readDigits_66 rfl 2 rfl ?_
                refine x_dup C dX6_readDigits_67 rfl ?_
                refine x_get (ci := 8) (v := .int qL.2.2.2) (b := prO g b qL) C ixX6 rfl 4 (by decide) wd_985 (fun _ h => h) 0 rfl 0 (prO_at0 g b _) rfl dX6_readDigits_68 ?_
                refine x_iconst (v := 1) C dX6_readDigits_71 (by decide) ?_
                refine x_iadd C dX6_readDigits_72 ?_
                refine x_put (ci := 8) (ty := .int) (v := .int (qL.2.2.2 + (1 : Int32))) (b := prO g b qL) (b' := prO g b (qL.1, qL.2.1, qL.2.2.1, qL.2.2.2 + (1 : Int32))) (wss' := [prO g b (qL.1, qL.2.1, qL.2.2.1, qL.2.2.2 + (1 : Int32))]) C ixX6 tyX6 tyX6_ok nmX6 rfl 4 (by decide) wd_985 (fun _ h => h) rfl (tyX6_ok 4 (by decide)) rfl rfl 0 rfl 0 (prO_at0 g b _) (Nat.le_of_ble_eq_true rfl) rfl rfl dX6_readDigits_73 ?_
                refine x_iinc (v := x3 + 1) (lv' := [(3, .int (x3 + 1)), (2, .int (((10 : Int32) * x2) + ((qL.1 qL.2.2.2.toNatClampNeg) - (48 : Int32)))), (4, .int ((qL.1 qL.2.2.2.toNatClampNeg) - (48 : Int32))), (0, .ref (b 0)), (1, .int x1)]) C dX6_readDigits_76 4 rfl rfl (by decide) rfl ?_
                refine x_goto (tgt := 4) C dX6_readDigits_79 (by decide) ?_
                refine x_locals (lv' := [(0, .ref (b 0)), (1, .int x1), (2, .int (((10 : Int32) * x2) + ((qL.1 qL.2.2.2.toNatClampNeg) - (48 : Int32)))), (3, .int (x3 + 1))]) [3, 4, 1, 0] rfl ?_
                exact ih (qL.1, qL.2.1, qL.2.2.1, qL.2.2.2 + (1 : Int32)) x1 (((10 : Int32) * x2) + ((qL.1 qL.2.2.2.toNatClampNeg) - (48 : Int32))) (x3 + 1) hf
              · have hf := x_t h6 hf
                refine x_iload C dX6_readDigits_53 0 rfl ?_
                refine x_goto (tgt := 65) C dX6_readDigits_55 (by decide) ?_
                refine x_istore_n (lv' := [(2, .int ((qL.1 qL.2.2.2.toNatClampNeg) - (48 : Int32))), (4, .int ((qL.1 qL.2.2.2.toNatClampNeg) - (48 : Int32))), (0, .ref (b 0)), (1, .int x1), (3, .int x3)]) C dX6_readDigits_65 rfl (by decide) rfl ?_
                refine x_aload_n C dX6_readDigits_66 rfl 2 rfl ?_
                refine x_dup C dX6_readDigits_67 rfl ?_
                refine x_get (ci := 8) (v := .int qL.2.2.2) (b := prO g b qL) C ixX6 rfl 4 (by decide) wd_985 (fun _ h => h) 0 rfl 0 (prO_at0 g b _) rfl dX6_readDigits_68 ?_
                refine x_iconst (v := 1) C dX6_readDigits_71 (by decide) ?_
                refine x_iadd C dX6_readDigits_72 ?_
                refine x_put (ci := 8) (ty := .int) (v := .int (qL.2.2.2 + (1 : Int32))) (b := prO g b qL) (b' := prO g b (qL.1, qL.2.1, qL.2.2.1, qL.2.2.2 + (1 : Int32))) (wss' := [prO g b (qL.1, qL.2.1, qL.2.2.1, qL.2.2.2 + (1 : Int32))]) C ixX6 tyX6 tyX6_ok nmX6 rfl 4 (by decide) wd_985 (fun _ h => h) rfl (tyX6_ok 4 (by decide)) rfl rfl 0 rfl 0 (prO_at0 g b _) (Nat.le_of_ble_eq_true rfl) rfl rfl dX6_readDigits_73 ?_
                refine x_iinc (v := x3 + 1) (lv' := [(3, .int (x3 + 1)), (2, .int ((qL.1 qL.2.2.2.toNatClampNeg) - (48 : Int32))), (4, .int ((qL.1 qL.2.2.2.toNatClampNeg) - (48 : Int32))), (0, .ref (b 0)), (1, .int x1)]) C dX6_readDigits_76 4 rfl rfl (by decide) rfl ?_
                refine x_goto (tgt := 4) C dX6_readDigits_79 (by decide) ?_
                refine x_locals (lv' := [(0, .ref (b 0)), (1, .int x1), (2, .int ((qL.1 qL.2.2.2.toNatClampNeg) - (48 : Int32))), (3, .int (x3 + 1))]) [3, 4, 1, 0] rfl ?_
                exact ih (qL.1, qL.2.1, qL.2.2.1, qL.2.2.2 + (1 : Int32)) x1 ((qL.1 qL.2.2.2.toNatClampNeg) - (48 : Int32)) (x3 + 1) hf
            · have hf := x_f h5 hf
              refine x_goto (tgt := 82) C dX6_readDigits_46 (by decide) ?_
              refine x_iload_n C dX6_readDigits_82 rfl 3 rfl ?_
              exact x_iret C hr ⟨by cases hf; rfl, by cases hf; rfl⟩ dX6_readDigits_83
  refine x_iconst (v := (-1)) C dX6_readDigits_0 (by decide) ?_
  refine x_istore_n (lv' := [(2, .int (-1 : Int32)), (0, .ref (b 0)), (1, .int x1)]) C dX6_readDigits_1 rfl (by decide) rfl ?_
  refine x_iconst (v := 0) C dX6_readDigits_2 (by decide) ?_
  refine x_istore_n (lv' := [(3, .int (0 : Int32)), (2, .int (-1 : Int32)), (0, .ref (b 0)), (1, .int x1)]) C dX6_readDigits_3 rfl (by decide) rfl ?_
  refine x_locals (lv' := [(0, .ref (b 0)), (1, .int x1), (2, .int (-1 : Int32)), (3, .int (0 : Int32))]) [2, 3, 1, 0] rfl ?_
  exact hL4 xFuel q x1 (-1 : Int32) (0 : Int32) hf
theorem wd_15 : Cond.selects yX6_readDigits.cls yX6_readDigits yX6_readDigits ∈ xTB := xTB_in 15 (by decide +kernel) (by decide +kernel)
theorem wd_955 : Cond.fieldLink RX6 126 "CandleConcert$Command" "number" "I" ∈ xTB := xTB_in 955 (by decide +kernel) (by decide +kernel)
theorem wd_1187 : Cond.methodLink RX6 93 yX6_readDigits ∈ xTB := xTB_in 1187 (by decide +kernel) (by decide +kernel)
theorem wd_1189 : Cond.instanceMethod yX6_readDigits ∈ xTB := xTB_in 1189 (by decide +kernel) (by decide +kernel)
theorem wd_1190 : Cond.code yX6_readDigits cX6_readDigits 5 (some .int) ∈ xTB := xTB_in 1190 (by decide +kernel) (by decide +kernel)
theorem dX6_readNumber_0 : decode cX6_readNumber 0 = .ok (.aload_n 1, 1) := by decide +kernel
theorem dX6_readNumber_1 : decode cX6_readNumber 1 = .ok (.aload_n 0, 1) := by decide +kernel
theorem dX6_readNumber_2 : decode cX6_readNumber 2 = .ok (.iload_n 2, 1) := by decide +kernel
theorem dX6_readNumber_3 : decode cX6_readNumber 3 = .ok (.invokevirtual 93, 3) := by decide +kernel
theorem dX6_readNumber_6 : decode cX6_readNumber 6 = .ok (.putfield 126, 3) := by decide +kernel
theorem dX6_readNumber_9 : decode cX6_readNumber 9 = .ok (.aload_n 1, 1) := by decide +kernel
theorem dX6_readNumber_10 : decode cX6_readNumber 10 = .ok (.getfield 126, 3) := by decide +kernel
theorem dX6_readNumber_13 : decode cX6_readNumber 13 = .ok (.iconst (-1), 1) := by decide +kernel
theorem dX6_readNumber_14 : decode cX6_readNumber 14 = .ok (.if_icmp .eq 7, 3) := by decide +kernel
theorem dX6_readNumber_17 : decode cX6_readNumber 17 = .ok (.iconst 1, 1) := by decide +kernel
theorem dX6_readNumber_18 : decode cX6_readNumber 18 = .ok (.goto 4, 3) := by decide +kernel
theorem dX6_readNumber_21 : decode cX6_readNumber 21 = .ok (.iconst 0, 1) := by decide +kernel
theorem dX6_readNumber_22 : decode cX6_readNumber 22 = .ok (.ireturn, 1) := by decide +kernel
set_option maxHeartbeats 4000000 in
set_option maxRecDepth 100000 in
theorem c_X6_readNumber (g : xG) (l : Launch) (b : Nat → Nat) (x : Nat) (q : PrT) (w : CmT) (x2 : Int32) {u : Int32 × PrT × CmT} (hf : f_X6_readNumber q w x2 = some u) : ConD g l yX6_readNumber cX6_readNumber 3 (some .boolean) ({ frames := 1, cells := 0, slots := 0, locals := 24 } : Room) [.ref (b 0), .ref x, .int x2] [prO g b q, cmO g x w] (some (.int u.1)) [prO g b u.2.1, cmO g x u.2.2] := by
  unfold f_X6_readNumber at hf
  refine Con_of [prO g b q, cmO g x w] [(0, .ref (b 0)), (1, .ref x), (2, .int x2)] rfl rfl (by decide) (Nat.le_of_ble_eq_true rfl) ?_
  intro pW eW sW mW argsW belowW methW c9 C hnm hr
  have C : CX g RX6 cX6_readNumber 3 _ pW sW mW argsW methW c9 := C
  refine x_aload_n C dX6_readNumber_0 rfl 1 rfl ?_
  refine x_aload_n C dX6_readNumber_1 rfl 0 rfl ?_
  refine x_iload_n C dX6_readNumber_2 rfl 2 rfl ?_
  obtain ⟨u1, hu1, hf⟩ := x_b hf
  refine x_callV (n := 1) (As := [.int x2]) (rest := [.ref x]) C (c_X6_readDigits g l b q x2 hu1) ⟨⟨wd_1190, wd_1187, wd_30⟩, ⟨by decide, by decide, by decide⟩, rfl, rfl, Nat.le_of_ble_eq_true rfl, Nat.le_of_ble_eq_true rfl⟩ wd_1189 wd_15 ⟨0, 8, _, _, rfl, rfl, rfl⟩ [cmO g x w] (x_pickD [0, 1] 2 rfl rfl rfl) rfl rfl (Nat.le_of_ble_eq_true rfl) ⟨Nat.le_of_ble_eq_true rfl, Nat.le_of_ble_eq_true rfl⟩ dX6_readNumber_3 (x_goD (wss2 := [prO g b u1.2, cmO g x w]) (stk2 := [.int u1.1, .ref x]) rfl rfl ?_)
  refine x_put (ci := 5) (ty := .int) (v := .int u1.1) (b := cmO g x w) (b' := cmO g x (w.1, w.2.1, u1.1, w.2.2.2.1, w.2.2.2.2.1, w.2.2.2.2.2)) (wss' := [prO g b u1.2, cmO g x (w.1, w.2.1, u1.1, w.2.2.2.1, w.2.2.2.2.1, w.2.2.2.2.2)]) C ixX2 tyX2 tyX2_ok nmX2 rfl 2 (by decide) wd_955 (fun _ h => h) rfl (tyX2_ok 2 (by decide)) rfl rfl 1 rfl 0 (cmO_at0 g x _) (Nat.le_of_ble_eq_true rfl) rfl rfl dX6_readNumber_6 ?_
  refine x_aload_n C dX6_readNumber_9 rfl 1 rfl ?_
  refine x_get (ci := 5) (v := .int u1.1) (b := cmO g x (w.1, w.2.1, u1.1, w.2.2.2.1, w.2.2.2.2.1, w.2.2.2.2.2)) C ixX2 rfl 2 (by decide) wd_955 (fun _ h => h) 1 rfl 0 (cmO_at0 g x _) rfl dX6_readNumber_10 ?_
  refine x_iconst (v := (-1)) C dX6_readNumber_13 (by decide) ?_
  refine x_icmp_eq (tgt := 21) C dX6_readNumber_14 (by decide) (fun h2 => ?_) (fun h2 => ?_)
  · have hf := x_t h2 hf
    refine x_iconst (v := 0) C dX6_readNumber_21 (by decide) ?_
    exact x_zret C hr rfl ⟨by cases hf; rfl, by cases hf; rfl⟩ dX6_readNumber_22
  · have hf := x_f h2 hf
    refine x_iconst (v := 1) C dX6_readNumber_17 (by decide) ?_
    refine x_goto (tgt := 22) C dX6_readNumber_18 (by decide) ?_
    exact x_zret C hr rfl ⟨by cases hf; rfl, by cases hf; rfl⟩ dX6_readNumber_22
theorem wd_14 : Cond.selects yX6_readNumber.cls yX6_readNumber yX6_readNumber ∈ xTB := xTB_in 14 (by decide +kernel) (by decide +kernel)
theorem wd_949 : Cond.fieldLink RX6 59 "CandleConcert$Command" "kind" "LCandleConcert$Kind;" ∈ xTB := xTB_in 949 (by decide +kernel) (by decide +kernel)
theorem wd_1183 : Cond.methodLink RX6 89 yX6_readNumber ∈ xTB := xTB_in 1183 (by decide +kernel) (by decide +kernel)
theorem wd_1185 : Cond.instanceMethod yX6_readNumber ∈ xTB := xTB_in 1185 (by decide +kernel) (by decide +kernel)
theorem wd_1186 : Cond.code yX6_readNumber cX6_readNumber 3 (some .boolean) ∈ xTB := xTB_in 1186 (by decide +kernel) (by decide +kernel)
theorem wd_1230 : Cond.fieldLink RX6 123 "CandleConcert$Kind" "WAIT" "LCandleConcert$Kind;" ∈ xTB := xTB_in 1230 (by decide +kernel) (by decide +kernel)
theorem dX6_readDuration_0 : decode cX6_readDuration 0 = .ok (.aload_n 1, 1) := by decide +kernel
theorem dX6_readDuration_1 : decode cX6_readDuration 1 = .ok (.getstatic 123, 3) := by decide +kernel
theorem dX6_readDuration_4 : decode cX6_readDuration 4 = .ok (.putfield 59, 3) := by decide +kernel
theorem dX6_readDuration_7 : decode cX6_readDuration 7 = .ok (.aload_n 1, 1) := by decide +kernel
theorem dX6_readDuration_8 : decode cX6_readDuration 8 = .ok (.iconst 1, 1) := by decide +kernel
theorem dX6_readDuration_9 : decode cX6_readDuration 9 = .ok (.putfield 126, 3) := by decide +kernel
theorem dX6_readDuration_12 : decode cX6_readDuration 12 = .ok (.aload_n 0, 1) := by decide +kernel
theorem dX6_readDuration_13 : decode cX6_readDuration 13 = .ok (.bipush 32, 2) := by decide +kernel
theorem dX6_readDuration_15 : decode cX6_readDuration 15 = .ok (.invokevirtual 40, 3) := by decide +kernel
theorem dX6_readDuration_18 : decode cX6_readDuration 18 = .ok (.ifCond .eq 12, 3) := by decide +kernel
theorem dX6_readDuration_21 : decode cX6_readDuration 21 = .ok (.aload_n 0, 1) := by decide +kernel
theorem dX6_readDuration_22 : decode cX6_readDuration 22 = .ok (.aload_n 1, 1) := by decide +kernel
theorem dX6_readDuration_23 : decode cX6_readDuration 23 = .ok (.iconst 3, 1) := by decide +kernel
theorem dX6_readDuration_24 : decode cX6_readDuration 24 = .ok (.invokevirtual 89, 3) := by decide +kernel
theorem dX6_readDuration_27 : decode cX6_readDuration 27 = .ok (.ifCond .eq 7, 3) := by decide +kernel
theorem dX6_readDuration_30 : decode cX6_readDuration 30 = .ok (.iconst 1, 1) := by decide +kernel
theorem dX6_readDuration_31 : decode cX6_readDuration 31 = .ok (.goto 4, 3) := by decide +kernel
theorem dX6_readDuration_34 : decode cX6_readDuration 34 = .ok (.iconst 0, 1) := by decide +kernel
theorem dX6_readDuration_35 : decode cX6_readDuration 35 = .ok (.ireturn, 1) := by decide +kernel
set_option maxHeartbeats 4000000 in
set_option maxRecDepth 100000 in
theorem c_X6_readDuration (g : xG) (l : Launch) (b : Nat → Nat) (x : Nat) (q : PrT) (w : CmT)  {u : Int32 × PrT × CmT} (hf : f_X6_readDuration q w = some u) : ConD g l yX6_readDuration cX6_readDuration 2 (some .boolean) ({ frames := 2, cells := 0, slots := 0, locals := 46 } : Room) [.ref (b 0), .ref x] [prO g b q, cmO g x w] (some (.int u.1)) [prO g b u.2.1, cmO g x u.2.2] := by
  unfold f_X6_readDuration at hf
  refine Con_of [prO g b q, cmO g x w] [(0, .ref (b 0)), (1, .ref x)] rfl rfl (by decide) (Nat.le_of_ble_eq_true rfl) ?_
  intro pW eW sW mW argsW belowW methW c9 C hnm hr
  have C : CX g RX6 cX6_readDuration 2 _ pW sW mW argsW methW c9 := C
  refine x_aload_n C dX6_readDuration_0 rfl 1 rfl ?_
  refine x_gets (Cn := "CandleConcert$Kind") (n := "WAIT") (d := "LCandleConcert$Kind;") C (CX_enK C 7 (by decide)) wd_1230 (fun _ h => h) dX6_readDuration_1 ?_
  refine x_put (ci := 5) (ty := .object "CandleConcert$Kind") (v := .ref (g.2.2 (200 + 7))) (b := cmO g x w) (b' := cmO g x (7, w.2.1, w.2.2.1, w.2.2.2.1, w.2.2.2.2.1, w.2.2.2.2.2)) (wss' := [prO g b q, cmO g x (7, w.2.1, w.2.2.1, w.2.2.2.1, w.2.2.2.2.1, w.2.2.2.2.2)]) C ixX2 tyX2 tyX2_ok nmX2 rfl 0 (by decide) wd_949 (fun _ h => h) rfl (tyX2_ok 0 (by decide)) rfl rfl 1 rfl 0 (cmO_at0 g x _) (Nat.le_of_ble_eq_true rfl) rfl rfl dX6_readDuration_4 ?_
  refine x_aload_n C dX6_readDuration_7 rfl 1 rfl ?_
  refine x_iconst (v := 1) C dX6_readDuration_8 (by decide) ?_
  refine x_put (ci := 5) (ty := .int) (v := .int (1 : Int32)) (b := cmO g x (7, w.2.1, w.2.2.1, w.2.2.2.1, w.2.2.2.2.1, w.2.2.2.2.2)) (b' := cmO g x (7, w.2.1, (1 : Int32), w.2.2.2.1, w.2.2.2.2.1, w.2.2.2.2.2)) (wss' := [prO g b q, cmO g x (7, w.2.1, (1 : Int32), w.2.2.2.1, w.2.2.2.2.1, w.2.2.2.2.2)]) C ixX2 tyX2 tyX2_ok nmX2 rfl 2 (by decide) wd_955 (fun _ h => h) rfl (tyX2_ok 2 (by decide)) rfl rfl 1 rfl 0 (cmO_at0 g x _) (Nat.le_of_ble_eq_true rfl) rfl rfl dX6_readDuration_9 ?_
  refine x_aload_n C dX6_readDuration_12 rfl 0 rfl ?_
  refine x_bipush (v := 32) C dX6_readDuration_13 (by decide) ?_
  obtain ⟨u1, hu1, hf⟩ := x_b hf
  refine x_callV (n := 1) (As := [.int (32 : Int32)]) (rest := []) C (c_X6_accept g l b q (32 : Int32) hu1) ⟨⟨wd_1164, wd_1161, wd_30⟩, ⟨by decide, by decide, by decide⟩, rfl, rfl, Nat.le_of_ble_eq_true rfl, Nat.le_of_ble_eq_true rfl⟩ wd_1163 wd_10 ⟨0, 8, _, _, rfl, rfl, rfl⟩ [cmO g x (7, w.2.1, (1 : Int32), w.2.2.2.1, w.2.2.2.2.1, w.2.2.2.2.2)] (x_pickD [0, 1] 2 rfl rfl rfl) rfl rfl (Nat.le_of_ble_eq_true rfl) ⟨Nat.le_of_ble_eq_true rfl, Nat.le_of_ble_eq_true rfl⟩ dX6_readDuration_15 (x_goD (wss2 := [prO g b u1.2, cmO g x (7, w.2.1, (1 : Int32), w.2.2.2.1, w.2.2.2.2.1, w.2.2.2.2.2)]) (stk2 := [.int u1.1]) rfl rfl ?_)
  refine x_if_eq (tgt := 30) C dX6_readDuration_18 (by decide) (fun h2 => ?_) (fun h2 => ?_)
  · have hf := x_t h2 hf
    refine x_iconst (v := 1) C dX6_readDuration_30 (by decide) ?_
    refine x_goto (tgt := 35) C dX6_readDuration_31 (by decide) ?_
    exact x_zret C hr rfl ⟨by cases hf; rfl, by cases hf; rfl⟩ dX6_readDuration_35
  · have hf := x_f h2 hf
    refine x_aload_n C dX6_readDuration_21 rfl 0 rfl ?_
    refine x_aload_n C dX6_readDuration_22 rfl 1 rfl ?_
    refine x_iconst (v := 3) C dX6_readDuration_23 (by decide) ?_
    obtain ⟨u3, hu3, hf⟩ := x_b hf
    refine x_callV (n := 2) (As := [.ref x, .int (3 : Int32)]) (rest := []) C (c_X6_readNumber g l b x u1.2 (7, w.2.1, (1 : Int32), w.2.2.2.1, w.2.2.2.2.1, w.2.2.2.2.2) (3 : Int32) hu3) ⟨⟨wd_1186, wd_1183, wd_30⟩, ⟨by decide, by decide, by decide⟩, rfl, rfl, Nat.le_of_ble_eq_true rfl, Nat.le_of_ble_eq_true rfl⟩ wd_1185 wd_14 ⟨0, 8, _, _, rfl, rfl, rfl⟩ [] (x_pickD [0, 1] 2 rfl rfl rfl) rfl rfl (Nat.le_of_ble_eq_true rfl) ⟨Nat.le_of_ble_eq_true rfl, Nat.le_of_ble_eq_true rfl⟩ dX6_readDuration_24 (x_goD (wss2 := [prO g b u3.2.1, cmO g x u3.2.2]) (stk2 := [.int u3.1]) rfl rfl ?_)
    refine x_if_eq (tgt := 34) C dX6_readDuration_27 (by decide) (fun h4 => ?_) (fun h4 => ?_)
    · have hf := x_t h4 hf
      refine x_iconst (v := 0) C dX6_readDuration_34 (by decide) ?_
      exact x_zret C hr rfl ⟨by cases hf; rfl, by cases hf; rfl⟩ dX6_readDuration_35
    · have hf := x_f h4 hf
      refine x_iconst (v := 1) C dX6_readDuration_30 (by decide) ?_
      refine x_goto (tgt := 35) C dX6_readDuration_31 (by decide) ?_
      exact x_zret C hr rfl ⟨by cases hf; rfl, by cases hf; rfl⟩ dX6_readDuration_35
theorem wd_11 : Cond.selects yX6_acceptAll.cls yX6_acceptAll yX6_acceptAll ∈ xTB := xTB_in 11 (by decide +kernel) (by decide +kernel)
theorem wd_1166 : Cond.methodLink RX6 46 yX6_acceptAll ∈ xTB := xTB_in 1166 (by decide +kernel) (by decide +kernel)
theorem wd_1168 : Cond.instanceMethod yX6_acceptAll ∈ xTB := xTB_in 1168 (by decide +kernel) (by decide +kernel)
theorem wd_1169 : Cond.code yX6_acceptAll cX6_acceptAll 3 (some .boolean) ∈ xTB := xTB_in 1169 (by decide +kernel) (by decide +kernel)
theorem wd_1219 : Cond.fieldLink RX6 113 "CandleConcert$Kind" "DRAUGHT" "LCandleConcert$Kind;" ∈ xTB := xTB_in 1219 (by decide +kernel) (by decide +kernel)
theorem wd_1222 : Cond.fieldLink RX6 118 "CandleConcert$Kind" "DROP" "LCandleConcert$Kind;" ∈ xTB := xTB_in 1222 (by decide +kernel) (by decide +kernel)
theorem dX6_readDraughtOrDrop_0 : decode cX6_readDraughtOrDrop 0 = .ok (.aload_n 0, 1) := by decide +kernel
theorem dX6_readDraughtOrDrop_1 : decode cX6_readDraughtOrDrop 1 = .ok (.bipush 114, 2) := by decide +kernel
theorem dX6_readDraughtOrDrop_3 : decode cX6_readDraughtOrDrop 3 = .ok (.invokevirtual 40, 3) := by decide +kernel
theorem dX6_readDraughtOrDrop_6 : decode cX6_readDraughtOrDrop 6 = .ok (.ifCond .ne 5, 3) := by decide +kernel
theorem dX6_readDraughtOrDrop_9 : decode cX6_readDraughtOrDrop 9 = .ok (.iconst 0, 1) := by decide +kernel
theorem dX6_readDraughtOrDrop_10 : decode cX6_readDraughtOrDrop 10 = .ok (.ireturn, 1) := by decide +kernel
theorem dX6_readDraughtOrDrop_11 : decode cX6_readDraughtOrDrop 11 = .ok (.aload_n 0, 1) := by decide +kernel
theorem dX6_readDraughtOrDrop_12 : decode cX6_readDraughtOrDrop 12 = .ok (.bipush 97, 2) := by decide +kernel
theorem dX6_readDraughtOrDrop_14 : decode cX6_readDraughtOrDrop 14 = .ok (.invokevirtual 40, 3) := by decide +kernel
theorem dX6_readDraughtOrDrop_17 : decode cX6_readDraughtOrDrop 17 = .ok (.ifCond .eq 34, 3) := by decide +kernel
theorem dX6_readDraughtOrDrop_20 : decode cX6_readDraughtOrDrop 20 = .ok (.aload_n 1, 1) := by decide +kernel
theorem dX6_readDraughtOrDrop_21 : decode cX6_readDraughtOrDrop 21 = .ok (.getstatic 113, 3) := by decide +kernel
theorem dX6_readDraughtOrDrop_24 : decode cX6_readDraughtOrDrop 24 = .ok (.putfield 59, 3) := by decide +kernel
theorem dX6_readDraughtOrDrop_27 : decode cX6_readDraughtOrDrop 27 = .ok (.aload_n 0, 1) := by decide +kernel
theorem dX6_readDraughtOrDrop_28 : decode cX6_readDraughtOrDrop 28 = .ok (.ldc 116, 2) := by decide +kernel
theorem dX6_readDraughtOrDrop_30 : decode cX6_readDraughtOrDrop 30 = .ok (.invokevirtual 46, 3) := by decide +kernel
theorem dX6_readDraughtOrDrop_33 : decode cX6_readDraughtOrDrop 33 = .ok (.ifCond .eq 16, 3) := by decide +kernel
theorem dX6_readDraughtOrDrop_36 : decode cX6_readDraughtOrDrop 36 = .ok (.aload_n 0, 1) := by decide +kernel
theorem dX6_readDraughtOrDrop_37 : decode cX6_readDraughtOrDrop 37 = .ok (.aload_n 1, 1) := by decide +kernel
theorem dX6_readDraughtOrDrop_38 : decode cX6_readDraughtOrDrop 38 = .ok (.iconst 1, 1) := by decide +kernel
theorem dX6_readDraughtOrDrop_39 : decode cX6_readDraughtOrDrop 39 = .ok (.invokevirtual 89, 3) := by decide +kernel
theorem dX6_readDraughtOrDrop_42 : decode cX6_readDraughtOrDrop 42 = .ok (.ifCond .eq 7, 3) := by decide +kernel
theorem dX6_readDraughtOrDrop_45 : decode cX6_readDraughtOrDrop 45 = .ok (.iconst 1, 1) := by decide +kernel
theorem dX6_readDraughtOrDrop_46 : decode cX6_readDraughtOrDrop 46 = .ok (.goto 4, 3) := by decide +kernel
theorem dX6_readDraughtOrDrop_49 : decode cX6_readDraughtOrDrop 49 = .ok (.iconst 0, 1) := by decide +kernel
theorem dX6_readDraughtOrDrop_50 : decode cX6_readDraughtOrDrop 50 = .ok (.ireturn, 1) := by decide +kernel
theorem dX6_readDraughtOrDrop_51 : decode cX6_readDraughtOrDrop 51 = .ok (.aload_n 1, 1) := by decide +kernel
theorem dX6_readDraughtOrDrop_52 : decode cX6_readDraughtOrDrop 52 = .ok (.getstatic 118, 3) := by decide +kernel
theorem dX6_readDraughtOrDrop_55 : decode cX6_readDraughtOrDrop 55 = .ok (.putfield 59, 3) := by decide +kernel
theorem dX6_readDraughtOrDrop_58 : decode cX6_readDraughtOrDrop 58 = .ok (.aload_n 0, 1) := by decide +kernel
theorem dX6_readDraughtOrDrop_59 : decode cX6_readDraughtOrDrop 59 = .ok (.ldc 121, 2) := by decide +kernel
theorem dX6_readDraughtOrDrop_61 : decode cX6_readDraughtOrDrop 61 = .ok (.invokevirtual 46, 3) := by decide +kernel
theorem dX6_readDraughtOrDrop_64 : decode cX6_readDraughtOrDrop 64 = .ok (.ifCond .eq 16, 3) := by decide +kernel
theorem dX6_readDraughtOrDrop_67 : decode cX6_readDraughtOrDrop 67 = .ok (.aload_n 0, 1) := by decide +kernel
theorem dX6_readDraughtOrDrop_68 : decode cX6_readDraughtOrDrop 68 = .ok (.aload_n 1, 1) := by decide +kernel
theorem dX6_readDraughtOrDrop_69 : decode cX6_readDraughtOrDrop 69 = .ok (.iconst 3, 1) := by decide +kernel
theorem dX6_readDraughtOrDrop_70 : decode cX6_readDraughtOrDrop 70 = .ok (.invokevirtual 89, 3) := by decide +kernel
theorem dX6_readDraughtOrDrop_73 : decode cX6_readDraughtOrDrop 73 = .ok (.ifCond .eq 7, 3) := by decide +kernel
theorem dX6_readDraughtOrDrop_76 : decode cX6_readDraughtOrDrop 76 = .ok (.iconst 1, 1) := by decide +kernel
theorem dX6_readDraughtOrDrop_77 : decode cX6_readDraughtOrDrop 77 = .ok (.goto 4, 3) := by decide +kernel
theorem dX6_readDraughtOrDrop_80 : decode cX6_readDraughtOrDrop 80 = .ok (.iconst 0, 1) := by decide +kernel
theorem dX6_readDraughtOrDrop_81 : decode cX6_readDraughtOrDrop 81 = .ok (.ireturn, 1) := by decide +kernel
set_option maxHeartbeats 4000000 in
set_option maxRecDepth 100000 in
theorem c_X6_readDraughtOrDrop (g : xG) (l : Launch) (b : Nat → Nat) (x : Nat) (q : PrT) (w : CmT)  {u : Int32 × PrT × CmT} (hf : f_X6_readDraughtOrDrop q w = some u) : ConD g l yX6_readDraughtOrDrop cX6_readDraughtOrDrop 2 (some .boolean) ({ frames := 5, cells := 0, slots := 0, locals := 107 } : Room) [.ref (b 0), .ref x] [prO g b q, cmO g x w] (some (.int u.1)) [prO g b u.2.1, cmO g x u.2.2] := by
  unfold f_X6_readDraughtOrDrop at hf
  refine Con_of [prO g b q, cmO g x w] [(0, .ref (b 0)), (1, .ref x)] rfl rfl (by decide) (Nat.le_of_ble_eq_true rfl) ?_
  intro pW eW sW mW argsW belowW methW c9 C hnm hr
  have C : CX g RX6 cX6_readDraughtOrDrop 2 _ pW sW mW argsW methW c9 := C
  refine x_aload_n C dX6_readDraughtOrDrop_0 rfl 0 rfl ?_
  refine x_bipush (v := 114) C dX6_readDraughtOrDrop_1 (by decide) ?_
  obtain ⟨u1, hu1, hf⟩ := x_b hf
  refine x_callV (n := 1) (As := [.int (114 : Int32)]) (rest := []) C (c_X6_accept g l b q (114 : Int32) hu1) ⟨⟨wd_1164, wd_1161, wd_30⟩, ⟨by decide, by decide, by decide⟩, rfl, rfl, Nat.le_of_ble_eq_true rfl, Nat.le_of_ble_eq_true rfl⟩ wd_1163 wd_10 ⟨0, 8, _, _, rfl, rfl, rfl⟩ [cmO g x w] (x_pickD [0, 1] 2 rfl rfl rfl) rfl rfl (Nat.le_of_ble_eq_true rfl) ⟨Nat.le_of_ble_eq_true rfl, Nat.le_of_ble_eq_true rfl⟩ dX6_readDraughtOrDrop_3 (x_goD (wss2 := [prO g b u1.2, cmO g x w]) (stk2 := [.int u1.1]) rfl rfl ?_)
  refine x_if_ne (tgt := 11) C dX6_readDraughtOrDrop_6 (by decide) (fun h2 => ?_) (fun h2 => ?_)
  · have hf := x_f h2 hf
    refine x_aload_n C dX6_readDraughtOrDrop_11 rfl 0 rfl ?_
    refine x_bipush (v := 97) C dX6_readDraughtOrDrop_12 (by decide) ?_
    obtain ⟨u3, hu3, hf⟩ := x_b hf
    refine x_callV (n := 1) (As := [.int (97 : Int32)]) (rest := []) C (c_X6_accept g l b u1.2 (97 : Int32) hu3) ⟨⟨wd_1164, wd_1161, wd_30⟩, ⟨by decide, by decide, by decide⟩, rfl, rfl, Nat.le_of_ble_eq_true rfl, Nat.le_of_ble_eq_true rfl⟩ wd_1163 wd_10 ⟨0, 8, _, _, rfl, rfl, rfl⟩ [cmO g x w] (x_pickD [0, 1] 2 rfl rfl rfl) rfl rfl (Nat.le_of_ble_eq_true rfl) ⟨Nat.le_of_ble_eq_true rfl, Nat.le_of_ble_eq_true rfl⟩ dX6_readDraughtOrDrop_14 (x_goD (wss2 := [prO g b u3.2, cmO g x w]) (stk2 := [.int u3.1]) rfl rfl ?_)
    refine x_if_eq (tgt := 51) C dX6_readDraughtOrDrop_17 (by decide) (fun h4 => ?_) (fun h4 => ?_)
    · have hf := x_t h4 hf
      refine x_aload_n C dX6_readDraughtOrDrop_51 rfl 1 rfl ?_
      refine x_gets (Cn := "CandleConcert$Kind") (n := "DROP") (d := "LCandleConcert$Kind;") C (CX_enK C 6 (by decide)) wd_1222 (fun _ h => h) dX6_readDraughtOrDrop_52 ?_
      refine x_put (ci := 5) (ty := .object "CandleConcert$Kind") (v := .ref (g.2.2 (200 + 6))) (b := cmO g x w) (b' := cmO g x (6, w.2.1, w.2.2.1, w.2.2.2.1, w.2.2.2.2.1, w.2.2.2.2.2)) (wss' := [prO g b u3.2, cmO g x (6, w.2.1, w.2.2.1, w.2.2.2.1, w.2.2.2.2.1, w.2.2.2.2.2)]) C ixX2 tyX2 tyX2_ok nmX2 rfl 0 (by decide) wd_949 (fun _ h => h) rfl (tyX2_ok 0 (by decide)) rfl rfl 1 rfl 0 (cmO_at0 g x _) (Nat.le_of_ble_eq_true rfl) rfl rfl dX6_readDraughtOrDrop_55 ?_
      refine x_aload_n C dX6_readDraughtOrDrop_58 rfl 0 rfl ?_
      refine x_ldcS (tx := "op ") C (CX_str C ("CandleConcert$Program", 121, "op ", 24) (by decide)) dX6_readDraughtOrDrop_59 ?_
      obtain ⟨u5, hu5, hf⟩ := x_b hf
      refine x_callV (n := 1) (As := [.ref (g.2.2 (300 + 24))]) (rest := []) C (c_X6_acceptAll g l b u3.2 24 hu5) ⟨⟨wd_1169, wd_1166, wd_30⟩, ⟨by decide, by decide, by decide⟩, rfl, rfl, Nat.le_of_ble_eq_true rfl, Nat.le_of_ble_eq_true rfl⟩ wd_1168 wd_11 ⟨0, 8, _, _, rfl, rfl, rfl⟩ [cmO g x (6, w.2.1, w.2.2.1, w.2.2.2.1, w.2.2.2.2.1, w.2.2.2.2.2)] (x_pickD [0, 1] 2 rfl rfl rfl) rfl rfl (Nat.le_of_ble_eq_true rfl) ⟨Nat.le_of_ble_eq_true rfl, Nat.le_of_ble_eq_true rfl⟩ dX6_readDraughtOrDrop_61 (x_goD (wss2 := [prO g b u5.2, cmO g x (6, w.2.1, w.2.2.1, w.2.2.2.1, w.2.2.2.2.1, w.2.2.2.2.2)]) (stk2 := [.int u5.1]) rfl rfl ?_)
      refine x_if_eq (tgt := 80) C dX6_readDraughtOrDrop_64 (by decide) (fun h6 => ?_) (fun h6 => ?_)
      · have hf := x_t h6 hf
        refine x_iconst (v := 0) C dX6_readDraughtOrDrop_80 (by decide) ?_
        exact x_zret C hr rfl ⟨by cases hf; rfl, by cases hf; rfl⟩ dX6_readDraughtOrDrop_81
      · have hf := x_f h6 hf
        refine x_aload_n C dX6_readDraughtOrDrop_67 rfl 0 rfl ?_
        refine x_aload_n C dX6_readDraughtOrDrop_68 rfl 1 rfl ?_
        refine x_iconst (v := 3) C dX6_readDraughtOrDrop_69 (by decide) ?_
        obtain ⟨u7, hu7, hf⟩ := x_b hf
        refine x_callV (n := 2) (As := [.ref x, .int (3 : Int32)]) (rest := []) C (c_X6_readNumber g l b x u5.2 (6, w.2.1, w.2.2.1, w.2.2.2.1, w.2.2.2.2.1, w.2.2.2.2.2) (3 : Int32) hu7) ⟨⟨wd_1186, wd_1183, wd_30⟩, ⟨by decide, by decide, by decide⟩, rfl, rfl, Nat.le_of_ble_eq_true rfl, Nat.le_of_ble_eq_true rfl⟩ wd_1185 wd_14 ⟨0, 8, _, _, rfl, rfl, rfl⟩ [] (x_pickD [0, 1] 2 rfl rfl rfl) rfl rfl (Nat.le_of_ble_eq_true rfl) ⟨Nat.le_of_ble_eq_true rfl, Nat.le_of_ble_eq_true rfl⟩ dX6_readDraughtOrDrop_70 (x_goD (wss2 := [prO g b u7.2.1, cmO g x u7.2.2]) (stk2 := [.int u7.1]) rfl rfl ?_)
        refine x_if_eq (tgt := 80) C dX6_readDraughtOrDrop_73 (by decide) (fun h8 => ?_) (fun h8 => ?_)
        · have hf := x_t h8 hf
          refine x_iconst (v := 0) C dX6_readDraughtOrDrop_80 (by decide) ?_
          exact x_zret C hr rfl ⟨by cases hf; rfl, by cases hf; rfl⟩ dX6_readDraughtOrDrop_81
        · have hf := x_f h8 hf
          refine x_iconst (v := 1) C dX6_readDraughtOrDrop_76 (by decide) ?_
          refine x_goto (tgt := 81) C dX6_readDraughtOrDrop_77 (by decide) ?_
          exact x_zret C hr rfl ⟨by cases hf; rfl, by cases hf; rfl⟩ dX6_readDraughtOrDrop_81
    · have hf := x_f h4 hf
      refine x_aload_n C dX6_readDraughtOrDrop_20 rfl 1 rfl ?_
      refine x_gets (Cn := "CandleConcert$Kind") (n := "DRAUGHT") (d := "LCandleConcert$Kind;") C (CX_enK C 4 (by decide)) wd_1219 (fun _ h => h) dX6_readDraughtOrDrop_21 ?_
      refine x_put (ci := 5) (ty := .object "CandleConcert$Kind") (v := .ref (g.2.2 (200 + 4))) (b := cmO g x w) (b' := cmO g x (4, w.2.1, w.2.2.1, w.2.2.2.1, w.2.2.2.2.1, w.2.2.2.2.2)) (wss' := [prO g b u3.2, cmO g x (4, w.2.1, w.2.2.1, w.2.2.2.1, w.2.2.2.2.1, w.2.2.2.2.2)]) C ixX2 tyX2 tyX2_ok nmX2 rfl 0 (by decide) wd_949 (fun _ h => h) rfl (tyX2_ok 0 (by decide)) rfl rfl 1 rfl 0 (cmO_at0 g x _) (Nat.le_of_ble_eq_true rfl) rfl rfl dX6_readDraughtOrDrop_24 ?_
      refine x_aload_n C dX6_readDraughtOrDrop_27 rfl 0 rfl ?_
      refine x_ldcS (tx := "ught ") C (CX_str C ("CandleConcert$Program", 116, "ught ", 23) (by decide)) dX6_readDraughtOrDrop_28 ?_
      obtain ⟨u9, hu9, hf⟩ := x_b hf
      refine x_callV (n := 1) (As := [.ref (g.2.2 (300 + 23))]) (rest := []) C (c_X6_acceptAll g l b u3.2 23 hu9) ⟨⟨wd_1169, wd_1166, wd_30⟩, ⟨by decide, by decide, by decide⟩, rfl, rfl, Nat.le_of_ble_eq_true rfl, Nat.le_of_ble_eq_true rfl⟩ wd_1168 wd_11 ⟨0, 8, _, _, rfl, rfl, rfl⟩ [cmO g x (4, w.2.1, w.2.2.1, w.2.2.2.1, w.2.2.2.2.1, w.2.2.2.2.2)] (x_pickD [0, 1] 2 rfl rfl rfl) rfl rfl (Nat.le_of_ble_eq_true rfl) ⟨Nat.le_of_ble_eq_true rfl, Nat.le_of_ble_eq_true rfl⟩ dX6_readDraughtOrDrop_30 (x_goD (wss2 := [prO g b u9.2, cmO g x (4, w.2.1, w.2.2.1, w.2.2.2.1, w.2.2.2.2.1, w.2.2.2.2.2)]) (stk2 := [.int u9.1]) rfl rfl ?_)
      refine x_if_eq (tgt := 49) C dX6_readDraughtOrDrop_33 (by decide) (fun h10 => ?_) (fun h10 => ?_)
      · have hf := x_t h10 hf
        refine x_iconst (v := 0) C dX6_readDraughtOrDrop_49 (by decide) ?_
        exact x_zret C hr rfl ⟨by cases hf; rfl, by cases hf; rfl⟩ dX6_readDraughtOrDrop_50
      · have hf := x_f h10 hf
        refine x_aload_n C dX6_readDraughtOrDrop_36 rfl 0 rfl ?_
        refine x_aload_n C dX6_readDraughtOrDrop_37 rfl 1 rfl ?_
        refine x_iconst (v := 1) C dX6_readDraughtOrDrop_38 (by decide) ?_
        obtain ⟨u11, hu11, hf⟩ := x_b hf
        refine x_callV (n := 2) (As := [.ref x, .int (1 : Int32)]) (rest := []) C (c_X6_readNumber g l b x u9.2 (4, w.2.1, w.2.2.1, w.2.2.2.1, w.2.2.2.2.1, w.2.2.2.2.2) (1 : Int32) hu11) ⟨⟨wd_1186, wd_1183, wd_30⟩, ⟨by decide, by decide, by decide⟩, rfl, rfl, Nat.le_of_ble_eq_true rfl, Nat.le_of_ble_eq_true rfl⟩ wd_1185 wd_14 ⟨0, 8, _, _, rfl, rfl, rfl⟩ [] (x_pickD [0, 1] 2 rfl rfl rfl) rfl rfl (Nat.le_of_ble_eq_true rfl) ⟨Nat.le_of_ble_eq_true rfl, Nat.le_of_ble_eq_true rfl⟩ dX6_readDraughtOrDrop_39 (x_goD (wss2 := [prO g b u11.2.1, cmO g x u11.2.2]) (stk2 := [.int u11.1]) rfl rfl ?_)
        refine x_if_eq (tgt := 49) C dX6_readDraughtOrDrop_42 (by decide) (fun h12 => ?_) (fun h12 => ?_)
        · have hf := x_t h12 hf
          refine x_iconst (v := 0) C dX6_readDraughtOrDrop_49 (by decide) ?_
          exact x_zret C hr rfl ⟨by cases hf; rfl, by cases hf; rfl⟩ dX6_readDraughtOrDrop_50
        · have hf := x_f h12 hf
          refine x_iconst (v := 1) C dX6_readDraughtOrDrop_45 (by decide) ?_
          refine x_goto (tgt := 50) C dX6_readDraughtOrDrop_46 (by decide) ?_
          exact x_zret C hr rfl ⟨by cases hf; rfl, by cases hf; rfl⟩ dX6_readDraughtOrDrop_50
  · have hf := x_t h2 hf
    refine x_iconst (v := 0) C dX6_readDraughtOrDrop_9 (by decide) ?_
    exact x_zret C hr rfl ⟨by cases hf; rfl, by cases hf; rfl⟩ dX6_readDraughtOrDrop_10
theorem wd_964 : Cond.fieldLink RX6 136 "CandleConcert$Command" "lighting" "Z" ∈ xTB := xTB_in 964 (by decide +kernel) (by decide +kernel)
theorem dX6_readLighting_0 : decode cX6_readLighting 0 = .ok (.aload_n 1, 1) := by decide +kernel
theorem dX6_readLighting_1 : decode cX6_readLighting 1 = .ok (.aload_n 0, 1) := by decide +kernel
theorem dX6_readLighting_2 : decode cX6_readLighting 2 = .ok (.bipush 108, 2) := by decide +kernel
theorem dX6_readLighting_4 : decode cX6_readLighting 4 = .ok (.invokevirtual 40, 3) := by decide +kernel
theorem dX6_readLighting_7 : decode cX6_readLighting 7 = .ok (.putfield 136, 3) := by decide +kernel
theorem dX6_readLighting_10 : decode cX6_readLighting 10 = .ok (.aload_n 1, 1) := by decide +kernel
theorem dX6_readLighting_11 : decode cX6_readLighting 11 = .ok (.getfield 136, 3) := by decide +kernel
theorem dX6_readLighting_14 : decode cX6_readLighting 14 = .ok (.ifCond .ne 12, 3) := by decide +kernel
theorem dX6_readLighting_17 : decode cX6_readLighting 17 = .ok (.aload_n 0, 1) := by decide +kernel
theorem dX6_readLighting_18 : decode cX6_readLighting 18 = .ok (.bipush 115, 2) := by decide +kernel
theorem dX6_readLighting_20 : decode cX6_readLighting 20 = .ok (.invokevirtual 40, 3) := by decide +kernel
theorem dX6_readLighting_23 : decode cX6_readLighting 23 = .ok (.ifCond .eq 7, 3) := by decide +kernel
theorem dX6_readLighting_26 : decode cX6_readLighting 26 = .ok (.iconst 1, 1) := by decide +kernel
theorem dX6_readLighting_27 : decode cX6_readLighting 27 = .ok (.goto 4, 3) := by decide +kernel
theorem dX6_readLighting_30 : decode cX6_readLighting 30 = .ok (.iconst 0, 1) := by decide +kernel
theorem dX6_readLighting_31 : decode cX6_readLighting 31 = .ok (.ireturn, 1) := by decide +kernel
set_option maxHeartbeats 4000000 in
set_option maxRecDepth 100000 in
theorem c_X6_readLighting (g : xG) (l : Launch) (b : Nat → Nat) (x : Nat) (q : PrT) (w : CmT)  {u : Int32 × PrT × CmT} (hf : f_X6_readLighting q w = some u) : ConD g l yX6_readLighting cX6_readLighting 2 (some .boolean) ({ frames := 1, cells := 0, slots := 0, locals := 21 } : Room) [.ref (b 0), .ref x] [prO g b q, cmO g x w] (some (.int u.1)) [prO g b u.2.1, cmO g x u.2.2] := by
  unfold f_X6_readLighting at hf
  refine Con_of [prO g b q, cmO g x w] [(0, .ref (b 0)), (1, .ref x)] rfl rfl (by decide) (Nat.le_of_ble_eq_true rfl) ?_
  intro pW eW sW mW argsW belowW methW c9 C hnm hr
  have C : CX g RX6 cX6_readLighting 2 _ pW sW mW argsW methW c9 := C
  refine x_aload_n C dX6_readLighting_0 rfl 1 rfl ?_
  refine x_aload_n C dX6_readLighting_1 rfl 0 rfl ?_
  refine x_bipush (v := 108) C dX6_readLighting_2 (by decide) ?_
  obtain ⟨u1, hu1, hf⟩ := x_b hf
  refine x_callV (n := 1) (As := [.int (108 : Int32)]) (rest := [.ref x]) C (c_X6_accept g l b q (108 : Int32) hu1) ⟨⟨wd_1164, wd_1161, wd_30⟩, ⟨by decide, by decide, by decide⟩, rfl, rfl, Nat.le_of_ble_eq_true rfl, Nat.le_of_ble_eq_true rfl⟩ wd_1163 wd_10 ⟨0, 8, _, _, rfl, rfl, rfl⟩ [cmO g x w] (x_pickD [0, 1] 2 rfl rfl rfl) rfl rfl (Nat.le_of_ble_eq_true rfl) ⟨Nat.le_of_ble_eq_true rfl, Nat.le_of_ble_eq_true rfl⟩ dX6_readLighting_4 (x_goD (wss2 := [prO g b u1.2, cmO g x w]) (stk2 := [.int u1.1, .ref x]) rfl rfl ?_)
  obtain ⟨h2, hf⟩ := x_y hf
  refine x_put (ci := 5) (ty := .boolean) (v := .int u1.1) (b := cmO g x w) (b' := cmO g x (w.1, w.2.1, w.2.2.1, w.2.2.2.1, w.2.2.2.2.1, u1.1)) (wss' := [prO g b u1.2, cmO g x (w.1, w.2.1, w.2.2.1, w.2.2.2.1, w.2.2.2.2.1, u1.1)]) C ixX2 tyX2 tyX2_ok nmX2 rfl 5 (by decide) wd_964 (fun _ h => h) rfl (tyX2_ok 5 (by decide)) (x_narZ h2).1 (x_narZ h2).2 1 rfl 0 (cmO_at0 g x _) (Nat.le_of_ble_eq_true rfl) rfl rfl dX6_readLighting_7 ?_
  refine x_aload_n C dX6_readLighting_10 rfl 1 rfl ?_
  refine x_get (ci := 5) (v := .int u1.1) (b := cmO g x (w.1, w.2.1, w.2.2.1, w.2.2.2.1, w.2.2.2.2.1, u1.1)) C ixX2 rfl 5 (by decide) wd_964 (fun _ h => h) 1 rfl 0 (cmO_at0 g x _) rfl dX6_readLighting_11 ?_
  refine x_if_ne (tgt := 26) C dX6_readLighting_14 (by decide) (fun h3 => ?_) (fun h3 => ?_)
  · have hf := x_f h3 hf
    refine x_iconst (v := 1) C dX6_readLighting_26 (by decide) ?_
    refine x_goto (tgt := 31) C dX6_readLighting_27 (by decide) ?_
    exact x_zret C hr rfl ⟨by cases hf; rfl, by cases hf; rfl⟩ dX6_readLighting_31
  · have hf := x_t h3 hf
    refine x_aload_n C dX6_readLighting_17 rfl 0 rfl ?_
    refine x_bipush (v := 115) C dX6_readLighting_18 (by decide) ?_
    obtain ⟨u4, hu4, hf⟩ := x_b hf
    refine x_callV (n := 1) (As := [.int (115 : Int32)]) (rest := []) C (c_X6_accept g l b u1.2 (115 : Int32) hu4) ⟨⟨wd_1164, wd_1161, wd_30⟩, ⟨by decide, by decide, by decide⟩, rfl, rfl, Nat.le_of_ble_eq_true rfl, Nat.le_of_ble_eq_true rfl⟩ wd_1163 wd_10 ⟨0, 8, _, _, rfl, rfl, rfl⟩ [cmO g x (w.1, w.2.1, w.2.2.1, w.2.2.2.1, w.2.2.2.2.1, u1.1)] (x_pickD [0, 1] 2 rfl rfl rfl) rfl rfl (Nat.le_of_ble_eq_true rfl) ⟨Nat.le_of_ble_eq_true rfl, Nat.le_of_ble_eq_true rfl⟩ dX6_readLighting_20 (x_goD (wss2 := [prO g b u4.2, cmO g x (w.1, w.2.1, w.2.2.1, w.2.2.2.1, w.2.2.2.2.1, u1.1)]) (stk2 := [.int u4.1]) rfl rfl ?_)
    refine x_if_eq (tgt := 30) C dX6_readLighting_23 (by decide) (fun h5 => ?_) (fun h5 => ?_)
    · have hf := x_t h5 hf
      refine x_iconst (v := 0) C dX6_readLighting_30 (by decide) ?_
      exact x_zret C hr rfl ⟨by cases hf; rfl, by cases hf; rfl⟩ dX6_readLighting_31
    · have hf := x_f h5 hf
      refine x_iconst (v := 1) C dX6_readLighting_26 (by decide) ?_
      refine x_goto (tgt := 31) C dX6_readLighting_27 (by decide) ?_
      exact x_zret C hr rfl ⟨by cases hf; rfl, by cases hf; rfl⟩ dX6_readLighting_31
theorem wd_952 : Cond.fieldLink RX6 140 "CandleConcert$Command" "candle" "I" ∈ xTB := xTB_in 952 (by decide +kernel) (by decide +kernel)
theorem dX6_readCandle_0 : decode cX6_readCandle 0 = .ok (.aload_n 1, 1) := by decide +kernel
theorem dX6_readCandle_1 : decode cX6_readCandle 1 = .ok (.aload_n 0, 1) := by decide +kernel
theorem dX6_readCandle_2 : decode cX6_readCandle 2 = .ok (.iconst 1, 1) := by decide +kernel
theorem dX6_readCandle_3 : decode cX6_readCandle 3 = .ok (.invokevirtual 93, 3) := by decide +kernel
theorem dX6_readCandle_6 : decode cX6_readCandle 6 = .ok (.putfield 140, 3) := by decide +kernel
theorem dX6_readCandle_9 : decode cX6_readCandle 9 = .ok (.aload_n 1, 1) := by decide +kernel
theorem dX6_readCandle_10 : decode cX6_readCandle 10 = .ok (.getfield 140, 3) := by decide +kernel
theorem dX6_readCandle_13 : decode cX6_readCandle 13 = .ok (.iconst (-1), 1) := by decide +kernel
theorem dX6_readCandle_14 : decode cX6_readCandle 14 = .ok (.if_icmp .eq 7, 3) := by decide +kernel
theorem dX6_readCandle_17 : decode cX6_readCandle 17 = .ok (.iconst 1, 1) := by decide +kernel
theorem dX6_readCandle_18 : decode cX6_readCandle 18 = .ok (.goto 4, 3) := by decide +kernel
theorem dX6_readCandle_21 : decode cX6_readCandle 21 = .ok (.iconst 0, 1) := by decide +kernel
theorem dX6_readCandle_22 : decode cX6_readCandle 22 = .ok (.ireturn, 1) := by decide +kernel
set_option maxHeartbeats 4000000 in
set_option maxRecDepth 100000 in
theorem c_X6_readCandle (g : xG) (l : Launch) (b : Nat → Nat) (x : Nat) (q : PrT) (w : CmT)  {u : Int32 × PrT × CmT} (hf : f_X6_readCandle q w = some u) : ConD g l yX6_readCandle cX6_readCandle 2 (some .boolean) ({ frames := 1, cells := 0, slots := 0, locals := 24 } : Room) [.ref (b 0), .ref x] [prO g b q, cmO g x w] (some (.int u.1)) [prO g b u.2.1, cmO g x u.2.2] := by
  unfold f_X6_readCandle at hf
  refine Con_of [prO g b q, cmO g x w] [(0, .ref (b 0)), (1, .ref x)] rfl rfl (by decide) (Nat.le_of_ble_eq_true rfl) ?_
  intro pW eW sW mW argsW belowW methW c9 C hnm hr
  have C : CX g RX6 cX6_readCandle 2 _ pW sW mW argsW methW c9 := C
  refine x_aload_n C dX6_readCandle_0 rfl 1 rfl ?_
  refine x_aload_n C dX6_readCandle_1 rfl 0 rfl ?_
  refine x_iconst (v := 1) C dX6_readCandle_2 (by decide) ?_
  obtain ⟨u1, hu1, hf⟩ := x_b hf
  refine x_callV (n := 1) (As := [.int (1 : Int32)]) (rest := [.ref x]) C (c_X6_readDigits g l b q (1 : Int32) hu1) ⟨⟨wd_1190, wd_1187, wd_30⟩, ⟨by decide, by decide, by decide⟩, rfl, rfl, Nat.le_of_ble_eq_true rfl, Nat.le_of_ble_eq_true rfl⟩ wd_1189 wd_15 ⟨0, 8, _, _, rfl, rfl, rfl⟩ [cmO g x w] (x_pickD [0, 1] 2 rfl rfl rfl) rfl rfl (Nat.le_of_ble_eq_true rfl) ⟨Nat.le_of_ble_eq_true rfl, Nat.le_of_ble_eq_true rfl⟩ dX6_readCandle_3 (x_goD (wss2 := [prO g b u1.2, cmO g x w]) (stk2 := [.int u1.1, .ref x]) rfl rfl ?_)
  refine x_put (ci := 5) (ty := .int) (v := .int u1.1) (b := cmO g x w) (b' := cmO g x (w.1, u1.1, w.2.2.1, w.2.2.2.1, w.2.2.2.2.1, w.2.2.2.2.2)) (wss' := [prO g b u1.2, cmO g x (w.1, u1.1, w.2.2.1, w.2.2.2.1, w.2.2.2.2.1, w.2.2.2.2.2)]) C ixX2 tyX2 tyX2_ok nmX2 rfl 1 (by decide) wd_952 (fun _ h => h) rfl (tyX2_ok 1 (by decide)) rfl rfl 1 rfl 0 (cmO_at0 g x _) (Nat.le_of_ble_eq_true rfl) rfl rfl dX6_readCandle_6 ?_
  refine x_aload_n C dX6_readCandle_9 rfl 1 rfl ?_
  refine x_get (ci := 5) (v := .int u1.1) (b := cmO g x (w.1, u1.1, w.2.2.1, w.2.2.2.1, w.2.2.2.2.1, w.2.2.2.2.2)) C ixX2 rfl 1 (by decide) wd_952 (fun _ h => h) 1 rfl 0 (cmO_at0 g x _) rfl dX6_readCandle_10 ?_
  refine x_iconst (v := (-1)) C dX6_readCandle_13 (by decide) ?_
  refine x_icmp_eq (tgt := 21) C dX6_readCandle_14 (by decide) (fun h2 => ?_) (fun h2 => ?_)
  · have hf := x_t h2 hf
    refine x_iconst (v := 0) C dX6_readCandle_21 (by decide) ?_
    exact x_zret C hr rfl ⟨by cases hf; rfl, by cases hf; rfl⟩ dX6_readCandle_22
  · have hf := x_f h2 hf
    refine x_iconst (v := 1) C dX6_readCandle_17 (by decide) ?_
    refine x_goto (tgt := 22) C dX6_readCandle_18 (by decide) ?_
    exact x_zret C hr rfl ⟨by cases hf; rfl, by cases hf; rfl⟩ dX6_readCandle_22
theorem wd_16 : Cond.selects yX6_readCandle.cls yX6_readCandle yX6_readCandle ∈ xTB := xTB_in 16 (by decide +kernel) (by decide +kernel)
theorem wd_18 : Cond.selects yX6_readLighting.cls yX6_readLighting yX6_readLighting ∈ xTB := xTB_in 18 (by decide +kernel) (by decide +kernel)
theorem wd_1194 : Cond.methodLink RX6 64 yX6_readCandle ∈ xTB := xTB_in 1194 (by decide +kernel) (by decide +kernel)
theorem wd_1196 : Cond.instanceMethod yX6_readCandle ∈ xTB := xTB_in 1196 (by decide +kernel) (by decide +kernel)
theorem wd_1197 : Cond.code yX6_readCandle cX6_readCandle 2 (some .boolean) ∈ xTB := xTB_in 1197 (by decide +kernel) (by decide +kernel)
theorem wd_1205 : Cond.fieldLink RX6 100 "CandleConcert$Kind" "POUR" "LCandleConcert$Kind;" ∈ xTB := xTB_in 1205 (by decide +kernel) (by decide +kernel)
theorem wd_1208 : Cond.fieldLink RX6 105 "CandleConcert$Kind" "PLAN" "LCandleConcert$Kind;" ∈ xTB := xTB_in 1208 (by decide +kernel) (by decide +kernel)
theorem wd_1211 : Cond.methodLink RX6 110 yX6_readLighting ∈ xTB := xTB_in 1211 (by decide +kernel) (by decide +kernel)
theorem wd_1213 : Cond.instanceMethod yX6_readLighting ∈ xTB := xTB_in 1213 (by decide +kernel) (by decide +kernel)
theorem wd_1214 : Cond.code yX6_readLighting cX6_readLighting 2 (some .boolean) ∈ xTB := xTB_in 1214 (by decide +kernel) (by decide +kernel)
theorem dX6_readPourOrPlan_0 : decode cX6_readPourOrPlan 0 = .ok (.aload_n 0, 1) := by decide +kernel
theorem dX6_readPourOrPlan_1 : decode cX6_readPourOrPlan 1 = .ok (.bipush 111, 2) := by decide +kernel
theorem dX6_readPourOrPlan_3 : decode cX6_readPourOrPlan 3 = .ok (.invokevirtual 40, 3) := by decide +kernel
theorem dX6_readPourOrPlan_6 : decode cX6_readPourOrPlan 6 = .ok (.ifCond .eq 51, 3) := by decide +kernel
theorem dX6_readPourOrPlan_9 : decode cX6_readPourOrPlan 9 = .ok (.aload_n 1, 1) := by decide +kernel
theorem dX6_readPourOrPlan_10 : decode cX6_readPourOrPlan 10 = .ok (.getstatic 100, 3) := by decide +kernel
theorem dX6_readPourOrPlan_13 : decode cX6_readPourOrPlan 13 = .ok (.putfield 59, 3) := by decide +kernel
theorem dX6_readPourOrPlan_16 : decode cX6_readPourOrPlan 16 = .ok (.aload_n 0, 1) := by decide +kernel
theorem dX6_readPourOrPlan_17 : decode cX6_readPourOrPlan 17 = .ok (.ldc 103, 2) := by decide +kernel
theorem dX6_readPourOrPlan_19 : decode cX6_readPourOrPlan 19 = .ok (.invokevirtual 46, 3) := by decide +kernel
theorem dX6_readPourOrPlan_22 : decode cX6_readPourOrPlan 22 = .ok (.ifCond .eq 33, 3) := by decide +kernel
theorem dX6_readPourOrPlan_25 : decode cX6_readPourOrPlan 25 = .ok (.aload_n 0, 1) := by decide +kernel
theorem dX6_readPourOrPlan_26 : decode cX6_readPourOrPlan 26 = .ok (.aload_n 1, 1) := by decide +kernel
theorem dX6_readPourOrPlan_27 : decode cX6_readPourOrPlan 27 = .ok (.invokevirtual 64, 3) := by decide +kernel
theorem dX6_readPourOrPlan_30 : decode cX6_readPourOrPlan 30 = .ok (.ifCond .eq 25, 3) := by decide +kernel
theorem dX6_readPourOrPlan_33 : decode cX6_readPourOrPlan 33 = .ok (.aload_n 0, 1) := by decide +kernel
theorem dX6_readPourOrPlan_34 : decode cX6_readPourOrPlan 34 = .ok (.bipush 43, 2) := by decide +kernel
theorem dX6_readPourOrPlan_36 : decode cX6_readPourOrPlan 36 = .ok (.invokevirtual 40, 3) := by decide +kernel
theorem dX6_readPourOrPlan_39 : decode cX6_readPourOrPlan 39 = .ok (.ifCond .eq 16, 3) := by decide +kernel
theorem dX6_readPourOrPlan_42 : decode cX6_readPourOrPlan 42 = .ok (.aload_n 0, 1) := by decide +kernel
theorem dX6_readPourOrPlan_43 : decode cX6_readPourOrPlan 43 = .ok (.aload_n 1, 1) := by decide +kernel
theorem dX6_readPourOrPlan_44 : decode cX6_readPourOrPlan 44 = .ok (.iconst 3, 1) := by decide +kernel
theorem dX6_readPourOrPlan_45 : decode cX6_readPourOrPlan 45 = .ok (.invokevirtual 89, 3) := by decide +kernel
theorem dX6_readPourOrPlan_48 : decode cX6_readPourOrPlan 48 = .ok (.ifCond .eq 7, 3) := by decide +kernel
theorem dX6_readPourOrPlan_51 : decode cX6_readPourOrPlan 51 = .ok (.iconst 1, 1) := by decide +kernel
theorem dX6_readPourOrPlan_52 : decode cX6_readPourOrPlan 52 = .ok (.goto 4, 3) := by decide +kernel
theorem dX6_readPourOrPlan_55 : decode cX6_readPourOrPlan 55 = .ok (.iconst 0, 1) := by decide +kernel
theorem dX6_readPourOrPlan_56 : decode cX6_readPourOrPlan 56 = .ok (.ireturn, 1) := by decide +kernel
theorem dX6_readPourOrPlan_57 : decode cX6_readPourOrPlan 57 = .ok (.aload_n 1, 1) := by decide +kernel
theorem dX6_readPourOrPlan_58 : decode cX6_readPourOrPlan 58 = .ok (.getstatic 105, 3) := by decide +kernel
theorem dX6_readPourOrPlan_61 : decode cX6_readPourOrPlan 61 = .ok (.putfield 59, 3) := by decide +kernel
theorem dX6_readPourOrPlan_64 : decode cX6_readPourOrPlan 64 = .ok (.aload_n 0, 1) := by decide +kernel
theorem dX6_readPourOrPlan_65 : decode cX6_readPourOrPlan 65 = .ok (.ldc 108, 2) := by decide +kernel
theorem dX6_readPourOrPlan_67 : decode cX6_readPourOrPlan 67 = .ok (.invokevirtual 46, 3) := by decide +kernel
theorem dX6_readPourOrPlan_70 : decode cX6_readPourOrPlan 70 = .ok (.ifCond .eq 41, 3) := by decide +kernel
theorem dX6_readPourOrPlan_73 : decode cX6_readPourOrPlan 73 = .ok (.aload_n 0, 1) := by decide +kernel
theorem dX6_readPourOrPlan_74 : decode cX6_readPourOrPlan 74 = .ok (.aload_n 1, 1) := by decide +kernel
theorem dX6_readPourOrPlan_75 : decode cX6_readPourOrPlan 75 = .ok (.iconst 3, 1) := by decide +kernel
theorem dX6_readPourOrPlan_76 : decode cX6_readPourOrPlan 76 = .ok (.invokevirtual 89, 3) := by decide +kernel
theorem dX6_readPourOrPlan_79 : decode cX6_readPourOrPlan 79 = .ok (.ifCond .eq 32, 3) := by decide +kernel
theorem dX6_readPourOrPlan_82 : decode cX6_readPourOrPlan 82 = .ok (.aload_n 0, 1) := by decide +kernel
theorem dX6_readPourOrPlan_83 : decode cX6_readPourOrPlan 83 = .ok (.bipush 32, 2) := by decide +kernel
theorem dX6_readPourOrPlan_85 : decode cX6_readPourOrPlan 85 = .ok (.invokevirtual 40, 3) := by decide +kernel
theorem dX6_readPourOrPlan_88 : decode cX6_readPourOrPlan 88 = .ok (.ifCond .eq 23, 3) := by decide +kernel
theorem dX6_readPourOrPlan_91 : decode cX6_readPourOrPlan 91 = .ok (.aload_n 0, 1) := by decide +kernel
theorem dX6_readPourOrPlan_92 : decode cX6_readPourOrPlan 92 = .ok (.aload_n 1, 1) := by decide +kernel
theorem dX6_readPourOrPlan_93 : decode cX6_readPourOrPlan 93 = .ok (.invokevirtual 110, 3) := by decide +kernel
theorem dX6_readPourOrPlan_96 : decode cX6_readPourOrPlan 96 = .ok (.ifCond .eq 15, 3) := by decide +kernel
theorem dX6_readPourOrPlan_99 : decode cX6_readPourOrPlan 99 = .ok (.aload_n 0, 1) := by decide +kernel
theorem dX6_readPourOrPlan_100 : decode cX6_readPourOrPlan 100 = .ok (.aload_n 1, 1) := by decide +kernel
theorem dX6_readPourOrPlan_101 : decode cX6_readPourOrPlan 101 = .ok (.invokevirtual 64, 3) := by decide +kernel
theorem dX6_readPourOrPlan_104 : decode cX6_readPourOrPlan 104 = .ok (.ifCond .eq 7, 3) := by decide +kernel
theorem dX6_readPourOrPlan_107 : decode cX6_readPourOrPlan 107 = .ok (.iconst 1, 1) := by decide +kernel
theorem dX6_readPourOrPlan_108 : decode cX6_readPourOrPlan 108 = .ok (.goto 4, 3) := by decide +kernel
theorem dX6_readPourOrPlan_111 : decode cX6_readPourOrPlan 111 = .ok (.iconst 0, 1) := by decide +kernel
theorem dX6_readPourOrPlan_112 : decode cX6_readPourOrPlan 112 = .ok (.ireturn, 1) := by decide +kernel
set_option maxHeartbeats 4000000 in
set_option maxRecDepth 100000 in
theorem c_X6_readPourOrPlan (g : xG) (l : Launch) (b : Nat → Nat) (x : Nat) (q : PrT) (w : CmT)  {u : Int32 × PrT × CmT} (hf : f_X6_readPourOrPlan q w = some u) : ConD g l yX6_readPourOrPlan cX6_readPourOrPlan 2 (some .boolean) ({ frames := 5, cells := 0, slots := 0, locals := 107 } : Room) [.ref (b 0), .ref x] [prO g b q, cmO g x w] (some (.int u.1)) [prO g b u.2.1, cmO g x u.2.2] := by
  unfold f_X6_readPourOrPlan at hf
  refine Con_of [prO g b q, cmO g x w] [(0, .ref (b 0)), (1, .ref x)] rfl rfl (by decide) (Nat.le_of_ble_eq_true rfl) ?_
  intro pW eW sW mW argsW belowW methW c9 C hnm hr
  have C : CX g RX6 cX6_readPourOrPlan 2 _ pW sW mW argsW methW c9 := C
  refine x_aload_n C dX6_readPourOrPlan_0 rfl 0 rfl ?_
  refine x_bipush (v := 111) C dX6_readPourOrPlan_1 (by decide) ?_
  obtain ⟨u1, hu1, hf⟩ := x_b hf
  refine x_callV (n := 1) (As := [.int (111 : Int32)]) (rest := []) C (c_X6_accept g l b q (111 : Int32) hu1) ⟨⟨wd_1164, wd_1161, wd_30⟩, ⟨by decide, by decide, by decide⟩, rfl, rfl, Nat.le_of_ble_eq_true rfl, Nat.le_of_ble_eq_true rfl⟩ wd_1163 wd_10 ⟨0, 8, _, _, rfl, rfl, rfl⟩ [cmO g x w] (x_pickD [0, 1] 2 rfl rfl rfl) rfl rfl (Nat.le_of_ble_eq_true rfl) ⟨Nat.le_of_ble_eq_true rfl, Nat.le_of_ble_eq_true rfl⟩ dX6_readPourOrPlan_3 (x_goD (wss2 := [prO g b u1.2, cmO g x w]) (stk2 := [.int u1.1]) rfl rfl ?_)
  refine x_if_eq (tgt := 57) C dX6_readPourOrPlan_6 (by decide) (fun h2 => ?_) (fun h2 => ?_)
  · have hf := x_t h2 hf
    refine x_aload_n C dX6_readPourOrPlan_57 rfl 1 rfl ?_
    refine x_gets (Cn := "CandleConcert$Kind") (n := "PLAN") (d := "LCandleConcert$Kind;") C (CX_enK C 5 (by decide)) wd_1208 (fun _ h => h) dX6_readPourOrPlan_58 ?_
    refine x_put (ci := 5) (ty := .object "CandleConcert$Kind") (v := .ref (g.2.2 (200 + 5))) (b := cmO g x w) (b' := cmO g x (5, w.2.1, w.2.2.1, w.2.2.2.1, w.2.2.2.2.1, w.2.2.2.2.2)) (wss' := [prO g b u1.2, cmO g x (5, w.2.1, w.2.2.1, w.2.2.2.1, w.2.2.2.2.1, w.2.2.2.2.2)]) C ixX2 tyX2 tyX2_ok nmX2 rfl 0 (by decide) wd_949 (fun _ h => h) rfl (tyX2_ok 0 (by decide)) rfl rfl 1 rfl 0 (cmO_at0 g x _) (Nat.le_of_ble_eq_true rfl) rfl rfl dX6_readPourOrPlan_61 ?_
    refine x_aload_n C dX6_readPourOrPlan_64 rfl 0 rfl ?_
    refine x_ldcS (tx := "lan ") C (CX_str C ("CandleConcert$Program", 108, "lan ", 22) (by decide)) dX6_readPourOrPlan_65 ?_
    obtain ⟨u3, hu3, hf⟩ := x_b hf
    refine x_callV (n := 1) (As := [.ref (g.2.2 (300 + 22))]) (rest := []) C (c_X6_acceptAll g l b u1.2 22 hu3) ⟨⟨wd_1169, wd_1166, wd_30⟩, ⟨by decide, by decide, by decide⟩, rfl, rfl, Nat.le_of_ble_eq_true rfl, Nat.le_of_ble_eq_true rfl⟩ wd_1168 wd_11 ⟨0, 8, _, _, rfl, rfl, rfl⟩ [cmO g x (5, w.2.1, w.2.2.1, w.2.2.2.1, w.2.2.2.2.1, w.2.2.2.2.2)] (x_pickD [0, 1] 2 rfl rfl rfl) rfl rfl (Nat.le_of_ble_eq_true rfl) ⟨Nat.le_of_ble_eq_true rfl, Nat.le_of_ble_eq_true rfl⟩ dX6_readPourOrPlan_67 (x_goD (wss2 := [prO g b u3.2, cmO g x (5, w.2.1, w.2.2.1, w.2.2.2.1, w.2.2.2.2.1, w.2.2.2.2.2)]) (stk2 := [.int u3.1]) rfl rfl ?_)
    refine x_if_eq (tgt := 111) C dX6_readPourOrPlan_70 (by decide) (fun h4 => ?_) (fun h4 => ?_)
    · have hf := x_t h4 hf
      refine x_iconst (v := 0) C dX6_readPourOrPlan_111 (by decide) ?_
      exact x_zret C hr rfl ⟨by cases hf; rfl, by cases hf; rfl⟩ dX6_readPourOrPlan_112
    · have hf := x_f h4 hf
      refine x_aload_n C dX6_readPourOrPlan_73 rfl 0 rfl ?_
      refine x_aload_n C dX6_readPourOrPlan_74 rfl 1 rfl ?_
      refine x_iconst (v := 3) C dX6_readPourOrPlan_75 (by decide) ?_
      obtain ⟨u5, hu5, hf⟩ := x_b hf
      refine x_callV (n := 2) (As := [.ref x, .int (3 : Int32)]) (rest := []) C (c_X6_readNumber g l b x u3.2 (5, w.2.1, w.2.2.1, w.2.2.2.1, w.2.2.2.2.1, w.2.2.2.2.2) (3 : Int32) hu5) ⟨⟨wd_1186, wd_1183, wd_30⟩, ⟨by decide, by decide, by decide⟩, rfl, rfl, Nat.le_of_ble_eq_true rfl, Nat.le_of_ble_eq_true rfl⟩ wd_1185 wd_14 ⟨0, 8, _, _, rfl, rfl, rfl⟩ [] (x_pickD [0, 1] 2 rfl rfl rfl) rfl rfl (Nat.le_of_ble_eq_true rfl) ⟨Nat.le_of_ble_eq_true rfl, Nat.le_of_ble_eq_true rfl⟩ dX6_readPourOrPlan_76 (x_goD (wss2 := [prO g b u5.2.1, cmO g x u5.2.2]) (stk2 := [.int u5.1]) rfl rfl ?_)
      refine x_if_eq (tgt := 111) C dX6_readPourOrPlan_79 (by decide) (fun h6 => ?_) (fun h6 => ?_)
      · have hf := x_t h6 hf
        refine x_iconst (v := 0) C dX6_readPourOrPlan_111 (by decide) ?_
        exact x_zret C hr rfl ⟨by cases hf; rfl, by cases hf; rfl⟩ dX6_readPourOrPlan_112
      · have hf := x_f h6 hf
        refine x_aload_n C dX6_readPourOrPlan_82 rfl 0 rfl ?_
        refine x_bipush (v := 32) C dX6_readPourOrPlan_83 (by decide) ?_
        obtain ⟨u7, hu7, hf⟩ := x_b hf
        refine x_callV (n := 1) (As := [.int (32 : Int32)]) (rest := []) C (c_X6_accept g l b u5.2.1 (32 : Int32) hu7) ⟨⟨wd_1164, wd_1161, wd_30⟩, ⟨by decide, by decide, by decide⟩, rfl, rfl, Nat.le_of_ble_eq_true rfl, Nat.le_of_ble_eq_true rfl⟩ wd_1163 wd_10 ⟨0, 8, _, _, rfl, rfl, rfl⟩ [cmO g x u5.2.2] (x_pickD [0, 1] 2 rfl rfl rfl) rfl rfl (Nat.le_of_ble_eq_true rfl) ⟨Nat.le_of_ble_eq_true rfl, Nat.le_of_ble_eq_true rfl⟩ dX6_readPourOrPlan_85 (x_goD (wss2 := [prO g b u7.2, cmO g x u5.2.2]) (stk2 := [.int u7.1]) rfl rfl ?_)
        refine x_if_eq (tgt := 111) C dX6_readPourOrPlan_88 (by decide) (fun h8 => ?_) (fun h8 => ?_)
        · have hf := x_t h8 hf
          refine x_iconst (v := 0) C dX6_readPourOrPlan_111 (by decide) ?_
          exact x_zret C hr rfl ⟨by cases hf; rfl, by cases hf; rfl⟩ dX6_readPourOrPlan_112
        · have hf := x_f h8 hf
          refine x_aload_n C dX6_readPourOrPlan_91 rfl 0 rfl ?_
          refine x_aload_n C dX6_readPourOrPlan_92 rfl 1 rfl ?_
          obtain ⟨u9, hu9, hf⟩ := x_b hf
          refine x_callV (n := 1) (As := [.ref x]) (rest := []) C (c_X6_readLighting g l b x u7.2 u5.2.2 hu9) ⟨⟨wd_1214, wd_1211, wd_30⟩, ⟨by decide, by decide, by decide⟩, rfl, rfl, Nat.le_of_ble_eq_true rfl, Nat.le_of_ble_eq_true rfl⟩ wd_1213 wd_18 ⟨0, 8, _, _, rfl, rfl, rfl⟩ [] (x_pickD [0, 1] 2 rfl rfl rfl) rfl rfl (Nat.le_of_ble_eq_true rfl) ⟨Nat.le_of_ble_eq_true rfl, Nat.le_of_ble_eq_true rfl⟩ dX6_readPourOrPlan_93 (x_goD (wss2 := [prO g b u9.2.1, cmO g x u9.2.2]) (stk2 := [.int u9.1]) rfl rfl ?_)
          refine x_if_eq (tgt := 111) C dX6_readPourOrPlan_96 (by decide) (fun h10 => ?_) (fun h10 => ?_)
          · have hf := x_t h10 hf
            refine x_iconst (v := 0) C dX6_readPourOrPlan_111 (by decide) ?_
            exact x_zret C hr rfl ⟨by cases hf; rfl, by cases hf; rfl⟩ dX6_readPourOrPlan_112
          · have hf := x_f h10 hf
            refine x_aload_n C dX6_readPourOrPlan_99 rfl 0 rfl ?_
            refine x_aload_n C dX6_readPourOrPlan_100 rfl 1 rfl ?_
            obtain ⟨u11, hu11, hf⟩ := x_b hf
            refine x_callV (n := 1) (As := [.ref x]) (rest := []) C (c_X6_readCandle g l b x u9.2.1 u9.2.2 hu11) ⟨⟨wd_1197, wd_1194, wd_30⟩, ⟨by decide, by decide, by decide⟩, rfl, rfl, Nat.le_of_ble_eq_true rfl, Nat.le_of_ble_eq_true rfl⟩ wd_1196 wd_16 ⟨0, 8, _, _, rfl, rfl, rfl⟩ [] (x_pickD [0, 1] 2 rfl rfl rfl) rfl rfl (Nat.le_of_ble_eq_true rfl) ⟨Nat.le_of_ble_eq_true rfl, Nat.le_of_ble_eq_true rfl⟩ dX6_readPourOrPlan_101 (x_goD (wss2 := [prO g b u11.2.1, cmO g x u11.2.2]) (stk2 := [.int u11.1]) rfl rfl ?_)
            refine x_if_eq (tgt := 111) C dX6_readPourOrPlan_104 (by decide) (fun h12 => ?_) (fun h12 => ?_)
            · have hf := x_t h12 hf
              refine x_iconst (v := 0) C dX6_readPourOrPlan_111 (by decide) ?_
              exact x_zret C hr rfl ⟨by cases hf; rfl, by cases hf; rfl⟩ dX6_readPourOrPlan_112
            · have hf := x_f h12 hf
              refine x_iconst (v := 1) C dX6_readPourOrPlan_107 (by decide) ?_
              refine x_goto (tgt := 112) C dX6_readPourOrPlan_108 (by decide) ?_
              exact x_zret C hr rfl ⟨by cases hf; rfl, by cases hf; rfl⟩ dX6_readPourOrPlan_112
  · have hf := x_f h2 hf
    refine x_aload_n C dX6_readPourOrPlan_9 rfl 1 rfl ?_
    refine x_gets (Cn := "CandleConcert$Kind") (n := "POUR") (d := "LCandleConcert$Kind;") C (CX_enK C 3 (by decide)) wd_1205 (fun _ h => h) dX6_readPourOrPlan_10 ?_
    refine x_put (ci := 5) (ty := .object "CandleConcert$Kind") (v := .ref (g.2.2 (200 + 3))) (b := cmO g x w) (b' := cmO g x (3, w.2.1, w.2.2.1, w.2.2.2.1, w.2.2.2.2.1, w.2.2.2.2.2)) (wss' := [prO g b u1.2, cmO g x (3, w.2.1, w.2.2.1, w.2.2.2.1, w.2.2.2.2.1, w.2.2.2.2.2)]) C ixX2 tyX2 tyX2_ok nmX2 rfl 0 (by decide) wd_949 (fun _ h => h) rfl (tyX2_ok 0 (by decide)) rfl rfl 1 rfl 0 (cmO_at0 g x _) (Nat.le_of_ble_eq_true rfl) rfl rfl dX6_readPourOrPlan_13 ?_
    refine x_aload_n C dX6_readPourOrPlan_16 rfl 0 rfl ?_
    refine x_ldcS (tx := "ur ") C (CX_str C ("CandleConcert$Program", 103, "ur ", 21) (by decide)) dX6_readPourOrPlan_17 ?_
    obtain ⟨u13, hu13, hf⟩ := x_b hf
    refine x_callV (n := 1) (As := [.ref (g.2.2 (300 + 21))]) (rest := []) C (c_X6_acceptAll g l b u1.2 21 hu13) ⟨⟨wd_1169, wd_1166, wd_30⟩, ⟨by decide, by decide, by decide⟩, rfl, rfl, Nat.le_of_ble_eq_true rfl, Nat.le_of_ble_eq_true rfl⟩ wd_1168 wd_11 ⟨0, 8, _, _, rfl, rfl, rfl⟩ [cmO g x (3, w.2.1, w.2.2.1, w.2.2.2.1, w.2.2.2.2.1, w.2.2.2.2.2)] (x_pickD [0, 1] 2 rfl rfl rfl) rfl rfl (Nat.le_of_ble_eq_true rfl) ⟨Nat.le_of_ble_eq_true rfl, Nat.le_of_ble_eq_true rfl⟩ dX6_readPourOrPlan_19 (x_goD (wss2 := [prO g b u13.2, cmO g x (3, w.2.1, w.2.2.1, w.2.2.2.1, w.2.2.2.2.1, w.2.2.2.2.2)]) (stk2 := [.int u13.1]) rfl rfl ?_)
    refine x_if_eq (tgt := 55) C dX6_readPourOrPlan_22 (by decide) (fun h14 => ?_) (fun h14 => ?_)
    · have hf := x_t h14 hf
      refine x_iconst (v := 0) C dX6_readPourOrPlan_55 (by decide) ?_
      exact x_zret C hr rfl ⟨by cases hf; rfl, by cases hf; rfl⟩ dX6_readPourOrPlan_56
    · have hf := x_f h14 hf
      refine x_aload_n C dX6_readPourOrPlan_25 rfl 0 rfl ?_
      refine x_aload_n C dX6_readPourOrPlan_26 rfl 1 rfl ?_
      obtain ⟨u15, hu15, hf⟩ := x_b hf
      refine x_callV (n := 1) (As := [.ref x]) (rest := []) C (c_X6_readCandle g l b x u13.2 (3, w.2.1, w.2.2.1, w.2.2.2.1, w.2.2.2.2.1, w.2.2.2.2.2) hu15) ⟨⟨wd_1197, wd_1194, wd_30⟩, ⟨by decide, by decide, by decide⟩, rfl, rfl, Nat.le_of_ble_eq_true rfl, Nat.le_of_ble_eq_true rfl⟩ wd_1196 wd_16 ⟨0, 8, _, _, rfl, rfl, rfl⟩ [] (x_pickD [0, 1] 2 rfl rfl rfl) rfl rfl (Nat.le_of_ble_eq_true rfl) ⟨Nat.le_of_ble_eq_true rfl, Nat.le_of_ble_eq_true rfl⟩ dX6_readPourOrPlan_27 (x_goD (wss2 := [prO g b u15.2.1, cmO g x u15.2.2]) (stk2 := [.int u15.1]) rfl rfl ?_)
      refine x_if_eq (tgt := 55) C dX6_readPourOrPlan_30 (by decide) (fun h16 => ?_) (fun h16 => ?_)
      · have hf := x_t h16 hf
        refine x_iconst (v := 0) C dX6_readPourOrPlan_55 (by decide) ?_
        exact x_zret C hr rfl ⟨by cases hf; rfl, by cases hf; rfl⟩ dX6_readPourOrPlan_56
      · have hf := x_f h16 hf
        refine x_aload_n C dX6_readPourOrPlan_33 rfl 0 rfl ?_
        refine x_bipush (v := 43) C dX6_readPourOrPlan_34 (by decide) ?_
        obtain ⟨u17, hu17, hf⟩ := x_b hf
        refine x_callV (n := 1) (As := [.int (43 : Int32)]) (rest := []) C (c_X6_accept g l b u15.2.1 (43 : Int32) hu17) ⟨⟨wd_1164, wd_1161, wd_30⟩, ⟨by decide, by decide, by decide⟩, rfl, rfl, Nat.le_of_ble_eq_true rfl, Nat.le_of_ble_eq_true rfl⟩ wd_1163 wd_10 ⟨0, 8, _, _, rfl, rfl, rfl⟩ [cmO g x u15.2.2] (x_pickD [0, 1] 2 rfl rfl rfl) rfl rfl (Nat.le_of_ble_eq_true rfl) ⟨Nat.le_of_ble_eq_true rfl, Nat.le_of_ble_eq_true rfl⟩ dX6_readPourOrPlan_36 (x_goD (wss2 := [prO g b u17.2, cmO g x u15.2.2]) (stk2 := [.int u17.1]) rfl rfl ?_)
        refine x_if_eq (tgt := 55) C dX6_readPourOrPlan_39 (by decide) (fun h18 => ?_) (fun h18 => ?_)
        · have hf := x_t h18 hf
          refine x_iconst (v := 0) C dX6_readPourOrPlan_55 (by decide) ?_
          exact x_zret C hr rfl ⟨by cases hf; rfl, by cases hf; rfl⟩ dX6_readPourOrPlan_56
        · have hf := x_f h18 hf
          refine x_aload_n C dX6_readPourOrPlan_42 rfl 0 rfl ?_
          refine x_aload_n C dX6_readPourOrPlan_43 rfl 1 rfl ?_
          refine x_iconst (v := 3) C dX6_readPourOrPlan_44 (by decide) ?_
          obtain ⟨u19, hu19, hf⟩ := x_b hf
          refine x_callV (n := 2) (As := [.ref x, .int (3 : Int32)]) (rest := []) C (c_X6_readNumber g l b x u17.2 u15.2.2 (3 : Int32) hu19) ⟨⟨wd_1186, wd_1183, wd_30⟩, ⟨by decide, by decide, by decide⟩, rfl, rfl, Nat.le_of_ble_eq_true rfl, Nat.le_of_ble_eq_true rfl⟩ wd_1185 wd_14 ⟨0, 8, _, _, rfl, rfl, rfl⟩ [] (x_pickD [0, 1] 2 rfl rfl rfl) rfl rfl (Nat.le_of_ble_eq_true rfl) ⟨Nat.le_of_ble_eq_true rfl, Nat.le_of_ble_eq_true rfl⟩ dX6_readPourOrPlan_45 (x_goD (wss2 := [prO g b u19.2.1, cmO g x u19.2.2]) (stk2 := [.int u19.1]) rfl rfl ?_)
          refine x_if_eq (tgt := 55) C dX6_readPourOrPlan_48 (by decide) (fun h20 => ?_) (fun h20 => ?_)
          · have hf := x_t h20 hf
            refine x_iconst (v := 0) C dX6_readPourOrPlan_55 (by decide) ?_
            exact x_zret C hr rfl ⟨by cases hf; rfl, by cases hf; rfl⟩ dX6_readPourOrPlan_56
          · have hf := x_f h20 hf
            refine x_iconst (v := 1) C dX6_readPourOrPlan_51 (by decide) ?_
            refine x_goto (tgt := 56) C dX6_readPourOrPlan_52 (by decide) ?_
            exact x_zret C hr rfl ⟨by cases hf; rfl, by cases hf; rfl⟩ dX6_readPourOrPlan_56
theorem wd_961 : Cond.fieldLink RX6 132 "CandleConcert$Command" "voice" "C" ∈ xTB := xTB_in 961 (by decide +kernel) (by decide +kernel)
theorem dX6_readVoice_0 : decode cX6_readVoice 0 = .ok (.iconst 0, 1) := by decide +kernel
theorem dX6_readVoice_1 : decode cX6_readVoice 1 = .ok (.istore_n 2, 1) := by decide +kernel
theorem dX6_readVoice_2 : decode cX6_readVoice 2 = .ok (.iload_n 2, 1) := by decide +kernel
theorem dX6_readVoice_3 : decode cX6_readVoice 3 = .ok (.getstatic 129, 3) := by decide +kernel
theorem dX6_readVoice_6 : decode cX6_readVoice 6 = .ok (.arraylength, 1) := by decide +kernel
theorem dX6_readVoice_7 : decode cX6_readVoice 7 = .ok (.if_icmp .ge 32, 3) := by decide +kernel
theorem dX6_readVoice_10 : decode cX6_readVoice 10 = .ok (.aload_n 0, 1) := by decide +kernel
theorem dX6_readVoice_11 : decode cX6_readVoice 11 = .ok (.getstatic 129, 3) := by decide +kernel
theorem dX6_readVoice_14 : decode cX6_readVoice 14 = .ok (.iload_n 2, 1) := by decide +kernel
theorem dX6_readVoice_15 : decode cX6_readVoice 15 = .ok (.caload, 1) := by decide +kernel
theorem dX6_readVoice_16 : decode cX6_readVoice 16 = .ok (.invokevirtual 40, 3) := by decide +kernel
theorem dX6_readVoice_19 : decode cX6_readVoice 19 = .ok (.ifCond .eq 14, 3) := by decide +kernel
theorem dX6_readVoice_22 : decode cX6_readVoice 22 = .ok (.aload_n 1, 1) := by decide +kernel
theorem dX6_readVoice_23 : decode cX6_readVoice 23 = .ok (.getstatic 129, 3) := by decide +kernel
theorem dX6_readVoice_26 : decode cX6_readVoice 26 = .ok (.iload_n 2, 1) := by decide +kernel
theorem dX6_readVoice_27 : decode cX6_readVoice 27 = .ok (.caload, 1) := by decide +kernel
theorem dX6_readVoice_28 : decode cX6_readVoice 28 = .ok (.putfield 132, 3) := by decide +kernel
theorem dX6_readVoice_31 : decode cX6_readVoice 31 = .ok (.iconst 1, 1) := by decide +kernel
theorem dX6_readVoice_32 : decode cX6_readVoice 32 = .ok (.ireturn, 1) := by decide +kernel
theorem dX6_readVoice_33 : decode cX6_readVoice 33 = .ok (.iinc 2 1, 3) := by decide +kernel
theorem dX6_readVoice_36 : decode cX6_readVoice 36 = .ok (.goto (-34), 3) := by decide +kernel
theorem dX6_readVoice_39 : decode cX6_readVoice 39 = .ok (.iconst 0, 1) := by decide +kernel
theorem dX6_readVoice_40 : decode cX6_readVoice 40 = .ok (.ireturn, 1) := by decide +kernel
set_option maxHeartbeats 4000000 in
set_option maxRecDepth 100000 in
theorem c_X6_readVoice (g : xG) (l : Launch) (b : Nat → Nat) (x : Nat) (q : PrT) (w : CmT)  {u : Int32 × PrT × CmT} (hf : f_X6_readVoice q w = some u) : ConD g l yX6_readVoice cX6_readVoice 3 (some .boolean) ({ frames := 1, cells := 0, slots := 0, locals := 21 } : Room) [.ref (b 0), .ref x] [prO g b q, cmO g x w] (some (.int u.1)) [prO g b u.2.1, cmO g x u.2.2] := by
  unfold f_X6_readVoice at hf
  refine Con_of [prO g b q, cmO g x w] [(0, .ref (b 0)), (1, .ref x)] rfl rfl (by decide) (Nat.le_of_ble_eq_true rfl) ?_
  intro pW eW sW mW argsW belowW methW c9 C hnm hr
  have C : CX g RX6 cX6_readVoice 3 _ pW sW mW argsW methW c9 := C
  have hL2 : ∀ (nW : Nat) (qL : PrT) (wL : CmT) (x2 : Int32), f_X6_readVoice_2 nW qL wL x2 = some u → VW g (va_A ([prO g b q, cmO g x w] : List va_W).flatten sW.heap.size) 3 pW l eW ({ frames := 1, cells := 0, slots := 0, locals := 21 } : Room) sW mW argsW belowW methW c9 0 0 (MQ belowW (xQc g ([prO g b q, cmO g x w] : List va_W).flatten sW.heap.size (fun v9 w9 => v9 = some (.int u.1) ∧ w9 = ([prO g b u.2.1, cmO g x u.2.2] : List va_W).flatten)) argsW sW 0 0 (va_A ([prO g b q, cmO g x w] : List va_W).flatten sW.heap.size)) [prO g b qL, cmO g x wL] [(0, .ref (b 0)), (1, .ref x), (2, .int x2)] 2 [] := by
    intro nW
    induction nW with
    | zero => intro qL wL x2 hf; rw [f_X6_readVoice_2] at hf; cases hf
    | succ nW ih =>
      intro qL wL x2 hf
      rw [f_X6_readVoice_2] at hf
      refine x_iload_n C dX6_readVoice_2 rfl 2 rfl ?_
      refine x_getsN (host := "CandleConcert") (Cn := "CandleConcert") (n := "VOICES") (d := "[C") C (CX_vo C) (by decide) (fun _ h => h) dX6_readVoice_3 ?_
      refine x_stn (v := 4) C (CX_tvo C) (by decide) dX6_readVoice_6 ?_
      refine x_icmp_ge (tgt := 39) C dX6_readVoice_7 (by decide) (fun h1 => ?_) (fun h1 => ?_)
      · have hf := x_t h1 hf
        refine x_iconst (v := 0) C dX6_readVoice_39 (by decide) ?_
        exact x_zret C hr rfl ⟨by cases hf; rfl, by cases hf; rfl⟩ dX6_readVoice_40
      · have hf := x_f h1 hf
        refine x_aload_n C dX6_readVoice_10 rfl 0 rfl ?_
        refine x_getsN (host := "CandleConcert") (Cn := "CandleConcert") (n := "VOICES") (d := "[C") C (CX_vo C) (by decide) (fun _ h => h) dX6_readVoice_11 ?_
        refine x_iload_n C dX6_readVoice_14 rfl 2 rfl ?_
        obtain ⟨h2, hf⟩ := x_n hf
        refine x_stc (f := fun j => voT.getD j 0) C (CX_tvo C) h2 dX6_readVoice_15 ?_
        obtain ⟨u3, hu3, hf⟩ := x_b hf
        refine x_callV (n := 1) (As := [.int (voT.getD x2.toNatClampNeg 0)]) (rest := []) C (c_X6_accept g l b qL (voT.getD x2.toNatClampNeg 0) hu3) ⟨⟨wd_1164, wd_1161, wd_30⟩, ⟨by decide, by decide, by decide⟩, rfl, rfl, Nat.le_of_ble_eq_true rfl, Nat.le_of_ble_eq_true rfl⟩ wd_1163 wd_10 ⟨0, 8, _, _, rfl, rfl, rfl⟩ [cmO g x wL] (x_pickD [0, 1] 2 rfl rfl rfl) rfl rfl (Nat.le_of_ble_eq_true rfl) ⟨Nat.le_of_ble_eq_true rfl, Nat.le_of_ble_eq_true rfl⟩ dX6_readVoice_16 (x_goD (wss2 := [prO g b u3.2, cmO g x wL]) (stk2 := [.int u3.1]) rfl rfl ?_)
        refine x_if_eq (tgt := 33) C dX6_readVoice_19 (by decide) (fun h4 => ?_) (fun h4 => ?_)
        · have hf := x_t h4 hf
          refine x_iinc (v := x2 + 1) (lv' := [(2, .int (x2 + 1)), (0, .ref (b 0)), (1, .ref x)]) C dX6_readVoice_33 2 rfl rfl (by decide) rfl ?_
          refine x_goto (tgt := 2) C dX6_readVoice_36 (by decide) ?_
          refine x_locals (lv' := [(0, .ref (b 0)), (1, .ref x), (2, .int (x2 + 1))]) [1, 2, 0] rfl ?_
          exact ih u3.2 wL (x2 + 1) hf
        · have hf := x_f h4 hf
          refine x_aload_n C dX6_readVoice_22 rfl 1 rfl ?_
          refine x_getsN (host := "CandleConcert") (Cn := "CandleConcert") (n := "VOICES") (d := "[C") C (CX_vo C) (by decide) (fun _ h => h) dX6_readVoice_23 ?_
          refine x_iload_n C dX6_readVoice_26 rfl 2 rfl ?_
          obtain ⟨h5, hf⟩ := x_n hf
          refine x_stc (f := fun j => voT.getD j 0) C (CX_tvo C) h5 dX6_readVoice_27 ?_
          obtain ⟨h6, hf⟩ := x_y hf
          refine x_put (ci := 5) (ty := .char) (v := .int (voT.getD x2.toNatClampNeg 0)) (b := cmO g x wL) (b' := cmO g x (wL.1, wL.2.1, wL.2.2.1, wL.2.2.2.1, voT.getD x2.toNatClampNeg 0, wL.2.2.2.2.2)) (wss' := [prO g b u3.2, cmO g x (wL.1, wL.2.1, wL.2.2.1, wL.2.2.2.1, voT.getD x2.toNatClampNeg 0, wL.2.2.2.2.2)]) C ixX2 tyX2 tyX2_ok nmX2 rfl 4 (by decide) wd_961 (fun _ h => h) rfl (tyX2_ok 4 (by decide)) (x_narC h6).1 (x_narC h6).2 1 rfl 0 (cmO_at0 g x _) (Nat.le_of_ble_eq_true rfl) rfl rfl dX6_readVoice_28 ?_
          refine x_iconst (v := 1) C dX6_readVoice_31 (by decide) ?_
          exact x_zret C hr rfl ⟨by cases hf; rfl, by cases hf; rfl⟩ dX6_readVoice_32
  refine x_iconst (v := 0) C dX6_readVoice_0 (by decide) ?_
  refine x_istore_n (lv' := [(2, .int (0 : Int32)), (0, .ref (b 0)), (1, .ref x)]) C dX6_readVoice_1 rfl (by decide) rfl ?_
  refine x_locals (lv' := [(0, .ref (b 0)), (1, .ref x), (2, .int (0 : Int32))]) [1, 2, 0] rfl ?_
  exact hL2 xFuel q w (0 : Int32) hf
theorem wd_13 : Cond.selects yX6_readVoice.cls yX6_readVoice yX6_readVoice ∈ xTB := xTB_in 13 (by decide +kernel) (by decide +kernel)
theorem wd_958 : Cond.fieldLink RX6 97 "CandleConcert$Command" "rate" "I" ∈ xTB := xTB_in 958 (by decide +kernel) (by decide +kernel)
theorem wd_1176 : Cond.fieldLink RX6 83 "CandleConcert$Kind" "CANDLE" "LCandleConcert$Kind;" ∈ xTB := xTB_in 1176 (by decide +kernel) (by decide +kernel)
theorem wd_1178 : Cond.methodLink RX6 86 yX6_readVoice ∈ xTB := xTB_in 1178 (by decide +kernel) (by decide +kernel)
theorem wd_1180 : Cond.instanceMethod yX6_readVoice ∈ xTB := xTB_in 1180 (by decide +kernel) (by decide +kernel)
theorem wd_1181 : Cond.code yX6_readVoice cX6_readVoice 3 (some .boolean) ∈ xTB := xTB_in 1181 (by decide +kernel) (by decide +kernel)
theorem dX6_readNewCandle_0 : decode cX6_readNewCandle 0 = .ok (.aload_n 1, 1) := by decide +kernel
theorem dX6_readNewCandle_1 : decode cX6_readNewCandle 1 = .ok (.getstatic 83, 3) := by decide +kernel
theorem dX6_readNewCandle_4 : decode cX6_readNewCandle 4 = .ok (.putfield 59, 3) := by decide +kernel
theorem dX6_readNewCandle_7 : decode cX6_readNewCandle 7 = .ok (.aload_n 0, 1) := by decide +kernel
theorem dX6_readNewCandle_8 : decode cX6_readNewCandle 8 = .ok (.aload_n 1, 1) := by decide +kernel
theorem dX6_readNewCandle_9 : decode cX6_readNewCandle 9 = .ok (.invokevirtual 86, 3) := by decide +kernel
theorem dX6_readNewCandle_12 : decode cX6_readNewCandle 12 = .ok (.ifCond .eq 21, 3) := by decide +kernel
theorem dX6_readNewCandle_15 : decode cX6_readNewCandle 15 = .ok (.aload_n 0, 1) := by decide +kernel
theorem dX6_readNewCandle_16 : decode cX6_readNewCandle 16 = .ok (.aload_n 1, 1) := by decide +kernel
theorem dX6_readNewCandle_17 : decode cX6_readNewCandle 17 = .ok (.iconst 3, 1) := by decide +kernel
theorem dX6_readNewCandle_18 : decode cX6_readNewCandle 18 = .ok (.invokevirtual 89, 3) := by decide +kernel
theorem dX6_readNewCandle_21 : decode cX6_readNewCandle 21 = .ok (.ifCond .eq 12, 3) := by decide +kernel
theorem dX6_readNewCandle_24 : decode cX6_readNewCandle 24 = .ok (.aload_n 0, 1) := by decide +kernel
theorem dX6_readNewCandle_25 : decode cX6_readNewCandle 25 = .ok (.bipush 47, 2) := by decide +kernel
theorem dX6_readNewCandle_27 : decode cX6_readNewCandle 27 = .ok (.invokevirtual 40, 3) := by decide +kernel
theorem dX6_readNewCandle_30 : decode cX6_readNewCandle 30 = .ok (.ifCond .ne 5, 3) := by decide +kernel
theorem dX6_readNewCandle_33 : decode cX6_readNewCandle 33 = .ok (.iconst 0, 1) := by decide +kernel
theorem dX6_readNewCandle_34 : decode cX6_readNewCandle 34 = .ok (.ireturn, 1) := by decide +kernel
theorem dX6_readNewCandle_35 : decode cX6_readNewCandle 35 = .ok (.aload_n 1, 1) := by decide +kernel
theorem dX6_readNewCandle_36 : decode cX6_readNewCandle 36 = .ok (.aload_n 0, 1) := by decide +kernel
theorem dX6_readNewCandle_37 : decode cX6_readNewCandle 37 = .ok (.iconst 1, 1) := by decide +kernel
theorem dX6_readNewCandle_38 : decode cX6_readNewCandle 38 = .ok (.invokevirtual 93, 3) := by decide +kernel
theorem dX6_readNewCandle_41 : decode cX6_readNewCandle 41 = .ok (.putfield 97, 3) := by decide +kernel
theorem dX6_readNewCandle_44 : decode cX6_readNewCandle 44 = .ok (.aload_n 1, 1) := by decide +kernel
theorem dX6_readNewCandle_45 : decode cX6_readNewCandle 45 = .ok (.getfield 97, 3) := by decide +kernel
theorem dX6_readNewCandle_48 : decode cX6_readNewCandle 48 = .ok (.iconst (-1), 1) := by decide +kernel
theorem dX6_readNewCandle_49 : decode cX6_readNewCandle 49 = .ok (.if_icmp .eq 7, 3) := by decide +kernel
theorem dX6_readNewCandle_52 : decode cX6_readNewCandle 52 = .ok (.iconst 1, 1) := by decide +kernel
theorem dX6_readNewCandle_53 : decode cX6_readNewCandle 53 = .ok (.goto 4, 3) := by decide +kernel
theorem dX6_readNewCandle_56 : decode cX6_readNewCandle 56 = .ok (.iconst 0, 1) := by decide +kernel
theorem dX6_readNewCandle_57 : decode cX6_readNewCandle 57 = .ok (.ireturn, 1) := by decide +kernel
set_option maxHeartbeats 4000000 in
set_option maxRecDepth 100000 in
theorem c_X6_readNewCandle (g : xG) (l : Launch) (b : Nat → Nat) (x : Nat) (q : PrT) (w : CmT)  {u : Int32 × PrT × CmT} (hf : f_X6_readNewCandle q w = some u) : ConD g l yX6_readNewCandle cX6_readNewCandle 2 (some .boolean) ({ frames := 2, cells := 0, slots := 0, locals := 46 } : Room) [.ref (b 0), .ref x] [prO g b q, cmO g x w] (some (.int u.1)) [prO g b u.2.1, cmO g x u.2.2] := by
  unfold f_X6_readNewCandle at hf
  refine Con_of [prO g b q, cmO g x w] [(0, .ref (b 0)), (1, .ref x)] rfl rfl (by decide) (Nat.le_of_ble_eq_true rfl) ?_
  intro pW eW sW mW argsW belowW methW c9 C hnm hr
  have C : CX g RX6 cX6_readNewCandle 2 _ pW sW mW argsW methW c9 := C
  refine x_aload_n C dX6_readNewCandle_0 rfl 1 rfl ?_
  refine x_gets (Cn := "CandleConcert$Kind") (n := "CANDLE") (d := "LCandleConcert$Kind;") C (CX_enK C 0 (by decide)) wd_1176 (fun _ h => h) dX6_readNewCandle_1 ?_
  refine x_put (ci := 5) (ty := .object "CandleConcert$Kind") (v := .ref (g.2.2 (200 + 0))) (b := cmO g x w) (b' := cmO g x (0, w.2.1, w.2.2.1, w.2.2.2.1, w.2.2.2.2.1, w.2.2.2.2.2)) (wss' := [prO g b q, cmO g x (0, w.2.1, w.2.2.1, w.2.2.2.1, w.2.2.2.2.1, w.2.2.2.2.2)]) C ixX2 tyX2 tyX2_ok nmX2 rfl 0 (by decide) wd_949 (fun _ h => h) rfl (tyX2_ok 0 (by decide)) rfl rfl 1 rfl 0 (cmO_at0 g x _) (Nat.le_of_ble_eq_true rfl) rfl rfl dX6_readNewCandle_4 ?_
  refine x_aload_n C dX6_readNewCandle_7 rfl 0 rfl ?_
  refine x_aload_n C dX6_readNewCandle_8 rfl 1 rfl ?_
  obtain ⟨u1, hu1, hf⟩ := x_b hf
  refine x_callV (n := 1) (As := [.ref x]) (rest := []) C (c_X6_readVoice g l b x q (0, w.2.1, w.2.2.1, w.2.2.2.1, w.2.2.2.2.1, w.2.2.2.2.2) hu1) ⟨⟨wd_1181, wd_1178, wd_30⟩, ⟨by decide, by decide, by decide⟩, rfl, rfl, Nat.le_of_ble_eq_true rfl, Nat.le_of_ble_eq_true rfl⟩ wd_1180 wd_13 ⟨0, 8, _, _, rfl, rfl, rfl⟩ [] (x_pickD [0, 1] 2 rfl rfl rfl) rfl rfl (Nat.le_of_ble_eq_true rfl) ⟨Nat.le_of_ble_eq_true rfl, Nat.le_of_ble_eq_true rfl⟩ dX6_readNewCandle_9 (x_goD (wss2 := [prO g b u1.2.1, cmO g x u1.2.2]) (stk2 := [.int u1.1]) rfl rfl ?_)
  refine x_if_eq (tgt := 33) C dX6_readNewCandle_12 (by decide) (fun h2 => ?_) (fun h2 => ?_)
  · have hf := x_t h2 hf
    refine x_iconst (v := 0) C dX6_readNewCandle_33 (by decide) ?_
    exact x_zret C hr rfl ⟨by cases hf; rfl, by cases hf; rfl⟩ dX6_readNewCandle_34
  · have hf := x_f h2 hf
    refine x_aload_n C dX6_readNewCandle_15 rfl 0 rfl ?_
    refine x_aload_n C dX6_readNewCandle_16 rfl 1 rfl ?_
    refine x_iconst (v := 3) C dX6_readNewCandle_17 (by decide) ?_
    obtain ⟨u3, hu3, hf⟩ := x_b hf
    refine x_callV (n := 2) (As := [.ref x, .int (3 : Int32)]) (rest := []) C (c_X6_readNumber g l b x u1.2.1 u1.2.2 (3 : Int32) hu3) ⟨⟨wd_1186, wd_1183, wd_30⟩, ⟨by decide, by decide, by decide⟩, rfl, rfl, Nat.le_of_ble_eq_true rfl, Nat.le_of_ble_eq_true rfl⟩ wd_1185 wd_14 ⟨0, 8, _, _, rfl, rfl, rfl⟩ [] (x_pickD [0, 1] 2 rfl rfl rfl) rfl rfl (Nat.le_of_ble_eq_true rfl) ⟨Nat.le_of_ble_eq_true rfl, Nat.le_of_ble_eq_true rfl⟩ dX6_readNewCandle_18 (x_goD (wss2 := [prO g b u3.2.1, cmO g x u3.2.2]) (stk2 := [.int u3.1]) rfl rfl ?_)
    refine x_if_eq (tgt := 33) C dX6_readNewCandle_21 (by decide) (fun h4 => ?_) (fun h4 => ?_)
    · have hf := x_t h4 hf
      refine x_iconst (v := 0) C dX6_readNewCandle_33 (by decide) ?_
      exact x_zret C hr rfl ⟨by cases hf; rfl, by cases hf; rfl⟩ dX6_readNewCandle_34
    · have hf := x_f h4 hf
      refine x_aload_n C dX6_readNewCandle_24 rfl 0 rfl ?_
      refine x_bipush (v := 47) C dX6_readNewCandle_25 (by decide) ?_
      obtain ⟨u5, hu5, hf⟩ := x_b hf
      refine x_callV (n := 1) (As := [.int (47 : Int32)]) (rest := []) C (c_X6_accept g l b u3.2.1 (47 : Int32) hu5) ⟨⟨wd_1164, wd_1161, wd_30⟩, ⟨by decide, by decide, by decide⟩, rfl, rfl, Nat.le_of_ble_eq_true rfl, Nat.le_of_ble_eq_true rfl⟩ wd_1163 wd_10 ⟨0, 8, _, _, rfl, rfl, rfl⟩ [cmO g x u3.2.2] (x_pickD [0, 1] 2 rfl rfl rfl) rfl rfl (Nat.le_of_ble_eq_true rfl) ⟨Nat.le_of_ble_eq_true rfl, Nat.le_of_ble_eq_true rfl⟩ dX6_readNewCandle_27 (x_goD (wss2 := [prO g b u5.2, cmO g x u3.2.2]) (stk2 := [.int u5.1]) rfl rfl ?_)
      refine x_if_ne (tgt := 35) C dX6_readNewCandle_30 (by decide) (fun h6 => ?_) (fun h6 => ?_)
      · have hf := x_f h6 hf
        refine x_aload_n C dX6_readNewCandle_35 rfl 1 rfl ?_
        refine x_aload_n C dX6_readNewCandle_36 rfl 0 rfl ?_
        refine x_iconst (v := 1) C dX6_readNewCandle_37 (by decide) ?_
        obtain ⟨u7, hu7, hf⟩ := x_b hf
        refine x_callV (n := 1) (As := [.int (1 : Int32)]) (rest := [.ref x]) C (c_X6_readDigits g l b u5.2 (1 : Int32) hu7) ⟨⟨wd_1190, wd_1187, wd_30⟩, ⟨by decide, by decide, by decide⟩, rfl, rfl, Nat.le_of_ble_eq_true rfl, Nat.le_of_ble_eq_true rfl⟩ wd_1189 wd_15 ⟨0, 8, _, _, rfl, rfl, rfl⟩ [cmO g x u3.2.2] (x_pickD [0, 1] 2 rfl rfl rfl) rfl rfl (Nat.le_of_ble_eq_true rfl) ⟨Nat.le_of_ble_eq_true rfl, Nat.le_of_ble_eq_true rfl⟩ dX6_readNewCandle_38 (x_goD (wss2 := [prO g b u7.2, cmO g x u3.2.2]) (stk2 := [.int u7.1, .ref x]) rfl rfl ?_)
        refine x_put (ci := 5) (ty := .int) (v := .int u7.1) (b := cmO g x u3.2.2) (b' := cmO g x (u3.2.2.1, u3.2.2.2.1, u3.2.2.2.2.1, u7.1, u3.2.2.2.2.2.2.1, u3.2.2.2.2.2.2.2)) (wss' := [prO g b u7.2, cmO g x (u3.2.2.1, u3.2.2.2.1, u3.2.2.2.2.1, u7.1, u3.2.2.2.2.2.2.1, u3.2.2.2.2.2.2.2)]) C ixX2 tyX2 tyX2_ok nmX2 rfl 3 (by decide) wd_958 (fun _ h => h) rfl (tyX2_ok 3 (by decide)) rfl rfl 1 rfl 0 (cmO_at0 g x _) (Nat.le_of_ble_eq_true rfl) rfl rfl dX6_readNewCandle_41 ?_
        refine x_aload_n C dX6_readNewCandle_44 rfl 1 rfl ?_
        refine x_get (ci := 5) (v := .int u7.1) (b := cmO g x (u3.2.2.1, u3.2.2.2.1, u3.2.2.2.2.1, u7.1, u3.2.2.2.2.2.2.1, u3.2.2.2.2.2.2.2)) C ixX2 rfl 3 (by decide) wd_958 (fun _ h => h) 1 rfl 0 (cmO_at0 g x _) rfl dX6_readNewCandle_45 ?_
        refine x_iconst (v := (-1)) C dX6_readNewCandle_48 (by decide) ?_
        refine x_icmp_eq (tgt := 56) C dX6_readNewCandle_49 (by decide) (fun h8 => ?_) (fun h8 => ?_)
        · have hf := x_t h8 hf
          refine x_iconst (v := 0) C dX6_readNewCandle_56 (by decide) ?_
          exact x_zret C hr rfl ⟨by cases hf; rfl, by cases hf; rfl⟩ dX6_readNewCandle_57
        · have hf := x_f h8 hf
          refine x_iconst (v := 1) C dX6_readNewCandle_52 (by decide) ?_
          refine x_goto (tgt := 57) C dX6_readNewCandle_53 (by decide) ?_
          exact x_zret C hr rfl ⟨by cases hf; rfl, by cases hf; rfl⟩ dX6_readNewCandle_57
      · have hf := x_t h6 hf
        refine x_iconst (v := 0) C dX6_readNewCandle_33 (by decide) ?_
        exact x_zret C hr rfl ⟨by cases hf; rfl, by cases hf; rfl⟩ dX6_readNewCandle_34
theorem wd_12 : Cond.selects yX6_readNewCandle.cls yX6_readNewCandle yX6_readNewCandle ∈ xTB := xTB_in 12 (by decide +kernel) (by decide +kernel)
theorem wd_17 : Cond.selects yX6_readPourOrPlan.cls yX6_readPourOrPlan yX6_readPourOrPlan ∈ xTB := xTB_in 17 (by decide +kernel) (by decide +kernel)
theorem wd_19 : Cond.selects yX6_readDraughtOrDrop.cls yX6_readDraughtOrDrop yX6_readDraughtOrDrop ∈ xTB := xTB_in 19 (by decide +kernel) (by decide +kernel)
theorem wd_20 : Cond.selects yX6_readDuration.cls yX6_readDuration yX6_readDuration ∈ xTB := xTB_in 20 (by decide +kernel) (by decide +kernel)
theorem wd_1172 : Cond.methodLink RX6 50 yX6_readNewCandle ∈ xTB := xTB_in 1172 (by decide +kernel) (by decide +kernel)
theorem wd_1174 : Cond.instanceMethod yX6_readNewCandle ∈ xTB := xTB_in 1174 (by decide +kernel) (by decide +kernel)
theorem wd_1175 : Cond.code yX6_readNewCandle cX6_readNewCandle 2 (some .boolean) ∈ xTB := xTB_in 1175 (by decide +kernel) (by decide +kernel)
theorem wd_1191 : Cond.fieldLink RX6 53 "CandleConcert$Kind" "LIGHT" "LCandleConcert$Kind;" ∈ xTB := xTB_in 1191 (by decide +kernel) (by decide +kernel)
theorem wd_1198 : Cond.fieldLink RX6 67 "CandleConcert$Kind" "SNUFF" "LCandleConcert$Kind;" ∈ xTB := xTB_in 1198 (by decide +kernel) (by decide +kernel)
theorem wd_1201 : Cond.methodLink RX6 72 yX6_readPourOrPlan ∈ xTB := xTB_in 1201 (by decide +kernel) (by decide +kernel)
theorem wd_1203 : Cond.instanceMethod yX6_readPourOrPlan ∈ xTB := xTB_in 1203 (by decide +kernel) (by decide +kernel)
theorem wd_1204 : Cond.code yX6_readPourOrPlan cX6_readPourOrPlan 2 (some .boolean) ∈ xTB := xTB_in 1204 (by decide +kernel) (by decide +kernel)
theorem wd_1215 : Cond.methodLink RX6 75 yX6_readDraughtOrDrop ∈ xTB := xTB_in 1215 (by decide +kernel) (by decide +kernel)
theorem wd_1217 : Cond.instanceMethod yX6_readDraughtOrDrop ∈ xTB := xTB_in 1217 (by decide +kernel) (by decide +kernel)
theorem wd_1218 : Cond.code yX6_readDraughtOrDrop cX6_readDraughtOrDrop 2 (some .boolean) ∈ xTB := xTB_in 1218 (by decide +kernel) (by decide +kernel)
theorem wd_1226 : Cond.methodLink RX6 80 yX6_readDuration ∈ xTB := xTB_in 1226 (by decide +kernel) (by decide +kernel)
theorem wd_1228 : Cond.instanceMethod yX6_readDuration ∈ xTB := xTB_in 1228 (by decide +kernel) (by decide +kernel)
theorem wd_1229 : Cond.code yX6_readDuration cX6_readDuration 2 (some .boolean) ∈ xTB := xTB_in 1229 (by decide +kernel) (by decide +kernel)
theorem dX6_readCommand_0 : decode cX6_readCommand 0 = .ok (.aload_n 0, 1) := by decide +kernel
theorem dX6_readCommand_1 : decode cX6_readCommand 1 = .ok (.bipush 99, 2) := by decide +kernel
theorem dX6_readCommand_3 : decode cX6_readCommand 3 = .ok (.invokevirtual 40, 3) := by decide +kernel
theorem dX6_readCommand_6 : decode cX6_readCommand 6 = .ok (.ifCond .eq 26, 3) := by decide +kernel
theorem dX6_readCommand_9 : decode cX6_readCommand 9 = .ok (.aload_n 0, 1) := by decide +kernel
theorem dX6_readCommand_10 : decode cX6_readCommand 10 = .ok (.ldc 44, 2) := by decide +kernel
theorem dX6_readCommand_12 : decode cX6_readCommand 12 = .ok (.invokevirtual 46, 3) := by decide +kernel
theorem dX6_readCommand_15 : decode cX6_readCommand 15 = .ok (.ifCond .eq 15, 3) := by decide +kernel
theorem dX6_readCommand_18 : decode cX6_readCommand 18 = .ok (.aload_n 0, 1) := by decide +kernel
theorem dX6_readCommand_19 : decode cX6_readCommand 19 = .ok (.aload_n 1, 1) := by decide +kernel
theorem dX6_readCommand_20 : decode cX6_readCommand 20 = .ok (.invokevirtual 50, 3) := by decide +kernel
theorem dX6_readCommand_23 : decode cX6_readCommand 23 = .ok (.ifCond .eq 7, 3) := by decide +kernel
theorem dX6_readCommand_26 : decode cX6_readCommand 26 = .ok (.iconst 1, 1) := by decide +kernel
theorem dX6_readCommand_27 : decode cX6_readCommand 27 = .ok (.goto 4, 3) := by decide +kernel
theorem dX6_readCommand_30 : decode cX6_readCommand 30 = .ok (.iconst 0, 1) := by decide +kernel
theorem dX6_readCommand_31 : decode cX6_readCommand 31 = .ok (.ireturn, 1) := by decide +kernel
theorem dX6_readCommand_32 : decode cX6_readCommand 32 = .ok (.aload_n 0, 1) := by decide +kernel
theorem dX6_readCommand_33 : decode cX6_readCommand 33 = .ok (.bipush 108, 2) := by decide +kernel
theorem dX6_readCommand_35 : decode cX6_readCommand 35 = .ok (.invokevirtual 40, 3) := by decide +kernel
theorem dX6_readCommand_38 : decode cX6_readCommand 38 = .ok (.ifCond .eq 33, 3) := by decide +kernel
theorem dX6_readCommand_41 : decode cX6_readCommand 41 = .ok (.aload_n 1, 1) := by decide +kernel
theorem dX6_readCommand_42 : decode cX6_readCommand 42 = .ok (.getstatic 53, 3) := by decide +kernel
theorem dX6_readCommand_45 : decode cX6_readCommand 45 = .ok (.putfield 59, 3) := by decide +kernel
theorem dX6_readCommand_48 : decode cX6_readCommand 48 = .ok (.aload_n 0, 1) := by decide +kernel
theorem dX6_readCommand_49 : decode cX6_readCommand 49 = .ok (.ldc 62, 2) := by decide +kernel
theorem dX6_readCommand_51 : decode cX6_readCommand 51 = .ok (.invokevirtual 46, 3) := by decide +kernel
theorem dX6_readCommand_54 : decode cX6_readCommand 54 = .ok (.ifCond .eq 15, 3) := by decide +kernel
theorem dX6_readCommand_57 : decode cX6_readCommand 57 = .ok (.aload_n 0, 1) := by decide +kernel
theorem dX6_readCommand_58 : decode cX6_readCommand 58 = .ok (.aload_n 1, 1) := by decide +kernel
theorem dX6_readCommand_59 : decode cX6_readCommand 59 = .ok (.invokevirtual 64, 3) := by decide +kernel
theorem dX6_readCommand_62 : decode cX6_readCommand 62 = .ok (.ifCond .eq 7, 3) := by decide +kernel
theorem dX6_readCommand_65 : decode cX6_readCommand 65 = .ok (.iconst 1, 1) := by decide +kernel
theorem dX6_readCommand_66 : decode cX6_readCommand 66 = .ok (.goto 4, 3) := by decide +kernel
theorem dX6_readCommand_69 : decode cX6_readCommand 69 = .ok (.iconst 0, 1) := by decide +kernel
theorem dX6_readCommand_70 : decode cX6_readCommand 70 = .ok (.ireturn, 1) := by decide +kernel
theorem dX6_readCommand_71 : decode cX6_readCommand 71 = .ok (.aload_n 0, 1) := by decide +kernel
theorem dX6_readCommand_72 : decode cX6_readCommand 72 = .ok (.bipush 115, 2) := by decide +kernel
theorem dX6_readCommand_74 : decode cX6_readCommand 74 = .ok (.invokevirtual 40, 3) := by decide +kernel
theorem dX6_readCommand_77 : decode cX6_readCommand 77 = .ok (.ifCond .eq 33, 3) := by decide +kernel
theorem dX6_readCommand_80 : decode cX6_readCommand 80 = .ok (.aload_n 1, 1) := by decide +kernel
theorem dX6_readCommand_81 : decode cX6_readCommand 81 = .ok (.getstatic 67, 3) := by decide +kernel
theorem dX6_readCommand_84 : decode cX6_readCommand 84 = .ok (.putfield 59, 3) := by decide +kernel
theorem dX6_readCommand_87 : decode cX6_readCommand 87 = .ok (.aload_n 0, 1) := by decide +kernel
theorem dX6_readCommand_88 : decode cX6_readCommand 88 = .ok (.ldc 70, 2) := by decide +kernel
theorem dX6_readCommand_90 : decode cX6_readCommand 90 = .ok (.invokevirtual 46, 3) := by decide +kernel
theorem dX6_readCommand_93 : decode cX6_readCommand 93 = .ok (.ifCond .eq 15, 3) := by decide +kernel
theorem dX6_readCommand_96 : decode cX6_readCommand 96 = .ok (.aload_n 0, 1) := by decide +kernel
theorem dX6_readCommand_97 : decode cX6_readCommand 97 = .ok (.aload_n 1, 1) := by decide +kernel
theorem dX6_readCommand_98 : decode cX6_readCommand 98 = .ok (.invokevirtual 64, 3) := by decide +kernel
theorem dX6_readCommand_101 : decode cX6_readCommand 101 = .ok (.ifCond .eq 7, 3) := by decide +kernel
theorem dX6_readCommand_104 : decode cX6_readCommand 104 = .ok (.iconst 1, 1) := by decide +kernel
theorem dX6_readCommand_105 : decode cX6_readCommand 105 = .ok (.goto 4, 3) := by decide +kernel
theorem dX6_readCommand_108 : decode cX6_readCommand 108 = .ok (.iconst 0, 1) := by decide +kernel
theorem dX6_readCommand_109 : decode cX6_readCommand 109 = .ok (.ireturn, 1) := by decide +kernel
theorem dX6_readCommand_110 : decode cX6_readCommand 110 = .ok (.aload_n 0, 1) := by decide +kernel
theorem dX6_readCommand_111 : decode cX6_readCommand 111 = .ok (.bipush 112, 2) := by decide +kernel
theorem dX6_readCommand_113 : decode cX6_readCommand 113 = .ok (.invokevirtual 40, 3) := by decide +kernel
theorem dX6_readCommand_116 : decode cX6_readCommand 116 = .ok (.ifCond .eq 9, 3) := by decide +kernel
theorem dX6_readCommand_119 : decode cX6_readCommand 119 = .ok (.aload_n 0, 1) := by decide +kernel
theorem dX6_readCommand_120 : decode cX6_readCommand 120 = .ok (.aload_n 1, 1) := by decide +kernel
theorem dX6_readCommand_121 : decode cX6_readCommand 121 = .ok (.invokevirtual 72, 3) := by decide +kernel
theorem dX6_readCommand_124 : decode cX6_readCommand 124 = .ok (.ireturn, 1) := by decide +kernel
theorem dX6_readCommand_125 : decode cX6_readCommand 125 = .ok (.aload_n 0, 1) := by decide +kernel
theorem dX6_readCommand_126 : decode cX6_readCommand 126 = .ok (.bipush 100, 2) := by decide +kernel
theorem dX6_readCommand_128 : decode cX6_readCommand 128 = .ok (.invokevirtual 40, 3) := by decide +kernel
theorem dX6_readCommand_131 : decode cX6_readCommand 131 = .ok (.ifCond .eq 9, 3) := by decide +kernel
theorem dX6_readCommand_134 : decode cX6_readCommand 134 = .ok (.aload_n 0, 1) := by decide +kernel
theorem dX6_readCommand_135 : decode cX6_readCommand 135 = .ok (.aload_n 1, 1) := by decide +kernel
theorem dX6_readCommand_136 : decode cX6_readCommand 136 = .ok (.invokevirtual 75, 3) := by decide +kernel
theorem dX6_readCommand_139 : decode cX6_readCommand 139 = .ok (.ireturn, 1) := by decide +kernel
theorem dX6_readCommand_140 : decode cX6_readCommand 140 = .ok (.aload_n 0, 1) := by decide +kernel
theorem dX6_readCommand_141 : decode cX6_readCommand 141 = .ok (.bipush 119, 2) := by decide +kernel
theorem dX6_readCommand_143 : decode cX6_readCommand 143 = .ok (.invokevirtual 40, 3) := by decide +kernel
theorem dX6_readCommand_146 : decode cX6_readCommand 146 = .ok (.ifCond .eq 24, 3) := by decide +kernel
theorem dX6_readCommand_149 : decode cX6_readCommand 149 = .ok (.aload_n 0, 1) := by decide +kernel
theorem dX6_readCommand_150 : decode cX6_readCommand 150 = .ok (.ldc 78, 2) := by decide +kernel
theorem dX6_readCommand_152 : decode cX6_readCommand 152 = .ok (.invokevirtual 46, 3) := by decide +kernel
theorem dX6_readCommand_155 : decode cX6_readCommand 155 = .ok (.ifCond .eq 15, 3) := by decide +kernel
theorem dX6_readCommand_158 : decode cX6_readCommand 158 = .ok (.aload_n 0, 1) := by decide +kernel
theorem dX6_readCommand_159 : decode cX6_readCommand 159 = .ok (.aload_n 1, 1) := by decide +kernel
theorem dX6_readCommand_160 : decode cX6_readCommand 160 = .ok (.invokevirtual 80, 3) := by decide +kernel
theorem dX6_readCommand_163 : decode cX6_readCommand 163 = .ok (.ifCond .eq 7, 3) := by decide +kernel
theorem dX6_readCommand_166 : decode cX6_readCommand 166 = .ok (.iconst 1, 1) := by decide +kernel
theorem dX6_readCommand_167 : decode cX6_readCommand 167 = .ok (.goto 4, 3) := by decide +kernel
theorem dX6_readCommand_170 : decode cX6_readCommand 170 = .ok (.iconst 0, 1) := by decide +kernel
theorem dX6_readCommand_171 : decode cX6_readCommand 171 = .ok (.ireturn, 1) := by decide +kernel
set_option maxHeartbeats 4000000 in
set_option maxRecDepth 100000 in
theorem c_X6_readCommand (g : xG) (l : Launch) (b : Nat → Nat) (x : Nat) (q : PrT) (w : CmT)  {u : Int32 × PrT × CmT} (hf : f_X6_readCommand q w = some u) : ConD g l yX6_readCommand cX6_readCommand 2 (some .boolean) ({ frames := 6, cells := 0, slots := 0, locals := 128 } : Room) [.ref (b 0), .ref x] [prO g b q, cmO g x w] (some (.int u.1)) [prO g b u.2.1, cmO g x u.2.2] := by
  unfold f_X6_readCommand at hf
  refine Con_of [prO g b q, cmO g x w] [(0, .ref (b 0)), (1, .ref x)] rfl rfl (by decide) (Nat.le_of_ble_eq_true rfl) ?_
  intro pW eW sW mW argsW belowW methW c9 C hnm hr
  have C : CX g RX6 cX6_readCommand 2 _ pW sW mW argsW methW c9 := C
  refine x_aload_n C dX6_readCommand_0 rfl 0 rfl ?_
  refine x_bipush (v := 99) C dX6_readCommand_1 (by decide) ?_
  obtain ⟨u1, hu1, hf⟩ := x_b hf
  refine x_callV (n := 1) (As := [.int (99 : Int32)]) (rest := []) C (c_X6_accept g l b q (99 : Int32) hu1) ⟨⟨wd_1164, wd_1161, wd_30⟩, ⟨by decide, by decide, by decide⟩, rfl, rfl, Nat.le_of_ble_eq_true rfl, Nat.le_of_ble_eq_true rfl⟩ wd_1163 wd_10 ⟨0, 8, _, _, rfl, rfl, rfl⟩ [cmO g x w] (x_pickD [0, 1] 2 rfl rfl rfl) rfl rfl (Nat.le_of_ble_eq_true rfl) ⟨Nat.le_of_ble_eq_true rfl, Nat.le_of_ble_eq_true rfl⟩ dX6_readCommand_3 (x_goD (wss2 := [prO g b u1.2, cmO g x w]) (stk2 := [.int u1.1]) rfl rfl ?_)
  refine x_if_eq (tgt := 32) C dX6_readCommand_6 (by decide) (fun h2 => ?_) (fun h2 => ?_)
  · have hf := x_t h2 hf
    refine x_aload_n C dX6_readCommand_32 rfl 0 rfl ?_
    refine x_bipush (v := 108) C dX6_readCommand_33 (by decide) ?_
    obtain ⟨u3, hu3, hf⟩ := x_b hf
    refine x_callV (n := 1) (As := [.int (108 : Int32)]) (rest := []) C (c_X6_accept g l b u1.2 (108 : Int32) hu3) ⟨⟨wd_1164, wd_1161, wd_30⟩, ⟨by decide, by decide, by decide⟩, rfl, rfl, Nat.le_of_ble_eq_true rfl, Nat.le_of_ble_eq_true rfl⟩ wd_1163 wd_10 ⟨0, 8, _, _, rfl, rfl, rfl⟩ [cmO g x w] (x_pickD [0, 1] 2 rfl rfl rfl) rfl rfl (Nat.le_of_ble_eq_true rfl) ⟨Nat.le_of_ble_eq_true rfl, Nat.le_of_ble_eq_true rfl⟩ dX6_readCommand_35 (x_goD (wss2 := [prO g b u3.2, cmO g x w]) (stk2 := [.int u3.1]) rfl rfl ?_)
    refine x_if_eq (tgt := 71) C dX6_readCommand_38 (by decide) (fun h4 => ?_) (fun h4 => ?_)
    · have hf := x_t h4 hf
      refine x_aload_n C dX6_readCommand_71 rfl 0 rfl ?_
      refine x_bipush (v := 115) C dX6_readCommand_72 (by decide) ?_
      obtain ⟨u5, hu5, hf⟩ := x_b hf
      refine x_callV (n := 1) (As := [.int (115 : Int32)]) (rest := []) C (c_X6_accept g l b u3.2 (115 : Int32) hu5) ⟨⟨wd_1164, wd_1161, wd_30⟩, ⟨by decide, by decide, by decide⟩, rfl, rfl, Nat.le_of_ble_eq_true rfl, Nat.le_of_ble_eq_true rfl⟩ wd_1163 wd_10 ⟨0, 8, _, _, rfl, rfl, rfl⟩ [cmO g x w] (x_pickD [0, 1] 2 rfl rfl rfl) rfl rfl (Nat.le_of_ble_eq_true rfl) ⟨Nat.le_of_ble_eq_true rfl, Nat.le_of_ble_eq_true rfl⟩ dX6_readCommand_74 (x_goD (wss2 := [prO g b u5.2, cmO g x w]) (stk2 := [.int u5.1]) rfl rfl ?_)
      refine x_if_eq (tgt := 110) C dX6_readCommand_77 (by decide) (fun h6 => ?_) (fun h6 => ?_)
      · have hf := x_t h6 hf
        refine x_aload_n C dX6_readCommand_110 rfl 0 rfl ?_
        refine x_bipush (v := 112) C dX6_readCommand_111 (by decide) ?_
        obtain ⟨u7, hu7, hf⟩ := x_b hf
        refine x_callV (n := 1) (As := [.int (112 : Int32)]) (rest := []) C (c_X6_accept g l b u5.2 (112 : Int32) hu7) ⟨⟨wd_1164, wd_1161, wd_30⟩, ⟨by decide, by decide, by decide⟩, rfl, rfl, Nat.le_of_ble_eq_true rfl, Nat.le_of_ble_eq_true rfl⟩ wd_1163 wd_10 ⟨0, 8, _, _, rfl, rfl, rfl⟩ [cmO g x w] (x_pickD [0, 1] 2 rfl rfl rfl) rfl rfl (Nat.le_of_ble_eq_true rfl) ⟨Nat.le_of_ble_eq_true rfl, Nat.le_of_ble_eq_true rfl⟩ dX6_readCommand_113 (x_goD (wss2 := [prO g b u7.2, cmO g x w]) (stk2 := [.int u7.1]) rfl rfl ?_)
        refine x_if_eq (tgt := 125) C dX6_readCommand_116 (by decide) (fun h8 => ?_) (fun h8 => ?_)
        · have hf := x_t h8 hf
          refine x_aload_n C dX6_readCommand_125 rfl 0 rfl ?_
          refine x_bipush (v := 100) C dX6_readCommand_126 (by decide) ?_
          obtain ⟨u9, hu9, hf⟩ := x_b hf
          refine x_callV (n := 1) (As := [.int (100 : Int32)]) (rest := []) C (c_X6_accept g l b u7.2 (100 : Int32) hu9) ⟨⟨wd_1164, wd_1161, wd_30⟩, ⟨by decide, by decide, by decide⟩, rfl, rfl, Nat.le_of_ble_eq_true rfl, Nat.le_of_ble_eq_true rfl⟩ wd_1163 wd_10 ⟨0, 8, _, _, rfl, rfl, rfl⟩ [cmO g x w] (x_pickD [0, 1] 2 rfl rfl rfl) rfl rfl (Nat.le_of_ble_eq_true rfl) ⟨Nat.le_of_ble_eq_true rfl, Nat.le_of_ble_eq_true rfl⟩ dX6_readCommand_128 (x_goD (wss2 := [prO g b u9.2, cmO g x w]) (stk2 := [.int u9.1]) rfl rfl ?_)
          refine x_if_eq (tgt := 140) C dX6_readCommand_131 (by decide) (fun h10 => ?_) (fun h10 => ?_)
          · have hf := x_t h10 hf
            refine x_aload_n C dX6_readCommand_140 rfl 0 rfl ?_
            refine x_bipush (v := 119) C dX6_readCommand_141 (by decide) ?_
            obtain ⟨u11, hu11, hf⟩ := x_b hf
            refine x_callV (n := 1) (As := [.int (119 : Int32)]) (rest := []) C (c_X6_accept g l b u9.2 (119 : Int32) hu11) ⟨⟨wd_1164, wd_1161, wd_30⟩, ⟨by decide, by decide, by decide⟩, rfl, rfl, Nat.le_of_ble_eq_true rfl, Nat.le_of_ble_eq_true rfl⟩ wd_1163 wd_10 ⟨0, 8, _, _, rfl, rfl, rfl⟩ [cmO g x w] (x_pickD [0, 1] 2 rfl rfl rfl) rfl rfl (Nat.le_of_ble_eq_true rfl) ⟨Nat.le_of_ble_eq_true rfl, Nat.le_of_ble_eq_true rfl⟩ dX6_readCommand_143 (x_goD (wss2 := [prO g b u11.2, cmO g x w]) (stk2 := [.int u11.1]) rfl rfl ?_)
            refine x_if_eq (tgt := 170) C dX6_readCommand_146 (by decide) (fun h12 => ?_) (fun h12 => ?_)
            · have hf := x_t h12 hf
              refine x_iconst (v := 0) C dX6_readCommand_170 (by decide) ?_
              exact x_zret C hr rfl ⟨by cases hf; rfl, by cases hf; rfl⟩ dX6_readCommand_171
            · have hf := x_f h12 hf
              refine x_aload_n C dX6_readCommand_149 rfl 0 rfl ?_
              refine x_ldcS (tx := "ait") C (CX_str C ("CandleConcert$Program", 78, "ait", 25) (by decide)) dX6_readCommand_150 ?_
              obtain ⟨u13, hu13, hf⟩ := x_b hf
              refine x_callV (n := 1) (As := [.ref (g.2.2 (300 + 25))]) (rest := []) C (c_X6_acceptAll g l b u11.2 25 hu13) ⟨⟨wd_1169, wd_1166, wd_30⟩, ⟨by decide, by decide, by decide⟩, rfl, rfl, Nat.le_of_ble_eq_true rfl, Nat.le_of_ble_eq_true rfl⟩ wd_1168 wd_11 ⟨0, 8, _, _, rfl, rfl, rfl⟩ [cmO g x w] (x_pickD [0, 1] 2 rfl rfl rfl) rfl rfl (Nat.le_of_ble_eq_true rfl) ⟨Nat.le_of_ble_eq_true rfl, Nat.le_of_ble_eq_true rfl⟩ dX6_readCommand_152 (x_goD (wss2 := [prO g b u13.2, cmO g x w]) (stk2 := [.int u13.1]) rfl rfl ?_)
              refine x_if_eq (tgt := 170) C dX6_readCommand_155 (by decide) (fun h14 => ?_) (fun h14 => ?_)
              · have hf := x_t h14 hf
                refine x_iconst (v := 0) C dX6_readCommand_170 (by decide) ?_
                exact x_zret C hr rfl ⟨by cases hf; rfl, by cases hf; rfl⟩ dX6_readCommand_171
              · have hf := x_f h14 hf
                refine x_aload_n C dX6_readCommand_158 rfl 0 rfl ?_
                refine x_aload_n C dX6_readCommand_159 rfl 1 rfl ?_
                obtain ⟨u15, hu15, hf⟩ := x_b hf
                refine x_callV (n := 1) (As := [.ref x]) (rest := []) C (c_X6_readDuration g l b x u13.2 w hu15) ⟨⟨wd_1229, wd_1226, wd_30⟩, ⟨by decide, by decide, by decide⟩, rfl, rfl, Nat.le_of_ble_eq_true rfl, Nat.le_of_ble_eq_true rfl⟩ wd_1228 wd_20 ⟨0, 8, _, _, rfl, rfl, rfl⟩ [] (x_pickD [0, 1] 2 rfl rfl rfl) rfl rfl (Nat.le_of_ble_eq_true rfl) ⟨Nat.le_of_ble_eq_true rfl, Nat.le_of_ble_eq_true rfl⟩ dX6_readCommand_160 (x_goD (wss2 := [prO g b u15.2.1, cmO g x u15.2.2]) (stk2 := [.int u15.1]) rfl rfl ?_)
                refine x_if_eq (tgt := 170) C dX6_readCommand_163 (by decide) (fun h16 => ?_) (fun h16 => ?_)
                · have hf := x_t h16 hf
                  refine x_iconst (v := 0) C dX6_readCommand_170 (by decide) ?_
                  exact x_zret C hr rfl ⟨by cases hf; rfl, by cases hf; rfl⟩ dX6_readCommand_171
                · have hf := x_f h16 hf
                  refine x_iconst (v := 1) C dX6_readCommand_166 (by decide) ?_
                  refine x_goto (tgt := 171) C dX6_readCommand_167 (by decide) ?_
                  exact x_zret C hr rfl ⟨by cases hf; rfl, by cases hf; rfl⟩ dX6_readCommand_171
          · have hf := x_f h10 hf
            refine x_aload_n C dX6_readCommand_134 rfl 0 rfl ?_
            refine x_aload_n C dX6_readCommand_135 rfl 1 rfl ?_
            obtain ⟨u17, hu17, hf⟩ := x_b hf
            refine x_callV (n := 1) (As := [.ref x]) (rest := []) C (c_X6_readDraughtOrDrop g l b x u9.2 w hu17) ⟨⟨wd_1218, wd_1215, wd_30⟩, ⟨by decide, by decide, by decide⟩, rfl, rfl, Nat.le_of_ble_eq_true rfl, Nat.le_of_ble_eq_true rfl⟩ wd_1217 wd_19 ⟨0, 8, _, _, rfl, rfl, rfl⟩ [] (x_pickD [0, 1] 2 rfl rfl rfl) rfl rfl (Nat.le_of_ble_eq_true rfl) ⟨Nat.le_of_ble_eq_true rfl, Nat.le_of_ble_eq_true rfl⟩ dX6_readCommand_136 (x_goD (wss2 := [prO g b u17.2.1, cmO g x u17.2.2]) (stk2 := [.int u17.1]) rfl rfl ?_)
            obtain ⟨h18, hf⟩ := x_y hf
            exact x_zret C hr (x_narZ h18).1 ⟨by cases hf; rfl, by cases hf; rfl⟩ dX6_readCommand_139
        · have hf := x_f h8 hf
          refine x_aload_n C dX6_readCommand_119 rfl 0 rfl ?_
          refine x_aload_n C dX6_readCommand_120 rfl 1 rfl ?_
          obtain ⟨u19, hu19, hf⟩ := x_b hf
          refine x_callV (n := 1) (As := [.ref x]) (rest := []) C (c_X6_readPourOrPlan g l b x u7.2 w hu19) ⟨⟨wd_1204, wd_1201, wd_30⟩, ⟨by decide, by decide, by decide⟩, rfl, rfl, Nat.le_of_ble_eq_true rfl, Nat.le_of_ble_eq_true rfl⟩ wd_1203 wd_17 ⟨0, 8, _, _, rfl, rfl, rfl⟩ [] (x_pickD [0, 1] 2 rfl rfl rfl) rfl rfl (Nat.le_of_ble_eq_true rfl) ⟨Nat.le_of_ble_eq_true rfl, Nat.le_of_ble_eq_true rfl⟩ dX6_readCommand_121 (x_goD (wss2 := [prO g b u19.2.1, cmO g x u19.2.2]) (stk2 := [.int u19.1]) rfl rfl ?_)
          obtain ⟨h20, hf⟩ := x_y hf
          exact x_zret C hr (x_narZ h20).1 ⟨by cases hf; rfl, by cases hf; rfl⟩ dX6_readCommand_124
      · have hf := x_f h6 hf
        refine x_aload_n C dX6_readCommand_80 rfl 1 rfl ?_
        refine x_gets (Cn := "CandleConcert$Kind") (n := "SNUFF") (d := "LCandleConcert$Kind;") C (CX_enK C 2 (by decide)) wd_1198 (fun _ h => h) dX6_readCommand_81 ?_
        refine x_put (ci := 5) (ty := .object "CandleConcert$Kind") (v := .ref (g.2.2 (200 + 2))) (b := cmO g x w) (b' := cmO g x (2, w.2.1, w.2.2.1, w.2.2.2.1, w.2.2.2.2.1, w.2.2.2.2.2)) (wss' := [prO g b u5.2, cmO g x (2, w.2.1, w.2.2.1, w.2.2.2.1, w.2.2.2.2.1, w.2.2.2.2.2)]) C ixX2 tyX2 tyX2_ok nmX2 rfl 0 (by decide) wd_949 (fun _ h => h) rfl (tyX2_ok 0 (by decide)) rfl rfl 1 rfl 0 (cmO_at0 g x _) (Nat.le_of_ble_eq_true rfl) rfl rfl dX6_readCommand_84 ?_
        refine x_aload_n C dX6_readCommand_87 rfl 0 rfl ?_
        refine x_ldcS (tx := "nuff ") C (CX_str C ("CandleConcert$Program", 70, "nuff ", 20) (by decide)) dX6_readCommand_88 ?_
        obtain ⟨u21, hu21, hf⟩ := x_b hf
        refine x_callV (n := 1) (As := [.ref (g.2.2 (300 + 20))]) (rest := []) C (c_X6_acceptAll g l b u5.2 20 hu21) ⟨⟨wd_1169, wd_1166, wd_30⟩, ⟨by decide, by decide, by decide⟩, rfl, rfl, Nat.le_of_ble_eq_true rfl, Nat.le_of_ble_eq_true rfl⟩ wd_1168 wd_11 ⟨0, 8, _, _, rfl, rfl, rfl⟩ [cmO g x (2, w.2.1, w.2.2.1, w.2.2.2.1, w.2.2.2.2.1, w.2.2.2.2.2)] (x_pickD [0, 1] 2 rfl rfl rfl) rfl rfl (Nat.le_of_ble_eq_true rfl) ⟨Nat.le_of_ble_eq_true rfl, Nat.le_of_ble_eq_true rfl⟩ dX6_readCommand_90 (x_goD (wss2 := [prO g b u21.2, cmO g x (2, w.2.1, w.2.2.1, w.2.2.2.1, w.2.2.2.2.1, w.2.2.2.2.2)]) (stk2 := [.int u21.1]) rfl rfl ?_)
        refine x_if_eq (tgt := 108) C dX6_readCommand_93 (by decide) (fun h22 => ?_) (fun h22 => ?_)
        · have hf := x_t h22 hf
          refine x_iconst (v := 0) C dX6_readCommand_108 (by decide) ?_
          exact x_zret C hr rfl ⟨by cases hf; rfl, by cases hf; rfl⟩ dX6_readCommand_109
        · have hf := x_f h22 hf
          refine x_aload_n C dX6_readCommand_96 rfl 0 rfl ?_
          refine x_aload_n C dX6_readCommand_97 rfl 1 rfl ?_
          obtain ⟨u23, hu23, hf⟩ := x_b hf
          refine x_callV (n := 1) (As := [.ref x]) (rest := []) C (c_X6_readCandle g l b x u21.2 (2, w.2.1, w.2.2.1, w.2.2.2.1, w.2.2.2.2.1, w.2.2.2.2.2) hu23) ⟨⟨wd_1197, wd_1194, wd_30⟩, ⟨by decide, by decide, by decide⟩, rfl, rfl, Nat.le_of_ble_eq_true rfl, Nat.le_of_ble_eq_true rfl⟩ wd_1196 wd_16 ⟨0, 8, _, _, rfl, rfl, rfl⟩ [] (x_pickD [0, 1] 2 rfl rfl rfl) rfl rfl (Nat.le_of_ble_eq_true rfl) ⟨Nat.le_of_ble_eq_true rfl, Nat.le_of_ble_eq_true rfl⟩ dX6_readCommand_98 (x_goD (wss2 := [prO g b u23.2.1, cmO g x u23.2.2]) (stk2 := [.int u23.1]) rfl rfl ?_)
          refine x_if_eq (tgt := 108) C dX6_readCommand_101 (by decide) (fun h24 => ?_) (fun h24 => ?_)
          · have hf := x_t h24 hf
            refine x_iconst (v := 0) C dX6_readCommand_108 (by decide) ?_
            exact x_zret C hr rfl ⟨by cases hf; rfl, by cases hf; rfl⟩ dX6_readCommand_109
          · have hf := x_f h24 hf
            refine x_iconst (v := 1) C dX6_readCommand_104 (by decide) ?_
            refine x_goto (tgt := 109) C dX6_readCommand_105 (by decide) ?_
            exact x_zret C hr rfl ⟨by cases hf; rfl, by cases hf; rfl⟩ dX6_readCommand_109
    · have hf := x_f h4 hf
      refine x_aload_n C dX6_readCommand_41 rfl 1 rfl ?_
      refine x_gets (Cn := "CandleConcert$Kind") (n := "LIGHT") (d := "LCandleConcert$Kind;") C (CX_enK C 1 (by decide)) wd_1191 (fun _ h => h) dX6_readCommand_42 ?_
      refine x_put (ci := 5) (ty := .object "CandleConcert$Kind") (v := .ref (g.2.2 (200 + 1))) (b := cmO g x w) (b' := cmO g x (1, w.2.1, w.2.2.1, w.2.2.2.1, w.2.2.2.2.1, w.2.2.2.2.2)) (wss' := [prO g b u3.2, cmO g x (1, w.2.1, w.2.2.1, w.2.2.2.1, w.2.2.2.2.1, w.2.2.2.2.2)]) C ixX2 tyX2 tyX2_ok nmX2 rfl 0 (by decide) wd_949 (fun _ h => h) rfl (tyX2_ok 0 (by decide)) rfl rfl 1 rfl 0 (cmO_at0 g x _) (Nat.le_of_ble_eq_true rfl) rfl rfl dX6_readCommand_45 ?_
      refine x_aload_n C dX6_readCommand_48 rfl 0 rfl ?_
      refine x_ldcS (tx := "ight ") C (CX_str C ("CandleConcert$Program", 62, "ight ", 19) (by decide)) dX6_readCommand_49 ?_
      obtain ⟨u25, hu25, hf⟩ := x_b hf
      refine x_callV (n := 1) (As := [.ref (g.2.2 (300 + 19))]) (rest := []) C (c_X6_acceptAll g l b u3.2 19 hu25) ⟨⟨wd_1169, wd_1166, wd_30⟩, ⟨by decide, by decide, by decide⟩, rfl, rfl, Nat.le_of_ble_eq_true rfl, Nat.le_of_ble_eq_true rfl⟩ wd_1168 wd_11 ⟨0, 8, _, _, rfl, rfl, rfl⟩ [cmO g x (1, w.2.1, w.2.2.1, w.2.2.2.1, w.2.2.2.2.1, w.2.2.2.2.2)] (x_pickD [0, 1] 2 rfl rfl rfl) rfl rfl (Nat.le_of_ble_eq_true rfl) ⟨Nat.le_of_ble_eq_true rfl, Nat.le_of_ble_eq_true rfl⟩ dX6_readCommand_51 (x_goD (wss2 := [prO g b u25.2, cmO g x (1, w.2.1, w.2.2.1, w.2.2.2.1, w.2.2.2.2.1, w.2.2.2.2.2)]) (stk2 := [.int u25.1]) rfl rfl ?_)
      refine x_if_eq (tgt := 69) C dX6_readCommand_54 (by decide) (fun h26 => ?_) (fun h26 => ?_)
      · have hf := x_t h26 hf
        refine x_iconst (v := 0) C dX6_readCommand_69 (by decide) ?_
        exact x_zret C hr rfl ⟨by cases hf; rfl, by cases hf; rfl⟩ dX6_readCommand_70
      · have hf := x_f h26 hf
        refine x_aload_n C dX6_readCommand_57 rfl 0 rfl ?_
        refine x_aload_n C dX6_readCommand_58 rfl 1 rfl ?_
        obtain ⟨u27, hu27, hf⟩ := x_b hf
        refine x_callV (n := 1) (As := [.ref x]) (rest := []) C (c_X6_readCandle g l b x u25.2 (1, w.2.1, w.2.2.1, w.2.2.2.1, w.2.2.2.2.1, w.2.2.2.2.2) hu27) ⟨⟨wd_1197, wd_1194, wd_30⟩, ⟨by decide, by decide, by decide⟩, rfl, rfl, Nat.le_of_ble_eq_true rfl, Nat.le_of_ble_eq_true rfl⟩ wd_1196 wd_16 ⟨0, 8, _, _, rfl, rfl, rfl⟩ [] (x_pickD [0, 1] 2 rfl rfl rfl) rfl rfl (Nat.le_of_ble_eq_true rfl) ⟨Nat.le_of_ble_eq_true rfl, Nat.le_of_ble_eq_true rfl⟩ dX6_readCommand_59 (x_goD (wss2 := [prO g b u27.2.1, cmO g x u27.2.2]) (stk2 := [.int u27.1]) rfl rfl ?_)
        refine x_if_eq (tgt := 69) C dX6_readCommand_62 (by decide) (fun h28 => ?_) (fun h28 => ?_)
        · have hf := x_t h28 hf
          refine x_iconst (v := 0) C dX6_readCommand_69 (by decide) ?_
          exact x_zret C hr rfl ⟨by cases hf; rfl, by cases hf; rfl⟩ dX6_readCommand_70
        · have hf := x_f h28 hf
          refine x_iconst (v := 1) C dX6_readCommand_65 (by decide) ?_
          refine x_goto (tgt := 70) C dX6_readCommand_66 (by decide) ?_
          exact x_zret C hr rfl ⟨by cases hf; rfl, by cases hf; rfl⟩ dX6_readCommand_70
  · have hf := x_f h2 hf
    refine x_aload_n C dX6_readCommand_9 rfl 0 rfl ?_
    refine x_ldcS (tx := "andle ") C (CX_str C ("CandleConcert$Program", 44, "andle ", 18) (by decide)) dX6_readCommand_10 ?_
    obtain ⟨u29, hu29, hf⟩ := x_b hf
    refine x_callV (n := 1) (As := [.ref (g.2.2 (300 + 18))]) (rest := []) C (c_X6_acceptAll g l b u1.2 18 hu29) ⟨⟨wd_1169, wd_1166, wd_30⟩, ⟨by decide, by decide, by decide⟩, rfl, rfl, Nat.le_of_ble_eq_true rfl, Nat.le_of_ble_eq_true rfl⟩ wd_1168 wd_11 ⟨0, 8, _, _, rfl, rfl, rfl⟩ [cmO g x w] (x_pickD [0, 1] 2 rfl rfl rfl) rfl rfl (Nat.le_of_ble_eq_true rfl) ⟨Nat.le_of_ble_eq_true rfl, Nat.le_of_ble_eq_true rfl⟩ dX6_readCommand_12 (x_goD (wss2 := [prO g b u29.2, cmO g x w]) (stk2 := [.int u29.1]) rfl rfl ?_)
    refine x_if_eq (tgt := 30) C dX6_readCommand_15 (by decide) (fun h30 => ?_) (fun h30 => ?_)
    · have hf := x_t h30 hf
      refine x_iconst (v := 0) C dX6_readCommand_30 (by decide) ?_
      exact x_zret C hr rfl ⟨by cases hf; rfl, by cases hf; rfl⟩ dX6_readCommand_31
    · have hf := x_f h30 hf
      refine x_aload_n C dX6_readCommand_18 rfl 0 rfl ?_
      refine x_aload_n C dX6_readCommand_19 rfl 1 rfl ?_
      obtain ⟨u31, hu31, hf⟩ := x_b hf
      refine x_callV (n := 1) (As := [.ref x]) (rest := []) C (c_X6_readNewCandle g l b x u29.2 w hu31) ⟨⟨wd_1175, wd_1172, wd_30⟩, ⟨by decide, by decide, by decide⟩, rfl, rfl, Nat.le_of_ble_eq_true rfl, Nat.le_of_ble_eq_true rfl⟩ wd_1174 wd_12 ⟨0, 8, _, _, rfl, rfl, rfl⟩ [] (x_pickD [0, 1] 2 rfl rfl rfl) rfl rfl (Nat.le_of_ble_eq_true rfl) ⟨Nat.le_of_ble_eq_true rfl, Nat.le_of_ble_eq_true rfl⟩ dX6_readCommand_20 (x_goD (wss2 := [prO g b u31.2.1, cmO g x u31.2.2]) (stk2 := [.int u31.1]) rfl rfl ?_)
      refine x_if_eq (tgt := 30) C dX6_readCommand_23 (by decide) (fun h32 => ?_) (fun h32 => ?_)
      · have hf := x_t h32 hf
        refine x_iconst (v := 0) C dX6_readCommand_30 (by decide) ?_
        exact x_zret C hr rfl ⟨by cases hf; rfl, by cases hf; rfl⟩ dX6_readCommand_31
      · have hf := x_f h32 hf
        refine x_iconst (v := 1) C dX6_readCommand_26 (by decide) ?_
        refine x_goto (tgt := 31) C dX6_readCommand_27 (by decide) ?_
        exact x_zret C hr rfl ⟨by cases hf; rfl, by cases hf; rfl⟩ dX6_readCommand_31
theorem wd_9 : Cond.selects yX6_readCommand.cls yX6_readCommand yX6_readCommand ∈ xTB := xTB_in 9 (by decide +kernel) (by decide +kernel)
theorem wd_980 : Cond.fieldLink RX6 17 "CandleConcert$Program" "commands" "[LCandleConcert$Command;" ∈ xTB := xTB_in 980 (by decide +kernel) (by decide +kernel)
theorem wd_983 : Cond.fieldLink RX6 25 "CandleConcert$Program" "commandCount" "I" ∈ xTB := xTB_in 983 (by decide +kernel) (by decide +kernel)
theorem wd_1157 : Cond.methodLink RX6 36 yX6_readCommand ∈ xTB := xTB_in 1157 (by decide +kernel) (by decide +kernel)
theorem wd_1159 : Cond.instanceMethod yX6_readCommand ∈ xTB := xTB_in 1159 (by decide +kernel) (by decide +kernel)
theorem wd_1160 : Cond.code yX6_readCommand cX6_readCommand 2 (some .boolean) ∈ xTB := xTB_in 1160 (by decide +kernel) (by decide +kernel)
theorem dX6_parse_0 : decode cX6_parse 0 = .ok (.aload_n 0, 1) := by decide +kernel
theorem dX6_parse_1 : decode cX6_parse 1 = .ok (.iconst 0, 1) := by decide +kernel
theorem dX6_parse_2 : decode cX6_parse 2 = .ok (.putfield 28, 3) := by decide +kernel
theorem dX6_parse_5 : decode cX6_parse 5 = .ok (.iconst 0, 1) := by decide +kernel
theorem dX6_parse_6 : decode cX6_parse 6 = .ok (.istore_n 1, 1) := by decide +kernel
theorem dX6_parse_7 : decode cX6_parse 7 = .ok (.iload_n 1, 1) := by decide +kernel
theorem dX6_parse_8 : decode cX6_parse 8 = .ok (.bipush 13, 2) := by decide +kernel
theorem dX6_parse_10 : decode cX6_parse 10 = .ok (.if_icmp .ge 57, 3) := by decide +kernel
theorem dX6_parse_13 : decode cX6_parse 13 = .ok (.aload_n 0, 1) := by decide +kernel
theorem dX6_parse_14 : decode cX6_parse 14 = .ok (.aload_n 0, 1) := by decide +kernel
theorem dX6_parse_15 : decode cX6_parse 15 = .ok (.getfield 17, 3) := by decide +kernel
theorem dX6_parse_18 : decode cX6_parse 18 = .ok (.iload_n 1, 1) := by decide +kernel
theorem dX6_parse_19 : decode cX6_parse 19 = .ok (.aaload, 1) := by decide +kernel
theorem dX6_parse_20 : decode cX6_parse 20 = .ok (.invokevirtual 36, 3) := by decide +kernel
theorem dX6_parse_23 : decode cX6_parse 23 = .ok (.ifCond .ne 5, 3) := by decide +kernel
theorem dX6_parse_26 : decode cX6_parse 26 = .ok (.iconst 0, 1) := by decide +kernel
theorem dX6_parse_27 : decode cX6_parse 27 = .ok (.ireturn, 1) := by decide +kernel
theorem dX6_parse_28 : decode cX6_parse 28 = .ok (.aload_n 0, 1) := by decide +kernel
theorem dX6_parse_29 : decode cX6_parse 29 = .ok (.iload_n 1, 1) := by decide +kernel
theorem dX6_parse_30 : decode cX6_parse 30 = .ok (.iconst 1, 1) := by decide +kernel
theorem dX6_parse_31 : decode cX6_parse 31 = .ok (.iadd, 1) := by decide +kernel
theorem dX6_parse_32 : decode cX6_parse 32 = .ok (.putfield 25, 3) := by decide +kernel
theorem dX6_parse_35 : decode cX6_parse 35 = .ok (.aload_n 0, 1) := by decide +kernel
theorem dX6_parse_36 : decode cX6_parse 36 = .ok (.bipush 59, 2) := by decide +kernel
theorem dX6_parse_38 : decode cX6_parse 38 = .ok (.invokevirtual 40, 3) := by decide +kernel
theorem dX6_parse_41 : decode cX6_parse 41 = .ok (.ifCond .ne 20, 3) := by decide +kernel
theorem dX6_parse_44 : decode cX6_parse 44 = .ok (.aload_n 0, 1) := by decide +kernel
theorem dX6_parse_45 : decode cX6_parse 45 = .ok (.getfield 28, 3) := by decide +kernel
theorem dX6_parse_48 : decode cX6_parse 48 = .ok (.aload_n 0, 1) := by decide +kernel
theorem dX6_parse_49 : decode cX6_parse 49 = .ok (.getfield 21, 3) := by decide +kernel
theorem dX6_parse_52 : decode cX6_parse 52 = .ok (.if_icmp .ne 7, 3) := by decide +kernel
theorem dX6_parse_55 : decode cX6_parse 55 = .ok (.iconst 1, 1) := by decide +kernel
theorem dX6_parse_56 : decode cX6_parse 56 = .ok (.goto 4, 3) := by decide +kernel
theorem dX6_parse_59 : decode cX6_parse 59 = .ok (.iconst 0, 1) := by decide +kernel
theorem dX6_parse_60 : decode cX6_parse 60 = .ok (.ireturn, 1) := by decide +kernel
theorem dX6_parse_61 : decode cX6_parse 61 = .ok (.iinc 1 1, 3) := by decide +kernel
theorem dX6_parse_64 : decode cX6_parse 64 = .ok (.goto (-57), 3) := by decide +kernel
theorem dX6_parse_67 : decode cX6_parse 67 = .ok (.iconst 0, 1) := by decide +kernel
theorem dX6_parse_68 : decode cX6_parse 68 = .ok (.ireturn, 1) := by decide +kernel
set_option maxHeartbeats 4000000 in
set_option maxRecDepth 100000 in
theorem c_X6_parse (g : xG) (l : Launch) (b : Nat → Nat) (q : PrT) (t : Unit) (ws : (Nat → CmT))  {u : Int32 × PrT × (Nat → CmT)} (hf : f_X6_parse q t ws = some u) : ConD g l yX6_parse cX6_parse 2 (some .boolean) ({ frames := 7, cells := 0, slots := 0, locals := 149 } : Room) [.ref (b 0)] [prO g b q, caW g b t, cmF g b ws] (some (.int u.1)) [prO g b u.2.1, caW g b t, cmF g b u.2.2] := by
  unfold f_X6_parse at hf
  refine Con_of [prO g b q, caW g b t, cmF g b ws] [(0, .ref (b 0))] rfl rfl (by decide) (Nat.le_of_ble_eq_true rfl) ?_
  intro pW eW sW mW argsW belowW methW c9 C hnm hr
  have C : CX g RX6 cX6_parse 2 _ pW sW mW argsW methW c9 := C
  have hL7 : ∀ (nW : Nat) (qL : PrT) (wsL : (Nat → CmT)) (x1 : Int32), f_X6_parse_7 nW qL t wsL x1 = some u → VW g (va_A ([prO g b q, caW g b t, cmF g b ws] : List va_W).flatten sW.heap.size) 2 pW l eW ({ frames := 7, cells := 0, slots := 0, locals := 149 } : Room) sW mW argsW belowW methW c9 0 0 (MQ belowW (xQc g ([prO g b q, caW g b t, cmF g b ws] : List va_W).flatten sW.heap.size (fun v9 w9 => v9 = some (.int u.1) ∧ w9 = ([prO g b u.2.1, caW g b t, cmF g b u.2.2] : List va_W).flatten)) argsW sW 0 0 (va_A ([prO g b q, caW g b t, cmF g b ws] : List va_W).flatten sW.heap.size)) [prO g b qL, caW g b t, cmF g b wsL] [(0, .ref (b 0)), (1, .int x1)] 7 [] := by
    intro nW
    induction nW with
    | zero => intro qL wsL x1 hf; rw [f_X6_parse_7] at hf; cases hf
    | succ nW ih =>
      intro qL wsL x1 hf
      rw [f_X6_parse_7] at hf
      refine x_iload_n C dX6_parse_7 rfl 1 rfl ?_
      refine x_bipush (v := 13) C dX6_parse_8 (by decide) ?_
      refine x_icmp_ge (tgt := 67) C dX6_parse_10 (by decide) (fun h1 => ?_) (fun h1 => ?_)
      · have hf := x_t h1 hf
        refine x_iconst (v := 0) C dX6_parse_67 (by decide) ?_
        exact x_zret C hr rfl ⟨by cases hf; rfl, by cases hf; rfl⟩ dX6_parse_68
      · have hf := x_f h1 hf
        refine x_aload_n C dX6_parse_13 rfl 0 rfl ?_
        refine x_aload_n C dX6_parse_14 rfl 0 rfl ?_
        refine x_get (ci := 8) (v := .ref (b 2)) (b := prO g b qL) C ixX6 rfl 1 (by decide) wd_980 (fun _ h => h) 0 rfl 0 (prO_at0 g b _) rfl dX6_parse_15 ?_
        refine x_iload_n C dX6_parse_18 rfl 1 rfl ?_
        obtain ⟨h2, hf⟩ := x_n hf
        refine x_aald (Cn := "CandleConcert$Command") (v := .ref (b (10 + x1.toNatClampNeg))) (b := caW g b t) C 5 rfl 1 rfl 0 (caW_at0 g b _) h2 rfl dX6_parse_19 ?_
        refine x_perm (wss' := [cmF g b wsL, prO g b qL, caW g b t]) (x_pick [2, 0, 1] 3 rfl rfl rfl) ?_
        refine x_perm (wss' := [cmO g (b (10 + x1.toNatClampNeg)) (wsL x1.toNatClampNeg), cmR g b x1.toNatClampNeg wsL, prO g b qL, caW g b t]) (cmF_split (x_lt h2)) ?_
        obtain ⟨u3, hu3, hf⟩ := x_b hf
        refine x_callV (n := 1) (As := [.ref (b (10 + x1.toNatClampNeg))]) (rest := []) C (c_X6_readCommand g l b (b (10 + x1.toNatClampNeg)) qL (wsL x1.toNatClampNeg) hu3) ⟨⟨wd_1160, wd_1157, wd_30⟩, ⟨by decide, by decide, by decide⟩, rfl, rfl, Nat.le_of_ble_eq_true rfl, Nat.le_of_ble_eq_true rfl⟩ wd_1159 wd_9 ⟨0, 8, _, _, rfl, rfl, rfl⟩ [cmR g b x1.toNatClampNeg wsL, caW g b t] (x_pickD [2, 0, 1, 3] 4 rfl rfl rfl) rfl rfl (Nat.le_of_ble_eq_true rfl) ⟨Nat.le_of_ble_eq_true rfl, Nat.le_of_ble_eq_true rfl⟩ dX6_parse_20 (x_goD (wss2 := [prO g b u3.2.1, cmO g (b (10 + x1.toNatClampNeg)) u3.2.2, cmR g b x1.toNatClampNeg wsL, caW g b t]) (stk2 := [.int u3.1]) rfl rfl ?_)
        refine x_if_ne (tgt := 28) C dX6_parse_23 (by decide) (fun h4 => ?_) (fun h4 => ?_)
        · have hf := x_f h4 hf
          refine x_aload_n C dX6_parse_28 rfl 0 rfl ?_
          refine x_iload_n C dX6_parse_29 rfl 1 rfl ?_
          refine x_iconst (v := 1) C dX6_parse_30 (by decide) ?_
          refine x_iadd C dX6_parse_31 ?_
          refine x_put (ci := 8) (ty := .int) (v := .int (x1 + (1 : Int32))) (b := prO g b u3.2.1) (b' := prO g b (u3.2.1.1, u3.2.1.2.1, x1 + (1 : Int32), u3.2.1.2.2.2)) (wss' := [prO g b (u3.2.1.1, u3.2.1.2.1, x1 + (1 : Int32), u3.2.1.2.2.2), cmO g (b (10 + x1.toNatClampNeg)) u3.2.2, cmR g b x1.toNatClampNeg wsL, caW g b t]) C ixX6 tyX6 tyX6_ok nmX6 rfl 3 (by decide) wd_983 (fun _ h => h) rfl (tyX6_ok 3 (by decide)) rfl rfl 0 rfl 0 (prO_at0 g b _) (Nat.le_of_ble_eq_true rfl) rfl rfl dX6_parse_32 ?_
          refine x_aload_n C dX6_parse_35 rfl 0 rfl ?_
          refine x_bipush (v := 59) C dX6_parse_36 (by decide) ?_
          obtain ⟨u5, hu5, hf⟩ := x_b hf
          refine x_callV (n := 1) (As := [.int (59 : Int32)]) (rest := []) C (c_X6_accept g l b (u3.2.1.1, u3.2.1.2.1, x1 + (1 : Int32), u3.2.1.2.2.2) (59 : Int32) hu5) ⟨⟨wd_1164, wd_1161, wd_30⟩, ⟨by decide, by decide, by decide⟩, rfl, rfl, Nat.le_of_ble_eq_true rfl, Nat.le_of_ble_eq_true rfl⟩ wd_1163 wd_10 ⟨0, 8, _, _, rfl, rfl, rfl⟩ [cmO g (b (10 + x1.toNatClampNeg)) u3.2.2, cmR g b x1.toNatClampNeg wsL, caW g b t] (x_pickD [0, 1, 2, 3] 4 rfl rfl rfl) rfl rfl (Nat.le_of_ble_eq_true rfl) ⟨Nat.le_of_ble_eq_true rfl, Nat.le_of_ble_eq_true rfl⟩ dX6_parse_38 (x_goD (wss2 := [prO g b u5.2, cmO g (b (10 + x1.toNatClampNeg)) u3.2.2, cmR g b x1.toNatClampNeg wsL, caW g b t]) (stk2 := [.int u5.1]) rfl rfl ?_)
          refine x_if_ne (tgt := 61) C dX6_parse_41 (by decide) (fun h6 => ?_) (fun h6 => ?_)
          · have hf := x_f h6 hf
            refine x_iinc (v := x1 + 1) (lv' := [(1, .int (x1 + 1)), (0, .ref (b 0))]) C dX6_parse_61 1 rfl rfl (by decide) rfl ?_
            refine x_goto (tgt := 7) C dX6_parse_64 (by decide) ?_
            refine x_perm (wss' := [cmO g (b (10 + x1.toNatClampNeg)) u3.2.2, cmR g b x1.toNatClampNeg wsL, prO g b u5.2, caW g b t]) (x_pick [1, 2, 0, 3] 4 rfl rfl rfl) ?_
            refine x_perm (wss' := [cmF g b (va_up wsL x1.toNatClampNeg u3.2.2), prO g b u5.2, caW g b t]) (cmF_join (x_lt h2)) ?_
            refine x_perm (wss' := [prO g b u5.2, caW g b t, cmF g b (va_up wsL x1.toNatClampNeg u3.2.2)]) (x_pick [1, 2, 0] 3 rfl rfl rfl) ?_
            refine x_locals (lv' := [(0, .ref (b 0)), (1, .int (x1 + 1))]) [1, 0] rfl ?_
            exact ih u5.2 (va_up wsL x1.toNatClampNeg u3.2.2) (x1 + 1) hf
          · have hf := x_t h6 hf
            refine x_aload_n C dX6_parse_44 rfl 0 rfl ?_
            refine x_get (ci := 8) (v := .int u5.2.2.2.2) (b := prO g b u5.2) C ixX6 rfl 4 (by decide) wd_985 (fun _ h => h) 0 rfl 0 (prO_at0 g b _) rfl dX6_parse_45 ?_
            refine x_aload_n C dX6_parse_48 rfl 0 rfl ?_
            refine x_get (ci := 8) (v := .int u5.2.2.1) (b := prO g b u5.2) C ixX6 rfl 2 (by decide) wd_982 (fun _ h => h) 0 rfl 0 (prO_at0 g b _) rfl dX6_parse_49 ?_
            refine x_icmp_ne (tgt := 59) C dX6_parse_52 (by decide) (fun h7 => ?_) (fun h7 => ?_)
            · have hf := x_f h7 hf
              refine x_iconst (v := 0) C dX6_parse_59 (by decide) ?_
              refine x_perm (wss' := [cmO g (b (10 + x1.toNatClampNeg)) u3.2.2, cmR g b x1.toNatClampNeg wsL, prO g b u5.2, caW g b t]) (x_pick [1, 2, 0, 3] 4 rfl rfl rfl) ?_
              refine x_perm (wss' := [cmF g b (va_up wsL x1.toNatClampNeg u3.2.2), prO g b u5.2, caW g b t]) (cmF_join (x_lt h2)) ?_
              refine x_perm (wss' := [prO g b u5.2, caW g b t, cmF g b (va_up wsL x1.toNatClampNeg u3.2.2)]) (x_pick [1, 2, 0] 3 rfl rfl rfl) ?_
              exact x_zret C hr rfl ⟨by cases hf; rfl, by cases hf; rfl⟩ dX6_parse_60
            · have hf := x_t h7 hf
              refine x_iconst (v := 1) C dX6_parse_55 (by decide) ?_
              refine x_goto (tgt := 60) C dX6_parse_56 (by decide) ?_
              refine x_perm (wss' := [cmO g (b (10 + x1.toNatClampNeg)) u3.2.2, cmR g b x1.toNatClampNeg wsL, prO g b u5.2, caW g b t]) (x_pick [1, 2, 0, 3] 4 rfl rfl rfl) ?_
              refine x_perm (wss' := [cmF g b (va_up wsL x1.toNatClampNeg u3.2.2), prO g b u5.2, caW g b t]) (cmF_join (x_lt h2)) ?_
              refine x_perm (wss' := [prO g b u5.2, caW g b t, cmF g b (va_up wsL x1.toNatClampNeg u3.2.2)]) (x_pick [1, 2, 0] 3 rfl rfl rfl) ?_
              exact x_zret C hr rfl ⟨by cases hf; rfl, by cases hf; rfl⟩ dX6_parse_60
        · have hf := x_t h4 hf
          refine x_iconst (v := 0) C dX6_parse_26 (by decide) ?_
          refine x_perm (wss' := [cmO g (b (10 + x1.toNatClampNeg)) u3.2.2, cmR g b x1.toNatClampNeg wsL, prO g b u3.2.1, caW g b t]) (x_pick [1, 2, 0, 3] 4 rfl rfl rfl) ?_
          refine x_perm (wss' := [cmF g b (va_up wsL x1.toNatClampNeg u3.2.2), prO g b u3.2.1, caW g b t]) (cmF_join (x_lt h2)) ?_
          refine x_perm (wss' := [prO g b u3.2.1, caW g b t, cmF g b (va_up wsL x1.toNatClampNeg u3.2.2)]) (x_pick [1, 2, 0] 3 rfl rfl rfl) ?_
          exact x_zret C hr rfl ⟨by cases hf; rfl, by cases hf; rfl⟩ dX6_parse_27
  refine x_aload_n C dX6_parse_0 rfl 0 rfl ?_
  refine x_iconst (v := 0) C dX6_parse_1 (by decide) ?_
  refine x_put (ci := 8) (ty := .int) (v := .int (0 : Int32)) (b := prO g b q) (b' := prO g b (q.1, q.2.1, q.2.2.1, (0 : Int32))) (wss' := [prO g b (q.1, q.2.1, q.2.2.1, (0 : Int32)), caW g b t, cmF g b ws]) C ixX6 tyX6 tyX6_ok nmX6 rfl 4 (by decide) wd_985 (fun _ h => h) rfl (tyX6_ok 4 (by decide)) rfl rfl 0 rfl 0 (prO_at0 g b _) (Nat.le_of_ble_eq_true rfl) rfl rfl dX6_parse_2 ?_
  refine x_iconst (v := 0) C dX6_parse_5 (by decide) ?_
  refine x_istore_n (lv' := [(1, .int (0 : Int32)), (0, .ref (b 0))]) C dX6_parse_6 rfl (by decide) rfl ?_
  refine x_locals (lv' := [(0, .ref (b 0)), (1, .int (0 : Int32))]) [1, 0] rfl ?_
  exact hL7 xFuel (q.1, q.2.1, q.2.2.1, (0 : Int32)) ws (0 : Int32) hf
theorem wd_162 : Cond.instanceMethod yX8_copyFrom ∈ xTB := xTB_in 162 (by decide +kernel) (by decide +kernel)
theorem wd_163 : Cond.selects yX8_copyFrom.cls yX8_copyFrom yX8_copyFrom ∈ xTB := xTB_in 163 (by decide +kernel) (by decide +kernel)
theorem wd_164 : Cond.code yX8_copyFrom cX8_copyFrom 2 none ∈ xTB := xTB_in 164 (by decide +kernel) (by decide +kernel)
theorem wd_653 : Cond.methodLink RX4 25 yX8_copyFrom ∈ xTB := xTB_in 653 (by decide +kernel) (by decide +kernel)
theorem wd_654 : Cond.methodLink RX4 29 Lib.Math.min.name ∈ xTB := xTB_in 654 (by decide +kernel) (by decide +kernel)
theorem wd_922 : Cond.fieldLink RX4 11 "CandleConcert$History" "ring" "[LCandleConcert$State;" ∈ xTB := xTB_in 922 (by decide +kernel) (by decide +kernel)
theorem wd_923 : Cond.fieldLink RX4 17 "CandleConcert$History" "next" "I" ∈ xTB := xTB_in 923 (by decide +kernel) (by decide +kernel)
theorem wd_924 : Cond.fieldLink RX4 21 "CandleConcert$History" "count" "I" ∈ xTB := xTB_in 924 (by decide +kernel) (by decide +kernel)
theorem dX4_remember_0 : decode cX4_remember 0 = .ok (.aload_n 0, 1) := by decide +kernel
theorem dX4_remember_1 : decode cX4_remember 1 = .ok (.getfield 11, 3) := by decide +kernel
theorem dX4_remember_4 : decode cX4_remember 4 = .ok (.aload_n 0, 1) := by decide +kernel
theorem dX4_remember_5 : decode cX4_remember 5 = .ok (.getfield 17, 3) := by decide +kernel
theorem dX4_remember_8 : decode cX4_remember 8 = .ok (.aaload, 1) := by decide +kernel
theorem dX4_remember_9 : decode cX4_remember 9 = .ok (.aload_n 1, 1) := by decide +kernel
theorem dX4_remember_10 : decode cX4_remember 10 = .ok (.invokevirtual 25, 3) := by decide +kernel
theorem dX4_remember_13 : decode cX4_remember 13 = .ok (.aload_n 0, 1) := by decide +kernel
theorem dX4_remember_14 : decode cX4_remember 14 = .ok (.aload_n 0, 1) := by decide +kernel
theorem dX4_remember_15 : decode cX4_remember 15 = .ok (.getfield 17, 3) := by decide +kernel
theorem dX4_remember_18 : decode cX4_remember 18 = .ok (.iconst 1, 1) := by decide +kernel
theorem dX4_remember_19 : decode cX4_remember 19 = .ok (.iadd, 1) := by decide +kernel
theorem dX4_remember_20 : decode cX4_remember 20 = .ok (.bipush 8, 2) := by decide +kernel
theorem dX4_remember_22 : decode cX4_remember 22 = .ok (.irem, 1) := by decide +kernel
theorem dX4_remember_23 : decode cX4_remember 23 = .ok (.putfield 17, 3) := by decide +kernel
theorem dX4_remember_26 : decode cX4_remember 26 = .ok (.aload_n 0, 1) := by decide +kernel
theorem dX4_remember_27 : decode cX4_remember 27 = .ok (.aload_n 0, 1) := by decide +kernel
theorem dX4_remember_28 : decode cX4_remember 28 = .ok (.getfield 21, 3) := by decide +kernel
theorem dX4_remember_31 : decode cX4_remember 31 = .ok (.iconst 1, 1) := by decide +kernel
theorem dX4_remember_32 : decode cX4_remember 32 = .ok (.iadd, 1) := by decide +kernel
theorem dX4_remember_33 : decode cX4_remember 33 = .ok (.bipush 8, 2) := by decide +kernel
theorem dX4_remember_35 : decode cX4_remember 35 = .ok (.invokestatic 29, 3) := by decide +kernel
theorem dX4_remember_38 : decode cX4_remember 38 = .ok (.putfield 21, 3) := by decide +kernel
theorem dX4_remember_41 : decode cX4_remember 41 = .ok (.return_, 1) := by decide +kernel
set_option maxHeartbeats 4000000 in
set_option maxRecDepth 100000 in
theorem c_X4_remember (g : xG) (l : Launch) (a : Nat → Nat) (k : Nat) (h : HiT) (t : Unit) (vs : (Nat → StS)) (cs : (Nat → CdT)) (es : (Nat → EvT)) (v : StS) (c : CdT) (e : EvT)  {u : HiT × (Nat → StS) × (Nat → CdT) × (Nat → EvT)} (hf : f_X4_remember h t vs cs es v c e = some u) : ConD g l yX4_remember cX4_remember 2 none ({ frames := 2, cells := 0, slots := 0, locals := 43 } : Room) [.ref (a 90), .ref (a (k + 0))] [hiO g a h, hrW g a t, stF g a vs, cdF g a cs, evF g a es, stO g a k v, cdW g a k c, evW g a k e] (none) [hiO g a u.1, hrW g a t, stF g a u.2.1, cdF g a u.2.2.1, evF g a u.2.2.2, stO g a k v, cdW g a k c, evW g a k e] := by
  unfold f_X4_remember at hf
  refine Con_of [hiO g a h, hrW g a t, stF g a vs, cdF g a cs, evF g a es, stO g a k v, cdW g a k c, evW g a k e] [(0, .ref (a 90)), (1, .ref (a (k + 0)))] rfl rfl (by decide) (Nat.le_of_ble_eq_true rfl) ?_
  intro pW eW sW mW argsW belowW methW c9 C hnm hr
  have C : CX g RX4 cX4_remember 2 _ pW sW mW argsW methW c9 := C
  refine x_aload_n C dX4_remember_0 rfl 0 rfl ?_
  refine x_get (ci := 7) (v := .ref (a 91)) (b := hiO g a h) C ixX4 rfl 0 (by decide) wd_922 (fun _ h => h) 0 rfl 0 (hiO_at0 g a _) rfl dX4_remember_1 ?_
  refine x_aload_n C dX4_remember_4 rfl 0 rfl ?_
  refine x_get (ci := 7) (v := .int h.1) (b := hiO g a h) C ixX4 rfl 1 (by decide) wd_923 (fun _ h => h) 0 rfl 0 (hiO_at0 g a _) rfl dX4_remember_5 ?_
  obtain ⟨h1, hf⟩ := x_n hf
  refine x_aald (Cn := "CandleConcert$State") (v := .ref (a (100 + 10 * h.1.toNatClampNeg + 0))) (b := hrW g a t) C 4 rfl 1 rfl 0 (hrW_at0 g a _) h1 rfl dX4_remember_8 ?_
  refine x_aload_n C dX4_remember_9 rfl 1 rfl ?_
  refine x_perm (wss' := [stF g a vs, hiO g a h, hrW g a t, cdF g a cs, evF g a es, stO g a k v, cdW g a k c, evW g a k e]) (x_pick [2, 0, 1, 3, 4, 5, 6, 7] 8 rfl rfl rfl) ?_
  refine x_perm (wss' := [stO g a (100 + 10 * h.1.toNatClampNeg) (vs h.1.toNatClampNeg), stR g a h.1.toNatClampNeg vs, hiO g a h, hrW g a t, cdF g a cs, evF g a es, stO g a k v, cdW g a k c, evW g a k e]) (stF_split (x_lt h1)) ?_
  refine x_perm (wss' := [cdF g a cs, stO g a (100 + 10 * h.1.toNatClampNeg) (vs h.1.toNatClampNeg), stR g a h.1.toNatClampNeg vs, hiO g a h, hrW g a t, evF g a es, stO g a k v, cdW g a k c, evW g a k e]) (x_pick [4, 0, 1, 2, 3, 5, 6, 7, 8] 9 rfl rfl rfl) ?_
  refine x_perm (wss' := [cdW g a (100 + 10 * h.1.toNatClampNeg) (cs h.1.toNatClampNeg), cdR g a h.1.toNatClampNeg cs, stO g a (100 + 10 * h.1.toNatClampNeg) (vs h.1.toNatClampNeg), stR g a h.1.toNatClampNeg vs, hiO g a h, hrW g a t, evF g a es, stO g a k v, cdW g a k c, evW g a k e]) (cdF_split (x_lt h1)) ?_
  refine x_perm (wss' := [evF g a es, cdW g a (100 + 10 * h.1.toNatClampNeg) (cs h.1.toNatClampNeg), cdR g a h.1.toNatClampNeg cs, stO g a (100 + 10 * h.1.toNatClampNeg) (vs h.1.toNatClampNeg), stR g a h.1.toNatClampNeg vs, hiO g a h, hrW g a t, stO g a k v, cdW g a k c, evW g a k e]) (x_pick [6, 0, 1, 2, 3, 4, 5, 7, 8, 9] 10 rfl rfl rfl) ?_
  refine x_perm (wss' := [evW g a (100 + 10 * h.1.toNatClampNeg) (es h.1.toNatClampNeg), evR g a h.1.toNatClampNeg es, cdW g a (100 + 10 * h.1.toNatClampNeg) (cs h.1.toNatClampNeg), cdR g a h.1.toNatClampNeg cs, stO g a (100 + 10 * h.1.toNatClampNeg) (vs h.1.toNatClampNeg), stR g a h.1.toNatClampNeg vs, hiO g a h, hrW g a t, stO g a k v, cdW g a k c, evW g a k e]) (evF_split (x_lt h1)) ?_
  obtain ⟨u2, hu2, hf⟩ := x_b hf
  refine x_callV (n := 1) (As := [.ref (a (k + 0))]) (rest := []) C (c_X8_copyFrom g l a (100 + 10 * h.1.toNatClampNeg) k (vs h.1.toNatClampNeg) (cs h.1.toNatClampNeg) (es h.1.toNatClampNeg) v c e hu2) ⟨⟨wd_164, wd_653, wd_26⟩, ⟨by decide, by decide, by decide⟩, rfl, rfl, Nat.le_of_ble_eq_true rfl, Nat.le_of_ble_eq_true rfl⟩ wd_162 wd_163 ⟨0, 9, _, _, rfl, rfl, rfl⟩ [evR g a h.1.toNatClampNeg es, cdR g a h.1.toNatClampNeg cs, stR g a h.1.toNatClampNeg vs, hiO g a h, hrW g a t] (x_pickD [4, 2, 0, 8, 9, 10, 1, 3, 5, 6, 7] 11 rfl rfl rfl) rfl rfl (Nat.le_of_ble_eq_true rfl) ⟨Nat.le_of_ble_eq_true rfl, Nat.le_of_ble_eq_true rfl⟩ dX4_remember_10 (x_goD (wss2 := [stO g a (100 + 10 * h.1.toNatClampNeg) u2.1, cdW g a (100 + 10 * h.1.toNatClampNeg) u2.2.1, evW g a (100 + 10 * h.1.toNatClampNeg) u2.2.2, stO g a k v, cdW g a k c, evW g a k e, evR g a h.1.toNatClampNeg es, cdR g a h.1.toNatClampNeg cs, stR g a h.1.toNatClampNeg vs, hiO g a h, hrW g a t]) (stk2 := []) rfl rfl ?_)
  refine x_aload_n C dX4_remember_13 rfl 0 rfl ?_
  refine x_aload_n C dX4_remember_14 rfl 0 rfl ?_
  refine x_get (ci := 7) (v := .int h.1) (b := hiO g a h) C ixX4 rfl 1 (by decide) wd_923 (fun _ h => h) 9 rfl 0 (hiO_at0 g a _) rfl dX4_remember_15 ?_
  refine x_iconst (v := 1) C dX4_remember_18 (by decide) ?_
  refine x_iadd C dX4_remember_19 ?_
  refine x_bipush (v := 8) C dX4_remember_20 (by decide) ?_
  obtain ⟨h3, hf⟩ := x_n hf
  refine x_irem C dX4_remember_22 h3 ?_
  refine x_put (ci := 7) (ty := .int) (v := .int ((h.1 + (1 : Int32)) - (h.1 + (1 : Int32)) / (8 : Int32) * (8 : Int32))) (b := hiO g a h) (b' := hiO g a ((h.1 + (1 : Int32)) - (h.1 + (1 : Int32)) / (8 : Int32) * (8 : Int32), h.2)) (wss' := [stO g a (100 + 10 * h.1.toNatClampNeg) u2.1, cdW g a (100 + 10 * h.1.toNatClampNeg) u2.2.1, evW g a (100 + 10 * h.1.toNatClampNeg) u2.2.2, stO g a k v, cdW g a k c, evW g a k e, evR g a h.1.toNatClampNeg es, cdR g a h.1.toNatClampNeg cs, stR g a h.1.toNatClampNeg vs, hiO g a ((h.1 + (1 : Int32)) - (h.1 + (1 : Int32)) / (8 : Int32) * (8 : Int32), h.2), hrW g a t]) C ixX4 tyX4 tyX4_ok nmX4 rfl 1 (by decide) wd_923 (fun _ h => h) rfl (tyX4_ok 1 (by decide)) rfl rfl 9 rfl 0 (hiO_at0 g a _) (Nat.le_of_ble_eq_true rfl) rfl rfl dX4_remember_23 ?_
  refine x_aload_n C dX4_remember_26 rfl 0 rfl ?_
  refine x_aload_n C dX4_remember_27 rfl 0 rfl ?_
  refine x_get (ci := 7) (v := .int h.2) (b := hiO g a ((h.1 + (1 : Int32)) - (h.1 + (1 : Int32)) / (8 : Int32) * (8 : Int32), h.2)) C ixX4 rfl 2 (by decide) wd_924 (fun _ h => h) 9 rfl 0 (hiO_at0 g a _) rfl dX4_remember_28 ?_
  refine x_iconst (v := 1) C dX4_remember_31 (by decide) ?_
  refine x_iadd C dX4_remember_32 ?_
  refine x_bipush (v := 8) C dX4_remember_33 (by decide) ?_
  refine x_min C wd_654 wd_218 wd_49 wd_219 ⟨Nat.le_of_ble_eq_true rfl, Nat.le_of_ble_eq_true rfl⟩ ⟨Nat.le_of_ble_eq_true rfl, Nat.le_of_ble_eq_true rfl⟩ dX4_remember_35 ?_
  refine x_put (ci := 7) (ty := .int) (v := .int (jmin (h.2 + (1 : Int32)) (8 : Int32))) (b := hiO g a ((h.1 + (1 : Int32)) - (h.1 + (1 : Int32)) / (8 : Int32) * (8 : Int32), h.2)) (b' := hiO g a ((h.1 + (1 : Int32)) - (h.1 + (1 : Int32)) / (8 : Int32) * (8 : Int32), jmin (h.2 + (1 : Int32)) (8 : Int32))) (wss' := [stO g a (100 + 10 * h.1.toNatClampNeg) u2.1, cdW g a (100 + 10 * h.1.toNatClampNeg) u2.2.1, evW g a (100 + 10 * h.1.toNatClampNeg) u2.2.2, stO g a k v, cdW g a k c, evW g a k e, evR g a h.1.toNatClampNeg es, cdR g a h.1.toNatClampNeg cs, stR g a h.1.toNatClampNeg vs, hiO g a ((h.1 + (1 : Int32)) - (h.1 + (1 : Int32)) / (8 : Int32) * (8 : Int32), jmin (h.2 + (1 : Int32)) (8 : Int32)), hrW g a t]) C ixX4 tyX4 tyX4_ok nmX4 rfl 2 (by decide) wd_924 (fun _ h => h) rfl (tyX4_ok 2 (by decide)) rfl rfl 9 rfl 0 (hiO_at0 g a _) (Nat.le_of_ble_eq_true rfl) rfl rfl dX4_remember_38 ?_
  refine x_perm (wss' := [evW g a (100 + 10 * h.1.toNatClampNeg) u2.2.2, evR g a h.1.toNatClampNeg es, stO g a (100 + 10 * h.1.toNatClampNeg) u2.1, cdW g a (100 + 10 * h.1.toNatClampNeg) u2.2.1, stO g a k v, cdW g a k c, evW g a k e, cdR g a h.1.toNatClampNeg cs, stR g a h.1.toNatClampNeg vs, hiO g a ((h.1 + (1 : Int32)) - (h.1 + (1 : Int32)) / (8 : Int32) * (8 : Int32), jmin (h.2 + (1 : Int32)) (8 : Int32)), hrW g a t]) (x_pick [2, 6, 0, 1, 3, 4, 5, 7, 8, 9, 10] 11 rfl rfl rfl) ?_
  refine x_perm (wss' := [evF g a (va_up es h.1.toNatClampNeg u2.2.2), stO g a (100 + 10 * h.1.toNatClampNeg) u2.1, cdW g a (100 + 10 * h.1.toNatClampNeg) u2.2.1, stO g a k v, cdW g a k c, evW g a k e, cdR g a h.1.toNatClampNeg cs, stR g a h.1.toNatClampNeg vs, hiO g a ((h.1 + (1 : Int32)) - (h.1 + (1 : Int32)) / (8 : Int32) * (8 : Int32), jmin (h.2 + (1 : Int32)) (8 : Int32)), hrW g a t]) (evF_join (x_lt h1)) ?_
  refine x_perm (wss' := [cdW g a (100 + 10 * h.1.toNatClampNeg) u2.2.1, cdR g a h.1.toNatClampNeg cs, evF g a (va_up es h.1.toNatClampNeg u2.2.2), stO g a (100 + 10 * h.1.toNatClampNeg) u2.1, stO g a k v, cdW g a k c, evW g a k e, stR g a h.1.toNatClampNeg vs, hiO g a ((h.1 + (1 : Int32)) - (h.1 + (1 : Int32)) / (8 : Int32) * (8 : Int32), jmin (h.2 + (1 : Int32)) (8 : Int32)), hrW g a t]) (x_pick [2, 6, 0, 1, 3, 4, 5, 7, 8, 9] 10 rfl rfl rfl) ?_
  refine x_perm (wss' := [cdF g a (va_up cs h.1.toNatClampNeg u2.2.1), evF g a (va_up es h.1.toNatClampNeg u2.2.2), stO g a (100 + 10 * h.1.toNatClampNeg) u2.1, stO g a k v, cdW g a k c, evW g a k e, stR g a h.1.toNatClampNeg vs, hiO g a ((h.1 + (1 : Int32)) - (h.1 + (1 : Int32)) / (8 : Int32) * (8 : Int32), jmin (h.2 + (1 : Int32)) (8 : Int32)), hrW g a t]) (cdF_join (x_lt h1)) ?_
  refine x_perm (wss' := [stO g a (100 + 10 * h.1.toNatClampNeg) u2.1, stR g a h.1.toNatClampNeg vs, cdF g a (va_up cs h.1.toNatClampNeg u2.2.1), evF g a (va_up es h.1.toNatClampNeg u2.2.2), stO g a k v, cdW g a k c, evW g a k e, hiO g a ((h.1 + (1 : Int32)) - (h.1 + (1 : Int32)) / (8 : Int32) * (8 : Int32), jmin (h.2 + (1 : Int32)) (8 : Int32)), hrW g a t]) (x_pick [2, 6, 0, 1, 3, 4, 5, 7, 8] 9 rfl rfl rfl) ?_
  refine x_perm (wss' := [stF g a (va_up vs h.1.toNatClampNeg u2.1), cdF g a (va_up cs h.1.toNatClampNeg u2.2.1), evF g a (va_up es h.1.toNatClampNeg u2.2.2), stO g a k v, cdW g a k c, evW g a k e, hiO g a ((h.1 + (1 : Int32)) - (h.1 + (1 : Int32)) / (8 : Int32) * (8 : Int32), jmin (h.2 + (1 : Int32)) (8 : Int32)), hrW g a t]) (stF_join (x_lt h1)) ?_
  refine x_perm (wss' := [hiO g a ((h.1 + (1 : Int32)) - (h.1 + (1 : Int32)) / (8 : Int32) * (8 : Int32), jmin (h.2 + (1 : Int32)) (8 : Int32)), hrW g a t, stF g a (va_up vs h.1.toNatClampNeg u2.1), cdF g a (va_up cs h.1.toNatClampNeg u2.2.1), evF g a (va_up es h.1.toNatClampNeg u2.2.2), stO g a k v, cdW g a k c, evW g a k e]) (x_pick [6, 7, 0, 1, 2, 3, 4, 5] 8 rfl rfl rfl) ?_
  exact x_vret C hr ⟨by cases hf; rfl, by cases hf; rfl⟩ dX4_remember_41
theorem dX4_takeBack_0 : decode cX4_takeBack 0 = .ok (.aload_n 0, 1) := by decide +kernel
theorem dX4_takeBack_1 : decode cX4_takeBack 1 = .ok (.getfield 21, 3) := by decide +kernel
theorem dX4_takeBack_4 : decode cX4_takeBack 4 = .ok (.ifCond .ne 4, 3) := by decide +kernel
theorem dX4_takeBack_7 : decode cX4_takeBack 7 = .ok (.return_, 1) := by decide +kernel
theorem dX4_takeBack_8 : decode cX4_takeBack 8 = .ok (.aload_n 0, 1) := by decide +kernel
theorem dX4_takeBack_9 : decode cX4_takeBack 9 = .ok (.aload_n 0, 1) := by decide +kernel
theorem dX4_takeBack_10 : decode cX4_takeBack 10 = .ok (.getfield 17, 3) := by decide +kernel
theorem dX4_takeBack_13 : decode cX4_takeBack 13 = .ok (.bipush 8, 2) := by decide +kernel
theorem dX4_takeBack_15 : decode cX4_takeBack 15 = .ok (.iadd, 1) := by decide +kernel
theorem dX4_takeBack_16 : decode cX4_takeBack 16 = .ok (.iconst 1, 1) := by decide +kernel
theorem dX4_takeBack_17 : decode cX4_takeBack 17 = .ok (.isub, 1) := by decide +kernel
theorem dX4_takeBack_18 : decode cX4_takeBack 18 = .ok (.bipush 8, 2) := by decide +kernel
theorem dX4_takeBack_20 : decode cX4_takeBack 20 = .ok (.irem, 1) := by decide +kernel
theorem dX4_takeBack_21 : decode cX4_takeBack 21 = .ok (.putfield 17, 3) := by decide +kernel
theorem dX4_takeBack_24 : decode cX4_takeBack 24 = .ok (.aload_n 0, 1) := by decide +kernel
theorem dX4_takeBack_25 : decode cX4_takeBack 25 = .ok (.dup, 1) := by decide +kernel
theorem dX4_takeBack_26 : decode cX4_takeBack 26 = .ok (.getfield 21, 3) := by decide +kernel
theorem dX4_takeBack_29 : decode cX4_takeBack 29 = .ok (.iconst 1, 1) := by decide +kernel
theorem dX4_takeBack_30 : decode cX4_takeBack 30 = .ok (.isub, 1) := by decide +kernel
theorem dX4_takeBack_31 : decode cX4_takeBack 31 = .ok (.putfield 21, 3) := by decide +kernel
theorem dX4_takeBack_34 : decode cX4_takeBack 34 = .ok (.aload_n 1, 1) := by decide +kernel
theorem dX4_takeBack_35 : decode cX4_takeBack 35 = .ok (.aload_n 0, 1) := by decide +kernel
theorem dX4_takeBack_36 : decode cX4_takeBack 36 = .ok (.getfield 11, 3) := by decide +kernel
theorem dX4_takeBack_39 : decode cX4_takeBack 39 = .ok (.aload_n 0, 1) := by decide +kernel
theorem dX4_takeBack_40 : decode cX4_takeBack 40 = .ok (.getfield 17, 3) := by decide +kernel
theorem dX4_takeBack_43 : decode cX4_takeBack 43 = .ok (.aaload, 1) := by decide +kernel
theorem dX4_takeBack_44 : decode cX4_takeBack 44 = .ok (.invokevirtual 25, 3) := by decide +kernel
theorem dX4_takeBack_47 : decode cX4_takeBack 47 = .ok (.return_, 1) := by decide +kernel
set_option maxHeartbeats 4000000 in
set_option maxRecDepth 100000 in
theorem c_X4_takeBack (g : xG) (l : Launch) (a : Nat → Nat) (k : Nat) (h : HiT) (t : Unit) (vs : (Nat → StS)) (cs : (Nat → CdT)) (es : (Nat → EvT)) (v : StS) (c : CdT) (e : EvT)  {u : HiT × StS × CdT × EvT} (hf : f_X4_takeBack h t vs cs es v c e = some u) : ConD g l yX4_takeBack cX4_takeBack 2 none ({ frames := 2, cells := 0, slots := 0, locals := 43 } : Room) [.ref (a 90), .ref (a (k + 0))] [hiO g a h, hrW g a t, stF g a vs, cdF g a cs, evF g a es, stO g a k v, cdW g a k c, evW g a k e] (none) [hiO g a u.1, hrW g a t, stF g a vs, cdF g a cs, evF g a es, stO g a k u.2.1, cdW g a k u.2.2.1, evW g a k u.2.2.2] := by
  unfold f_X4_takeBack at hf
  refine Con_of [hiO g a h, hrW g a t, stF g a vs, cdF g a cs, evF g a es, stO g a k v, cdW g a k c, evW g a k e] [(0, .ref (a 90)), (1, .ref (a (k + 0)))] rfl rfl (by decide) (Nat.le_of_ble_eq_true rfl) ?_
  intro pW eW sW mW argsW belowW methW c9 C hnm hr
  have C : CX g RX4 cX4_takeBack 2 _ pW sW mW argsW methW c9 := C
  refine x_aload_n C dX4_takeBack_0 rfl 0 rfl ?_
  refine x_get (ci := 7) (v := .int h.2) (b := hiO g a h) C ixX4 rfl 2 (by decide) wd_924 (fun _ h => h) 0 rfl 0 (hiO_at0 g a _) rfl dX4_takeBack_1 ?_
  refine x_if_ne (tgt := 8) C dX4_takeBack_4 (by decide) (fun h1 => ?_) (fun h1 => ?_)
  · have hf := x_f h1 hf
    refine x_aload_n C dX4_takeBack_8 rfl 0 rfl ?_
    refine x_aload_n C dX4_takeBack_9 rfl 0 rfl ?_
    refine x_get (ci := 7) (v := .int h.1) (b := hiO g a h) C ixX4 rfl 1 (by decide) wd_923 (fun _ h => h) 0 rfl 0 (hiO_at0 g a _) rfl dX4_takeBack_10 ?_
    refine x_bipush (v := 8) C dX4_takeBack_13 (by decide) ?_
    refine x_iadd C dX4_takeBack_15 ?_
    refine x_iconst (v := 1) C dX4_takeBack_16 (by decide) ?_
    refine x_isub C dX4_takeBack_17 ?_
    refine x_bipush (v := 8) C dX4_takeBack_18 (by decide) ?_
    obtain ⟨h2, hf⟩ := x_n hf
    refine x_irem C dX4_takeBack_20 h2 ?_
    refine x_put (ci := 7) (ty := .int) (v := .int (((h.1 + (8 : Int32)) - (1 : Int32)) - ((h.1 + (8 : Int32)) - (1 : Int32)) / (8 : Int32) * (8 : Int32))) (b := hiO g a h) (b' := hiO g a (((h.1 + (8 : Int32)) - (1 : Int32)) - ((h.1 + (8 : Int32)) - (1 : Int32)) / (8 : Int32) * (8 : Int32), h.2)) (wss' := [hiO g a (((h.1 + (8 : Int32)) - (1 : Int32)) - ((h.1 + (8 : Int32)) - (1 : Int32)) / (8 : Int32) * (8 : Int32), h.2), hrW g a t, stF g a vs, cdF g a cs, evF g a es, stO g a k v, cdW g a k c, evW g a k e]) C ixX4 tyX4 tyX4_ok nmX4 rfl 1 (by decide) wd_923 (fun _ h => h) rfl (tyX4_ok 1 (by decide)) rfl rfl 0 rfl 0 (hiO_at0 g a _) (Nat.le_of_ble_eq_true rfl) rfl rfl dX4_takeBack_21 ?_
    refine x_aload_n C dX4_takeBack_24 rfl 0 rfl ?_
    refine x_dup C dX4_takeBack_25 rfl ?_
    refine x_get (ci := 7) (v := .int h.2) (b := hiO g a (((h.1 + (8 : Int32)) - (1 : Int32)) - ((h.1 + (8 : Int32)) - (1 : Int32)) / (8 : Int32) * (8 : Int32), h.2)) C ixX4 rfl 2 (by decide) wd_924 (fun _ h => h) 0 rfl 0 (hiO_at0 g a _) rfl dX4_takeBack_26 ?_
    refine x_iconst (v := 1) C dX4_takeBack_29 (by decide) ?_
    refine x_isub C dX4_takeBack_30 ?_
    refine x_put (ci := 7) (ty := .int) (v := .int (h.2 - (1 : Int32))) (b := hiO g a (((h.1 + (8 : Int32)) - (1 : Int32)) - ((h.1 + (8 : Int32)) - (1 : Int32)) / (8 : Int32) * (8 : Int32), h.2)) (b' := hiO g a (((h.1 + (8 : Int32)) - (1 : Int32)) - ((h.1 + (8 : Int32)) - (1 : Int32)) / (8 : Int32) * (8 : Int32), h.2 - (1 : Int32))) (wss' := [hiO g a (((h.1 + (8 : Int32)) - (1 : Int32)) - ((h.1 + (8 : Int32)) - (1 : Int32)) / (8 : Int32) * (8 : Int32), h.2 - (1 : Int32)), hrW g a t, stF g a vs, cdF g a cs, evF g a es, stO g a k v, cdW g a k c, evW g a k e]) C ixX4 tyX4 tyX4_ok nmX4 rfl 2 (by decide) wd_924 (fun _ h => h) rfl (tyX4_ok 2 (by decide)) rfl rfl 0 rfl 0 (hiO_at0 g a _) (Nat.le_of_ble_eq_true rfl) rfl rfl dX4_takeBack_31 ?_
    refine x_aload_n C dX4_takeBack_34 rfl 1 rfl ?_
    refine x_aload_n C dX4_takeBack_35 rfl 0 rfl ?_
    refine x_get (ci := 7) (v := .ref (a 91)) (b := hiO g a (((h.1 + (8 : Int32)) - (1 : Int32)) - ((h.1 + (8 : Int32)) - (1 : Int32)) / (8 : Int32) * (8 : Int32), h.2 - (1 : Int32))) C ixX4 rfl 0 (by decide) wd_922 (fun _ h => h) 0 rfl 0 (hiO_at0 g a _) rfl dX4_takeBack_36 ?_
    refine x_aload_n C dX4_takeBack_39 rfl 0 rfl ?_
    refine x_get (ci := 7) (v := .int (((h.1 + (8 : Int32)) - (1 : Int32)) - ((h.1 + (8 : Int32)) - (1 : Int32)) / (8 : Int32) * (8 : Int32))) (b := hiO g a (((h.1 + (8 : Int32)) - (1 : Int32)) - ((h.1 + (8 : Int32)) - (1 : Int32)) / (8 : Int32) * (8 : Int32), h.2 - (1 : Int32))) C ixX4 rfl 1 (by decide) wd_923 (fun _ h => h) 0 rfl 0 (hiO_at0 g a _) rfl dX4_takeBack_40 ?_
    obtain ⟨h3, hf⟩ := x_n hf
    refine x_aald (Cn := "CandleConcert$State") (v := .ref (a (100 + 10 * (((h.1 + (8 : Int32)) - (1 : Int32)) - ((h.1 + (8 : Int32)) - (1 : Int32)) / (8 : Int32) * (8 : Int32)).toNatClampNeg + 0))) (b := hrW g a t) C 4 rfl 1 rfl 0 (hrW_at0 g a _) h3 rfl dX4_takeBack_43 ?_
    refine x_perm (wss' := [stF g a vs, hiO g a (((h.1 + (8 : Int32)) - (1 : Int32)) - ((h.1 + (8 : Int32)) - (1 : Int32)) / (8 : Int32) * (8 : Int32), h.2 - (1 : Int32)), hrW g a t, cdF g a cs, evF g a es, stO g a k v, cdW g a k c, evW g a k e]) (x_pick [2, 0, 1, 3, 4, 5, 6, 7] 8 rfl rfl rfl) ?_
    refine x_perm (wss' := [stO g a (100 + 10 * (((h.1 + (8 : Int32)) - (1 : Int32)) - ((h.1 + (8 : Int32)) - (1 : Int32)) / (8 : Int32) * (8 : Int32)).toNatClampNeg) (vs ((((h.1 + (8 : Int32)) - (1 : Int32)) - ((h.1 + (8 : Int32)) - (1 : Int32)) / (8 : Int32) * (8 : Int32)).toNatClampNeg)), stR g a ((((h.1 + (8 : Int32)) - (1 : Int32)) - ((h.1 + (8 : Int32)) - (1 : Int32)) / (8 : Int32) * (8 : Int32)).toNatClampNeg) vs, hiO g a (((h.1 + (8 : Int32)) - (1 : Int32)) - ((h.1 + (8 : Int32)) - (1 : Int32)) / (8 : Int32) * (8 : Int32), h.2 - (1 : Int32)), hrW g a t, cdF g a cs, evF g a es, stO g a k v, cdW g a k c, evW g a k e]) (stF_split (x_lt h3)) ?_
    refine x_perm (wss' := [cdF g a cs, stO g a (100 + 10 * (((h.1 + (8 : Int32)) - (1 : Int32)) - ((h.1 + (8 : Int32)) - (1 : Int32)) / (8 : Int32) * (8 : Int32)).toNatClampNeg) (vs ((((h.1 + (8 : Int32)) - (1 : Int32)) - ((h.1 + (8 : Int32)) - (1 : Int32)) / (8 : Int32) * (8 : Int32)).toNatClampNeg)), stR g a ((((h.1 + (8 : Int32)) - (1 : Int32)) - ((h.1 + (8 : Int32)) - (1 : Int32)) / (8 : Int32) * (8 : Int32)).toNatClampNeg) vs, hiO g a (((h.1 + (8 : Int32)) - (1 : Int32)) - ((h.1 + (8 : Int32)) - (1 : Int32)) / (8 : Int32) * (8 : Int32), h.2 - (1 : Int32)), hrW g a t, evF g a es, stO g a k v, cdW g a k c, evW g a k e]) (x_pick [4, 0, 1, 2, 3, 5, 6, 7, 8] 9 rfl rfl rfl) ?_
    refine x_perm (wss' := [cdW g a (100 + 10 * (((h.1 + (8 : Int32)) - (1 : Int32)) - ((h.1 + (8 : Int32)) - (1 : Int32)) / (8 : Int32) * (8 : Int32)).toNatClampNeg) (cs ((((h.1 + (8 : Int32)) - (1 : Int32)) - ((h.1 + (8 : Int32)) - (1 : Int32)) / (8 : Int32) * (8 : Int32)).toNatClampNeg)), cdR g a ((((h.1 + (8 : Int32)) - (1 : Int32)) - ((h.1 + (8 : Int32)) - (1 : Int32)) / (8 : Int32) * (8 : Int32)).toNatClampNeg) cs, stO g a (100 + 10 * (((h.1 + (8 : Int32)) - (1 : Int32)) - ((h.1 + (8 : Int32)) - (1 : Int32)) / (8 : Int32) * (8 : Int32)).toNatClampNeg) (vs ((((h.1 + (8 : Int32)) - (1 : Int32)) - ((h.1 + (8 : Int32)) - (1 : Int32)) / (8 : Int32) * (8 : Int32)).toNatClampNeg)), stR g a ((((h.1 + (8 : Int32)) - (1 : Int32)) - ((h.1 + (8 : Int32)) - (1 : Int32)) / (8 : Int32) * (8 : Int32)).toNatClampNeg) vs, hiO g a (((h.1 + (8 : Int32)) - (1 : Int32)) - ((h.1 + (8 : Int32)) - (1 : Int32)) / (8 : Int32) * (8 : Int32), h.2 - (1 : Int32)), hrW g a t, evF g a es, stO g a k v, cdW g a k c, evW g a k e]) (cdF_split (x_lt h3)) ?_
    refine x_perm (wss' := [evF g a es, cdW g a (100 + 10 * (((h.1 + (8 : Int32)) - (1 : Int32)) - ((h.1 + (8 : Int32)) - (1 : Int32)) / (8 : Int32) * (8 : Int32)).toNatClampNeg) (cs ((((h.1 + (8 : Int32)) - (1 : Int32)) - ((h.1 + (8 : Int32)) - (1 : Int32)) / (8 : Int32) * (8 : Int32)).toNatClampNeg)), cdR g a ((((h.1 + (8 : Int32)) - (1 : Int32)) - ((h.1 + (8 : Int32)) - (1 : Int32)) / (8 : Int32) * (8 : Int32)).toNatClampNeg) cs, stO g a (100 + 10 * (((h.1 + (8 : Int32)) - (1 : Int32)) - ((h.1 + (8 : Int32)) - (1 : Int32)) / (8 : Int32) * (8 : Int32)).toNatClampNeg) (vs ((((h.1 + (8 : Int32)) - (1 : Int32)) - ((h.1 + (8 : Int32)) - (1 : Int32)) / (8 : Int32) * (8 : Int32)).toNatClampNeg)), stR g a ((((h.1 + (8 : Int32)) - (1 : Int32)) - ((h.1 + (8 : Int32)) - (1 : Int32)) / (8 : Int32) * (8 : Int32)).toNatClampNeg) vs, hiO g a (((h.1 + (8 : Int32)) - (1 : Int32)) - ((h.1 + (8 : Int32)) - (1 : Int32)) / (8 : Int32) * (8 : Int32), h.2 - (1 : Int32)), hrW g a t, stO g a k v, cdW g a k c, evW g a k e]) (x_pick [6, 0, 1, 2, 3, 4, 5, 7, 8, 9] 10 rfl rfl rfl) ?_
    refine x_perm (wss' := [evW g a (100 + 10 * (((h.1 + (8 : Int32)) - (1 : Int32)) - ((h.1 + (8 : Int32)) - (1 : Int32)) / (8 : Int32) * (8 : Int32)).toNatClampNeg) (es ((((h.1 + (8 : Int32)) - (1 : Int32)) - ((h.1 + (8 : Int32)) - (1 : Int32)) / (8 : Int32) * (8 : Int32)).toNatClampNeg)), evR g a ((((h.1 + (8 : Int32)) - (1 : Int32)) - ((h.1 + (8 : Int32)) - (1 : Int32)) / (8 : Int32) * (8 : Int32)).toNatClampNeg) es, cdW g a (100 + 10 * (((h.1 + (8 : Int32)) - (1 : Int32)) - ((h.1 + (8 : Int32)) - (1 : Int32)) / (8 : Int32) * (8 : Int32)).toNatClampNeg) (cs ((((h.1 + (8 : Int32)) - (1 : Int32)) - ((h.1 + (8 : Int32)) - (1 : Int32)) / (8 : Int32) * (8 : Int32)).toNatClampNeg)), cdR g a ((((h.1 + (8 : Int32)) - (1 : Int32)) - ((h.1 + (8 : Int32)) - (1 : Int32)) / (8 : Int32) * (8 : Int32)).toNatClampNeg) cs, stO g a (100 + 10 * (((h.1 + (8 : Int32)) - (1 : Int32)) - ((h.1 + (8 : Int32)) - (1 : Int32)) / (8 : Int32) * (8 : Int32)).toNatClampNeg) (vs ((((h.1 + (8 : Int32)) - (1 : Int32)) - ((h.1 + (8 : Int32)) - (1 : Int32)) / (8 : Int32) * (8 : Int32)).toNatClampNeg)), stR g a ((((h.1 + (8 : Int32)) - (1 : Int32)) - ((h.1 + (8 : Int32)) - (1 : Int32)) / (8 : Int32) * (8 : Int32)).toNatClampNeg) vs, hiO g a (((h.1 + (8 : Int32)) - (1 : Int32)) - ((h.1 + (8 : Int32)) - (1 : Int32)) / (8 : Int32) * (8 : Int32), h.2 - (1 : Int32)), hrW g a t, stO g a k v, cdW g a k c, evW g a k e]) (evF_split (x_lt h3)) ?_
    obtain ⟨u4, hu4, hf⟩ := x_b hf
    refine x_callV (n := 1) (As := [.ref (a (100 + 10 * (((h.1 + (8 : Int32)) - (1 : Int32)) - ((h.1 + (8 : Int32)) - (1 : Int32)) / (8 : Int32) * (8 : Int32)).toNatClampNeg + 0))]) (rest := []) C (c_X8_copyFrom g l a k (100 + 10 * (((h.1 + (8 : Int32)) - (1 : Int32)) - ((h.1 + (8 : Int32)) - (1 : Int32)) / (8 : Int32) * (8 : Int32)).toNatClampNeg) v c e (vs ((((h.1 + (8 : Int32)) - (1 : Int32)) - ((h.1 + (8 : Int32)) - (1 : Int32)) / (8 : Int32) * (8 : Int32)).toNatClampNeg)) (cs ((((h.1 + (8 : Int32)) - (1 : Int32)) - ((h.1 + (8 : Int32)) - (1 : Int32)) / (8 : Int32) * (8 : Int32)).toNatClampNeg)) (es ((((h.1 + (8 : Int32)) - (1 : Int32)) - ((h.1 + (8 : Int32)) - (1 : Int32)) / (8 : Int32) * (8 : Int32)).toNatClampNeg)) hu4) ⟨⟨wd_164, wd_653, wd_26⟩, ⟨by decide, by decide, by decide⟩, rfl, rfl, Nat.le_of_ble_eq_true rfl, Nat.le_of_ble_eq_true rfl⟩ wd_162 wd_163 ⟨0, 9, _, _, rfl, rfl, rfl⟩ [evR g a ((((h.1 + (8 : Int32)) - (1 : Int32)) - ((h.1 + (8 : Int32)) - (1 : Int32)) / (8 : Int32) * (8 : Int32)).toNatClampNeg) es, cdR g a ((((h.1 + (8 : Int32)) - (1 : Int32)) - ((h.1 + (8 : Int32)) - (1 : Int32)) / (8 : Int32) * (8 : Int32)).toNatClampNeg) cs, stR g a ((((h.1 + (8 : Int32)) - (1 : Int32)) - ((h.1 + (8 : Int32)) - (1 : Int32)) / (8 : Int32) * (8 : Int32)).toNatClampNeg) vs, hiO g a (((h.1 + (8 : Int32)) - (1 : Int32)) - ((h.1 + (8 : Int32)) - (1 : Int32)) / (8 : Int32) * (8 : Int32), h.2 - (1 : Int32)), hrW g a t] (x_pickD [8, 9, 10, 4, 2, 0, 1, 3, 5, 6, 7] 11 rfl rfl rfl) rfl rfl (Nat.le_of_ble_eq_true rfl) ⟨Nat.le_of_ble_eq_true rfl, Nat.le_of_ble_eq_true rfl⟩ dX4_takeBack_44 (x_goD (wss2 := [stO g a k u4.1, cdW g a k u4.2.1, evW g a k u4.2.2, stO g a (100 + 10 * (((h.1 + (8 : Int32)) - (1 : Int32)) - ((h.1 + (8 : Int32)) - (1 : Int32)) / (8 : Int32) * (8 : Int32)).toNatClampNeg) (vs ((((h.1 + (8 : Int32)) - (1 : Int32)) - ((h.1 + (8 : Int32)) - (1 : Int32)) / (8 : Int32) * (8 : Int32)).toNatClampNeg)), cdW g a (100 + 10 * (((h.1 + (8 : Int32)) - (1 : Int32)) - ((h.1 + (8 : Int32)) - (1 : Int32)) / (8 : Int32) * (8 : Int32)).toNatClampNeg) (cs ((((h.1 + (8 : Int32)) - (1 : Int32)) - ((h.1 + (8 : Int32)) - (1 : Int32)) / (8 : Int32) * (8 : Int32)).toNatClampNeg)), evW g a (100 + 10 * (((h.1 + (8 : Int32)) - (1 : Int32)) - ((h.1 + (8 : Int32)) - (1 : Int32)) / (8 : Int32) * (8 : Int32)).toNatClampNeg) (es ((((h.1 + (8 : Int32)) - (1 : Int32)) - ((h.1 + (8 : Int32)) - (1 : Int32)) / (8 : Int32) * (8 : Int32)).toNatClampNeg)), evR g a ((((h.1 + (8 : Int32)) - (1 : Int32)) - ((h.1 + (8 : Int32)) - (1 : Int32)) / (8 : Int32) * (8 : Int32)).toNatClampNeg) es, cdR g a ((((h.1 + (8 : Int32)) - (1 : Int32)) - ((h.1 + (8 : Int32)) - (1 : Int32)) / (8 : Int32) * (8 : Int32)).toNatClampNeg) cs, stR g a ((((h.1 + (8 : Int32)) - (1 : Int32)) - ((h.1 + (8 : Int32)) - (1 : Int32)) / (8 : Int32) * (8 : Int32)).toNatClampNeg) vs, hiO g a (((h.1 + (8 : Int32)) - (1 : Int32)) - ((h.1 + (8 : Int32)) - (1 : Int32)) / (8 : Int32) * (8 : Int32), h.2 - (1 : Int32)), hrW g a t]) (stk2 := []) rfl rfl ?_)
    refine x_perm (wss' := [evW g a (100 + 10 * (((h.1 + (8 : Int32)) - (1 : Int32)) - ((h.1 + (8 : Int32)) - (1 : Int32)) / (8 : Int32) * (8 : Int32)).toNatClampNeg) (es ((((h.1 + (8 : Int32)) - (1 : Int32)) - ((h.1 + (8 : Int32)) - (1 : Int32)) / (8 : Int32) * (8 : Int32)).toNatClampNeg)), evR g a ((((h.1 + (8 : Int32)) - (1 : Int32)) - ((h.1 + (8 : Int32)) - (1 : Int32)) / (8 : Int32) * (8 : Int32)).toNatClampNeg) es, stO g a k u4.1, cdW g a k u4.2.1, evW g a k u4.2.2, stO g a (100 + 10 * (((h.1 + (8 : Int32)) - (1 : Int32)) - ((h.1 + (8 : Int32)) - (1 : Int32)) / (8 : Int32) * (8 : Int32)).toNatClampNeg) (vs ((((h.1 + (8 : Int32)) - (1 : Int32)) - ((h.1 + (8 : Int32)) - (1 : Int32)) / (8 : Int32) * (8 : Int32)).toNatClampNeg)), cdW g a (100 + 10 * (((h.1 + (8 : Int32)) - (1 : Int32)) - ((h.1 + (8 : Int32)) - (1 : Int32)) / (8 : Int32) * (8 : Int32)).toNatClampNeg) (cs ((((h.1 + (8 : Int32)) - (1 : Int32)) - ((h.1 + (8 : Int32)) - (1 : Int32)) / (8 : Int32) * (8 : Int32)).toNatClampNeg)), cdR g a ((((h.1 + (8 : Int32)) - (1 : Int32)) - ((h.1 + (8 : Int32)) - (1 : Int32)) / (8 : Int32) * (8 : Int32)).toNatClampNeg) cs, stR g a ((((h.1 + (8 : Int32)) - (1 : Int32)) - ((h.1 + (8 : Int32)) - (1 : Int32)) / (8 : Int32) * (8 : Int32)).toNatClampNeg) vs, hiO g a (((h.1 + (8 : Int32)) - (1 : Int32)) - ((h.1 + (8 : Int32)) - (1 : Int32)) / (8 : Int32) * (8 : Int32), h.2 - (1 : Int32)), hrW g a t]) (x_pick [5, 6, 0, 1, 2, 3, 4, 7, 8, 9, 10] 11 rfl rfl rfl) ?_
    refine x_perm (wss' := [evF g a es, stO g a k u4.1, cdW g a k u4.2.1, evW g a k u4.2.2, stO g a (100 + 10 * (((h.1 + (8 : Int32)) - (1 : Int32)) - ((h.1 + (8 : Int32)) - (1 : Int32)) / (8 : Int32) * (8 : Int32)).toNatClampNeg) (vs ((((h.1 + (8 : Int32)) - (1 : Int32)) - ((h.1 + (8 : Int32)) - (1 : Int32)) / (8 : Int32) * (8 : Int32)).toNatClampNeg)), cdW g a (100 + 10 * (((h.1 + (8 : Int32)) - (1 : Int32)) - ((h.1 + (8 : Int32)) - (1 : Int32)) / (8 : Int32) * (8 : Int32)).toNatClampNeg) (cs ((((h.1 + (8 : Int32)) - (1 : Int32)) - ((h.1 + (8 : Int32)) - (1 : Int32)) / (8 : Int32) * (8 : Int32)).toNatClampNeg)), cdR g a ((((h.1 + (8 : Int32)) - (1 : Int32)) - ((h.1 + (8 : Int32)) - (1 : Int32)) / (8 : Int32) * (8 : Int32)).toNatClampNeg) cs, stR g a ((((h.1 + (8 : Int32)) - (1 : Int32)) - ((h.1 + (8 : Int32)) - (1 : Int32)) / (8 : Int32) * (8 : Int32)).toNatClampNeg) vs, hiO g a (((h.1 + (8 : Int32)) - (1 : Int32)) - ((h.1 + (8 : Int32)) - (1 : Int32)) / (8 : Int32) * (8 : Int32), h.2 - (1 : Int32)), hrW g a t]) (evF_back (x_lt h3)) ?_
    refine x_perm (wss' := [cdW g a (100 + 10 * (((h.1 + (8 : Int32)) - (1 : Int32)) - ((h.1 + (8 : Int32)) - (1 : Int32)) / (8 : Int32) * (8 : Int32)).toNatClampNeg) (cs ((((h.1 + (8 : Int32)) - (1 : Int32)) - ((h.1 + (8 : Int32)) - (1 : Int32)) / (8 : Int32) * (8 : Int32)).toNatClampNeg)), cdR g a ((((h.1 + (8 : Int32)) - (1 : Int32)) - ((h.1 + (8 : Int32)) - (1 : Int32)) / (8 : Int32) * (8 : Int32)).toNatClampNeg) cs, evF g a es, stO g a k u4.1, cdW g a k u4.2.1, evW g a k u4.2.2, stO g a (100 + 10 * (((h.1 + (8 : Int32)) - (1 : Int32)) - ((h.1 + (8 : Int32)) - (1 : Int32)) / (8 : Int32) * (8 : Int32)).toNatClampNeg) (vs ((((h.1 + (8 : Int32)) - (1 : Int32)) - ((h.1 + (8 : Int32)) - (1 : Int32)) / (8 : Int32) * (8 : Int32)).toNatClampNeg)), stR g a ((((h.1 + (8 : Int32)) - (1 : Int32)) - ((h.1 + (8 : Int32)) - (1 : Int32)) / (8 : Int32) * (8 : Int32)).toNatClampNeg) vs, hiO g a (((h.1 + (8 : Int32)) - (1 : Int32)) - ((h.1 + (8 : Int32)) - (1 : Int32)) / (8 : Int32) * (8 : Int32), h.2 - (1 : Int32)), hrW g a t]) (x_pick [5, 6, 0, 1, 2, 3, 4, 7, 8, 9] 10 rfl rfl rfl) ?_
    refine x_perm (wss' := [cdF g a cs, evF g a es, stO g a k u4.1, cdW g a k u4.2.1, evW g a k u4.2.2, stO g a (100 + 10 * (((h.1 + (8 : Int32)) - (1 : Int32)) - ((h.1 + (8 : Int32)) - (1 : Int32)) / (8 : Int32) * (8 : Int32)).toNatClampNeg) (vs ((((h.1 + (8 : Int32)) - (1 : Int32)) - ((h.1 + (8 : Int32)) - (1 : Int32)) / (8 : Int32) * (8 : Int32)).toNatClampNeg)), stR g a ((((h.1 + (8 : Int32)) - (1 : Int32)) - ((h.1 + (8 : Int32)) - (1 : Int32)) / (8 : Int32) * (8 : Int32)).toNatClampNeg) vs, hiO g a (((h.1 + (8 : Int32)) - (1 : Int32)) - ((h.1 + (8 : Int32)) - (1 : Int32)) / (8 : Int32) * (8 : Int32), h.2 - (1 : Int32)), hrW g a t]) (cdF_back (x_lt h3)) ?_
    refine x_perm (wss' := [stO g a (100 + 10 * (((h.1 + (8 : Int32)) - (1 : Int32)) - ((h.1 + (8 : Int32)) - (1 : Int32)) / (8 : Int32) * (8 : Int32)).toNatClampNeg) (vs ((((h.1 + (8 : Int32)) - (1 : Int32)) - ((h.1 + (8 : Int32)) - (1 : Int32)) / (8 : Int32) * (8 : Int32)).toNatClampNeg)), stR g a ((((h.1 + (8 : Int32)) - (1 : Int32)) - ((h.1 + (8 : Int32)) - (1 : Int32)) / (8 : Int32) * (8 : Int32)).toNatClampNeg) vs, cdF g a cs, evF g a es, stO g a k u4.1, cdW g a k u4.2.1, evW g a k u4.2.2, hiO g a (((h.1 + (8 : Int32)) - (1 : Int32)) - ((h.1 + (8 : Int32)) - (1 : Int32)) / (8 : Int32) * (8 : Int32), h.2 - (1 : Int32)), hrW g a t]) (x_pick [5, 6, 0, 1, 2, 3, 4, 7, 8] 9 rfl rfl rfl) ?_
    refine x_perm (wss' := [stF g a vs, cdF g a cs, evF g a es, stO g a k u4.1, cdW g a k u4.2.1, evW g a k u4.2.2, hiO g a (((h.1 + (8 : Int32)) - (1 : Int32)) - ((h.1 + (8 : Int32)) - (1 : Int32)) / (8 : Int32) * (8 : Int32), h.2 - (1 : Int32)), hrW g a t]) (stF_back (x_lt h3)) ?_
    refine x_perm (wss' := [hiO g a (((h.1 + (8 : Int32)) - (1 : Int32)) - ((h.1 + (8 : Int32)) - (1 : Int32)) / (8 : Int32) * (8 : Int32), h.2 - (1 : Int32)), hrW g a t, stF g a vs, cdF g a cs, evF g a es, stO g a k u4.1, cdW g a k u4.2.1, evW g a k u4.2.2]) (x_pick [6, 7, 0, 1, 2, 3, 4, 5] 8 rfl rfl rfl) ?_
    exact x_vret C hr ⟨by cases hf; rfl, by cases hf; rfl⟩ dX4_takeBack_47
  · have hf := x_t h1 hf
    exact x_vret C hr ⟨by cases hf; rfl, by cases hf; rfl⟩ dX4_takeBack_7
theorem dX4_forget_0 : decode cX4_forget 0 = .ok (.aload_n 0, 1) := by decide +kernel
theorem dX4_forget_1 : decode cX4_forget 1 = .ok (.iconst 0, 1) := by decide +kernel
theorem dX4_forget_2 : decode cX4_forget 2 = .ok (.putfield 21, 3) := by decide +kernel
theorem dX4_forget_5 : decode cX4_forget 5 = .ok (.return_, 1) := by decide +kernel
set_option maxHeartbeats 4000000 in
set_option maxRecDepth 100000 in
theorem c_X4_forget (g : xG) (l : Launch) (a : Nat → Nat) (h : HiT)  {u : HiT} (hf : f_X4_forget h = some u) : ConD g l yX4_forget cX4_forget 1 none ({ frames := 0, cells := 0, slots := 0, locals := 0 } : Room) [.ref (a 90)] [hiO g a h] (none) [hiO g a u] := by
  unfold f_X4_forget at hf
  refine Con_of [hiO g a h] [(0, .ref (a 90))] rfl rfl (by decide) (Nat.le_of_ble_eq_true rfl) ?_
  intro pW eW sW mW argsW belowW methW c9 C hnm hr
  have C : CX g RX4 cX4_forget 1 _ pW sW mW argsW methW c9 := C
  refine x_aload_n C dX4_forget_0 rfl 0 rfl ?_
  refine x_iconst (v := 0) C dX4_forget_1 (by decide) ?_
  refine x_put (ci := 7) (ty := .int) (v := .int (0 : Int32)) (b := hiO g a h) (b' := hiO g a (h.1, (0 : Int32))) (wss' := [hiO g a (h.1, (0 : Int32))]) C ixX4 tyX4 tyX4_ok nmX4 rfl 2 (by decide) wd_924 (fun _ h => h) rfl (tyX4_ok 2 (by decide)) rfl rfl 0 rfl 0 (hiO_at0 g a _) (Nat.le_of_ble_eq_true rfl) rfl rfl dX4_forget_2 ?_
  exact x_vret C hr ⟨by cases hf; rfl, by cases hf; rfl⟩ dX4_forget_5
