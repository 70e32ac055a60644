/-! STRINGBUILDER as long as it does not grow: pure functions and contracts, by program (wip/p50/build_sb.py) -/
def sbO (g : xG) (y : Nat) (z : Nat) (k : SbT) : va_W := [(y, .inr (1, [.ref z, .int 0, .int k.1, .int k.2]))]
theorem sbO_at0 (g : xG) (y : Nat) (z : Nat) (k : SbT) : (sbO g y z k)[0]? = some (y, .inr (1, [.ref z, .int 0, .int k.1, .int k.2])) := rfl
def baW (g : xG) (z : Nat) (n : Nat) (f : (Nat → Int32)) : va_W := [(z, .inl (g.2.1 3, n, .inl f))]
theorem baW_at0 (g : xG) (z : Nat) (n : Nat) (f : (Nat → Int32)) : (baW g z n f)[0]? = some (z, .inl (g.2.1 3, n, .inl f)) := rfl
theorem wd_259 : Cond.fieldLink RJ5 79 "java/lang/AbstractStringBuilder" "count" "I" ∈ xTB := xTB_in 259 (by decide +kernel) (by decide +kernel)
theorem dJ5_length_8abf5_0 : decode cJ5_length_8abf5 0 = .ok (.aload_n 0, 1) := by decide +kernel
theorem dJ5_length_8abf5_1 : decode cJ5_length_8abf5 1 = .ok (.getfield 79, 3) := by decide +kernel
theorem dJ5_length_8abf5_4 : decode cJ5_length_8abf5 4 = .ok (.ireturn, 1) := by decide +kernel
set_option maxHeartbeats 4000000 in
set_option maxRecDepth 100000 in
theorem c_J5_length_8abf5 (g : xG) (l : Launch) (y : Nat) (z : Nat) (k : SbT)  {u : Int32} (hf : f_J5_length_8abf5 k = some u) : ConD g l yJ5_length_8abf5 cJ5_length_8abf5 1 (some .int) ({ frames := 0, cells := 0, slots := 0, locals := 0 } : Room) [.ref y] [sbO g y z k] (some (.int u)) [sbO g y z k] := by
  unfold f_J5_length_8abf5 at hf
  refine Con_of [sbO g y z k] [(0, .ref y)] rfl rfl (by decide) (Nat.le_of_ble_eq_true rfl) ?_
  intro pW eW sW mW argsW belowW methW c9 C hnm hr
  have C : CX g RJ5 cJ5_length_8abf5 1 _ pW sW mW argsW methW c9 := C
  refine x_aload_n C dJ5_length_8abf5_0 rfl 0 rfl ?_
  refine x_get (ci := 1) (v := .int k.2) (b := sbO g y z k) C ixJ4 rfl 3 (by decide) wd_259 (fun _ h => h) 0 rfl 0 (sbO_at0 g y z _) rfl dJ5_length_8abf5_1 ?_
  exact x_iret C hr ⟨by cases hf; rfl, by cases hf; rfl⟩ dJ5_length_8abf5_4
theorem wd_291 : Cond.methodLink RJ8 194 Lib.Math.max.name ∈ xTB := xTB_in 291 (by decide +kernel) (by decide +kernel)
theorem wd_292 : Cond.static Lib.Math.max.name ∈ xTB := xTB_in 292 (by decide +kernel) (by decide +kernel)
theorem wd_293 : Cond.code Lib.Math.max.name Lib.Math.max.code 2 (some .int) ∈ xTB := xTB_in 293 (by decide +kernel) (by decide +kernel)
theorem wd_294 : Cond.constant RJ8 200 2147483639 ∈ xTB := xTB_in 294 (by decide +kernel) (by decide +kernel)
theorem dJ8_newLength_cabcc_0 : decode cJ8_newLength_cabcc 0 = .ok (.iload_n 0, 1) := by decide +kernel
theorem dJ8_newLength_cabcc_1 : decode cJ8_newLength_cabcc 1 = .ok (.iload_n 1, 1) := by decide +kernel
theorem dJ8_newLength_cabcc_2 : decode cJ8_newLength_cabcc 2 = .ok (.iload_n 2, 1) := by decide +kernel
theorem dJ8_newLength_cabcc_3 : decode cJ8_newLength_cabcc 3 = .ok (.invokestatic 194, 3) := by decide +kernel
theorem dJ8_newLength_cabcc_6 : decode cJ8_newLength_cabcc 6 = .ok (.iadd, 1) := by decide +kernel
theorem dJ8_newLength_cabcc_7 : decode cJ8_newLength_cabcc 7 = .ok (.istore_n 3, 1) := by decide +kernel
theorem dJ8_newLength_cabcc_8 : decode cJ8_newLength_cabcc 8 = .ok (.iconst 0, 1) := by decide +kernel
theorem dJ8_newLength_cabcc_9 : decode cJ8_newLength_cabcc 9 = .ok (.iload_n 3, 1) := by decide +kernel
theorem dJ8_newLength_cabcc_10 : decode cJ8_newLength_cabcc 10 = .ok (.if_icmp .ge 11, 3) := by decide +kernel
theorem dJ8_newLength_cabcc_13 : decode cJ8_newLength_cabcc 13 = .ok (.iload_n 3, 1) := by decide +kernel
theorem dJ8_newLength_cabcc_14 : decode cJ8_newLength_cabcc 14 = .ok (.ldc 200, 2) := by decide +kernel
theorem dJ8_newLength_cabcc_16 : decode cJ8_newLength_cabcc 16 = .ok (.if_icmp .gt 5, 3) := by decide +kernel
theorem dJ8_newLength_cabcc_19 : decode cJ8_newLength_cabcc 19 = .ok (.iload_n 3, 1) := by decide +kernel
theorem dJ8_newLength_cabcc_20 : decode cJ8_newLength_cabcc 20 = .ok (.ireturn, 1) := by decide +kernel
theorem dJ8_newLength_cabcc_21 : decode cJ8_newLength_cabcc 21 = .ok (.iload_n 0, 1) := by decide +kernel
theorem dJ8_newLength_cabcc_22 : decode cJ8_newLength_cabcc 22 = .ok (.iload_n 1, 1) := by decide +kernel
theorem dJ8_newLength_cabcc_23 : decode cJ8_newLength_cabcc 23 = .ok (.invokestatic 201, 3) := by decide +kernel
theorem dJ8_newLength_cabcc_26 : decode cJ8_newLength_cabcc 26 = .ok (.ireturn, 1) := by decide +kernel
set_option maxHeartbeats 4000000 in
set_option maxRecDepth 100000 in
theorem c_J8_newLength_cabcc (g : xG) (l : Launch)   (x0 : Int32) (x1 : Int32) (x2 : Int32) {u : Int32} (hf : f_J8_newLength_cabcc x0 x1 x2 = some u) : ConD g l yJ8_newLength_cabcc cJ8_newLength_cabcc 4 (some .int) ({ frames := 1, cells := 0, slots := 0, locals := 21 } : Room) [.int x0, .int x1, .int x2] [] (some (.int u)) [] := by
  unfold f_J8_newLength_cabcc at hf
  refine Con_of [] [(0, .int x0), (1, .int x1), (2, .int x2)] rfl rfl (by decide) (Nat.le_of_ble_eq_true rfl) ?_
  intro pW eW sW mW argsW belowW methW c9 C hnm hr
  have C : CX g RJ8 cJ8_newLength_cabcc 4 _ pW sW mW argsW methW c9 := C
  refine x_iload_n C dJ8_newLength_cabcc_0 rfl 0 rfl ?_
  refine x_iload_n C dJ8_newLength_cabcc_1 rfl 1 rfl ?_
  refine x_iload_n C dJ8_newLength_cabcc_2 rfl 2 rfl ?_
  refine x_max C wd_291 wd_292 wd_49 wd_293 ⟨Nat.le_of_ble_eq_true rfl, Nat.le_of_ble_eq_true rfl⟩ ⟨Nat.le_of_ble_eq_true rfl, Nat.le_of_ble_eq_true rfl⟩ dJ8_newLength_cabcc_3 ?_
  refine x_iadd C dJ8_newLength_cabcc_6 ?_
  refine x_istore_n (lv' := [(3, .int (x0 + (jmax x1 x2))), (0, .int x0), (1, .int x1), (2, .int x2)]) C dJ8_newLength_cabcc_7 rfl (by decide) rfl ?_
  refine x_iconst (v := 0) C dJ8_newLength_cabcc_8 (by decide) ?_
  refine x_iload_n C dJ8_newLength_cabcc_9 rfl 0 rfl ?_
  refine x_icmp_ge (tgt := 21) C dJ8_newLength_cabcc_10 (by decide) (fun h1 => ?_) (fun h1 => ?_)
  · have hf := x_t h1 hf
    cases hf
  · have hf := x_f h1 hf
    refine x_iload_n C dJ8_newLength_cabcc_13 rfl 0 rfl ?_
    refine x_ldc C wd_294 dJ8_newLength_cabcc_14 ?_
    refine x_icmp_gt (tgt := 21) C dJ8_newLength_cabcc_16 (by decide) (fun h2 => ?_) (fun h2 => ?_)
    · have hf := x_t h2 hf
      cases hf
    · have hf := x_f h2 hf
      refine x_iload_n C dJ8_newLength_cabcc_19 rfl 0 rfl ?_
      exact x_iret C hr ⟨by cases hf; rfl, by cases hf; rfl⟩ dJ8_newLength_cabcc_20
theorem wd_52 : Cond.initialized RJ8 ∈ xTB := xTB_in 52 (by decide +kernel) (by decide +kernel)
theorem wd_255 : Cond.fieldLink RJ5 15 "java/lang/AbstractStringBuilder" "value" "[B" ∈ xTB := xTB_in 255 (by decide +kernel) (by decide +kernel)
theorem wd_256 : Cond.fieldLink RJ5 22 "java/lang/AbstractStringBuilder" "coder" "B" ∈ xTB := xTB_in 256 (by decide +kernel) (by decide +kernel)
theorem wd_288 : Cond.methodLink RJ5 114 yJ8_newLength_cabcc ∈ xTB := xTB_in 288 (by decide +kernel) (by decide +kernel)
theorem wd_289 : Cond.static yJ8_newLength_cabcc ∈ xTB := xTB_in 289 (by decide +kernel) (by decide +kernel)
theorem wd_290 : Cond.code yJ8_newLength_cabcc cJ8_newLength_cabcc 4 (some .int) ∈ xTB := xTB_in 290 (by decide +kernel) (by decide +kernel)
theorem wd_298 : Cond.constant RJ5 39 2147483647 ∈ xTB := xTB_in 298 (by decide +kernel) (by decide +kernel)
theorem dJ5_newCapacity_0f7a4_0 : decode cJ5_newCapacity_0f7a4 0 = .ok (.aload_n 0, 1) := by decide +kernel
theorem dJ5_newCapacity_0f7a4_1 : decode cJ5_newCapacity_0f7a4 1 = .ok (.getfield 15, 3) := by decide +kernel
theorem dJ5_newCapacity_0f7a4_4 : decode cJ5_newCapacity_0f7a4 4 = .ok (.arraylength, 1) := by decide +kernel
theorem dJ5_newCapacity_0f7a4_5 : decode cJ5_newCapacity_0f7a4 5 = .ok (.istore_n 2, 1) := by decide +kernel
theorem dJ5_newCapacity_0f7a4_6 : decode cJ5_newCapacity_0f7a4 6 = .ok (.iload_n 1, 1) := by decide +kernel
theorem dJ5_newCapacity_0f7a4_7 : decode cJ5_newCapacity_0f7a4 7 = .ok (.aload_n 0, 1) := by decide +kernel
theorem dJ5_newCapacity_0f7a4_8 : decode cJ5_newCapacity_0f7a4 8 = .ok (.getfield 22, 3) := by decide +kernel
theorem dJ5_newCapacity_0f7a4_11 : decode cJ5_newCapacity_0f7a4 11 = .ok (.ishl, 1) := by decide +kernel
theorem dJ5_newCapacity_0f7a4_12 : decode cJ5_newCapacity_0f7a4 12 = .ok (.istore_n 3, 1) := by decide +kernel
theorem dJ5_newCapacity_0f7a4_13 : decode cJ5_newCapacity_0f7a4 13 = .ok (.iload_n 3, 1) := by decide +kernel
theorem dJ5_newCapacity_0f7a4_14 : decode cJ5_newCapacity_0f7a4 14 = .ok (.iload_n 2, 1) := by decide +kernel
theorem dJ5_newCapacity_0f7a4_15 : decode cJ5_newCapacity_0f7a4 15 = .ok (.isub, 1) := by decide +kernel
theorem dJ5_newCapacity_0f7a4_16 : decode cJ5_newCapacity_0f7a4 16 = .ok (.istore 4, 2) := by decide +kernel
theorem dJ5_newCapacity_0f7a4_18 : decode cJ5_newCapacity_0f7a4 18 = .ok (.iload_n 2, 1) := by decide +kernel
theorem dJ5_newCapacity_0f7a4_19 : decode cJ5_newCapacity_0f7a4 19 = .ok (.iload 4, 2) := by decide +kernel
theorem dJ5_newCapacity_0f7a4_21 : decode cJ5_newCapacity_0f7a4 21 = .ok (.iload_n 2, 1) := by decide +kernel
theorem dJ5_newCapacity_0f7a4_22 : decode cJ5_newCapacity_0f7a4 22 = .ok (.iconst 2, 1) := by decide +kernel
theorem dJ5_newCapacity_0f7a4_23 : decode cJ5_newCapacity_0f7a4 23 = .ok (.aload_n 0, 1) := by decide +kernel
theorem dJ5_newCapacity_0f7a4_24 : decode cJ5_newCapacity_0f7a4 24 = .ok (.getfield 22, 3) := by decide +kernel
theorem dJ5_newCapacity_0f7a4_27 : decode cJ5_newCapacity_0f7a4 27 = .ok (.ishl, 1) := by decide +kernel
theorem dJ5_newCapacity_0f7a4_28 : decode cJ5_newCapacity_0f7a4 28 = .ok (.iadd, 1) := by decide +kernel
theorem dJ5_newCapacity_0f7a4_29 : decode cJ5_newCapacity_0f7a4 29 = .ok (.invokestatic 114, 3) := by decide +kernel
theorem dJ5_newCapacity_0f7a4_32 : decode cJ5_newCapacity_0f7a4 32 = .ok (.istore 5, 2) := by decide +kernel
theorem dJ5_newCapacity_0f7a4_34 : decode cJ5_newCapacity_0f7a4 34 = .ok (.iload 5, 2) := by decide +kernel
theorem dJ5_newCapacity_0f7a4_36 : decode cJ5_newCapacity_0f7a4 36 = .ok (.ldc 39, 2) := by decide +kernel
theorem dJ5_newCapacity_0f7a4_38 : decode cJ5_newCapacity_0f7a4 38 = .ok (.if_icmp .ne 13, 3) := by decide +kernel
theorem dJ5_newCapacity_0f7a4_41 : decode cJ5_newCapacity_0f7a4 41 = .ok (.new 120, 3) := by decide +kernel
theorem dJ5_newCapacity_0f7a4_44 : decode cJ5_newCapacity_0f7a4 44 = .ok (.dup, 1) := by decide +kernel
theorem dJ5_newCapacity_0f7a4_45 : decode cJ5_newCapacity_0f7a4 45 = .ok (.ldc 122, 2) := by decide +kernel
theorem dJ5_newCapacity_0f7a4_47 : decode cJ5_newCapacity_0f7a4 47 = .ok (.invokespecial 124, 3) := by decide +kernel
theorem dJ5_newCapacity_0f7a4_50 : decode cJ5_newCapacity_0f7a4 50 = .ok (.athrow, 1) := by decide +kernel
theorem dJ5_newCapacity_0f7a4_51 : decode cJ5_newCapacity_0f7a4 51 = .ok (.iload 5, 2) := by decide +kernel
theorem dJ5_newCapacity_0f7a4_53 : decode cJ5_newCapacity_0f7a4 53 = .ok (.aload_n 0, 1) := by decide +kernel
theorem dJ5_newCapacity_0f7a4_54 : decode cJ5_newCapacity_0f7a4 54 = .ok (.getfield 22, 3) := by decide +kernel
theorem dJ5_newCapacity_0f7a4_57 : decode cJ5_newCapacity_0f7a4 57 = .ok (.ishr, 1) := by decide +kernel
theorem dJ5_newCapacity_0f7a4_58 : decode cJ5_newCapacity_0f7a4 58 = .ok (.ireturn, 1) := by decide +kernel
set_option maxHeartbeats 4000000 in
set_option maxRecDepth 100000 in
theorem c_J5_newCapacity_0f7a4 (g : xG) (l : Launch) (y : Nat) (z : Nat) (n : Nat) (k : SbT) (f : (Nat → Int32)) (x1 : Int32) {u : Int32} (hf : f_J5_newCapacity_0f7a4 n k f x1 = some u) : ConD g l yJ5_newCapacity_0f7a4 cJ5_newCapacity_0f7a4 6 (some .int) ({ frames := 2, cells := 0, slots := 0, locals := 44 } : Room) [.ref y, .int x1] [sbO g y z k, baW g z n f] (some (.int u)) [sbO g y z k, baW g z n f] := by
  unfold f_J5_newCapacity_0f7a4 at hf
  refine Con_of [sbO g y z k, baW g z n f] [(0, .ref y), (1, .int x1)] rfl rfl (by decide) (Nat.le_of_ble_eq_true rfl) ?_
  intro pW eW sW mW argsW belowW methW c9 C hnm hr
  have C : CX g RJ5 cJ5_newCapacity_0f7a4 6 _ pW sW mW argsW methW c9 := C
  refine x_aload_n C dJ5_newCapacity_0f7a4_0 rfl 0 rfl ?_
  refine x_get (ci := 1) (v := .ref z) (b := sbO g y z k) C ixJ4 rfl 0 (by decide) wd_255 (fun _ h => h) 0 rfl 0 (sbO_at0 g y z _) rfl dJ5_newCapacity_0f7a4_1 ?_
  refine x_alen (v := Int32.ofNat n) C 3 rfl 1 rfl 0 (baW_at0 g z n _) rfl dJ5_newCapacity_0f7a4_4 ?_
  refine x_istore_n (lv' := [(2, .int (Int32.ofNat n)), (0, .ref y), (1, .int x1)]) C dJ5_newCapacity_0f7a4_5 rfl (by decide) rfl ?_
  refine x_iload_n C dJ5_newCapacity_0f7a4_6 rfl 2 rfl ?_
  refine x_aload_n C dJ5_newCapacity_0f7a4_7 rfl 1 rfl ?_
  refine x_get (ci := 1) (v := .int (0 : Int32)) (b := sbO g y z k) C ixJ4 rfl 1 (by decide) wd_256 (fun _ h => h) 0 rfl 0 (sbO_at0 g y z _) rfl dJ5_newCapacity_0f7a4_8 ?_
  refine x_ishl C dJ5_newCapacity_0f7a4_11 ?_
  refine x_istore_n (lv' := [(3, .int (x1 <<< ((0 : Int32) &&& 31))), (2, .int (Int32.ofNat n)), (0, .ref y), (1, .int x1)]) C dJ5_newCapacity_0f7a4_12 rfl (by decide) rfl ?_
  refine x_iload_n C dJ5_newCapacity_0f7a4_13 rfl 0 rfl ?_
  refine x_iload_n C dJ5_newCapacity_0f7a4_14 rfl 1 rfl ?_
  refine x_isub C dJ5_newCapacity_0f7a4_15 ?_
  refine x_istore (lv' := [(4, .int ((x1 <<< ((0 : Int32) &&& 31)) - (Int32.ofNat n))), (3, .int (x1 <<< ((0 : Int32) &&& 31))), (2, .int (Int32.ofNat n)), (0, .ref y), (1, .int x1)]) C dJ5_newCapacity_0f7a4_16 (by decide) rfl ?_
  refine x_iload_n C dJ5_newCapacity_0f7a4_18 rfl 2 rfl ?_
  refine x_iload C dJ5_newCapacity_0f7a4_19 0 rfl ?_
  refine x_iload_n C dJ5_newCapacity_0f7a4_21 rfl 2 rfl ?_
  refine x_iconst (v := 2) C dJ5_newCapacity_0f7a4_22 (by decide) ?_
  refine x_aload_n C dJ5_newCapacity_0f7a4_23 rfl 3 rfl ?_
  refine x_get (ci := 1) (v := .int (0 : Int32)) (b := sbO g y z k) C ixJ4 rfl 1 (by decide) wd_256 (fun _ h => h) 0 rfl 0 (sbO_at0 g y z _) rfl dJ5_newCapacity_0f7a4_24 ?_
  refine x_ishl C dJ5_newCapacity_0f7a4_27 ?_
  refine x_iadd C dJ5_newCapacity_0f7a4_28 ?_
  obtain ⟨u1, hu1, hf⟩ := x_b hf
  refine x_callS (n := 3) (As := [.int (Int32.ofNat n), .int ((x1 <<< ((0 : Int32) &&& 31)) - (Int32.ofNat n)), .int ((Int32.ofNat n) + ((2 : Int32) <<< ((0 : Int32) &&& 31)))]) (rest := []) C (c_J8_newLength_cabcc g l (Int32.ofNat n) ((x1 <<< ((0 : Int32) &&& 31)) - (Int32.ofNat n)) ((Int32.ofNat n) + ((2 : Int32) <<< ((0 : Int32) &&& 31))) hu1) ⟨⟨wd_290, wd_288, wd_52⟩, ⟨by decide, by decide, by decide⟩, rfl, rfl, Nat.le_of_ble_eq_true rfl, Nat.le_of_ble_eq_true rfl⟩ wd_289 [sbO g y z k, baW g z n f] (x_pickD [0, 1] 2 rfl rfl rfl) rfl rfl (Nat.le_of_ble_eq_true rfl) ⟨Nat.le_of_ble_eq_true rfl, Nat.le_of_ble_eq_true rfl⟩ dJ5_newCapacity_0f7a4_29 (x_goD (wss2 := [sbO g y z k, baW g z n f]) (stk2 := [.int u1]) rfl rfl ?_)
  refine x_istore (lv' := [(5, .int u1), (4, .int ((x1 <<< ((0 : Int32) &&& 31)) - (Int32.ofNat n))), (3, .int (x1 <<< ((0 : Int32) &&& 31))), (2, .int (Int32.ofNat n)), (0, .ref y), (1, .int x1)]) C dJ5_newCapacity_0f7a4_32 (by decide) rfl ?_
  refine x_iload C dJ5_newCapacity_0f7a4_34 0 rfl ?_
  refine x_ldc C wd_298 dJ5_newCapacity_0f7a4_36 ?_
  refine x_icmp_ne (tgt := 51) C dJ5_newCapacity_0f7a4_38 (by decide) (fun h2 => ?_) (fun h2 => ?_)
  · have hf := x_f h2 hf
    refine x_iload C dJ5_newCapacity_0f7a4_51 0 rfl ?_
    refine x_aload_n C dJ5_newCapacity_0f7a4_53 rfl 4 rfl ?_
    refine x_get (ci := 1) (v := .int (0 : Int32)) (b := sbO g y z k) C ixJ4 rfl 1 (by decide) wd_256 (fun _ h => h) 0 rfl 0 (sbO_at0 g y z _) rfl dJ5_newCapacity_0f7a4_54 ?_
    refine x_ishr C dJ5_newCapacity_0f7a4_57 ?_
    exact x_iret C hr ⟨by cases hf; rfl, by cases hf; rfl⟩ dJ5_newCapacity_0f7a4_58
  · have hf := x_t h2 hf
    cases hf
theorem wd_34 : Cond.initialized RJ5 ∈ xTB := xTB_in 34 (by decide +kernel) (by decide +kernel)
theorem wd_284 : Cond.methodLink RJ5 104 yJ5_newCapacity_0f7a4 ∈ xTB := xTB_in 284 (by decide +kernel) (by decide +kernel)
theorem wd_286 : Cond.instanceMethod yJ5_newCapacity_0f7a4 ∈ xTB := xTB_in 286 (by decide +kernel) (by decide +kernel)
theorem wd_287 : Cond.code yJ5_newCapacity_0f7a4 cJ5_newCapacity_0f7a4 6 (some .int) ∈ xTB := xTB_in 287 (by decide +kernel) (by decide +kernel)
theorem wd_1389 : Cond.sameMethod yJ5_newCapacity_0f7a4.cls yJ5_newCapacity_0f7a4.cls yJ5_newCapacity_0f7a4.name yJ5_newCapacity_0f7a4.desc ∈ xTB := xTB_in 1389 (by decide +kernel) (by decide +kernel)
theorem dJ5_ensureCapacityInternal_d00df_0 : decode cJ5_ensureCapacityInternal_d00df 0 = .ok (.aload_n 0, 1) := by decide +kernel
theorem dJ5_ensureCapacityInternal_d00df_1 : decode cJ5_ensureCapacityInternal_d00df 1 = .ok (.getfield 15, 3) := by decide +kernel
theorem dJ5_ensureCapacityInternal_d00df_4 : decode cJ5_ensureCapacityInternal_d00df 4 = .ok (.arraylength, 1) := by decide +kernel
theorem dJ5_ensureCapacityInternal_d00df_5 : decode cJ5_ensureCapacityInternal_d00df 5 = .ok (.aload_n 0, 1) := by decide +kernel
theorem dJ5_ensureCapacityInternal_d00df_6 : decode cJ5_ensureCapacityInternal_d00df 6 = .ok (.getfield 22, 3) := by decide +kernel
theorem dJ5_ensureCapacityInternal_d00df_9 : decode cJ5_ensureCapacityInternal_d00df 9 = .ok (.ishr, 1) := by decide +kernel
theorem dJ5_ensureCapacityInternal_d00df_10 : decode cJ5_ensureCapacityInternal_d00df 10 = .ok (.istore_n 2, 1) := by decide +kernel
theorem dJ5_ensureCapacityInternal_d00df_11 : decode cJ5_ensureCapacityInternal_d00df 11 = .ok (.iload_n 1, 1) := by decide +kernel
theorem dJ5_ensureCapacityInternal_d00df_12 : decode cJ5_ensureCapacityInternal_d00df 12 = .ok (.iload_n 2, 1) := by decide +kernel
theorem dJ5_ensureCapacityInternal_d00df_13 : decode cJ5_ensureCapacityInternal_d00df 13 = .ok (.isub, 1) := by decide +kernel
theorem dJ5_ensureCapacityInternal_d00df_14 : decode cJ5_ensureCapacityInternal_d00df 14 = .ok (.ifCond .le 24, 3) := by decide +kernel
theorem dJ5_ensureCapacityInternal_d00df_17 : decode cJ5_ensureCapacityInternal_d00df 17 = .ok (.aload_n 0, 1) := by decide +kernel
theorem dJ5_ensureCapacityInternal_d00df_18 : decode cJ5_ensureCapacityInternal_d00df 18 = .ok (.aload_n 0, 1) := by decide +kernel
theorem dJ5_ensureCapacityInternal_d00df_19 : decode cJ5_ensureCapacityInternal_d00df 19 = .ok (.getfield 15, 3) := by decide +kernel
theorem dJ5_ensureCapacityInternal_d00df_22 : decode cJ5_ensureCapacityInternal_d00df 22 = .ok (.aload_n 0, 1) := by decide +kernel
theorem dJ5_ensureCapacityInternal_d00df_23 : decode cJ5_ensureCapacityInternal_d00df 23 = .ok (.iload_n 1, 1) := by decide +kernel
theorem dJ5_ensureCapacityInternal_d00df_24 : decode cJ5_ensureCapacityInternal_d00df 24 = .ok (.invokevirtual 104, 3) := by decide +kernel
theorem dJ5_ensureCapacityInternal_d00df_27 : decode cJ5_ensureCapacityInternal_d00df 27 = .ok (.aload_n 0, 1) := by decide +kernel
theorem dJ5_ensureCapacityInternal_d00df_28 : decode cJ5_ensureCapacityInternal_d00df 28 = .ok (.getfield 22, 3) := by decide +kernel
theorem dJ5_ensureCapacityInternal_d00df_31 : decode cJ5_ensureCapacityInternal_d00df 31 = .ok (.ishl, 1) := by decide +kernel
theorem dJ5_ensureCapacityInternal_d00df_32 : decode cJ5_ensureCapacityInternal_d00df 32 = .ok (.invokestatic 108, 3) := by decide +kernel
theorem dJ5_ensureCapacityInternal_d00df_35 : decode cJ5_ensureCapacityInternal_d00df 35 = .ok (.putfield 15, 3) := by decide +kernel
theorem dJ5_ensureCapacityInternal_d00df_38 : decode cJ5_ensureCapacityInternal_d00df 38 = .ok (.return_, 1) := by decide +kernel
set_option maxHeartbeats 4000000 in
set_option maxRecDepth 100000 in
theorem c_J5_ensureCapacityInternal_d00df (g : xG) (l : Launch) (y : Nat) (z : Nat) (n : Nat) (k : SbT) (f : (Nat → Int32)) (x1 : Int32) {u : Unit} (hf : f_J5_ensureCapacityInternal_d00df n k f x1 = some u) : ConD g l yJ5_ensureCapacityInternal_d00df cJ5_ensureCapacityInternal_d00df 3 none ({ frames := 3, cells := 0, slots := 0, locals := 69 } : Room) [.ref y, .int x1] [sbO g y z k, baW g z n f] (none) [sbO g y z k, baW g z n f] := by
  unfold f_J5_ensureCapacityInternal_d00df at hf
  refine Con_of [sbO g y z k, baW g z n f] [(0, .ref y), (1, .int x1)] rfl rfl (by decide) (Nat.le_of_ble_eq_true rfl) ?_
  intro pW eW sW mW argsW belowW methW c9 C hnm hr
  have C : CX g RJ5 cJ5_ensureCapacityInternal_d00df 3 _ pW sW mW argsW methW c9 := C
  refine x_aload_n C dJ5_ensureCapacityInternal_d00df_0 rfl 0 rfl ?_
  refine x_get (ci := 1) (v := .ref z) (b := sbO g y z k) C ixJ4 rfl 0 (by decide) wd_255 (fun _ h => h) 0 rfl 0 (sbO_at0 g y z _) rfl dJ5_ensureCapacityInternal_d00df_1 ?_
  refine x_alen (v := Int32.ofNat n) C 3 rfl 1 rfl 0 (baW_at0 g z n _) rfl dJ5_ensureCapacityInternal_d00df_4 ?_
  refine x_aload_n C dJ5_ensureCapacityInternal_d00df_5 rfl 0 rfl ?_
  refine x_get (ci := 1) (v := .int (0 : Int32)) (b := sbO g y z k) C ixJ4 rfl 1 (by decide) wd_256 (fun _ h => h) 0 rfl 0 (sbO_at0 g y z _) rfl dJ5_ensureCapacityInternal_d00df_6 ?_
  refine x_ishr C dJ5_ensureCapacityInternal_d00df_9 ?_
  refine x_istore_n (lv' := [(2, .int ((Int32.ofNat n) >>> ((0 : Int32) &&& 31))), (0, .ref y), (1, .int x1)]) C dJ5_ensureCapacityInternal_d00df_10 rfl (by decide) rfl ?_
  refine x_iload_n C dJ5_ensureCapacityInternal_d00df_11 rfl 2 rfl ?_
  refine x_iload_n C dJ5_ensureCapacityInternal_d00df_12 rfl 0 rfl ?_
  refine x_isub C dJ5_ensureCapacityInternal_d00df_13 ?_
  refine x_if_le (tgt := 38) C dJ5_ensureCapacityInternal_d00df_14 (by decide) (fun h1 => ?_) (fun h1 => ?_)
  · have hf := x_t h1 hf
    exact x_vret C hr ⟨by cases hf; rfl, by cases hf; rfl⟩ dJ5_ensureCapacityInternal_d00df_38
  · have hf := x_f h1 hf
    cases hf
theorem wd_246 : Cond.fieldLink RJ5 18 "java/lang/String" "COMPACT_STRINGS" "Z" ∈ xTB := xTB_in 246 (by decide +kernel) (by decide +kernel)
theorem dJ5_isLatin1_aae02_0 : decode cJ5_isLatin1_aae02 0 = .ok (.getstatic 18, 3) := by decide +kernel
theorem dJ5_isLatin1_aae02_3 : decode cJ5_isLatin1_aae02 3 = .ok (.ifCond .eq 14, 3) := by decide +kernel
theorem dJ5_isLatin1_aae02_6 : decode cJ5_isLatin1_aae02 6 = .ok (.aload_n 0, 1) := by decide +kernel
theorem dJ5_isLatin1_aae02_7 : decode cJ5_isLatin1_aae02 7 = .ok (.getfield 22, 3) := by decide +kernel
theorem dJ5_isLatin1_aae02_10 : decode cJ5_isLatin1_aae02 10 = .ok (.ifCond .ne 7, 3) := by decide +kernel
theorem dJ5_isLatin1_aae02_13 : decode cJ5_isLatin1_aae02 13 = .ok (.iconst 1, 1) := by decide +kernel
theorem dJ5_isLatin1_aae02_14 : decode cJ5_isLatin1_aae02 14 = .ok (.goto 4, 3) := by decide +kernel
theorem dJ5_isLatin1_aae02_17 : decode cJ5_isLatin1_aae02 17 = .ok (.iconst 0, 1) := by decide +kernel
theorem dJ5_isLatin1_aae02_18 : decode cJ5_isLatin1_aae02 18 = .ok (.ireturn, 1) := by decide +kernel
set_option maxHeartbeats 4000000 in
set_option maxRecDepth 100000 in
theorem c_J5_isLatin1_aae02 (g : xG) (l : Launch) (y : Nat) (z : Nat) (k : SbT)  {u : Int32} (hf : f_J5_isLatin1_aae02 k = some u) : ConD g l yJ5_isLatin1_aae02 cJ5_isLatin1_aae02 1 (some .boolean) ({ frames := 0, cells := 0, slots := 0, locals := 0 } : Room) [.ref y] [sbO g y z k] (some (.int u)) [sbO g y z k] := by
  unfold f_J5_isLatin1_aae02 at hf
  refine Con_of [sbO g y z k] [(0, .ref y)] rfl rfl (by decide) (Nat.le_of_ble_eq_true rfl) ?_
  intro pW eW sW mW argsW belowW methW c9 C hnm hr
  have C : CX g RJ5 cJ5_isLatin1_aae02 1 _ pW sW mW argsW methW c9 := C
  refine x_gets (Cn := "java/lang/String") (n := "COMPACT_STRINGS") (d := "Z") C (CX_cs C) wd_246 (fun _ h => h) dJ5_isLatin1_aae02_0 ?_
  refine x_if_eq (tgt := 17) C dJ5_isLatin1_aae02_3 (by decide) (fun h1 => ?_) (fun h1 => ?_)
  · have hf := x_t h1 hf
    refine x_iconst (v := 0) C dJ5_isLatin1_aae02_17 (by decide) ?_
    exact x_zret C hr rfl ⟨by cases hf; rfl, by cases hf; rfl⟩ dJ5_isLatin1_aae02_18
  · have hf := x_f h1 hf
    refine x_aload_n C dJ5_isLatin1_aae02_6 rfl 0 rfl ?_
    refine x_get (ci := 1) (v := .int (0 : Int32)) (b := sbO g y z k) C ixJ4 rfl 1 (by decide) wd_256 (fun _ h => h) 0 rfl 0 (sbO_at0 g y z _) rfl dJ5_isLatin1_aae02_7 ?_
    refine x_if_ne (tgt := 17) C dJ5_isLatin1_aae02_10 (by decide) (fun h2 => ?_) (fun h2 => ?_)
    · have hf := x_f h2 hf
      refine x_iconst (v := 0) C dJ5_isLatin1_aae02_17 (by decide) ?_
      exact x_zret C hr rfl ⟨by cases hf; rfl, by cases hf; rfl⟩ dJ5_isLatin1_aae02_18
    · have hf := x_t h2 hf
      refine x_iconst (v := 1) C dJ5_isLatin1_aae02_13 (by decide) ?_
      refine x_goto (tgt := 18) C dJ5_isLatin1_aae02_14 (by decide) ?_
      exact x_zret C hr rfl ⟨by cases hf; rfl, by cases hf; rfl⟩ dJ5_isLatin1_aae02_18
theorem wd_257 : Cond.fieldLink RJ5 73 "java/lang/AbstractStringBuilder" "maybeLatin1" "Z" ∈ xTB := xTB_in 257 (by decide +kernel) (by decide +kernel)
theorem wd_280 : Cond.methodLink RJ5 100 yJ5_ensureCapacityInternal_d00df ∈ xTB := xTB_in 280 (by decide +kernel) (by decide +kernel)
theorem wd_282 : Cond.instanceMethod yJ5_ensureCapacityInternal_d00df ∈ xTB := xTB_in 282 (by decide +kernel) (by decide +kernel)
theorem wd_283 : Cond.code yJ5_ensureCapacityInternal_d00df cJ5_ensureCapacityInternal_d00df 3 none ∈ xTB := xTB_in 283 (by decide +kernel) (by decide +kernel)
theorem wd_313 : Cond.methodLink RJ5 83 yJ5_isLatin1_aae02 ∈ xTB := xTB_in 313 (by decide +kernel) (by decide +kernel)
theorem wd_314 : Cond.instanceMethod yJ5_isLatin1_aae02 ∈ xTB := xTB_in 314 (by decide +kernel) (by decide +kernel)
theorem wd_315 : Cond.sameMethod yJ5_isLatin1_aae02.cls yJ5_isLatin1_aae02.cls yJ5_isLatin1_aae02.name yJ5_isLatin1_aae02.desc ∈ xTB := xTB_in 315 (by decide +kernel) (by decide +kernel)
theorem wd_316 : Cond.selects RJ4 yJ5_isLatin1_aae02 yJ5_isLatin1_aae02 ∈ xTB := xTB_in 316 (by decide +kernel) (by decide +kernel)
theorem wd_317 : Cond.code yJ5_isLatin1_aae02 cJ5_isLatin1_aae02 1 (some .boolean) ∈ xTB := xTB_in 317 (by decide +kernel) (by decide +kernel)
theorem wd_1388 : Cond.sameMethod yJ5_ensureCapacityInternal_d00df.cls yJ5_ensureCapacityInternal_d00df.cls yJ5_ensureCapacityInternal_d00df.name yJ5_ensureCapacityInternal_d00df.desc ∈ xTB := xTB_in 1388 (by decide +kernel) (by decide +kernel)
theorem dJ5_setLength_d00df_0 : decode cJ5_setLength_d00df 0 = .ok (.iload_n 1, 1) := by decide +kernel
theorem dJ5_setLength_d00df_1 : decode cJ5_setLength_d00df 1 = .ok (.ifCond .ge 12, 3) := by decide +kernel
theorem dJ5_setLength_d00df_4 : decode cJ5_setLength_d00df 4 = .ok (.new 129, 3) := by decide +kernel
theorem dJ5_setLength_d00df_7 : decode cJ5_setLength_d00df 7 = .ok (.dup, 1) := by decide +kernel
theorem dJ5_setLength_d00df_8 : decode cJ5_setLength_d00df 8 = .ok (.iload_n 1, 1) := by decide +kernel
theorem dJ5_setLength_d00df_9 : decode cJ5_setLength_d00df 9 = .ok (.invokespecial 131, 3) := by decide +kernel
theorem dJ5_setLength_d00df_12 : decode cJ5_setLength_d00df 12 = .ok (.athrow, 1) := by decide +kernel
theorem dJ5_setLength_d00df_13 : decode cJ5_setLength_d00df 13 = .ok (.aload_n 0, 1) := by decide +kernel
theorem dJ5_setLength_d00df_14 : decode cJ5_setLength_d00df 14 = .ok (.iload_n 1, 1) := by decide +kernel
theorem dJ5_setLength_d00df_15 : decode cJ5_setLength_d00df 15 = .ok (.invokevirtual 100, 3) := by decide +kernel
theorem dJ5_setLength_d00df_18 : decode cJ5_setLength_d00df 18 = .ok (.aload_n 0, 1) := by decide +kernel
theorem dJ5_setLength_d00df_19 : decode cJ5_setLength_d00df 19 = .ok (.getfield 79, 3) := by decide +kernel
theorem dJ5_setLength_d00df_22 : decode cJ5_setLength_d00df 22 = .ok (.iload_n 1, 1) := by decide +kernel
theorem dJ5_setLength_d00df_23 : decode cJ5_setLength_d00df 23 = .ok (.if_icmp .ge 40, 3) := by decide +kernel
theorem dJ5_setLength_d00df_26 : decode cJ5_setLength_d00df 26 = .ok (.aload_n 0, 1) := by decide +kernel
theorem dJ5_setLength_d00df_27 : decode cJ5_setLength_d00df 27 = .ok (.invokevirtual 83, 3) := by decide +kernel
theorem dJ5_setLength_d00df_30 : decode cJ5_setLength_d00df 30 = .ok (.ifCond .eq 18, 3) := by decide +kernel
theorem dJ5_setLength_d00df_33 : decode cJ5_setLength_d00df 33 = .ok (.aload_n 0, 1) := by decide +kernel
theorem dJ5_setLength_d00df_34 : decode cJ5_setLength_d00df 34 = .ok (.getfield 15, 3) := by decide +kernel
theorem dJ5_setLength_d00df_37 : decode cJ5_setLength_d00df 37 = .ok (.aload_n 0, 1) := by decide +kernel
theorem dJ5_setLength_d00df_38 : decode cJ5_setLength_d00df 38 = .ok (.getfield 79, 3) := by decide +kernel
theorem dJ5_setLength_d00df_41 : decode cJ5_setLength_d00df 41 = .ok (.iload_n 1, 1) := by decide +kernel
theorem dJ5_setLength_d00df_42 : decode cJ5_setLength_d00df 42 = .ok (.invokestatic 133, 3) := by decide +kernel
theorem dJ5_setLength_d00df_45 : decode cJ5_setLength_d00df 45 = .ok (.goto 31, 3) := by decide +kernel
theorem dJ5_setLength_d00df_48 : decode cJ5_setLength_d00df 48 = .ok (.aload_n 0, 1) := by decide +kernel
theorem dJ5_setLength_d00df_49 : decode cJ5_setLength_d00df 49 = .ok (.getfield 15, 3) := by decide +kernel
theorem dJ5_setLength_d00df_52 : decode cJ5_setLength_d00df 52 = .ok (.aload_n 0, 1) := by decide +kernel
theorem dJ5_setLength_d00df_53 : decode cJ5_setLength_d00df 53 = .ok (.getfield 79, 3) := by decide +kernel
theorem dJ5_setLength_d00df_56 : decode cJ5_setLength_d00df 56 = .ok (.iload_n 1, 1) := by decide +kernel
theorem dJ5_setLength_d00df_57 : decode cJ5_setLength_d00df 57 = .ok (.invokestatic 137, 3) := by decide +kernel
theorem dJ5_setLength_d00df_60 : decode cJ5_setLength_d00df 60 = .ok (.goto 16, 3) := by decide +kernel
theorem dJ5_setLength_d00df_63 : decode cJ5_setLength_d00df 63 = .ok (.aload_n 0, 1) := by decide +kernel
theorem dJ5_setLength_d00df_64 : decode cJ5_setLength_d00df 64 = .ok (.getfield 79, 3) := by decide +kernel
theorem dJ5_setLength_d00df_67 : decode cJ5_setLength_d00df 67 = .ok (.iload_n 1, 1) := by decide +kernel
theorem dJ5_setLength_d00df_68 : decode cJ5_setLength_d00df 68 = .ok (.if_icmp .le 8, 3) := by decide +kernel
theorem dJ5_setLength_d00df_71 : decode cJ5_setLength_d00df 71 = .ok (.aload_n 0, 1) := by decide +kernel
theorem dJ5_setLength_d00df_72 : decode cJ5_setLength_d00df 72 = .ok (.iconst 1, 1) := by decide +kernel
theorem dJ5_setLength_d00df_73 : decode cJ5_setLength_d00df 73 = .ok (.putfield 73, 3) := by decide +kernel
theorem dJ5_setLength_d00df_76 : decode cJ5_setLength_d00df 76 = .ok (.aload_n 0, 1) := by decide +kernel
theorem dJ5_setLength_d00df_77 : decode cJ5_setLength_d00df 77 = .ok (.iload_n 1, 1) := by decide +kernel
theorem dJ5_setLength_d00df_78 : decode cJ5_setLength_d00df 78 = .ok (.putfield 79, 3) := by decide +kernel
theorem dJ5_setLength_d00df_81 : decode cJ5_setLength_d00df 81 = .ok (.return_, 1) := by decide +kernel
set_option maxHeartbeats 4000000 in
set_option maxRecDepth 100000 in
theorem c_J5_setLength_d00df (g : xG) (l : Launch) (y : Nat) (z : Nat) (n : Nat) (k : SbT) (f : (Nat → Int32)) (x1 : Int32) {u : SbT} (hf : f_J5_setLength_d00df n k f x1 = some u) : ConD g l yJ5_setLength_d00df cJ5_setLength_d00df 2 none ({ frames := 4, cells := 0, slots := 0, locals := 91 } : Room) [.ref y, .int x1] [sbO g y z k, baW g z n f] (none) [sbO g y z u, baW g z n f] := by
  unfold f_J5_setLength_d00df at hf
  refine Con_of [sbO g y z k, baW g z n f] [(0, .ref y), (1, .int x1)] rfl rfl (by decide) (Nat.le_of_ble_eq_true rfl) ?_
  intro pW eW sW mW argsW belowW methW c9 C hnm hr
  have C : CX g RJ5 cJ5_setLength_d00df 2 _ pW sW mW argsW methW c9 := C
  refine x_iload_n C dJ5_setLength_d00df_0 rfl 1 rfl ?_
  refine x_if_ge (tgt := 13) C dJ5_setLength_d00df_1 (by decide) (fun h1 => ?_) (fun h1 => ?_)
  · have hf := x_t h1 hf
    refine x_aload_n C dJ5_setLength_d00df_13 rfl 0 rfl ?_
    refine x_iload_n C dJ5_setLength_d00df_14 rfl 1 rfl ?_
    obtain ⟨u2, hu2, hf⟩ := x_b hf
    refine x_callUP (Cn := RJ4) (n := 1) (As := [.int x1]) (rest := []) C (c_J5_ensureCapacityInternal_d00df g l y z n k f x1 hu2) ⟨⟨wd_283, wd_280, wd_1388, ⟨rfl, by decide⟩, wd_282, wd_34⟩, ⟨by decide, by decide, by decide⟩, rfl, rfl, Nat.le_of_ble_eq_true rfl, Nat.le_of_ble_eq_true rfl⟩ ⟨0, 1, _, _, rfl, rfl, rfl⟩ [] (x_pickD [0, 1] 2 rfl rfl rfl) rfl rfl (Nat.le_of_ble_eq_true rfl) ⟨Nat.le_of_ble_eq_true rfl, Nat.le_of_ble_eq_true rfl⟩ dJ5_setLength_d00df_15 (x_goD (wss2 := [sbO g y z k, baW g z n f]) (stk2 := []) rfl rfl ?_)
    refine x_aload_n C dJ5_setLength_d00df_18 rfl 0 rfl ?_
    refine x_get (ci := 1) (v := .int k.2) (b := sbO g y z k) C ixJ4 rfl 3 (by decide) wd_259 (fun _ h => h) 0 rfl 0 (sbO_at0 g y z _) rfl dJ5_setLength_d00df_19 ?_
    refine x_iload_n C dJ5_setLength_d00df_22 rfl 1 rfl ?_
    refine x_icmp_ge (tgt := 63) C dJ5_setLength_d00df_23 (by decide) (fun h3 => ?_) (fun h3 => ?_)
    · have hf := x_t h3 hf
      refine x_aload_n C dJ5_setLength_d00df_63 rfl 0 rfl ?_
      refine x_get (ci := 1) (v := .int k.2) (b := sbO g y z k) C ixJ4 rfl 3 (by decide) wd_259 (fun _ h => h) 0 rfl 0 (sbO_at0 g y z _) rfl dJ5_setLength_d00df_64 ?_
      refine x_iload_n C dJ5_setLength_d00df_67 rfl 1 rfl ?_
      refine x_icmp_le (tgt := 76) C dJ5_setLength_d00df_68 (by decide) (fun h4 => ?_) (fun h4 => ?_)
      · have hf := x_t h4 hf
        refine x_aload_n C dJ5_setLength_d00df_76 rfl 0 rfl ?_
        refine x_iload_n C dJ5_setLength_d00df_77 rfl 1 rfl ?_
        refine x_put (ci := 1) (ty := .int) (v := .int x1) (b := sbO g y z k) (b' := sbO g y z (k.1, x1)) (wss' := [sbO g y z (k.1, x1), baW g z n f]) C ixJ4 tyJ4 tyJ4_ok nmJ4 rfl 3 (by decide) wd_259 (fun _ h => h) rfl (tyJ4_ok 3 (by decide)) rfl rfl 0 rfl 0 (sbO_at0 g y z _) (Nat.le_of_ble_eq_true rfl) rfl rfl dJ5_setLength_d00df_78 ?_
        exact x_vret C hr ⟨by cases hf; rfl, by cases hf; rfl⟩ dJ5_setLength_d00df_81
      · have hf := x_f h4 hf
        refine x_aload_n C dJ5_setLength_d00df_71 rfl 0 rfl ?_
        refine x_iconst (v := 1) C dJ5_setLength_d00df_72 (by decide) ?_
        refine x_put (ci := 1) (ty := .boolean) (v := .int (1 : Int32)) (b := sbO g y z k) (b' := sbO g y z ((1 : Int32), k.2)) (wss' := [sbO g y z ((1 : Int32), k.2), baW g z n f]) C ixJ4 tyJ4 tyJ4_ok nmJ4 rfl 2 (by decide) wd_257 (fun _ h => h) rfl (tyJ4_ok 2 (by decide)) rfl rfl 0 rfl 0 (sbO_at0 g y z _) (Nat.le_of_ble_eq_true rfl) rfl rfl dJ5_setLength_d00df_73 ?_
        refine x_aload_n C dJ5_setLength_d00df_76 rfl 0 rfl ?_
        refine x_iload_n C dJ5_setLength_d00df_77 rfl 1 rfl ?_
        refine x_put (ci := 1) (ty := .int) (v := .int x1) (b := sbO g y z ((1 : Int32), k.2)) (b' := sbO g y z ((1 : Int32), x1)) (wss' := [sbO g y z ((1 : Int32), x1), baW g z n f]) C ixJ4 tyJ4 tyJ4_ok nmJ4 rfl 3 (by decide) wd_259 (fun _ h => h) rfl (tyJ4_ok 3 (by decide)) rfl rfl 0 rfl 0 (sbO_at0 g y z _) (Nat.le_of_ble_eq_true rfl) rfl rfl dJ5_setLength_d00df_78 ?_
        exact x_vret C hr ⟨by cases hf; rfl, by cases hf; rfl⟩ dJ5_setLength_d00df_81
    · have hf := x_f h3 hf
      refine x_aload_n C dJ5_setLength_d00df_26 rfl 0 rfl ?_
      obtain ⟨u5, hu5, hf⟩ := x_b hf
      refine x_callUW (owner := RJ5) (Cn := RJ4) (n := 0) (As := []) (rest := []) C (c_J5_isLatin1_aae02 g l y z k hu5) ⟨⟨wd_317, wd_313, wd_315, wd_316, wd_314, wd_34⟩, rfl, ⟨by decide, by decide, by decide⟩, rfl, rfl, Nat.le_of_ble_eq_true rfl, Nat.le_of_ble_eq_true rfl⟩ ⟨0, 1, _, _, rfl, rfl, rfl⟩ [baW g z n f] (x_pickD [0, 1] 2 rfl rfl rfl) rfl rfl (Nat.le_of_ble_eq_true rfl) ⟨Nat.le_of_ble_eq_true rfl, Nat.le_of_ble_eq_true rfl⟩ dJ5_setLength_d00df_27 (x_goD (wss2 := [sbO g y z k, baW g z n f]) (stk2 := [.int u5]) rfl rfl ?_)
      refine x_if_eq (tgt := 48) C dJ5_setLength_d00df_30 (by decide) (fun h6 => ?_) (fun h6 => ?_)
      · have hf := x_t h6 hf
        cases hf
      · have hf := x_f h6 hf
        cases hf
  · have hf := x_f h1 hf
    cases hf
theorem dJ1_canEncode_fc78d_0 : decode cJ1_canEncode_fc78d 0 = .ok (.iload_n 0, 1) := by decide +kernel
theorem dJ1_canEncode_fc78d_1 : decode cJ1_canEncode_fc78d 1 = .ok (.sipush 255, 3) := by decide +kernel
theorem dJ1_canEncode_fc78d_4 : decode cJ1_canEncode_fc78d 4 = .ok (.if_icmp .gt 7, 3) := by decide +kernel
theorem dJ1_canEncode_fc78d_7 : decode cJ1_canEncode_fc78d 7 = .ok (.iconst 1, 1) := by decide +kernel
theorem dJ1_canEncode_fc78d_8 : decode cJ1_canEncode_fc78d 8 = .ok (.goto 4, 3) := by decide +kernel
theorem dJ1_canEncode_fc78d_11 : decode cJ1_canEncode_fc78d 11 = .ok (.iconst 0, 1) := by decide +kernel
theorem dJ1_canEncode_fc78d_12 : decode cJ1_canEncode_fc78d 12 = .ok (.ireturn, 1) := by decide +kernel
set_option maxHeartbeats 4000000 in
set_option maxRecDepth 100000 in
theorem c_J1_canEncode_fc78d (g : xG) (l : Launch)   (x0 : Int32) {u : Int32} (hf : f_J1_canEncode_fc78d x0 = some u) : ConD g l yJ1_canEncode_fc78d cJ1_canEncode_fc78d 1 (some .boolean) ({ frames := 0, cells := 0, slots := 0, locals := 0 } : Room) [.int x0] [] (some (.int u)) [] := by
  unfold f_J1_canEncode_fc78d at hf
  refine Con_of [] [(0, .int x0)] rfl rfl (by decide) (Nat.le_of_ble_eq_true rfl) ?_
  intro pW eW sW mW argsW belowW methW c9 C hnm hr
  have C : CX g RJ1 cJ1_canEncode_fc78d 1 _ pW sW mW argsW methW c9 := C
  refine x_iload_n C dJ1_canEncode_fc78d_0 rfl 0 rfl ?_
  refine x_sipush (v := 255) C dJ1_canEncode_fc78d_1 (by decide) ?_
  refine x_icmp_gt (tgt := 11) C dJ1_canEncode_fc78d_4 (by decide) (fun h1 => ?_) (fun h1 => ?_)
  · have hf := x_t h1 hf
    refine x_iconst (v := 0) C dJ1_canEncode_fc78d_11 (by decide) ?_
    exact x_zret C hr rfl ⟨by cases hf; rfl, by cases hf; rfl⟩ dJ1_canEncode_fc78d_12
  · have hf := x_f h1 hf
    refine x_iconst (v := 1) C dJ1_canEncode_fc78d_7 (by decide) ?_
    refine x_goto (tgt := 12) C dJ1_canEncode_fc78d_8 (by decide) ?_
    exact x_zret C hr rfl ⟨by cases hf; rfl, by cases hf; rfl⟩ dJ1_canEncode_fc78d_12
theorem wd_548 : Cond.methodLink RJ5 191 yJ1_canEncode_fc78d ∈ xTB := xTB_in 548 (by decide +kernel) (by decide +kernel)
theorem wd_549 : Cond.static yJ1_canEncode_fc78d ∈ xTB := xTB_in 549 (by decide +kernel) (by decide +kernel)
theorem wd_550 : Cond.code yJ1_canEncode_fc78d cJ1_canEncode_fc78d 1 (some .boolean) ∈ xTB := xTB_in 550 (by decide +kernel) (by decide +kernel)
theorem dJ5_append_3fe6f_0 : decode cJ5_append_3fe6f 0 = .ok (.aload_n 0, 1) := by decide +kernel
theorem dJ5_append_3fe6f_1 : decode cJ5_append_3fe6f 1 = .ok (.aload_n 0, 1) := by decide +kernel
theorem dJ5_append_3fe6f_2 : decode cJ5_append_3fe6f 2 = .ok (.getfield 79, 3) := by decide +kernel
theorem dJ5_append_3fe6f_5 : decode cJ5_append_3fe6f 5 = .ok (.iconst 1, 1) := by decide +kernel
theorem dJ5_append_3fe6f_6 : decode cJ5_append_3fe6f 6 = .ok (.iadd, 1) := by decide +kernel
theorem dJ5_append_3fe6f_7 : decode cJ5_append_3fe6f 7 = .ok (.invokevirtual 100, 3) := by decide +kernel
theorem dJ5_append_3fe6f_10 : decode cJ5_append_3fe6f 10 = .ok (.aload_n 0, 1) := by decide +kernel
theorem dJ5_append_3fe6f_11 : decode cJ5_append_3fe6f 11 = .ok (.invokevirtual 83, 3) := by decide +kernel
theorem dJ5_append_3fe6f_14 : decode cJ5_append_3fe6f 14 = .ok (.ifCond .eq 31, 3) := by decide +kernel
theorem dJ5_append_3fe6f_17 : decode cJ5_append_3fe6f 17 = .ok (.iload_n 1, 1) := by decide +kernel
theorem dJ5_append_3fe6f_18 : decode cJ5_append_3fe6f 18 = .ok (.invokestatic 191, 3) := by decide +kernel
theorem dJ5_append_3fe6f_21 : decode cJ5_append_3fe6f 21 = .ok (.ifCond .eq 24, 3) := by decide +kernel
theorem dJ5_append_3fe6f_24 : decode cJ5_append_3fe6f 24 = .ok (.aload_n 0, 1) := by decide +kernel
theorem dJ5_append_3fe6f_25 : decode cJ5_append_3fe6f 25 = .ok (.getfield 15, 3) := by decide +kernel
theorem dJ5_append_3fe6f_28 : decode cJ5_append_3fe6f 28 = .ok (.aload_n 0, 1) := by decide +kernel
theorem dJ5_append_3fe6f_29 : decode cJ5_append_3fe6f 29 = .ok (.dup, 1) := by decide +kernel
theorem dJ5_append_3fe6f_30 : decode cJ5_append_3fe6f 30 = .ok (.getfield 79, 3) := by decide +kernel
theorem dJ5_append_3fe6f_33 : decode cJ5_append_3fe6f 33 = .ok (.dup_x1, 1) := by decide +kernel
theorem dJ5_append_3fe6f_34 : decode cJ5_append_3fe6f 34 = .ok (.iconst 1, 1) := by decide +kernel
theorem dJ5_append_3fe6f_35 : decode cJ5_append_3fe6f 35 = .ok (.iadd, 1) := by decide +kernel
theorem dJ5_append_3fe6f_36 : decode cJ5_append_3fe6f 36 = .ok (.putfield 79, 3) := by decide +kernel
theorem dJ5_append_3fe6f_39 : decode cJ5_append_3fe6f 39 = .ok (.iload_n 1, 1) := by decide +kernel
theorem dJ5_append_3fe6f_40 : decode cJ5_append_3fe6f 40 = .ok (.i2b, 1) := by decide +kernel
theorem dJ5_append_3fe6f_41 : decode cJ5_append_3fe6f 41 = .ok (.bastore, 1) := by decide +kernel
theorem dJ5_append_3fe6f_42 : decode cJ5_append_3fe6f 42 = .ok (.goto 33, 3) := by decide +kernel
theorem dJ5_append_3fe6f_45 : decode cJ5_append_3fe6f 45 = .ok (.aload_n 0, 1) := by decide +kernel
theorem dJ5_append_3fe6f_46 : decode cJ5_append_3fe6f 46 = .ok (.invokevirtual 83, 3) := by decide +kernel
theorem dJ5_append_3fe6f_49 : decode cJ5_append_3fe6f 49 = .ok (.ifCond .eq 7, 3) := by decide +kernel
theorem dJ5_append_3fe6f_52 : decode cJ5_append_3fe6f 52 = .ok (.aload_n 0, 1) := by decide +kernel
theorem dJ5_append_3fe6f_53 : decode cJ5_append_3fe6f 53 = .ok (.invokevirtual 195, 3) := by decide +kernel
theorem dJ5_append_3fe6f_56 : decode cJ5_append_3fe6f 56 = .ok (.aload_n 0, 1) := by decide +kernel
theorem dJ5_append_3fe6f_57 : decode cJ5_append_3fe6f 57 = .ok (.getfield 15, 3) := by decide +kernel
theorem dJ5_append_3fe6f_60 : decode cJ5_append_3fe6f 60 = .ok (.aload_n 0, 1) := by decide +kernel
theorem dJ5_append_3fe6f_61 : decode cJ5_append_3fe6f 61 = .ok (.dup, 1) := by decide +kernel
theorem dJ5_append_3fe6f_62 : decode cJ5_append_3fe6f 62 = .ok (.getfield 79, 3) := by decide +kernel
theorem dJ5_append_3fe6f_65 : decode cJ5_append_3fe6f 65 = .ok (.dup_x1, 1) := by decide +kernel
theorem dJ5_append_3fe6f_66 : decode cJ5_append_3fe6f 66 = .ok (.iconst 1, 1) := by decide +kernel
theorem dJ5_append_3fe6f_67 : decode cJ5_append_3fe6f 67 = .ok (.iadd, 1) := by decide +kernel
theorem dJ5_append_3fe6f_68 : decode cJ5_append_3fe6f 68 = .ok (.putfield 79, 3) := by decide +kernel
theorem dJ5_append_3fe6f_71 : decode cJ5_append_3fe6f 71 = .ok (.iload_n 1, 1) := by decide +kernel
theorem dJ5_append_3fe6f_72 : decode cJ5_append_3fe6f 72 = .ok (.invokestatic 197, 3) := by decide +kernel
theorem dJ5_append_3fe6f_75 : decode cJ5_append_3fe6f 75 = .ok (.aload_n 0, 1) := by decide +kernel
theorem dJ5_append_3fe6f_76 : decode cJ5_append_3fe6f 76 = .ok (.areturn, 1) := by decide +kernel
set_option maxHeartbeats 4000000 in
set_option maxRecDepth 100000 in
theorem c_J5_append_3fe6f (g : xG) (l : Launch) (y : Nat) (z : Nat) (n : Nat) (k : SbT) (f : (Nat → Int32)) (x1 : Int32) {u : SbT × (Nat → Int32)} (hf : f_J5_append_3fe6f n k f x1 = some u) : ConD g l yJ5_append_3fe6f cJ5_append_3fe6f 2 (some (.object "java/lang/AbstractStringBuilder")) ({ frames := 4, cells := 0, slots := 0, locals := 91 } : Room) [.ref y, .int x1] [sbO g y z k, baW g z n f] (some (.ref y)) [sbO g y z u.1, baW g z n u.2] := by
  unfold f_J5_append_3fe6f at hf
  refine Con_of [sbO g y z k, baW g z n f] [(0, .ref y), (1, .int x1)] rfl rfl (by decide) (Nat.le_of_ble_eq_true rfl) ?_
  intro pW eW sW mW argsW belowW methW c9 C hnm hr
  have C : CX g RJ5 cJ5_append_3fe6f 2 _ pW sW mW argsW methW c9 := C
  have hL56 : ∀ (kL : SbT) (fL : (Nat → Int32)) (x1 : Int32), f_J5_append_3fe6f_56 n kL fL x1 = some u → VW g (va_A ([sbO g y z k, baW g z n f] : List va_W).flatten sW.heap.size) 2 pW l eW ({ frames := 4, cells := 0, slots := 0, locals := 91 } : Room) sW mW argsW belowW methW c9 0 0 (MQ belowW (xQc g ([sbO g y z k, baW g z n f] : List va_W).flatten sW.heap.size (fun v9 w9 => v9 = some (.ref y) ∧ w9 = ([sbO g y z u.1, baW g z n u.2] : List va_W).flatten)) argsW sW 0 0 (va_A ([sbO g y z k, baW g z n f] : List va_W).flatten sW.heap.size)) [sbO g y z kL, baW g z n fL] [(0, .ref y), (1, .int x1)] 56 [] := by
    intro kL fL x1 hf
    unfold f_J5_append_3fe6f_56 at hf
    cases hf
  have hL45 : ∀ (kL : SbT) (fL : (Nat → Int32)) (x1 : Int32), f_J5_append_3fe6f_45 n kL fL x1 = some u → VW g (va_A ([sbO g y z k, baW g z n f] : List va_W).flatten sW.heap.size) 2 pW l eW ({ frames := 4, cells := 0, slots := 0, locals := 91 } : Room) sW mW argsW belowW methW c9 0 0 (MQ belowW (xQc g ([sbO g y z k, baW g z n f] : List va_W).flatten sW.heap.size (fun v9 w9 => v9 = some (.ref y) ∧ w9 = ([sbO g y z u.1, baW g z n u.2] : List va_W).flatten)) argsW sW 0 0 (va_A ([sbO g y z k, baW g z n f] : List va_W).flatten sW.heap.size)) [sbO g y z kL, baW g z n fL] [(0, .ref y), (1, .int x1)] 45 [] := by
    intro kL fL x1 hf
    unfold f_J5_append_3fe6f_45 at hf
    refine x_aload_n C dJ5_append_3fe6f_45 rfl 0 rfl ?_
    obtain ⟨u1, hu1, hf⟩ := x_b hf
    refine x_callUW (owner := RJ5) (Cn := RJ4) (n := 0) (As := []) (rest := []) C (c_J5_isLatin1_aae02 g l y z kL hu1) ⟨⟨wd_317, wd_313, wd_315, wd_316, wd_314, wd_34⟩, rfl, ⟨by decide, by decide, by decide⟩, rfl, rfl, Nat.le_of_ble_eq_true rfl, Nat.le_of_ble_eq_true rfl⟩ ⟨0, 1, _, _, rfl, rfl, rfl⟩ [baW g z n fL] (x_pickD [0, 1] 2 rfl rfl rfl) rfl rfl (Nat.le_of_ble_eq_true rfl) ⟨Nat.le_of_ble_eq_true rfl, Nat.le_of_ble_eq_true rfl⟩ dJ5_append_3fe6f_46 (x_goD (wss2 := [sbO g y z kL, baW g z n fL]) (stk2 := [.int u1]) rfl rfl ?_)
    refine x_if_eq (tgt := 56) C dJ5_append_3fe6f_49 (by decide) (fun h2 => ?_) (fun h2 => ?_)
    · have hf := x_t h2 hf
      exact hL56 kL fL x1 hf
    · have hf := x_f h2 hf
      cases hf
  refine x_aload_n C dJ5_append_3fe6f_0 rfl 0 rfl ?_
  refine x_aload_n C dJ5_append_3fe6f_1 rfl 0 rfl ?_
  refine x_get (ci := 1) (v := .int k.2) (b := sbO g y z k) C ixJ4 rfl 3 (by decide) wd_259 (fun _ h => h) 0 rfl 0 (sbO_at0 g y z _) rfl dJ5_append_3fe6f_2 ?_
  refine x_iconst (v := 1) C dJ5_append_3fe6f_5 (by decide) ?_
  refine x_iadd C dJ5_append_3fe6f_6 ?_
  obtain ⟨u1, hu1, hf⟩ := x_b hf
  refine x_callUP (Cn := RJ4) (n := 1) (As := [.int (k.2 + (1 : Int32))]) (rest := []) C (c_J5_ensureCapacityInternal_d00df g l y z n k f (k.2 + (1 : Int32)) hu1) ⟨⟨wd_283, wd_280, wd_1388, ⟨rfl, by decide⟩, wd_282, wd_34⟩, ⟨by decide, by decide, by decide⟩, rfl, rfl, Nat.le_of_ble_eq_true rfl, Nat.le_of_ble_eq_true rfl⟩ ⟨0, 1, _, _, rfl, rfl, rfl⟩ [] (x_pickD [0, 1] 2 rfl rfl rfl) rfl rfl (Nat.le_of_ble_eq_true rfl) ⟨Nat.le_of_ble_eq_true rfl, Nat.le_of_ble_eq_true rfl⟩ dJ5_append_3fe6f_7 (x_goD (wss2 := [sbO g y z k, baW g z n f]) (stk2 := []) rfl rfl ?_)
  refine x_aload_n C dJ5_append_3fe6f_10 rfl 0 rfl ?_
  obtain ⟨u2, hu2, hf⟩ := x_b hf
  refine x_callUW (owner := RJ5) (Cn := RJ4) (n := 0) (As := []) (rest := []) C (c_J5_isLatin1_aae02 g l y z k hu2) ⟨⟨wd_317, wd_313, wd_315, wd_316, wd_314, wd_34⟩, rfl, ⟨by decide, by decide, by decide⟩, rfl, rfl, Nat.le_of_ble_eq_true rfl, Nat.le_of_ble_eq_true rfl⟩ ⟨0, 1, _, _, rfl, rfl, rfl⟩ [baW g z n f] (x_pickD [0, 1] 2 rfl rfl rfl) rfl rfl (Nat.le_of_ble_eq_true rfl) ⟨Nat.le_of_ble_eq_true rfl, Nat.le_of_ble_eq_true rfl⟩ dJ5_append_3fe6f_11 (x_goD (wss2 := [sbO g y z k, baW g z n f]) (stk2 := [.int u2]) rfl rfl ?_)
  refine x_if_eq (tgt := 45) C dJ5_append_3fe6f_14 (by decide) (fun h3 => ?_) (fun h3 => ?_)
  · have hf := x_t h3 hf
    exact hL45 k f x1 hf
  · have hf := x_f h3 hf
    refine x_iload_n C dJ5_append_3fe6f_17 rfl 1 rfl ?_
    obtain ⟨u4, hu4, hf⟩ := x_b hf
    refine x_callS (n := 1) (As := [.int x1]) (rest := []) C (c_J1_canEncode_fc78d g l x1 hu4) ⟨⟨wd_550, wd_548, wd_38⟩, ⟨by decide, by decide, by decide⟩, rfl, rfl, Nat.le_of_ble_eq_true rfl, Nat.le_of_ble_eq_true rfl⟩ wd_549 [sbO g y z k, baW g z n f] (x_pickD [0, 1] 2 rfl rfl rfl) rfl rfl (Nat.le_of_ble_eq_true rfl) ⟨Nat.le_of_ble_eq_true rfl, Nat.le_of_ble_eq_true rfl⟩ dJ5_append_3fe6f_18 (x_goD (wss2 := [sbO g y z k, baW g z n f]) (stk2 := [.int u4]) rfl rfl ?_)
    refine x_if_eq (tgt := 45) C dJ5_append_3fe6f_21 (by decide) (fun h5 => ?_) (fun h5 => ?_)
    · have hf := x_t h5 hf
      exact hL45 k f x1 hf
    · have hf := x_f h5 hf
      refine x_aload_n C dJ5_append_3fe6f_24 rfl 0 rfl ?_
      refine x_get (ci := 1) (v := .ref z) (b := sbO g y z k) C ixJ4 rfl 0 (by decide) wd_255 (fun _ h => h) 0 rfl 0 (sbO_at0 g y z _) rfl dJ5_append_3fe6f_25 ?_
      refine x_aload_n C dJ5_append_3fe6f_28 rfl 0 rfl ?_
      refine x_dup C dJ5_append_3fe6f_29 rfl ?_
      refine x_get (ci := 1) (v := .int k.2) (b := sbO g y z k) C ixJ4 rfl 3 (by decide) wd_259 (fun _ h => h) 0 rfl 0 (sbO_at0 g y z _) rfl dJ5_append_3fe6f_30 ?_
      refine x_dup_x1 C dJ5_append_3fe6f_33 rfl rfl ?_
      refine x_iconst (v := 1) C dJ5_append_3fe6f_34 (by decide) ?_
      refine x_iadd C dJ5_append_3fe6f_35 ?_
      refine x_put (ci := 1) (ty := .int) (v := .int (k.2 + (1 : Int32))) (b := sbO g y z k) (b' := sbO g y z (k.1, k.2 + (1 : Int32))) (wss' := [sbO g y z (k.1, k.2 + (1 : Int32)), baW g z n f]) C ixJ4 tyJ4 tyJ4_ok nmJ4 rfl 3 (by decide) wd_259 (fun _ h => h) rfl (tyJ4_ok 3 (by decide)) rfl rfl 0 rfl 0 (sbO_at0 g y z _) (Nat.le_of_ble_eq_true rfl) rfl rfl dJ5_append_3fe6f_36 ?_
      refine x_iload_n C dJ5_append_3fe6f_39 rfl 1 rfl ?_
      refine x_i2b C dJ5_append_3fe6f_40 rfl ?_
      obtain ⟨h6, hf⟩ := x_n hf
      refine x_bast (b := baW g z n f) (b' := baW g z n (upd f k.2.toNatClampNeg (vp_nar .byte x1.toInt8.toInt32))) (wss' := [sbO g y z (k.1, k.2 + (1 : Int32)), baW g z n (upd f k.2.toNatClampNeg (vp_nar .byte x1.toInt8.toInt32))]) C 1 rfl 0 (baW_at0 g z n _) h6 rfl rfl dJ5_append_3fe6f_41 ?_
      refine x_goto (tgt := 75) C dJ5_append_3fe6f_42 (by decide) ?_
      refine x_aload_n C dJ5_append_3fe6f_75 rfl 0 rfl ?_
      exact x_aret C hr (Or.inl ⟨_, rfl⟩) ⟨by cases hf; rfl, by cases hf; rfl⟩ dJ5_append_3fe6f_76
theorem dJ6_stringSize_0f7a4_0 : decode cJ6_stringSize_0f7a4 0 = .ok (.iconst 1, 1) := by decide +kernel
theorem dJ6_stringSize_0f7a4_1 : decode cJ6_stringSize_0f7a4 1 = .ok (.istore_n 1, 1) := by decide +kernel
theorem dJ6_stringSize_0f7a4_2 : decode cJ6_stringSize_0f7a4 2 = .ok (.iload_n 0, 1) := by decide +kernel
theorem dJ6_stringSize_0f7a4_3 : decode cJ6_stringSize_0f7a4 3 = .ok (.ifCond .lt 8, 3) := by decide +kernel
theorem dJ6_stringSize_0f7a4_6 : decode cJ6_stringSize_0f7a4 6 = .ok (.iconst 0, 1) := by decide +kernel
theorem dJ6_stringSize_0f7a4_7 : decode cJ6_stringSize_0f7a4 7 = .ok (.istore_n 1, 1) := by decide +kernel
theorem dJ6_stringSize_0f7a4_8 : decode cJ6_stringSize_0f7a4 8 = .ok (.iload_n 0, 1) := by decide +kernel
theorem dJ6_stringSize_0f7a4_9 : decode cJ6_stringSize_0f7a4 9 = .ok (.ineg, 1) := by decide +kernel
theorem dJ6_stringSize_0f7a4_10 : decode cJ6_stringSize_0f7a4 10 = .ok (.istore_n 0, 1) := by decide +kernel
theorem dJ6_stringSize_0f7a4_11 : decode cJ6_stringSize_0f7a4 11 = .ok (.bipush (-10), 2) := by decide +kernel
theorem dJ6_stringSize_0f7a4_13 : decode cJ6_stringSize_0f7a4 13 = .ok (.istore_n 2, 1) := by decide +kernel
theorem dJ6_stringSize_0f7a4_14 : decode cJ6_stringSize_0f7a4 14 = .ok (.iconst 1, 1) := by decide +kernel
theorem dJ6_stringSize_0f7a4_15 : decode cJ6_stringSize_0f7a4 15 = .ok (.istore_n 3, 1) := by decide +kernel
theorem dJ6_stringSize_0f7a4_16 : decode cJ6_stringSize_0f7a4 16 = .ok (.iload_n 3, 1) := by decide +kernel
theorem dJ6_stringSize_0f7a4_17 : decode cJ6_stringSize_0f7a4 17 = .ok (.bipush 10, 2) := by decide +kernel
theorem dJ6_stringSize_0f7a4_19 : decode cJ6_stringSize_0f7a4 19 = .ok (.if_icmp .ge 23, 3) := by decide +kernel
theorem dJ6_stringSize_0f7a4_22 : decode cJ6_stringSize_0f7a4 22 = .ok (.iload_n 0, 1) := by decide +kernel
theorem dJ6_stringSize_0f7a4_23 : decode cJ6_stringSize_0f7a4 23 = .ok (.iload_n 2, 1) := by decide +kernel
theorem dJ6_stringSize_0f7a4_24 : decode cJ6_stringSize_0f7a4 24 = .ok (.if_icmp .le 7, 3) := by decide +kernel
theorem dJ6_stringSize_0f7a4_27 : decode cJ6_stringSize_0f7a4 27 = .ok (.iload_n 3, 1) := by decide +kernel
theorem dJ6_stringSize_0f7a4_28 : decode cJ6_stringSize_0f7a4 28 = .ok (.iload_n 1, 1) := by decide +kernel
theorem dJ6_stringSize_0f7a4_29 : decode cJ6_stringSize_0f7a4 29 = .ok (.iadd, 1) := by decide +kernel
theorem dJ6_stringSize_0f7a4_30 : decode cJ6_stringSize_0f7a4 30 = .ok (.ireturn, 1) := by decide +kernel
theorem dJ6_stringSize_0f7a4_31 : decode cJ6_stringSize_0f7a4 31 = .ok (.bipush 10, 2) := by decide +kernel
theorem dJ6_stringSize_0f7a4_33 : decode cJ6_stringSize_0f7a4 33 = .ok (.iload_n 2, 1) := by decide +kernel
theorem dJ6_stringSize_0f7a4_34 : decode cJ6_stringSize_0f7a4 34 = .ok (.imul, 1) := by decide +kernel
theorem dJ6_stringSize_0f7a4_35 : decode cJ6_stringSize_0f7a4 35 = .ok (.istore_n 2, 1) := by decide +kernel
theorem dJ6_stringSize_0f7a4_36 : decode cJ6_stringSize_0f7a4 36 = .ok (.iinc 3 1, 3) := by decide +kernel
theorem dJ6_stringSize_0f7a4_39 : decode cJ6_stringSize_0f7a4 39 = .ok (.goto (-23), 3) := by decide +kernel
theorem dJ6_stringSize_0f7a4_42 : decode cJ6_stringSize_0f7a4 42 = .ok (.bipush 10, 2) := by decide +kernel
theorem dJ6_stringSize_0f7a4_44 : decode cJ6_stringSize_0f7a4 44 = .ok (.iload_n 1, 1) := by decide +kernel
theorem dJ6_stringSize_0f7a4_45 : decode cJ6_stringSize_0f7a4 45 = .ok (.iadd, 1) := by decide +kernel
theorem dJ6_stringSize_0f7a4_46 : decode cJ6_stringSize_0f7a4 46 = .ok (.ireturn, 1) := by decide +kernel
set_option maxHeartbeats 4000000 in
set_option maxRecDepth 100000 in
theorem c_J6_stringSize_0f7a4 (g : xG) (l : Launch)   (x0 : Int32) {u : Int32} (hf : f_J6_stringSize_0f7a4 x0 = some u) : ConD g l yJ6_stringSize_0f7a4 cJ6_stringSize_0f7a4 4 (some .int) ({ frames := 0, cells := 0, slots := 0, locals := 0 } : Room) [.int x0] [] (some (.int u)) [] := by
  unfold f_J6_stringSize_0f7a4 at hf
  refine Con_of [] [(0, .int x0)] rfl rfl (by decide) (Nat.le_of_ble_eq_true rfl) ?_
  intro pW eW sW mW argsW belowW methW c9 C hnm hr
  have C : CX g RJ6 cJ6_stringSize_0f7a4 4 _ pW sW mW argsW methW c9 := C
  have hL16 : ∀ (nW : Nat) (x0 : Int32) (x1 : Int32) (x2 : Int32) (x3 : Int32), f_J6_stringSize_0f7a4_16 nW x0 x1 x2 x3 = some u → VW g (va_A ([] : List va_W).flatten sW.heap.size) 4 pW l eW ({ frames := 0, cells := 0, slots := 0, locals := 0 } : Room) sW mW argsW belowW methW c9 0 0 (MQ belowW (xQc g ([] : List va_W).flatten sW.heap.size (fun v9 w9 => v9 = some (.int u) ∧ w9 = ([] : List va_W).flatten)) argsW sW 0 0 (va_A ([] : List va_W).flatten sW.heap.size)) [] [(0, .int x0), (1, .int x1), (2, .int x2), (3, .int x3)] 16 [] := by
    intro nW
    induction nW with
    | zero => intro x0 x1 x2 x3 hf; rw [f_J6_stringSize_0f7a4_16] at hf; cases hf
    | succ nW ih =>
      intro x0 x1 x2 x3 hf
      rw [f_J6_stringSize_0f7a4_16] at hf
      refine x_iload_n C dJ6_stringSize_0f7a4_16 rfl 3 rfl ?_
      refine x_bipush (v := 10) C dJ6_stringSize_0f7a4_17 (by decide) ?_
      refine x_icmp_ge (tgt := 42) C dJ6_stringSize_0f7a4_19 (by decide) (fun h1 => ?_) (fun h1 => ?_)
      · have hf := x_t h1 hf
        refine x_bipush (v := 10) C dJ6_stringSize_0f7a4_42 (by decide) ?_
        refine x_iload_n C dJ6_stringSize_0f7a4_44 rfl 1 rfl ?_
        refine x_iadd C dJ6_stringSize_0f7a4_45 ?_
        exact x_iret C hr ⟨by cases hf; rfl, by cases hf; rfl⟩ dJ6_stringSize_0f7a4_46
      · have hf := x_f h1 hf
        refine x_iload_n C dJ6_stringSize_0f7a4_22 rfl 0 rfl ?_
        refine x_iload_n C dJ6_stringSize_0f7a4_23 rfl 2 rfl ?_
        refine x_icmp_le (tgt := 31) C dJ6_stringSize_0f7a4_24 (by decide) (fun h2 => ?_) (fun h2 => ?_)
        · have hf := x_t h2 hf
          refine x_bipush (v := 10) C dJ6_stringSize_0f7a4_31 (by decide) ?_
          refine x_iload_n C dJ6_stringSize_0f7a4_33 rfl 2 rfl ?_
          refine x_imul C dJ6_stringSize_0f7a4_34 ?_
          refine x_istore_n (lv' := [(2, .int ((10 : Int32) * x2)), (0, .int x0), (1, .int x1), (3, .int x3)]) C dJ6_stringSize_0f7a4_35 rfl (by decide) rfl ?_
          refine x_iinc (v := x3 + 1) (lv' := [(3, .int (x3 + 1)), (2, .int ((10 : Int32) * x2)), (0, .int x0), (1, .int x1)]) C dJ6_stringSize_0f7a4_36 3 rfl rfl (by decide) rfl ?_
          refine x_goto (tgt := 16) C dJ6_stringSize_0f7a4_39 (by decide) ?_
          refine x_locals (lv' := [(0, .int x0), (1, .int x1), (2, .int ((10 : Int32) * x2)), (3, .int (x3 + 1))]) [2, 3, 1, 0] rfl ?_
          exact ih x0 x1 ((10 : Int32) * x2) (x3 + 1) hf
        · have hf := x_f h2 hf
          refine x_iload_n C dJ6_stringSize_0f7a4_27 rfl 3 rfl ?_
          refine x_iload_n C dJ6_stringSize_0f7a4_28 rfl 1 rfl ?_
          refine x_iadd C dJ6_stringSize_0f7a4_29 ?_
          exact x_iret C hr ⟨by cases hf; rfl, by cases hf; rfl⟩ dJ6_stringSize_0f7a4_30
  have hL11 : ∀ (x0 : Int32) (x1 : Int32), f_J6_stringSize_0f7a4_11 x0 x1 = some u → VW g (va_A ([] : List va_W).flatten sW.heap.size) 4 pW l eW ({ frames := 0, cells := 0, slots := 0, locals := 0 } : Room) sW mW argsW belowW methW c9 0 0 (MQ belowW (xQc g ([] : List va_W).flatten sW.heap.size (fun v9 w9 => v9 = some (.int u) ∧ w9 = ([] : List va_W).flatten)) argsW sW 0 0 (va_A ([] : List va_W).flatten sW.heap.size)) [] [(0, .int x0), (1, .int x1)] 11 [] := by
    intro x0 x1 hf
    unfold f_J6_stringSize_0f7a4_11 at hf
    refine x_bipush (v := (-10)) C dJ6_stringSize_0f7a4_11 (by decide) ?_
    refine x_istore_n (lv' := [(2, .int (-10 : Int32)), (0, .int x0), (1, .int x1)]) C dJ6_stringSize_0f7a4_13 rfl (by decide) rfl ?_
    refine x_iconst (v := 1) C dJ6_stringSize_0f7a4_14 (by decide) ?_
    refine x_istore_n (lv' := [(3, .int (1 : Int32)), (2, .int (-10 : Int32)), (0, .int x0), (1, .int x1)]) C dJ6_stringSize_0f7a4_15 rfl (by decide) rfl ?_
    refine x_locals (lv' := [(0, .int x0), (1, .int x1), (2, .int (-10 : Int32)), (3, .int (1 : Int32))]) [2, 3, 1, 0] rfl ?_
    exact hL16 xFuel x0 x1 (-10 : Int32) (1 : Int32) hf
  refine x_iconst (v := 1) C dJ6_stringSize_0f7a4_0 (by decide) ?_
  refine x_istore_n (lv' := [(1, .int (1 : Int32)), (0, .int x0)]) C dJ6_stringSize_0f7a4_1 rfl (by decide) rfl ?_
  refine x_iload_n C dJ6_stringSize_0f7a4_2 rfl 1 rfl ?_
  refine x_if_lt (tgt := 11) C dJ6_stringSize_0f7a4_3 (by decide) (fun h1 => ?_) (fun h1 => ?_)
  · have hf := x_t h1 hf
    refine x_locals (lv' := [(0, .int x0), (1, .int (1 : Int32))]) [1, 0] rfl ?_
    exact hL11 x0 (1 : Int32) hf
  · have hf := x_f h1 hf
    refine x_iconst (v := 0) C dJ6_stringSize_0f7a4_6 (by decide) ?_
    refine x_istore_n (lv' := [(1, .int (0 : Int32)), (0, .int x0)]) C dJ6_stringSize_0f7a4_7 rfl (by decide) rfl ?_
    refine x_iload_n C dJ6_stringSize_0f7a4_8 rfl 1 rfl ?_
    refine x_ineg C dJ6_stringSize_0f7a4_9 ?_
    refine x_istore_n (lv' := [(0, .int (-x0)), (1, .int (0 : Int32))]) C dJ6_stringSize_0f7a4_10 rfl (by decide) rfl ?_
    exact hL11 (-x0) (0 : Int32) hf
theorem wd_400 : Cond.fieldLink RJ6 83 "java/lang/Integer" "DigitOnes" "[B" ∈ xTB := xTB_in 400 (by decide +kernel) (by decide +kernel)
theorem wd_402 : Cond.fieldLink RJ6 87 "java/lang/Integer" "DigitTens" "[B" ∈ xTB := xTB_in 402 (by decide +kernel) (by decide +kernel)
theorem dJ6_getChars_ba4f3_0 : decode cJ6_getChars_ba4f3 0 = .ok (.iload_n 1, 1) := by decide +kernel
theorem dJ6_getChars_ba4f3_1 : decode cJ6_getChars_ba4f3 1 = .ok (.istore 5, 2) := by decide +kernel
theorem dJ6_getChars_ba4f3_3 : decode cJ6_getChars_ba4f3 3 = .ok (.iload_n 0, 1) := by decide +kernel
theorem dJ6_getChars_ba4f3_4 : decode cJ6_getChars_ba4f3 4 = .ok (.ifCond .ge 7, 3) := by decide +kernel
theorem dJ6_getChars_ba4f3_7 : decode cJ6_getChars_ba4f3 7 = .ok (.iconst 1, 1) := by decide +kernel
theorem dJ6_getChars_ba4f3_8 : decode cJ6_getChars_ba4f3 8 = .ok (.goto 4, 3) := by decide +kernel
theorem dJ6_getChars_ba4f3_11 : decode cJ6_getChars_ba4f3 11 = .ok (.iconst 0, 1) := by decide +kernel
theorem dJ6_getChars_ba4f3_12 : decode cJ6_getChars_ba4f3 12 = .ok (.istore 6, 2) := by decide +kernel
theorem dJ6_getChars_ba4f3_14 : decode cJ6_getChars_ba4f3 14 = .ok (.iload 6, 2) := by decide +kernel
theorem dJ6_getChars_ba4f3_16 : decode cJ6_getChars_ba4f3 16 = .ok (.ifCond .ne 6, 3) := by decide +kernel
theorem dJ6_getChars_ba4f3_19 : decode cJ6_getChars_ba4f3 19 = .ok (.iload_n 0, 1) := by decide +kernel
theorem dJ6_getChars_ba4f3_20 : decode cJ6_getChars_ba4f3 20 = .ok (.ineg, 1) := by decide +kernel
theorem dJ6_getChars_ba4f3_21 : decode cJ6_getChars_ba4f3 21 = .ok (.istore_n 0, 1) := by decide +kernel
theorem dJ6_getChars_ba4f3_22 : decode cJ6_getChars_ba4f3 22 = .ok (.iload_n 0, 1) := by decide +kernel
theorem dJ6_getChars_ba4f3_23 : decode cJ6_getChars_ba4f3 23 = .ok (.bipush (-100), 2) := by decide +kernel
theorem dJ6_getChars_ba4f3_25 : decode cJ6_getChars_ba4f3 25 = .ok (.if_icmp .gt 47, 3) := by decide +kernel
theorem dJ6_getChars_ba4f3_28 : decode cJ6_getChars_ba4f3 28 = .ok (.iload_n 0, 1) := by decide +kernel
theorem dJ6_getChars_ba4f3_29 : decode cJ6_getChars_ba4f3 29 = .ok (.bipush 100, 2) := by decide +kernel
theorem dJ6_getChars_ba4f3_31 : decode cJ6_getChars_ba4f3 31 = .ok (.idiv, 1) := by decide +kernel
theorem dJ6_getChars_ba4f3_32 : decode cJ6_getChars_ba4f3 32 = .ok (.istore_n 3, 1) := by decide +kernel
theorem dJ6_getChars_ba4f3_33 : decode cJ6_getChars_ba4f3 33 = .ok (.iload_n 3, 1) := by decide +kernel
theorem dJ6_getChars_ba4f3_34 : decode cJ6_getChars_ba4f3 34 = .ok (.bipush 100, 2) := by decide +kernel
theorem dJ6_getChars_ba4f3_36 : decode cJ6_getChars_ba4f3 36 = .ok (.imul, 1) := by decide +kernel
theorem dJ6_getChars_ba4f3_37 : decode cJ6_getChars_ba4f3 37 = .ok (.iload_n 0, 1) := by decide +kernel
theorem dJ6_getChars_ba4f3_38 : decode cJ6_getChars_ba4f3 38 = .ok (.isub, 1) := by decide +kernel
theorem dJ6_getChars_ba4f3_39 : decode cJ6_getChars_ba4f3 39 = .ok (.istore 4, 2) := by decide +kernel
theorem dJ6_getChars_ba4f3_41 : decode cJ6_getChars_ba4f3 41 = .ok (.iload_n 3, 1) := by decide +kernel
theorem dJ6_getChars_ba4f3_42 : decode cJ6_getChars_ba4f3 42 = .ok (.istore_n 0, 1) := by decide +kernel
theorem dJ6_getChars_ba4f3_43 : decode cJ6_getChars_ba4f3 43 = .ok (.aload_n 2, 1) := by decide +kernel
theorem dJ6_getChars_ba4f3_44 : decode cJ6_getChars_ba4f3 44 = .ok (.iinc 5 (-1), 3) := by decide +kernel
theorem dJ6_getChars_ba4f3_47 : decode cJ6_getChars_ba4f3 47 = .ok (.iload 5, 2) := by decide +kernel
theorem dJ6_getChars_ba4f3_49 : decode cJ6_getChars_ba4f3 49 = .ok (.getstatic 83, 3) := by decide +kernel
theorem dJ6_getChars_ba4f3_52 : decode cJ6_getChars_ba4f3 52 = .ok (.iload 4, 2) := by decide +kernel
theorem dJ6_getChars_ba4f3_54 : decode cJ6_getChars_ba4f3 54 = .ok (.baload, 1) := by decide +kernel
theorem dJ6_getChars_ba4f3_55 : decode cJ6_getChars_ba4f3 55 = .ok (.bastore, 1) := by decide +kernel
theorem dJ6_getChars_ba4f3_56 : decode cJ6_getChars_ba4f3 56 = .ok (.aload_n 2, 1) := by decide +kernel
theorem dJ6_getChars_ba4f3_57 : decode cJ6_getChars_ba4f3 57 = .ok (.iinc 5 (-1), 3) := by decide +kernel
theorem dJ6_getChars_ba4f3_60 : decode cJ6_getChars_ba4f3 60 = .ok (.iload 5, 2) := by decide +kernel
theorem dJ6_getChars_ba4f3_62 : decode cJ6_getChars_ba4f3 62 = .ok (.getstatic 87, 3) := by decide +kernel
theorem dJ6_getChars_ba4f3_65 : decode cJ6_getChars_ba4f3 65 = .ok (.iload 4, 2) := by decide +kernel
theorem dJ6_getChars_ba4f3_67 : decode cJ6_getChars_ba4f3 67 = .ok (.baload, 1) := by decide +kernel
theorem dJ6_getChars_ba4f3_68 : decode cJ6_getChars_ba4f3 68 = .ok (.bastore, 1) := by decide +kernel
theorem dJ6_getChars_ba4f3_69 : decode cJ6_getChars_ba4f3 69 = .ok (.goto (-47), 3) := by decide +kernel
theorem dJ6_getChars_ba4f3_72 : decode cJ6_getChars_ba4f3 72 = .ok (.aload_n 2, 1) := by decide +kernel
theorem dJ6_getChars_ba4f3_73 : decode cJ6_getChars_ba4f3 73 = .ok (.iinc 5 (-1), 3) := by decide +kernel
theorem dJ6_getChars_ba4f3_76 : decode cJ6_getChars_ba4f3 76 = .ok (.iload 5, 2) := by decide +kernel
theorem dJ6_getChars_ba4f3_78 : decode cJ6_getChars_ba4f3 78 = .ok (.getstatic 83, 3) := by decide +kernel
theorem dJ6_getChars_ba4f3_81 : decode cJ6_getChars_ba4f3 81 = .ok (.iload_n 0, 1) := by decide +kernel
theorem dJ6_getChars_ba4f3_82 : decode cJ6_getChars_ba4f3 82 = .ok (.ineg, 1) := by decide +kernel
theorem dJ6_getChars_ba4f3_83 : decode cJ6_getChars_ba4f3 83 = .ok (.baload, 1) := by decide +kernel
theorem dJ6_getChars_ba4f3_84 : decode cJ6_getChars_ba4f3 84 = .ok (.bastore, 1) := by decide +kernel
theorem dJ6_getChars_ba4f3_85 : decode cJ6_getChars_ba4f3 85 = .ok (.iload_n 0, 1) := by decide +kernel
theorem dJ6_getChars_ba4f3_86 : decode cJ6_getChars_ba4f3 86 = .ok (.bipush (-9), 2) := by decide +kernel
theorem dJ6_getChars_ba4f3_88 : decode cJ6_getChars_ba4f3 88 = .ok (.if_icmp .ge 16, 3) := by decide +kernel
theorem dJ6_getChars_ba4f3_91 : decode cJ6_getChars_ba4f3 91 = .ok (.aload_n 2, 1) := by decide +kernel
theorem dJ6_getChars_ba4f3_92 : decode cJ6_getChars_ba4f3 92 = .ok (.iinc 5 (-1), 3) := by decide +kernel
theorem dJ6_getChars_ba4f3_95 : decode cJ6_getChars_ba4f3 95 = .ok (.iload 5, 2) := by decide +kernel
theorem dJ6_getChars_ba4f3_97 : decode cJ6_getChars_ba4f3 97 = .ok (.getstatic 87, 3) := by decide +kernel
theorem dJ6_getChars_ba4f3_100 : decode cJ6_getChars_ba4f3 100 = .ok (.iload_n 0, 1) := by decide +kernel
theorem dJ6_getChars_ba4f3_101 : decode cJ6_getChars_ba4f3 101 = .ok (.ineg, 1) := by decide +kernel
theorem dJ6_getChars_ba4f3_102 : decode cJ6_getChars_ba4f3 102 = .ok (.baload, 1) := by decide +kernel
theorem dJ6_getChars_ba4f3_103 : decode cJ6_getChars_ba4f3 103 = .ok (.bastore, 1) := by decide +kernel
theorem dJ6_getChars_ba4f3_104 : decode cJ6_getChars_ba4f3 104 = .ok (.iload 6, 2) := by decide +kernel
theorem dJ6_getChars_ba4f3_106 : decode cJ6_getChars_ba4f3 106 = .ok (.ifCond .eq 12, 3) := by decide +kernel
theorem dJ6_getChars_ba4f3_109 : decode cJ6_getChars_ba4f3 109 = .ok (.aload_n 2, 1) := by decide +kernel
theorem dJ6_getChars_ba4f3_110 : decode cJ6_getChars_ba4f3 110 = .ok (.iinc 5 (-1), 3) := by decide +kernel
theorem dJ6_getChars_ba4f3_113 : decode cJ6_getChars_ba4f3 113 = .ok (.iload 5, 2) := by decide +kernel
theorem dJ6_getChars_ba4f3_115 : decode cJ6_getChars_ba4f3 115 = .ok (.bipush 45, 2) := by decide +kernel
theorem dJ6_getChars_ba4f3_117 : decode cJ6_getChars_ba4f3 117 = .ok (.bastore, 1) := by decide +kernel
theorem dJ6_getChars_ba4f3_118 : decode cJ6_getChars_ba4f3 118 = .ok (.iload 5, 2) := by decide +kernel
theorem dJ6_getChars_ba4f3_120 : decode cJ6_getChars_ba4f3 120 = .ok (.ireturn, 1) := by decide +kernel
set_option maxHeartbeats 4000000 in
set_option maxRecDepth 100000 in
theorem c_J6_getChars_ba4f3 (g : xG) (l : Launch) (z : Nat) (n : Nat) (f : (Nat → Int32)) (x0 : Int32) (x1 : Int32) {u : Int32 × (Nat → Int32)} (hf : f_J6_getChars_ba4f3 n f x0 x1 = some u) : ConD g l yJ6_getChars_ba4f3 cJ6_getChars_ba4f3 7 (some .int) ({ frames := 0, cells := 0, slots := 0, locals := 0 } : Room) [.int x0, .int x1, .ref z] [baW g z n f] (some (.int u.1)) [baW g z n u.2] := by
  unfold f_J6_getChars_ba4f3 at hf
  refine Con_of [baW g z n f] [(0, .int x0), (1, .int x1), (2, .ref z)] rfl rfl (by decide) (Nat.le_of_ble_eq_true rfl) ?_
  intro pW eW sW mW argsW belowW methW c9 C hnm hr
  have C : CX g RJ6 cJ6_getChars_ba4f3 7 _ pW sW mW argsW methW c9 := C
  have hL104 : ∀ (fL : (Nat → Int32)) (x5 : Int32) (x6 : Int32), f_J6_getChars_ba4f3_104 n fL x5 x6 = some u → VW g (va_A ([baW g z n f] : List va_W).flatten sW.heap.size) 7 pW l eW ({ frames := 0, cells := 0, slots := 0, locals := 0 } : Room) sW mW argsW belowW methW c9 0 0 (MQ belowW (xQc g ([baW g z n f] : List va_W).flatten sW.heap.size (fun v9 w9 => v9 = some (.int u.1) ∧ w9 = ([baW g z n u.2] : List va_W).flatten)) argsW sW 0 0 (va_A ([baW g z n f] : List va_W).flatten sW.heap.size)) [baW g z n fL] [(2, .ref z), (5, .int x5), (6, .int x6)] 104 [] := by
    intro fL x5 x6 hf
    unfold f_J6_getChars_ba4f3_104 at hf
    refine x_iload C dJ6_getChars_ba4f3_104 2 rfl ?_
    refine x_if_eq (tgt := 118) C dJ6_getChars_ba4f3_106 (by decide) (fun h1 => ?_) (fun h1 => ?_)
    · have hf := x_t h1 hf
      refine x_iload C dJ6_getChars_ba4f3_118 1 rfl ?_
      exact x_iret C hr ⟨by obtain rfl := Option.some.inj hf; rfl, by obtain rfl := Option.some.inj hf; rfl⟩ dJ6_getChars_ba4f3_120
    · have hf := x_f h1 hf
      refine x_aload_n C dJ6_getChars_ba4f3_109 rfl 0 rfl ?_
      refine x_iinc (v := x5 + (-1)) (lv' := [(5, .int (x5 + (-1))), (2, .ref z), (6, .int x6)]) C dJ6_getChars_ba4f3_110 1 rfl rfl (by decide) rfl ?_
      refine x_iload C dJ6_getChars_ba4f3_113 0 rfl ?_
      refine x_bipush (v := 45) C dJ6_getChars_ba4f3_115 (by decide) ?_
      obtain ⟨h2, hf⟩ := x_n hf
      refine x_bast (b := baW g z n fL) (b' := baW g z n (upd fL (x5 + (-1)).toNatClampNeg (vp_nar .byte (45 : Int32)))) (wss' := [baW g z n (upd fL (x5 + (-1)).toNatClampNeg (vp_nar .byte (45 : Int32)))]) C 0 rfl 0 (baW_at0 g z n _) h2 rfl rfl dJ6_getChars_ba4f3_117 ?_
      refine x_iload C dJ6_getChars_ba4f3_118 0 rfl ?_
      exact x_iret C hr ⟨by obtain rfl := Option.some.inj hf; rfl, by obtain rfl := Option.some.inj hf; rfl⟩ dJ6_getChars_ba4f3_120
  have hL22 : ∀ (nW : Nat) (fL : (Nat → Int32)) (x0 : Int32) (x5 : Int32) (x6 : Int32), f_J6_getChars_ba4f3_22 n nW fL x0 x5 x6 = some u → VW g (va_A ([baW g z n f] : List va_W).flatten sW.heap.size) 7 pW l eW ({ frames := 0, cells := 0, slots := 0, locals := 0 } : Room) sW mW argsW belowW methW c9 0 0 (MQ belowW (xQc g ([baW g z n f] : List va_W).flatten sW.heap.size (fun v9 w9 => v9 = some (.int u.1) ∧ w9 = ([baW g z n u.2] : List va_W).flatten)) argsW sW 0 0 (va_A ([baW g z n f] : List va_W).flatten sW.heap.size)) [baW g z n fL] [(0, .int x0), (2, .ref z), (5, .int x5), (6, .int x6)] 22 [] := by
    intro nW
    induction nW with
    | zero => intro fL x0 x5 x6 hf; rw [f_J6_getChars_ba4f3_22] at hf; cases hf
    | succ nW ih =>
      intro fL x0 x5 x6 hf
      rw [f_J6_getChars_ba4f3_22] at hf
      refine x_iload_n C dJ6_getChars_ba4f3_22 rfl 0 rfl ?_
      refine x_bipush (v := (-100)) C dJ6_getChars_ba4f3_23 (by decide) ?_
      refine x_icmp_gt (tgt := 72) C dJ6_getChars_ba4f3_25 (by decide) (fun h1 => ?_) (fun h1 => ?_)
      · have hf := x_t h1 hf
        refine x_aload_n C dJ6_getChars_ba4f3_72 rfl 1 rfl ?_
        refine x_iinc (v := x5 + (-1)) (lv' := [(5, .int (x5 + (-1))), (0, .int x0), (2, .ref z), (6, .int x6)]) C dJ6_getChars_ba4f3_73 2 rfl rfl (by decide) rfl ?_
        refine x_iload C dJ6_getChars_ba4f3_76 0 rfl ?_
        refine x_gets (Cn := "java/lang/Integer") (n := "DigitOnes") (d := "[B") C (CX_do C) wd_400 (fun _ h => h) dJ6_getChars_ba4f3_78 ?_
        refine x_iload_n C dJ6_getChars_ba4f3_81 rfl 1 rfl ?_
        refine x_ineg C dJ6_getChars_ba4f3_82 ?_
        obtain ⟨h2, hf⟩ := x_n hf
        refine x_stb (f := fun j => dgO.getD j 0) C (CX_tdo C) h2 dJ6_getChars_ba4f3_83 ?_
        obtain ⟨h3, hf⟩ := x_n hf
        refine x_bast (b := baW g z n fL) (b' := baW g z n (upd fL (x5 + (-1)).toNatClampNeg (vp_nar .byte (dgO.getD (-x0).toNatClampNeg 0)))) (wss' := [baW g z n (upd fL (x5 + (-1)).toNatClampNeg (vp_nar .byte (dgO.getD (-x0).toNatClampNeg 0)))]) C 0 rfl 0 (baW_at0 g z n _) h3 rfl rfl dJ6_getChars_ba4f3_84 ?_
        refine x_iload_n C dJ6_getChars_ba4f3_85 rfl 1 rfl ?_
        refine x_bipush (v := (-9)) C dJ6_getChars_ba4f3_86 (by decide) ?_
        refine x_icmp_ge (tgt := 104) C dJ6_getChars_ba4f3_88 (by decide) (fun h4 => ?_) (fun h4 => ?_)
        · have hf := x_t h4 hf
          refine x_locals (lv' := [(2, .ref z), (5, .int (x5 + (-1))), (6, .int x6)]) [2, 0, 3] rfl ?_
          exact hL104 (upd fL (x5 + (-1)).toNatClampNeg (vp_nar .byte (dgO.getD (-x0).toNatClampNeg 0))) (x5 + (-1)) x6 hf
        · have hf := x_f h4 hf
          refine x_aload_n C dJ6_getChars_ba4f3_91 rfl 2 rfl ?_
          refine x_iinc (v := (x5 + (-1)) + (-1)) (lv' := [(5, .int ((x5 + (-1)) + (-1))), (0, .int x0), (2, .ref z), (6, .int x6)]) C dJ6_getChars_ba4f3_92 0 rfl rfl (by decide) rfl ?_
          refine x_iload C dJ6_getChars_ba4f3_95 0 rfl ?_
          refine x_gets (Cn := "java/lang/Integer") (n := "DigitTens") (d := "[B") C (CX_dt C) wd_402 (fun _ h => h) dJ6_getChars_ba4f3_97 ?_
          refine x_iload_n C dJ6_getChars_ba4f3_100 rfl 1 rfl ?_
          refine x_ineg C dJ6_getChars_ba4f3_101 ?_
          obtain ⟨h5, hf⟩ := x_n hf
          refine x_stb (f := fun j => dgT.getD j 0) C (CX_tdt C) h5 dJ6_getChars_ba4f3_102 ?_
          obtain ⟨h6, hf⟩ := x_n hf
          refine x_bast (b := baW g z n (upd fL (x5 + (-1)).toNatClampNeg (vp_nar .byte (dgO.getD (-x0).toNatClampNeg 0)))) (b' := baW g z n (upd (upd fL (x5 + (-1)).toNatClampNeg (vp_nar .byte (dgO.getD (-x0).toNatClampNeg 0))) ((x5 + (-1)) + (-1)).toNatClampNeg (vp_nar .byte (dgT.getD (-x0).toNatClampNeg 0)))) (wss' := [baW g z n (upd (upd fL (x5 + (-1)).toNatClampNeg (vp_nar .byte (dgO.getD (-x0).toNatClampNeg 0))) ((x5 + (-1)) + (-1)).toNatClampNeg (vp_nar .byte (dgT.getD (-x0).toNatClampNeg 0)))]) C 0 rfl 0 (baW_at0 g z n _) h6 rfl rfl dJ6_getChars_ba4f3_103 ?_
          refine x_locals (lv' := [(2, .ref z), (5, .int ((x5 + (-1)) + (-1))), (6, .int x6)]) [2, 0, 3] rfl ?_
          exact hL104 (upd (upd fL (x5 + (-1)).toNatClampNeg (vp_nar .byte (dgO.getD (-x0).toNatClampNeg 0))) ((x5 + (-1)) + (-1)).toNatClampNeg (vp_nar .byte (dgT.getD (-x0).toNatClampNeg 0))) ((x5 + (-1)) + (-1)) x6 hf
      · have hf := x_f h1 hf
        refine x_iload_n C dJ6_getChars_ba4f3_28 rfl 0 rfl ?_
        refine x_bipush (v := 100) C dJ6_getChars_ba4f3_29 (by decide) ?_
        obtain ⟨h7, hf⟩ := x_n hf
        refine x_idiv C dJ6_getChars_ba4f3_31 h7 ?_
        refine x_istore_n (lv' := [(3, .int (x0 / (100 : Int32))), (0, .int x0), (2, .ref z), (5, .int x5), (6, .int x6)]) C dJ6_getChars_ba4f3_32 rfl (by decide) rfl ?_
        refine x_iload_n C dJ6_getChars_ba4f3_33 rfl 0 rfl ?_
        refine x_bipush (v := 100) C dJ6_getChars_ba4f3_34 (by decide) ?_
        refine x_imul C dJ6_getChars_ba4f3_36 ?_
        refine x_iload_n C dJ6_getChars_ba4f3_37 rfl 1 rfl ?_
        refine x_isub C dJ6_getChars_ba4f3_38 ?_
        refine x_istore (lv' := [(4, .int (((x0 / (100 : Int32)) * (100 : Int32)) - x0)), (3, .int (x0 / (100 : Int32))), (0, .int x0), (2, .ref z), (5, .int x5), (6, .int x6)]) C dJ6_getChars_ba4f3_39 (by decide) rfl ?_
        refine x_iload_n C dJ6_getChars_ba4f3_41 rfl 1 rfl ?_
        refine x_istore_n (lv' := [(0, .int (x0 / (100 : Int32))), (4, .int (((x0 / (100 : Int32)) * (100 : Int32)) - x0)), (3, .int (x0 / (100 : Int32))), (2, .ref z), (5, .int x5), (6, .int x6)]) C dJ6_getChars_ba4f3_42 rfl (by decide) rfl ?_
        refine x_aload_n C dJ6_getChars_ba4f3_43 rfl 3 rfl ?_
        refine x_iinc (v := x5 + (-1)) (lv' := [(5, .int (x5 + (-1))), (0, .int (x0 / (100 : Int32))), (4, .int (((x0 / (100 : Int32)) * (100 : Int32)) - x0)), (3, .int (x0 / (100 : Int32))), (2, .ref z), (6, .int x6)]) C dJ6_getChars_ba4f3_44 4 rfl rfl (by decide) rfl ?_
        refine x_iload C dJ6_getChars_ba4f3_47 0 rfl ?_
        refine x_gets (Cn := "java/lang/Integer") (n := "DigitOnes") (d := "[B") C (CX_do C) wd_400 (fun _ h => h) dJ6_getChars_ba4f3_49 ?_
        refine x_iload C dJ6_getChars_ba4f3_52 2 rfl ?_
        obtain ⟨h8, hf⟩ := x_n hf
        refine x_stb (f := fun j => dgO.getD j 0) C (CX_tdo C) h8 dJ6_getChars_ba4f3_54 ?_
        obtain ⟨h9, hf⟩ := x_n hf
        refine x_bast (b := baW g z n fL) (b' := baW g z n (upd fL (x5 + (-1)).toNatClampNeg (vp_nar .byte (dgO.getD (((x0 / (100 : Int32)) * (100 : Int32)) - x0).toNatClampNeg 0)))) (wss' := [baW g z n (upd fL (x5 + (-1)).toNatClampNeg (vp_nar .byte (dgO.getD (((x0 / (100 : Int32)) * (100 : Int32)) - x0).toNatClampNeg 0)))]) C 0 rfl 0 (baW_at0 g z n _) h9 rfl rfl dJ6_getChars_ba4f3_55 ?_
        refine x_aload_n C dJ6_getChars_ba4f3_56 rfl 4 rfl ?_
        refine x_iinc (v := (x5 + (-1)) + (-1)) (lv' := [(5, .int ((x5 + (-1)) + (-1))), (0, .int (x0 / (100 : Int32))), (4, .int (((x0 / (100 : Int32)) * (100 : Int32)) - x0)), (3, .int (x0 / (100 : Int32))), (2, .ref z), (6, .int x6)]) C dJ6_getChars_ba4f3_57 0 rfl rfl (by decide) rfl ?_
        refine x_iload C dJ6_getChars_ba4f3_60 0 rfl ?_
        refine x_gets (Cn := "java/lang/Integer") (n := "DigitTens") (d := "[B") C (CX_dt C) wd_402 (fun _ h => h) dJ6_getChars_ba4f3_62 ?_
        refine x_iload C dJ6_getChars_ba4f3_65 2 rfl ?_
        obtain ⟨h10, hf⟩ := x_n hf
        refine x_stb (f := fun j => dgT.getD j 0) C (CX_tdt C) h10 dJ6_getChars_ba4f3_67 ?_
        obtain ⟨h11, hf⟩ := x_n hf
        refine x_bast (b := baW g z n (upd fL (x5 + (-1)).toNatClampNeg (vp_nar .byte (dgO.getD (((x0 / (100 : Int32)) * (100 : Int32)) - x0).toNatClampNeg 0)))) (b' := baW g z n (upd (upd fL (x5 + (-1)).toNatClampNeg (vp_nar .byte (dgO.getD (((x0 / (100 : Int32)) * (100 : Int32)) - x0).toNatClampNeg 0))) ((x5 + (-1)) + (-1)).toNatClampNeg (vp_nar .byte (dgT.getD (((x0 / (100 : Int32)) * (100 : Int32)) - x0).toNatClampNeg 0)))) (wss' := [baW g z n (upd (upd fL (x5 + (-1)).toNatClampNeg (vp_nar .byte (dgO.getD (((x0 / (100 : Int32)) * (100 : Int32)) - x0).toNatClampNeg 0))) ((x5 + (-1)) + (-1)).toNatClampNeg (vp_nar .byte (dgT.getD (((x0 / (100 : Int32)) * (100 : Int32)) - x0).toNatClampNeg 0)))]) C 0 rfl 0 (baW_at0 g z n _) h11 rfl rfl dJ6_getChars_ba4f3_68 ?_
        refine x_goto (tgt := 22) C dJ6_getChars_ba4f3_69 (by decide) ?_
        refine x_locals (lv' := [(0, .int (x0 / (100 : Int32))), (2, .ref z), (5, .int ((x5 + (-1)) + (-1))), (6, .int x6)]) [1, 4, 0, 5] rfl ?_
        exact ih (upd (upd fL (x5 + (-1)).toNatClampNeg (vp_nar .byte (dgO.getD (((x0 / (100 : Int32)) * (100 : Int32)) - x0).toNatClampNeg 0))) ((x5 + (-1)) + (-1)).toNatClampNeg (vp_nar .byte (dgT.getD (((x0 / (100 : Int32)) * (100 : Int32)) - x0).toNatClampNeg 0))) (x0 / (100 : Int32)) ((x5 + (-1)) + (-1)) x6 hf
  have hL12 : ∀ (fL : (Nat → Int32)) (x0 : Int32) (x5 : Int32) (y0 : Int32), f_J6_getChars_ba4f3_12 n fL x0 x5 y0 = some u → VW g (va_A ([baW g z n f] : List va_W).flatten sW.heap.size) 7 pW l eW ({ frames := 0, cells := 0, slots := 0, locals := 0 } : Room) sW mW argsW belowW methW c9 0 0 (MQ belowW (xQc g ([baW g z n f] : List va_W).flatten sW.heap.size (fun v9 w9 => v9 = some (.int u.1) ∧ w9 = ([baW g z n u.2] : List va_W).flatten)) argsW sW 0 0 (va_A ([baW g z n f] : List va_W).flatten sW.heap.size)) [baW g z n fL] [(0, .int x0), (2, .ref z), (5, .int x5)] 12 [.int y0] := by
    intro fL x0 x5 y0 hf
    unfold f_J6_getChars_ba4f3_12 at hf
    refine x_istore (lv' := [(6, .int y0), (0, .int x0), (2, .ref z), (5, .int x5)]) C dJ6_getChars_ba4f3_12 (by decide) rfl ?_
    refine x_iload C dJ6_getChars_ba4f3_14 0 rfl ?_
    refine x_if_ne (tgt := 22) C dJ6_getChars_ba4f3_16 (by decide) (fun h1 => ?_) (fun h1 => ?_)
    · have hf := x_f h1 hf
      refine x_locals (lv' := [(0, .int x0), (2, .ref z), (5, .int x5), (6, .int y0)]) [1, 2, 3, 0] rfl ?_
      exact hL22 xFuel fL x0 x5 y0 hf
    · have hf := x_t h1 hf
      refine x_iload_n C dJ6_getChars_ba4f3_19 rfl 1 rfl ?_
      refine x_ineg C dJ6_getChars_ba4f3_20 ?_
      refine x_istore_n (lv' := [(0, .int (-x0)), (6, .int y0), (2, .ref z), (5, .int x5)]) C dJ6_getChars_ba4f3_21 rfl (by decide) rfl ?_
      refine x_locals (lv' := [(0, .int (-x0)), (2, .ref z), (5, .int x5), (6, .int y0)]) [0, 2, 3, 1] rfl ?_
      exact hL22 xFuel fL (-x0) x5 y0 hf
  refine x_iload_n C dJ6_getChars_ba4f3_0 rfl 1 rfl ?_
  refine x_istore (lv' := [(5, .int x1), (0, .int x0), (1, .int x1), (2, .ref z)]) C dJ6_getChars_ba4f3_1 (by decide) rfl ?_
  refine x_iload_n C dJ6_getChars_ba4f3_3 rfl 1 rfl ?_
  refine x_if_ge (tgt := 11) C dJ6_getChars_ba4f3_4 (by decide) (fun h1 => ?_) (fun h1 => ?_)
  · have hf := x_t h1 hf
    refine x_iconst (v := 0) C dJ6_getChars_ba4f3_11 (by decide) ?_
    refine x_locals (lv' := [(0, .int x0), (2, .ref z), (5, .int x1)]) [1, 3, 0] rfl ?_
    exact hL12 f x0 x1 (0 : Int32) hf
  · have hf := x_f h1 hf
    refine x_iconst (v := 1) C dJ6_getChars_ba4f3_7 (by decide) ?_
    refine x_goto (tgt := 12) C dJ6_getChars_ba4f3_8 (by decide) ?_
    refine x_locals (lv' := [(0, .int x0), (2, .ref z), (5, .int x1)]) [1, 3, 0] rfl ?_
    exact hL12 f x0 x1 (1 : Int32) hf
theorem wd_56 : Cond.initialized RJ6 ∈ xTB := xTB_in 56 (by decide +kernel) (by decide +kernel)
theorem wd_394 : Cond.methodLink RJ5 245 yJ6_stringSize_0f7a4 ∈ xTB := xTB_in 394 (by decide +kernel) (by decide +kernel)
theorem wd_395 : Cond.static yJ6_stringSize_0f7a4 ∈ xTB := xTB_in 395 (by decide +kernel) (by decide +kernel)
theorem wd_396 : Cond.code yJ6_stringSize_0f7a4 cJ6_stringSize_0f7a4 4 (some .int) ∈ xTB := xTB_in 396 (by decide +kernel) (by decide +kernel)
theorem wd_397 : Cond.methodLink RJ5 248 yJ6_getChars_ba4f3 ∈ xTB := xTB_in 397 (by decide +kernel) (by decide +kernel)
theorem wd_398 : Cond.static yJ6_getChars_ba4f3 ∈ xTB := xTB_in 398 (by decide +kernel) (by decide +kernel)
theorem wd_399 : Cond.code yJ6_getChars_ba4f3 cJ6_getChars_ba4f3 7 (some .int) ∈ xTB := xTB_in 399 (by decide +kernel) (by decide +kernel)
theorem dJ5_append_c97b9_0 : decode cJ5_append_c97b9 0 = .ok (.aload_n 0, 1) := by decide +kernel
theorem dJ5_append_c97b9_1 : decode cJ5_append_c97b9 1 = .ok (.getfield 79, 3) := by decide +kernel
theorem dJ5_append_c97b9_4 : decode cJ5_append_c97b9 4 = .ok (.istore_n 2, 1) := by decide +kernel
theorem dJ5_append_c97b9_5 : decode cJ5_append_c97b9 5 = .ok (.iload_n 2, 1) := by decide +kernel
theorem dJ5_append_c97b9_6 : decode cJ5_append_c97b9 6 = .ok (.iload_n 1, 1) := by decide +kernel
theorem dJ5_append_c97b9_7 : decode cJ5_append_c97b9 7 = .ok (.invokestatic 245, 3) := by decide +kernel
theorem dJ5_append_c97b9_10 : decode cJ5_append_c97b9 10 = .ok (.iadd, 1) := by decide +kernel
theorem dJ5_append_c97b9_11 : decode cJ5_append_c97b9 11 = .ok (.istore_n 3, 1) := by decide +kernel
theorem dJ5_append_c97b9_12 : decode cJ5_append_c97b9 12 = .ok (.aload_n 0, 1) := by decide +kernel
theorem dJ5_append_c97b9_13 : decode cJ5_append_c97b9 13 = .ok (.iload_n 3, 1) := by decide +kernel
theorem dJ5_append_c97b9_14 : decode cJ5_append_c97b9 14 = .ok (.invokevirtual 100, 3) := by decide +kernel
theorem dJ5_append_c97b9_17 : decode cJ5_append_c97b9 17 = .ok (.aload_n 0, 1) := by decide +kernel
theorem dJ5_append_c97b9_18 : decode cJ5_append_c97b9 18 = .ok (.invokevirtual 83, 3) := by decide +kernel
theorem dJ5_append_c97b9_21 : decode cJ5_append_c97b9 21 = .ok (.ifCond .eq 16, 3) := by decide +kernel
theorem dJ5_append_c97b9_24 : decode cJ5_append_c97b9 24 = .ok (.iload_n 1, 1) := by decide +kernel
theorem dJ5_append_c97b9_25 : decode cJ5_append_c97b9 25 = .ok (.iload_n 3, 1) := by decide +kernel
theorem dJ5_append_c97b9_26 : decode cJ5_append_c97b9 26 = .ok (.aload_n 0, 1) := by decide +kernel
theorem dJ5_append_c97b9_27 : decode cJ5_append_c97b9 27 = .ok (.getfield 15, 3) := by decide +kernel
theorem dJ5_append_c97b9_30 : decode cJ5_append_c97b9 30 = .ok (.invokestatic 248, 3) := by decide +kernel
theorem dJ5_append_c97b9_33 : decode cJ5_append_c97b9 33 = .ok (.pop, 1) := by decide +kernel
theorem dJ5_append_c97b9_34 : decode cJ5_append_c97b9 34 = .ok (.goto 14, 3) := by decide +kernel
theorem dJ5_append_c97b9_37 : decode cJ5_append_c97b9 37 = .ok (.iload_n 1, 1) := by decide +kernel
theorem dJ5_append_c97b9_38 : decode cJ5_append_c97b9 38 = .ok (.iload_n 2, 1) := by decide +kernel
theorem dJ5_append_c97b9_39 : decode cJ5_append_c97b9 39 = .ok (.iload_n 3, 1) := by decide +kernel
theorem dJ5_append_c97b9_40 : decode cJ5_append_c97b9 40 = .ok (.aload_n 0, 1) := by decide +kernel
theorem dJ5_append_c97b9_41 : decode cJ5_append_c97b9 41 = .ok (.getfield 15, 3) := by decide +kernel
theorem dJ5_append_c97b9_44 : decode cJ5_append_c97b9 44 = .ok (.invokestatic 251, 3) := by decide +kernel
theorem dJ5_append_c97b9_47 : decode cJ5_append_c97b9 47 = .ok (.pop, 1) := by decide +kernel
theorem dJ5_append_c97b9_48 : decode cJ5_append_c97b9 48 = .ok (.aload_n 0, 1) := by decide +kernel
theorem dJ5_append_c97b9_49 : decode cJ5_append_c97b9 49 = .ok (.iload_n 3, 1) := by decide +kernel
theorem dJ5_append_c97b9_50 : decode cJ5_append_c97b9 50 = .ok (.putfield 79, 3) := by decide +kernel
theorem dJ5_append_c97b9_53 : decode cJ5_append_c97b9 53 = .ok (.aload_n 0, 1) := by decide +kernel
theorem dJ5_append_c97b9_54 : decode cJ5_append_c97b9 54 = .ok (.areturn, 1) := by decide +kernel
set_option maxHeartbeats 4000000 in
set_option maxRecDepth 100000 in
theorem c_J5_append_c97b9 (g : xG) (l : Launch) (y : Nat) (z : Nat) (n : Nat) (k : SbT) (f : (Nat → Int32)) (x1 : Int32) {u : SbT × (Nat → Int32)} (hf : f_J5_append_c97b9 n k f x1 = some u) : ConD g l yJ5_append_c97b9 cJ5_append_c97b9 4 (some (.object "java/lang/AbstractStringBuilder")) ({ frames := 4, cells := 0, slots := 0, locals := 91 } : Room) [.ref y, .int x1] [sbO g y z k, baW g z n f] (some (.ref y)) [sbO g y z u.1, baW g z n u.2] := by
  unfold f_J5_append_c97b9 at hf
  refine Con_of [sbO g y z k, baW g z n f] [(0, .ref y), (1, .int x1)] rfl rfl (by decide) (Nat.le_of_ble_eq_true rfl) ?_
  intro pW eW sW mW argsW belowW methW c9 C hnm hr
  have C : CX g RJ5 cJ5_append_c97b9 4 _ pW sW mW argsW methW c9 := C
  refine x_aload_n C dJ5_append_c97b9_0 rfl 0 rfl ?_
  refine x_get (ci := 1) (v := .int k.2) (b := sbO g y z k) C ixJ4 rfl 3 (by decide) wd_259 (fun _ h => h) 0 rfl 0 (sbO_at0 g y z _) rfl dJ5_append_c97b9_1 ?_
  refine x_istore_n (lv' := [(2, .int k.2), (0, .ref y), (1, .int x1)]) C dJ5_append_c97b9_4 rfl (by decide) rfl ?_
  refine x_iload_n C dJ5_append_c97b9_5 rfl 0 rfl ?_
  refine x_iload_n C dJ5_append_c97b9_6 rfl 2 rfl ?_
  obtain ⟨u1, hu1, hf⟩ := x_b hf
  refine x_callS (n := 1) (As := [.int x1]) (rest := [.int k.2]) C (c_J6_stringSize_0f7a4 g l x1 hu1) ⟨⟨wd_396, wd_394, wd_56⟩, ⟨by decide, by decide, by decide⟩, rfl, rfl, Nat.le_of_ble_eq_true rfl, Nat.le_of_ble_eq_true rfl⟩ wd_395 [sbO g y z k, baW g z n f] (x_pickD [0, 1] 2 rfl rfl rfl) rfl rfl (Nat.le_of_ble_eq_true rfl) ⟨Nat.le_of_ble_eq_true rfl, Nat.le_of_ble_eq_true rfl⟩ dJ5_append_c97b9_7 (x_goD (wss2 := [sbO g y z k, baW g z n f]) (stk2 := [.int u1, .int k.2]) rfl rfl ?_)
  refine x_iadd C dJ5_append_c97b9_10 ?_
  refine x_istore_n (lv' := [(3, .int (k.2 + u1)), (2, .int k.2), (0, .ref y), (1, .int x1)]) C dJ5_append_c97b9_11 rfl (by decide) rfl ?_
  refine x_aload_n C dJ5_append_c97b9_12 rfl 2 rfl ?_
  refine x_iload_n C dJ5_append_c97b9_13 rfl 0 rfl ?_
  obtain ⟨u2, hu2, hf⟩ := x_b hf
  refine x_callUP (Cn := RJ4) (n := 1) (As := [.int (k.2 + u1)]) (rest := []) C (c_J5_ensureCapacityInternal_d00df g l y z n k f (k.2 + u1) hu2) ⟨⟨wd_283, wd_280, wd_1388, ⟨rfl, by decide⟩, wd_282, wd_34⟩, ⟨by decide, by decide, by decide⟩, rfl, rfl, Nat.le_of_ble_eq_true rfl, Nat.le_of_ble_eq_true rfl⟩ ⟨0, 1, _, _, rfl, rfl, rfl⟩ [] (x_pickD [0, 1] 2 rfl rfl rfl) rfl rfl (Nat.le_of_ble_eq_true rfl) ⟨Nat.le_of_ble_eq_true rfl, Nat.le_of_ble_eq_true rfl⟩ dJ5_append_c97b9_14 (x_goD (wss2 := [sbO g y z k, baW g z n f]) (stk2 := []) rfl rfl ?_)
  refine x_aload_n C dJ5_append_c97b9_17 rfl 2 rfl ?_
  obtain ⟨u3, hu3, hf⟩ := x_b hf
  refine x_callUW (owner := RJ5) (Cn := RJ4) (n := 0) (As := []) (rest := []) C (c_J5_isLatin1_aae02 g l y z k hu3) ⟨⟨wd_317, wd_313, wd_315, wd_316, wd_314, wd_34⟩, rfl, ⟨by decide, by decide, by decide⟩, rfl, rfl, Nat.le_of_ble_eq_true rfl, Nat.le_of_ble_eq_true rfl⟩ ⟨0, 1, _, _, rfl, rfl, rfl⟩ [baW g z n f] (x_pickD [0, 1] 2 rfl rfl rfl) rfl rfl (Nat.le_of_ble_eq_true rfl) ⟨Nat.le_of_ble_eq_true rfl, Nat.le_of_ble_eq_true rfl⟩ dJ5_append_c97b9_18 (x_goD (wss2 := [sbO g y z k, baW g z n f]) (stk2 := [.int u3]) rfl rfl ?_)
  refine x_if_eq (tgt := 37) C dJ5_append_c97b9_21 (by decide) (fun h4 => ?_) (fun h4 => ?_)
  · have hf := x_t h4 hf
    cases hf
  · have hf := x_f h4 hf
    refine x_iload_n C dJ5_append_c97b9_24 rfl 3 rfl ?_
    refine x_iload_n C dJ5_append_c97b9_25 rfl 0 rfl ?_
    refine x_aload_n C dJ5_append_c97b9_26 rfl 2 rfl ?_
    refine x_get (ci := 1) (v := .ref z) (b := sbO g y z k) C ixJ4 rfl 0 (by decide) wd_255 (fun _ h => h) 0 rfl 0 (sbO_at0 g y z _) rfl dJ5_append_c97b9_27 ?_
    obtain ⟨u5, hu5, hf⟩ := x_b hf
    refine x_callS (n := 3) (As := [.int x1, .int (k.2 + u1), .ref z]) (rest := []) C (c_J6_getChars_ba4f3 g l z n f x1 (k.2 + u1) hu5) ⟨⟨wd_399, wd_397, wd_56⟩, ⟨by decide, by decide, by decide⟩, rfl, rfl, Nat.le_of_ble_eq_true rfl, Nat.le_of_ble_eq_true rfl⟩ wd_398 [sbO g y z k] (x_pickD [1, 0] 2 rfl rfl rfl) rfl rfl (Nat.le_of_ble_eq_true rfl) ⟨Nat.le_of_ble_eq_true rfl, Nat.le_of_ble_eq_true rfl⟩ dJ5_append_c97b9_30 (x_goD (wss2 := [baW g z n u5.2, sbO g y z k]) (stk2 := [.int u5.1]) rfl rfl ?_)
    refine x_pop C dJ5_append_c97b9_33 rfl ?_
    refine x_goto (tgt := 48) C dJ5_append_c97b9_34 (by decide) ?_
    refine x_aload_n C dJ5_append_c97b9_48 rfl 2 rfl ?_
    refine x_iload_n C dJ5_append_c97b9_49 rfl 0 rfl ?_
    refine x_put (ci := 1) (ty := .int) (v := .int (k.2 + u1)) (b := sbO g y z k) (b' := sbO g y z (k.1, k.2 + u1)) (wss' := [baW g z n u5.2, sbO g y z (k.1, k.2 + u1)]) C ixJ4 tyJ4 tyJ4_ok nmJ4 rfl 3 (by decide) wd_259 (fun _ h => h) rfl (tyJ4_ok 3 (by decide)) rfl rfl 1 rfl 0 (sbO_at0 g y z _) (Nat.le_of_ble_eq_true rfl) rfl rfl dJ5_append_c97b9_50 ?_
    refine x_aload_n C dJ5_append_c97b9_53 rfl 2 rfl ?_
    refine x_perm (wss' := [sbO g y z (k.1, k.2 + u1), baW g z n u5.2]) (x_pick [1, 0] 2 rfl rfl rfl) ?_
    exact x_aret C hr (Or.inl ⟨_, rfl⟩) ⟨by cases hf; rfl, by cases hf; rfl⟩ dJ5_append_c97b9_54
theorem wd_229 : Cond.superclass RJ4 RJ5 ∈ xTB := xTB_in 229 (by decide +kernel) (by decide +kernel)
theorem wd_545 : Cond.methodLink RJ4 50 yJ5_append_3fe6f ∈ xTB := xTB_in 545 (by decide +kernel) (by decide +kernel)
theorem wd_546 : Cond.instanceMethod yJ5_append_3fe6f ∈ xTB := xTB_in 546 (by decide +kernel) (by decide +kernel)
theorem wd_547 : Cond.code yJ5_append_3fe6f cJ5_append_3fe6f 2 (some (.object "java/lang/AbstractStringBuilder")) ∈ xTB := xTB_in 547 (by decide +kernel) (by decide +kernel)
theorem wd_1394 : Cond.sameMethod yJ5_append_3fe6f.cls yJ5_append_3fe6f.cls yJ5_append_3fe6f.name yJ5_append_3fe6f.desc ∈ xTB := xTB_in 1394 (by decide +kernel) (by decide +kernel)
theorem dJ4_append_cf468_0 : decode cJ4_append_cf468 0 = .ok (.aload_n 0, 1) := by decide +kernel
theorem dJ4_append_cf468_1 : decode cJ4_append_cf468 1 = .ok (.iload_n 1, 1) := by decide +kernel
theorem dJ4_append_cf468_2 : decode cJ4_append_cf468 2 = .ok (.invokespecial 50, 3) := by decide +kernel
theorem dJ4_append_cf468_5 : decode cJ4_append_cf468 5 = .ok (.pop, 1) := by decide +kernel
theorem dJ4_append_cf468_6 : decode cJ4_append_cf468 6 = .ok (.aload_n 0, 1) := by decide +kernel
theorem dJ4_append_cf468_7 : decode cJ4_append_cf468 7 = .ok (.areturn, 1) := by decide +kernel
set_option maxHeartbeats 4000000 in
set_option maxRecDepth 100000 in
theorem c_J4_append_cf468 (g : xG) (l : Launch) (y : Nat) (z : Nat) (n : Nat) (k : SbT) (f : (Nat → Int32)) (x1 : Int32) {u : SbT × (Nat → Int32)} (hf : f_J4_append_cf468 n k f x1 = some u) : ConD g l yJ4_append_cf468 cJ4_append_cf468 2 (some (.object "java/lang/StringBuilder")) ({ frames := 5, cells := 0, slots := 0, locals := 112 } : Room) [.ref y, .int x1] [sbO g y z k, baW g z n f] (some (.ref y)) [sbO g y z u.1, baW g z n u.2] := by
  unfold f_J4_append_cf468 at hf
  refine Con_of [sbO g y z k, baW g z n f] [(0, .ref y), (1, .int x1)] rfl rfl (by decide) (Nat.le_of_ble_eq_true rfl) ?_
  intro pW eW sW mW argsW belowW methW c9 C hnm hr
  have C : CX g RJ4 cJ4_append_cf468 2 _ pW sW mW argsW methW c9 := C
  refine x_aload_n C dJ4_append_cf468_0 rfl 0 rfl ?_
  refine x_iload_n C dJ4_append_cf468_1 rfl 1 rfl ?_
  obtain ⟨u1, hu1, hf⟩ := x_b hf
  refine x_callSU (n := 1) (As := [.int x1]) (rest := []) C (c_J5_append_3fe6f g l y z n k f x1 hu1) ⟨⟨wd_547, wd_545, wd_1394, wd_229, wd_546, wd_34⟩, ⟨by decide, by decide⟩, rfl, rfl, Nat.le_of_ble_eq_true rfl, Nat.le_of_ble_eq_true rfl⟩ ⟨0, 1, _, _, rfl, rfl⟩ [] (x_pickD [0, 1] 2 rfl rfl rfl) rfl rfl (Nat.le_of_ble_eq_true rfl) ⟨Nat.le_of_ble_eq_true rfl, Nat.le_of_ble_eq_true rfl⟩ dJ4_append_cf468_2 (x_goD (wss2 := [sbO g y z u1.1, baW g z n u1.2]) (stk2 := [.ref y]) rfl rfl ?_)
  refine x_pop C dJ4_append_cf468_5 rfl ?_
  refine x_aload_n C dJ4_append_cf468_6 rfl 0 rfl ?_
  exact x_aret C hr (Or.inl ⟨_, rfl⟩) ⟨by cases hf; rfl, by cases hf; rfl⟩ dJ4_append_cf468_7
theorem wd_391 : Cond.methodLink RJ4 53 yJ5_append_c97b9 ∈ xTB := xTB_in 391 (by decide +kernel) (by decide +kernel)
theorem wd_392 : Cond.instanceMethod yJ5_append_c97b9 ∈ xTB := xTB_in 392 (by decide +kernel) (by decide +kernel)
theorem wd_393 : Cond.code yJ5_append_c97b9 cJ5_append_c97b9 4 (some (.object "java/lang/AbstractStringBuilder")) ∈ xTB := xTB_in 393 (by decide +kernel) (by decide +kernel)
theorem wd_1393 : Cond.sameMethod yJ5_append_c97b9.cls yJ5_append_c97b9.cls yJ5_append_c97b9.name yJ5_append_c97b9.desc ∈ xTB := xTB_in 1393 (by decide +kernel) (by decide +kernel)
theorem dJ4_append_bf812_0 : decode cJ4_append_bf812 0 = .ok (.aload_n 0, 1) := by decide +kernel
theorem dJ4_append_bf812_1 : decode cJ4_append_bf812 1 = .ok (.iload_n 1, 1) := by decide +kernel
theorem dJ4_append_bf812_2 : decode cJ4_append_bf812 2 = .ok (.invokespecial 53, 3) := by decide +kernel
theorem dJ4_append_bf812_5 : decode cJ4_append_bf812 5 = .ok (.pop, 1) := by decide +kernel
theorem dJ4_append_bf812_6 : decode cJ4_append_bf812 6 = .ok (.aload_n 0, 1) := by decide +kernel
theorem dJ4_append_bf812_7 : decode cJ4_append_bf812 7 = .ok (.areturn, 1) := by decide +kernel
set_option maxHeartbeats 4000000 in
set_option maxRecDepth 100000 in
theorem c_J4_append_bf812 (g : xG) (l : Launch) (y : Nat) (z : Nat) (n : Nat) (k : SbT) (f : (Nat → Int32)) (x1 : Int32) {u : SbT × (Nat → Int32)} (hf : f_J4_append_bf812 n k f x1 = some u) : ConD g l yJ4_append_bf812 cJ4_append_bf812 2 (some (.object "java/lang/StringBuilder")) ({ frames := 5, cells := 0, slots := 0, locals := 114 } : Room) [.ref y, .int x1] [sbO g y z k, baW g z n f] (some (.ref y)) [sbO g y z u.1, baW g z n u.2] := by
  unfold f_J4_append_bf812 at hf
  refine Con_of [sbO g y z k, baW g z n f] [(0, .ref y), (1, .int x1)] rfl rfl (by decide) (Nat.le_of_ble_eq_true rfl) ?_
  intro pW eW sW mW argsW belowW methW c9 C hnm hr
  have C : CX g RJ4 cJ4_append_bf812 2 _ pW sW mW argsW methW c9 := C
  refine x_aload_n C dJ4_append_bf812_0 rfl 0 rfl ?_
  refine x_iload_n C dJ4_append_bf812_1 rfl 1 rfl ?_
  obtain ⟨u1, hu1, hf⟩ := x_b hf
  refine x_callSU (n := 1) (As := [.int x1]) (rest := []) C (c_J5_append_c97b9 g l y z n k f x1 hu1) ⟨⟨wd_393, wd_391, wd_1393, wd_229, wd_392, wd_34⟩, ⟨by decide, by decide⟩, rfl, rfl, Nat.le_of_ble_eq_true rfl, Nat.le_of_ble_eq_true rfl⟩ ⟨0, 1, _, _, rfl, rfl⟩ [] (x_pickD [0, 1] 2 rfl rfl rfl) rfl rfl (Nat.le_of_ble_eq_true rfl) ⟨Nat.le_of_ble_eq_true rfl, Nat.le_of_ble_eq_true rfl⟩ dJ4_append_bf812_2 (x_goD (wss2 := [sbO g y z u1.1, baW g z n u1.2]) (stk2 := [.ref y]) rfl rfl ?_)
  refine x_pop C dJ4_append_bf812_5 rfl ?_
  refine x_aload_n C dJ4_append_bf812_6 rfl 0 rfl ?_
  exact x_aret C hr (Or.inl ⟨_, rfl⟩) ⟨by cases hf; rfl, by cases hf; rfl⟩ dJ4_append_bf812_7
theorem wd_228 : Cond.methodLink RJ4 333 yJ5_setLength_d00df ∈ xTB := xTB_in 228 (by decide +kernel) (by decide +kernel)
theorem wd_230 : Cond.instanceMethod yJ5_setLength_d00df ∈ xTB := xTB_in 230 (by decide +kernel) (by decide +kernel)
theorem wd_231 : Cond.code yJ5_setLength_d00df cJ5_setLength_d00df 2 none ∈ xTB := xTB_in 231 (by decide +kernel) (by decide +kernel)
theorem wd_1385 : Cond.sameMethod yJ5_setLength_d00df.cls yJ5_setLength_d00df.cls yJ5_setLength_d00df.name yJ5_setLength_d00df.desc ∈ xTB := xTB_in 1385 (by decide +kernel) (by decide +kernel)
theorem dJ4_setLength_d00df_0 : decode cJ4_setLength_d00df 0 = .ok (.aload_n 0, 1) := by decide +kernel
theorem dJ4_setLength_d00df_1 : decode cJ4_setLength_d00df 1 = .ok (.iload_n 1, 1) := by decide +kernel
theorem dJ4_setLength_d00df_2 : decode cJ4_setLength_d00df 2 = .ok (.invokespecial 333, 3) := by decide +kernel
theorem dJ4_setLength_d00df_5 : decode cJ4_setLength_d00df 5 = .ok (.return_, 1) := by decide +kernel
set_option maxHeartbeats 4000000 in
set_option maxRecDepth 100000 in
theorem c_J4_setLength_d00df (g : xG) (l : Launch) (y : Nat) (z : Nat) (n : Nat) (k : SbT) (f : (Nat → Int32)) (x1 : Int32) {u : SbT} (hf : f_J4_setLength_d00df n k f x1 = some u) : ConD g l yJ4_setLength_d00df cJ4_setLength_d00df 2 none ({ frames := 5, cells := 0, slots := 0, locals := 112 } : Room) [.ref y, .int x1] [sbO g y z k, baW g z n f] (none) [sbO g y z u, baW g z n f] := by
  unfold f_J4_setLength_d00df at hf
  refine Con_of [sbO g y z k, baW g z n f] [(0, .ref y), (1, .int x1)] rfl rfl (by decide) (Nat.le_of_ble_eq_true rfl) ?_
  intro pW eW sW mW argsW belowW methW c9 C hnm hr
  have C : CX g RJ4 cJ4_setLength_d00df 2 _ pW sW mW argsW methW c9 := C
  refine x_aload_n C dJ4_setLength_d00df_0 rfl 0 rfl ?_
  refine x_iload_n C dJ4_setLength_d00df_1 rfl 1 rfl ?_
  obtain ⟨u1, hu1, hf⟩ := x_b hf
  refine x_callSU (n := 1) (As := [.int x1]) (rest := []) C (c_J5_setLength_d00df g l y z n k f x1 hu1) ⟨⟨wd_231, wd_228, wd_1385, wd_229, wd_230, wd_34⟩, ⟨by decide, by decide⟩, rfl, rfl, Nat.le_of_ble_eq_true rfl, Nat.le_of_ble_eq_true rfl⟩ ⟨0, 1, _, _, rfl, rfl⟩ [] (x_pickD [0, 1] 2 rfl rfl rfl) rfl rfl (Nat.le_of_ble_eq_true rfl) ⟨Nat.le_of_ble_eq_true rfl, Nat.le_of_ble_eq_true rfl⟩ dJ4_setLength_d00df_2 (x_goD (wss2 := [sbO g y z u1, baW g z n f]) (stk2 := []) rfl rfl ?_)
  exact x_vret C hr ⟨by cases hf; rfl, by cases hf; rfl⟩ dJ4_setLength_d00df_5
theorem wd_431 : Cond.instanceMethod yJ5_length_8abf5 ∈ xTB := xTB_in 431 (by decide +kernel) (by decide +kernel)
theorem wd_432 : Cond.sameMethod yJ5_length_8abf5.cls yJ5_length_8abf5.cls yJ5_length_8abf5.name yJ5_length_8abf5.desc ∈ xTB := xTB_in 432 (by decide +kernel) (by decide +kernel)
theorem wd_436 : Cond.methodLink RJ4 343 yJ5_length_8abf5 ∈ xTB := xTB_in 436 (by decide +kernel) (by decide +kernel)
theorem wd_437 : Cond.code yJ5_length_8abf5 cJ5_length_8abf5 1 (some .int) ∈ xTB := xTB_in 437 (by decide +kernel) (by decide +kernel)
theorem dJ4_length_8abf5_0 : decode cJ4_length_8abf5 0 = .ok (.aload_n 0, 1) := by decide +kernel
theorem dJ4_length_8abf5_1 : decode cJ4_length_8abf5 1 = .ok (.invokespecial 343, 3) := by decide +kernel
theorem dJ4_length_8abf5_4 : decode cJ4_length_8abf5 4 = .ok (.ireturn, 1) := by decide +kernel
set_option maxHeartbeats 4000000 in
set_option maxRecDepth 100000 in
theorem c_J4_length_8abf5 (g : xG) (l : Launch) (y : Nat) (z : Nat) (k : SbT)  {u : Int32} (hf : f_J4_length_8abf5 k = some u) : ConD g l yJ4_length_8abf5 cJ4_length_8abf5 1 (some .int) ({ frames := 1, cells := 0, slots := 0, locals := 20 } : Room) [.ref y] [sbO g y z k] (some (.int u)) [sbO g y z k] := by
  unfold f_J4_length_8abf5 at hf
  refine Con_of [sbO g y z k] [(0, .ref y)] rfl rfl (by decide) (Nat.le_of_ble_eq_true rfl) ?_
  intro pW eW sW mW argsW belowW methW c9 C hnm hr
  have C : CX g RJ4 cJ4_length_8abf5 1 _ pW sW mW argsW methW c9 := C
  refine x_aload_n C dJ4_length_8abf5_0 rfl 0 rfl ?_
  obtain ⟨u1, hu1, hf⟩ := x_b hf
  refine x_callSU (n := 0) (As := []) (rest := []) C (c_J5_length_8abf5 g l y z k hu1) ⟨⟨wd_437, wd_436, wd_432, wd_229, wd_431, wd_34⟩, ⟨by decide, by decide⟩, rfl, rfl, Nat.le_of_ble_eq_true rfl, Nat.le_of_ble_eq_true rfl⟩ ⟨0, 1, _, _, rfl, rfl⟩ [] (x_pickD [0] 1 rfl rfl rfl) rfl rfl (Nat.le_of_ble_eq_true rfl) ⟨Nat.le_of_ble_eq_true rfl, Nat.le_of_ble_eq_true rfl⟩ dJ4_length_8abf5_1 (x_goD (wss2 := [sbO g y z k]) (stk2 := [.int u1]) rfl rfl ?_)
  exact x_iret C hr ⟨by cases hf; rfl, by cases hf; rfl⟩ dJ4_length_8abf5_4
