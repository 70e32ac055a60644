/-! STRINGS, by program (wip/p50/build_str.py) -/
def stgO (g : xG) (x : Nat) (w : Nat) (t3 : Unit) : va_W := [(x, .inr (0, [.ref w, .int 0, .int 0, .int 0]))]
theorem stgO_at0 (g : xG) (x : Nat) (w : Nat) (t3 : Unit) : (stgO g x w t3)[0]? = some (x, .inr (0, [.ref w, .int 0, .int 0, .int 0])) := rfl
def f_J0_coder_7d493_D (t3 : Unit)  : Option Int32 := if (1 : Int32) = (0 : Int32) then (some ((1 : Int32))) else (some ((0 : Int32)))
set_option maxHeartbeats 4000000 in
set_option maxRecDepth 100000 in
theorem c_J0_coder_7d493_D (g : xG) (l : Launch) (x : Nat) (w : Nat) (t3 : Unit)  {u : Int32} (hf : f_J0_coder_7d493_D t3 = some u) : ConD g l yJ0_coder_7d493 cJ0_coder_7d493 1 (some .byte) ({ frames := 0, cells := 0, slots := 0, locals := 0 } : Room) [.ref x] [stgO g x w t3] (some (.int u)) [stgO g x w t3] := by
  unfold f_J0_coder_7d493_D at hf
  refine Con_of [stgO g x w t3] [(0, .ref x)] rfl rfl (by decide) (Nat.le_of_ble_eq_true rfl) ?_
  intro pW eW sW mW argsW belowW methW c9 C hnm hr
  have C : CX g RJ0 cJ0_coder_7d493 1 _ pW sW mW argsW methW c9 := C
  refine x_gets (Cn := "java/lang/String") (n := "COMPACT_STRINGS") (d := "Z") C (CX_cs C) wd_352 (fun _ h => h) dJ0_coder_7d493_0 ?_
  refine x_if_eq (tgt := 13) C dJ0_coder_7d493_3 (by decide) (fun h1 => ?_) (fun h1 => ?_)
  · have hf := x_t h1 hf
    refine x_iconst (v := 1) C dJ0_coder_7d493_13 (by decide) ?_
    exact x_zret C hr rfl ⟨by obtain rfl := Option.some.inj hf; rfl, by obtain rfl := Option.some.inj hf; rfl⟩ dJ0_coder_7d493_14
  · have hf := x_f h1 hf
    refine x_aload_n C dJ0_coder_7d493_6 rfl 0 rfl ?_
    refine x_get (ci := 0) (v := .int (0 : Int32)) (b := stgO g x w t3) C ixJ0 rfl 1 (by decide) wd_483 (fun _ h => h) 0 rfl 0 (stgO_at0 g x w _) rfl dJ0_coder_7d493_7 ?_
    refine x_goto (tgt := 14) C dJ0_coder_7d493_10 (by decide) ?_
    exact x_zret C hr rfl ⟨by obtain rfl := Option.some.inj hf; rfl, by obtain rfl := Option.some.inj hf; rfl⟩ dJ0_coder_7d493_14
def f_J0_length_8abf5_D (m : Nat) (t3 : Unit) (h : (Nat → Int32))  : Option Int32 := (f_J0_coder_7d493_D t3).bind fun u1 => (some ((Int32.ofNat m) >>> (u1 &&& 31)))
set_option maxHeartbeats 4000000 in
set_option maxRecDepth 100000 in
theorem c_J0_length_8abf5_D (g : xG) (l : Launch) (x : Nat) (w : Nat) (m : Nat) (t3 : Unit) (h : (Nat → Int32))  {u : Int32} (hf : f_J0_length_8abf5_D m t3 h = some u) : ConD g l yJ0_length_8abf5 cJ0_length_8abf5 1 (some .int) ({ frames := 1, cells := 0, slots := 0, locals := 20 } : Room) [.ref x] [stgO g x w t3, baW g w m h] (some (.int u)) [stgO g x w t3, baW g w m h] := by
  unfold f_J0_length_8abf5_D at hf
  refine Con_of [stgO g x w t3, baW g w m h] [(0, .ref x)] rfl rfl (by decide) (Nat.le_of_ble_eq_true rfl) ?_
  intro pW eW sW mW argsW belowW methW c9 C hnm hr
  have C : CX g RJ0 cJ0_length_8abf5 1 _ pW sW mW argsW methW c9 := C
  refine x_aload_n C dJ0_length_8abf5_0 rfl 0 rfl ?_
  refine x_get (ci := 0) (v := .ref w) (b := stgO g x w t3) C ixJ0 rfl 0 (by decide) wd_482 (fun _ h => h) 0 rfl 0 (stgO_at0 g x w _) rfl dJ0_length_8abf5_1 ?_
  refine x_alen (v := Int32.ofNat m) C 3 rfl 1 rfl 0 (baW_at0 g w m _) rfl dJ0_length_8abf5_4 ?_
  refine x_aload_n C dJ0_length_8abf5_5 rfl 0 rfl ?_
  obtain ⟨u1, hu1, hf⟩ := x_b hf
  refine x_callV (n := 0) (As := []) (rest := [.int (Int32.ofNat m)]) C (c_J0_coder_7d493_D g l x w t3 hu1) ⟨⟨wd_351, wd_348, wd_36⟩, ⟨by decide, by decide, by decide⟩, rfl, rfl, Nat.le_of_ble_eq_true rfl, Nat.le_of_ble_eq_true rfl⟩ wd_349 wd_350 ⟨0, 0, _, _, rfl, rfl, rfl⟩ [baW g w m h] (x_pickD [0, 1] 2 rfl rfl rfl) rfl rfl (Nat.le_of_ble_eq_true rfl) ⟨Nat.le_of_ble_eq_true rfl, Nat.le_of_ble_eq_true rfl⟩ dJ0_length_8abf5_6 (x_goD (wss2 := [stgO g x w t3, baW g w m h]) (stk2 := [.int u1, .int (Int32.ofNat m)]) rfl rfl ?_)
  refine x_ishr C dJ0_length_8abf5_9 ?_
  exact x_iret C hr ⟨by obtain rfl := Option.some.inj hf; rfl, by obtain rfl := Option.some.inj hf; rfl⟩ dJ0_length_8abf5_10
def f_J0_isLatin1_aae02_D (t3 : Unit)  : Option Int32 := if (1 : Int32) = (0 : Int32) then (some ((0 : Int32))) else (if (0 : Int32) = (0 : Int32) then (some ((1 : Int32))) else (some ((0 : Int32))))
set_option maxHeartbeats 4000000 in
set_option maxRecDepth 100000 in
theorem c_J0_isLatin1_aae02_D (g : xG) (l : Launch) (x : Nat) (w : Nat) (t3 : Unit)  {u : Int32} (hf : f_J0_isLatin1_aae02_D t3 = some u) : ConD g l yJ0_isLatin1_aae02 cJ0_isLatin1_aae02 1 (some .boolean) ({ frames := 0, cells := 0, slots := 0, locals := 0 } : Room) [.ref x] [stgO g x w t3] (some (.int u)) [stgO g x w t3] := by
  unfold f_J0_isLatin1_aae02_D at hf
  refine Con_of [stgO g x w t3] [(0, .ref x)] rfl rfl (by decide) (Nat.le_of_ble_eq_true rfl) ?_
  intro pW eW sW mW argsW belowW methW c9 C hnm hr
  have C : CX g RJ0 cJ0_isLatin1_aae02 1 _ pW sW mW argsW methW c9 := C
  refine x_gets (Cn := "java/lang/String") (n := "COMPACT_STRINGS") (d := "Z") C (CX_cs C) wd_352 (fun _ h => h) dJ0_isLatin1_aae02_0 ?_
  refine x_if_eq (tgt := 17) C dJ0_isLatin1_aae02_3 (by decide) (fun h1 => ?_) (fun h1 => ?_)
  · have hf := x_t h1 hf
    refine x_iconst (v := 0) C dJ0_isLatin1_aae02_17 (by decide) ?_
    exact x_zret C hr rfl ⟨by obtain rfl := Option.some.inj hf; rfl, by obtain rfl := Option.some.inj hf; rfl⟩ dJ0_isLatin1_aae02_18
  · have hf := x_f h1 hf
    refine x_aload_n C dJ0_isLatin1_aae02_6 rfl 0 rfl ?_
    refine x_get (ci := 0) (v := .int (0 : Int32)) (b := stgO g x w t3) C ixJ0 rfl 1 (by decide) wd_483 (fun _ h => h) 0 rfl 0 (stgO_at0 g x w _) rfl dJ0_isLatin1_aae02_7 ?_
    refine x_if_ne (tgt := 17) C dJ0_isLatin1_aae02_10 (by decide) (fun h2 => ?_) (fun h2 => ?_)
    · have hf := x_f h2 hf
      refine x_iconst (v := 0) C dJ0_isLatin1_aae02_17 (by decide) ?_
      exact x_zret C hr rfl ⟨by obtain rfl := Option.some.inj hf; rfl, by obtain rfl := Option.some.inj hf; rfl⟩ dJ0_isLatin1_aae02_18
    · have hf := x_t h2 hf
      refine x_iconst (v := 1) C dJ0_isLatin1_aae02_13 (by decide) ?_
      refine x_goto (tgt := 18) C dJ0_isLatin1_aae02_14 (by decide) ?_
      exact x_zret C hr rfl ⟨by obtain rfl := Option.some.inj hf; rfl, by obtain rfl := Option.some.inj hf; rfl⟩ dJ0_isLatin1_aae02_18
def f_J1_charAt_3b067_D (m : Nat) (h : (Nat → Int32)) (x1 : Int32) : Option Int32 := (f_J0_checkIndex_df160 x1 (Int32.ofNat m)).bind fun u1 => (if x1 < 0 ∨ m ≤ x1.toNatClampNeg then none else ((if ¬ ((((h x1.toNatClampNeg) &&& (255 : Int32)).toUInt32 % 65536).toInt32) < 0 ∧ ((((h x1.toNatClampNeg) &&& (255 : Int32)).toUInt32 % 65536).toInt32) ≤ 65535 then (some ((((h x1.toNatClampNeg) &&& (255 : Int32)).toUInt32 % 65536).toInt32)) else none)))
set_option maxHeartbeats 4000000 in
set_option maxRecDepth 100000 in
theorem c_J1_charAt_3b067_D (g : xG) (l : Launch) (w : Nat) (m : Nat) (h : (Nat → Int32)) (x1 : Int32) {u : Int32} (hf : f_J1_charAt_3b067_D m h x1 = some u) : ConD g l yJ1_charAt_3b067 cJ1_charAt_3b067 2 (some .char) ({ frames := 2, cells := 0, slots := 0, locals := 43 } : Room) [.ref w, .int x1] [baW g w m h] (some (.int u)) [baW g w m h] := by
  unfold f_J1_charAt_3b067_D at hf
  refine Con_of [baW g w m h] [(0, .ref w), (1, .int x1)] rfl rfl (by decide) (Nat.le_of_ble_eq_true rfl) ?_
  intro pW eW sW mW argsW belowW methW c9 C hnm hr
  have C : CX g RJ1 cJ1_charAt_3b067 2 _ pW sW mW argsW methW c9 := C
  refine x_iload_n C dJ1_charAt_3b067_0 rfl 1 rfl ?_
  refine x_aload_n C dJ1_charAt_3b067_1 rfl 0 rfl ?_
  refine x_alen (v := Int32.ofNat m) C 3 rfl 0 rfl 0 (baW_at0 g w m _) rfl dJ1_charAt_3b067_2 ?_
  obtain ⟨u1, hu1, hf⟩ := x_b hf
  refine x_callS (n := 2) (As := [.int x1, .int (Int32.ofNat m)]) (rest := []) C (c_J0_checkIndex_df160 g l x1 (Int32.ofNat m) hu1) ⟨⟨wd_559, wd_1040, wd_36⟩, ⟨by decide, by decide, by decide⟩, rfl, rfl, Nat.le_of_ble_eq_true rfl, Nat.le_of_ble_eq_true rfl⟩ wd_558 [baW g w m h] (x_pickD [0] 1 rfl rfl rfl) rfl rfl (Nat.le_of_ble_eq_true rfl) ⟨Nat.le_of_ble_eq_true rfl, Nat.le_of_ble_eq_true rfl⟩ dJ1_charAt_3b067_3 (x_goD (wss2 := [baW g w m h]) (stk2 := []) rfl rfl ?_)
  refine x_aload_n C dJ1_charAt_3b067_6 rfl 0 rfl ?_
  refine x_iload_n C dJ1_charAt_3b067_7 rfl 1 rfl ?_
  obtain ⟨h2, hf⟩ := x_n hf
  refine x_bald (b := baW g w m h) C 0 rfl 0 (baW_at0 g w m _) h2 dJ1_charAt_3b067_8 ?_
  refine x_sipush (v := 255) C dJ1_charAt_3b067_9 (by decide) ?_
  refine x_iand C dJ1_charAt_3b067_12 ?_
  refine x_i2c C dJ1_charAt_3b067_13 rfl ?_
  obtain ⟨h3, hf⟩ := x_y hf
  exact x_zret C hr (x_narC h3).1 ⟨by obtain rfl := Option.some.inj hf; rfl, by obtain rfl := Option.some.inj hf; rfl⟩ dJ1_charAt_3b067_14
def f_J0_charAt_5068e_D (m : Nat) (t3 : Unit) (h : (Nat → Int32)) (x1 : Int32) : Option Int32 := (f_J0_isLatin1_aae02_D t3).bind fun u1 => (if u1 = (0 : Int32) then (none) else ((f_J1_charAt_3b067_D m h x1).bind fun u3 => ((if ¬ u3 < 0 ∧ u3 ≤ 65535 then (some (u3)) else none))))
set_option maxHeartbeats 4000000 in
set_option maxRecDepth 100000 in
theorem c_J0_charAt_5068e_D (g : xG) (l : Launch) (x : Nat) (w : Nat) (m : Nat) (t3 : Unit) (h : (Nat → Int32)) (x1 : Int32) {u : Int32} (hf : f_J0_charAt_5068e_D m t3 h x1 = some u) : ConD g l yJ0_charAt_5068e cJ0_charAt_5068e 2 (some .char) ({ frames := 3, cells := 0, slots := 0, locals := 64 } : Room) [.ref x, .int x1] [stgO g x w t3, baW g w m h] (some (.int u)) [stgO g x w t3, baW g w m h] := by
  unfold f_J0_charAt_5068e_D at hf
  refine Con_of [stgO g x w t3, baW g w m h] [(0, .ref x), (1, .int x1)] rfl rfl (by decide) (Nat.le_of_ble_eq_true rfl) ?_
  intro pW eW sW mW argsW belowW methW c9 C hnm hr
  have C : CX g RJ0 cJ0_charAt_5068e 2 _ pW sW mW argsW methW c9 := C
  refine x_aload_n C dJ0_charAt_5068e_0 rfl 0 rfl ?_
  obtain ⟨u1, hu1, hf⟩ := x_b hf
  refine x_callV (n := 0) (As := []) (rest := []) C (c_J0_isLatin1_aae02_D g l x w t3 hu1) ⟨⟨wd_1036, wd_1033, wd_36⟩, ⟨by decide, by decide, by decide⟩, rfl, rfl, Nat.le_of_ble_eq_true rfl, Nat.le_of_ble_eq_true rfl⟩ wd_1034 wd_1035 ⟨0, 0, _, _, rfl, rfl, rfl⟩ [baW g w m h] (x_pickD [0, 1] 2 rfl rfl rfl) rfl rfl (Nat.le_of_ble_eq_true rfl) ⟨Nat.le_of_ble_eq_true rfl, Nat.le_of_ble_eq_true rfl⟩ dJ0_charAt_5068e_1 (x_goD (wss2 := [stgO g x w t3, baW g w m h]) (stk2 := [.int u1]) rfl rfl ?_)
  refine x_if_eq (tgt := 16) C dJ0_charAt_5068e_4 (by decide) (fun h2 => ?_) (fun h2 => ?_)
  · have hf := x_t h2 hf
    cases hf
  · have hf := x_f h2 hf
    refine x_aload_n C dJ0_charAt_5068e_7 rfl 0 rfl ?_
    refine x_get (ci := 0) (v := .ref w) (b := stgO g x w t3) C ixJ0 rfl 0 (by decide) wd_482 (fun _ h => h) 0 rfl 0 (stgO_at0 g x w _) rfl dJ0_charAt_5068e_8 ?_
    refine x_iload_n C dJ0_charAt_5068e_11 rfl 1 rfl ?_
    obtain ⟨u3, hu3, hf⟩ := x_b hf
    refine x_callS (n := 2) (As := [.ref w, .int x1]) (rest := []) C (c_J1_charAt_3b067_D g l w m h x1 hu3) ⟨⟨wd_1039, wd_1037, wd_38⟩, ⟨by decide, by decide, by decide⟩, rfl, rfl, Nat.le_of_ble_eq_true rfl, Nat.le_of_ble_eq_true rfl⟩ wd_1038 [stgO g x w t3] (x_pickD [1, 0] 2 rfl rfl rfl) rfl rfl (Nat.le_of_ble_eq_true rfl) ⟨Nat.le_of_ble_eq_true rfl, Nat.le_of_ble_eq_true rfl⟩ dJ0_charAt_5068e_12 (x_goD (wss2 := [baW g w m h, stgO g x w t3]) (stk2 := [.int u3]) rfl rfl ?_)
    obtain ⟨h4, hf⟩ := x_y hf
    refine x_perm (wss' := [stgO g x w t3, baW g w m h]) (x_pick [1, 0] 2 rfl rfl rfl) ?_
    exact x_zret C hr (x_narC h4).1 ⟨by obtain rfl := Option.some.inj hf; rfl, by obtain rfl := Option.some.inj hf; rfl⟩ dJ0_charAt_5068e_15
theorem wd_361 : Cond.methodLink RJ5 40 yJ0_coder_7d493 ∈ xTB := xTB_in 361 (by decide +kernel) (by decide +kernel)
theorem dJ5_inflateIfNeededFor_a7421_0 : decode cJ5_inflateIfNeededFor_a7421 0 = .ok (.getstatic 18, 3) := by decide +kernel
theorem dJ5_inflateIfNeededFor_a7421_3 : decode cJ5_inflateIfNeededFor_a7421 3 = .ok (.ifCond .eq 18, 3) := by decide +kernel
theorem dJ5_inflateIfNeededFor_a7421_6 : decode cJ5_inflateIfNeededFor_a7421 6 = .ok (.aload_n 0, 1) := by decide +kernel
theorem dJ5_inflateIfNeededFor_a7421_7 : decode cJ5_inflateIfNeededFor_a7421 7 = .ok (.getfield 22, 3) := by decide +kernel
theorem dJ5_inflateIfNeededFor_a7421_10 : decode cJ5_inflateIfNeededFor_a7421 10 = .ok (.aload_n 1, 1) := by decide +kernel
theorem dJ5_inflateIfNeededFor_a7421_11 : decode cJ5_inflateIfNeededFor_a7421 11 = .ok (.invokevirtual 40, 3) := by decide +kernel
theorem dJ5_inflateIfNeededFor_a7421_14 : decode cJ5_inflateIfNeededFor_a7421 14 = .ok (.if_icmp .eq 7, 3) := by decide +kernel
theorem dJ5_inflateIfNeededFor_a7421_17 : decode cJ5_inflateIfNeededFor_a7421 17 = .ok (.aload_n 0, 1) := by decide +kernel
theorem dJ5_inflateIfNeededFor_a7421_18 : decode cJ5_inflateIfNeededFor_a7421 18 = .ok (.invokevirtual 195, 3) := by decide +kernel
theorem dJ5_inflateIfNeededFor_a7421_21 : decode cJ5_inflateIfNeededFor_a7421 21 = .ok (.return_, 1) := by decide +kernel
def f_J5_inflateIfNeededFor_a7421_S (k : SbT) (x1 : Nat) : Option Unit := if (1 : Int32) = (0 : Int32) then (some ()) else ((f_J0_coder_7d493 x1).bind fun u2 => ((if x1 < 39 then (if (0 : Int32) = u2 then (some ()) else (none)) else none)))
set_option maxHeartbeats 4000000 in
set_option maxRecDepth 100000 in
theorem c_J5_inflateIfNeededFor_a7421_S (g : xG) (l : Launch) (y : Nat) (z : Nat) (k : SbT) (x1 : Nat) {u : Unit} (hf : f_J5_inflateIfNeededFor_a7421_S k x1 = some u) : ConD g l yJ5_inflateIfNeededFor_a7421 cJ5_inflateIfNeededFor_a7421 2 none ({ frames := 1, cells := 0, slots := 0, locals := 20 } : Room) [.ref y, .ref (g.2.2 (300 + x1))] [sbO g y z k] (none) [sbO g y z k] := by
  unfold f_J5_inflateIfNeededFor_a7421_S at hf
  refine Con_of [sbO g y z k] [(0, .ref y), (1, .ref (g.2.2 (300 + x1)))] rfl rfl (by decide) (Nat.le_of_ble_eq_true rfl) ?_
  intro pW eW sW mW argsW belowW methW c9 C hnm hr
  have C : CX g RJ5 cJ5_inflateIfNeededFor_a7421 2 _ pW sW mW argsW methW c9 := C
  refine x_gets (Cn := "java/lang/String") (n := "COMPACT_STRINGS") (d := "Z") C (CX_cs C) wd_246 (fun _ h => h) dJ5_inflateIfNeededFor_a7421_0 ?_
  refine x_if_eq (tgt := 21) C dJ5_inflateIfNeededFor_a7421_3 (by decide) (fun h1 => ?_) (fun h1 => ?_)
  · have hf := x_t h1 hf
    exact x_vret C hr ⟨by obtain rfl := Option.some.inj hf; rfl, by obtain rfl := Option.some.inj hf; rfl⟩ dJ5_inflateIfNeededFor_a7421_21
  · have hf := x_f h1 hf
    refine x_aload_n C dJ5_inflateIfNeededFor_a7421_6 rfl 0 rfl ?_
    refine x_get (ci := 1) (v := .int (0 : Int32)) (b := sbO g y z k) C ixJ4 rfl 1 (by decide) wd_256 (fun _ h => h) 0 rfl 0 (sbO_at0 g y z _) rfl dJ5_inflateIfNeededFor_a7421_7 ?_
    refine x_aload_n C dJ5_inflateIfNeededFor_a7421_10 rfl 1 rfl ?_
    obtain ⟨u2, hu2, hf⟩ := x_b hf
    obtain ⟨h3, hf⟩ := x_y hf
    refine x_callVR (n := 0) (As := []) (rest := [.int (0 : Int32)]) C (c_J0_coder_7d493 g l x1 hu2) ⟨⟨wd_351, wd_361, wd_36⟩, ⟨by decide, by decide, by decide⟩, rfl, rfl, Nat.le_of_ble_eq_true rfl, Nat.le_of_ble_eq_true rfl⟩ wd_349 wd_350 (CX_so C h3).1 [sbO g y z k] (x_pickD [0] 1 rfl rfl rfl) rfl rfl (Nat.le_of_ble_eq_true rfl) ⟨Nat.le_of_ble_eq_true rfl, Nat.le_of_ble_eq_true rfl⟩ dJ5_inflateIfNeededFor_a7421_11 (x_goD (wss2 := [sbO g y z k]) (stk2 := [.int u2, .int (0 : Int32)]) rfl rfl ?_)
    refine x_icmp_eq (tgt := 21) C dJ5_inflateIfNeededFor_a7421_14 (by decide) (fun h4 => ?_) (fun h4 => ?_)
    · have hf := x_t h4 hf
      exact x_vret C hr ⟨by obtain rfl := Option.some.inj hf; rfl, by obtain rfl := Option.some.inj hf; rfl⟩ dJ5_inflateIfNeededFor_a7421_21
    · have hf := x_f h4 hf
      cases hf
theorem wd_385 : Cond.methodLink RJ0 212 arraycopyName ∈ xTB := xTB_in 385 (by decide +kernel) (by decide +kernel)
theorem dJ0_getBytes_840e7_0 : decode cJ0_getBytes_840e7 0 = .ok (.aload_n 0, 1) := by decide +kernel
theorem dJ0_getBytes_840e7_1 : decode cJ0_getBytes_840e7 1 = .ok (.invokevirtual 335, 3) := by decide +kernel
theorem dJ0_getBytes_840e7_4 : decode cJ0_getBytes_840e7 4 = .ok (.iload_n 3, 1) := by decide +kernel
theorem dJ0_getBytes_840e7_5 : decode cJ0_getBytes_840e7 5 = .ok (.if_icmp .ne 23, 3) := by decide +kernel
theorem dJ0_getBytes_840e7_8 : decode cJ0_getBytes_840e7 8 = .ok (.aload_n 0, 1) := by decide +kernel
theorem dJ0_getBytes_840e7_9 : decode cJ0_getBytes_840e7 9 = .ok (.getfield 9, 3) := by decide +kernel
theorem dJ0_getBytes_840e7_12 : decode cJ0_getBytes_840e7 12 = .ok (.iconst 0, 1) := by decide +kernel
theorem dJ0_getBytes_840e7_13 : decode cJ0_getBytes_840e7 13 = .ok (.aload_n 1, 1) := by decide +kernel
theorem dJ0_getBytes_840e7_14 : decode cJ0_getBytes_840e7 14 = .ok (.iload_n 2, 1) := by decide +kernel
theorem dJ0_getBytes_840e7_15 : decode cJ0_getBytes_840e7 15 = .ok (.iload_n 3, 1) := by decide +kernel
theorem dJ0_getBytes_840e7_16 : decode cJ0_getBytes_840e7 16 = .ok (.ishl, 1) := by decide +kernel
theorem dJ0_getBytes_840e7_17 : decode cJ0_getBytes_840e7 17 = .ok (.aload_n 0, 1) := by decide +kernel
theorem dJ0_getBytes_840e7_18 : decode cJ0_getBytes_840e7 18 = .ok (.getfield 9, 3) := by decide +kernel
theorem dJ0_getBytes_840e7_21 : decode cJ0_getBytes_840e7 21 = .ok (.arraylength, 1) := by decide +kernel
theorem dJ0_getBytes_840e7_22 : decode cJ0_getBytes_840e7 22 = .ok (.invokestatic 212, 3) := by decide +kernel
theorem dJ0_getBytes_840e7_25 : decode cJ0_getBytes_840e7 25 = .ok (.goto 18, 3) := by decide +kernel
theorem dJ0_getBytes_840e7_28 : decode cJ0_getBytes_840e7 28 = .ok (.aload_n 0, 1) := by decide +kernel
theorem dJ0_getBytes_840e7_29 : decode cJ0_getBytes_840e7 29 = .ok (.getfield 9, 3) := by decide +kernel
theorem dJ0_getBytes_840e7_32 : decode cJ0_getBytes_840e7 32 = .ok (.iconst 0, 1) := by decide +kernel
theorem dJ0_getBytes_840e7_33 : decode cJ0_getBytes_840e7 33 = .ok (.aload_n 1, 1) := by decide +kernel
theorem dJ0_getBytes_840e7_34 : decode cJ0_getBytes_840e7 34 = .ok (.iload_n 2, 1) := by decide +kernel
theorem dJ0_getBytes_840e7_35 : decode cJ0_getBytes_840e7 35 = .ok (.aload_n 0, 1) := by decide +kernel
theorem dJ0_getBytes_840e7_36 : decode cJ0_getBytes_840e7 36 = .ok (.getfield 9, 3) := by decide +kernel
theorem dJ0_getBytes_840e7_39 : decode cJ0_getBytes_840e7 39 = .ok (.arraylength, 1) := by decide +kernel
theorem dJ0_getBytes_840e7_40 : decode cJ0_getBytes_840e7 40 = .ok (.invokestatic 106, 3) := by decide +kernel
theorem dJ0_getBytes_840e7_43 : decode cJ0_getBytes_840e7 43 = .ok (.return_, 1) := by decide +kernel
def f_J0_getBytes_840e7_S (n : Nat) (f : (Nat → Int32)) (x0 : Nat) (x2 : Int32) (x3 : Int32) : Option (Nat → Int32) := (f_J0_coder_7d493 x0).bind fun u1 => ((if x0 < 39 then (if u1 = x3 then ((if x0 < 39 then ((if x0 < 39 then ((if x0 < 39 then ((if x0 < 39 then ((if (¬ (0 : Int32) < 0 ∧ ¬ (x2 <<< (x3 &&& 31)) < 0 ∧ ¬ (Int32.ofNat (stLen.getD x0 0)) < 0) ∧ ((0 : Int32).toNatClampNeg + (Int32.ofNat (stLen.getD x0 0)).toNatClampNeg ≤ stLen.getD x0 0 ∧ (x2 <<< (x3 &&& 31)).toNatClampNeg + (Int32.ofNat (stLen.getD x0 0)).toNatClampNeg ≤ n) ∧ ∀ i, i < (Int32.ofNat (stLen.getD x0 0)).toNatClampNeg → fits .byte (.int ((stByt.getD x0 []).getD ((0 : Int32).toNatClampNeg + i) 0)) = true then (some (va_cpy (fun j => (stByt.getD x0 []).getD j 0) f (0 : Int32).toNatClampNeg (x2 <<< (x3 &&& 31)).toNatClampNeg (Int32.ofNat (stLen.getD x0 0)).toNatClampNeg)) else none)) else none)) else none)) else none)) else none)) else (none)) else none))
set_option maxHeartbeats 4000000 in
set_option maxRecDepth 100000 in
theorem c_J0_getBytes_840e7_S (g : xG) (l : Launch) (z : Nat) (n : Nat) (f : (Nat → Int32)) (x0 : Nat) (x2 : Int32) (x3 : Int32) {u : (Nat → Int32)} (hf : f_J0_getBytes_840e7_S n f x0 x2 x3 = some u) : ConD g l yJ0_getBytes_840e7 cJ0_getBytes_840e7 4 none ({ frames := 1, cells := 0, slots := 0, locals := 70 } : Room) [.ref (g.2.2 (300 + x0)), .ref z, .int x2, .int x3] [baW g z n f] (none) [baW g z n u] := by
  unfold f_J0_getBytes_840e7_S at hf
  refine Con_of [baW g z n f] [(0, .ref (g.2.2 (300 + x0))), (1, .ref z), (2, .int x2), (3, .int x3)] rfl rfl (by decide) (Nat.le_of_ble_eq_true rfl) ?_
  intro pW eW sW mW argsW belowW methW c9 C hnm hr
  have C : CX g RJ0 cJ0_getBytes_840e7 4 _ pW sW mW argsW methW c9 := C
  refine x_aload_n C dJ0_getBytes_840e7_0 rfl 0 rfl ?_
  obtain ⟨u1, hu1, hf⟩ := x_b hf
  obtain ⟨h2, hf⟩ := x_y hf
  refine x_callVR (n := 0) (As := []) (rest := []) C (c_J0_coder_7d493 g l x0 hu1) ⟨⟨wd_351, wd_348, wd_36⟩, ⟨by decide, by decide, by decide⟩, rfl, rfl, Nat.le_of_ble_eq_true rfl, Nat.le_of_ble_eq_true rfl⟩ wd_349 wd_350 (CX_so C h2).1 [baW g z n f] (x_pickD [0] 1 rfl rfl rfl) rfl rfl (Nat.le_of_ble_eq_true rfl) ⟨Nat.le_of_ble_eq_true rfl, Nat.le_of_ble_eq_true rfl⟩ dJ0_getBytes_840e7_1 (x_goD (wss2 := [baW g z n f]) (stk2 := [.int u1]) rfl rfl ?_)
  refine x_iload_n C dJ0_getBytes_840e7_4 rfl 3 rfl ?_
  refine x_icmp_ne (tgt := 28) C dJ0_getBytes_840e7_5 (by decide) (fun h3 => ?_) (fun h3 => ?_)
  · have hf := x_f h3 hf
    cases hf
  · have hf := x_t h3 hf
    refine x_aload_n C dJ0_getBytes_840e7_8 rfl 0 rfl ?_
    obtain ⟨h7, hf⟩ := x_y hf
    refine x_getOF C (CX_so C h7).2.2 wd_482 (fun _ h => h) dJ0_getBytes_840e7_9 ?_
    refine x_iconst (v := 0) C dJ0_getBytes_840e7_12 (by decide) ?_
    refine x_aload_n C dJ0_getBytes_840e7_13 rfl 1 rfl ?_
    refine x_iload_n C dJ0_getBytes_840e7_14 rfl 2 rfl ?_
    refine x_iload_n C dJ0_getBytes_840e7_15 rfl 3 rfl ?_
    refine x_ishl C dJ0_getBytes_840e7_16 ?_
    refine x_aload_n C dJ0_getBytes_840e7_17 rfl 0 rfl ?_
    obtain ⟨h8, hf⟩ := x_y hf
    refine x_getOF C (CX_so C h8).2.2 wd_482 (fun _ h => h) dJ0_getBytes_840e7_18 ?_
    obtain ⟨h9, hf⟩ := x_y hf
    refine x_stn C (CX_sv C h9) rfl dJ0_getBytes_840e7_21 ?_
    obtain ⟨h10, hf⟩ := x_y hf
    obtain ⟨h11, hf⟩ := x_y hf
    refine x_copyT (f0 := (fun j => (stByt.getD x0 []).getD j 0)) (b' := baW g z n (va_cpy (fun j => (stByt.getD x0 []).getD j 0) f (0 : Int32).toNatClampNeg (x2 <<< (x3 &&& 31)).toNatClampNeg (Int32.ofNat (stLen.getD x0 0)).toNatClampNeg)) (wss' := [baW g z n (va_cpy (fun j => (stByt.getD x0 []).getD j 0) f (0 : Int32).toNatClampNeg (x2 <<< (x3 &&& 31)).toNatClampNeg (Int32.ofNat (stLen.getD x0 0)).toNatClampNeg)]) C wd_385 wd_312 wd_311 wd_54 3 rfl (CX_sv C h10) 0 rfl 0 (baW_at0 g z n _) h11.1.1 h11.1.2.1 h11.1.2.2 h11.2.1.1 h11.2.1.2 h11.2.2 ⟨Nat.le_of_ble_eq_true rfl, Nat.le_of_ble_eq_true rfl⟩ rfl rfl dJ0_getBytes_840e7_22 ?_
    refine x_goto (tgt := 43) C dJ0_getBytes_840e7_25 (by decide) ?_
    exact x_vret C hr ⟨by obtain rfl := Option.some.inj hf; rfl, by obtain rfl := Option.some.inj hf; rfl⟩ dJ0_getBytes_840e7_43
theorem wd_357 : Cond.methodLink RJ5 397 yJ5_inflateIfNeededFor_a7421 ∈ xTB := xTB_in 357 (by decide +kernel) (by decide +kernel)
theorem wd_359 : Cond.instanceMethod yJ5_inflateIfNeededFor_a7421 ∈ xTB := xTB_in 359 (by decide +kernel) (by decide +kernel)
theorem wd_360 : Cond.code yJ5_inflateIfNeededFor_a7421 cJ5_inflateIfNeededFor_a7421 2 none ∈ xTB := xTB_in 360 (by decide +kernel) (by decide +kernel)
theorem wd_381 : Cond.methodLink RJ5 399 yJ0_getBytes_840e7 ∈ xTB := xTB_in 381 (by decide +kernel) (by decide +kernel)
theorem wd_382 : Cond.instanceMethod yJ0_getBytes_840e7 ∈ xTB := xTB_in 382 (by decide +kernel) (by decide +kernel)
theorem wd_383 : Cond.selects yJ0_getBytes_840e7.cls yJ0_getBytes_840e7 yJ0_getBytes_840e7 ∈ xTB := xTB_in 383 (by decide +kernel) (by decide +kernel)
theorem wd_384 : Cond.code yJ0_getBytes_840e7 cJ0_getBytes_840e7 4 none ∈ xTB := xTB_in 384 (by decide +kernel) (by decide +kernel)
theorem wd_1391 : Cond.sameMethod yJ5_inflateIfNeededFor_a7421.cls yJ5_inflateIfNeededFor_a7421.cls yJ5_inflateIfNeededFor_a7421.name yJ5_inflateIfNeededFor_a7421.desc ∈ xTB := xTB_in 1391 (by decide +kernel) (by decide +kernel)
theorem dJ5_putStringAt_47b60_0 : decode cJ5_putStringAt_47b60 0 = .ok (.aload_n 0, 1) := by decide +kernel
theorem dJ5_putStringAt_47b60_1 : decode cJ5_putStringAt_47b60 1 = .ok (.aload_n 2, 1) := by decide +kernel
theorem dJ5_putStringAt_47b60_2 : decode cJ5_putStringAt_47b60 2 = .ok (.invokevirtual 397, 3) := by decide +kernel
theorem dJ5_putStringAt_47b60_5 : decode cJ5_putStringAt_47b60 5 = .ok (.aload_n 2, 1) := by decide +kernel
theorem dJ5_putStringAt_47b60_6 : decode cJ5_putStringAt_47b60 6 = .ok (.aload_n 0, 1) := by decide +kernel
theorem dJ5_putStringAt_47b60_7 : decode cJ5_putStringAt_47b60 7 = .ok (.getfield 15, 3) := by decide +kernel
theorem dJ5_putStringAt_47b60_10 : decode cJ5_putStringAt_47b60 10 = .ok (.iload_n 1, 1) := by decide +kernel
theorem dJ5_putStringAt_47b60_11 : decode cJ5_putStringAt_47b60 11 = .ok (.aload_n 0, 1) := by decide +kernel
theorem dJ5_putStringAt_47b60_12 : decode cJ5_putStringAt_47b60 12 = .ok (.getfield 22, 3) := by decide +kernel
theorem dJ5_putStringAt_47b60_15 : decode cJ5_putStringAt_47b60 15 = .ok (.invokevirtual 399, 3) := by decide +kernel
theorem dJ5_putStringAt_47b60_18 : decode cJ5_putStringAt_47b60 18 = .ok (.return_, 1) := by decide +kernel
def f_J5_putStringAt_47b60_S (n : Nat) (k : SbT) (f : (Nat → Int32)) (x1 : Int32) (x2 : Nat) : Option (Nat → Int32) := (f_J5_inflateIfNeededFor_a7421_S k x2).bind fun u1 => ((f_J0_getBytes_840e7_S n f x2 x1 (0 : Int32)).bind fun u2 => ((if x2 < 39 then (some (u2)) else none)))
set_option maxHeartbeats 4000000 in
set_option maxRecDepth 100000 in
theorem c_J5_putStringAt_47b60_S (g : xG) (l : Launch) (y : Nat) (z : Nat) (n : Nat) (k : SbT) (f : (Nat → Int32)) (x1 : Int32) (x2 : Nat) {u : (Nat → Int32)} (hf : f_J5_putStringAt_47b60_S n k f x1 x2 = some u) : ConD g l yJ5_putStringAt_47b60 cJ5_putStringAt_47b60 3 none ({ frames := 2, cells := 0, slots := 0, locals := 93 } : Room) [.ref y, .int x1, .ref (g.2.2 (300 + x2))] [sbO g y z k, baW g z n f] (none) [sbO g y z k, baW g z n u] := by
  unfold f_J5_putStringAt_47b60_S at hf
  refine Con_of [sbO g y z k, baW g z n f] [(0, .ref y), (1, .int x1), (2, .ref (g.2.2 (300 + x2)))] rfl rfl (by decide) (Nat.le_of_ble_eq_true rfl) ?_
  intro pW eW sW mW argsW belowW methW c9 C hnm hr
  have C : CX g RJ5 cJ5_putStringAt_47b60 3 _ pW sW mW argsW methW c9 := C
  refine x_aload_n C dJ5_putStringAt_47b60_0 rfl 0 rfl ?_
  refine x_aload_n C dJ5_putStringAt_47b60_1 rfl 2 rfl ?_
  obtain ⟨u1, hu1, hf⟩ := x_b hf
  refine x_callUP (Cn := RJ4) (n := 1) (As := [.ref (g.2.2 (300 + x2))]) (rest := []) C (c_J5_inflateIfNeededFor_a7421_S g l y z k x2 hu1) ⟨⟨wd_360, wd_357, wd_1391, ⟨rfl, by decide⟩, wd_359, wd_34⟩, ⟨by decide, by decide, by decide⟩, rfl, rfl, Nat.le_of_ble_eq_true rfl, Nat.le_of_ble_eq_true rfl⟩ ⟨0, 1, _, _, rfl, rfl, rfl⟩ [baW g z n f] (x_pickD [0, 1] 2 rfl rfl rfl) rfl rfl (Nat.le_of_ble_eq_true rfl) ⟨Nat.le_of_ble_eq_true rfl, Nat.le_of_ble_eq_true rfl⟩ dJ5_putStringAt_47b60_2 (x_goD (wss2 := [sbO g y z k, baW g z n f]) (stk2 := []) rfl rfl ?_)
  refine x_aload_n C dJ5_putStringAt_47b60_5 rfl 2 rfl ?_
  refine x_aload_n C dJ5_putStringAt_47b60_6 rfl 0 rfl ?_
  refine x_get (ci := 1) (v := .ref z) (b := sbO g y z k) C ixJ4 rfl 0 (by decide) wd_255 (fun _ h => h) 0 rfl 0 (sbO_at0 g y z _) rfl dJ5_putStringAt_47b60_7 ?_
  refine x_iload_n C dJ5_putStringAt_47b60_10 rfl 1 rfl ?_
  refine x_aload_n C dJ5_putStringAt_47b60_11 rfl 0 rfl ?_
  refine x_get (ci := 1) (v := .int (0 : Int32)) (b := sbO g y z k) C ixJ4 rfl 1 (by decide) wd_256 (fun _ h => h) 0 rfl 0 (sbO_at0 g y z _) rfl dJ5_putStringAt_47b60_12 ?_
  obtain ⟨u2, hu2, hf⟩ := x_b hf
  obtain ⟨h3, hf⟩ := x_y hf
  refine x_callVR (n := 3) (As := [.ref z, .int x1, .int (0 : Int32)]) (rest := []) C (c_J0_getBytes_840e7_S g l z n f x2 x1 (0 : Int32) hu2) ⟨⟨wd_384, wd_381, wd_36⟩, ⟨by decide, by decide, by decide⟩, rfl, rfl, Nat.le_of_ble_eq_true rfl, Nat.le_of_ble_eq_true rfl⟩ wd_382 wd_383 (CX_so C h3).1 [sbO g y z k] (x_pickD [1, 0] 2 rfl rfl rfl) rfl rfl (Nat.le_of_ble_eq_true rfl) ⟨Nat.le_of_ble_eq_true rfl, Nat.le_of_ble_eq_true rfl⟩ dJ5_putStringAt_47b60_15 (x_goD (wss2 := [baW g z n u2, sbO g y z k]) (stk2 := []) rfl rfl ?_)
  refine x_perm (wss' := [sbO g y z k, baW g z n u2]) (x_pick [1, 0] 2 rfl rfl rfl) ?_
  exact x_vret C hr ⟨by obtain rfl := Option.some.inj hf; rfl, by obtain rfl := Option.some.inj hf; rfl⟩ dJ5_putStringAt_47b60_18
theorem wd_344 : Cond.methodLink RJ5 32 yJ0_length_8abf5 ∈ xTB := xTB_in 344 (by decide +kernel) (by decide +kernel)
theorem wd_353 : Cond.methodLink RJ5 208 yJ5_putStringAt_47b60 ∈ xTB := xTB_in 353 (by decide +kernel) (by decide +kernel)
theorem wd_355 : Cond.instanceMethod yJ5_putStringAt_47b60 ∈ xTB := xTB_in 355 (by decide +kernel) (by decide +kernel)
theorem wd_356 : Cond.code yJ5_putStringAt_47b60 cJ5_putStringAt_47b60 3 none ∈ xTB := xTB_in 356 (by decide +kernel) (by decide +kernel)
theorem wd_1390 : Cond.sameMethod yJ5_putStringAt_47b60.cls yJ5_putStringAt_47b60.cls yJ5_putStringAt_47b60.name yJ5_putStringAt_47b60.desc ∈ xTB := xTB_in 1390 (by decide +kernel) (by decide +kernel)
theorem dJ5_append_cf1ce_0 : decode cJ5_append_cf1ce 0 = .ok (.aload_n 1, 1) := by decide +kernel
theorem dJ5_append_cf1ce_1 : decode cJ5_append_cf1ce 1 = .ok (.ifnonnull 8, 3) := by decide +kernel
theorem dJ5_append_cf1ce_4 : decode cJ5_append_cf1ce 4 = .ok (.aload_n 0, 1) := by decide +kernel
theorem dJ5_append_cf1ce_5 : decode cJ5_append_cf1ce 5 = .ok (.invokevirtual 204, 3) := by decide +kernel
theorem dJ5_append_cf1ce_8 : decode cJ5_append_cf1ce 8 = .ok (.areturn, 1) := by decide +kernel
theorem dJ5_append_cf1ce_9 : decode cJ5_append_cf1ce 9 = .ok (.aload_n 1, 1) := by decide +kernel
theorem dJ5_append_cf1ce_10 : decode cJ5_append_cf1ce 10 = .ok (.invokevirtual 32, 3) := by decide +kernel
theorem dJ5_append_cf1ce_13 : decode cJ5_append_cf1ce 13 = .ok (.istore_n 2, 1) := by decide +kernel
theorem dJ5_append_cf1ce_14 : decode cJ5_append_cf1ce 14 = .ok (.aload_n 0, 1) := by decide +kernel
theorem dJ5_append_cf1ce_15 : decode cJ5_append_cf1ce 15 = .ok (.aload_n 0, 1) := by decide +kernel
theorem dJ5_append_cf1ce_16 : decode cJ5_append_cf1ce 16 = .ok (.getfield 79, 3) := by decide +kernel
theorem dJ5_append_cf1ce_19 : decode cJ5_append_cf1ce 19 = .ok (.iload_n 2, 1) := by decide +kernel
theorem dJ5_append_cf1ce_20 : decode cJ5_append_cf1ce 20 = .ok (.iadd, 1) := by decide +kernel
theorem dJ5_append_cf1ce_21 : decode cJ5_append_cf1ce 21 = .ok (.invokevirtual 100, 3) := by decide +kernel
theorem dJ5_append_cf1ce_24 : decode cJ5_append_cf1ce 24 = .ok (.aload_n 0, 1) := by decide +kernel
theorem dJ5_append_cf1ce_25 : decode cJ5_append_cf1ce 25 = .ok (.aload_n 0, 1) := by decide +kernel
theorem dJ5_append_cf1ce_26 : decode cJ5_append_cf1ce 26 = .ok (.getfield 79, 3) := by decide +kernel
theorem dJ5_append_cf1ce_29 : decode cJ5_append_cf1ce 29 = .ok (.aload_n 1, 1) := by decide +kernel
theorem dJ5_append_cf1ce_30 : decode cJ5_append_cf1ce 30 = .ok (.invokevirtual 208, 3) := by decide +kernel
theorem dJ5_append_cf1ce_33 : decode cJ5_append_cf1ce 33 = .ok (.aload_n 0, 1) := by decide +kernel
theorem dJ5_append_cf1ce_34 : decode cJ5_append_cf1ce 34 = .ok (.dup, 1) := by decide +kernel
theorem dJ5_append_cf1ce_35 : decode cJ5_append_cf1ce 35 = .ok (.getfield 79, 3) := by decide +kernel
theorem dJ5_append_cf1ce_38 : decode cJ5_append_cf1ce 38 = .ok (.iload_n 2, 1) := by decide +kernel
theorem dJ5_append_cf1ce_39 : decode cJ5_append_cf1ce 39 = .ok (.iadd, 1) := by decide +kernel
theorem dJ5_append_cf1ce_40 : decode cJ5_append_cf1ce 40 = .ok (.putfield 79, 3) := by decide +kernel
theorem dJ5_append_cf1ce_43 : decode cJ5_append_cf1ce 43 = .ok (.aload_n 0, 1) := by decide +kernel
theorem dJ5_append_cf1ce_44 : decode cJ5_append_cf1ce 44 = .ok (.areturn, 1) := by decide +kernel
def f_J5_append_cf1ce_S (n : Nat) (k : SbT) (f : (Nat → Int32)) (x1 : Nat) : Option (SbT × (Nat → Int32)) := (f_J0_length_8abf5 x1).bind fun u1 => ((if x1 < 39 then ((f_J5_ensureCapacityInternal_d00df n k f (k.2 + u1)).bind fun u3 => ((f_J5_putStringAt_47b60_S n k f k.2 x1).bind fun u4 => (some ((k.1, k.2 + u1), u4)))) else none))
set_option maxHeartbeats 4000000 in
set_option maxRecDepth 100000 in
theorem c_J5_append_cf1ce_S (g : xG) (l : Launch) (y : Nat) (z : Nat) (n : Nat) (k : SbT) (f : (Nat → Int32)) (x1 : Nat) {u : SbT × (Nat → Int32)} (hf : f_J5_append_cf1ce_S n k f x1 = some u) : ConD g l yJ5_append_cf1ce cJ5_append_cf1ce 3 (some (.object "java/lang/AbstractStringBuilder")) ({ frames := 4, cells := 0, slots := 0, locals := 115 } : Room) [.ref y, .ref (g.2.2 (300 + x1))] [sbO g y z k, baW g z n f] (some (.ref y)) [sbO g y z u.1, baW g z n u.2] := by
  unfold f_J5_append_cf1ce_S at hf
  refine Con_of [sbO g y z k, baW g z n f] [(0, .ref y), (1, .ref (g.2.2 (300 + x1)))] rfl rfl (by decide) (Nat.le_of_ble_eq_true rfl) ?_
  intro pW eW sW mW argsW belowW methW c9 C hnm hr
  have C : CX g RJ5 cJ5_append_cf1ce 3 _ pW sW mW argsW methW c9 := C
  refine x_aload_n C dJ5_append_cf1ce_0 rfl 1 rfl ?_
  refine x_ifnonnull (tgt := 9) C dJ5_append_cf1ce_1 (by decide) ?_
  refine x_aload_n C dJ5_append_cf1ce_9 rfl 1 rfl ?_
  obtain ⟨u1, hu1, hf⟩ := x_b hf
  obtain ⟨h2, hf⟩ := x_y hf
  refine x_callVR (n := 0) (As := []) (rest := []) C (c_J0_length_8abf5 g l x1 hu1) ⟨⟨wd_347, wd_344, wd_36⟩, ⟨by decide, by decide, by decide⟩, rfl, rfl, Nat.le_of_ble_eq_true rfl, Nat.le_of_ble_eq_true rfl⟩ wd_345 wd_346 (CX_so C h2).1 [sbO g y z k, baW g z n f] (x_pickD [0, 1] 2 rfl rfl rfl) rfl rfl (Nat.le_of_ble_eq_true rfl) ⟨Nat.le_of_ble_eq_true rfl, Nat.le_of_ble_eq_true rfl⟩ dJ5_append_cf1ce_10 (x_goD (wss2 := [sbO g y z k, baW g z n f]) (stk2 := [.int u1]) rfl rfl ?_)
  refine x_istore_n (lv' := [(2, .int u1), (0, .ref y), (1, .ref (g.2.2 (300 + x1)))]) C dJ5_append_cf1ce_13 rfl (by decide) rfl ?_
  refine x_aload_n C dJ5_append_cf1ce_14 rfl 1 rfl ?_
  refine x_aload_n C dJ5_append_cf1ce_15 rfl 1 rfl ?_
  refine x_get (ci := 1) (v := .int k.2) (b := sbO g y z k) C ixJ4 rfl 3 (by decide) wd_259 (fun _ h => h) 0 rfl 0 (sbO_at0 g y z _) rfl dJ5_append_cf1ce_16 ?_
  refine x_iload_n C dJ5_append_cf1ce_19 rfl 0 rfl ?_
  refine x_iadd C dJ5_append_cf1ce_20 ?_
  obtain ⟨u3, hu3, hf⟩ := x_b hf
  refine x_callUP (Cn := RJ4) (n := 1) (As := [.int (k.2 + u1)]) (rest := []) C (c_J5_ensureCapacityInternal_d00df g l y z n k f (k.2 + u1) hu3) ⟨⟨wd_283, wd_280, wd_1388, ⟨rfl, by decide⟩, wd_282, wd_34⟩, ⟨by decide, by decide, by decide⟩, rfl, rfl, Nat.le_of_ble_eq_true rfl, Nat.le_of_ble_eq_true rfl⟩ ⟨0, 1, _, _, rfl, rfl, rfl⟩ [] (x_pickD [0, 1] 2 rfl rfl rfl) rfl rfl (Nat.le_of_ble_eq_true rfl) ⟨Nat.le_of_ble_eq_true rfl, Nat.le_of_ble_eq_true rfl⟩ dJ5_append_cf1ce_21 (x_goD (wss2 := [sbO g y z k, baW g z n f]) (stk2 := []) rfl rfl ?_)
  refine x_aload_n C dJ5_append_cf1ce_24 rfl 1 rfl ?_
  refine x_aload_n C dJ5_append_cf1ce_25 rfl 1 rfl ?_
  refine x_get (ci := 1) (v := .int k.2) (b := sbO g y z k) C ixJ4 rfl 3 (by decide) wd_259 (fun _ h => h) 0 rfl 0 (sbO_at0 g y z _) rfl dJ5_append_cf1ce_26 ?_
  refine x_aload_n C dJ5_append_cf1ce_29 rfl 2 rfl ?_
  obtain ⟨u4, hu4, hf⟩ := x_b hf
  refine x_callUP (Cn := RJ4) (n := 2) (As := [.int k.2, .ref (g.2.2 (300 + x1))]) (rest := []) C (c_J5_putStringAt_47b60_S g l y z n k f k.2 x1 hu4) ⟨⟨wd_356, wd_353, wd_1390, ⟨rfl, by decide⟩, wd_355, wd_34⟩, ⟨by decide, by decide, by decide⟩, rfl, rfl, Nat.le_of_ble_eq_true rfl, Nat.le_of_ble_eq_true rfl⟩ ⟨0, 1, _, _, rfl, rfl, rfl⟩ [] (x_pickD [0, 1] 2 rfl rfl rfl) rfl rfl (Nat.le_of_ble_eq_true rfl) ⟨Nat.le_of_ble_eq_true rfl, Nat.le_of_ble_eq_true rfl⟩ dJ5_append_cf1ce_30 (x_goD (wss2 := [sbO g y z k, baW g z n u4]) (stk2 := []) rfl rfl ?_)
  refine x_aload_n C dJ5_append_cf1ce_33 rfl 1 rfl ?_
  refine x_dup C dJ5_append_cf1ce_34 rfl ?_
  refine x_get (ci := 1) (v := .int k.2) (b := sbO g y z k) C ixJ4 rfl 3 (by decide) wd_259 (fun _ h => h) 0 rfl 0 (sbO_at0 g y z _) rfl dJ5_append_cf1ce_35 ?_
  refine x_iload_n C dJ5_append_cf1ce_38 rfl 0 rfl ?_
  refine x_iadd C dJ5_append_cf1ce_39 ?_
  refine x_put (ci := 1) (ty := .int) (v := .int (k.2 + u1)) (b := sbO g y z k) (b' := sbO g y z (k.1, k.2 + u1)) (wss' := [sbO g y z (k.1, k.2 + u1), baW g z n u4]) C ixJ4 tyJ4 tyJ4_ok nmJ4 rfl 3 (by decide) wd_259 (fun _ h => h) rfl (tyJ4_ok 3 (by decide)) rfl rfl 0 rfl 0 (sbO_at0 g y z _) (Nat.le_of_ble_eq_true rfl) rfl rfl dJ5_append_cf1ce_40 ?_
  refine x_aload_n C dJ5_append_cf1ce_43 rfl 1 rfl ?_
  exact x_aret C hr (Or.inl ⟨_, rfl⟩) ⟨by obtain rfl := Option.some.inj hf; rfl, by obtain rfl := Option.some.inj hf; rfl⟩ dJ5_append_cf1ce_44
theorem wd_273 : Cond.methodLink RJ4 29 yJ5_append_cf1ce ∈ xTB := xTB_in 273 (by decide +kernel) (by decide +kernel)
theorem wd_274 : Cond.instanceMethod yJ5_append_cf1ce ∈ xTB := xTB_in 274 (by decide +kernel) (by decide +kernel)
theorem wd_275 : Cond.code yJ5_append_cf1ce cJ5_append_cf1ce 3 (some (.object "java/lang/AbstractStringBuilder")) ∈ xTB := xTB_in 275 (by decide +kernel) (by decide +kernel)
theorem wd_1386 : Cond.sameMethod yJ5_append_cf1ce.cls yJ5_append_cf1ce.cls yJ5_append_cf1ce.name yJ5_append_cf1ce.desc ∈ xTB := xTB_in 1386 (by decide +kernel) (by decide +kernel)
theorem dJ4_append_15ec4_0 : decode cJ4_append_15ec4 0 = .ok (.aload_n 0, 1) := by decide +kernel
theorem dJ4_append_15ec4_1 : decode cJ4_append_15ec4 1 = .ok (.aload_n 1, 1) := by decide +kernel
theorem dJ4_append_15ec4_2 : decode cJ4_append_15ec4 2 = .ok (.invokespecial 29, 3) := by decide +kernel
theorem dJ4_append_15ec4_5 : decode cJ4_append_15ec4 5 = .ok (.pop, 1) := by decide +kernel
theorem dJ4_append_15ec4_6 : decode cJ4_append_15ec4 6 = .ok (.aload_n 0, 1) := by decide +kernel
theorem dJ4_append_15ec4_7 : decode cJ4_append_15ec4 7 = .ok (.areturn, 1) := by decide +kernel
def f_J4_append_15ec4_S (n : Nat) (k : SbT) (f : (Nat → Int32)) (x1 : Nat) : Option (SbT × (Nat → Int32)) := (f_J5_append_cf1ce_S n k f x1).bind fun u1 => (some (u1.1, u1.2))
set_option maxHeartbeats 4000000 in
set_option maxRecDepth 100000 in
theorem c_J4_append_15ec4_S (g : xG) (l : Launch) (y : Nat) (z : Nat) (n : Nat) (k : SbT) (f : (Nat → Int32)) (x1 : Nat) {u : SbT × (Nat → Int32)} (hf : f_J4_append_15ec4_S n k f x1 = some u) : ConD g l yJ4_append_15ec4 cJ4_append_15ec4 2 (some (.object "java/lang/StringBuilder")) ({ frames := 5, cells := 0, slots := 0, locals := 137 } : Room) [.ref y, .ref (g.2.2 (300 + x1))] [sbO g y z k, baW g z n f] (some (.ref y)) [sbO g y z u.1, baW g z n u.2] := by
  unfold f_J4_append_15ec4_S at hf
  refine Con_of [sbO g y z k, baW g z n f] [(0, .ref y), (1, .ref (g.2.2 (300 + x1)))] rfl rfl (by decide) (Nat.le_of_ble_eq_true rfl) ?_
  intro pW eW sW mW argsW belowW methW c9 C hnm hr
  have C : CX g RJ4 cJ4_append_15ec4 2 _ pW sW mW argsW methW c9 := C
  refine x_aload_n C dJ4_append_15ec4_0 rfl 0 rfl ?_
  refine x_aload_n C dJ4_append_15ec4_1 rfl 1 rfl ?_
  obtain ⟨u1, hu1, hf⟩ := x_b hf
  refine x_callSU (n := 1) (As := [.ref (g.2.2 (300 + x1))]) (rest := []) C (c_J5_append_cf1ce_S g l y z n k f x1 hu1) ⟨⟨wd_275, wd_273, wd_1386, wd_229, wd_274, wd_34⟩, ⟨by decide, by decide⟩, rfl, rfl, Nat.le_of_ble_eq_true rfl, Nat.le_of_ble_eq_true rfl⟩ ⟨0, 1, _, _, rfl, rfl⟩ [] (x_pickD [0, 1] 2 rfl rfl rfl) rfl rfl (Nat.le_of_ble_eq_true rfl) ⟨Nat.le_of_ble_eq_true rfl, Nat.le_of_ble_eq_true rfl⟩ dJ4_append_15ec4_2 (x_goD (wss2 := [sbO g y z u1.1, baW g z n u1.2]) (stk2 := [.ref y]) rfl rfl ?_)
  refine x_pop C dJ4_append_15ec4_5 rfl ?_
  refine x_aload_n C dJ4_append_15ec4_6 rfl 0 rfl ?_
  exact x_aret C hr (Or.inl ⟨_, rfl⟩) ⟨by obtain rfl := Option.some.inj hf; rfl, by obtain rfl := Option.some.inj hf; rfl⟩ dJ4_append_15ec4_7
def f_J5_inflateIfNeededFor_a7421_T (k : SbT) (t3 : Unit)  : Option Unit := if (1 : Int32) = (0 : Int32) then (some ()) else ((f_J0_coder_7d493_D t3).bind fun u2 => (if (0 : Int32) = u2 then (some ()) else (none)))
set_option maxHeartbeats 4000000 in
set_option maxRecDepth 100000 in
theorem c_J5_inflateIfNeededFor_a7421_T (g : xG) (l : Launch) (y : Nat) (z : Nat) (x : Nat) (w : Nat) (k : SbT) (t3 : Unit)  {u : Unit} (hf : f_J5_inflateIfNeededFor_a7421_T k t3 = some u) : ConD g l yJ5_inflateIfNeededFor_a7421 cJ5_inflateIfNeededFor_a7421 2 none ({ frames := 1, cells := 0, slots := 0, locals := 20 } : Room) [.ref y, .ref x] [sbO g y z k, stgO g x w t3] (none) [sbO g y z k, stgO g x w t3] := by
  unfold f_J5_inflateIfNeededFor_a7421_T at hf
  refine Con_of [sbO g y z k, stgO g x w t3] [(0, .ref y), (1, .ref x)] rfl rfl (by decide) (Nat.le_of_ble_eq_true rfl) ?_
  intro pW eW sW mW argsW belowW methW c9 C hnm hr
  have C : CX g RJ5 cJ5_inflateIfNeededFor_a7421 2 _ pW sW mW argsW methW c9 := C
  refine x_gets (Cn := "java/lang/String") (n := "COMPACT_STRINGS") (d := "Z") C (CX_cs C) wd_246 (fun _ h => h) dJ5_inflateIfNeededFor_a7421_0 ?_
  refine x_if_eq (tgt := 21) C dJ5_inflateIfNeededFor_a7421_3 (by decide) (fun h1 => ?_) (fun h1 => ?_)
  · have hf := x_t h1 hf
    exact x_vret C hr ⟨by obtain rfl := Option.some.inj hf; rfl, by obtain rfl := Option.some.inj hf; rfl⟩ dJ5_inflateIfNeededFor_a7421_21
  · have hf := x_f h1 hf
    refine x_aload_n C dJ5_inflateIfNeededFor_a7421_6 rfl 0 rfl ?_
    refine x_get (ci := 1) (v := .int (0 : Int32)) (b := sbO g y z k) C ixJ4 rfl 1 (by decide) wd_256 (fun _ h => h) 0 rfl 0 (sbO_at0 g y z _) rfl dJ5_inflateIfNeededFor_a7421_7 ?_
    refine x_aload_n C dJ5_inflateIfNeededFor_a7421_10 rfl 1 rfl ?_
    obtain ⟨u2, hu2, hf⟩ := x_b hf
    refine x_callV (n := 0) (As := []) (rest := [.int (0 : Int32)]) C (c_J0_coder_7d493_D g l x w t3 hu2) ⟨⟨wd_351, wd_361, wd_36⟩, ⟨by decide, by decide, by decide⟩, rfl, rfl, Nat.le_of_ble_eq_true rfl, Nat.le_of_ble_eq_true rfl⟩ wd_349 wd_350 ⟨0, 0, _, _, rfl, rfl, rfl⟩ [sbO g y z k] (x_pickD [1, 0] 2 rfl rfl rfl) rfl rfl (Nat.le_of_ble_eq_true rfl) ⟨Nat.le_of_ble_eq_true rfl, Nat.le_of_ble_eq_true rfl⟩ dJ5_inflateIfNeededFor_a7421_11 (x_goD (wss2 := [stgO g x w t3, sbO g y z k]) (stk2 := [.int u2, .int (0 : Int32)]) rfl rfl ?_)
    refine x_icmp_eq (tgt := 21) C dJ5_inflateIfNeededFor_a7421_14 (by decide) (fun h3 => ?_) (fun h3 => ?_)
    · have hf := x_t h3 hf
      refine x_perm (wss' := [sbO g y z k, stgO g x w t3]) (x_pick [1, 0] 2 rfl rfl rfl) ?_
      exact x_vret C hr ⟨by obtain rfl := Option.some.inj hf; rfl, by obtain rfl := Option.some.inj hf; rfl⟩ dJ5_inflateIfNeededFor_a7421_21
    · have hf := x_f h3 hf
      cases hf
def f_J0_getBytes_840e7_T (n : Nat) (m : Nat) (f : (Nat → Int32)) (t3 : Unit) (h : (Nat → Int32)) (x2 : Int32) (x3 : Int32) : Option (Nat → Int32) := (f_J0_coder_7d493_D t3).bind fun u1 => (if u1 = x3 then ((if (¬ (0 : Int32) < 0 ∧ ¬ (x2 <<< (x3 &&& 31)) < 0 ∧ ¬ (Int32.ofNat m) < 0) ∧ ((0 : Int32).toNatClampNeg + (Int32.ofNat m).toNatClampNeg ≤ m ∧ (x2 <<< (x3 &&& 31)).toNatClampNeg + (Int32.ofNat m).toNatClampNeg ≤ n) ∧ ∀ i, i < (Int32.ofNat m).toNatClampNeg → fits .byte (.int (h ((0 : Int32).toNatClampNeg + i))) = true then (some (va_cpy h f (0 : Int32).toNatClampNeg (x2 <<< (x3 &&& 31)).toNatClampNeg (Int32.ofNat m).toNatClampNeg)) else none)) else (none))
set_option maxHeartbeats 4000000 in
set_option maxRecDepth 100000 in
theorem c_J0_getBytes_840e7_T (g : xG) (l : Launch) (z : Nat) (n : Nat) (x : Nat) (w : Nat) (m : Nat) (f : (Nat → Int32)) (t3 : Unit) (h : (Nat → Int32)) (x2 : Int32) (x3 : Int32) {u : (Nat → Int32)} (hf : f_J0_getBytes_840e7_T n m f t3 h x2 x3 = some u) : ConD g l yJ0_getBytes_840e7 cJ0_getBytes_840e7 4 none ({ frames := 1, cells := 0, slots := 0, locals := 70 } : Room) [.ref x, .ref z, .int x2, .int x3] [baW g z n f, stgO g x w t3, baW g w m h] (none) [baW g z n u, stgO g x w t3, baW g w m h] := by
  unfold f_J0_getBytes_840e7_T at hf
  refine Con_of [baW g z n f, stgO g x w t3, baW g w m h] [(0, .ref x), (1, .ref z), (2, .int x2), (3, .int x3)] rfl rfl (by decide) (Nat.le_of_ble_eq_true rfl) ?_
  intro pW eW sW mW argsW belowW methW c9 C hnm hr
  have C : CX g RJ0 cJ0_getBytes_840e7 4 _ pW sW mW argsW methW c9 := C
  refine x_aload_n C dJ0_getBytes_840e7_0 rfl 0 rfl ?_
  obtain ⟨u1, hu1, hf⟩ := x_b hf
  refine x_callV (n := 0) (As := []) (rest := []) C (c_J0_coder_7d493_D g l x w t3 hu1) ⟨⟨wd_351, wd_348, wd_36⟩, ⟨by decide, by decide, by decide⟩, rfl, rfl, Nat.le_of_ble_eq_true rfl, Nat.le_of_ble_eq_true rfl⟩ wd_349 wd_350 ⟨0, 0, _, _, rfl, rfl, rfl⟩ [baW g z n f, baW g w m h] (x_pickD [1, 0, 2] 3 rfl rfl rfl) rfl rfl (Nat.le_of_ble_eq_true rfl) ⟨Nat.le_of_ble_eq_true rfl, Nat.le_of_ble_eq_true rfl⟩ dJ0_getBytes_840e7_1 (x_goD (wss2 := [stgO g x w t3, baW g z n f, baW g w m h]) (stk2 := [.int u1]) rfl rfl ?_)
  refine x_iload_n C dJ0_getBytes_840e7_4 rfl 3 rfl ?_
  refine x_icmp_ne (tgt := 28) C dJ0_getBytes_840e7_5 (by decide) (fun h2 => ?_) (fun h2 => ?_)
  · have hf := x_f h2 hf
    cases hf
  · have hf := x_t h2 hf
    refine x_aload_n C dJ0_getBytes_840e7_8 rfl 0 rfl ?_
    refine x_get (ci := 0) (v := .ref w) (b := stgO g x w t3) C ixJ0 rfl 0 (by decide) wd_482 (fun _ h => h) 0 rfl 0 (stgO_at0 g x w _) rfl dJ0_getBytes_840e7_9 ?_
    refine x_iconst (v := 0) C dJ0_getBytes_840e7_12 (by decide) ?_
    refine x_aload_n C dJ0_getBytes_840e7_13 rfl 1 rfl ?_
    refine x_iload_n C dJ0_getBytes_840e7_14 rfl 2 rfl ?_
    refine x_iload_n C dJ0_getBytes_840e7_15 rfl 3 rfl ?_
    refine x_ishl C dJ0_getBytes_840e7_16 ?_
    refine x_aload_n C dJ0_getBytes_840e7_17 rfl 0 rfl ?_
    refine x_get (ci := 0) (v := .ref w) (b := stgO g x w t3) C ixJ0 rfl 0 (by decide) wd_482 (fun _ h => h) 0 rfl 0 (stgO_at0 g x w _) rfl dJ0_getBytes_840e7_18 ?_
    refine x_alen (v := Int32.ofNat m) C 3 rfl 2 rfl 0 (baW_at0 g w m _) rfl dJ0_getBytes_840e7_21 ?_
    obtain ⟨h3, hf⟩ := x_y hf
    refine x_copyi (b' := baW g z n (va_cpy h f (0 : Int32).toNatClampNeg (x2 <<< (x3 &&& 31)).toNatClampNeg (Int32.ofNat m).toNatClampNeg)) (wss' := [stgO g x w t3, baW g z n (va_cpy h f (0 : Int32).toNatClampNeg (x2 <<< (x3 &&& 31)).toNatClampNeg (Int32.ofNat m).toNatClampNeg), baW g w m h]) C wd_385 wd_312 wd_311 wd_54 3 rfl rfl 1 rfl 0 (baW_at0 g z n _) 2 rfl 0 (baW_at0 g w m _) h3.1.1 h3.1.2.1 h3.1.2.2 h3.2.1.1 h3.2.1.2 h3.2.2 ⟨Nat.le_of_ble_eq_true rfl, Nat.le_of_ble_eq_true rfl⟩ rfl rfl dJ0_getBytes_840e7_22 ?_
    refine x_goto (tgt := 43) C dJ0_getBytes_840e7_25 (by decide) ?_
    refine x_perm (wss' := [baW g z n (va_cpy h f (0 : Int32).toNatClampNeg (x2 <<< (x3 &&& 31)).toNatClampNeg (Int32.ofNat m).toNatClampNeg), stgO g x w t3, baW g w m h]) (x_pick [1, 0, 2] 3 rfl rfl rfl) ?_
    exact x_vret C hr ⟨by obtain rfl := Option.some.inj hf; rfl, by obtain rfl := Option.some.inj hf; rfl⟩ dJ0_getBytes_840e7_43
def f_J5_putStringAt_47b60_T (n : Nat) (m : Nat) (k : SbT) (f : (Nat → Int32)) (t3 : Unit) (h : (Nat → Int32)) (x1 : Int32) : Option (Nat → Int32) := (f_J5_inflateIfNeededFor_a7421_T k t3).bind fun u1 => ((f_J0_getBytes_840e7_T n m f t3 h x1 (0 : Int32)).bind fun u2 => (some (u2)))
set_option maxHeartbeats 4000000 in
set_option maxRecDepth 100000 in
theorem c_J5_putStringAt_47b60_T (g : xG) (l : Launch) (y : Nat) (z : Nat) (n : Nat) (x : Nat) (w : Nat) (m : Nat) (k : SbT) (f : (Nat → Int32)) (t3 : Unit) (h : (Nat → Int32)) (x1 : Int32) {u : (Nat → Int32)} (hf : f_J5_putStringAt_47b60_T n m k f t3 h x1 = some u) : ConD g l yJ5_putStringAt_47b60 cJ5_putStringAt_47b60 3 none ({ frames := 2, cells := 0, slots := 0, locals := 93 } : Room) [.ref y, .int x1, .ref x] [sbO g y z k, baW g z n f, stgO g x w t3, baW g w m h] (none) [sbO g y z k, baW g z n u, stgO g x w t3, baW g w m h] := by
  unfold f_J5_putStringAt_47b60_T at hf
  refine Con_of [sbO g y z k, baW g z n f, stgO g x w t3, baW g w m h] [(0, .ref y), (1, .int x1), (2, .ref x)] rfl rfl (by decide) (Nat.le_of_ble_eq_true rfl) ?_
  intro pW eW sW mW argsW belowW methW c9 C hnm hr
  have C : CX g RJ5 cJ5_putStringAt_47b60 3 _ pW sW mW argsW methW c9 := C
  refine x_aload_n C dJ5_putStringAt_47b60_0 rfl 0 rfl ?_
  refine x_aload_n C dJ5_putStringAt_47b60_1 rfl 2 rfl ?_
  obtain ⟨u1, hu1, hf⟩ := x_b hf
  refine x_callUP (Cn := RJ4) (n := 1) (As := [.ref x]) (rest := []) C (c_J5_inflateIfNeededFor_a7421_T g l y z x w k t3 hu1) ⟨⟨wd_360, wd_357, wd_1391, ⟨rfl, by decide⟩, wd_359, wd_34⟩, ⟨by decide, by decide, by decide⟩, rfl, rfl, Nat.le_of_ble_eq_true rfl, Nat.le_of_ble_eq_true rfl⟩ ⟨0, 1, _, _, rfl, rfl, rfl⟩ [baW g z n f, baW g w m h] (x_pickD [0, 2, 1, 3] 4 rfl rfl rfl) rfl rfl (Nat.le_of_ble_eq_true rfl) ⟨Nat.le_of_ble_eq_true rfl, Nat.le_of_ble_eq_true rfl⟩ dJ5_putStringAt_47b60_2 (x_goD (wss2 := [sbO g y z k, stgO g x w t3, baW g z n f, baW g w m h]) (stk2 := []) rfl rfl ?_)
  refine x_aload_n C dJ5_putStringAt_47b60_5 rfl 2 rfl ?_
  refine x_aload_n C dJ5_putStringAt_47b60_6 rfl 0 rfl ?_
  refine x_get (ci := 1) (v := .ref z) (b := sbO g y z k) C ixJ4 rfl 0 (by decide) wd_255 (fun _ h => h) 0 rfl 0 (sbO_at0 g y z _) rfl dJ5_putStringAt_47b60_7 ?_
  refine x_iload_n C dJ5_putStringAt_47b60_10 rfl 1 rfl ?_
  refine x_aload_n C dJ5_putStringAt_47b60_11 rfl 0 rfl ?_
  refine x_get (ci := 1) (v := .int (0 : Int32)) (b := sbO g y z k) C ixJ4 rfl 1 (by decide) wd_256 (fun _ h => h) 0 rfl 0 (sbO_at0 g y z _) rfl dJ5_putStringAt_47b60_12 ?_
  obtain ⟨u2, hu2, hf⟩ := x_b hf
  refine x_callV (n := 3) (As := [.ref z, .int x1, .int (0 : Int32)]) (rest := []) C (c_J0_getBytes_840e7_T g l z n x w m f t3 h x1 (0 : Int32) hu2) ⟨⟨wd_384, wd_381, wd_36⟩, ⟨by decide, by decide, by decide⟩, rfl, rfl, Nat.le_of_ble_eq_true rfl, Nat.le_of_ble_eq_true rfl⟩ wd_382 wd_383 ⟨1, 0, _, _, rfl, rfl, rfl⟩ [sbO g y z k] (x_pickD [2, 1, 3, 0] 4 rfl rfl rfl) rfl rfl (Nat.le_of_ble_eq_true rfl) ⟨Nat.le_of_ble_eq_true rfl, Nat.le_of_ble_eq_true rfl⟩ dJ5_putStringAt_47b60_15 (x_goD (wss2 := [baW g z n u2, stgO g x w t3, baW g w m h, sbO g y z k]) (stk2 := []) rfl rfl ?_)
  refine x_perm (wss' := [sbO g y z k, baW g z n u2, stgO g x w t3, baW g w m h]) (x_pick [3, 0, 1, 2] 4 rfl rfl rfl) ?_
  exact x_vret C hr ⟨by obtain rfl := Option.some.inj hf; rfl, by obtain rfl := Option.some.inj hf; rfl⟩ dJ5_putStringAt_47b60_18
def f_J5_append_cf1ce_T (n : Nat) (m : Nat) (k : SbT) (f : (Nat → Int32)) (t3 : Unit) (h : (Nat → Int32))  : Option (SbT × (Nat → Int32)) := (f_J0_length_8abf5_D m t3 h).bind fun u1 => ((f_J5_ensureCapacityInternal_d00df n k f (k.2 + u1)).bind fun u2 => ((f_J5_putStringAt_47b60_T n m k f t3 h k.2).bind fun u3 => (some ((k.1, k.2 + u1), u3))))
set_option maxHeartbeats 4000000 in
set_option maxRecDepth 100000 in
theorem c_J5_append_cf1ce_T (g : xG) (l : Launch) (y : Nat) (z : Nat) (n : Nat) (x : Nat) (w : Nat) (m : Nat) (k : SbT) (f : (Nat → Int32)) (t3 : Unit) (h : (Nat → Int32))  {u : SbT × (Nat → Int32)} (hf : f_J5_append_cf1ce_T n m k f t3 h = some u) : ConD g l yJ5_append_cf1ce cJ5_append_cf1ce 3 (some (.object "java/lang/AbstractStringBuilder")) ({ frames := 4, cells := 0, slots := 0, locals := 115 } : Room) [.ref y, .ref x] [sbO g y z k, baW g z n f, stgO g x w t3, baW g w m h] (some (.ref y)) [sbO g y z u.1, baW g z n u.2, stgO g x w t3, baW g w m h] := by
  unfold f_J5_append_cf1ce_T at hf
  refine Con_of [sbO g y z k, baW g z n f, stgO g x w t3, baW g w m h] [(0, .ref y), (1, .ref x)] rfl rfl (by decide) (Nat.le_of_ble_eq_true rfl) ?_
  intro pW eW sW mW argsW belowW methW c9 C hnm hr
  have C : CX g RJ5 cJ5_append_cf1ce 3 _ pW sW mW argsW methW c9 := C
  refine x_aload_n C dJ5_append_cf1ce_0 rfl 1 rfl ?_
  refine x_ifnonnull (tgt := 9) C dJ5_append_cf1ce_1 (by decide) ?_
  refine x_aload_n C dJ5_append_cf1ce_9 rfl 1 rfl ?_
  obtain ⟨u1, hu1, hf⟩ := x_b hf
  refine x_callV (n := 0) (As := []) (rest := []) C (c_J0_length_8abf5_D g l x w m t3 h hu1) ⟨⟨wd_347, wd_344, wd_36⟩, ⟨by decide, by decide, by decide⟩, rfl, rfl, Nat.le_of_ble_eq_true rfl, Nat.le_of_ble_eq_true rfl⟩ wd_345 wd_346 ⟨0, 0, _, _, rfl, rfl, rfl⟩ [sbO g y z k, baW g z n f] (x_pickD [2, 3, 0, 1] 4 rfl rfl rfl) rfl rfl (Nat.le_of_ble_eq_true rfl) ⟨Nat.le_of_ble_eq_true rfl, Nat.le_of_ble_eq_true rfl⟩ dJ5_append_cf1ce_10 (x_goD (wss2 := [stgO g x w t3, baW g w m h, sbO g y z k, baW g z n f]) (stk2 := [.int u1]) rfl rfl ?_)
  refine x_istore_n (lv' := [(2, .int u1), (0, .ref y), (1, .ref x)]) C dJ5_append_cf1ce_13 rfl (by decide) rfl ?_
  refine x_aload_n C dJ5_append_cf1ce_14 rfl 1 rfl ?_
  refine x_aload_n C dJ5_append_cf1ce_15 rfl 1 rfl ?_
  refine x_get (ci := 1) (v := .int k.2) (b := sbO g y z k) C ixJ4 rfl 3 (by decide) wd_259 (fun _ h => h) 2 rfl 0 (sbO_at0 g y z _) rfl dJ5_append_cf1ce_16 ?_
  refine x_iload_n C dJ5_append_cf1ce_19 rfl 0 rfl ?_
  refine x_iadd C dJ5_append_cf1ce_20 ?_
  obtain ⟨u2, hu2, hf⟩ := x_b hf
  refine x_callUP (Cn := RJ4) (n := 1) (As := [.int (k.2 + u1)]) (rest := []) C (c_J5_ensureCapacityInternal_d00df g l y z n k f (k.2 + u1) hu2) ⟨⟨wd_283, wd_280, wd_1388, ⟨rfl, by decide⟩, wd_282, wd_34⟩, ⟨by decide, by decide, by decide⟩, rfl, rfl, Nat.le_of_ble_eq_true rfl, Nat.le_of_ble_eq_true rfl⟩ ⟨0, 1, _, _, rfl, rfl, rfl⟩ [stgO g x w t3, baW g w m h] (x_pickD [2, 3, 0, 1] 4 rfl rfl rfl) rfl rfl (Nat.le_of_ble_eq_true rfl) ⟨Nat.le_of_ble_eq_true rfl, Nat.le_of_ble_eq_true rfl⟩ dJ5_append_cf1ce_21 (x_goD (wss2 := [sbO g y z k, baW g z n f, stgO g x w t3, baW g w m h]) (stk2 := []) rfl rfl ?_)
  refine x_aload_n C dJ5_append_cf1ce_24 rfl 1 rfl ?_
  refine x_aload_n C dJ5_append_cf1ce_25 rfl 1 rfl ?_
  refine x_get (ci := 1) (v := .int k.2) (b := sbO g y z k) C ixJ4 rfl 3 (by decide) wd_259 (fun _ h => h) 0 rfl 0 (sbO_at0 g y z _) rfl dJ5_append_cf1ce_26 ?_
  refine x_aload_n C dJ5_append_cf1ce_29 rfl 2 rfl ?_
  obtain ⟨u3, hu3, hf⟩ := x_b hf
  refine x_callUP (Cn := RJ4) (n := 2) (As := [.int k.2, .ref x]) (rest := []) C (c_J5_putStringAt_47b60_T g l y z n x w m k f t3 h k.2 hu3) ⟨⟨wd_356, wd_353, wd_1390, ⟨rfl, by decide⟩, wd_355, wd_34⟩, ⟨by decide, by decide, by decide⟩, rfl, rfl, Nat.le_of_ble_eq_true rfl, Nat.le_of_ble_eq_true rfl⟩ ⟨0, 1, _, _, rfl, rfl, rfl⟩ [] (x_pickD [0, 1, 2, 3] 4 rfl rfl rfl) rfl rfl (Nat.le_of_ble_eq_true rfl) ⟨Nat.le_of_ble_eq_true rfl, Nat.le_of_ble_eq_true rfl⟩ dJ5_append_cf1ce_30 (x_goD (wss2 := [sbO g y z k, baW g z n u3, stgO g x w t3, baW g w m h]) (stk2 := []) rfl rfl ?_)
  refine x_aload_n C dJ5_append_cf1ce_33 rfl 1 rfl ?_
  refine x_dup C dJ5_append_cf1ce_34 rfl ?_
  refine x_get (ci := 1) (v := .int k.2) (b := sbO g y z k) C ixJ4 rfl 3 (by decide) wd_259 (fun _ h => h) 0 rfl 0 (sbO_at0 g y z _) rfl dJ5_append_cf1ce_35 ?_
  refine x_iload_n C dJ5_append_cf1ce_38 rfl 0 rfl ?_
  refine x_iadd C dJ5_append_cf1ce_39 ?_
  refine x_put (ci := 1) (ty := .int) (v := .int (k.2 + u1)) (b := sbO g y z k) (b' := sbO g y z (k.1, k.2 + u1)) (wss' := [sbO g y z (k.1, k.2 + u1), baW g z n u3, stgO g x w t3, baW g w m h]) C ixJ4 tyJ4 tyJ4_ok nmJ4 rfl 3 (by decide) wd_259 (fun _ h => h) rfl (tyJ4_ok 3 (by decide)) rfl rfl 0 rfl 0 (sbO_at0 g y z _) (Nat.le_of_ble_eq_true rfl) rfl rfl dJ5_append_cf1ce_40 ?_
  refine x_aload_n C dJ5_append_cf1ce_43 rfl 1 rfl ?_
  exact x_aret C hr (Or.inl ⟨_, rfl⟩) ⟨by obtain rfl := Option.some.inj hf; rfl, by obtain rfl := Option.some.inj hf; rfl⟩ dJ5_append_cf1ce_44
def f_J4_append_15ec4_T (n : Nat) (m : Nat) (k : SbT) (f : (Nat → Int32)) (t3 : Unit) (h : (Nat → Int32))  : Option (SbT × (Nat → Int32)) := (f_J5_append_cf1ce_T n m k f t3 h).bind fun u1 => (some (u1.1, u1.2))
set_option maxHeartbeats 4000000 in
set_option maxRecDepth 100000 in
theorem c_J4_append_15ec4_T (g : xG) (l : Launch) (y : Nat) (z : Nat) (n : Nat) (x : Nat) (w : Nat) (m : Nat) (k : SbT) (f : (Nat → Int32)) (t3 : Unit) (h : (Nat → Int32))  {u : SbT × (Nat → Int32)} (hf : f_J4_append_15ec4_T n m k f t3 h = some u) : ConD g l yJ4_append_15ec4 cJ4_append_15ec4 2 (some (.object "java/lang/StringBuilder")) ({ frames := 5, cells := 0, slots := 0, locals := 137 } : Room) [.ref y, .ref x] [sbO g y z k, baW g z n f, stgO g x w t3, baW g w m h] (some (.ref y)) [sbO g y z u.1, baW g z n u.2, stgO g x w t3, baW g w m h] := by
  unfold f_J4_append_15ec4_T at hf
  refine Con_of [sbO g y z k, baW g z n f, stgO g x w t3, baW g w m h] [(0, .ref y), (1, .ref x)] rfl rfl (by decide) (Nat.le_of_ble_eq_true rfl) ?_
  intro pW eW sW mW argsW belowW methW c9 C hnm hr
  have C : CX g RJ4 cJ4_append_15ec4 2 _ pW sW mW argsW methW c9 := C
  refine x_aload_n C dJ4_append_15ec4_0 rfl 0 rfl ?_
  refine x_aload_n C dJ4_append_15ec4_1 rfl 1 rfl ?_
  obtain ⟨u1, hu1, hf⟩ := x_b hf
  refine x_callSU (n := 1) (As := [.ref x]) (rest := []) C (c_J5_append_cf1ce_T g l y z n x w m k f t3 h hu1) ⟨⟨wd_275, wd_273, wd_1386, wd_229, wd_274, wd_34⟩, ⟨by decide, by decide⟩, rfl, rfl, Nat.le_of_ble_eq_true rfl, Nat.le_of_ble_eq_true rfl⟩ ⟨0, 1, _, _, rfl, rfl⟩ [] (x_pickD [0, 1, 2, 3] 4 rfl rfl rfl) rfl rfl (Nat.le_of_ble_eq_true rfl) ⟨Nat.le_of_ble_eq_true rfl, Nat.le_of_ble_eq_true rfl⟩ dJ4_append_15ec4_2 (x_goD (wss2 := [sbO g y z u1.1, baW g z n u1.2, stgO g x w t3, baW g w m h]) (stk2 := [.ref y]) rfl rfl ?_)
  refine x_pop C dJ4_append_15ec4_5 rfl ?_
  refine x_aload_n C dJ4_append_15ec4_6 rfl 0 rfl ?_
  exact x_aret C hr (Or.inl ⟨_, rfl⟩) ⟨by obtain rfl := Option.some.inj hf; rfl, by obtain rfl := Option.some.inj hf; rfl⟩ dJ4_append_15ec4_7
theorem dJ5_getValue_6d5f1_0 : decode cJ5_getValue_6d5f1 0 = .ok (.aload_n 0, 1) := by decide +kernel
theorem dJ5_getValue_6d5f1_1 : decode cJ5_getValue_6d5f1 1 = .ok (.getfield 15, 3) := by decide +kernel
theorem dJ5_getValue_6d5f1_4 : decode cJ5_getValue_6d5f1 4 = .ok (.areturn, 1) := by decide +kernel
def f_J5_getValue_6d5f1 (k : SbT)  : Option Unit := some ()
set_option maxHeartbeats 4000000 in
set_option maxRecDepth 100000 in
theorem c_J5_getValue_6d5f1 (g : xG) (l : Launch) (y : Nat) (z : Nat) (k : SbT)  {u : Unit} (hf : f_J5_getValue_6d5f1 k = some u) : ConD g l yJ5_getValue_6d5f1 cJ5_getValue_6d5f1 1 (some (.array .byte)) ({ frames := 0, cells := 0, slots := 0, locals := 0 } : Room) [.ref y] [sbO g y z k] (some (.ref z)) [sbO g y z k] := by
  unfold f_J5_getValue_6d5f1 at hf
  refine Con_of [sbO g y z k] [(0, .ref y)] rfl rfl (by decide) (Nat.le_of_ble_eq_true rfl) ?_
  intro pW eW sW mW argsW belowW methW c9 C hnm hr
  have C : CX g RJ5 cJ5_getValue_6d5f1 1 _ pW sW mW argsW methW c9 := C
  refine x_aload_n C dJ5_getValue_6d5f1_0 rfl 0 rfl ?_
  refine x_get (ci := 1) (v := .ref z) (b := sbO g y z k) C ixJ4 rfl 0 (by decide) wd_255 (fun _ h => h) 0 rfl 0 (sbO_at0 g y z _) rfl dJ5_getValue_6d5f1_1 ?_
  exact x_aret C hr (Or.inr ⟨_, rfl⟩) ⟨by obtain rfl := Option.some.inj hf; rfl, by obtain rfl := Option.some.inj hf; rfl⟩ dJ5_getValue_6d5f1_4
theorem dJ7_checkLength_df160_0 : decode cJ7_checkLength_df160 0 = .ok (.iload_n 1, 1) := by decide +kernel
theorem dJ7_checkLength_df160_1 : decode cJ7_checkLength_df160 1 = .ok (.iload_n 0, 1) := by decide +kernel
theorem dJ7_checkLength_df160_2 : decode cJ7_checkLength_df160 2 = .ok (.if_icmp .ge 35, 3) := by decide +kernel
theorem dJ7_checkLength_df160_5 : decode cJ7_checkLength_df160 5 = .ok (.new 43, 3) := by decide +kernel
theorem dJ7_checkLength_df160_8 : decode cJ7_checkLength_df160 8 = .ok (.dup, 1) := by decide +kernel
theorem dJ7_checkLength_df160_9 : decode cJ7_checkLength_df160 9 = .ok (.new 45, 3) := by decide +kernel
theorem dJ7_checkLength_df160_12 : decode cJ7_checkLength_df160 12 = .ok (.dup, 1) := by decide +kernel
theorem dJ7_checkLength_df160_13 : decode cJ7_checkLength_df160 13 = .ok (.invokespecial 47, 3) := by decide +kernel
theorem dJ7_checkLength_df160_16 : decode cJ7_checkLength_df160 16 = .ok (.iload_n 0, 1) := by decide +kernel
theorem dJ7_checkLength_df160_17 : decode cJ7_checkLength_df160 17 = .ok (.invokevirtual 54, 3) := by decide +kernel
theorem dJ7_checkLength_df160_20 : decode cJ7_checkLength_df160 20 = .ok (.ldc_w 337, 3) := by decide +kernel
theorem dJ7_checkLength_df160_23 : decode cJ7_checkLength_df160 23 = .ok (.invokevirtual 50, 3) := by decide +kernel
theorem dJ7_checkLength_df160_26 : decode cJ7_checkLength_df160 26 = .ok (.iload_n 1, 1) := by decide +kernel
theorem dJ7_checkLength_df160_27 : decode cJ7_checkLength_df160 27 = .ok (.invokevirtual 54, 3) := by decide +kernel
theorem dJ7_checkLength_df160_30 : decode cJ7_checkLength_df160 30 = .ok (.invokevirtual 61, 3) := by decide +kernel
theorem dJ7_checkLength_df160_33 : decode cJ7_checkLength_df160 33 = .ok (.invokespecial 65, 3) := by decide +kernel
theorem dJ7_checkLength_df160_36 : decode cJ7_checkLength_df160 36 = .ok (.athrow, 1) := by decide +kernel
theorem dJ7_checkLength_df160_37 : decode cJ7_checkLength_df160 37 = .ok (.return_, 1) := by decide +kernel
def f_J7_checkLength_df160  (x0 : Int32) (x1 : Int32) : Option Unit := if x0 ≤ x1 then (some ()) else (none)
set_option maxHeartbeats 4000000 in
set_option maxRecDepth 100000 in
theorem c_J7_checkLength_df160 (g : xG) (l : Launch)   (x0 : Int32) (x1 : Int32) {u : Unit} (hf : f_J7_checkLength_df160 x0 x1 = some u) : ConD g l yJ7_checkLength_df160 cJ7_checkLength_df160 2 none ({ frames := 0, cells := 0, slots := 0, locals := 0 } : Room) [.int x0, .int x1] [] (none) [] := by
  unfold f_J7_checkLength_df160 at hf
  refine Con_of [] [(0, .int x0), (1, .int x1)] rfl rfl (by decide) (Nat.le_of_ble_eq_true rfl) ?_
  intro pW eW sW mW argsW belowW methW c9 C hnm hr
  have C : CX g RJ7 cJ7_checkLength_df160 2 _ pW sW mW argsW methW c9 := C
  refine x_iload_n C dJ7_checkLength_df160_0 rfl 1 rfl ?_
  refine x_iload_n C dJ7_checkLength_df160_1 rfl 0 rfl ?_
  refine x_icmp_ge (tgt := 37) C dJ7_checkLength_df160_2 (by decide) (fun h1 => ?_) (fun h1 => ?_)
  · have hf := x_t h1 hf
    exact x_vret C hr ⟨by obtain rfl := Option.some.inj hf; rfl, by obtain rfl := Option.some.inj hf; rfl⟩ dJ7_checkLength_df160_37
  · have hf := x_f h1 hf
    cases hf
def f_J5_append_cf1ce_SG (n : Nat) (k : SbT) (f : (Nat → Int32)) (x1 : Nat) : Option (Nat × SbT × (Nat → Int32)) := (f_J0_length_8abf5 x1).bind fun u1 => ((if x1 < 39 then ((f_J5_ensureCapacityInternal_d00df_G n k f (k.2 + u1)).bind fun u3 => ((f_J5_putStringAt_47b60_S u3.1 (k.1, k.2) u3.2 k.2 x1).bind fun u5 => (some (u3.1, (k.1, k.2 + u1), u5)))) else none))
set_option maxHeartbeats 4000000 in
set_option maxRecDepth 100000 in
theorem c_J5_append_cf1ce_SG (g : xG) (l : Launch) (y : Nat) (z : Nat) (n : Nat) (k : SbT) (f : (Nat → Int32)) (x1 : Nat) {u : Nat × SbT × (Nat → Int32)} (hf : f_J5_append_cf1ce_SG n k f x1 = some u) : Con g l yJ5_append_cf1ce cJ5_append_cf1ce 3 (some (.object "java/lang/AbstractStringBuilder")) ({ frames := 5, cells := 1, slots := 290, locals := 142 } : Room) [.ref y, .ref (g.2.2 (300 + x1))] ([sbO g y z k, baW g z n f] : List va_W).flatten (fun v9 w9 => v9 = some (.ref y) ∧ ∃ z9, w9 = ([sbO g y z9 u.2.1, baW g z9 u.1 u.2.2] : List va_W).flatten) 1 290 := by
  unfold f_J5_append_cf1ce_SG at hf
  refine Con_of [sbO g y z k, baW g z n f] [(0, .ref y), (1, .ref (g.2.2 (300 + x1)))] rfl rfl (by decide) (Nat.le_of_ble_eq_true rfl) ?_
  intro pW eW sW mW argsW belowW methW c9 C hnm hr
  have C : CX g RJ5 cJ5_append_cf1ce 3 _ pW sW mW argsW methW c9 := C
  refine x_aload_n C dJ5_append_cf1ce_0 rfl 1 rfl ?_
  refine x_ifnonnull (tgt := 9) C dJ5_append_cf1ce_1 (by decide) ?_
  refine x_aload_n C dJ5_append_cf1ce_9 rfl 1 rfl ?_
  obtain ⟨u1, hu1, hf⟩ := x_b hf
  obtain ⟨h2, hf⟩ := x_y hf
  refine x_callVR (n := 0) (As := []) (rest := []) C (c_J0_length_8abf5 g l x1 hu1) ⟨⟨wd_347, wd_344, wd_36⟩, ⟨by decide, by decide, by decide⟩, rfl, rfl, Nat.le_of_ble_eq_true rfl, Nat.le_of_ble_eq_true rfl⟩ wd_345 wd_346 (CX_so C h2).1 [sbO g y z k, baW g z n f] (x_pickD [0, 1] 2 rfl rfl rfl) rfl rfl (Nat.le_of_ble_eq_true rfl) ⟨Nat.le_of_ble_eq_true rfl, Nat.le_of_ble_eq_true rfl⟩ dJ5_append_cf1ce_10 (x_goD (wss2 := [sbO g y z k, baW g z n f]) (stk2 := [.int u1]) rfl rfl ?_)
  refine x_istore_n (lv' := [(2, .int u1), (0, .ref y), (1, .ref (g.2.2 (300 + x1)))]) C dJ5_append_cf1ce_13 rfl (by decide) rfl ?_
  refine x_aload_n C dJ5_append_cf1ce_14 rfl 1 rfl ?_
  refine x_aload_n C dJ5_append_cf1ce_15 rfl 1 rfl ?_
  refine x_get (ci := 1) (v := .int k.2) (b := sbO g y z k) C ixJ4 rfl 3 (by decide) wd_259 (fun _ h => h) 0 rfl 0 (sbO_at0 g y z _) rfl dJ5_append_cf1ce_16 ?_
  refine x_iload_n C dJ5_append_cf1ce_19 rfl 0 rfl ?_
  refine x_iadd C dJ5_append_cf1ce_20 ?_
  obtain ⟨u3, hu3, hf⟩ := x_b hf
  refine x_callUP (Cn := RJ4) (n := 1) (As := [.int (k.2 + u1)]) (rest := []) C (c_J5_ensureCapacityInternal_d00df_G g l y z n k f (k.2 + u1) hu3) ⟨⟨wd_283, wd_280, wd_1388, ⟨rfl, by decide⟩, wd_282, wd_34⟩, ⟨by decide, by decide, by decide⟩, rfl, rfl, Nat.le_of_ble_eq_true rfl, Nat.le_of_ble_eq_true rfl⟩ ⟨0, 1, _, _, rfl, rfl, rfl⟩ [] (x_pickD [0, 1] 2 rfl rfl rfl) rfl rfl (Nat.le_of_ble_eq_true rfl) ⟨Nat.le_of_ble_eq_true rfl, Nat.le_of_ble_eq_true rfl⟩ dJ5_append_cf1ce_21 (fun v9 w9 hQ9 => ?_)
  obtain ⟨rfl, z4, rfl⟩ := hQ9
  refine x_goW (wss2 := [sbO g y z4 (k.1, k.2), baW g z4 u3.1 u3.2]) (stk2 := []) rfl rfl rfl ?_
  refine x_aload_n C dJ5_append_cf1ce_24 rfl 1 rfl ?_
  refine x_aload_n C dJ5_append_cf1ce_25 rfl 1 rfl ?_
  refine x_get (ci := 1) (v := .int k.2) (b := sbO g y z4 (k.1, k.2)) C ixJ4 rfl 3 (by decide) wd_259 (fun _ h => h) 0 rfl 0 (sbO_at0 g y z4 _) rfl dJ5_append_cf1ce_26 ?_
  refine x_aload_n C dJ5_append_cf1ce_29 rfl 2 rfl ?_
  obtain ⟨u5, hu5, hf⟩ := x_b hf
  refine x_callUP (Cn := RJ4) (n := 2) (As := [.int k.2, .ref (g.2.2 (300 + x1))]) (rest := []) C (c_J5_putStringAt_47b60_S g l y z4 u3.1 (k.1, k.2) u3.2 k.2 x1 hu5) ⟨⟨wd_356, wd_353, wd_1390, ⟨rfl, by decide⟩, wd_355, wd_34⟩, ⟨by decide, by decide, by decide⟩, rfl, rfl, Nat.le_of_ble_eq_true rfl, Nat.le_of_ble_eq_true rfl⟩ ⟨0, 1, _, _, rfl, rfl, rfl⟩ [] (x_pickD [0, 1] 2 rfl rfl rfl) rfl rfl (Nat.le_of_ble_eq_true rfl) ⟨Nat.le_of_ble_eq_true rfl, Nat.le_of_ble_eq_true rfl⟩ dJ5_append_cf1ce_30 (x_goD (wss2 := [sbO g y z4 (k.1, k.2), baW g z4 u3.1 u5]) (stk2 := []) rfl rfl ?_)
  refine x_aload_n C dJ5_append_cf1ce_33 rfl 1 rfl ?_
  refine x_dup C dJ5_append_cf1ce_34 rfl ?_
  refine x_get (ci := 1) (v := .int k.2) (b := sbO g y z4 (k.1, k.2)) C ixJ4 rfl 3 (by decide) wd_259 (fun _ h => h) 0 rfl 0 (sbO_at0 g y z4 _) rfl dJ5_append_cf1ce_35 ?_
  refine x_iload_n C dJ5_append_cf1ce_38 rfl 0 rfl ?_
  refine x_iadd C dJ5_append_cf1ce_39 ?_
  refine x_put (ci := 1) (ty := .int) (v := .int (k.2 + u1)) (b := sbO g y z4 (k.1, k.2)) (b' := sbO g y z4 (k.1, k.2 + u1)) (wss' := [sbO g y z4 (k.1, k.2 + u1), baW g z4 u3.1 u5]) C ixJ4 tyJ4 tyJ4_ok nmJ4 rfl 3 (by decide) wd_259 (fun _ h => h) rfl (tyJ4_ok 3 (by decide)) rfl rfl 0 rfl 0 (sbO_at0 g y z4 _) (Nat.le_of_ble_eq_true rfl) rfl rfl dJ5_append_cf1ce_40 ?_
  refine x_aload_n C dJ5_append_cf1ce_43 rfl 1 rfl ?_
  refine x_widen (k := 1) (n := 290) (Nat.le_of_ble_eq_true rfl) (Nat.le_of_ble_eq_true rfl) ?_
  exact x_aret C hr (Or.inl ⟨_, rfl⟩) ⟨by obtain rfl := Option.some.inj hf; rfl, z4, by obtain rfl := Option.some.inj hf; rfl⟩ dJ5_append_cf1ce_44
def f_J4_append_15ec4_SG (n : Nat) (k : SbT) (f : (Nat → Int32)) (x1 : Nat) : Option (Nat × SbT × (Nat → Int32)) := (f_J5_append_cf1ce_SG n k f x1).bind fun u1 => (some (u1.1, u1.2.1, u1.2.2))
set_option maxHeartbeats 4000000 in
set_option maxRecDepth 100000 in
theorem c_J4_append_15ec4_SG (g : xG) (l : Launch) (y : Nat) (z : Nat) (n : Nat) (k : SbT) (f : (Nat → Int32)) (x1 : Nat) {u : Nat × SbT × (Nat → Int32)} (hf : f_J4_append_15ec4_SG n k f x1 = some u) : Con g l yJ4_append_15ec4 cJ4_append_15ec4 2 (some (.object "java/lang/StringBuilder")) ({ frames := 6, cells := 1, slots := 290, locals := 164 } : Room) [.ref y, .ref (g.2.2 (300 + x1))] ([sbO g y z k, baW g z n f] : List va_W).flatten (fun v9 w9 => v9 = some (.ref y) ∧ ∃ z9, w9 = ([sbO g y z9 u.2.1, baW g z9 u.1 u.2.2] : List va_W).flatten) 1 290 := by
  unfold f_J4_append_15ec4_SG at hf
  refine Con_of [sbO g y z k, baW g z n f] [(0, .ref y), (1, .ref (g.2.2 (300 + x1)))] rfl rfl (by decide) (Nat.le_of_ble_eq_true rfl) ?_
  intro pW eW sW mW argsW belowW methW c9 C hnm hr
  have C : CX g RJ4 cJ4_append_15ec4 2 _ pW sW mW argsW methW c9 := C
  refine x_aload_n C dJ4_append_15ec4_0 rfl 0 rfl ?_
  refine x_aload_n C dJ4_append_15ec4_1 rfl 1 rfl ?_
  obtain ⟨u1, hu1, hf⟩ := x_b hf
  refine x_callSU (n := 1) (As := [.ref (g.2.2 (300 + x1))]) (rest := []) C (c_J5_append_cf1ce_SG g l y z n k f x1 hu1) ⟨⟨wd_275, wd_273, wd_1386, wd_229, wd_274, wd_34⟩, ⟨by decide, by decide⟩, rfl, rfl, Nat.le_of_ble_eq_true rfl, Nat.le_of_ble_eq_true rfl⟩ ⟨0, 1, _, _, rfl, rfl⟩ [] (x_pickD [0, 1] 2 rfl rfl rfl) rfl rfl (Nat.le_of_ble_eq_true rfl) ⟨Nat.le_of_ble_eq_true rfl, Nat.le_of_ble_eq_true rfl⟩ dJ4_append_15ec4_2 (fun v9 w9 hQ9 => ?_)
  obtain ⟨rfl, z2, rfl⟩ := hQ9
  refine x_goW (wss2 := [sbO g y z2 u1.2.1, baW g z2 u1.1 u1.2.2]) (stk2 := [.ref y]) rfl rfl rfl ?_
  refine x_pop C dJ4_append_15ec4_5 rfl ?_
  refine x_aload_n C dJ4_append_15ec4_6 rfl 0 rfl ?_
  refine x_widen (k := 1) (n := 290) (Nat.le_of_ble_eq_true rfl) (Nat.le_of_ble_eq_true rfl) ?_
  exact x_aret C hr (Or.inl ⟨_, rfl⟩) ⟨by obtain rfl := Option.some.inj hf; rfl, z2, by obtain rfl := Option.some.inj hf; rfl⟩ dJ4_append_15ec4_7
def f_J5_append_cf1ce_TG (n : Nat) (m : Nat) (k : SbT) (f : (Nat → Int32)) (t3 : Unit) (h : (Nat → Int32))  : Option (Nat × SbT × (Nat → Int32)) := (f_J0_length_8abf5_D m t3 h).bind fun u1 => ((f_J5_ensureCapacityInternal_d00df_G n k f (k.2 + u1)).bind fun u2 => ((f_J5_putStringAt_47b60_T u2.1 m (k.1, k.2) u2.2 t3 h k.2).bind fun u4 => (some (u2.1, (k.1, k.2 + u1), u4))))
set_option maxHeartbeats 4000000 in
set_option maxRecDepth 100000 in
theorem c_J5_append_cf1ce_TG (g : xG) (l : Launch) (y : Nat) (z : Nat) (n : Nat) (x : Nat) (w : Nat) (m : Nat) (k : SbT) (f : (Nat → Int32)) (t3 : Unit) (h : (Nat → Int32))  {u : Nat × SbT × (Nat → Int32)} (hf : f_J5_append_cf1ce_TG n m k f t3 h = some u) : Con g l yJ5_append_cf1ce cJ5_append_cf1ce 3 (some (.object "java/lang/AbstractStringBuilder")) ({ frames := 5, cells := 1, slots := 290, locals := 142 } : Room) [.ref y, .ref x] ([sbO g y z k, baW g z n f, stgO g x w t3, baW g w m h] : List va_W).flatten (fun v9 w9 => v9 = some (.ref y) ∧ ∃ z9, w9 = ([sbO g y z9 u.2.1, baW g z9 u.1 u.2.2, stgO g x w t3, baW g w m h] : List va_W).flatten) 1 290 := by
  unfold f_J5_append_cf1ce_TG at hf
  refine Con_of [sbO g y z k, baW g z n f, stgO g x w t3, baW g w m h] [(0, .ref y), (1, .ref x)] rfl rfl (by decide) (Nat.le_of_ble_eq_true rfl) ?_
  intro pW eW sW mW argsW belowW methW c9 C hnm hr
  have C : CX g RJ5 cJ5_append_cf1ce 3 _ pW sW mW argsW methW c9 := C
  refine x_aload_n C dJ5_append_cf1ce_0 rfl 1 rfl ?_
  refine x_ifnonnull (tgt := 9) C dJ5_append_cf1ce_1 (by decide) ?_
  refine x_aload_n C dJ5_append_cf1ce_9 rfl 1 rfl ?_
  obtain ⟨u1, hu1, hf⟩ := x_b hf
  refine x_callV (n := 0) (As := []) (rest := []) C (c_J0_length_8abf5_D g l x w m t3 h hu1) ⟨⟨wd_347, wd_344, wd_36⟩, ⟨by decide, by decide, by decide⟩, rfl, rfl, Nat.le_of_ble_eq_true rfl, Nat.le_of_ble_eq_true rfl⟩ wd_345 wd_346 ⟨0, 0, _, _, rfl, rfl, rfl⟩ [sbO g y z k, baW g z n f] (x_pickD [2, 3, 0, 1] 4 rfl rfl rfl) rfl rfl (Nat.le_of_ble_eq_true rfl) ⟨Nat.le_of_ble_eq_true rfl, Nat.le_of_ble_eq_true rfl⟩ dJ5_append_cf1ce_10 (x_goD (wss2 := [stgO g x w t3, baW g w m h, sbO g y z k, baW g z n f]) (stk2 := [.int u1]) rfl rfl ?_)
  refine x_istore_n (lv' := [(2, .int u1), (0, .ref y), (1, .ref x)]) C dJ5_append_cf1ce_13 rfl (by decide) rfl ?_
  refine x_aload_n C dJ5_append_cf1ce_14 rfl 1 rfl ?_
  refine x_aload_n C dJ5_append_cf1ce_15 rfl 1 rfl ?_
  refine x_get (ci := 1) (v := .int k.2) (b := sbO g y z k) C ixJ4 rfl 3 (by decide) wd_259 (fun _ h => h) 2 rfl 0 (sbO_at0 g y z _) rfl dJ5_append_cf1ce_16 ?_
  refine x_iload_n C dJ5_append_cf1ce_19 rfl 0 rfl ?_
  refine x_iadd C dJ5_append_cf1ce_20 ?_
  obtain ⟨u2, hu2, hf⟩ := x_b hf
  refine x_callUP (Cn := RJ4) (n := 1) (As := [.int (k.2 + u1)]) (rest := []) C (c_J5_ensureCapacityInternal_d00df_G g l y z n k f (k.2 + u1) hu2) ⟨⟨wd_283, wd_280, wd_1388, ⟨rfl, by decide⟩, wd_282, wd_34⟩, ⟨by decide, by decide, by decide⟩, rfl, rfl, Nat.le_of_ble_eq_true rfl, Nat.le_of_ble_eq_true rfl⟩ ⟨0, 1, _, _, rfl, rfl, rfl⟩ [stgO g x w t3, baW g w m h] (x_pickD [2, 3, 0, 1] 4 rfl rfl rfl) rfl rfl (Nat.le_of_ble_eq_true rfl) ⟨Nat.le_of_ble_eq_true rfl, Nat.le_of_ble_eq_true rfl⟩ dJ5_append_cf1ce_21 (fun v9 w9 hQ9 => ?_)
  obtain ⟨rfl, z3, rfl⟩ := hQ9
  refine x_goW (wss2 := [sbO g y z3 (k.1, k.2), baW g z3 u2.1 u2.2, stgO g x w t3, baW g w m h]) (stk2 := []) rfl rfl rfl ?_
  refine x_aload_n C dJ5_append_cf1ce_24 rfl 1 rfl ?_
  refine x_aload_n C dJ5_append_cf1ce_25 rfl 1 rfl ?_
  refine x_get (ci := 1) (v := .int k.2) (b := sbO g y z3 (k.1, k.2)) C ixJ4 rfl 3 (by decide) wd_259 (fun _ h => h) 0 rfl 0 (sbO_at0 g y z3 _) rfl dJ5_append_cf1ce_26 ?_
  refine x_aload_n C dJ5_append_cf1ce_29 rfl 2 rfl ?_
  obtain ⟨u4, hu4, hf⟩ := x_b hf
  refine x_callUP (Cn := RJ4) (n := 2) (As := [.int k.2, .ref x]) (rest := []) C (c_J5_putStringAt_47b60_T g l y z3 u2.1 x w m (k.1, k.2) u2.2 t3 h k.2 hu4) ⟨⟨wd_356, wd_353, wd_1390, ⟨rfl, by decide⟩, wd_355, wd_34⟩, ⟨by decide, by decide, by decide⟩, rfl, rfl, Nat.le_of_ble_eq_true rfl, Nat.le_of_ble_eq_true rfl⟩ ⟨0, 1, _, _, rfl, rfl, rfl⟩ [] (x_pickD [0, 1, 2, 3] 4 rfl rfl rfl) rfl rfl (Nat.le_of_ble_eq_true rfl) ⟨Nat.le_of_ble_eq_true rfl, Nat.le_of_ble_eq_true rfl⟩ dJ5_append_cf1ce_30 (x_goD (wss2 := [sbO g y z3 (k.1, k.2), baW g z3 u2.1 u4, stgO g x w t3, baW g w m h]) (stk2 := []) rfl rfl ?_)
  refine x_aload_n C dJ5_append_cf1ce_33 rfl 1 rfl ?_
  refine x_dup C dJ5_append_cf1ce_34 rfl ?_
  refine x_get (ci := 1) (v := .int k.2) (b := sbO g y z3 (k.1, k.2)) C ixJ4 rfl 3 (by decide) wd_259 (fun _ h => h) 0 rfl 0 (sbO_at0 g y z3 _) rfl dJ5_append_cf1ce_35 ?_
  refine x_iload_n C dJ5_append_cf1ce_38 rfl 0 rfl ?_
  refine x_iadd C dJ5_append_cf1ce_39 ?_
  refine x_put (ci := 1) (ty := .int) (v := .int (k.2 + u1)) (b := sbO g y z3 (k.1, k.2)) (b' := sbO g y z3 (k.1, k.2 + u1)) (wss' := [sbO g y z3 (k.1, k.2 + u1), baW g z3 u2.1 u4, stgO g x w t3, baW g w m h]) C ixJ4 tyJ4 tyJ4_ok nmJ4 rfl 3 (by decide) wd_259 (fun _ h => h) rfl (tyJ4_ok 3 (by decide)) rfl rfl 0 rfl 0 (sbO_at0 g y z3 _) (Nat.le_of_ble_eq_true rfl) rfl rfl dJ5_append_cf1ce_40 ?_
  refine x_aload_n C dJ5_append_cf1ce_43 rfl 1 rfl ?_
  refine x_widen (k := 1) (n := 290) (Nat.le_of_ble_eq_true rfl) (Nat.le_of_ble_eq_true rfl) ?_
  exact x_aret C hr (Or.inl ⟨_, rfl⟩) ⟨by obtain rfl := Option.some.inj hf; rfl, z3, by obtain rfl := Option.some.inj hf; rfl⟩ dJ5_append_cf1ce_44
def f_J4_append_15ec4_TG (n : Nat) (m : Nat) (k : SbT) (f : (Nat → Int32)) (t3 : Unit) (h : (Nat → Int32))  : Option (Nat × SbT × (Nat → Int32)) := (f_J5_append_cf1ce_TG n m k f t3 h).bind fun u1 => (some (u1.1, u1.2.1, u1.2.2))
set_option maxHeartbeats 4000000 in
set_option maxRecDepth 100000 in
theorem c_J4_append_15ec4_TG (g : xG) (l : Launch) (y : Nat) (z : Nat) (n : Nat) (x : Nat) (w : Nat) (m : Nat) (k : SbT) (f : (Nat → Int32)) (t3 : Unit) (h : (Nat → Int32))  {u : Nat × SbT × (Nat → Int32)} (hf : f_J4_append_15ec4_TG n m k f t3 h = some u) : Con g l yJ4_append_15ec4 cJ4_append_15ec4 2 (some (.object "java/lang/StringBuilder")) ({ frames := 6, cells := 1, slots := 290, locals := 164 } : Room) [.ref y, .ref x] ([sbO g y z k, baW g z n f, stgO g x w t3, baW g w m h] : List va_W).flatten (fun v9 w9 => v9 = some (.ref y) ∧ ∃ z9, w9 = ([sbO g y z9 u.2.1, baW g z9 u.1 u.2.2, stgO g x w t3, baW g w m h] : List va_W).flatten) 1 290 := by
  unfold f_J4_append_15ec4_TG at hf
  refine Con_of [sbO g y z k, baW g z n f, stgO g x w t3, baW g w m h] [(0, .ref y), (1, .ref x)] rfl rfl (by decide) (Nat.le_of_ble_eq_true rfl) ?_
  intro pW eW sW mW argsW belowW methW c9 C hnm hr
  have C : CX g RJ4 cJ4_append_15ec4 2 _ pW sW mW argsW methW c9 := C
  refine x_aload_n C dJ4_append_15ec4_0 rfl 0 rfl ?_
  refine x_aload_n C dJ4_append_15ec4_1 rfl 1 rfl ?_
  obtain ⟨u1, hu1, hf⟩ := x_b hf
  refine x_callSU (n := 1) (As := [.ref x]) (rest := []) C (c_J5_append_cf1ce_TG g l y z n x w m k f t3 h hu1) ⟨⟨wd_275, wd_273, wd_1386, wd_229, wd_274, wd_34⟩, ⟨by decide, by decide⟩, rfl, rfl, Nat.le_of_ble_eq_true rfl, Nat.le_of_ble_eq_true rfl⟩ ⟨0, 1, _, _, rfl, rfl⟩ [] (x_pickD [0, 1, 2, 3] 4 rfl rfl rfl) rfl rfl (Nat.le_of_ble_eq_true rfl) ⟨Nat.le_of_ble_eq_true rfl, Nat.le_of_ble_eq_true rfl⟩ dJ4_append_15ec4_2 (fun v9 w9 hQ9 => ?_)
  obtain ⟨rfl, z2, rfl⟩ := hQ9
  refine x_goW (wss2 := [sbO g y z2 u1.2.1, baW g z2 u1.1 u1.2.2, stgO g x w t3, baW g w m h]) (stk2 := [.ref y]) rfl rfl rfl ?_
  refine x_pop C dJ4_append_15ec4_5 rfl ?_
  refine x_aload_n C dJ4_append_15ec4_6 rfl 0 rfl ?_
  refine x_widen (k := 1) (n := 290) (Nat.le_of_ble_eq_true rfl) (Nat.le_of_ble_eq_true rfl) ?_
  exact x_aret C hr (Or.inl ⟨_, rfl⟩) ⟨by obtain rfl := Option.some.inj hf; rfl, z2, by obtain rfl := Option.some.inj hf; rfl⟩ dJ4_append_15ec4_7
