/-! STRINGBUILDER that grows -/
theorem wd_53 : Cond.initialized RJ7 ∈ xTB := xTB_in 53 (by decide +kernel) (by decide +kernel)
theorem wd_54 : Cond.initialized "java/lang/System" ∈ xTB := xTB_in 54 (by decide +kernel) (by decide +kernel)
theorem wd_144 : Cond.arrayClass .byte ∈ xTB := xTB_in 144 (by decide +kernel) (by decide +kernel)
theorem wd_299 : Cond.methodLink RJ5 108 yJ7_copyOf_9075b ∈ xTB := xTB_in 299 (by decide +kernel) (by decide +kernel)
theorem wd_300 : Cond.static yJ7_copyOf_9075b ∈ xTB := xTB_in 300 (by decide +kernel) (by decide +kernel)
theorem wd_301 : Cond.code yJ7_copyOf_9075b cJ7_copyOf_9075b 3 (some (.array .byte)) ∈ xTB := xTB_in 301 (by decide +kernel) (by decide +kernel)
theorem wd_309 : Cond.methodLink RJ7 304 Lib.Math.min.name ∈ xTB := xTB_in 309 (by decide +kernel) (by decide +kernel)
theorem wd_310 : Cond.methodLink RJ7 150 arraycopyName ∈ xTB := xTB_in 310 (by decide +kernel) (by decide +kernel)
theorem wd_311 : Cond.static arraycopyName ∈ xTB := xTB_in 311 (by decide +kernel) (by decide +kernel)
theorem wd_312 : Cond.native arraycopyName ∈ xTB := xTB_in 312 (by decide +kernel) (by decide +kernel)
theorem dJ7_copyOf_9075b_0 : decode cJ7_copyOf_9075b 0 = .ok (.iload_n 1, 1) := by decide +kernel
theorem dJ7_copyOf_9075b_1 : decode cJ7_copyOf_9075b 1 = .ok (.aload_n 0, 1) := by decide +kernel
theorem dJ7_copyOf_9075b_2 : decode cJ7_copyOf_9075b 2 = .ok (.arraylength, 1) := by decide +kernel
theorem dJ7_copyOf_9075b_3 : decode cJ7_copyOf_9075b 3 = .ok (.if_icmp .ne 11, 3) := by decide +kernel
theorem dJ7_copyOf_9075b_6 : decode cJ7_copyOf_9075b 6 = .ok (.aload_n 0, 1) := by decide +kernel
theorem dJ7_copyOf_9075b_7 : decode cJ7_copyOf_9075b 7 = .ok (.invokevirtual 310, 3) := by decide +kernel
theorem dJ7_copyOf_9075b_10 : decode cJ7_copyOf_9075b 10 = .ok (.checkcast 311, 3) := by decide +kernel
theorem dJ7_copyOf_9075b_13 : decode cJ7_copyOf_9075b 13 = .ok (.areturn, 1) := by decide +kernel
theorem dJ7_copyOf_9075b_14 : decode cJ7_copyOf_9075b 14 = .ok (.iload_n 1, 1) := by decide +kernel
theorem dJ7_copyOf_9075b_15 : decode cJ7_copyOf_9075b 15 = .ok (.newarray .byte, 2) := by decide +kernel
theorem dJ7_copyOf_9075b_17 : decode cJ7_copyOf_9075b 17 = .ok (.astore_n 2, 1) := by decide +kernel
theorem dJ7_copyOf_9075b_18 : decode cJ7_copyOf_9075b 18 = .ok (.aload_n 0, 1) := by decide +kernel
theorem dJ7_copyOf_9075b_19 : decode cJ7_copyOf_9075b 19 = .ok (.iconst 0, 1) := by decide +kernel
theorem dJ7_copyOf_9075b_20 : decode cJ7_copyOf_9075b 20 = .ok (.aload_n 2, 1) := by decide +kernel
theorem dJ7_copyOf_9075b_21 : decode cJ7_copyOf_9075b 21 = .ok (.iconst 0, 1) := by decide +kernel
theorem dJ7_copyOf_9075b_22 : decode cJ7_copyOf_9075b 22 = .ok (.aload_n 0, 1) := by decide +kernel
theorem dJ7_copyOf_9075b_23 : decode cJ7_copyOf_9075b 23 = .ok (.arraylength, 1) := by decide +kernel
theorem dJ7_copyOf_9075b_24 : decode cJ7_copyOf_9075b 24 = .ok (.iload_n 1, 1) := by decide +kernel
theorem dJ7_copyOf_9075b_25 : decode cJ7_copyOf_9075b 25 = .ok (.invokestatic 304, 3) := by decide +kernel
theorem dJ7_copyOf_9075b_28 : decode cJ7_copyOf_9075b 28 = .ok (.invokestatic 150, 3) := by decide +kernel
theorem dJ7_copyOf_9075b_31 : decode cJ7_copyOf_9075b 31 = .ok (.aload_n 2, 1) := by decide +kernel
theorem dJ7_copyOf_9075b_32 : decode cJ7_copyOf_9075b 32 = .ok (.areturn, 1) := by decide +kernel
theorem c_J7_copyOf_G (g : xG) (l : Launch) (z : Nat) (n : Nat) (f : (Nat → Int32)) (x1 : Int32) {u : Nat × (Nat → Int32)} (hf : f_J7_copyOf_G n f x1 = some u) : Con g l yJ7_copyOf_9075b cJ7_copyOf_9075b 3 (some (.array .byte)) ({ frames := 1, cells := 1, slots := 290, locals := 60 } : Room) [.ref z, .int x1] ([baW g z n f] : List va_W).flatten (fun v9 w9 => ∃ z9, v9 = some (.ref z9) ∧ w9 = ([baW g z n f, baW g z9 u.1 u.2] : List va_W).flatten) 1 290 := by
  unfold f_J7_copyOf_G at hf
  refine Con_of [baW g z n f] [(0, .ref z), (1, .int x1)] rfl rfl (by decide) (Nat.le_of_ble_eq_true rfl) ?_
  intro pW eW sW mW argsW belowW methW c9 C hnm hr
  have C : CX g RJ7 cJ7_copyOf_9075b 3 _ pW sW mW argsW methW c9 := C
  obtain ⟨h1, hf⟩ := x_n hf
  obtain ⟨⟨⟨h2, h3, h4⟩, ⟨h5, h6⟩, h7⟩, hf⟩ := x_y hf
  obtain rfl := Option.some.inj hf
  have hj : (jmin (Int32.ofNat n) x1).toNatClampNeg ≤ 2 * n + 2 := by omega
  refine x_iload_n C dJ7_copyOf_9075b_0 rfl 1 rfl ?_
  refine x_aload_n C dJ7_copyOf_9075b_1 rfl 0 rfl ?_
  refine x_alen (v := Int32.ofNat n) C 3 rfl 0 rfl 0 (baW_at0 g z n _) rfl dJ7_copyOf_9075b_2 ?_
  refine x_icmp_ne (tgt := 14) C dJ7_copyOf_9075b_3 (by decide) (fun _ => ?_) (fun h => absurd h h1)
  refine x_iload_n C dJ7_copyOf_9075b_14 rfl 1 rfl ?_
  refine x_newa (atype := .byte) (a0 := (2 * n + 2, .inl (fun _ => 0))) (N := 2 * n + 2) C 3 rfl wd_144 (fun _ => rfl) h2 h3 (by show (2 * n + 2) * 1 ≤ _; omega) (Nat.le_of_ble_eq_true rfl) (by show 0 + (2 * n + 2) ≤ 290; omega) dJ7_copyOf_9075b_15 (fun z1 => ?_)
  refine x_same (wss' := [baW g z n f, baW g z1 (2 * n + 2) (fun _ => 0)]) rfl ?_
  refine x_widen (k := 1) (n := 290) (Nat.le_of_ble_eq_true rfl) (by omega) ?_
  refine x_astore_n (lv' := [(2, .ref z1), (0, .ref z), (1, .int x1)]) C dJ7_copyOf_9075b_17 rfl (by decide) rfl ?_
  refine x_aload_n C dJ7_copyOf_9075b_18 rfl 1 rfl ?_
  refine x_iconst (v := 0) C dJ7_copyOf_9075b_19 (by decide) ?_
  refine x_aload_n C dJ7_copyOf_9075b_20 rfl 0 rfl ?_
  refine x_iconst (v := 0) C dJ7_copyOf_9075b_21 (by decide) ?_
  refine x_aload_n C dJ7_copyOf_9075b_22 rfl 1 rfl ?_
  refine x_alen (v := Int32.ofNat n) C 3 rfl 0 rfl 0 (baW_at0 g z n _) rfl dJ7_copyOf_9075b_23 ?_
  refine x_iload_n C dJ7_copyOf_9075b_24 rfl 2 rfl ?_
  refine x_min C wd_309 wd_218 wd_49 wd_219 ⟨Nat.le_of_ble_eq_true rfl, Nat.le_of_ble_eq_true rfl⟩ ⟨Nat.le_of_ble_eq_true rfl, Nat.le_of_ble_eq_true rfl⟩ dJ7_copyOf_9075b_25 ?_
  refine x_copyi (b' := baW g z1 (2 * n + 2) (va_cpy f (fun _ => 0) 0 0 (jmin (Int32.ofNat n) x1).toNatClampNeg)) (wss' := [baW g z n f, baW g z1 (2 * n + 2) (va_cpy f (fun _ => 0) 0 0 (jmin (Int32.ofNat n) x1).toNatClampNeg)]) C wd_310 wd_312 wd_311 wd_54 3 rfl rfl 1 rfl 0 (baW_at0 g z1 _ _) 0 rfl 0 (baW_at0 g z n _) (by decide) (by decide) h5 (by show 0 + _ ≤ n; omega) (by show 0 + _ ≤ 2 * n + 2; omega) (fun i hi => by have := h7 i (by omega); show fits .byte (.int (f (0 + i))) = true; rw [Nat.zero_add]; exact this) ⟨Nat.le_of_ble_eq_true rfl, Nat.le_of_ble_eq_true rfl⟩ rfl rfl dJ7_copyOf_9075b_28 ?_
  refine x_aload_n C dJ7_copyOf_9075b_31 rfl 0 rfl ?_
  exact x_aret C hr (Or.inr ⟨_, rfl⟩) ⟨z1, rfl, rfl⟩ dJ7_copyOf_9075b_32
theorem c_J5_ensureCapacityInternal_d00df_G (g : xG) (l : Launch) (y : Nat) (z : Nat) (n : Nat) (k : SbT) (f : (Nat → Int32)) (x1 : Int32) {u : Nat × (Nat → Int32)} (hf : f_J5_ensureCapacityInternal_d00df_G n k f x1 = some u) : Con g l yJ5_ensureCapacityInternal_d00df cJ5_ensureCapacityInternal_d00df 3 none ({ frames := 4, cells := 1, slots := 290, locals := 120 } : Room) [.ref y, .int x1] ([sbO g y z k, baW g z n f] : List va_W).flatten (fun v9 w9 => v9 = none ∧ ∃ z9, w9 = ([sbO g y z9 k, baW g z9 u.1 u.2] : List va_W).flatten) 1 290 := by
  unfold f_J5_ensureCapacityInternal_d00df_G at hf
  refine Con_of [sbO g y z k, baW g z n f] [(0, .ref y), (1, .int x1)] rfl rfl (by decide) (Nat.le_of_ble_eq_true rfl) ?_
  intro pW eW sW mW argsW belowW methW c9 C hnm hr
  have C : CX g RJ5 cJ5_ensureCapacityInternal_d00df 3 _ pW sW mW argsW methW c9 := C
  obtain ⟨h1, hf⟩ := x_n hf
  obtain ⟨u1, hu1, hu2⟩ := x_b hf
  refine x_aload_n C dJ5_ensureCapacityInternal_d00df_0 rfl 0 rfl ?_
  refine x_get (ci := 1) (v := .ref z) (b := sbO g y z k) C ixJ4 rfl 0 (by decide) wd_255 (fun _ h => h) 0 rfl 0 (sbO_at0 g y z _) rfl dJ5_ensureCapacityInternal_d00df_1 ?_
  refine x_alen (v := Int32.ofNat n) C 3 rfl 1 rfl 0 (baW_at0 g z n _) rfl dJ5_ensureCapacityInternal_d00df_4 ?_
  refine x_aload_n C dJ5_ensureCapacityInternal_d00df_5 rfl 0 rfl ?_
  refine x_get (ci := 1) (v := .int (0 : Int32)) (b := sbO g y z k) C ixJ4 rfl 1 (by decide) wd_256 (fun _ h => h) 0 rfl 0 (sbO_at0 g y z _) rfl dJ5_ensureCapacityInternal_d00df_6 ?_
  refine x_ishr C dJ5_ensureCapacityInternal_d00df_9 ?_
  refine x_istore_n (lv' := [(2, .int ((Int32.ofNat n) >>> ((0 : Int32) &&& 31))), (0, .ref y), (1, .int x1)]) C dJ5_ensureCapacityInternal_d00df_10 rfl (by decide) rfl ?_
  refine x_iload_n C dJ5_ensureCapacityInternal_d00df_11 rfl 2 rfl ?_
  refine x_iload_n C dJ5_ensureCapacityInternal_d00df_12 rfl 0 rfl ?_
  refine x_isub C dJ5_ensureCapacityInternal_d00df_13 ?_
  refine x_if_le (tgt := 38) C dJ5_ensureCapacityInternal_d00df_14 (by decide) (fun h => absurd h h1) (fun _ => ?_)
  refine x_aload_n C dJ5_ensureCapacityInternal_d00df_17 rfl 1 rfl ?_
  refine x_aload_n C dJ5_ensureCapacityInternal_d00df_18 rfl 1 rfl ?_
  refine x_get (ci := 1) (v := .ref z) (b := sbO g y z k) C ixJ4 rfl 0 (by decide) wd_255 (fun _ h => h) 0 rfl 0 (sbO_at0 g y z _) rfl dJ5_ensureCapacityInternal_d00df_19 ?_
  refine x_aload_n C dJ5_ensureCapacityInternal_d00df_22 rfl 1 rfl ?_
  refine x_iload_n C dJ5_ensureCapacityInternal_d00df_23 rfl 2 rfl ?_
  refine x_callUP (Cn := RJ4) (n := 1) (As := [.int x1]) (rest := [.ref z, .ref y]) C (c_J5_newCapacity_0f7a4 g l y z n k f x1 hu1) ⟨⟨wd_287, wd_284, wd_1389, ⟨rfl, by decide⟩, wd_286, wd_34⟩, ⟨by decide, by decide, by decide⟩, rfl, rfl, Nat.le_of_ble_eq_true rfl, Nat.le_of_ble_eq_true rfl⟩ ⟨0, 1, _, _, rfl, rfl, rfl⟩ [] (x_pickD [0, 1] 2 rfl rfl rfl) rfl rfl (Nat.le_of_ble_eq_true rfl) ⟨Nat.le_of_ble_eq_true rfl, Nat.le_of_ble_eq_true rfl⟩ dJ5_ensureCapacityInternal_d00df_24 (x_goD (wss2 := [sbO g y z k, baW g z n f]) (stk2 := [.int u1, .ref z, .ref y]) rfl rfl ?_)
  refine x_aload_n C dJ5_ensureCapacityInternal_d00df_27 rfl 1 rfl ?_
  refine x_get (ci := 1) (v := .int (0 : Int32)) (b := sbO g y z k) C ixJ4 rfl 1 (by decide) wd_256 (fun _ h => h) 0 rfl 0 (sbO_at0 g y z _) rfl dJ5_ensureCapacityInternal_d00df_28 ?_
  refine x_ishl C dJ5_ensureCapacityInternal_d00df_31 ?_
  refine x_callS (n := 2) (As := [.ref z, .int (u1 <<< ((0 : Int32) &&& 31))]) (rest := [.ref y]) C (c_J7_copyOf_G g l z n f _ hu2) ⟨⟨wd_301, wd_299, wd_53⟩, ⟨by decide, by decide, by decide⟩, rfl, rfl, Nat.le_of_ble_eq_true rfl, Nat.le_of_ble_eq_true rfl⟩ wd_300 [sbO g y z k] (x_pickD [1, 0] 2 rfl rfl rfl) rfl rfl (Nat.le_of_ble_eq_true rfl) ⟨Nat.le_of_ble_eq_true rfl, Nat.le_of_ble_eq_true rfl⟩ dJ5_ensureCapacityInternal_d00df_32 (fun v9 w9 hQ9 => ?_)
  obtain ⟨z1, rfl, rfl⟩ := hQ9
  refine x_goW (wss2 := [baW g z n f, baW g z1 u.1 u.2, sbO g y z k]) (stk2 := [.ref z1, .ref y]) rfl rfl rfl ?_
  refine x_put (ci := 1) (ty := .array .byte) (v := .ref z1) (b := sbO g y z k) (b' := sbO g y z1 k) (wss' := [baW g z n f, baW g z1 u.1 u.2, sbO g y z1 k]) C ixJ4 tyJ4 tyJ4_ok nmJ4 rfl 0 (by decide) wd_255 (fun _ h => h) rfl (tyJ4_ok 0 (by decide)) rfl rfl 2 rfl 0 (sbO_at0 g y z _) (Nat.le_of_ble_eq_true rfl) rfl rfl dJ5_ensureCapacityInternal_d00df_35 ?_
  refine x_dropE (wss' := [sbO g y z1 k, baW g z1 u.1 u.2]) [baW g z n f] (x_pickD [2, 1, 0] 3 rfl rfl rfl) ?_
  exact x_vret C hr ⟨rfl, z1, rfl⟩ dJ5_ensureCapacityInternal_d00df_38
set_option maxHeartbeats 4000000 in
set_option maxRecDepth 100000 in
theorem c_J5_append_3fe6f_G (g : xG) (l : Launch) (y : Nat) (z : Nat) (n : Nat) (k : SbT) (f : (Nat → Int32)) (x1 : Int32) {u : Nat × SbT × (Nat → Int32)} (hf : f_J5_append_3fe6f_G n k f x1 = some u) : Con g l yJ5_append_3fe6f cJ5_append_3fe6f 2 (some (.object "java/lang/AbstractStringBuilder")) ({ frames := 5, cells := 1, slots := 290, locals := 142 } : Room) [.ref y, .int x1] ([sbO g y z k, baW g z n f] : List va_W).flatten (fun v9 w9 => v9 = some (.ref y) ∧ ∃ z9, w9 = ([sbO g y z9 u.2.1, baW g z9 u.1 u.2.2] : List va_W).flatten) 1 290 := by
  unfold f_J5_append_3fe6f_G at hf
  refine Con_of [sbO g y z k, baW g z n f] [(0, .ref y), (1, .int x1)] rfl rfl (by decide) (Nat.le_of_ble_eq_true rfl) ?_
  intro pW eW sW mW argsW belowW methW c9 C hnm hr
  have C : CX g RJ5 cJ5_append_3fe6f 2 _ pW sW mW argsW methW c9 := C
  refine x_aload_n C dJ5_append_3fe6f_0 rfl 0 rfl ?_
  refine x_aload_n C dJ5_append_3fe6f_1 rfl 0 rfl ?_
  refine x_get (ci := 1) (v := .int k.2) (b := sbO g y z k) C ixJ4 rfl 3 (by decide) wd_259 (fun _ h => h) 0 rfl 0 (sbO_at0 g y z _) rfl dJ5_append_3fe6f_2 ?_
  refine x_iconst (v := 1) C dJ5_append_3fe6f_5 (by decide) ?_
  refine x_iadd C dJ5_append_3fe6f_6 ?_
  obtain ⟨u1, hu1, hf⟩ := x_b hf
  refine x_callUP (Cn := RJ4) (n := 1) (As := [.int (k.2 + (1 : Int32))]) (rest := []) C (c_J5_ensureCapacityInternal_d00df_G g l y z n k f (k.2 + (1 : Int32)) hu1) ⟨⟨wd_283, wd_280, wd_1388, ⟨rfl, by decide⟩, wd_282, wd_34⟩, ⟨by decide, by decide, by decide⟩, rfl, rfl, Nat.le_of_ble_eq_true rfl, Nat.le_of_ble_eq_true rfl⟩ ⟨0, 1, _, _, rfl, rfl, rfl⟩ [] (x_pickD [0, 1] 2 rfl rfl rfl) rfl rfl (Nat.le_of_ble_eq_true rfl) ⟨Nat.le_of_ble_eq_true rfl, Nat.le_of_ble_eq_true rfl⟩ dJ5_append_3fe6f_7 (fun v9 w9 hQ9 => ?_)
  obtain ⟨rfl, z2, rfl⟩ := hQ9
  refine x_goW (wss2 := [sbO g y z2 (k.1, k.2), baW g z2 u1.1 u1.2]) (stk2 := []) rfl rfl rfl ?_
  refine x_aload_n C dJ5_append_3fe6f_10 rfl 0 rfl ?_
  obtain ⟨u3, hu3, hf⟩ := x_b hf
  refine x_callUW (owner := RJ5) (Cn := RJ4) (n := 0) (As := []) (rest := []) C (c_J5_isLatin1_aae02 g l y z2 (k.1, k.2) hu3) ⟨⟨wd_317, wd_313, wd_315, wd_316, wd_314, wd_34⟩, rfl, ⟨by decide, by decide, by decide⟩, rfl, rfl, Nat.le_of_ble_eq_true rfl, Nat.le_of_ble_eq_true rfl⟩ ⟨0, 1, _, _, rfl, rfl, rfl⟩ [baW g z2 u1.1 u1.2] (x_pickD [0, 1] 2 rfl rfl rfl) rfl rfl (Nat.le_of_ble_eq_true rfl) ⟨Nat.le_of_ble_eq_true rfl, Nat.le_of_ble_eq_true rfl⟩ dJ5_append_3fe6f_11 (x_goD (wss2 := [sbO g y z2 (k.1, k.2), baW g z2 u1.1 u1.2]) (stk2 := [.int u3]) rfl rfl ?_)
  refine x_if_eq (tgt := 45) C dJ5_append_3fe6f_14 (by decide) (fun h4 => ?_) (fun h4 => ?_)
  · have hf := x_t h4 hf
    refine x_aload_n C dJ5_append_3fe6f_45 rfl 0 rfl ?_
    obtain ⟨u5, hu5, hf⟩ := x_b hf
    refine x_callUW (owner := RJ5) (Cn := RJ4) (n := 0) (As := []) (rest := []) C (c_J5_isLatin1_aae02 g l y z2 (k.1, k.2) hu5) ⟨⟨wd_317, wd_313, wd_315, wd_316, wd_314, wd_34⟩, rfl, ⟨by decide, by decide, by decide⟩, rfl, rfl, Nat.le_of_ble_eq_true rfl, Nat.le_of_ble_eq_true rfl⟩ ⟨0, 1, _, _, rfl, rfl, rfl⟩ [baW g z2 u1.1 u1.2] (x_pickD [0, 1] 2 rfl rfl rfl) rfl rfl (Nat.le_of_ble_eq_true rfl) ⟨Nat.le_of_ble_eq_true rfl, Nat.le_of_ble_eq_true rfl⟩ dJ5_append_3fe6f_46 (x_goD (wss2 := [sbO g y z2 (k.1, k.2), baW g z2 u1.1 u1.2]) (stk2 := [.int u5]) rfl rfl ?_)
    refine x_if_eq (tgt := 56) C dJ5_append_3fe6f_49 (by decide) (fun h6 => ?_) (fun h6 => ?_)
    · have hf := x_t h6 hf
      cases hf
    · have hf := x_f h6 hf
      cases hf
  · have hf := x_f h4 hf
    refine x_iload_n C dJ5_append_3fe6f_17 rfl 1 rfl ?_
    obtain ⟨u7, hu7, hf⟩ := x_b hf
    refine x_callS (n := 1) (As := [.int x1]) (rest := []) C (c_J1_canEncode_fc78d g l x1 hu7) ⟨⟨wd_550, wd_548, wd_38⟩, ⟨by decide, by decide, by decide⟩, rfl, rfl, Nat.le_of_ble_eq_true rfl, Nat.le_of_ble_eq_true rfl⟩ wd_549 [sbO g y z2 (k.1, k.2), baW g z2 u1.1 u1.2] (x_pickD [0, 1] 2 rfl rfl rfl) rfl rfl (Nat.le_of_ble_eq_true rfl) ⟨Nat.le_of_ble_eq_true rfl, Nat.le_of_ble_eq_true rfl⟩ dJ5_append_3fe6f_18 (x_goD (wss2 := [sbO g y z2 (k.1, k.2), baW g z2 u1.1 u1.2]) (stk2 := [.int u7]) rfl rfl ?_)
    refine x_if_eq (tgt := 45) C dJ5_append_3fe6f_21 (by decide) (fun h8 => ?_) (fun h8 => ?_)
    · have hf := x_t h8 hf
      refine x_aload_n C dJ5_append_3fe6f_45 rfl 0 rfl ?_
      obtain ⟨u9, hu9, hf⟩ := x_b hf
      refine x_callUW (owner := RJ5) (Cn := RJ4) (n := 0) (As := []) (rest := []) C (c_J5_isLatin1_aae02 g l y z2 (k.1, k.2) hu9) ⟨⟨wd_317, wd_313, wd_315, wd_316, wd_314, wd_34⟩, rfl, ⟨by decide, by decide, by decide⟩, rfl, rfl, Nat.le_of_ble_eq_true rfl, Nat.le_of_ble_eq_true rfl⟩ ⟨0, 1, _, _, rfl, rfl, rfl⟩ [baW g z2 u1.1 u1.2] (x_pickD [0, 1] 2 rfl rfl rfl) rfl rfl (Nat.le_of_ble_eq_true rfl) ⟨Nat.le_of_ble_eq_true rfl, Nat.le_of_ble_eq_true rfl⟩ dJ5_append_3fe6f_46 (x_goD (wss2 := [sbO g y z2 (k.1, k.2), baW g z2 u1.1 u1.2]) (stk2 := [.int u9]) rfl rfl ?_)
      refine x_if_eq (tgt := 56) C dJ5_append_3fe6f_49 (by decide) (fun h10 => ?_) (fun h10 => ?_)
      · have hf := x_t h10 hf
        cases hf
      · have hf := x_f h10 hf
        cases hf
    · have hf := x_f h8 hf
      refine x_aload_n C dJ5_append_3fe6f_24 rfl 0 rfl ?_
      refine x_get (ci := 1) (v := .ref z2) (b := sbO g y z2 (k.1, k.2)) C ixJ4 rfl 0 (by decide) wd_255 (fun _ h => h) 0 rfl 0 (sbO_at0 g y z2 _) rfl dJ5_append_3fe6f_25 ?_
      refine x_aload_n C dJ5_append_3fe6f_28 rfl 0 rfl ?_
      refine x_dup C dJ5_append_3fe6f_29 rfl ?_
      refine x_get (ci := 1) (v := .int k.2) (b := sbO g y z2 (k.1, k.2)) C ixJ4 rfl 3 (by decide) wd_259 (fun _ h => h) 0 rfl 0 (sbO_at0 g y z2 _) rfl dJ5_append_3fe6f_30 ?_
      refine x_dup_x1 C dJ5_append_3fe6f_33 rfl rfl ?_
      refine x_iconst (v := 1) C dJ5_append_3fe6f_34 (by decide) ?_
      refine x_iadd C dJ5_append_3fe6f_35 ?_
      refine x_put (ci := 1) (ty := .int) (v := .int (k.2 + (1 : Int32))) (b := sbO g y z2 (k.1, k.2)) (b' := sbO g y z2 (k.1, k.2 + (1 : Int32))) (wss' := [sbO g y z2 (k.1, k.2 + (1 : Int32)), baW g z2 u1.1 u1.2]) C ixJ4 tyJ4 tyJ4_ok nmJ4 rfl 3 (by decide) wd_259 (fun _ h => h) rfl (tyJ4_ok 3 (by decide)) rfl rfl 0 rfl 0 (sbO_at0 g y z2 _) (Nat.le_of_ble_eq_true rfl) rfl rfl dJ5_append_3fe6f_36 ?_
      refine x_iload_n C dJ5_append_3fe6f_39 rfl 1 rfl ?_
      refine x_i2b C dJ5_append_3fe6f_40 rfl ?_
      obtain ⟨h11, hf⟩ := x_n hf
      refine x_bast (b := baW g z2 u1.1 u1.2) (b' := baW g z2 u1.1 (upd u1.2 k.2.toNatClampNeg (vp_nar .byte x1.toInt8.toInt32))) (wss' := [sbO g y z2 (k.1, k.2 + (1 : Int32)), baW g z2 u1.1 (upd u1.2 k.2.toNatClampNeg (vp_nar .byte x1.toInt8.toInt32))]) C 1 rfl 0 (baW_at0 g z2 u1.1 _) h11 rfl rfl dJ5_append_3fe6f_41 ?_
      refine x_goto (tgt := 75) C dJ5_append_3fe6f_42 (by decide) ?_
      refine x_aload_n C dJ5_append_3fe6f_75 rfl 0 rfl ?_
      refine x_widen (k := 1) (n := 290) (Nat.le_of_ble_eq_true rfl) (Nat.le_of_ble_eq_true rfl) ?_
      exact x_aret C hr (Or.inl ⟨_, rfl⟩) ⟨by obtain rfl := Option.some.inj hf; rfl, z2, by obtain rfl := Option.some.inj hf; rfl⟩ dJ5_append_3fe6f_76
set_option maxHeartbeats 4000000 in
set_option maxRecDepth 100000 in
theorem c_J5_append_c97b9_G (g : xG) (l : Launch) (y : Nat) (z : Nat) (n : Nat) (k : SbT) (f : (Nat → Int32)) (x1 : Int32) {u : Nat × SbT × (Nat → Int32)} (hf : f_J5_append_c97b9_G n k f x1 = some u) : Con g l yJ5_append_c97b9 cJ5_append_c97b9 4 (some (.object "java/lang/AbstractStringBuilder")) ({ frames := 5, cells := 1, slots := 290, locals := 142 } : Room) [.ref y, .int x1] ([sbO g y z k, baW g z n f] : List va_W).flatten (fun v9 w9 => v9 = some (.ref y) ∧ ∃ z9, w9 = ([sbO g y z9 u.2.1, baW g z9 u.1 u.2.2] : List va_W).flatten) 1 290 := by
  unfold f_J5_append_c97b9_G at hf
  refine Con_of [sbO g y z k, baW g z n f] [(0, .ref y), (1, .int x1)] rfl rfl (by decide) (Nat.le_of_ble_eq_true rfl) ?_
  intro pW eW sW mW argsW belowW methW c9 C hnm hr
  have C : CX g RJ5 cJ5_append_c97b9 4 _ pW sW mW argsW methW c9 := C
  refine x_aload_n C dJ5_append_c97b9_0 rfl 0 rfl ?_
  refine x_get (ci := 1) (v := .int k.2) (b := sbO g y z k) C ixJ4 rfl 3 (by decide) wd_259 (fun _ h => h) 0 rfl 0 (sbO_at0 g y z _) rfl dJ5_append_c97b9_1 ?_
  refine x_istore_n (lv' := [(2, .int k.2), (0, .ref y), (1, .int x1)]) C dJ5_append_c97b9_4 rfl (by decide) rfl ?_
  refine x_iload_n C dJ5_append_c97b9_5 rfl 0 rfl ?_
  refine x_iload_n C dJ5_append_c97b9_6 rfl 2 rfl ?_
  obtain ⟨u1, hu1, hf⟩ := x_b hf
  refine x_callS (n := 1) (As := [.int x1]) (rest := [.int k.2]) C (c_J6_stringSize_0f7a4 g l x1 hu1) ⟨⟨wd_396, wd_394, wd_56⟩, ⟨by decide, by decide, by decide⟩, rfl, rfl, Nat.le_of_ble_eq_true rfl, Nat.le_of_ble_eq_true rfl⟩ wd_395 [sbO g y z k, baW g z n f] (x_pickD [0, 1] 2 rfl rfl rfl) rfl rfl (Nat.le_of_ble_eq_true rfl) ⟨Nat.le_of_ble_eq_true rfl, Nat.le_of_ble_eq_true rfl⟩ dJ5_append_c97b9_7 (x_goD (wss2 := [sbO g y z k, baW g z n f]) (stk2 := [.int u1, .int k.2]) rfl rfl ?_)
  refine x_iadd C dJ5_append_c97b9_10 ?_
  refine x_istore_n (lv' := [(3, .int (k.2 + u1)), (2, .int k.2), (0, .ref y), (1, .int x1)]) C dJ5_append_c97b9_11 rfl (by decide) rfl ?_
  refine x_aload_n C dJ5_append_c97b9_12 rfl 2 rfl ?_
  refine x_iload_n C dJ5_append_c97b9_13 rfl 0 rfl ?_
  obtain ⟨u2, hu2, hf⟩ := x_b hf
  refine x_callUP (Cn := RJ4) (n := 1) (As := [.int (k.2 + u1)]) (rest := []) C (c_J5_ensureCapacityInternal_d00df_G g l y z n k f (k.2 + u1) hu2) ⟨⟨wd_283, wd_280, wd_1388, ⟨rfl, by decide⟩, wd_282, wd_34⟩, ⟨by decide, by decide, by decide⟩, rfl, rfl, Nat.le_of_ble_eq_true rfl, Nat.le_of_ble_eq_true rfl⟩ ⟨0, 1, _, _, rfl, rfl, rfl⟩ [] (x_pickD [0, 1] 2 rfl rfl rfl) rfl rfl (Nat.le_of_ble_eq_true rfl) ⟨Nat.le_of_ble_eq_true rfl, Nat.le_of_ble_eq_true rfl⟩ dJ5_append_c97b9_14 (fun v9 w9 hQ9 => ?_)
  obtain ⟨rfl, z3, rfl⟩ := hQ9
  refine x_goW (wss2 := [sbO g y z3 (k.1, k.2), baW g z3 u2.1 u2.2]) (stk2 := []) rfl rfl rfl ?_
  refine x_aload_n C dJ5_append_c97b9_17 rfl 2 rfl ?_
  obtain ⟨u4, hu4, hf⟩ := x_b hf
  refine x_callUW (owner := RJ5) (Cn := RJ4) (n := 0) (As := []) (rest := []) C (c_J5_isLatin1_aae02 g l y z3 (k.1, k.2) hu4) ⟨⟨wd_317, wd_313, wd_315, wd_316, wd_314, wd_34⟩, rfl, ⟨by decide, by decide, by decide⟩, rfl, rfl, Nat.le_of_ble_eq_true rfl, Nat.le_of_ble_eq_true rfl⟩ ⟨0, 1, _, _, rfl, rfl, rfl⟩ [baW g z3 u2.1 u2.2] (x_pickD [0, 1] 2 rfl rfl rfl) rfl rfl (Nat.le_of_ble_eq_true rfl) ⟨Nat.le_of_ble_eq_true rfl, Nat.le_of_ble_eq_true rfl⟩ dJ5_append_c97b9_18 (x_goD (wss2 := [sbO g y z3 (k.1, k.2), baW g z3 u2.1 u2.2]) (stk2 := [.int u4]) rfl rfl ?_)
  refine x_if_eq (tgt := 37) C dJ5_append_c97b9_21 (by decide) (fun h5 => ?_) (fun h5 => ?_)
  · have hf := x_t h5 hf
    cases hf
  · have hf := x_f h5 hf
    refine x_iload_n C dJ5_append_c97b9_24 rfl 3 rfl ?_
    refine x_iload_n C dJ5_append_c97b9_25 rfl 0 rfl ?_
    refine x_aload_n C dJ5_append_c97b9_26 rfl 2 rfl ?_
    refine x_get (ci := 1) (v := .ref z3) (b := sbO g y z3 (k.1, k.2)) C ixJ4 rfl 0 (by decide) wd_255 (fun _ h => h) 0 rfl 0 (sbO_at0 g y z3 _) rfl dJ5_append_c97b9_27 ?_
    obtain ⟨u6, hu6, hf⟩ := x_b hf
    refine x_callS (n := 3) (As := [.int x1, .int (k.2 + u1), .ref z3]) (rest := []) C (c_J6_getChars_ba4f3 g l z3 u2.1 u2.2 x1 (k.2 + u1) hu6) ⟨⟨wd_399, wd_397, wd_56⟩, ⟨by decide, by decide, by decide⟩, rfl, rfl, Nat.le_of_ble_eq_true rfl, Nat.le_of_ble_eq_true rfl⟩ wd_398 [sbO g y z3 (k.1, k.2)] (x_pickD [1, 0] 2 rfl rfl rfl) rfl rfl (Nat.le_of_ble_eq_true rfl) ⟨Nat.le_of_ble_eq_true rfl, Nat.le_of_ble_eq_true rfl⟩ dJ5_append_c97b9_30 (x_goD (wss2 := [baW g z3 u2.1 u6.2, sbO g y z3 (k.1, k.2)]) (stk2 := [.int u6.1]) rfl rfl ?_)
    refine x_pop C dJ5_append_c97b9_33 rfl ?_
    refine x_goto (tgt := 48) C dJ5_append_c97b9_34 (by decide) ?_
    refine x_aload_n C dJ5_append_c97b9_48 rfl 2 rfl ?_
    refine x_iload_n C dJ5_append_c97b9_49 rfl 0 rfl ?_
    refine x_put (ci := 1) (ty := .int) (v := .int (k.2 + u1)) (b := sbO g y z3 (k.1, k.2)) (b' := sbO g y z3 (k.1, k.2 + u1)) (wss' := [baW g z3 u2.1 u6.2, sbO g y z3 (k.1, k.2 + u1)]) C ixJ4 tyJ4 tyJ4_ok nmJ4 rfl 3 (by decide) wd_259 (fun _ h => h) rfl (tyJ4_ok 3 (by decide)) rfl rfl 1 rfl 0 (sbO_at0 g y z3 _) (Nat.le_of_ble_eq_true rfl) rfl rfl dJ5_append_c97b9_50 ?_
    refine x_aload_n C dJ5_append_c97b9_53 rfl 2 rfl ?_
    refine x_perm (wss' := [sbO g y z3 (k.1, k.2 + u1), baW g z3 u2.1 u6.2]) (x_pick [1, 0] 2 rfl rfl rfl) ?_
    refine x_widen (k := 1) (n := 290) (Nat.le_of_ble_eq_true rfl) (Nat.le_of_ble_eq_true rfl) ?_
    exact x_aret C hr (Or.inl ⟨_, rfl⟩) ⟨by obtain rfl := Option.some.inj hf; rfl, z3, by obtain rfl := Option.some.inj hf; rfl⟩ dJ5_append_c97b9_54
set_option maxHeartbeats 4000000 in
set_option maxRecDepth 100000 in
theorem c_J4_append_cf468_G (g : xG) (l : Launch) (y : Nat) (z : Nat) (n : Nat) (k : SbT) (f : (Nat → Int32)) (x1 : Int32) {u : Nat × SbT × (Nat → Int32)} (hf : f_J4_append_cf468_G n k f x1 = some u) : Con g l yJ4_append_cf468 cJ4_append_cf468 2 (some (.object "java/lang/StringBuilder")) ({ frames := 6, cells := 1, slots := 290, locals := 163 } : Room) [.ref y, .int x1] ([sbO g y z k, baW g z n f] : List va_W).flatten (fun v9 w9 => v9 = some (.ref y) ∧ ∃ z9, w9 = ([sbO g y z9 u.2.1, baW g z9 u.1 u.2.2] : List va_W).flatten) 1 290 := by
  unfold f_J4_append_cf468_G at hf
  refine Con_of [sbO g y z k, baW g z n f] [(0, .ref y), (1, .int x1)] rfl rfl (by decide) (Nat.le_of_ble_eq_true rfl) ?_
  intro pW eW sW mW argsW belowW methW c9 C hnm hr
  have C : CX g RJ4 cJ4_append_cf468 2 _ pW sW mW argsW methW c9 := C
  refine x_aload_n C dJ4_append_cf468_0 rfl 0 rfl ?_
  refine x_iload_n C dJ4_append_cf468_1 rfl 1 rfl ?_
  obtain ⟨u1, hu1, hf⟩ := x_b hf
  refine x_callSU (n := 1) (As := [.int x1]) (rest := []) C (c_J5_append_3fe6f_G g l y z n k f x1 hu1) ⟨⟨wd_547, wd_545, wd_1394, wd_229, wd_546, wd_34⟩, ⟨by decide, by decide⟩, rfl, rfl, Nat.le_of_ble_eq_true rfl, Nat.le_of_ble_eq_true rfl⟩ ⟨0, 1, _, _, rfl, rfl⟩ [] (x_pickD [0, 1] 2 rfl rfl rfl) rfl rfl (Nat.le_of_ble_eq_true rfl) ⟨Nat.le_of_ble_eq_true rfl, Nat.le_of_ble_eq_true rfl⟩ dJ4_append_cf468_2 (fun v9 w9 hQ9 => ?_)
  obtain ⟨rfl, z2, rfl⟩ := hQ9
  refine x_goW (wss2 := [sbO g y z2 u1.2.1, baW g z2 u1.1 u1.2.2]) (stk2 := [.ref y]) rfl rfl rfl ?_
  refine x_pop C dJ4_append_cf468_5 rfl ?_
  refine x_aload_n C dJ4_append_cf468_6 rfl 0 rfl ?_
  refine x_widen (k := 1) (n := 290) (Nat.le_of_ble_eq_true rfl) (Nat.le_of_ble_eq_true rfl) ?_
  exact x_aret C hr (Or.inl ⟨_, rfl⟩) ⟨by obtain rfl := Option.some.inj hf; rfl, z2, by obtain rfl := Option.some.inj hf; rfl⟩ dJ4_append_cf468_7
set_option maxHeartbeats 4000000 in
set_option maxRecDepth 100000 in
theorem c_J4_append_bf812_G (g : xG) (l : Launch) (y : Nat) (z : Nat) (n : Nat) (k : SbT) (f : (Nat → Int32)) (x1 : Int32) {u : Nat × SbT × (Nat → Int32)} (hf : f_J4_append_bf812_G n k f x1 = some u) : Con g l yJ4_append_bf812 cJ4_append_bf812 2 (some (.object "java/lang/StringBuilder")) ({ frames := 6, cells := 1, slots := 290, locals := 165 } : Room) [.ref y, .int x1] ([sbO g y z k, baW g z n f] : List va_W).flatten (fun v9 w9 => v9 = some (.ref y) ∧ ∃ z9, w9 = ([sbO g y z9 u.2.1, baW g z9 u.1 u.2.2] : List va_W).flatten) 1 290 := by
  unfold f_J4_append_bf812_G at hf
  refine Con_of [sbO g y z k, baW g z n f] [(0, .ref y), (1, .int x1)] rfl rfl (by decide) (Nat.le_of_ble_eq_true rfl) ?_
  intro pW eW sW mW argsW belowW methW c9 C hnm hr
  have C : CX g RJ4 cJ4_append_bf812 2 _ pW sW mW argsW methW c9 := C
  refine x_aload_n C dJ4_append_bf812_0 rfl 0 rfl ?_
  refine x_iload_n C dJ4_append_bf812_1 rfl 1 rfl ?_
  obtain ⟨u1, hu1, hf⟩ := x_b hf
  refine x_callSU (n := 1) (As := [.int x1]) (rest := []) C (c_J5_append_c97b9_G g l y z n k f x1 hu1) ⟨⟨wd_393, wd_391, wd_1393, wd_229, wd_392, wd_34⟩, ⟨by decide, by decide⟩, rfl, rfl, Nat.le_of_ble_eq_true rfl, Nat.le_of_ble_eq_true rfl⟩ ⟨0, 1, _, _, rfl, rfl⟩ [] (x_pickD [0, 1] 2 rfl rfl rfl) rfl rfl (Nat.le_of_ble_eq_true rfl) ⟨Nat.le_of_ble_eq_true rfl, Nat.le_of_ble_eq_true rfl⟩ dJ4_append_bf812_2 (fun v9 w9 hQ9 => ?_)
  obtain ⟨rfl, z2, rfl⟩ := hQ9
  refine x_goW (wss2 := [sbO g y z2 u1.2.1, baW g z2 u1.1 u1.2.2]) (stk2 := [.ref y]) rfl rfl rfl ?_
  refine x_pop C dJ4_append_bf812_5 rfl ?_
  refine x_aload_n C dJ4_append_bf812_6 rfl 0 rfl ?_
  refine x_widen (k := 1) (n := 290) (Nat.le_of_ble_eq_true rfl) (Nat.le_of_ble_eq_true rfl) ?_
  exact x_aret C hr (Or.inl ⟨_, rfl⟩) ⟨by obtain rfl := Option.some.inj hf; rfl, z2, by obtain rfl := Option.some.inj hf; rfl⟩ dJ4_append_bf812_7
section XB
variable {p : Program} {l : Launch} {e : Env} {R : Room} {s : State} {m : MethodId} {args : Array Value} {below : List Frame} {meth : Method} {c : Code} {cells slots : Nat} {Q : State → Prop}
variable {g : xG} {A : Nat → Prop} {nL : Nat} {cc : ByteArray} {own : String} {wss wss' : List va_W} {lv lv' : List (Nat × Value)} {pc : Nat} {st : List Value}
theorem x_apC (C : CX g own cc nL A p s m args meth c) {y z n : Nat} {k : SbT} {f : (Nat → Int32)} {x1 : Int32} {u : Nat × SbT × (Nat → Int32)} (hf : f_apC n k f x1 = some u) {index c0 s0 : Nat} (hcode : Cond.code yJ4_append_cf468 cJ4_append_cf468 2 (some (.object "java/lang/StringBuilder")) ∈ xTB) (hlink : Cond.methodLink own index yJ4_append_cf468 ∈ xTB) (hini : Cond.initialized RJ4 ∈ xTB) (hinst : Cond.instanceMethod yJ4_append_cf468 ∈ xTB) (hsel : Cond.selects RJ4 yJ4_append_cf468 yJ4_append_cf468 ∈ xTB)
    (hR : 10 ≤ R.frames ∧ 300 ≤ R.locals ∧ 291 + c0 ≤ R.cells ∧ 5510 + s0 ≤ R.slots) {wr : List va_W} (hperm : wss.flatten.Perm (([sbO g y z k, baW g z n f] : List va_W).flatten ++ wr.flatten)) {rest : List Value} (hst : (rest.map fun v => v.category).sum ≤ 8) (hd : decode cc pc = .ok (.invokevirtual index, 3))
    (kk : ∀ z' : Nat, VW g A nL p l e R s m args below meth c (u.1 + c0) (18 * u.1 + s0) Q (sbO g y z' u.2.1 :: baW g z' u.1 u.2.2 :: wr) lv (pc + 3) (.ref y :: rest)) : VW g A nL p l e R s m args below meth c (n + c0) (18 * n + s0) Q wss lv pc (.int x1 :: .ref y :: rest) := by
  unfold f_apC at hf
  obtain ⟨⟨g1, g2⟩, hf⟩ := x_y hf
  obtain ⟨r1, r2, r3, r4⟩ := hR
  cases hN : f_J4_append_cf468 n k f x1 with
  | some v =>
    rw [hN] at hf
    obtain rfl := Option.some.inj hf
    refine x_callV (n := 1) (As := [.int x1]) (rest := rest) C (c_J4_append_cf468 g l y z n k f x1 hN) ⟨⟨hcode, hlink, hini⟩, ⟨by decide, by decide, by decide⟩, rfl, rfl, Nat.le_trans (Nat.le_of_ble_eq_true rfl) r1, Nat.le_trans (Nat.le_of_ble_eq_true rfl) r2⟩ hinst hsel ⟨0, 1, _, _, rfl, rfl, rfl⟩ wr hperm rfl rfl hst ⟨by omega, by omega⟩ hd (x_goD (wss2 := sbO g y z v.1 :: baW g z n v.2 :: wr) (stk2 := .ref y :: rest) rfl rfl (kk z))
  | none =>
    rw [hN] at hf
    obtain ⟨v, hG, hf⟩ := x_b hf
    obtain ⟨⟨g3, g4⟩, hf⟩ := x_y hf
    obtain rfl := Option.some.inj hf
    refine x_callV (n := 1) (As := [.int x1]) (rest := rest) C (c_J4_append_cf468_G g l y z n k f x1 hG) ⟨⟨hcode, hlink, hini⟩, ⟨by decide, by decide, by decide⟩, rfl, rfl, Nat.le_trans (Nat.le_of_ble_eq_true rfl) r1, Nat.le_trans (Nat.le_of_ble_eq_true rfl) r2⟩ hinst hsel ⟨0, 1, _, _, rfl, rfl, rfl⟩ wr hperm rfl rfl hst ⟨by omega, by omega⟩ hd (fun v9 w9 hQ9 => ?_)
    obtain ⟨rfl, z1, rfl⟩ := hQ9
    refine x_goW (wss2 := sbO g y z1 v.2.1 :: baW g z1 v.1 v.2.2 :: wr) (stk2 := .ref y :: rest) rfl rfl rfl ?_
    exact x_widen (by omega) (by omega) (kk z1)
theorem x_apI (C : CX g own cc nL A p s m args meth c) {y z n : Nat} {k : SbT} {f : (Nat → Int32)} {x1 : Int32} {u : Nat × SbT × (Nat → Int32)} (hf : f_apI n k f x1 = some u) {index c0 s0 : Nat} (hcode : Cond.code yJ4_append_bf812 cJ4_append_bf812 2 (some (.object "java/lang/StringBuilder")) ∈ xTB) (hlink : Cond.methodLink own index yJ4_append_bf812 ∈ xTB) (hini : Cond.initialized RJ4 ∈ xTB) (hinst : Cond.instanceMethod yJ4_append_bf812 ∈ xTB) (hsel : Cond.selects RJ4 yJ4_append_bf812 yJ4_append_bf812 ∈ xTB)
    (hR : 10 ≤ R.frames ∧ 300 ≤ R.locals ∧ 291 + c0 ≤ R.cells ∧ 5510 + s0 ≤ R.slots) {wr : List va_W} (hperm : wss.flatten.Perm (([sbO g y z k, baW g z n f] : List va_W).flatten ++ wr.flatten)) {rest : List Value} (hst : (rest.map fun v => v.category).sum ≤ 8) (hd : decode cc pc = .ok (.invokevirtual index, 3))
    (kk : ∀ z' : Nat, VW g A nL p l e R s m args below meth c (u.1 + c0) (18 * u.1 + s0) Q (sbO g y z' u.2.1 :: baW g z' u.1 u.2.2 :: wr) lv (pc + 3) (.ref y :: rest)) : VW g A nL p l e R s m args below meth c (n + c0) (18 * n + s0) Q wss lv pc (.int x1 :: .ref y :: rest) := by
  unfold f_apI at hf
  obtain ⟨⟨g1, g2⟩, hf⟩ := x_y hf
  obtain ⟨r1, r2, r3, r4⟩ := hR
  cases hN : f_J4_append_bf812 n k f x1 with
  | some v =>
    rw [hN] at hf
    obtain rfl := Option.some.inj hf
    refine x_callV (n := 1) (As := [.int x1]) (rest := rest) C (c_J4_append_bf812 g l y z n k f x1 hN) ⟨⟨hcode, hlink, hini⟩, ⟨by decide, by decide, by decide⟩, rfl, rfl, Nat.le_trans (Nat.le_of_ble_eq_true rfl) r1, Nat.le_trans (Nat.le_of_ble_eq_true rfl) r2⟩ hinst hsel ⟨0, 1, _, _, rfl, rfl, rfl⟩ wr hperm rfl rfl hst ⟨by omega, by omega⟩ hd (x_goD (wss2 := sbO g y z v.1 :: baW g z n v.2 :: wr) (stk2 := .ref y :: rest) rfl rfl (kk z))
  | none =>
    rw [hN] at hf
    obtain ⟨v, hG, hf⟩ := x_b hf
    obtain ⟨⟨g3, g4⟩, hf⟩ := x_y hf
    obtain rfl := Option.some.inj hf
    refine x_callV (n := 1) (As := [.int x1]) (rest := rest) C (c_J4_append_bf812_G g l y z n k f x1 hG) ⟨⟨hcode, hlink, hini⟩, ⟨by decide, by decide, by decide⟩, rfl, rfl, Nat.le_trans (Nat.le_of_ble_eq_true rfl) r1, Nat.le_trans (Nat.le_of_ble_eq_true rfl) r2⟩ hinst hsel ⟨0, 1, _, _, rfl, rfl, rfl⟩ wr hperm rfl rfl hst ⟨by omega, by omega⟩ hd (fun v9 w9 hQ9 => ?_)
    obtain ⟨rfl, z1, rfl⟩ := hQ9
    refine x_goW (wss2 := sbO g y z1 v.2.1 :: baW g z1 v.1 v.2.2 :: wr) (stk2 := .ref y :: rest) rfl rfl rfl ?_
    exact x_widen (by omega) (by omega) (kk z1)
end XB
