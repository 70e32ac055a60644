/-! THE LAW'S WRAPPERS (wip/p50/lawgen.py) -/
theorem wd_579 : Cond.classLink RL 18 "java/lang/IllegalStateException" ∈ xTB := xTB_in 579 (by decide +kernel) (by decide +kernel)
theorem wd_659 : Cond.constant RL 17 (-900001) ∈ xTB := xTB_in 659 (by decide +kernel) (by decide +kernel)
theorem wd_660 : Cond.constant RL 20 (-900002) ∈ xTB := xTB_in 660 (by decide +kernel) (by decide +kernel)
theorem wd_682 : Cond.classLink RL 15 "java/lang/IllegalArgumentException" ∈ xTB := xTB_in 682 (by decide +kernel) (by decide +kernel)
theorem wd_1047 : Cond.methodLink RL 9 yX9_addCandle ∈ xTB := xTB_in 1047 (by decide +kernel) (by decide +kernel)
theorem wd_1048 : Cond.instanceMethod yX9_addCandle ∈ xTB := xTB_in 1048 (by decide +kernel) (by decide +kernel)
theorem wd_1049 : Cond.selects yX9_addCandle.cls yX9_addCandle yX9_addCandle ∈ xTB := xTB_in 1049 (by decide +kernel) (by decide +kernel)
theorem wd_1050 : Cond.code yX9_addCandle cX9_addCandle 4 (some .int) ∈ xTB := xTB_in 1050 (by decide +kernel) (by decide +kernel)
theorem dL_addCandle_0 : decode cL_addCandle 0 = .ok (.aload_n 0, 1) := by decide +kernel
theorem dL_addCandle_1 : decode cL_addCandle 1 = .ok (.iload_n 1, 1) := by decide +kernel
theorem dL_addCandle_2 : decode cL_addCandle 2 = .ok (.iload_n 2, 1) := by decide +kernel
theorem dL_addCandle_3 : decode cL_addCandle 3 = .ok (.iload_n 3, 1) := by decide +kernel
theorem dL_addCandle_4 : decode cL_addCandle 4 = .ok (.invokevirtual 9, 3) := by decide +kernel
theorem dL_addCandle_7 : decode cL_addCandle 7 = .ok (.ireturn, 1) := by decide +kernel
theorem dL_addCandle_8 : decode cL_addCandle 8 = .ok (.astore 4, 2) := by decide +kernel
theorem dL_addCandle_10 : decode cL_addCandle 10 = .ok (.ldc 17, 2) := by decide +kernel
theorem dL_addCandle_12 : decode cL_addCandle 12 = .ok (.ireturn, 1) := by decide +kernel
theorem dL_addCandle_13 : decode cL_addCandle 13 = .ok (.astore 4, 2) := by decide +kernel
theorem dL_addCandle_15 : decode cL_addCandle 15 = .ok (.ldc 20, 2) := by decide +kernel
theorem dL_addCandle_17 : decode cL_addCandle 17 = .ok (.ireturn, 1) := by decide +kernel
set_option maxHeartbeats 4000000 in
set_option maxRecDepth 100000 in
theorem c_Q_addCandle (g : xG) (l : Launch) (hl : l.stackTraces = false) (a : Nat → Nat) (b : Nat → Nat) (y : Nat) (z : CcT) (v : StS) (c : CdT) (e : EvT) (h : HiT) (t : Unit) (vs : (Nat → StS)) (cs : (Nat → CdT)) (es : (Nat → EvT)) (x1 : Int32) (x2 : Int32) (x3 : Int32) {u : Int32 × StS × CdT × HiT × (Nat → StS) × (Nat → CdT) × (Nat → EvT)} (hf : f_Q_addCandle z v c e h t vs cs es x1 x2 x3 = some u) : ConH g l yL_addCandle cL_addCandle 5 (some .int) [(0, 7, 8, 15), (0, 7, 13, 18)] ({ frames := 8, cells := 1, slots := 6, locals := 133 } : Room) [.ref (a 0), .int x1, .int x2, .int x3] ([ccO g a b y z, stO g a 10 v, cdW g a 10 c, evW g a 10 e, hiO g a h, hrW g a t, stF g a vs, cdF g a cs, evF g a es] : List va_W).flatten (fun v9 w9 => v9 = some (.int u.1) ∧ w9 = ([ccO g a b y z, stO g a 10 u.2.1, cdW g a 10 u.2.2.1, evW g a 10 e, hiO g a u.2.2.2.1, hrW g a t, stF g a u.2.2.2.2.1, cdF g a u.2.2.2.2.2.1, evF g a u.2.2.2.2.2.2] : List va_W).flatten) 1 6 := by
  unfold f_Q_addCandle at hf
  refine ConH_of [ccO g a b y z, stO g a 10 v, cdW g a 10 c, evW g a 10 e, hiO g a h, hrW g a t, stF g a vs, cdF g a cs, evF g a es] [(0, .ref (a 0)), (1, .int x1), (2, .int x2), (3, .int x3)] rfl rfl (by decide) (Nat.le_of_ble_eq_true rfl) ?_
  intro pW eW sW mW argsW belowW methW c9 C hr hT
  have C : CX g RL cL_addCandle 5 _ pW sW mW argsW methW c9 := C
  refine x_aload_n C dL_addCandle_0 rfl 0 rfl ?_
  refine x_iload_n C dL_addCandle_1 rfl 1 rfl ?_
  refine x_iload_n C dL_addCandle_2 rfl 2 rfl ?_
  refine x_iload_n C dL_addCandle_3 rfl 3 rfl ?_
  obtain ⟨u1, hu1, hf⟩ := x_b hf
  refine x_xcallV (n := 3) (As := [.int x1, .int x2, .int x3]) (rest := []) C (c_X9_addCandle g l hl a b y z v c e h t vs cs es x1 x2 x3 hu1) ⟨⟨wd_1050, wd_1047, wd_25⟩, ⟨by decide, by decide, by decide⟩, rfl, rfl, Nat.le_of_ble_eq_true rfl, Nat.le_of_ble_eq_true rfl⟩ wd_1048 wd_1049 ⟨0, 10, _, _, rfl, rfl, rfl⟩ [] (x_pickD [0, 1, 2, 3, 4, 5, 6, 7, 8] 9 rfl rfl rfl) rfl rfl (Nat.le_of_ble_eq_true rfl) ⟨Nat.le_of_ble_eq_true rfl, Nat.le_of_ble_eq_true rfl⟩ dL_addCandle_4 (fun E9 w9 hX9 => ?_) (fun v9 w9 hQ9 => ?_)
  · obtain ⟨k9, hk9, rfl, rfl⟩ := hX9
    have hf := x_sl hk9 hf
    refine x_goX (wss2 := [ccO g a b y z, stO g a 10 u1.2.1, cdW g a 10 u1.2.2.1, evW g a 10 e, hiO g a u1.2.2.2.1, hrW g a t, stF g a u1.2.2.2.2.1, cdF g a u1.2.2.2.2.2.1, evF g a u1.2.2.2.2.2.2]) rfl rfl ?_
    by_cases e3 : k9 = 0
    · subst e3
      have hf := x_t rfl hf
      refine x_catch (E := "java/lang/IllegalArgumentException") C hT 0 rfl ⟨by decide, by decide⟩ (by decide) wd_682 (by decide) (fun x hx => by cases hx) (fun q9 => ?_)
      refine x_astore (lv' := [(4, .ref q9), (0, .ref (a 0)), (1, .int x1), (2, .int x2), (3, .int x3)]) C dL_addCandle_8 (by decide) rfl ?_
      refine x_ldc C wd_659 dL_addCandle_10 ?_
      refine x_widen (k := 1) (n := 6) (by omega) (by omega) ?_
      refine x_vx ?_
      exact x_iret C hr ⟨by cases hf; rfl, by cases hf; rfl⟩ dL_addCandle_12
    · have hf := x_f e3 hf
      by_cases e4 : k9 = 1
      · subst e4
        have hf := x_t rfl hf
        refine x_catch (E := "java/lang/IllegalStateException") C hT 1 rfl ⟨by decide, by decide⟩ (by decide) wd_579 (by decide) (fun x hx => by
            simp only [List.take, List.mem_cons, List.not_mem_nil, or_false] at hx
            rcases hx with rfl
            · exact ⟨"java/lang/IllegalArgumentException", by decide, wd_682, by decide⟩) (fun q9 => ?_)
        refine x_astore (lv' := [(4, .ref q9), (0, .ref (a 0)), (1, .int x1), (2, .int x2), (3, .int x3)]) C dL_addCandle_13 (by decide) rfl ?_
        refine x_ldc C wd_660 dL_addCandle_15 ?_
        refine x_widen (k := 1) (n := 6) (by omega) (by omega) ?_
        refine x_vx ?_
        exact x_iret C hr ⟨by cases hf; rfl, by cases hf; rfl⟩ dL_addCandle_17
      · have hf := x_f e4 hf
        cases hf
  · obtain ⟨r2, hr9, rfl, rfl⟩ := hQ9
    have hf := x_sr hr9 hf
    refine x_goW (wss2 := [ccO g a b y z, stO g a 10 u1.2.1, cdW g a 10 u1.2.2.1, evW g a 10 e, hiO g a u1.2.2.2.1, hrW g a t, stF g a u1.2.2.2.2.1, cdF g a u1.2.2.2.2.2.1, evF g a u1.2.2.2.2.2.2]) (stk2 := [.int r2]) rfl rfl rfl ?_
    refine x_widen (k := 1) (n := 6) (Nat.le_of_ble_eq_true rfl) (Nat.le_of_ble_eq_true rfl) ?_
    refine x_vx ?_
    exact x_iret C hr ⟨by cases hf; rfl, by cases hf; rfl⟩ dL_addCandle_7
theorem wd_576 : Cond.classLink RL 25 "java/lang/IndexOutOfBoundsException" ∈ xTB := xTB_in 576 (by decide +kernel) (by decide +kernel)
theorem wd_580 : Cond.classLink RL 27 "java/lang/UnsupportedOperationException" ∈ xTB := xTB_in 580 (by decide +kernel) (by decide +kernel)
theorem wd_581 : Cond.methodLink RL 21 yX9_light ∈ xTB := xTB_in 581 (by decide +kernel) (by decide +kernel)
theorem wd_582 : Cond.instanceMethod yX9_light ∈ xTB := xTB_in 582 (by decide +kernel) (by decide +kernel)
theorem wd_583 : Cond.selects yX9_light.cls yX9_light yX9_light ∈ xTB := xTB_in 583 (by decide +kernel) (by decide +kernel)
theorem wd_584 : Cond.code yX9_light cX9_light 2 (some .int) ∈ xTB := xTB_in 584 (by decide +kernel) (by decide +kernel)
theorem wd_661 : Cond.constant RL 29 (-900003) ∈ xTB := xTB_in 661 (by decide +kernel) (by decide +kernel)
theorem dL_light_0 : decode cL_light 0 = .ok (.aload_n 0, 1) := by decide +kernel
theorem dL_light_1 : decode cL_light 1 = .ok (.iload_n 1, 1) := by decide +kernel
theorem dL_light_2 : decode cL_light 2 = .ok (.invokevirtual 21, 3) := by decide +kernel
theorem dL_light_5 : decode cL_light 5 = .ok (.ireturn, 1) := by decide +kernel
theorem dL_light_6 : decode cL_light 6 = .ok (.astore_n 2, 1) := by decide +kernel
theorem dL_light_7 : decode cL_light 7 = .ok (.ldc 17, 2) := by decide +kernel
theorem dL_light_9 : decode cL_light 9 = .ok (.ireturn, 1) := by decide +kernel
theorem dL_light_10 : decode cL_light 10 = .ok (.astore_n 2, 1) := by decide +kernel
theorem dL_light_11 : decode cL_light 11 = .ok (.ldc 20, 2) := by decide +kernel
theorem dL_light_13 : decode cL_light 13 = .ok (.ireturn, 1) := by decide +kernel
theorem dL_light_14 : decode cL_light 14 = .ok (.astore_n 2, 1) := by decide +kernel
theorem dL_light_15 : decode cL_light 15 = .ok (.ldc 29, 2) := by decide +kernel
theorem dL_light_17 : decode cL_light 17 = .ok (.ireturn, 1) := by decide +kernel
set_option maxHeartbeats 4000000 in
set_option maxRecDepth 100000 in
theorem c_Q_light (g : xG) (l : Launch) (hl : l.stackTraces = false) (a : Nat → Nat) (b : Nat → Nat) (y : Nat) (z : CcT) (v : StS) (c : CdT) (e : EvT) (h : HiT) (t : Unit) (vs : (Nat → StS)) (cs : (Nat → CdT)) (es : (Nat → EvT)) (x1 : Int32) {u : Int32 × CdT × HiT × (Nat → StS) × (Nat → CdT) × (Nat → EvT)} (hf : f_Q_light z v c e h t vs cs es x1 = some u) : ConH g l yL_light cL_light 3 (some .int) [(0, 5, 6, 25), (0, 5, 10, 18), (0, 5, 14, 27)] ({ frames := 8, cells := 1, slots := 6, locals := 131 } : Room) [.ref (a 0), .int x1] ([ccO g a b y z, stO g a 10 v, cdW g a 10 c, evW g a 10 e, hiO g a h, hrW g a t, stF g a vs, cdF g a cs, evF g a es] : List va_W).flatten (fun v9 w9 => v9 = some (.int u.1) ∧ w9 = ([ccO g a b y z, stO g a 10 v, cdW g a 10 u.2.1, evW g a 10 e, hiO g a u.2.2.1, hrW g a t, stF g a u.2.2.2.1, cdF g a u.2.2.2.2.1, evF g a u.2.2.2.2.2] : List va_W).flatten) 1 6 := by
  unfold f_Q_light at hf
  refine ConH_of [ccO g a b y z, stO g a 10 v, cdW g a 10 c, evW g a 10 e, hiO g a h, hrW g a t, stF g a vs, cdF g a cs, evF g a es] [(0, .ref (a 0)), (1, .int x1)] rfl rfl (by decide) (Nat.le_of_ble_eq_true rfl) ?_
  intro pW eW sW mW argsW belowW methW c9 C hr hT
  have C : CX g RL cL_light 3 _ pW sW mW argsW methW c9 := C
  refine x_aload_n C dL_light_0 rfl 0 rfl ?_
  refine x_iload_n C dL_light_1 rfl 1 rfl ?_
  obtain ⟨u1, hu1, hf⟩ := x_b hf
  refine x_xcallV (n := 1) (As := [.int x1]) (rest := []) C (c_X9_light g l hl a b y z v c e h t vs cs es x1 hu1) ⟨⟨wd_584, wd_581, wd_25⟩, ⟨by decide, by decide, by decide⟩, rfl, rfl, Nat.le_of_ble_eq_true rfl, Nat.le_of_ble_eq_true rfl⟩ wd_582 wd_583 ⟨0, 10, _, _, rfl, rfl, rfl⟩ [] (x_pickD [0, 1, 2, 3, 4, 5, 6, 7, 8] 9 rfl rfl rfl) rfl rfl (Nat.le_of_ble_eq_true rfl) ⟨Nat.le_of_ble_eq_true rfl, Nat.le_of_ble_eq_true rfl⟩ dL_light_2 (fun E9 w9 hX9 => ?_) (fun v9 w9 hQ9 => ?_)
  · obtain ⟨k9, hk9, rfl, rfl⟩ := hX9
    have hf := x_sl hk9 hf
    refine x_goX (wss2 := [ccO g a b y z, stO g a 10 v, cdW g a 10 u1.2.1, evW g a 10 e, hiO g a u1.2.2.1, hrW g a t, stF g a u1.2.2.2.1, cdF g a u1.2.2.2.2.1, evF g a u1.2.2.2.2.2]) rfl rfl ?_
    by_cases e3 : k9 = 2
    · subst e3
      have hf := x_t rfl hf
      refine x_catch (E := "java/lang/IndexOutOfBoundsException") C hT 0 rfl ⟨by decide, by decide⟩ (by decide) wd_576 (by decide) (fun x hx => by cases hx) (fun q9 => ?_)
      refine x_astore_n (lv' := [(2, .ref q9), (0, .ref (a 0)), (1, .int x1)]) C dL_light_6 rfl (by decide) rfl ?_
      refine x_ldc C wd_659 dL_light_7 ?_
      refine x_widen (k := 1) (n := 6) (by omega) (by omega) ?_
      refine x_vx ?_
      exact x_iret C hr ⟨by cases hf; rfl, by cases hf; rfl⟩ dL_light_9
    · have hf := x_f e3 hf
      by_cases e4 : k9 = 1
      · subst e4
        have hf := x_t rfl hf
        refine x_catch (E := "java/lang/IllegalStateException") C hT 1 rfl ⟨by decide, by decide⟩ (by decide) wd_579 (by decide) (fun x hx => by
            simp only [List.take, List.mem_cons, List.not_mem_nil, or_false] at hx
            rcases hx with rfl
            · exact ⟨"java/lang/IndexOutOfBoundsException", by decide, wd_576, by decide⟩) (fun q9 => ?_)
        refine x_astore_n (lv' := [(2, .ref q9), (0, .ref (a 0)), (1, .int x1)]) C dL_light_10 rfl (by decide) rfl ?_
        refine x_ldc C wd_660 dL_light_11 ?_
        refine x_widen (k := 1) (n := 6) (by omega) (by omega) ?_
        refine x_vx ?_
        exact x_iret C hr ⟨by cases hf; rfl, by cases hf; rfl⟩ dL_light_13
      · have hf := x_f e4 hf
        by_cases e5 : k9 = 3
        · subst e5
          have hf := x_t rfl hf
          refine x_catch (E := "java/lang/UnsupportedOperationException") C hT 2 rfl ⟨by decide, by decide⟩ (by decide) wd_580 (by decide) (fun x hx => by
              simp only [List.take, List.mem_cons, List.not_mem_nil, or_false] at hx
              rcases hx with rfl | rfl
              · exact ⟨"java/lang/IndexOutOfBoundsException", by decide, wd_576, by decide⟩
              · exact ⟨"java/lang/IllegalStateException", by decide, wd_579, by decide⟩) (fun q9 => ?_)
          refine x_astore_n (lv' := [(2, .ref q9), (0, .ref (a 0)), (1, .int x1)]) C dL_light_14 rfl (by decide) rfl ?_
          refine x_ldc C wd_661 dL_light_15 ?_
          refine x_widen (k := 1) (n := 6) (by omega) (by omega) ?_
          refine x_vx ?_
          exact x_iret C hr ⟨by cases hf; rfl, by cases hf; rfl⟩ dL_light_17
        · have hf := x_f e5 hf
          cases hf
  · obtain ⟨r2, hr9, rfl, rfl⟩ := hQ9
    have hf := x_sr hr9 hf
    refine x_goW (wss2 := [ccO g a b y z, stO g a 10 v, cdW g a 10 u1.2.1, evW g a 10 e, hiO g a u1.2.2.1, hrW g a t, stF g a u1.2.2.2.1, cdF g a u1.2.2.2.2.1, evF g a u1.2.2.2.2.2]) (stk2 := [.int r2]) rfl rfl rfl ?_
    refine x_widen (k := 1) (n := 6) (Nat.le_of_ble_eq_true rfl) (Nat.le_of_ble_eq_true rfl) ?_
    refine x_vx ?_
    exact x_iret C hr ⟨by cases hf; rfl, by cases hf; rfl⟩ dL_light_5
theorem wd_665 : Cond.methodLink RL 30 yX9_snuff ∈ xTB := xTB_in 665 (by decide +kernel) (by decide +kernel)
theorem wd_666 : Cond.instanceMethod yX9_snuff ∈ xTB := xTB_in 666 (by decide +kernel) (by decide +kernel)
theorem wd_667 : Cond.selects yX9_snuff.cls yX9_snuff yX9_snuff ∈ xTB := xTB_in 667 (by decide +kernel) (by decide +kernel)
theorem wd_668 : Cond.code yX9_snuff cX9_snuff 2 (some .int) ∈ xTB := xTB_in 668 (by decide +kernel) (by decide +kernel)
theorem dL_snuff_0 : decode cL_snuff 0 = .ok (.aload_n 0, 1) := by decide +kernel
theorem dL_snuff_1 : decode cL_snuff 1 = .ok (.iload_n 1, 1) := by decide +kernel
theorem dL_snuff_2 : decode cL_snuff 2 = .ok (.invokevirtual 30, 3) := by decide +kernel
theorem dL_snuff_5 : decode cL_snuff 5 = .ok (.ireturn, 1) := by decide +kernel
theorem dL_snuff_6 : decode cL_snuff 6 = .ok (.astore_n 2, 1) := by decide +kernel
theorem dL_snuff_7 : decode cL_snuff 7 = .ok (.ldc 17, 2) := by decide +kernel
theorem dL_snuff_9 : decode cL_snuff 9 = .ok (.ireturn, 1) := by decide +kernel
theorem dL_snuff_10 : decode cL_snuff 10 = .ok (.astore_n 2, 1) := by decide +kernel
theorem dL_snuff_11 : decode cL_snuff 11 = .ok (.ldc 20, 2) := by decide +kernel
theorem dL_snuff_13 : decode cL_snuff 13 = .ok (.ireturn, 1) := by decide +kernel
set_option maxHeartbeats 4000000 in
set_option maxRecDepth 100000 in
theorem c_Q_snuff (g : xG) (l : Launch) (hl : l.stackTraces = false) (a : Nat → Nat) (b : Nat → Nat) (y : Nat) (z : CcT) (v : StS) (c : CdT) (e : EvT) (h : HiT) (t : Unit) (vs : (Nat → StS)) (cs : (Nat → CdT)) (es : (Nat → EvT)) (x1 : Int32) {u : Int32 × CdT × HiT × (Nat → StS) × (Nat → CdT) × (Nat → EvT)} (hf : f_Q_snuff z v c e h t vs cs es x1 = some u) : ConH g l yL_snuff cL_snuff 3 (some .int) [(0, 5, 6, 25), (0, 5, 10, 18)] ({ frames := 8, cells := 1, slots := 6, locals := 131 } : Room) [.ref (a 0), .int x1] ([ccO g a b y z, stO g a 10 v, cdW g a 10 c, evW g a 10 e, hiO g a h, hrW g a t, stF g a vs, cdF g a cs, evF g a es] : List va_W).flatten (fun v9 w9 => v9 = some (.int u.1) ∧ w9 = ([ccO g a b y z, stO g a 10 v, cdW g a 10 u.2.1, evW g a 10 e, hiO g a u.2.2.1, hrW g a t, stF g a u.2.2.2.1, cdF g a u.2.2.2.2.1, evF g a u.2.2.2.2.2] : List va_W).flatten) 1 6 := by
  unfold f_Q_snuff at hf
  refine ConH_of [ccO g a b y z, stO g a 10 v, cdW g a 10 c, evW g a 10 e, hiO g a h, hrW g a t, stF g a vs, cdF g a cs, evF g a es] [(0, .ref (a 0)), (1, .int x1)] rfl rfl (by decide) (Nat.le_of_ble_eq_true rfl) ?_
  intro pW eW sW mW argsW belowW methW c9 C hr hT
  have C : CX g RL cL_snuff 3 _ pW sW mW argsW methW c9 := C
  refine x_aload_n C dL_snuff_0 rfl 0 rfl ?_
  refine x_iload_n C dL_snuff_1 rfl 1 rfl ?_
  obtain ⟨u1, hu1, hf⟩ := x_b hf
  refine x_xcallV (n := 1) (As := [.int x1]) (rest := []) C (c_X9_snuff g l hl a b y z v c e h t vs cs es x1 hu1) ⟨⟨wd_668, wd_665, wd_25⟩, ⟨by decide, by decide, by decide⟩, rfl, rfl, Nat.le_of_ble_eq_true rfl, Nat.le_of_ble_eq_true rfl⟩ wd_666 wd_667 ⟨0, 10, _, _, rfl, rfl, rfl⟩ [] (x_pickD [0, 1, 2, 3, 4, 5, 6, 7, 8] 9 rfl rfl rfl) rfl rfl (Nat.le_of_ble_eq_true rfl) ⟨Nat.le_of_ble_eq_true rfl, Nat.le_of_ble_eq_true rfl⟩ dL_snuff_2 (fun E9 w9 hX9 => ?_) (fun v9 w9 hQ9 => ?_)
  · obtain ⟨k9, hk9, rfl, rfl⟩ := hX9
    have hf := x_sl hk9 hf
    refine x_goX (wss2 := [ccO g a b y z, stO g a 10 v, cdW g a 10 u1.2.1, evW g a 10 e, hiO g a u1.2.2.1, hrW g a t, stF g a u1.2.2.2.1, cdF g a u1.2.2.2.2.1, evF g a u1.2.2.2.2.2]) rfl rfl ?_
    by_cases e3 : k9 = 2
    · subst e3
      have hf := x_t rfl hf
      refine x_catch (E := "java/lang/IndexOutOfBoundsException") C hT 0 rfl ⟨by decide, by decide⟩ (by decide) wd_576 (by decide) (fun x hx => by cases hx) (fun q9 => ?_)
      refine x_astore_n (lv' := [(2, .ref q9), (0, .ref (a 0)), (1, .int x1)]) C dL_snuff_6 rfl (by decide) rfl ?_
      refine x_ldc C wd_659 dL_snuff_7 ?_
      refine x_widen (k := 1) (n := 6) (by omega) (by omega) ?_
      refine x_vx ?_
      exact x_iret C hr ⟨by cases hf; rfl, by cases hf; rfl⟩ dL_snuff_9
    · have hf := x_f e3 hf
      by_cases e4 : k9 = 1
      · subst e4
        have hf := x_t rfl hf
        refine x_catch (E := "java/lang/IllegalStateException") C hT 1 rfl ⟨by decide, by decide⟩ (by decide) wd_579 (by decide) (fun x hx => by
            simp only [List.take, List.mem_cons, List.not_mem_nil, or_false] at hx
            rcases hx with rfl
            · exact ⟨"java/lang/IndexOutOfBoundsException", by decide, wd_576, by decide⟩) (fun q9 => ?_)
        refine x_astore_n (lv' := [(2, .ref q9), (0, .ref (a 0)), (1, .int x1)]) C dL_snuff_10 rfl (by decide) rfl ?_
        refine x_ldc C wd_660 dL_snuff_11 ?_
        refine x_widen (k := 1) (n := 6) (by omega) (by omega) ?_
        refine x_vx ?_
        exact x_iret C hr ⟨by cases hf; rfl, by cases hf; rfl⟩ dL_snuff_13
      · have hf := x_f e4 hf
        cases hf
  · obtain ⟨r2, hr9, rfl, rfl⟩ := hQ9
    have hf := x_sr hr9 hf
    refine x_goW (wss2 := [ccO g a b y z, stO g a 10 v, cdW g a 10 u1.2.1, evW g a 10 e, hiO g a u1.2.2.1, hrW g a t, stF g a u1.2.2.2.1, cdF g a u1.2.2.2.2.1, evF g a u1.2.2.2.2.2]) (stk2 := [.int r2]) rfl rfl rfl ?_
    refine x_widen (k := 1) (n := 6) (Nat.le_of_ble_eq_true rfl) (Nat.le_of_ble_eq_true rfl) ?_
    refine x_vx ?_
    exact x_iret C hr ⟨by cases hf; rfl, by cases hf; rfl⟩ dL_snuff_5
theorem wd_1081 : Cond.methodLink RL 33 yX9_pour ∈ xTB := xTB_in 1081 (by decide +kernel) (by decide +kernel)
theorem wd_1082 : Cond.instanceMethod yX9_pour ∈ xTB := xTB_in 1082 (by decide +kernel) (by decide +kernel)
theorem wd_1083 : Cond.selects yX9_pour.cls yX9_pour yX9_pour ∈ xTB := xTB_in 1083 (by decide +kernel) (by decide +kernel)
theorem wd_1084 : Cond.code yX9_pour cX9_pour 3 (some .int) ∈ xTB := xTB_in 1084 (by decide +kernel) (by decide +kernel)
theorem wd_1097 : Cond.constant RL 37 (-900004) ∈ xTB := xTB_in 1097 (by decide +kernel) (by decide +kernel)
theorem dL_pour_0 : decode cL_pour 0 = .ok (.aload_n 0, 1) := by decide +kernel
theorem dL_pour_1 : decode cL_pour 1 = .ok (.iload_n 1, 1) := by decide +kernel
theorem dL_pour_2 : decode cL_pour 2 = .ok (.iload_n 2, 1) := by decide +kernel
theorem dL_pour_3 : decode cL_pour 3 = .ok (.invokevirtual 33, 3) := by decide +kernel
theorem dL_pour_6 : decode cL_pour 6 = .ok (.ireturn, 1) := by decide +kernel
theorem dL_pour_7 : decode cL_pour 7 = .ok (.astore_n 3, 1) := by decide +kernel
theorem dL_pour_8 : decode cL_pour 8 = .ok (.ldc 17, 2) := by decide +kernel
theorem dL_pour_10 : decode cL_pour 10 = .ok (.ireturn, 1) := by decide +kernel
theorem dL_pour_11 : decode cL_pour 11 = .ok (.astore_n 3, 1) := by decide +kernel
theorem dL_pour_12 : decode cL_pour 12 = .ok (.ldc 20, 2) := by decide +kernel
theorem dL_pour_14 : decode cL_pour 14 = .ok (.ireturn, 1) := by decide +kernel
theorem dL_pour_15 : decode cL_pour 15 = .ok (.astore_n 3, 1) := by decide +kernel
theorem dL_pour_16 : decode cL_pour 16 = .ok (.ldc 29, 2) := by decide +kernel
theorem dL_pour_18 : decode cL_pour 18 = .ok (.ireturn, 1) := by decide +kernel
theorem dL_pour_19 : decode cL_pour 19 = .ok (.astore_n 3, 1) := by decide +kernel
theorem dL_pour_20 : decode cL_pour 20 = .ok (.ldc 37, 2) := by decide +kernel
theorem dL_pour_22 : decode cL_pour 22 = .ok (.ireturn, 1) := by decide +kernel
set_option maxHeartbeats 4000000 in
set_option maxRecDepth 100000 in
theorem c_Q_pour (g : xG) (l : Launch) (hl : l.stackTraces = false) (a : Nat → Nat) (b : Nat → Nat) (y : Nat) (z : CcT) (v : StS) (c : CdT) (e : EvT) (h : HiT) (t : Unit) (vs : (Nat → StS)) (cs : (Nat → CdT)) (es : (Nat → EvT)) (x1 : Int32) (x2 : Int32) {u : Int32 × StS × CdT × HiT × (Nat → StS) × (Nat → CdT) × (Nat → EvT)} (hf : f_Q_pour z v c e h t vs cs es x1 x2 = some u) : ConH g l yL_pour cL_pour 4 (some .int) [(0, 6, 7, 25), (0, 6, 11, 15), (0, 6, 15, 18), (0, 6, 19, 27)] ({ frames := 8, cells := 1, slots := 6, locals := 132 } : Room) [.ref (a 0), .int x1, .int x2] ([ccO g a b y z, stO g a 10 v, cdW g a 10 c, evW g a 10 e, hiO g a h, hrW g a t, stF g a vs, cdF g a cs, evF g a es] : List va_W).flatten (fun v9 w9 => v9 = some (.int u.1) ∧ w9 = ([ccO g a b y z, stO g a 10 u.2.1, cdW g a 10 u.2.2.1, evW g a 10 e, hiO g a u.2.2.2.1, hrW g a t, stF g a u.2.2.2.2.1, cdF g a u.2.2.2.2.2.1, evF g a u.2.2.2.2.2.2] : List va_W).flatten) 1 6 := by
  unfold f_Q_pour at hf
  refine ConH_of [ccO g a b y z, stO g a 10 v, cdW g a 10 c, evW g a 10 e, hiO g a h, hrW g a t, stF g a vs, cdF g a cs, evF g a es] [(0, .ref (a 0)), (1, .int x1), (2, .int x2)] rfl rfl (by decide) (Nat.le_of_ble_eq_true rfl) ?_
  intro pW eW sW mW argsW belowW methW c9 C hr hT
  have C : CX g RL cL_pour 4 _ pW sW mW argsW methW c9 := C
  refine x_aload_n C dL_pour_0 rfl 0 rfl ?_
  refine x_iload_n C dL_pour_1 rfl 1 rfl ?_
  refine x_iload_n C dL_pour_2 rfl 2 rfl ?_
  obtain ⟨u1, hu1, hf⟩ := x_b hf
  refine x_xcallV (n := 2) (As := [.int x1, .int x2]) (rest := []) C (c_X9_pour g l hl a b y z v c e h t vs cs es x1 x2 hu1) ⟨⟨wd_1084, wd_1081, wd_25⟩, ⟨by decide, by decide, by decide⟩, rfl, rfl, Nat.le_of_ble_eq_true rfl, Nat.le_of_ble_eq_true rfl⟩ wd_1082 wd_1083 ⟨0, 10, _, _, rfl, rfl, rfl⟩ [] (x_pickD [0, 1, 2, 3, 4, 5, 6, 7, 8] 9 rfl rfl rfl) rfl rfl (Nat.le_of_ble_eq_true rfl) ⟨Nat.le_of_ble_eq_true rfl, Nat.le_of_ble_eq_true rfl⟩ dL_pour_3 (fun E9 w9 hX9 => ?_) (fun v9 w9 hQ9 => ?_)
  · obtain ⟨k9, hk9, rfl, rfl⟩ := hX9
    have hf := x_sl hk9 hf
    refine x_goX (wss2 := [ccO g a b y z, stO g a 10 u1.2.1, cdW g a 10 u1.2.2.1, evW g a 10 e, hiO g a u1.2.2.2.1, hrW g a t, stF g a u1.2.2.2.2.1, cdF g a u1.2.2.2.2.2.1, evF g a u1.2.2.2.2.2.2]) rfl rfl ?_
    by_cases e3 : k9 = 2
    · subst e3
      have hf := x_t rfl hf
      refine x_catch (E := "java/lang/IndexOutOfBoundsException") C hT 0 rfl ⟨by decide, by decide⟩ (by decide) wd_576 (by decide) (fun x hx => by cases hx) (fun q9 => ?_)
      refine x_astore_n (lv' := [(3, .ref q9), (0, .ref (a 0)), (1, .int x1), (2, .int x2)]) C dL_pour_7 rfl (by decide) rfl ?_
      refine x_ldc C wd_659 dL_pour_8 ?_
      refine x_widen (k := 1) (n := 6) (by omega) (by omega) ?_
      refine x_vx ?_
      exact x_iret C hr ⟨by cases hf; rfl, by cases hf; rfl⟩ dL_pour_10
    · have hf := x_f e3 hf
      by_cases e4 : k9 = 0
      · subst e4
        have hf := x_t rfl hf
        refine x_catch (E := "java/lang/IllegalArgumentException") C hT 1 rfl ⟨by decide, by decide⟩ (by decide) wd_682 (by decide) (fun x hx => by
            simp only [List.take, List.mem_cons, List.not_mem_nil, or_false] at hx
            rcases hx with rfl
            · exact ⟨"java/lang/IndexOutOfBoundsException", by decide, wd_576, by decide⟩) (fun q9 => ?_)
        refine x_astore_n (lv' := [(3, .ref q9), (0, .ref (a 0)), (1, .int x1), (2, .int x2)]) C dL_pour_11 rfl (by decide) rfl ?_
        refine x_ldc C wd_660 dL_pour_12 ?_
        refine x_widen (k := 1) (n := 6) (by omega) (by omega) ?_
        refine x_vx ?_
        exact x_iret C hr ⟨by cases hf; rfl, by cases hf; rfl⟩ dL_pour_14
      · have hf := x_f e4 hf
        by_cases e5 : k9 = 1
        · subst e5
          have hf := x_t rfl hf
          refine x_catch (E := "java/lang/IllegalStateException") C hT 2 rfl ⟨by decide, by decide⟩ (by decide) wd_579 (by decide) (fun x hx => by
              simp only [List.take, List.mem_cons, List.not_mem_nil, or_false] at hx
              rcases hx with rfl | rfl
              · exact ⟨"java/lang/IndexOutOfBoundsException", by decide, wd_576, by decide⟩
              · exact ⟨"java/lang/IllegalArgumentException", by decide, wd_682, by decide⟩) (fun q9 => ?_)
          refine x_astore_n (lv' := [(3, .ref q9), (0, .ref (a 0)), (1, .int x1), (2, .int x2)]) C dL_pour_15 rfl (by decide) rfl ?_
          refine x_ldc C wd_661 dL_pour_16 ?_
          refine x_widen (k := 1) (n := 6) (by omega) (by omega) ?_
          refine x_vx ?_
          exact x_iret C hr ⟨by cases hf; rfl, by cases hf; rfl⟩ dL_pour_18
        · have hf := x_f e5 hf
          by_cases e6 : k9 = 3
          · subst e6
            have hf := x_t rfl hf
            refine x_catch (E := "java/lang/UnsupportedOperationException") C hT 3 rfl ⟨by decide, by decide⟩ (by decide) wd_580 (by decide) (fun x hx => by
                simp only [List.take, List.mem_cons, List.not_mem_nil, or_false] at hx
                rcases hx with rfl | rfl | rfl
                · exact ⟨"java/lang/IndexOutOfBoundsException", by decide, wd_576, by decide⟩
                · exact ⟨"java/lang/IllegalArgumentException", by decide, wd_682, by decide⟩
                · exact ⟨"java/lang/IllegalStateException", by decide, wd_579, by decide⟩) (fun q9 => ?_)
            refine x_astore_n (lv' := [(3, .ref q9), (0, .ref (a 0)), (1, .int x1), (2, .int x2)]) C dL_pour_19 rfl (by decide) rfl ?_
            refine x_ldc C wd_1097 dL_pour_20 ?_
            refine x_widen (k := 1) (n := 6) (by omega) (by omega) ?_
            refine x_vx ?_
            exact x_iret C hr ⟨by cases hf; rfl, by cases hf; rfl⟩ dL_pour_22
          · have hf := x_f e6 hf
            cases hf
  · obtain ⟨r2, hr9, rfl, rfl⟩ := hQ9
    have hf := x_sr hr9 hf
    refine x_goW (wss2 := [ccO g a b y z, stO g a 10 u1.2.1, cdW g a 10 u1.2.2.1, evW g a 10 e, hiO g a u1.2.2.2.1, hrW g a t, stF g a u1.2.2.2.2.1, cdF g a u1.2.2.2.2.2.1, evF g a u1.2.2.2.2.2.2]) (stk2 := [.int r2]) rfl rfl rfl ?_
    refine x_widen (k := 1) (n := 6) (Nat.le_of_ble_eq_true rfl) (Nat.le_of_ble_eq_true rfl) ?_
    refine x_vx ?_
    exact x_iret C hr ⟨by cases hf; rfl, by cases hf; rfl⟩ dL_pour_6
theorem wd_683 : Cond.methodLink RL 38 yX9_setDraught ∈ xTB := xTB_in 683 (by decide +kernel) (by decide +kernel)
theorem wd_684 : Cond.instanceMethod yX9_setDraught ∈ xTB := xTB_in 684 (by decide +kernel) (by decide +kernel)
theorem wd_685 : Cond.selects yX9_setDraught.cls yX9_setDraught yX9_setDraught ∈ xTB := xTB_in 685 (by decide +kernel) (by decide +kernel)
theorem wd_686 : Cond.code yX9_setDraught cX9_setDraught 2 (some .int) ∈ xTB := xTB_in 686 (by decide +kernel) (by decide +kernel)
theorem dL_setDraught_0 : decode cL_setDraught 0 = .ok (.aload_n 0, 1) := by decide +kernel
theorem dL_setDraught_1 : decode cL_setDraught 1 = .ok (.iload_n 1, 1) := by decide +kernel
theorem dL_setDraught_2 : decode cL_setDraught 2 = .ok (.invokevirtual 38, 3) := by decide +kernel
theorem dL_setDraught_5 : decode cL_setDraught 5 = .ok (.ireturn, 1) := by decide +kernel
theorem dL_setDraught_6 : decode cL_setDraught 6 = .ok (.astore_n 2, 1) := by decide +kernel
theorem dL_setDraught_7 : decode cL_setDraught 7 = .ok (.ldc 17, 2) := by decide +kernel
theorem dL_setDraught_9 : decode cL_setDraught 9 = .ok (.ireturn, 1) := by decide +kernel
set_option maxHeartbeats 4000000 in
set_option maxRecDepth 100000 in
theorem c_Q_setDraught (g : xG) (l : Launch) (hl : l.stackTraces = false) (a : Nat → Nat) (b : Nat → Nat) (y : Nat) (z : CcT) (v : StS) (c : CdT) (e : EvT) (h : HiT) (t : Unit) (vs : (Nat → StS)) (cs : (Nat → CdT)) (es : (Nat → EvT)) (x1 : Int32) {u : Int32 × StS × HiT × (Nat → StS) × (Nat → CdT) × (Nat → EvT)} (hf : f_Q_setDraught z v c e h t vs cs es x1 = some u) : ConH g l yL_setDraught cL_setDraught 3 (some .int) [(0, 5, 6, 15)] ({ frames := 8, cells := 1, slots := 6, locals := 131 } : Room) [.ref (a 0), .int x1] ([ccO g a b y z, stO g a 10 v, cdW g a 10 c, evW g a 10 e, hiO g a h, hrW g a t, stF g a vs, cdF g a cs, evF g a es] : List va_W).flatten (fun v9 w9 => v9 = some (.int u.1) ∧ w9 = ([ccO g a b y z, stO g a 10 u.2.1, cdW g a 10 c, evW g a 10 e, hiO g a u.2.2.1, hrW g a t, stF g a u.2.2.2.1, cdF g a u.2.2.2.2.1, evF g a u.2.2.2.2.2] : List va_W).flatten) 1 6 := by
  unfold f_Q_setDraught at hf
  refine ConH_of [ccO g a b y z, stO g a 10 v, cdW g a 10 c, evW g a 10 e, hiO g a h, hrW g a t, stF g a vs, cdF g a cs, evF g a es] [(0, .ref (a 0)), (1, .int x1)] rfl rfl (by decide) (Nat.le_of_ble_eq_true rfl) ?_
  intro pW eW sW mW argsW belowW methW c9 C hr hT
  have C : CX g RL cL_setDraught 3 _ pW sW mW argsW methW c9 := C
  refine x_aload_n C dL_setDraught_0 rfl 0 rfl ?_
  refine x_iload_n C dL_setDraught_1 rfl 1 rfl ?_
  obtain ⟨u1, hu1, hf⟩ := x_b hf
  refine x_xcallV (n := 1) (As := [.int x1]) (rest := []) C (c_X9_setDraught g l hl a b y z v c e h t vs cs es x1 hu1) ⟨⟨wd_686, wd_683, wd_25⟩, ⟨by decide, by decide, by decide⟩, rfl, rfl, Nat.le_of_ble_eq_true rfl, Nat.le_of_ble_eq_true rfl⟩ wd_684 wd_685 ⟨0, 10, _, _, rfl, rfl, rfl⟩ [] (x_pickD [0, 1, 2, 3, 4, 5, 6, 7, 8] 9 rfl rfl rfl) rfl rfl (Nat.le_of_ble_eq_true rfl) ⟨Nat.le_of_ble_eq_true rfl, Nat.le_of_ble_eq_true rfl⟩ dL_setDraught_2 (fun E9 w9 hX9 => ?_) (fun v9 w9 hQ9 => ?_)
  · obtain ⟨k9, hk9, rfl, rfl⟩ := hX9
    have hf := x_sl hk9 hf
    refine x_goX (wss2 := [ccO g a b y z, stO g a 10 u1.2.1, cdW g a 10 c, evW g a 10 e, hiO g a u1.2.2.1, hrW g a t, stF g a u1.2.2.2.1, cdF g a u1.2.2.2.2.1, evF g a u1.2.2.2.2.2]) rfl rfl ?_
    by_cases e3 : k9 = 0
    · subst e3
      have hf := x_t rfl hf
      refine x_catch (E := "java/lang/IllegalArgumentException") C hT 0 rfl ⟨by decide, by decide⟩ (by decide) wd_682 (by decide) (fun x hx => by cases hx) (fun q9 => ?_)
      refine x_astore_n (lv' := [(2, .ref q9), (0, .ref (a 0)), (1, .int x1)]) C dL_setDraught_6 rfl (by decide) rfl ?_
      refine x_ldc C wd_659 dL_setDraught_7 ?_
      refine x_widen (k := 1) (n := 6) (by omega) (by omega) ?_
      refine x_vx ?_
      exact x_iret C hr ⟨by cases hf; rfl, by cases hf; rfl⟩ dL_setDraught_9
    · have hf := x_f e3 hf
      cases hf
  · obtain ⟨r2, hr9, rfl, rfl⟩ := hQ9
    have hf := x_sr hr9 hf
    refine x_goW (wss2 := [ccO g a b y z, stO g a 10 u1.2.1, cdW g a 10 c, evW g a 10 e, hiO g a u1.2.2.1, hrW g a t, stF g a u1.2.2.2.1, cdF g a u1.2.2.2.2.1, evF g a u1.2.2.2.2.2]) (stk2 := [.int r2]) rfl rfl rfl ?_
    refine x_widen (k := 1) (n := 6) (Nat.le_of_ble_eq_true rfl) (Nat.le_of_ble_eq_true rfl) ?_
    refine x_vx ?_
    exact x_iret C hr ⟨by cases hf; rfl, by cases hf; rfl⟩ dL_setDraught_5
theorem wd_700 : Cond.methodLink RL 41 yX9_schedule ∈ xTB := xTB_in 700 (by decide +kernel) (by decide +kernel)
theorem wd_701 : Cond.instanceMethod yX9_schedule ∈ xTB := xTB_in 701 (by decide +kernel) (by decide +kernel)
theorem wd_702 : Cond.selects yX9_schedule.cls yX9_schedule yX9_schedule ∈ xTB := xTB_in 702 (by decide +kernel) (by decide +kernel)
theorem wd_703 : Cond.code yX9_schedule cX9_schedule 4 (some .int) ∈ xTB := xTB_in 703 (by decide +kernel) (by decide +kernel)
theorem dL_schedule_0 : decode cL_schedule 0 = .ok (.aload_n 0, 1) := by decide +kernel
theorem dL_schedule_1 : decode cL_schedule 1 = .ok (.iload_n 1, 1) := by decide +kernel
theorem dL_schedule_2 : decode cL_schedule 2 = .ok (.iload_n 2, 1) := by decide +kernel
theorem dL_schedule_3 : decode cL_schedule 3 = .ok (.iload_n 3, 1) := by decide +kernel
theorem dL_schedule_4 : decode cL_schedule 4 = .ok (.invokevirtual 41, 3) := by decide +kernel
theorem dL_schedule_7 : decode cL_schedule 7 = .ok (.ireturn, 1) := by decide +kernel
theorem dL_schedule_8 : decode cL_schedule 8 = .ok (.astore 4, 2) := by decide +kernel
theorem dL_schedule_10 : decode cL_schedule 10 = .ok (.ldc 17, 2) := by decide +kernel
theorem dL_schedule_12 : decode cL_schedule 12 = .ok (.ireturn, 1) := by decide +kernel
theorem dL_schedule_13 : decode cL_schedule 13 = .ok (.astore 4, 2) := by decide +kernel
theorem dL_schedule_15 : decode cL_schedule 15 = .ok (.ldc 20, 2) := by decide +kernel
theorem dL_schedule_17 : decode cL_schedule 17 = .ok (.ireturn, 1) := by decide +kernel
theorem dL_schedule_18 : decode cL_schedule 18 = .ok (.astore 4, 2) := by decide +kernel
theorem dL_schedule_20 : decode cL_schedule 20 = .ok (.ldc 29, 2) := by decide +kernel
theorem dL_schedule_22 : decode cL_schedule 22 = .ok (.ireturn, 1) := by decide +kernel
set_option maxHeartbeats 4000000 in
set_option maxRecDepth 100000 in
theorem c_Q_schedule (g : xG) (l : Launch) (hl : l.stackTraces = false) (a : Nat → Nat) (b : Nat → Nat) (y : Nat) (z : CcT) (v : StS) (c : CdT) (e : EvT) (h : HiT) (t : Unit) (vs : (Nat → StS)) (cs : (Nat → CdT)) (es : (Nat → EvT)) (x1 : Int32) (x2 : Int32) (x3 : Int32) {u : Int32 × EvT × HiT × (Nat → StS) × (Nat → CdT) × (Nat → EvT)} (hf : f_Q_schedule z v c e h t vs cs es x1 x2 x3 = some u) : ConH g l yL_schedule cL_schedule 5 (some .int) [(0, 7, 8, 15), (0, 7, 13, 25), (0, 7, 18, 18)] ({ frames := 8, cells := 1, slots := 6, locals := 133 } : Room) [.ref (a 0), .int x1, .int x2, .int x3] ([ccO g a b y z, stO g a 10 v, cdW g a 10 c, evW g a 10 e, hiO g a h, hrW g a t, stF g a vs, cdF g a cs, evF g a es] : List va_W).flatten (fun v9 w9 => v9 = some (.int u.1) ∧ w9 = ([ccO g a b y z, stO g a 10 v, cdW g a 10 c, evW g a 10 u.2.1, hiO g a u.2.2.1, hrW g a t, stF g a u.2.2.2.1, cdF g a u.2.2.2.2.1, evF g a u.2.2.2.2.2] : List va_W).flatten) 1 6 := by
  unfold f_Q_schedule at hf
  refine ConH_of [ccO g a b y z, stO g a 10 v, cdW g a 10 c, evW g a 10 e, hiO g a h, hrW g a t, stF g a vs, cdF g a cs, evF g a es] [(0, .ref (a 0)), (1, .int x1), (2, .int x2), (3, .int x3)] rfl rfl (by decide) (Nat.le_of_ble_eq_true rfl) ?_
  intro pW eW sW mW argsW belowW methW c9 C hr hT
  have C : CX g RL cL_schedule 5 _ pW sW mW argsW methW c9 := C
  refine x_aload_n C dL_schedule_0 rfl 0 rfl ?_
  refine x_iload_n C dL_schedule_1 rfl 1 rfl ?_
  refine x_iload_n C dL_schedule_2 rfl 2 rfl ?_
  refine x_iload_n C dL_schedule_3 rfl 3 rfl ?_
  obtain ⟨u1, hu1, hf⟩ := x_b hf
  refine x_xcallV (n := 3) (As := [.int x1, .int x2, .int x3]) (rest := []) C (c_X9_schedule g l hl a b y z v c e h t vs cs es x1 x2 x3 hu1) ⟨⟨wd_703, wd_700, wd_25⟩, ⟨by decide, by decide, by decide⟩, rfl, rfl, Nat.le_of_ble_eq_true rfl, Nat.le_of_ble_eq_true rfl⟩ wd_701 wd_702 ⟨0, 10, _, _, rfl, rfl, rfl⟩ [] (x_pickD [0, 1, 2, 3, 4, 5, 6, 7, 8] 9 rfl rfl rfl) rfl rfl (Nat.le_of_ble_eq_true rfl) ⟨Nat.le_of_ble_eq_true rfl, Nat.le_of_ble_eq_true rfl⟩ dL_schedule_4 (fun E9 w9 hX9 => ?_) (fun v9 w9 hQ9 => ?_)
  · obtain ⟨k9, hk9, rfl, rfl⟩ := hX9
    have hf := x_sl hk9 hf
    refine x_goX (wss2 := [ccO g a b y z, stO g a 10 v, cdW g a 10 c, evW g a 10 u1.2.1, hiO g a u1.2.2.1, hrW g a t, stF g a u1.2.2.2.1, cdF g a u1.2.2.2.2.1, evF g a u1.2.2.2.2.2]) rfl rfl ?_
    by_cases e3 : k9 = 0
    · subst e3
      have hf := x_t rfl hf
      refine x_catch (E := "java/lang/IllegalArgumentException") C hT 0 rfl ⟨by decide, by decide⟩ (by decide) wd_682 (by decide) (fun x hx => by cases hx) (fun q9 => ?_)
      refine x_astore (lv' := [(4, .ref q9), (0, .ref (a 0)), (1, .int x1), (2, .int x2), (3, .int x3)]) C dL_schedule_8 (by decide) rfl ?_
      refine x_ldc C wd_659 dL_schedule_10 ?_
      refine x_widen (k := 1) (n := 6) (by omega) (by omega) ?_
      refine x_vx ?_
      exact x_iret C hr ⟨by cases hf; rfl, by cases hf; rfl⟩ dL_schedule_12
    · have hf := x_f e3 hf
      by_cases e4 : k9 = 2
      · subst e4
        have hf := x_t rfl hf
        refine x_catch (E := "java/lang/IndexOutOfBoundsException") C hT 1 rfl ⟨by decide, by decide⟩ (by decide) wd_576 (by decide) (fun x hx => by
            simp only [List.take, List.mem_cons, List.not_mem_nil, or_false] at hx
            rcases hx with rfl
            · exact ⟨"java/lang/IllegalArgumentException", by decide, wd_682, by decide⟩) (fun q9 => ?_)
        refine x_astore (lv' := [(4, .ref q9), (0, .ref (a 0)), (1, .int x1), (2, .int x2), (3, .int x3)]) C dL_schedule_13 (by decide) rfl ?_
        refine x_ldc C wd_660 dL_schedule_15 ?_
        refine x_widen (k := 1) (n := 6) (by omega) (by omega) ?_
        refine x_vx ?_
        exact x_iret C hr ⟨by cases hf; rfl, by cases hf; rfl⟩ dL_schedule_17
      · have hf := x_f e4 hf
        by_cases e5 : k9 = 1
        · subst e5
          have hf := x_t rfl hf
          refine x_catch (E := "java/lang/IllegalStateException") C hT 2 rfl ⟨by decide, by decide⟩ (by decide) wd_579 (by decide) (fun x hx => by
              simp only [List.take, List.mem_cons, List.not_mem_nil, or_false] at hx
              rcases hx with rfl | rfl
              · exact ⟨"java/lang/IllegalArgumentException", by decide, wd_682, by decide⟩
              · exact ⟨"java/lang/IndexOutOfBoundsException", by decide, wd_576, by decide⟩) (fun q9 => ?_)
          refine x_astore (lv' := [(4, .ref q9), (0, .ref (a 0)), (1, .int x1), (2, .int x2), (3, .int x3)]) C dL_schedule_18 (by decide) rfl ?_
          refine x_ldc C wd_661 dL_schedule_20 ?_
          refine x_widen (k := 1) (n := 6) (by omega) (by omega) ?_
          refine x_vx ?_
          exact x_iret C hr ⟨by cases hf; rfl, by cases hf; rfl⟩ dL_schedule_22
        · have hf := x_f e5 hf
          cases hf
  · obtain ⟨r2, hr9, rfl, rfl⟩ := hQ9
    have hf := x_sr hr9 hf
    refine x_goW (wss2 := [ccO g a b y z, stO g a 10 v, cdW g a 10 c, evW g a 10 u1.2.1, hiO g a u1.2.2.1, hrW g a t, stF g a u1.2.2.2.1, cdF g a u1.2.2.2.2.1, evF g a u1.2.2.2.2.2]) (stk2 := [.int r2]) rfl rfl rfl ?_
    refine x_widen (k := 1) (n := 6) (Nat.le_of_ble_eq_true rfl) (Nat.le_of_ble_eq_true rfl) ?_
    refine x_vx ?_
    exact x_iret C hr ⟨by cases hf; rfl, by cases hf; rfl⟩ dL_schedule_7
theorem wd_1101 : Cond.methodLink RL 45 yX9_unschedule ∈ xTB := xTB_in 1101 (by decide +kernel) (by decide +kernel)
theorem wd_1102 : Cond.instanceMethod yX9_unschedule ∈ xTB := xTB_in 1102 (by decide +kernel) (by decide +kernel)
theorem wd_1103 : Cond.selects yX9_unschedule.cls yX9_unschedule yX9_unschedule ∈ xTB := xTB_in 1103 (by decide +kernel) (by decide +kernel)
theorem wd_1104 : Cond.code yX9_unschedule cX9_unschedule 2 (some .int) ∈ xTB := xTB_in 1104 (by decide +kernel) (by decide +kernel)
theorem dL_unschedule_0 : decode cL_unschedule 0 = .ok (.aload_n 0, 1) := by decide +kernel
theorem dL_unschedule_1 : decode cL_unschedule 1 = .ok (.iload_n 1, 1) := by decide +kernel
theorem dL_unschedule_2 : decode cL_unschedule 2 = .ok (.invokevirtual 45, 3) := by decide +kernel
theorem dL_unschedule_5 : decode cL_unschedule 5 = .ok (.ireturn, 1) := by decide +kernel
theorem dL_unschedule_6 : decode cL_unschedule 6 = .ok (.astore_n 2, 1) := by decide +kernel
theorem dL_unschedule_7 : decode cL_unschedule 7 = .ok (.ldc 17, 2) := by decide +kernel
theorem dL_unschedule_9 : decode cL_unschedule 9 = .ok (.ireturn, 1) := by decide +kernel
set_option maxHeartbeats 4000000 in
set_option maxRecDepth 100000 in
theorem c_Q_unschedule (g : xG) (l : Launch) (hl : l.stackTraces = false) (a : Nat → Nat) (b : Nat → Nat) (y : Nat) (z : CcT) (v : StS) (c : CdT) (e : EvT) (h : HiT) (t : Unit) (vs : (Nat → StS)) (cs : (Nat → CdT)) (es : (Nat → EvT)) (x1 : Int32) {u : Int32 × EvT × HiT × (Nat → StS) × (Nat → CdT) × (Nat → EvT)} (hf : f_Q_unschedule z v c e h t vs cs es x1 = some u) : ConH g l yL_unschedule cL_unschedule 3 (some .int) [(0, 5, 6, 25)] ({ frames := 8, cells := 1, slots := 6, locals := 132 } : Room) [.ref (a 0), .int x1] ([ccO g a b y z, stO g a 10 v, cdW g a 10 c, evW g a 10 e, hiO g a h, hrW g a t, stF g a vs, cdF g a cs, evF g a es] : List va_W).flatten (fun v9 w9 => v9 = some (.int u.1) ∧ w9 = ([ccO g a b y z, stO g a 10 v, cdW g a 10 c, evW g a 10 u.2.1, hiO g a u.2.2.1, hrW g a t, stF g a u.2.2.2.1, cdF g a u.2.2.2.2.1, evF g a u.2.2.2.2.2] : List va_W).flatten) 1 6 := by
  unfold f_Q_unschedule at hf
  refine ConH_of [ccO g a b y z, stO g a 10 v, cdW g a 10 c, evW g a 10 e, hiO g a h, hrW g a t, stF g a vs, cdF g a cs, evF g a es] [(0, .ref (a 0)), (1, .int x1)] rfl rfl (by decide) (Nat.le_of_ble_eq_true rfl) ?_
  intro pW eW sW mW argsW belowW methW c9 C hr hT
  have C : CX g RL cL_unschedule 3 _ pW sW mW argsW methW c9 := C
  refine x_aload_n C dL_unschedule_0 rfl 0 rfl ?_
  refine x_iload_n C dL_unschedule_1 rfl 1 rfl ?_
  obtain ⟨u1, hu1, hf⟩ := x_b hf
  refine x_xcallV (n := 1) (As := [.int x1]) (rest := []) C (c_X9_unschedule g l hl a b y z v c e h t vs cs es x1 hu1) ⟨⟨wd_1104, wd_1101, wd_25⟩, ⟨by decide, by decide, by decide⟩, rfl, rfl, Nat.le_of_ble_eq_true rfl, Nat.le_of_ble_eq_true rfl⟩ wd_1102 wd_1103 ⟨0, 10, _, _, rfl, rfl, rfl⟩ [] (x_pickD [0, 1, 2, 3, 4, 5, 6, 7, 8] 9 rfl rfl rfl) rfl rfl (Nat.le_of_ble_eq_true rfl) ⟨Nat.le_of_ble_eq_true rfl, Nat.le_of_ble_eq_true rfl⟩ dL_unschedule_2 (fun E9 w9 hX9 => ?_) (fun v9 w9 hQ9 => ?_)
  · obtain ⟨k9, hk9, rfl, rfl⟩ := hX9
    have hf := x_sl hk9 hf
    refine x_goX (wss2 := [ccO g a b y z, stO g a 10 v, cdW g a 10 c, evW g a 10 u1.2.1, hiO g a u1.2.2.1, hrW g a t, stF g a u1.2.2.2.1, cdF g a u1.2.2.2.2.1, evF g a u1.2.2.2.2.2]) rfl rfl ?_
    by_cases e3 : k9 = 2
    · subst e3
      have hf := x_t rfl hf
      refine x_catch (E := "java/lang/IndexOutOfBoundsException") C hT 0 rfl ⟨by decide, by decide⟩ (by decide) wd_576 (by decide) (fun x hx => by cases hx) (fun q9 => ?_)
      refine x_astore_n (lv' := [(2, .ref q9), (0, .ref (a 0)), (1, .int x1)]) C dL_unschedule_6 rfl (by decide) rfl ?_
      refine x_ldc C wd_659 dL_unschedule_7 ?_
      refine x_widen (k := 1) (n := 6) (by omega) (by omega) ?_
      refine x_vx ?_
      exact x_iret C hr ⟨by cases hf; rfl, by cases hf; rfl⟩ dL_unschedule_9
    · have hf := x_f e3 hf
      cases hf
  · obtain ⟨r2, hr9, rfl, rfl⟩ := hQ9
    have hf := x_sr hr9 hf
    refine x_goW (wss2 := [ccO g a b y z, stO g a 10 v, cdW g a 10 c, evW g a 10 u1.2.1, hiO g a u1.2.2.1, hrW g a t, stF g a u1.2.2.2.1, cdF g a u1.2.2.2.2.1, evF g a u1.2.2.2.2.2]) (stk2 := [.int r2]) rfl rfl rfl ?_
    refine x_widen (k := 1) (n := 6) (Nat.le_of_ble_eq_true rfl) (Nat.le_of_ble_eq_true rfl) ?_
    refine x_vx ?_
    exact x_iret C hr ⟨by cases hf; rfl, by cases hf; rfl⟩ dL_unschedule_5
theorem wd_722 : Cond.methodLink RL 48 yX9_pass ∈ xTB := xTB_in 722 (by decide +kernel) (by decide +kernel)
theorem wd_723 : Cond.instanceMethod yX9_pass ∈ xTB := xTB_in 723 (by decide +kernel) (by decide +kernel)
theorem wd_724 : Cond.selects yX9_pass.cls yX9_pass yX9_pass ∈ xTB := xTB_in 724 (by decide +kernel) (by decide +kernel)
theorem wd_725 : Cond.code yX9_pass cX9_pass 2 (some .int) ∈ xTB := xTB_in 725 (by decide +kernel) (by decide +kernel)
theorem dL_pass_0 : decode cL_pass 0 = .ok (.aload_n 0, 1) := by decide +kernel
theorem dL_pass_1 : decode cL_pass 1 = .ok (.iload_n 1, 1) := by decide +kernel
theorem dL_pass_2 : decode cL_pass 2 = .ok (.invokevirtual 48, 3) := by decide +kernel
theorem dL_pass_5 : decode cL_pass 5 = .ok (.ireturn, 1) := by decide +kernel
theorem dL_pass_6 : decode cL_pass 6 = .ok (.astore_n 2, 1) := by decide +kernel
theorem dL_pass_7 : decode cL_pass 7 = .ok (.ldc 17, 2) := by decide +kernel
theorem dL_pass_9 : decode cL_pass 9 = .ok (.ireturn, 1) := by decide +kernel
set_option maxHeartbeats 4000000 in
set_option maxRecDepth 100000 in
theorem c_Q_pass (g : xG) (l : Launch) (hl : l.stackTraces = false) (a : Nat → Nat) (b : Nat → Nat) (y : Nat) (z : CcT) (v : StS) (c : CdT) (e : EvT) (h : HiT) (t : Unit) (vs : (Nat → StS)) (cs : (Nat → CdT)) (es : (Nat → EvT)) (x1 : Int32) {u : Int32 × StS × CdT × EvT × HiT × (Nat → StS) × (Nat → CdT) × (Nat → EvT)} (hf : f_Q_pass z v c e h t vs cs es x1 = some u) : ConH g l yL_pass cL_pass 3 (some .int) [(0, 5, 6, 15)] ({ frames := 8, cells := 1, slots := 6, locals := 131 } : Room) [.ref (a 0), .int x1] ([ccO g a b y z, stO g a 10 v, cdW g a 10 c, evW g a 10 e, hiO g a h, hrW g a t, stF g a vs, cdF g a cs, evF g a es] : List va_W).flatten (fun v9 w9 => v9 = some (.int u.1) ∧ w9 = ([ccO g a b y z, stO g a 10 u.2.1, cdW g a 10 u.2.2.1, evW g a 10 u.2.2.2.1, hiO g a u.2.2.2.2.1, hrW g a t, stF g a u.2.2.2.2.2.1, cdF g a u.2.2.2.2.2.2.1, evF g a u.2.2.2.2.2.2.2] : List va_W).flatten) 1 6 := by
  unfold f_Q_pass at hf
  refine ConH_of [ccO g a b y z, stO g a 10 v, cdW g a 10 c, evW g a 10 e, hiO g a h, hrW g a t, stF g a vs, cdF g a cs, evF g a es] [(0, .ref (a 0)), (1, .int x1)] rfl rfl (by decide) (Nat.le_of_ble_eq_true rfl) ?_
  intro pW eW sW mW argsW belowW methW c9 C hr hT
  have C : CX g RL cL_pass 3 _ pW sW mW argsW methW c9 := C
  refine x_aload_n C dL_pass_0 rfl 0 rfl ?_
  refine x_iload_n C dL_pass_1 rfl 1 rfl ?_
  obtain ⟨u1, hu1, hf⟩ := x_b hf
  refine x_xcallV (n := 1) (As := [.int x1]) (rest := []) C (c_X9_pass g l hl a b y z v c e h t vs cs es x1 hu1) ⟨⟨wd_725, wd_722, wd_25⟩, ⟨by decide, by decide, by decide⟩, rfl, rfl, Nat.le_of_ble_eq_true rfl, Nat.le_of_ble_eq_true rfl⟩ wd_723 wd_724 ⟨0, 10, _, _, rfl, rfl, rfl⟩ [] (x_pickD [0, 1, 2, 3, 4, 5, 6, 7, 8] 9 rfl rfl rfl) rfl rfl (Nat.le_of_ble_eq_true rfl) ⟨Nat.le_of_ble_eq_true rfl, Nat.le_of_ble_eq_true rfl⟩ dL_pass_2 (fun E9 w9 hX9 => ?_) (fun v9 w9 hQ9 => ?_)
  · obtain ⟨k9, hk9, rfl, rfl⟩ := hX9
    have hf := x_sl hk9 hf
    refine x_goX (wss2 := [ccO g a b y z, stO g a 10 u1.2.1, cdW g a 10 u1.2.2.1, evW g a 10 u1.2.2.2.1, hiO g a u1.2.2.2.2.1, hrW g a t, stF g a u1.2.2.2.2.2.1, cdF g a u1.2.2.2.2.2.2.1, evF g a u1.2.2.2.2.2.2.2]) rfl rfl ?_
    by_cases e3 : k9 = 0
    · subst e3
      have hf := x_t rfl hf
      refine x_catch (E := "java/lang/IllegalArgumentException") C hT 0 rfl ⟨by decide, by decide⟩ (by decide) wd_682 (by decide) (fun x hx => by cases hx) (fun q9 => ?_)
      refine x_astore_n (lv' := [(2, .ref q9), (0, .ref (a 0)), (1, .int x1)]) C dL_pass_6 rfl (by decide) rfl ?_
      refine x_ldc C wd_659 dL_pass_7 ?_
      refine x_widen (k := 1) (n := 6) (by omega) (by omega) ?_
      refine x_vx ?_
      exact x_iret C hr ⟨by cases hf; rfl, by cases hf; rfl⟩ dL_pass_9
    · have hf := x_f e3 hf
      cases hf
  · obtain ⟨r2, hr9, rfl, rfl⟩ := hQ9
    have hf := x_sr hr9 hf
    refine x_goW (wss2 := [ccO g a b y z, stO g a 10 u1.2.1, cdW g a 10 u1.2.2.1, evW g a 10 u1.2.2.2.1, hiO g a u1.2.2.2.2.1, hrW g a t, stF g a u1.2.2.2.2.2.1, cdF g a u1.2.2.2.2.2.2.1, evF g a u1.2.2.2.2.2.2.2]) (stk2 := [.int r2]) rfl rfl rfl ?_
    refine x_widen (k := 1) (n := 6) (Nat.le_of_ble_eq_true rfl) (Nat.le_of_ble_eq_true rfl) ?_
    refine x_vx ?_
    exact x_iret C hr ⟨by cases hf; rfl, by cases hf; rfl⟩ dL_pass_5
theorem wd_738 : Cond.classLink RL 54 "java/util/NoSuchElementException" ∈ xTB := xTB_in 738 (by decide +kernel) (by decide +kernel)
theorem wd_739 : Cond.methodLink RL 51 yX9_candleByWax ∈ xTB := xTB_in 739 (by decide +kernel) (by decide +kernel)
theorem wd_740 : Cond.instanceMethod yX9_candleByWax ∈ xTB := xTB_in 740 (by decide +kernel) (by decide +kernel)
theorem wd_741 : Cond.selects yX9_candleByWax.cls yX9_candleByWax yX9_candleByWax ∈ xTB := xTB_in 741 (by decide +kernel) (by decide +kernel)
theorem wd_742 : Cond.code yX9_candleByWax cX9_candleByWax 2 (some .int) ∈ xTB := xTB_in 742 (by decide +kernel) (by decide +kernel)
theorem dL_candleByWax_0 : decode cL_candleByWax 0 = .ok (.aload_n 0, 1) := by decide +kernel
theorem dL_candleByWax_1 : decode cL_candleByWax 1 = .ok (.iload_n 1, 1) := by decide +kernel
theorem dL_candleByWax_2 : decode cL_candleByWax 2 = .ok (.invokevirtual 51, 3) := by decide +kernel
theorem dL_candleByWax_5 : decode cL_candleByWax 5 = .ok (.ireturn, 1) := by decide +kernel
theorem dL_candleByWax_6 : decode cL_candleByWax 6 = .ok (.astore_n 2, 1) := by decide +kernel
theorem dL_candleByWax_7 : decode cL_candleByWax 7 = .ok (.ldc 17, 2) := by decide +kernel
theorem dL_candleByWax_9 : decode cL_candleByWax 9 = .ok (.ireturn, 1) := by decide +kernel
set_option maxHeartbeats 4000000 in
set_option maxRecDepth 100000 in
theorem c_Q_candleByWax (g : xG) (l : Launch) (hl : l.stackTraces = false) (a : Nat → Nat) (b : Nat → Nat) (y : Nat) (z : CcT) (v : StS) (c : CdT) (x1 : Int32) {u : Int32} (hf : f_Q_candleByWax z v c x1 = some u) : ConH g l yL_candleByWax cL_candleByWax 3 (some .int) [(0, 5, 6, 54)] ({ frames := 7, cells := 1, slots := 6, locals := 111 } : Room) [.ref (a 0), .int x1] ([ccO g a b y z, stO g a 10 v, cdW g a 10 c] : List va_W).flatten (fun v9 w9 => v9 = some (.int u) ∧ w9 = ([ccO g a b y z, stO g a 10 v, cdW g a 10 c] : List va_W).flatten) 1 6 := by
  unfold f_Q_candleByWax at hf
  refine ConH_of [ccO g a b y z, stO g a 10 v, cdW g a 10 c] [(0, .ref (a 0)), (1, .int x1)] rfl rfl (by decide) (Nat.le_of_ble_eq_true rfl) ?_
  intro pW eW sW mW argsW belowW methW c9 C hr hT
  have C : CX g RL cL_candleByWax 3 _ pW sW mW argsW methW c9 := C
  refine x_aload_n C dL_candleByWax_0 rfl 0 rfl ?_
  refine x_iload_n C dL_candleByWax_1 rfl 1 rfl ?_
  obtain ⟨u1, hu1, hf⟩ := x_b hf
  refine x_xcallV (n := 1) (As := [.int x1]) (rest := []) C (c_X9_candleByWax g l hl a b y z v c x1 hu1) ⟨⟨wd_742, wd_739, wd_25⟩, ⟨by decide, by decide, by decide⟩, rfl, rfl, Nat.le_of_ble_eq_true rfl, Nat.le_of_ble_eq_true rfl⟩ wd_740 wd_741 ⟨0, 10, _, _, rfl, rfl, rfl⟩ [] (x_pickD [0, 1, 2] 3 rfl rfl rfl) rfl rfl (Nat.le_of_ble_eq_true rfl) ⟨Nat.le_of_ble_eq_true rfl, Nat.le_of_ble_eq_true rfl⟩ dL_candleByWax_2 (fun E9 w9 hX9 => ?_) (fun v9 w9 hQ9 => ?_)
  · obtain ⟨k9, hk9, rfl, rfl⟩ := hX9
    have hf := x_sl hk9 hf
    refine x_goX (wss2 := [ccO g a b y z, stO g a 10 v, cdW g a 10 c]) rfl rfl ?_
    by_cases e3 : k9 = 4
    · subst e3
      have hf := x_t rfl hf
      refine x_catch (E := "java/util/NoSuchElementException") C hT 0 rfl ⟨by decide, by decide⟩ (by decide) wd_738 (by decide) (fun x hx => by cases hx) (fun q9 => ?_)
      refine x_astore_n (lv' := [(2, .ref q9), (0, .ref (a 0)), (1, .int x1)]) C dL_candleByWax_6 rfl (by decide) rfl ?_
      refine x_ldc C wd_659 dL_candleByWax_7 ?_
      refine x_widen (k := 1) (n := 6) (by omega) (by omega) ?_
      refine x_vx ?_
      exact x_iret C hr ⟨by cases hf; rfl, by cases hf; rfl⟩ dL_candleByWax_9
    · have hf := x_f e3 hf
      cases hf
  · obtain ⟨r2, hr9, rfl, rfl⟩ := hQ9
    have hf := x_sr hr9 hf
    refine x_goW (wss2 := [ccO g a b y z, stO g a 10 v, cdW g a 10 c]) (stk2 := [.int r2]) rfl rfl rfl ?_
    refine x_widen (k := 1) (n := 6) (Nat.le_of_ble_eq_true rfl) (Nat.le_of_ble_eq_true rfl) ?_
    refine x_vx ?_
    exact x_iret C hr ⟨by cases hf; rfl, by cases hf; rfl⟩ dL_candleByWax_5
theorem wd_1281 : Cond.methodLink RL 56 yX9_lastCandle ∈ xTB := xTB_in 1281 (by decide +kernel) (by decide +kernel)
theorem wd_1282 : Cond.instanceMethod yX9_lastCandle ∈ xTB := xTB_in 1282 (by decide +kernel) (by decide +kernel)
theorem wd_1283 : Cond.selects yX9_lastCandle.cls yX9_lastCandle yX9_lastCandle ∈ xTB := xTB_in 1283 (by decide +kernel) (by decide +kernel)
theorem wd_1284 : Cond.code yX9_lastCandle cX9_lastCandle 1 (some .int) ∈ xTB := xTB_in 1284 (by decide +kernel) (by decide +kernel)
theorem dL_lastCandle_0 : decode cL_lastCandle 0 = .ok (.aload_n 0, 1) := by decide +kernel
theorem dL_lastCandle_1 : decode cL_lastCandle 1 = .ok (.invokevirtual 56, 3) := by decide +kernel
theorem dL_lastCandle_4 : decode cL_lastCandle 4 = .ok (.ireturn, 1) := by decide +kernel
theorem dL_lastCandle_5 : decode cL_lastCandle 5 = .ok (.astore_n 1, 1) := by decide +kernel
theorem dL_lastCandle_6 : decode cL_lastCandle 6 = .ok (.ldc 17, 2) := by decide +kernel
theorem dL_lastCandle_8 : decode cL_lastCandle 8 = .ok (.ireturn, 1) := by decide +kernel
set_option maxHeartbeats 4000000 in
set_option maxRecDepth 100000 in
theorem c_Q_lastCandle (g : xG) (l : Launch) (hl : l.stackTraces = false) (a : Nat → Nat) (b : Nat → Nat) (y : Nat) (z : CcT) (v : StS)  {u : Int32} (hf : f_Q_lastCandle z v = some u) : ConH g l yL_lastCandle cL_lastCandle 2 (some .int) [(0, 4, 5, 54)] ({ frames := 7, cells := 1, slots := 6, locals := 110 } : Room) [.ref (a 0)] ([ccO g a b y z, stO g a 10 v] : List va_W).flatten (fun v9 w9 => v9 = some (.int u) ∧ w9 = ([ccO g a b y z, stO g a 10 v] : List va_W).flatten) 1 6 := by
  unfold f_Q_lastCandle at hf
  refine ConH_of [ccO g a b y z, stO g a 10 v] [(0, .ref (a 0))] rfl rfl (by decide) (Nat.le_of_ble_eq_true rfl) ?_
  intro pW eW sW mW argsW belowW methW c9 C hr hT
  have C : CX g RL cL_lastCandle 2 _ pW sW mW argsW methW c9 := C
  refine x_aload_n C dL_lastCandle_0 rfl 0 rfl ?_
  obtain ⟨u1, hu1, hf⟩ := x_b hf
  refine x_xcallV (n := 0) (As := []) (rest := []) C (c_X9_lastCandle g l hl a b y z v hu1) ⟨⟨wd_1284, wd_1281, wd_25⟩, ⟨by decide, by decide, by decide⟩, rfl, rfl, Nat.le_of_ble_eq_true rfl, Nat.le_of_ble_eq_true rfl⟩ wd_1282 wd_1283 ⟨0, 10, _, _, rfl, rfl, rfl⟩ [] (x_pickD [0, 1] 2 rfl rfl rfl) rfl rfl (Nat.le_of_ble_eq_true rfl) ⟨Nat.le_of_ble_eq_true rfl, Nat.le_of_ble_eq_true rfl⟩ dL_lastCandle_1 (fun E9 w9 hX9 => ?_) (fun v9 w9 hQ9 => ?_)
  · obtain ⟨k9, hk9, rfl, rfl⟩ := hX9
    have hf := x_sl hk9 hf
    refine x_goX (wss2 := [ccO g a b y z, stO g a 10 v]) rfl rfl ?_
    by_cases e3 : k9 = 4
    · subst e3
      have hf := x_t rfl hf
      refine x_catch (E := "java/util/NoSuchElementException") C hT 0 rfl ⟨by decide, by decide⟩ (by decide) wd_738 (by decide) (fun x hx => by cases hx) (fun q9 => ?_)
      refine x_astore_n (lv' := [(1, .ref q9), (0, .ref (a 0))]) C dL_lastCandle_5 rfl (by decide) rfl ?_
      refine x_ldc C wd_659 dL_lastCandle_6 ?_
      refine x_widen (k := 1) (n := 6) (by omega) (by omega) ?_
      refine x_vx ?_
      exact x_iret C hr ⟨by cases hf; rfl, by cases hf; rfl⟩ dL_lastCandle_8
    · have hf := x_f e3 hf
      cases hf
  · obtain ⟨r2, hr9, rfl, rfl⟩ := hQ9
    have hf := x_sr hr9 hf
    refine x_goW (wss2 := [ccO g a b y z, stO g a 10 v]) (stk2 := [.int r2]) rfl rfl rfl ?_
    refine x_widen (k := 1) (n := 6) (Nat.le_of_ble_eq_true rfl) (Nat.le_of_ble_eq_true rfl) ?_
    refine x_vx ?_
    exact x_iret C hr ⟨by cases hf; rfl, by cases hf; rfl⟩ dL_lastCandle_4
theorem wd_1149 : Cond.methodLink RL 60 yX9_run ∈ xTB := xTB_in 1149 (by decide +kernel) (by decide +kernel)
theorem wd_1150 : Cond.instanceMethod yX9_run ∈ xTB := xTB_in 1150 (by decide +kernel) (by decide +kernel)
theorem wd_1151 : Cond.selects yX9_run.cls yX9_run yX9_run ∈ xTB := xTB_in 1151 (by decide +kernel) (by decide +kernel)
theorem wd_1152 : Cond.code yX9_run cX9_run 3 (some .int) ∈ xTB := xTB_in 1152 (by decide +kernel) (by decide +kernel)
theorem dL_run_0 : decode cL_run 0 = .ok (.aload_n 0, 1) := by decide +kernel
theorem dL_run_1 : decode cL_run 1 = .ok (.invokevirtual 60, 3) := by decide +kernel
theorem dL_run_4 : decode cL_run 4 = .ok (.ireturn, 1) := by decide +kernel
theorem dL_run_5 : decode cL_run 5 = .ok (.astore_n 1, 1) := by decide +kernel
theorem dL_run_6 : decode cL_run 6 = .ok (.ldc 17, 2) := by decide +kernel
theorem dL_run_8 : decode cL_run 8 = .ok (.ireturn, 1) := by decide +kernel
theorem dL_run_9 : decode cL_run 9 = .ok (.astore_n 1, 1) := by decide +kernel
theorem dL_run_10 : decode cL_run 10 = .ok (.ldc 20, 2) := by decide +kernel
theorem dL_run_12 : decode cL_run 12 = .ok (.ireturn, 1) := by decide +kernel
set_option maxHeartbeats 4000000 in
set_option maxRecDepth 100000 in
theorem c_Q_run (g : xG) (l : Launch) (hl : l.stackTraces = false) (a : Nat → Nat) (b : Nat → Nat) (y : Nat) (z : CcT) (v : StS) (c : CdT) (e : EvT) (v2 : StS) (c2 : CdT) (e2 : EvT) (h : HiT) (t : Unit) (vs : (Nat → StS)) (cs : (Nat → CdT)) (es : (Nat → EvT)) (q : PrT) (t2 : Unit) (ws : (Nat → CmT))  {u : Int32 × CcT × StS × CdT × EvT × StS × CdT × EvT × HiT × (Nat → StS) × (Nat → CdT) × (Nat → EvT) × PrT × (Nat → CmT)} (hf : f_Q_run z v c e v2 c2 e2 h t vs cs es q t2 ws = some u) : ConH g l yL_run cL_run 2 (some .int) [(0, 4, 5, 15), (0, 4, 9, 27)] ({ frames := 9, cells := 1, slots := 6, locals := 192 } : Room) [.ref (a 0)] ([ccO g a b y z, stO g a 10 v, cdW g a 10 c, evW g a 10 e, stO g a 20 v2, cdW g a 20 c2, evW g a 20 e2, hiO g a h, hrW g a t, stF g a vs, cdF g a cs, evF g a es, prO g b q, caW g b t2, cmF g b ws] : List va_W).flatten (fun v9 w9 => v9 = some (.int u.1) ∧ w9 = ([ccO g a b y u.2.1, stO g a 10 u.2.2.1, cdW g a 10 u.2.2.2.1, evW g a 10 u.2.2.2.2.1, stO g a 20 u.2.2.2.2.2.1, cdW g a 20 u.2.2.2.2.2.2.1, evW g a 20 u.2.2.2.2.2.2.2.1, hiO g a u.2.2.2.2.2.2.2.2.1, hrW g a t, stF g a u.2.2.2.2.2.2.2.2.2.1, cdF g a u.2.2.2.2.2.2.2.2.2.2.1, evF g a u.2.2.2.2.2.2.2.2.2.2.2.1, prO g b u.2.2.2.2.2.2.2.2.2.2.2.2.1, caW g b t2, cmF g b u.2.2.2.2.2.2.2.2.2.2.2.2.2] : List va_W).flatten) 1 6 := by
  unfold f_Q_run at hf
  refine ConH_of [ccO g a b y z, stO g a 10 v, cdW g a 10 c, evW g a 10 e, stO g a 20 v2, cdW g a 20 c2, evW g a 20 e2, hiO g a h, hrW g a t, stF g a vs, cdF g a cs, evF g a es, prO g b q, caW g b t2, cmF g b ws] [(0, .ref (a 0))] rfl rfl (by decide) (Nat.le_of_ble_eq_true rfl) ?_
  intro pW eW sW mW argsW belowW methW c9 C hr hT
  have C : CX g RL cL_run 2 _ pW sW mW argsW methW c9 := C
  refine x_aload_n C dL_run_0 rfl 0 rfl ?_
  obtain ⟨u1, hu1, hf⟩ := x_b hf
  refine x_xcallV (n := 0) (As := []) (rest := []) C (c_X9_run g l hl a b y z v c e v2 c2 e2 h t vs cs es q t2 ws hu1) ⟨⟨wd_1152, wd_1149, wd_25⟩, ⟨by decide, by decide, by decide⟩, rfl, rfl, Nat.le_of_ble_eq_true rfl, Nat.le_of_ble_eq_true rfl⟩ wd_1150 wd_1151 ⟨0, 10, _, _, rfl, rfl, rfl⟩ [] (x_pickD [0, 1, 2, 3, 4, 5, 6, 7, 8, 9, 10, 11, 12, 13, 14] 15 rfl rfl rfl) rfl rfl (Nat.le_of_ble_eq_true rfl) ⟨Nat.le_of_ble_eq_true rfl, Nat.le_of_ble_eq_true rfl⟩ dL_run_1 (fun E9 w9 hX9 => ?_) (fun v9 w9 hQ9 => ?_)
  · obtain ⟨k9, hk9, rfl, rfl⟩ := hX9
    have hf := x_sl hk9 hf
    refine x_goX (wss2 := [ccO g a b y u1.2.1, stO g a 10 u1.2.2.1, cdW g a 10 u1.2.2.2.1, evW g a 10 u1.2.2.2.2.1, stO g a 20 u1.2.2.2.2.2.1, cdW g a 20 u1.2.2.2.2.2.2.1, evW g a 20 u1.2.2.2.2.2.2.2.1, hiO g a u1.2.2.2.2.2.2.2.2.1, hrW g a t, stF g a u1.2.2.2.2.2.2.2.2.2.1, cdF g a u1.2.2.2.2.2.2.2.2.2.2.1, evF g a u1.2.2.2.2.2.2.2.2.2.2.2.1, prO g b u1.2.2.2.2.2.2.2.2.2.2.2.2.1, caW g b t2, cmF g b u1.2.2.2.2.2.2.2.2.2.2.2.2.2]) rfl rfl ?_
    by_cases e3 : k9 = 0
    · subst e3
      have hf := x_t rfl hf
      refine x_catch (E := "java/lang/IllegalArgumentException") C hT 0 rfl ⟨by decide, by decide⟩ (by decide) wd_682 (by decide) (fun x hx => by cases hx) (fun q9 => ?_)
      refine x_astore_n (lv' := [(1, .ref q9), (0, .ref (a 0))]) C dL_run_5 rfl (by decide) rfl ?_
      refine x_ldc C wd_659 dL_run_6 ?_
      refine x_widen (k := 1) (n := 6) (by omega) (by omega) ?_
      refine x_vx ?_
      exact x_iret C hr ⟨by cases hf; rfl, by cases hf; rfl⟩ dL_run_8
    · have hf := x_f e3 hf
      by_cases e4 : k9 = 3
      · subst e4
        have hf := x_t rfl hf
        refine x_catch (E := "java/lang/UnsupportedOperationException") C hT 1 rfl ⟨by decide, by decide⟩ (by decide) wd_580 (by decide) (fun x hx => by
            simp only [List.take, List.mem_cons, List.not_mem_nil, or_false] at hx
            rcases hx with rfl
            · exact ⟨"java/lang/IllegalArgumentException", by decide, wd_682, by decide⟩) (fun q9 => ?_)
        refine x_astore_n (lv' := [(1, .ref q9), (0, .ref (a 0))]) C dL_run_9 rfl (by decide) rfl ?_
        refine x_ldc C wd_660 dL_run_10 ?_
        refine x_widen (k := 1) (n := 6) (by omega) (by omega) ?_
        refine x_vx ?_
        exact x_iret C hr ⟨by cases hf; rfl, by cases hf; rfl⟩ dL_run_12
      · have hf := x_f e4 hf
        cases hf
  · obtain ⟨r2, hr9, rfl, rfl⟩ := hQ9
    have hf := x_sr hr9 hf
    refine x_goW (wss2 := [ccO g a b y u1.2.1, stO g a 10 u1.2.2.1, cdW g a 10 u1.2.2.2.1, evW g a 10 u1.2.2.2.2.1, stO g a 20 u1.2.2.2.2.2.1, cdW g a 20 u1.2.2.2.2.2.2.1, evW g a 20 u1.2.2.2.2.2.2.2.1, hiO g a u1.2.2.2.2.2.2.2.2.1, hrW g a t, stF g a u1.2.2.2.2.2.2.2.2.2.1, cdF g a u1.2.2.2.2.2.2.2.2.2.2.1, evF g a u1.2.2.2.2.2.2.2.2.2.2.2.1, prO g b u1.2.2.2.2.2.2.2.2.2.2.2.2.1, caW g b t2, cmF g b u1.2.2.2.2.2.2.2.2.2.2.2.2.2]) (stk2 := [.int r2]) rfl rfl rfl ?_
    refine x_widen (k := 1) (n := 6) (Nat.le_of_ble_eq_true rfl) (Nat.le_of_ble_eq_true rfl) ?_
    refine x_vx ?_
    exact x_iret C hr ⟨by cases hf; rfl, by cases hf; rfl⟩ dL_run_4
theorem wd_771 : Cond.methodLink RL 63 yX9_undo ∈ xTB := xTB_in 771 (by decide +kernel) (by decide +kernel)
theorem wd_772 : Cond.instanceMethod yX9_undo ∈ xTB := xTB_in 772 (by decide +kernel) (by decide +kernel)
theorem wd_773 : Cond.selects yX9_undo.cls yX9_undo yX9_undo ∈ xTB := xTB_in 773 (by decide +kernel) (by decide +kernel)
theorem wd_774 : Cond.code yX9_undo cX9_undo 1 (some .int) ∈ xTB := xTB_in 774 (by decide +kernel) (by decide +kernel)
theorem dL_undo_0 : decode cL_undo 0 = .ok (.aload_n 0, 1) := by decide +kernel
theorem dL_undo_1 : decode cL_undo 1 = .ok (.invokevirtual 63, 3) := by decide +kernel
theorem dL_undo_4 : decode cL_undo 4 = .ok (.ireturn, 1) := by decide +kernel
theorem dL_undo_5 : decode cL_undo 5 = .ok (.astore_n 1, 1) := by decide +kernel
theorem dL_undo_6 : decode cL_undo 6 = .ok (.ldc 17, 2) := by decide +kernel
theorem dL_undo_8 : decode cL_undo 8 = .ok (.ireturn, 1) := by decide +kernel
set_option maxHeartbeats 4000000 in
set_option maxRecDepth 100000 in
theorem c_Q_undo (g : xG) (l : Launch) (hl : l.stackTraces = false) (a : Nat → Nat) (b : Nat → Nat) (y : Nat) (z : CcT) (v : StS) (c : CdT) (e : EvT) (h : HiT) (t : Unit) (vs : (Nat → StS)) (cs : (Nat → CdT)) (es : (Nat → EvT))  {u : Int32 × StS × CdT × EvT × HiT} (hf : f_Q_undo z v c e h t vs cs es = some u) : ConH g l yL_undo cL_undo 2 (some .int) [(0, 4, 5, 18)] ({ frames := 7, cells := 1, slots := 6, locals := 110 } : Room) [.ref (a 0)] ([ccO g a b y z, stO g a 10 v, cdW g a 10 c, evW g a 10 e, hiO g a h, hrW g a t, stF g a vs, cdF g a cs, evF g a es] : List va_W).flatten (fun v9 w9 => v9 = some (.int u.1) ∧ w9 = ([ccO g a b y z, stO g a 10 u.2.1, cdW g a 10 u.2.2.1, evW g a 10 u.2.2.2.1, hiO g a u.2.2.2.2, hrW g a t, stF g a vs, cdF g a cs, evF g a es] : List va_W).flatten) 1 6 := by
  unfold f_Q_undo at hf
  refine ConH_of [ccO g a b y z, stO g a 10 v, cdW g a 10 c, evW g a 10 e, hiO g a h, hrW g a t, stF g a vs, cdF g a cs, evF g a es] [(0, .ref (a 0))] rfl rfl (by decide) (Nat.le_of_ble_eq_true rfl) ?_
  intro pW eW sW mW argsW belowW methW c9 C hr hT
  have C : CX g RL cL_undo 2 _ pW sW mW argsW methW c9 := C
  refine x_aload_n C dL_undo_0 rfl 0 rfl ?_
  obtain ⟨u1, hu1, hf⟩ := x_b hf
  refine x_xcallV (n := 0) (As := []) (rest := []) C (c_X9_undo g l hl a b y z v c e h t vs cs es hu1) ⟨⟨wd_774, wd_771, wd_25⟩, ⟨by decide, by decide, by decide⟩, rfl, rfl, Nat.le_of_ble_eq_true rfl, Nat.le_of_ble_eq_true rfl⟩ wd_772 wd_773 ⟨0, 10, _, _, rfl, rfl, rfl⟩ [] (x_pickD [0, 1, 2, 3, 4, 5, 6, 7, 8] 9 rfl rfl rfl) rfl rfl (Nat.le_of_ble_eq_true rfl) ⟨Nat.le_of_ble_eq_true rfl, Nat.le_of_ble_eq_true rfl⟩ dL_undo_1 (fun E9 w9 hX9 => ?_) (fun v9 w9 hQ9 => ?_)
  · obtain ⟨k9, hk9, rfl, rfl⟩ := hX9
    have hf := x_sl hk9 hf
    refine x_goX (wss2 := [ccO g a b y z, stO g a 10 u1.2.1, cdW g a 10 u1.2.2.1, evW g a 10 u1.2.2.2.1, hiO g a u1.2.2.2.2, hrW g a t, stF g a vs, cdF g a cs, evF g a es]) rfl rfl ?_
    by_cases e3 : k9 = 1
    · subst e3
      have hf := x_t rfl hf
      refine x_catch (E := "java/lang/IllegalStateException") C hT 0 rfl ⟨by decide, by decide⟩ (by decide) wd_579 (by decide) (fun x hx => by cases hx) (fun q9 => ?_)
      refine x_astore_n (lv' := [(1, .ref q9), (0, .ref (a 0))]) C dL_undo_5 rfl (by decide) rfl ?_
      refine x_ldc C wd_659 dL_undo_6 ?_
      refine x_widen (k := 1) (n := 6) (by omega) (by omega) ?_
      refine x_vx ?_
      exact x_iret C hr ⟨by cases hf; rfl, by cases hf; rfl⟩ dL_undo_8
    · have hf := x_f e3 hf
      cases hf
  · obtain ⟨r2, hr9, rfl, rfl⟩ := hQ9
    have hf := x_sr hr9 hf
    refine x_goW (wss2 := [ccO g a b y z, stO g a 10 u1.2.1, cdW g a 10 u1.2.2.1, evW g a 10 u1.2.2.2.1, hiO g a u1.2.2.2.2, hrW g a t, stF g a vs, cdF g a cs, evF g a es]) (stk2 := [.int r2]) rfl rfl rfl ?_
    refine x_widen (k := 1) (n := 6) (Nat.le_of_ble_eq_true rfl) (Nat.le_of_ble_eq_true rfl) ?_
    refine x_vx ?_
    exact x_iret C hr ⟨by cases hf; rfl, by cases hf; rfl⟩ dL_undo_4
theorem wd_783 : Cond.methodLink RL 66 yX9_restore ∈ xTB := xTB_in 783 (by decide +kernel) (by decide +kernel)
theorem wd_784 : Cond.instanceMethod yX9_restore ∈ xTB := xTB_in 784 (by decide +kernel) (by decide +kernel)
theorem wd_785 : Cond.selects yX9_restore.cls yX9_restore yX9_restore ∈ xTB := xTB_in 785 (by decide +kernel) (by decide +kernel)
theorem wd_786 : Cond.code yX9_restore cX9_restore 1 (some .int) ∈ xTB := xTB_in 786 (by decide +kernel) (by decide +kernel)
theorem dL_restore_0 : decode cL_restore 0 = .ok (.aload_n 0, 1) := by decide +kernel
theorem dL_restore_1 : decode cL_restore 1 = .ok (.invokevirtual 66, 3) := by decide +kernel
theorem dL_restore_4 : decode cL_restore 4 = .ok (.ireturn, 1) := by decide +kernel
theorem dL_restore_5 : decode cL_restore 5 = .ok (.astore_n 1, 1) := by decide +kernel
theorem dL_restore_6 : decode cL_restore 6 = .ok (.ldc 17, 2) := by decide +kernel
theorem dL_restore_8 : decode cL_restore 8 = .ok (.ireturn, 1) := by decide +kernel
set_option maxHeartbeats 4000000 in
set_option maxRecDepth 100000 in
theorem c_Q_restore (g : xG) (l : Launch) (hl : l.stackTraces = false) (a : Nat → Nat) (b : Nat → Nat) (y : Nat) (z : CcT) (v : StS) (c : CdT) (e : EvT) (v3 : StS) (c3 : CdT) (e3 : EvT) (h : HiT)  {u : Int32 × StS × CdT × EvT × HiT} (hf : f_Q_restore z v c e v3 c3 e3 h = some u) : ConH g l yL_restore cL_restore 2 (some .int) [(0, 4, 5, 18)] ({ frames := 7, cells := 1, slots := 6, locals := 110 } : Room) [.ref (a 0)] ([ccO g a b y z, stO g a 10 v, cdW g a 10 c, evW g a 10 e, stO g a 30 v3, cdW g a 30 c3, evW g a 30 e3, hiO g a h] : List va_W).flatten (fun v9 w9 => v9 = some (.int u.1) ∧ w9 = ([ccO g a b y z, stO g a 10 u.2.1, cdW g a 10 u.2.2.1, evW g a 10 u.2.2.2.1, stO g a 30 v3, cdW g a 30 c3, evW g a 30 e3, hiO g a u.2.2.2.2] : List va_W).flatten) 1 6 := by
  unfold f_Q_restore at hf
  refine ConH_of [ccO g a b y z, stO g a 10 v, cdW g a 10 c, evW g a 10 e, stO g a 30 v3, cdW g a 30 c3, evW g a 30 e3, hiO g a h] [(0, .ref (a 0))] rfl rfl (by decide) (Nat.le_of_ble_eq_true rfl) ?_
  intro pW eW sW mW argsW belowW methW c9 C hr hT
  have C : CX g RL cL_restore 2 _ pW sW mW argsW methW c9 := C
  refine x_aload_n C dL_restore_0 rfl 0 rfl ?_
  obtain ⟨u1, hu1, hf⟩ := x_b hf
  refine x_xcallV (n := 0) (As := []) (rest := []) C (c_X9_restore g l hl a b y z v c e v3 c3 e3 h hu1) ⟨⟨wd_786, wd_783, wd_25⟩, ⟨by decide, by decide, by decide⟩, rfl, rfl, Nat.le_of_ble_eq_true rfl, Nat.le_of_ble_eq_true rfl⟩ wd_784 wd_785 ⟨0, 10, _, _, rfl, rfl, rfl⟩ [] (x_pickD [0, 1, 2, 3, 4, 5, 6, 7] 8 rfl rfl rfl) rfl rfl (Nat.le_of_ble_eq_true rfl) ⟨Nat.le_of_ble_eq_true rfl, Nat.le_of_ble_eq_true rfl⟩ dL_restore_1 (fun E9 w9 hX9 => ?_) (fun v9 w9 hQ9 => ?_)
  · obtain ⟨k9, hk9, rfl, rfl⟩ := hX9
    have hf := x_sl hk9 hf
    refine x_goX (wss2 := [ccO g a b y z, stO g a 10 u1.2.1, cdW g a 10 u1.2.2.1, evW g a 10 u1.2.2.2.1, stO g a 30 v3, cdW g a 30 c3, evW g a 30 e3, hiO g a u1.2.2.2.2]) rfl rfl ?_
    by_cases e3 : k9 = 1
    · subst e3
      have hf := x_t rfl hf
      refine x_catch (E := "java/lang/IllegalStateException") C hT 0 rfl ⟨by decide, by decide⟩ (by decide) wd_579 (by decide) (fun x hx => by cases hx) (fun q9 => ?_)
      refine x_astore_n (lv' := [(1, .ref q9), (0, .ref (a 0))]) C dL_restore_5 rfl (by decide) rfl ?_
      refine x_ldc C wd_659 dL_restore_6 ?_
      refine x_widen (k := 1) (n := 6) (by omega) (by omega) ?_
      refine x_vx ?_
      exact x_iret C hr ⟨by cases hf; rfl, by cases hf; rfl⟩ dL_restore_8
    · have hf := x_f e3 hf
      cases hf
  · obtain ⟨r2, hr9, rfl, rfl⟩ := hQ9
    have hf := x_sr hr9 hf
    refine x_goW (wss2 := [ccO g a b y z, stO g a 10 u1.2.1, cdW g a 10 u1.2.2.1, evW g a 10 u1.2.2.2.1, stO g a 30 v3, cdW g a 30 c3, evW g a 30 e3, hiO g a u1.2.2.2.2]) (stk2 := [.int r2]) rfl rfl rfl ?_
    refine x_widen (k := 1) (n := 6) (Nat.le_of_ble_eq_true rfl) (Nat.le_of_ble_eq_true rfl) ?_
    refine x_vx ?_
    exact x_iret C hr ⟨by cases hf; rfl, by cases hf; rfl⟩ dL_restore_4
