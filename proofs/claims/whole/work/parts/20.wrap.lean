/-! THE LAW'S WRAPPERS, by program (wip/whole/build_wrap.py) -/
def loW (g : xG) (w : Nat) (lo : (Nat → Int64)) : va_W := [(w, .inl (g.2.1 6, 1, .inr (.inl lo)))]
theorem loW_at0 (g : xG) (w : Nat) (lo : (Nat → Int64)) : (loW g w lo)[0]? = some (w, .inl (g.2.1 6, 1, .inr (.inl lo))) := rfl
def doW (g : xG) (w2 : Nat) (dd : (Nat → UInt64)) : va_W := [(w2, .inl (g.2.1 7, 1, .inr (.inr (.inr (.inl dd)))))]
theorem doW_at0 (g : xG) (w2 : Nat) (dd : (Nat → UInt64)) : (doW g w2 dd)[0]? = some (w2, .inl (g.2.1 7, 1, .inr (.inr (.inr (.inl dd))))) := rfl
theorem wd_886 : Cond.classLink RL 13 "java/lang/IllegalArgumentException" ∈ xTB := xTB_in 886 (by decide +kernel) (by decide +kernel)
theorem wd_887 : Cond.classLink RL 15 "java/lang/IllegalStateException" ∈ xTB := xTB_in 887 (by decide +kernel) (by decide +kernel)
theorem wd_888 : Cond.methodLink RL 7 yX9_addCandle ∈ xTB := xTB_in 888 (by decide +kernel) (by decide +kernel)
theorem wd_889 : Cond.instanceMethod yX9_addCandle ∈ xTB := xTB_in 889 (by decide +kernel) (by decide +kernel)
theorem wd_890 : Cond.selects yX9_addCandle.cls yX9_addCandle yX9_addCandle ∈ xTB := xTB_in 890 (by decide +kernel) (by decide +kernel)
theorem wd_891 : Cond.code yX9_addCandle cX9_addCandle 4 (some .int) ∈ xTB := xTB_in 891 (by decide +kernel) (by decide +kernel)
theorem dL_addCandle_0 : decode cL_addCandle 0 = .ok (.aload 4, 2) := by decide +kernel
theorem dL_addCandle_2 : decode cL_addCandle 2 = .ok (.iconst 0, 1) := by decide +kernel
theorem dL_addCandle_3 : decode cL_addCandle 3 = .ok (.aload_n 0, 1) := by decide +kernel
theorem dL_addCandle_4 : decode cL_addCandle 4 = .ok (.iload_n 1, 1) := by decide +kernel
theorem dL_addCandle_5 : decode cL_addCandle 5 = .ok (.iload_n 2, 1) := by decide +kernel
theorem dL_addCandle_6 : decode cL_addCandle 6 = .ok (.iload_n 3, 1) := by decide +kernel
theorem dL_addCandle_7 : decode cL_addCandle 7 = .ok (.invokevirtual 7, 3) := by decide +kernel
theorem dL_addCandle_10 : decode cL_addCandle 10 = .ok (.i2l, 1) := by decide +kernel
theorem dL_addCandle_11 : decode cL_addCandle 11 = .ok (.lastore, 1) := by decide +kernel
theorem dL_addCandle_12 : decode cL_addCandle 12 = .ok (.goto 11, 3) := by decide +kernel
theorem dL_addCandle_15 : decode cL_addCandle 15 = .ok (.astore 5, 2) := by decide +kernel
theorem dL_addCandle_17 : decode cL_addCandle 17 = .ok (.iconst 1, 1) := by decide +kernel
theorem dL_addCandle_18 : decode cL_addCandle 18 = .ok (.ireturn, 1) := by decide +kernel
theorem dL_addCandle_19 : decode cL_addCandle 19 = .ok (.astore 5, 2) := by decide +kernel
theorem dL_addCandle_21 : decode cL_addCandle 21 = .ok (.iconst 2, 1) := by decide +kernel
theorem dL_addCandle_22 : decode cL_addCandle 22 = .ok (.ireturn, 1) := by decide +kernel
theorem dL_addCandle_23 : decode cL_addCandle 23 = .ok (.iconst 0, 1) := by decide +kernel
theorem dL_addCandle_24 : decode cL_addCandle 24 = .ok (.ireturn, 1) := by decide +kernel
set_option maxHeartbeats 4000000 in
set_option maxRecDepth 100000 in
theorem c_L_addCandle (g : xG) (l : Launch) (hl : l.stackTraces = false) (a : Nat → Nat) (b : Nat → Nat) (y : Nat) (w : Nat) (z : CcT) (v : StS) (c : CdT) (e : EvT) (h : HiT) (t : Unit) (vs : (Nat → StS)) (cs : (Nat → CdT)) (es : (Nat → EvT)) (lo : (Nat → Int64)) (x1 : Int32) (x2 : Int32) (x3 : Int32) {u : Int32 × StS × CdT × HiT × (Nat → StS) × (Nat → CdT) × (Nat → EvT) × (Nat → Int64)} (hf : f_L_addCandle z v c e h t vs cs es lo x1 x2 x3 = some u) : ConH g l yL_addCandle cL_addCandle 6 (some .int) [(0, 12, 15, 13), (0, 12, 19, 15)] ({ frames := 8, cells := 1, slots := 6, locals := 133 } : Room) [.ref (a 0), .int x1, .int x2, .int x3, .ref w] ([ccO g a b y z, stO g a 10 v, cdW g a 10 c, evW g a 10 e, hiO g a h, hrW g a t, stF g a vs, cdF g a cs, evF g a es, loW g w lo] : List va_W).flatten (fun v9 w9 => v9 = some (.int u.1) ∧ w9 = ([ccO g a b y z, stO g a 10 u.2.1, cdW g a 10 u.2.2.1, evW g a 10 e, hiO g a u.2.2.2.1, hrW g a t, stF g a u.2.2.2.2.1, cdF g a u.2.2.2.2.2.1, evF g a u.2.2.2.2.2.2.1, loW g w u.2.2.2.2.2.2.2] : List va_W).flatten) 1 6 := by
  unfold f_L_addCandle at hf
  refine ConH_of [ccO g a b y z, stO g a 10 v, cdW g a 10 c, evW g a 10 e, hiO g a h, hrW g a t, stF g a vs, cdF g a cs, evF g a es, loW g w lo] [(0, .ref (a 0)), (1, .int x1), (2, .int x2), (3, .int x3), (4, .ref w)] rfl rfl (by decide) (Nat.le_of_ble_eq_true rfl) ?_
  intro pW eW sW mW argsW belowW methW c9 C hr hT
  have C : CX g RL cL_addCandle 6 _ pW sW mW argsW methW c9 := C
  refine x_aload C dL_addCandle_0 4 rfl ?_
  refine x_iconst (v := 0) C dL_addCandle_2 (by decide) ?_
  refine x_aload_n C dL_addCandle_3 rfl 0 rfl ?_
  refine x_iload_n C dL_addCandle_4 rfl 1 rfl ?_
  refine x_iload_n C dL_addCandle_5 rfl 2 rfl ?_
  refine x_iload_n C dL_addCandle_6 rfl 3 rfl ?_
  obtain ⟨u1, hu1, hf⟩ := x_b hf
  refine x_xcallV (n := 3) (As := [.int x1, .int x2, .int x3]) (rest := [.int (0 : Int32), .ref w]) C (c_X9_addCandle g l hl a b y z v c e h t vs cs es x1 x2 x3 hu1) ⟨⟨wd_891, wd_888, wd_65⟩, ⟨by decide, by decide, by decide⟩, rfl, rfl, Nat.le_of_ble_eq_true rfl, Nat.le_of_ble_eq_true rfl⟩ wd_889 wd_890 ⟨0, 10, _, _, rfl, rfl, rfl⟩ [loW g w lo] (x_pickD [0, 1, 2, 3, 4, 5, 6, 7, 8, 9] 10 rfl rfl rfl) rfl rfl (Nat.le_of_ble_eq_true rfl) ⟨Nat.le_of_ble_eq_true rfl, Nat.le_of_ble_eq_true rfl⟩ dL_addCandle_7 (fun E9 w9 hX9 => ?_) (fun v9 w9 hQ9 => ?_)
  · obtain ⟨k9, hk9, rfl, rfl⟩ := hX9
    have hf := x_sl hk9 hf
    refine x_goX (wss2 := [ccO g a b y z, stO g a 10 u1.2.1, cdW g a 10 u1.2.2.1, evW g a 10 e, hiO g a u1.2.2.2.1, hrW g a t, stF g a u1.2.2.2.2.1, cdF g a u1.2.2.2.2.2.1, evF g a u1.2.2.2.2.2.2, loW g w lo]) rfl rfl ?_
    by_cases e3 : k9 = 0
    · subst e3
      have hf := x_t rfl hf
      refine x_catch (E := "java/lang/IllegalArgumentException") C hT 0 rfl ⟨by decide, by decide⟩ (by decide) wd_886 (by decide) (fun x hx => by cases hx) (fun q9 => ?_)
      refine x_astore (lv' := [(5, .ref q9), (0, .ref (a 0)), (1, .int x1), (2, .int x2), (3, .int x3), (4, .ref w)]) C dL_addCandle_15 (by decide) rfl ?_
      refine x_iconst (v := 1) C dL_addCandle_17 (by decide) ?_
      refine x_widen (k := 1) (n := 6) (by omega) (by omega) ?_
      refine x_vx ?_
      exact x_iret C hr ⟨by cases hf; rfl, by cases hf; rfl⟩ dL_addCandle_18
    · have hf := x_f e3 hf
      by_cases e4 : k9 = 1
      · subst e4
        have hf := x_t rfl hf
        refine x_catch (E := "java/lang/IllegalStateException") C hT 1 rfl ⟨by decide, by decide⟩ (by decide) wd_887 (by decide) (fun x hx => by
            simp only [List.take, List.mem_cons, List.not_mem_nil, or_false] at hx
            rcases hx with rfl
            · exact ⟨"java/lang/IllegalArgumentException", by decide, wd_886, by decide⟩) (fun q9 => ?_)
        refine x_astore (lv' := [(5, .ref q9), (0, .ref (a 0)), (1, .int x1), (2, .int x2), (3, .int x3), (4, .ref w)]) C dL_addCandle_19 (by decide) rfl ?_
        refine x_iconst (v := 2) C dL_addCandle_21 (by decide) ?_
        refine x_widen (k := 1) (n := 6) (by omega) (by omega) ?_
        refine x_vx ?_
        exact x_iret C hr ⟨by cases hf; rfl, by cases hf; rfl⟩ dL_addCandle_22
      · have hf := x_f e4 hf
        cases hf
  · obtain ⟨r2, hr9, rfl, rfl⟩ := hQ9
    have hf := x_sr hr9 hf
    refine x_goW (wss2 := [ccO g a b y z, stO g a 10 u1.2.1, cdW g a 10 u1.2.2.1, evW g a 10 e, hiO g a u1.2.2.2.1, hrW g a t, stF g a u1.2.2.2.2.1, cdF g a u1.2.2.2.2.2.1, evF g a u1.2.2.2.2.2.2, loW g w lo]) (stk2 := [.int r2, .int (0 : Int32), .ref w]) rfl rfl rfl ?_
    refine x_i2l C dL_addCandle_10 rfl ?_
    obtain ⟨h5, hf⟩ := x_n hf
    refine x_last (b := loW g w lo) (b' := loW g w (vp_updL lo (0 : Int32).toNatClampNeg r2.toInt64)) (wss' := [ccO g a b y z, stO g a 10 u1.2.1, cdW g a 10 u1.2.2.1, evW g a 10 e, hiO g a u1.2.2.2.1, hrW g a t, stF g a u1.2.2.2.2.1, cdF g a u1.2.2.2.2.2.1, evF g a u1.2.2.2.2.2.2, loW g w (vp_updL lo (0 : Int32).toNatClampNeg r2.toInt64)]) C 9 rfl 0 (loW_at0 g w _) h5 rfl rfl dL_addCandle_11 ?_
    refine x_goto (tgt := 23) C dL_addCandle_12 (by decide) ?_
    refine x_iconst (v := 0) C dL_addCandle_23 (by decide) ?_
    refine x_widen (k := 1) (n := 6) (Nat.le_of_ble_eq_true rfl) (Nat.le_of_ble_eq_true rfl) ?_
    refine x_vx ?_
    exact x_iret C hr ⟨by cases hf; rfl, by cases hf; rfl⟩ dL_addCandle_24
theorem wd_987 : Cond.classLink RL 21 "java/lang/IndexOutOfBoundsException" ∈ xTB := xTB_in 987 (by decide +kernel) (by decide +kernel)
theorem wd_990 : Cond.classLink RL 23 "java/lang/UnsupportedOperationException" ∈ xTB := xTB_in 990 (by decide +kernel) (by decide +kernel)
theorem wd_991 : Cond.methodLink RL 17 yX9_light ∈ xTB := xTB_in 991 (by decide +kernel) (by decide +kernel)
theorem wd_992 : Cond.instanceMethod yX9_light ∈ xTB := xTB_in 992 (by decide +kernel) (by decide +kernel)
theorem wd_993 : Cond.selects yX9_light.cls yX9_light yX9_light ∈ xTB := xTB_in 993 (by decide +kernel) (by decide +kernel)
theorem wd_994 : Cond.code yX9_light cX9_light 2 (some .int) ∈ xTB := xTB_in 994 (by decide +kernel) (by decide +kernel)
theorem dL_light_0 : decode cL_light 0 = .ok (.aload_n 2, 1) := by decide +kernel
theorem dL_light_1 : decode cL_light 1 = .ok (.iconst 0, 1) := by decide +kernel
theorem dL_light_2 : decode cL_light 2 = .ok (.aload_n 0, 1) := by decide +kernel
theorem dL_light_3 : decode cL_light 3 = .ok (.iload_n 1, 1) := by decide +kernel
theorem dL_light_4 : decode cL_light 4 = .ok (.invokevirtual 17, 3) := by decide +kernel
theorem dL_light_7 : decode cL_light 7 = .ok (.i2l, 1) := by decide +kernel
theorem dL_light_8 : decode cL_light 8 = .ok (.lastore, 1) := by decide +kernel
theorem dL_light_9 : decode cL_light 9 = .ok (.goto 12, 3) := by decide +kernel
theorem dL_light_12 : decode cL_light 12 = .ok (.astore_n 3, 1) := by decide +kernel
theorem dL_light_13 : decode cL_light 13 = .ok (.iconst 1, 1) := by decide +kernel
theorem dL_light_14 : decode cL_light 14 = .ok (.ireturn, 1) := by decide +kernel
theorem dL_light_15 : decode cL_light 15 = .ok (.astore_n 3, 1) := by decide +kernel
theorem dL_light_16 : decode cL_light 16 = .ok (.iconst 2, 1) := by decide +kernel
theorem dL_light_17 : decode cL_light 17 = .ok (.ireturn, 1) := by decide +kernel
theorem dL_light_18 : decode cL_light 18 = .ok (.astore_n 3, 1) := by decide +kernel
theorem dL_light_19 : decode cL_light 19 = .ok (.iconst 3, 1) := by decide +kernel
theorem dL_light_20 : decode cL_light 20 = .ok (.ireturn, 1) := by decide +kernel
theorem dL_light_21 : decode cL_light 21 = .ok (.iconst 0, 1) := by decide +kernel
theorem dL_light_22 : decode cL_light 22 = .ok (.ireturn, 1) := by decide +kernel
set_option maxHeartbeats 4000000 in
set_option maxRecDepth 100000 in
theorem c_L_light (g : xG) (l : Launch) (hl : l.stackTraces = false) (a : Nat → Nat) (b : Nat → Nat) (y : Nat) (w : Nat) (z : CcT) (v : StS) (c : CdT) (e : EvT) (h : HiT) (t : Unit) (vs : (Nat → StS)) (cs : (Nat → CdT)) (es : (Nat → EvT)) (lo : (Nat → Int64)) (x1 : Int32) {u : Int32 × CdT × HiT × (Nat → StS) × (Nat → CdT) × (Nat → EvT) × (Nat → Int64)} (hf : f_L_light z v c e h t vs cs es lo x1 = some u) : ConH g l yL_light cL_light 4 (some .int) [(0, 9, 12, 21), (0, 9, 15, 15), (0, 9, 18, 23)] ({ frames := 8, cells := 1, slots := 6, locals := 131 } : Room) [.ref (a 0), .int x1, .ref w] ([ccO g a b y z, stO g a 10 v, cdW g a 10 c, evW g a 10 e, hiO g a h, hrW g a t, stF g a vs, cdF g a cs, evF g a es, loW g w lo] : List va_W).flatten (fun v9 w9 => v9 = some (.int u.1) ∧ w9 = ([ccO g a b y z, stO g a 10 v, cdW g a 10 u.2.1, evW g a 10 e, hiO g a u.2.2.1, hrW g a t, stF g a u.2.2.2.1, cdF g a u.2.2.2.2.1, evF g a u.2.2.2.2.2.1, loW g w u.2.2.2.2.2.2] : List va_W).flatten) 1 6 := by
  unfold f_L_light at hf
  refine ConH_of [ccO g a b y z, stO g a 10 v, cdW g a 10 c, evW g a 10 e, hiO g a h, hrW g a t, stF g a vs, cdF g a cs, evF g a es, loW g w lo] [(0, .ref (a 0)), (1, .int x1), (2, .ref w)] rfl rfl (by decide) (Nat.le_of_ble_eq_true rfl) ?_
  intro pW eW sW mW argsW belowW methW c9 C hr hT
  have C : CX g RL cL_light 4 _ pW sW mW argsW methW c9 := C
  refine x_aload_n C dL_light_0 rfl 2 rfl ?_
  refine x_iconst (v := 0) C dL_light_1 (by decide) ?_
  refine x_aload_n C dL_light_2 rfl 0 rfl ?_
  refine x_iload_n C dL_light_3 rfl 1 rfl ?_
  obtain ⟨u1, hu1, hf⟩ := x_b hf
  refine x_xcallV (n := 1) (As := [.int x1]) (rest := [.int (0 : Int32), .ref w]) C (c_X9_light g l hl a b y z v c e h t vs cs es x1 hu1) ⟨⟨wd_994, wd_991, wd_65⟩, ⟨by decide, by decide, by decide⟩, rfl, rfl, Nat.le_of_ble_eq_true rfl, Nat.le_of_ble_eq_true rfl⟩ wd_992 wd_993 ⟨0, 10, _, _, rfl, rfl, rfl⟩ [loW g w lo] (x_pickD [0, 1, 2, 3, 4, 5, 6, 7, 8, 9] 10 rfl rfl rfl) rfl rfl (Nat.le_of_ble_eq_true rfl) ⟨Nat.le_of_ble_eq_true rfl, Nat.le_of_ble_eq_true rfl⟩ dL_light_4 (fun E9 w9 hX9 => ?_) (fun v9 w9 hQ9 => ?_)
  · obtain ⟨k9, hk9, rfl, rfl⟩ := hX9
    have hf := x_sl hk9 hf
    refine x_goX (wss2 := [ccO g a b y z, stO g a 10 v, cdW g a 10 u1.2.1, evW g a 10 e, hiO g a u1.2.2.1, hrW g a t, stF g a u1.2.2.2.1, cdF g a u1.2.2.2.2.1, evF g a u1.2.2.2.2.2, loW g w lo]) rfl rfl ?_
    by_cases e3 : k9 = 2
    · subst e3
      have hf := x_t rfl hf
      refine x_catch (E := "java/lang/IndexOutOfBoundsException") C hT 0 rfl ⟨by decide, by decide⟩ (by decide) wd_987 (by decide) (fun x hx => by cases hx) (fun q9 => ?_)
      refine x_astore_n (lv' := [(3, .ref q9), (0, .ref (a 0)), (1, .int x1), (2, .ref w)]) C dL_light_12 rfl (by decide) rfl ?_
      refine x_iconst (v := 1) C dL_light_13 (by decide) ?_
      refine x_widen (k := 1) (n := 6) (by omega) (by omega) ?_
      refine x_vx ?_
      exact x_iret C hr ⟨by cases hf; rfl, by cases hf; rfl⟩ dL_light_14
    · have hf := x_f e3 hf
      by_cases e4 : k9 = 1
      · subst e4
        have hf := x_t rfl hf
        refine x_catch (E := "java/lang/IllegalStateException") C hT 1 rfl ⟨by decide, by decide⟩ (by decide) wd_887 (by decide) (fun x hx => by
            simp only [List.take, List.mem_cons, List.not_mem_nil, or_false] at hx
            rcases hx with rfl
            · exact ⟨"java/lang/IndexOutOfBoundsException", by decide, wd_987, by decide⟩) (fun q9 => ?_)
        refine x_astore_n (lv' := [(3, .ref q9), (0, .ref (a 0)), (1, .int x1), (2, .ref w)]) C dL_light_15 rfl (by decide) rfl ?_
        refine x_iconst (v := 2) C dL_light_16 (by decide) ?_
        refine x_widen (k := 1) (n := 6) (by omega) (by omega) ?_
        refine x_vx ?_
        exact x_iret C hr ⟨by cases hf; rfl, by cases hf; rfl⟩ dL_light_17
      · have hf := x_f e4 hf
        by_cases e5 : k9 = 3
        · subst e5
          have hf := x_t rfl hf
          refine x_catch (E := "java/lang/UnsupportedOperationException") C hT 2 rfl ⟨by decide, by decide⟩ (by decide) wd_990 (by decide) (fun x hx => by
              simp only [List.take, List.mem_cons, List.not_mem_nil, or_false] at hx
              rcases hx with rfl | rfl
              · exact ⟨"java/lang/IndexOutOfBoundsException", by decide, wd_987, by decide⟩
              · exact ⟨"java/lang/IllegalStateException", by decide, wd_887, by decide⟩) (fun q9 => ?_)
          refine x_astore_n (lv' := [(3, .ref q9), (0, .ref (a 0)), (1, .int x1), (2, .ref w)]) C dL_light_18 rfl (by decide) rfl ?_
          refine x_iconst (v := 3) C dL_light_19 (by decide) ?_
          refine x_widen (k := 1) (n := 6) (by omega) (by omega) ?_
          refine x_vx ?_
          exact x_iret C hr ⟨by cases hf; rfl, by cases hf; rfl⟩ dL_light_20
        · have hf := x_f e5 hf
          cases hf
  · obtain ⟨r2, hr9, rfl, rfl⟩ := hQ9
    have hf := x_sr hr9 hf
    refine x_goW (wss2 := [ccO g a b y z, stO g a 10 v, cdW g a 10 u1.2.1, evW g a 10 e, hiO g a u1.2.2.1, hrW g a t, stF g a u1.2.2.2.1, cdF g a u1.2.2.2.2.1, evF g a u1.2.2.2.2.2, loW g w lo]) (stk2 := [.int r2, .int (0 : Int32), .ref w]) rfl rfl rfl ?_
    refine x_i2l C dL_light_7 rfl ?_
    obtain ⟨h6, hf⟩ := x_n hf
    refine x_last (b := loW g w lo) (b' := loW g w (vp_updL lo (0 : Int32).toNatClampNeg r2.toInt64)) (wss' := [ccO g a b y z, stO g a 10 v, cdW g a 10 u1.2.1, evW g a 10 e, hiO g a u1.2.2.1, hrW g a t, stF g a u1.2.2.2.1, cdF g a u1.2.2.2.2.1, evF g a u1.2.2.2.2.2, loW g w (vp_updL lo (0 : Int32).toNatClampNeg r2.toInt64)]) C 9 rfl 0 (loW_at0 g w _) h6 rfl rfl dL_light_8 ?_
    refine x_goto (tgt := 21) C dL_light_9 (by decide) ?_
    refine x_iconst (v := 0) C dL_light_21 (by decide) ?_
    refine x_widen (k := 1) (n := 6) (Nat.le_of_ble_eq_true rfl) (Nat.le_of_ble_eq_true rfl) ?_
    refine x_vx ?_
    exact x_iret C hr ⟨by cases hf; rfl, by cases hf; rfl⟩ dL_light_22
theorem wd_1012 : Cond.methodLink RL 25 yX9_snuff ∈ xTB := xTB_in 1012 (by decide +kernel) (by decide +kernel)
theorem wd_1013 : Cond.instanceMethod yX9_snuff ∈ xTB := xTB_in 1013 (by decide +kernel) (by decide +kernel)
theorem wd_1014 : Cond.selects yX9_snuff.cls yX9_snuff yX9_snuff ∈ xTB := xTB_in 1014 (by decide +kernel) (by decide +kernel)
theorem wd_1015 : Cond.code yX9_snuff cX9_snuff 2 (some .int) ∈ xTB := xTB_in 1015 (by decide +kernel) (by decide +kernel)
theorem dL_snuff_0 : decode cL_snuff 0 = .ok (.aload_n 2, 1) := by decide +kernel
theorem dL_snuff_1 : decode cL_snuff 1 = .ok (.iconst 0, 1) := by decide +kernel
theorem dL_snuff_2 : decode cL_snuff 2 = .ok (.aload_n 0, 1) := by decide +kernel
theorem dL_snuff_3 : decode cL_snuff 3 = .ok (.iload_n 1, 1) := by decide +kernel
theorem dL_snuff_4 : decode cL_snuff 4 = .ok (.invokevirtual 25, 3) := by decide +kernel
theorem dL_snuff_7 : decode cL_snuff 7 = .ok (.i2l, 1) := by decide +kernel
theorem dL_snuff_8 : decode cL_snuff 8 = .ok (.lastore, 1) := by decide +kernel
theorem dL_snuff_9 : decode cL_snuff 9 = .ok (.goto 9, 3) := by decide +kernel
theorem dL_snuff_12 : decode cL_snuff 12 = .ok (.astore_n 3, 1) := by decide +kernel
theorem dL_snuff_13 : decode cL_snuff 13 = .ok (.iconst 1, 1) := by decide +kernel
theorem dL_snuff_14 : decode cL_snuff 14 = .ok (.ireturn, 1) := by decide +kernel
theorem dL_snuff_15 : decode cL_snuff 15 = .ok (.astore_n 3, 1) := by decide +kernel
theorem dL_snuff_16 : decode cL_snuff 16 = .ok (.iconst 2, 1) := by decide +kernel
theorem dL_snuff_17 : decode cL_snuff 17 = .ok (.ireturn, 1) := by decide +kernel
theorem dL_snuff_18 : decode cL_snuff 18 = .ok (.iconst 0, 1) := by decide +kernel
theorem dL_snuff_19 : decode cL_snuff 19 = .ok (.ireturn, 1) := by decide +kernel
set_option maxHeartbeats 4000000 in
set_option maxRecDepth 100000 in
theorem c_L_snuff (g : xG) (l : Launch) (hl : l.stackTraces = false) (a : Nat → Nat) (b : Nat → Nat) (y : Nat) (w : Nat) (z : CcT) (v : StS) (c : CdT) (e : EvT) (h : HiT) (t : Unit) (vs : (Nat → StS)) (cs : (Nat → CdT)) (es : (Nat → EvT)) (lo : (Nat → Int64)) (x1 : Int32) {u : Int32 × CdT × HiT × (Nat → StS) × (Nat → CdT) × (Nat → EvT) × (Nat → Int64)} (hf : f_L_snuff z v c e h t vs cs es lo x1 = some u) : ConH g l yL_snuff cL_snuff 4 (some .int) [(0, 9, 12, 21), (0, 9, 15, 15)] ({ frames := 8, cells := 1, slots := 6, locals := 131 } : Room) [.ref (a 0), .int x1, .ref w] ([ccO g a b y z, stO g a 10 v, cdW g a 10 c, evW g a 10 e, hiO g a h, hrW g a t, stF g a vs, cdF g a cs, evF g a es, loW g w lo] : List va_W).flatten (fun v9 w9 => v9 = some (.int u.1) ∧ w9 = ([ccO g a b y z, stO g a 10 v, cdW g a 10 u.2.1, evW g a 10 e, hiO g a u.2.2.1, hrW g a t, stF g a u.2.2.2.1, cdF g a u.2.2.2.2.1, evF g a u.2.2.2.2.2.1, loW g w u.2.2.2.2.2.2] : List va_W).flatten) 1 6 := by
  unfold f_L_snuff at hf
  refine ConH_of [ccO g a b y z, stO g a 10 v, cdW g a 10 c, evW g a 10 e, hiO g a h, hrW g a t, stF g a vs, cdF g a cs, evF g a es, loW g w lo] [(0, .ref (a 0)), (1, .int x1), (2, .ref w)] rfl rfl (by decide) (Nat.le_of_ble_eq_true rfl) ?_
  intro pW eW sW mW argsW belowW methW c9 C hr hT
  have C : CX g RL cL_snuff 4 _ pW sW mW argsW methW c9 := C
  refine x_aload_n C dL_snuff_0 rfl 2 rfl ?_
  refine x_iconst (v := 0) C dL_snuff_1 (by decide) ?_
  refine x_aload_n C dL_snuff_2 rfl 0 rfl ?_
  refine x_iload_n C dL_snuff_3 rfl 1 rfl ?_
  obtain ⟨u1, hu1, hf⟩ := x_b hf
  refine x_xcallV (n := 1) (As := [.int x1]) (rest := [.int (0 : Int32), .ref w]) C (c_X9_snuff g l hl a b y z v c e h t vs cs es x1 hu1) ⟨⟨wd_1015, wd_1012, wd_65⟩, ⟨by decide, by decide, by decide⟩, rfl, rfl, Nat.le_of_ble_eq_true rfl, Nat.le_of_ble_eq_true rfl⟩ wd_1013 wd_1014 ⟨0, 10, _, _, rfl, rfl, rfl⟩ [loW g w lo] (x_pickD [0, 1, 2, 3, 4, 5, 6, 7, 8, 9] 10 rfl rfl rfl) rfl rfl (Nat.le_of_ble_eq_true rfl) ⟨Nat.le_of_ble_eq_true rfl, Nat.le_of_ble_eq_true rfl⟩ dL_snuff_4 (fun E9 w9 hX9 => ?_) (fun v9 w9 hQ9 => ?_)
  · obtain ⟨k9, hk9, rfl, rfl⟩ := hX9
    have hf := x_sl hk9 hf
    refine x_goX (wss2 := [ccO g a b y z, stO g a 10 v, cdW g a 10 u1.2.1, evW g a 10 e, hiO g a u1.2.2.1, hrW g a t, stF g a u1.2.2.2.1, cdF g a u1.2.2.2.2.1, evF g a u1.2.2.2.2.2, loW g w lo]) rfl rfl ?_
    by_cases e3 : k9 = 2
    · subst e3
      have hf := x_t rfl hf
      refine x_catch (E := "java/lang/IndexOutOfBoundsException") C hT 0 rfl ⟨by decide, by decide⟩ (by decide) wd_987 (by decide) (fun x hx => by cases hx) (fun q9 => ?_)
      refine x_astore_n (lv' := [(3, .ref q9), (0, .ref (a 0)), (1, .int x1), (2, .ref w)]) C dL_snuff_12 rfl (by decide) rfl ?_
      refine x_iconst (v := 1) C dL_snuff_13 (by decide) ?_
      refine x_widen (k := 1) (n := 6) (by omega) (by omega) ?_
      refine x_vx ?_
      exact x_iret C hr ⟨by cases hf; rfl, by cases hf; rfl⟩ dL_snuff_14
    · have hf := x_f e3 hf
      by_cases e4 : k9 = 1
      · subst e4
        have hf := x_t rfl hf
        refine x_catch (E := "java/lang/IllegalStateException") C hT 1 rfl ⟨by decide, by decide⟩ (by decide) wd_887 (by decide) (fun x hx => by
            simp only [List.take, List.mem_cons, List.not_mem_nil, or_false] at hx
            rcases hx with rfl
            · exact ⟨"java/lang/IndexOutOfBoundsException", by decide, wd_987, by decide⟩) (fun q9 => ?_)
        refine x_astore_n (lv' := [(3, .ref q9), (0, .ref (a 0)), (1, .int x1), (2, .ref w)]) C dL_snuff_15 rfl (by decide) rfl ?_
        refine x_iconst (v := 2) C dL_snuff_16 (by decide) ?_
        refine x_widen (k := 1) (n := 6) (by omega) (by omega) ?_
        refine x_vx ?_
        exact x_iret C hr ⟨by cases hf; rfl, by cases hf; rfl⟩ dL_snuff_17
      · have hf := x_f e4 hf
        cases hf
  · obtain ⟨r2, hr9, rfl, rfl⟩ := hQ9
    have hf := x_sr hr9 hf
    refine x_goW (wss2 := [ccO g a b y z, stO g a 10 v, cdW g a 10 u1.2.1, evW g a 10 e, hiO g a u1.2.2.1, hrW g a t, stF g a u1.2.2.2.1, cdF g a u1.2.2.2.2.1, evF g a u1.2.2.2.2.2, loW g w lo]) (stk2 := [.int r2, .int (0 : Int32), .ref w]) rfl rfl rfl ?_
    refine x_i2l C dL_snuff_7 rfl ?_
    obtain ⟨h5, hf⟩ := x_n hf
    refine x_last (b := loW g w lo) (b' := loW g w (vp_updL lo (0 : Int32).toNatClampNeg r2.toInt64)) (wss' := [ccO g a b y z, stO g a 10 v, cdW g a 10 u1.2.1, evW g a 10 e, hiO g a u1.2.2.1, hrW g a t, stF g a u1.2.2.2.1, cdF g a u1.2.2.2.2.1, evF g a u1.2.2.2.2.2, loW g w (vp_updL lo (0 : Int32).toNatClampNeg r2.toInt64)]) C 9 rfl 0 (loW_at0 g w _) h5 rfl rfl dL_snuff_8 ?_
    refine x_goto (tgt := 18) C dL_snuff_9 (by decide) ?_
    refine x_iconst (v := 0) C dL_snuff_18 (by decide) ?_
    refine x_widen (k := 1) (n := 6) (Nat.le_of_ble_eq_true rfl) (Nat.le_of_ble_eq_true rfl) ?_
    refine x_vx ?_
    exact x_iret C hr ⟨by cases hf; rfl, by cases hf; rfl⟩ dL_snuff_19
theorem wd_1029 : Cond.methodLink RL 28 yX9_pour ∈ xTB := xTB_in 1029 (by decide +kernel) (by decide +kernel)
theorem wd_1030 : Cond.instanceMethod yX9_pour ∈ xTB := xTB_in 1030 (by decide +kernel) (by decide +kernel)
theorem wd_1031 : Cond.selects yX9_pour.cls yX9_pour yX9_pour ∈ xTB := xTB_in 1031 (by decide +kernel) (by decide +kernel)
theorem wd_1032 : Cond.code yX9_pour cX9_pour 3 (some .int) ∈ xTB := xTB_in 1032 (by decide +kernel) (by decide +kernel)
theorem dL_pour_0 : decode cL_pour 0 = .ok (.aload_n 3, 1) := by decide +kernel
theorem dL_pour_1 : decode cL_pour 1 = .ok (.iconst 0, 1) := by decide +kernel
theorem dL_pour_2 : decode cL_pour 2 = .ok (.aload_n 0, 1) := by decide +kernel
theorem dL_pour_3 : decode cL_pour 3 = .ok (.iload_n 1, 1) := by decide +kernel
theorem dL_pour_4 : decode cL_pour 4 = .ok (.iload_n 2, 1) := by decide +kernel
theorem dL_pour_5 : decode cL_pour 5 = .ok (.invokevirtual 28, 3) := by decide +kernel
theorem dL_pour_8 : decode cL_pour 8 = .ok (.i2l, 1) := by decide +kernel
theorem dL_pour_9 : decode cL_pour 9 = .ok (.lastore, 1) := by decide +kernel
theorem dL_pour_10 : decode cL_pour 10 = .ok (.goto 19, 3) := by decide +kernel
theorem dL_pour_13 : decode cL_pour 13 = .ok (.astore 4, 2) := by decide +kernel
theorem dL_pour_15 : decode cL_pour 15 = .ok (.iconst 1, 1) := by decide +kernel
theorem dL_pour_16 : decode cL_pour 16 = .ok (.ireturn, 1) := by decide +kernel
theorem dL_pour_17 : decode cL_pour 17 = .ok (.astore 4, 2) := by decide +kernel
theorem dL_pour_19 : decode cL_pour 19 = .ok (.iconst 2, 1) := by decide +kernel
theorem dL_pour_20 : decode cL_pour 20 = .ok (.ireturn, 1) := by decide +kernel
theorem dL_pour_21 : decode cL_pour 21 = .ok (.astore 4, 2) := by decide +kernel
theorem dL_pour_23 : decode cL_pour 23 = .ok (.iconst 3, 1) := by decide +kernel
theorem dL_pour_24 : decode cL_pour 24 = .ok (.ireturn, 1) := by decide +kernel
theorem dL_pour_25 : decode cL_pour 25 = .ok (.astore 4, 2) := by decide +kernel
theorem dL_pour_27 : decode cL_pour 27 = .ok (.iconst 4, 1) := by decide +kernel
theorem dL_pour_28 : decode cL_pour 28 = .ok (.ireturn, 1) := by decide +kernel
theorem dL_pour_29 : decode cL_pour 29 = .ok (.iconst 0, 1) := by decide +kernel
theorem dL_pour_30 : decode cL_pour 30 = .ok (.ireturn, 1) := by decide +kernel
set_option maxHeartbeats 4000000 in
set_option maxRecDepth 100000 in
theorem c_L_pour (g : xG) (l : Launch) (hl : l.stackTraces = false) (a : Nat → Nat) (b : Nat → Nat) (y : Nat) (w : Nat) (z : CcT) (v : StS) (c : CdT) (e : EvT) (h : HiT) (t : Unit) (vs : (Nat → StS)) (cs : (Nat → CdT)) (es : (Nat → EvT)) (lo : (Nat → Int64)) (x1 : Int32) (x2 : Int32) {u : Int32 × StS × CdT × HiT × (Nat → StS) × (Nat → CdT) × (Nat → EvT) × (Nat → Int64)} (hf : f_L_pour z v c e h t vs cs es lo x1 x2 = some u) : ConH g l yL_pour cL_pour 5 (some .int) [(0, 10, 13, 21), (0, 10, 17, 13), (0, 10, 21, 15), (0, 10, 25, 23)] ({ frames := 8, cells := 1, slots := 6, locals := 132 } : Room) [.ref (a 0), .int x1, .int x2, .ref w] ([ccO g a b y z, stO g a 10 v, cdW g a 10 c, evW g a 10 e, hiO g a h, hrW g a t, stF g a vs, cdF g a cs, evF g a es, loW g w lo] : List va_W).flatten (fun v9 w9 => v9 = some (.int u.1) ∧ w9 = ([ccO g a b y z, stO g a 10 u.2.1, cdW g a 10 u.2.2.1, evW g a 10 e, hiO g a u.2.2.2.1, hrW g a t, stF g a u.2.2.2.2.1, cdF g a u.2.2.2.2.2.1, evF g a u.2.2.2.2.2.2.1, loW g w u.2.2.2.2.2.2.2] : List va_W).flatten) 1 6 := by
  unfold f_L_pour at hf
  refine ConH_of [ccO g a b y z, stO g a 10 v, cdW g a 10 c, evW g a 10 e, hiO g a h, hrW g a t, stF g a vs, cdF g a cs, evF g a es, loW g w lo] [(0, .ref (a 0)), (1, .int x1), (2, .int x2), (3, .ref w)] rfl rfl (by decide) (Nat.le_of_ble_eq_true rfl) ?_
  intro pW eW sW mW argsW belowW methW c9 C hr hT
  have C : CX g RL cL_pour 5 _ pW sW mW argsW methW c9 := C
  refine x_aload_n C dL_pour_0 rfl 3 rfl ?_
  refine x_iconst (v := 0) C dL_pour_1 (by decide) ?_
  refine x_aload_n C dL_pour_2 rfl 0 rfl ?_
  refine x_iload_n C dL_pour_3 rfl 1 rfl ?_
  refine x_iload_n C dL_pour_4 rfl 2 rfl ?_
  obtain ⟨u1, hu1, hf⟩ := x_b hf
  refine x_xcallV (n := 2) (As := [.int x1, .int x2]) (rest := [.int (0 : Int32), .ref w]) C (c_X9_pour g l hl a b y z v c e h t vs cs es x1 x2 hu1) ⟨⟨wd_1032, wd_1029, wd_65⟩, ⟨by decide, by decide, by decide⟩, rfl, rfl, Nat.le_of_ble_eq_true rfl, Nat.le_of_ble_eq_true rfl⟩ wd_1030 wd_1031 ⟨0, 10, _, _, rfl, rfl, rfl⟩ [loW g w lo] (x_pickD [0, 1, 2, 3, 4, 5, 6, 7, 8, 9] 10 rfl rfl rfl) rfl rfl (Nat.le_of_ble_eq_true rfl) ⟨Nat.le_of_ble_eq_true rfl, Nat.le_of_ble_eq_true rfl⟩ dL_pour_5 (fun E9 w9 hX9 => ?_) (fun v9 w9 hQ9 => ?_)
  · obtain ⟨k9, hk9, rfl, rfl⟩ := hX9
    have hf := x_sl hk9 hf
    refine x_goX (wss2 := [ccO g a b y z, stO g a 10 u1.2.1, cdW g a 10 u1.2.2.1, evW g a 10 e, hiO g a u1.2.2.2.1, hrW g a t, stF g a u1.2.2.2.2.1, cdF g a u1.2.2.2.2.2.1, evF g a u1.2.2.2.2.2.2, loW g w lo]) rfl rfl ?_
    by_cases e3 : k9 = 2
    · subst e3
      have hf := x_t rfl hf
      refine x_catch (E := "java/lang/IndexOutOfBoundsException") C hT 0 rfl ⟨by decide, by decide⟩ (by decide) wd_987 (by decide) (fun x hx => by cases hx) (fun q9 => ?_)
      refine x_astore (lv' := [(4, .ref q9), (0, .ref (a 0)), (1, .int x1), (2, .int x2), (3, .ref w)]) C dL_pour_13 (by decide) rfl ?_
      refine x_iconst (v := 1) C dL_pour_15 (by decide) ?_
      refine x_widen (k := 1) (n := 6) (by omega) (by omega) ?_
      refine x_vx ?_
      exact x_iret C hr ⟨by cases hf; rfl, by cases hf; rfl⟩ dL_pour_16
    · have hf := x_f e3 hf
      by_cases e4 : k9 = 0
      · subst e4
        have hf := x_t rfl hf
        refine x_catch (E := "java/lang/IllegalArgumentException") C hT 1 rfl ⟨by decide, by decide⟩ (by decide) wd_886 (by decide) (fun x hx => by
            simp only [List.take, List.mem_cons, List.not_mem_nil, or_false] at hx
            rcases hx with rfl
            · exact ⟨"java/lang/IndexOutOfBoundsException", by decide, wd_987, by decide⟩) (fun q9 => ?_)
        refine x_astore (lv' := [(4, .ref q9), (0, .ref (a 0)), (1, .int x1), (2, .int x2), (3, .ref w)]) C dL_pour_17 (by decide) rfl ?_
        refine x_iconst (v := 2) C dL_pour_19 (by decide) ?_
        refine x_widen (k := 1) (n := 6) (by omega) (by omega) ?_
        refine x_vx ?_
        exact x_iret C hr ⟨by cases hf; rfl, by cases hf; rfl⟩ dL_pour_20
      · have hf := x_f e4 hf
        by_cases e5 : k9 = 1
        · subst e5
          have hf := x_t rfl hf
          refine x_catch (E := "java/lang/IllegalStateException") C hT 2 rfl ⟨by decide, by decide⟩ (by decide) wd_887 (by decide) (fun x hx => by
              simp only [List.take, List.mem_cons, List.not_mem_nil, or_false] at hx
              rcases hx with rfl | rfl
              · exact ⟨"java/lang/IndexOutOfBoundsException", by decide, wd_987, by decide⟩
              · exact ⟨"java/lang/IllegalArgumentException", by decide, wd_886, by decide⟩) (fun q9 => ?_)
          refine x_astore (lv' := [(4, .ref q9), (0, .ref (a 0)), (1, .int x1), (2, .int x2), (3, .ref w)]) C dL_pour_21 (by decide) rfl ?_
          refine x_iconst (v := 3) C dL_pour_23 (by decide) ?_
          refine x_widen (k := 1) (n := 6) (by omega) (by omega) ?_
          refine x_vx ?_
          exact x_iret C hr ⟨by cases hf; rfl, by cases hf; rfl⟩ dL_pour_24
        · have hf := x_f e5 hf
          by_cases e6 : k9 = 3
          · subst e6
            have hf := x_t rfl hf
            refine x_catch (E := "java/lang/UnsupportedOperationException") C hT 3 rfl ⟨by decide, by decide⟩ (by decide) wd_990 (by decide) (fun x hx => by
                simp only [List.take, List.mem_cons, List.not_mem_nil, or_false] at hx
                rcases hx with rfl | rfl | rfl
                · exact ⟨"java/lang/IndexOutOfBoundsException", by decide, wd_987, by decide⟩
                · exact ⟨"java/lang/IllegalArgumentException", by decide, wd_886, by decide⟩
                · exact ⟨"java/lang/IllegalStateException", by decide, wd_887, by decide⟩) (fun q9 => ?_)
            refine x_astore (lv' := [(4, .ref q9), (0, .ref (a 0)), (1, .int x1), (2, .int x2), (3, .ref w)]) C dL_pour_25 (by decide) rfl ?_
            refine x_iconst (v := 4) C dL_pour_27 (by decide) ?_
            refine x_widen (k := 1) (n := 6) (by omega) (by omega) ?_
            refine x_vx ?_
            exact x_iret C hr ⟨by cases hf; rfl, by cases hf; rfl⟩ dL_pour_28
          · have hf := x_f e6 hf
            cases hf
  · obtain ⟨r2, hr9, rfl, rfl⟩ := hQ9
    have hf := x_sr hr9 hf
    refine x_goW (wss2 := [ccO g a b y z, stO g a 10 u1.2.1, cdW g a 10 u1.2.2.1, evW g a 10 e, hiO g a u1.2.2.2.1, hrW g a t, stF g a u1.2.2.2.2.1, cdF g a u1.2.2.2.2.2.1, evF g a u1.2.2.2.2.2.2, loW g w lo]) (stk2 := [.int r2, .int (0 : Int32), .ref w]) rfl rfl rfl ?_
    refine x_i2l C dL_pour_8 rfl ?_
    obtain ⟨h7, hf⟩ := x_n hf
    refine x_last (b := loW g w lo) (b' := loW g w (vp_updL lo (0 : Int32).toNatClampNeg r2.toInt64)) (wss' := [ccO g a b y z, stO g a 10 u1.2.1, cdW g a 10 u1.2.2.1, evW g a 10 e, hiO g a u1.2.2.2.1, hrW g a t, stF g a u1.2.2.2.2.1, cdF g a u1.2.2.2.2.2.1, evF g a u1.2.2.2.2.2.2, loW g w (vp_updL lo (0 : Int32).toNatClampNeg r2.toInt64)]) C 9 rfl 0 (loW_at0 g w _) h7 rfl rfl dL_pour_9 ?_
    refine x_goto (tgt := 29) C dL_pour_10 (by decide) ?_
    refine x_iconst (v := 0) C dL_pour_29 (by decide) ?_
    refine x_widen (k := 1) (n := 6) (Nat.le_of_ble_eq_true rfl) (Nat.le_of_ble_eq_true rfl) ?_
    refine x_vx ?_
    exact x_iret C hr ⟨by cases hf; rfl, by cases hf; rfl⟩ dL_pour_30
theorem wd_1048 : Cond.methodLink RL 32 yX9_setDraught ∈ xTB := xTB_in 1048 (by decide +kernel) (by decide +kernel)
theorem wd_1049 : Cond.instanceMethod yX9_setDraught ∈ xTB := xTB_in 1049 (by decide +kernel) (by decide +kernel)
theorem wd_1050 : Cond.selects yX9_setDraught.cls yX9_setDraught yX9_setDraught ∈ xTB := xTB_in 1050 (by decide +kernel) (by decide +kernel)
theorem wd_1051 : Cond.code yX9_setDraught cX9_setDraught 2 (some .int) ∈ xTB := xTB_in 1051 (by decide +kernel) (by decide +kernel)
theorem dL_setDraught_0 : decode cL_setDraught 0 = .ok (.aload_n 2, 1) := by decide +kernel
theorem dL_setDraught_1 : decode cL_setDraught 1 = .ok (.iconst 0, 1) := by decide +kernel
theorem dL_setDraught_2 : decode cL_setDraught 2 = .ok (.aload_n 0, 1) := by decide +kernel
theorem dL_setDraught_3 : decode cL_setDraught 3 = .ok (.iload_n 1, 1) := by decide +kernel
theorem dL_setDraught_4 : decode cL_setDraught 4 = .ok (.invokevirtual 32, 3) := by decide +kernel
theorem dL_setDraught_7 : decode cL_setDraught 7 = .ok (.i2l, 1) := by decide +kernel
theorem dL_setDraught_8 : decode cL_setDraught 8 = .ok (.lastore, 1) := by decide +kernel
theorem dL_setDraught_9 : decode cL_setDraught 9 = .ok (.goto 6, 3) := by decide +kernel
theorem dL_setDraught_12 : decode cL_setDraught 12 = .ok (.astore_n 3, 1) := by decide +kernel
theorem dL_setDraught_13 : decode cL_setDraught 13 = .ok (.iconst 1, 1) := by decide +kernel
theorem dL_setDraught_14 : decode cL_setDraught 14 = .ok (.ireturn, 1) := by decide +kernel
theorem dL_setDraught_15 : decode cL_setDraught 15 = .ok (.iconst 0, 1) := by decide +kernel
theorem dL_setDraught_16 : decode cL_setDraught 16 = .ok (.ireturn, 1) := by decide +kernel
set_option maxHeartbeats 4000000 in
set_option maxRecDepth 100000 in
theorem c_L_setDraught (g : xG) (l : Launch) (hl : l.stackTraces = false) (a : Nat → Nat) (b : Nat → Nat) (y : Nat) (w : Nat) (z : CcT) (v : StS) (c : CdT) (e : EvT) (h : HiT) (t : Unit) (vs : (Nat → StS)) (cs : (Nat → CdT)) (es : (Nat → EvT)) (lo : (Nat → Int64)) (x1 : Int32) {u : Int32 × StS × HiT × (Nat → StS) × (Nat → CdT) × (Nat → EvT) × (Nat → Int64)} (hf : f_L_setDraught z v c e h t vs cs es lo x1 = some u) : ConH g l yL_setDraught cL_setDraught 4 (some .int) [(0, 9, 12, 13)] ({ frames := 8, cells := 1, slots := 6, locals := 131 } : Room) [.ref (a 0), .int x1, .ref w] ([ccO g a b y z, stO g a 10 v, cdW g a 10 c, evW g a 10 e, hiO g a h, hrW g a t, stF g a vs, cdF g a cs, evF g a es, loW g w lo] : List va_W).flatten (fun v9 w9 => v9 = some (.int u.1) ∧ w9 = ([ccO g a b y z, stO g a 10 u.2.1, cdW g a 10 c, evW g a 10 e, hiO g a u.2.2.1, hrW g a t, stF g a u.2.2.2.1, cdF g a u.2.2.2.2.1, evF g a u.2.2.2.2.2.1, loW g w u.2.2.2.2.2.2] : List va_W).flatten) 1 6 := by
  unfold f_L_setDraught at hf
  refine ConH_of [ccO g a b y z, stO g a 10 v, cdW g a 10 c, evW g a 10 e, hiO g a h, hrW g a t, stF g a vs, cdF g a cs, evF g a es, loW g w lo] [(0, .ref (a 0)), (1, .int x1), (2, .ref w)] rfl rfl (by decide) (Nat.le_of_ble_eq_true rfl) ?_
  intro pW eW sW mW argsW belowW methW c9 C hr hT
  have C : CX g RL cL_setDraught 4 _ pW sW mW argsW methW c9 := C
  refine x_aload_n C dL_setDraught_0 rfl 2 rfl ?_
  refine x_iconst (v := 0) C dL_setDraught_1 (by decide) ?_
  refine x_aload_n C dL_setDraught_2 rfl 0 rfl ?_
  refine x_iload_n C dL_setDraught_3 rfl 1 rfl ?_
  obtain ⟨u1, hu1, hf⟩ := x_b hf
  refine x_xcallV (n := 1) (As := [.int x1]) (rest := [.int (0 : Int32), .ref w]) C (c_X9_setDraught g l hl a b y z v c e h t vs cs es x1 hu1) ⟨⟨wd_1051, wd_1048, wd_65⟩, ⟨by decide, by decide, by decide⟩, rfl, rfl, Nat.le_of_ble_eq_true rfl, Nat.le_of_ble_eq_true rfl⟩ wd_1049 wd_1050 ⟨0, 10, _, _, rfl, rfl, rfl⟩ [loW g w lo] (x_pickD [0, 1, 2, 3, 4, 5, 6, 7, 8, 9] 10 rfl rfl rfl) rfl rfl (Nat.le_of_ble_eq_true rfl) ⟨Nat.le_of_ble_eq_true rfl, Nat.le_of_ble_eq_true rfl⟩ dL_setDraught_4 (fun E9 w9 hX9 => ?_) (fun v9 w9 hQ9 => ?_)
  · obtain ⟨k9, hk9, rfl, rfl⟩ := hX9
    have hf := x_sl hk9 hf
    refine x_goX (wss2 := [ccO g a b y z, stO g a 10 u1.2.1, cdW g a 10 c, evW g a 10 e, hiO g a u1.2.2.1, hrW g a t, stF g a u1.2.2.2.1, cdF g a u1.2.2.2.2.1, evF g a u1.2.2.2.2.2, loW g w lo]) rfl rfl ?_
    by_cases e3 : k9 = 0
    · subst e3
      have hf := x_t rfl hf
      refine x_catch (E := "java/lang/IllegalArgumentException") C hT 0 rfl ⟨by decide, by decide⟩ (by decide) wd_886 (by decide) (fun x hx => by cases hx) (fun q9 => ?_)
      refine x_astore_n (lv' := [(3, .ref q9), (0, .ref (a 0)), (1, .int x1), (2, .ref w)]) C dL_setDraught_12 rfl (by decide) rfl ?_
      refine x_iconst (v := 1) C dL_setDraught_13 (by decide) ?_
      refine x_widen (k := 1) (n := 6) (by omega) (by omega) ?_
      refine x_vx ?_
      exact x_iret C hr ⟨by cases hf; rfl, by cases hf; rfl⟩ dL_setDraught_14
    · have hf := x_f e3 hf
      cases hf
  · obtain ⟨r2, hr9, rfl, rfl⟩ := hQ9
    have hf := x_sr hr9 hf
    refine x_goW (wss2 := [ccO g a b y z, stO g a 10 u1.2.1, cdW g a 10 c, evW g a 10 e, hiO g a u1.2.2.1, hrW g a t, stF g a u1.2.2.2.1, cdF g a u1.2.2.2.2.1, evF g a u1.2.2.2.2.2, loW g w lo]) (stk2 := [.int r2, .int (0 : Int32), .ref w]) rfl rfl rfl ?_
    refine x_i2l C dL_setDraught_7 rfl ?_
    obtain ⟨h4, hf⟩ := x_n hf
    refine x_last (b := loW g w lo) (b' := loW g w (vp_updL lo (0 : Int32).toNatClampNeg r2.toInt64)) (wss' := [ccO g a b y z, stO g a 10 u1.2.1, cdW g a 10 c, evW g a 10 e, hiO g a u1.2.2.1, hrW g a t, stF g a u1.2.2.2.1, cdF g a u1.2.2.2.2.1, evF g a u1.2.2.2.2.2, loW g w (vp_updL lo (0 : Int32).toNatClampNeg r2.toInt64)]) C 9 rfl 0 (loW_at0 g w _) h4 rfl rfl dL_setDraught_8 ?_
    refine x_goto (tgt := 15) C dL_setDraught_9 (by decide) ?_
    refine x_iconst (v := 0) C dL_setDraught_15 (by decide) ?_
    refine x_widen (k := 1) (n := 6) (Nat.le_of_ble_eq_true rfl) (Nat.le_of_ble_eq_true rfl) ?_
    refine x_vx ?_
    exact x_iret C hr ⟨by cases hf; rfl, by cases hf; rfl⟩ dL_setDraught_16
theorem wd_1063 : Cond.methodLink RL 35 yX9_schedule ∈ xTB := xTB_in 1063 (by decide +kernel) (by decide +kernel)
theorem wd_1064 : Cond.instanceMethod yX9_schedule ∈ xTB := xTB_in 1064 (by decide +kernel) (by decide +kernel)
theorem wd_1065 : Cond.selects yX9_schedule.cls yX9_schedule yX9_schedule ∈ xTB := xTB_in 1065 (by decide +kernel) (by decide +kernel)
theorem wd_1066 : Cond.code yX9_schedule cX9_schedule 4 (some .int) ∈ xTB := xTB_in 1066 (by decide +kernel) (by decide +kernel)
theorem dL_schedule_0 : decode cL_schedule 0 = .ok (.aload 4, 2) := by decide +kernel
theorem dL_schedule_2 : decode cL_schedule 2 = .ok (.iconst 0, 1) := by decide +kernel
theorem dL_schedule_3 : decode cL_schedule 3 = .ok (.aload_n 0, 1) := by decide +kernel
theorem dL_schedule_4 : decode cL_schedule 4 = .ok (.iload_n 1, 1) := by decide +kernel
theorem dL_schedule_5 : decode cL_schedule 5 = .ok (.iload_n 2, 1) := by decide +kernel
theorem dL_schedule_6 : decode cL_schedule 6 = .ok (.iload_n 3, 1) := by decide +kernel
theorem dL_schedule_7 : decode cL_schedule 7 = .ok (.invokevirtual 35, 3) := by decide +kernel
theorem dL_schedule_10 : decode cL_schedule 10 = .ok (.i2l, 1) := by decide +kernel
theorem dL_schedule_11 : decode cL_schedule 11 = .ok (.lastore, 1) := by decide +kernel
theorem dL_schedule_12 : decode cL_schedule 12 = .ok (.goto 15, 3) := by decide +kernel
theorem dL_schedule_15 : decode cL_schedule 15 = .ok (.astore 5, 2) := by decide +kernel
theorem dL_schedule_17 : decode cL_schedule 17 = .ok (.iconst 1, 1) := by decide +kernel
theorem dL_schedule_18 : decode cL_schedule 18 = .ok (.ireturn, 1) := by decide +kernel
theorem dL_schedule_19 : decode cL_schedule 19 = .ok (.astore 5, 2) := by decide +kernel
theorem dL_schedule_21 : decode cL_schedule 21 = .ok (.iconst 2, 1) := by decide +kernel
theorem dL_schedule_22 : decode cL_schedule 22 = .ok (.ireturn, 1) := by decide +kernel
theorem dL_schedule_23 : decode cL_schedule 23 = .ok (.astore 5, 2) := by decide +kernel
theorem dL_schedule_25 : decode cL_schedule 25 = .ok (.iconst 3, 1) := by decide +kernel
theorem dL_schedule_26 : decode cL_schedule 26 = .ok (.ireturn, 1) := by decide +kernel
theorem dL_schedule_27 : decode cL_schedule 27 = .ok (.iconst 0, 1) := by decide +kernel
theorem dL_schedule_28 : decode cL_schedule 28 = .ok (.ireturn, 1) := by decide +kernel
set_option maxHeartbeats 4000000 in
set_option maxRecDepth 100000 in
theorem c_L_schedule (g : xG) (l : Launch) (hl : l.stackTraces = false) (a : Nat → Nat) (b : Nat → Nat) (y : Nat) (w : Nat) (z : CcT) (v : StS) (c : CdT) (e : EvT) (h : HiT) (t : Unit) (vs : (Nat → StS)) (cs : (Nat → CdT)) (es : (Nat → EvT)) (lo : (Nat → Int64)) (x1 : Int32) (x2 : Int32) (x3 : Int32) {u : Int32 × EvT × HiT × (Nat → StS) × (Nat → CdT) × (Nat → EvT) × (Nat → Int64)} (hf : f_L_schedule z v c e h t vs cs es lo x1 x2 x3 = some u) : ConH g l yL_schedule cL_schedule 6 (some .int) [(0, 12, 15, 13), (0, 12, 19, 21), (0, 12, 23, 15)] ({ frames := 8, cells := 1, slots := 6, locals := 133 } : Room) [.ref (a 0), .int x1, .int x2, .int x3, .ref w] ([ccO g a b y z, stO g a 10 v, cdW g a 10 c, evW g a 10 e, hiO g a h, hrW g a t, stF g a vs, cdF g a cs, evF g a es, loW g w lo] : List va_W).flatten (fun v9 w9 => v9 = some (.int u.1) ∧ w9 = ([ccO g a b y z, stO g a 10 v, cdW g a 10 c, evW g a 10 u.2.1, hiO g a u.2.2.1, hrW g a t, stF g a u.2.2.2.1, cdF g a u.2.2.2.2.1, evF g a u.2.2.2.2.2.1, loW g w u.2.2.2.2.2.2] : List va_W).flatten) 1 6 := by
  unfold f_L_schedule at hf
  refine ConH_of [ccO g a b y z, stO g a 10 v, cdW g a 10 c, evW g a 10 e, hiO g a h, hrW g a t, stF g a vs, cdF g a cs, evF g a es, loW g w lo] [(0, .ref (a 0)), (1, .int x1), (2, .int x2), (3, .int x3), (4, .ref w)] rfl rfl (by decide) (Nat.le_of_ble_eq_true rfl) ?_
  intro pW eW sW mW argsW belowW methW c9 C hr hT
  have C : CX g RL cL_schedule 6 _ pW sW mW argsW methW c9 := C
  refine x_aload C dL_schedule_0 4 rfl ?_
  refine x_iconst (v := 0) C dL_schedule_2 (by decide) ?_
  refine x_aload_n C dL_schedule_3 rfl 0 rfl ?_
  refine x_iload_n C dL_schedule_4 rfl 1 rfl ?_
  refine x_iload_n C dL_schedule_5 rfl 2 rfl ?_
  refine x_iload_n C dL_schedule_6 rfl 3 rfl ?_
  obtain ⟨u1, hu1, hf⟩ := x_b hf
  refine x_xcallV (n := 3) (As := [.int x1, .int x2, .int x3]) (rest := [.int (0 : Int32), .ref w]) C (c_X9_schedule g l hl a b y z v c e h t vs cs es x1 x2 x3 hu1) ⟨⟨wd_1066, wd_1063, wd_65⟩, ⟨by decide, by decide, by decide⟩, rfl, rfl, Nat.le_of_ble_eq_true rfl, Nat.le_of_ble_eq_true rfl⟩ wd_1064 wd_1065 ⟨0, 10, _, _, rfl, rfl, rfl⟩ [loW g w lo] (x_pickD [0, 1, 2, 3, 4, 5, 6, 7, 8, 9] 10 rfl rfl rfl) rfl rfl (Nat.le_of_ble_eq_true rfl) ⟨Nat.le_of_ble_eq_true rfl, Nat.le_of_ble_eq_true rfl⟩ dL_schedule_7 (fun E9 w9 hX9 => ?_) (fun v9 w9 hQ9 => ?_)
  · obtain ⟨k9, hk9, rfl, rfl⟩ := hX9
    have hf := x_sl hk9 hf
    refine x_goX (wss2 := [ccO g a b y z, stO g a 10 v, cdW g a 10 c, evW g a 10 u1.2.1, hiO g a u1.2.2.1, hrW g a t, stF g a u1.2.2.2.1, cdF g a u1.2.2.2.2.1, evF g a u1.2.2.2.2.2, loW g w lo]) rfl rfl ?_
    by_cases e3 : k9 = 0
    · subst e3
      have hf := x_t rfl hf
      refine x_catch (E := "java/lang/IllegalArgumentException") C hT 0 rfl ⟨by decide, by decide⟩ (by decide) wd_886 (by decide) (fun x hx => by cases hx) (fun q9 => ?_)
      refine x_astore (lv' := [(5, .ref q9), (0, .ref (a 0)), (1, .int x1), (2, .int x2), (3, .int x3), (4, .ref w)]) C dL_schedule_15 (by decide) rfl ?_
      refine x_iconst (v := 1) C dL_schedule_17 (by decide) ?_
      refine x_widen (k := 1) (n := 6) (by omega) (by omega) ?_
      refine x_vx ?_
      exact x_iret C hr ⟨by cases hf; rfl, by cases hf; rfl⟩ dL_schedule_18
    · have hf := x_f e3 hf
      by_cases e4 : k9 = 2
      · subst e4
        have hf := x_t rfl hf
        refine x_catch (E := "java/lang/IndexOutOfBoundsException") C hT 1 rfl ⟨by decide, by decide⟩ (by decide) wd_987 (by decide) (fun x hx => by
            simp only [List.take, List.mem_cons, List.not_mem_nil, or_false] at hx
            rcases hx with rfl
            · exact ⟨"java/lang/IllegalArgumentException", by decide, wd_886, by decide⟩) (fun q9 => ?_)
        refine x_astore (lv' := [(5, .ref q9), (0, .ref (a 0)), (1, .int x1), (2, .int x2), (3, .int x3), (4, .ref w)]) C dL_schedule_19 (by decide) rfl ?_
        refine x_iconst (v := 2) C dL_schedule_21 (by decide) ?_
        refine x_widen (k := 1) (n := 6) (by omega) (by omega) ?_
        refine x_vx ?_
        exact x_iret C hr ⟨by cases hf; rfl, by cases hf; rfl⟩ dL_schedule_22
      · have hf := x_f e4 hf
        by_cases e5 : k9 = 1
        · subst e5
          have hf := x_t rfl hf
          refine x_catch (E := "java/lang/IllegalStateException") C hT 2 rfl ⟨by decide, by decide⟩ (by decide) wd_887 (by decide) (fun x hx => by
              simp only [List.take, List.mem_cons, List.not_mem_nil, or_false] at hx
              rcases hx with rfl | rfl
              · exact ⟨"java/lang/IllegalArgumentException", by decide, wd_886, by decide⟩
              · exact ⟨"java/lang/IndexOutOfBoundsException", by decide, wd_987, by decide⟩) (fun q9 => ?_)
          refine x_astore (lv' := [(5, .ref q9), (0, .ref (a 0)), (1, .int x1), (2, .int x2), (3, .int x3), (4, .ref w)]) C dL_schedule_23 (by decide) rfl ?_
          refine x_iconst (v := 3) C dL_schedule_25 (by decide) ?_
          refine x_widen (k := 1) (n := 6) (by omega) (by omega) ?_
          refine x_vx ?_
          exact x_iret C hr ⟨by cases hf; rfl, by cases hf; rfl⟩ dL_schedule_26
        · have hf := x_f e5 hf
          cases hf
  · obtain ⟨r2, hr9, rfl, rfl⟩ := hQ9
    have hf := x_sr hr9 hf
    refine x_goW (wss2 := [ccO g a b y z, stO g a 10 v, cdW g a 10 c, evW g a 10 u1.2.1, hiO g a u1.2.2.1, hrW g a t, stF g a u1.2.2.2.1, cdF g a u1.2.2.2.2.1, evF g a u1.2.2.2.2.2, loW g w lo]) (stk2 := [.int r2, .int (0 : Int32), .ref w]) rfl rfl rfl ?_
    refine x_i2l C dL_schedule_10 rfl ?_
    obtain ⟨h6, hf⟩ := x_n hf
    refine x_last (b := loW g w lo) (b' := loW g w (vp_updL lo (0 : Int32).toNatClampNeg r2.toInt64)) (wss' := [ccO g a b y z, stO g a 10 v, cdW g a 10 c, evW g a 10 u1.2.1, hiO g a u1.2.2.1, hrW g a t, stF g a u1.2.2.2.1, cdF g a u1.2.2.2.2.1, evF g a u1.2.2.2.2.2, loW g w (vp_updL lo (0 : Int32).toNatClampNeg r2.toInt64)]) C 9 rfl 0 (loW_at0 g w _) h6 rfl rfl dL_schedule_11 ?_
    refine x_goto (tgt := 27) C dL_schedule_12 (by decide) ?_
    refine x_iconst (v := 0) C dL_schedule_27 (by decide) ?_
    refine x_widen (k := 1) (n := 6) (Nat.le_of_ble_eq_true rfl) (Nat.le_of_ble_eq_true rfl) ?_
    refine x_vx ?_
    exact x_iret C hr ⟨by cases hf; rfl, by cases hf; rfl⟩ dL_schedule_28
theorem wd_1085 : Cond.methodLink RL 39 yX9_unschedule ∈ xTB := xTB_in 1085 (by decide +kernel) (by decide +kernel)
theorem wd_1086 : Cond.instanceMethod yX9_unschedule ∈ xTB := xTB_in 1086 (by decide +kernel) (by decide +kernel)
theorem wd_1087 : Cond.selects yX9_unschedule.cls yX9_unschedule yX9_unschedule ∈ xTB := xTB_in 1087 (by decide +kernel) (by decide +kernel)
theorem wd_1088 : Cond.code yX9_unschedule cX9_unschedule 2 (some .int) ∈ xTB := xTB_in 1088 (by decide +kernel) (by decide +kernel)
theorem dL_unschedule_0 : decode cL_unschedule 0 = .ok (.aload_n 2, 1) := by decide +kernel
theorem dL_unschedule_1 : decode cL_unschedule 1 = .ok (.iconst 0, 1) := by decide +kernel
theorem dL_unschedule_2 : decode cL_unschedule 2 = .ok (.aload_n 0, 1) := by decide +kernel
theorem dL_unschedule_3 : decode cL_unschedule 3 = .ok (.iload_n 1, 1) := by decide +kernel
theorem dL_unschedule_4 : decode cL_unschedule 4 = .ok (.invokevirtual 39, 3) := by decide +kernel
theorem dL_unschedule_7 : decode cL_unschedule 7 = .ok (.i2l, 1) := by decide +kernel
theorem dL_unschedule_8 : decode cL_unschedule 8 = .ok (.lastore, 1) := by decide +kernel
theorem dL_unschedule_9 : decode cL_unschedule 9 = .ok (.goto 6, 3) := by decide +kernel
theorem dL_unschedule_12 : decode cL_unschedule 12 = .ok (.astore_n 3, 1) := by decide +kernel
theorem dL_unschedule_13 : decode cL_unschedule 13 = .ok (.iconst 1, 1) := by decide +kernel
theorem dL_unschedule_14 : decode cL_unschedule 14 = .ok (.ireturn, 1) := by decide +kernel
theorem dL_unschedule_15 : decode cL_unschedule 15 = .ok (.iconst 0, 1) := by decide +kernel
theorem dL_unschedule_16 : decode cL_unschedule 16 = .ok (.ireturn, 1) := by decide +kernel
set_option maxHeartbeats 4000000 in
set_option maxRecDepth 100000 in
theorem c_L_unschedule (g : xG) (l : Launch) (hl : l.stackTraces = false) (a : Nat → Nat) (b : Nat → Nat) (y : Nat) (w : Nat) (z : CcT) (v : StS) (c : CdT) (e : EvT) (h : HiT) (t : Unit) (vs : (Nat → StS)) (cs : (Nat → CdT)) (es : (Nat → EvT)) (lo : (Nat → Int64)) (x1 : Int32) {u : Int32 × EvT × HiT × (Nat → StS) × (Nat → CdT) × (Nat → EvT) × (Nat → Int64)} (hf : f_L_unschedule z v c e h t vs cs es lo x1 = some u) : ConH g l yL_unschedule cL_unschedule 4 (some .int) [(0, 9, 12, 21)] ({ frames := 8, cells := 1, slots := 6, locals := 132 } : Room) [.ref (a 0), .int x1, .ref w] ([ccO g a b y z, stO g a 10 v, cdW g a 10 c, evW g a 10 e, hiO g a h, hrW g a t, stF g a vs, cdF g a cs, evF g a es, loW g w lo] : List va_W).flatten (fun v9 w9 => v9 = some (.int u.1) ∧ w9 = ([ccO g a b y z, stO g a 10 v, cdW g a 10 c, evW g a 10 u.2.1, hiO g a u.2.2.1, hrW g a t, stF g a u.2.2.2.1, cdF g a u.2.2.2.2.1, evF g a u.2.2.2.2.2.1, loW g w u.2.2.2.2.2.2] : List va_W).flatten) 1 6 := by
  unfold f_L_unschedule at hf
  refine ConH_of [ccO g a b y z, stO g a 10 v, cdW g a 10 c, evW g a 10 e, hiO g a h, hrW g a t, stF g a vs, cdF g a cs, evF g a es, loW g w lo] [(0, .ref (a 0)), (1, .int x1), (2, .ref w)] rfl rfl (by decide) (Nat.le_of_ble_eq_true rfl) ?_
  intro pW eW sW mW argsW belowW methW c9 C hr hT
  have C : CX g RL cL_unschedule 4 _ pW sW mW argsW methW c9 := C
  refine x_aload_n C dL_unschedule_0 rfl 2 rfl ?_
  refine x_iconst (v := 0) C dL_unschedule_1 (by decide) ?_
  refine x_aload_n C dL_unschedule_2 rfl 0 rfl ?_
  refine x_iload_n C dL_unschedule_3 rfl 1 rfl ?_
  obtain ⟨u1, hu1, hf⟩ := x_b hf
  refine x_xcallV (n := 1) (As := [.int x1]) (rest := [.int (0 : Int32), .ref w]) C (c_X9_unschedule g l hl a b y z v c e h t vs cs es x1 hu1) ⟨⟨wd_1088, wd_1085, wd_65⟩, ⟨by decide, by decide, by decide⟩, rfl, rfl, Nat.le_of_ble_eq_true rfl, Nat.le_of_ble_eq_true rfl⟩ wd_1086 wd_1087 ⟨0, 10, _, _, rfl, rfl, rfl⟩ [loW g w lo] (x_pickD [0, 1, 2, 3, 4, 5, 6, 7, 8, 9] 10 rfl rfl rfl) rfl rfl (Nat.le_of_ble_eq_true rfl) ⟨Nat.le_of_ble_eq_true rfl, Nat.le_of_ble_eq_true rfl⟩ dL_unschedule_4 (fun E9 w9 hX9 => ?_) (fun v9 w9 hQ9 => ?_)
  · obtain ⟨k9, hk9, rfl, rfl⟩ := hX9
    have hf := x_sl hk9 hf
    refine x_goX (wss2 := [ccO g a b y z, stO g a 10 v, cdW g a 10 c, evW g a 10 u1.2.1, hiO g a u1.2.2.1, hrW g a t, stF g a u1.2.2.2.1, cdF g a u1.2.2.2.2.1, evF g a u1.2.2.2.2.2, loW g w lo]) rfl rfl ?_
    by_cases e3 : k9 = 2
    · subst e3
      have hf := x_t rfl hf
      refine x_catch (E := "java/lang/IndexOutOfBoundsException") C hT 0 rfl ⟨by decide, by decide⟩ (by decide) wd_987 (by decide) (fun x hx => by cases hx) (fun q9 => ?_)
      refine x_astore_n (lv' := [(3, .ref q9), (0, .ref (a 0)), (1, .int x1), (2, .ref w)]) C dL_unschedule_12 rfl (by decide) rfl ?_
      refine x_iconst (v := 1) C dL_unschedule_13 (by decide) ?_
      refine x_widen (k := 1) (n := 6) (by omega) (by omega) ?_
      refine x_vx ?_
      exact x_iret C hr ⟨by cases hf; rfl, by cases hf; rfl⟩ dL_unschedule_14
    · have hf := x_f e3 hf
      cases hf
  · obtain ⟨r2, hr9, rfl, rfl⟩ := hQ9
    have hf := x_sr hr9 hf
    refine x_goW (wss2 := [ccO g a b y z, stO g a 10 v, cdW g a 10 c, evW g a 10 u1.2.1, hiO g a u1.2.2.1, hrW g a t, stF g a u1.2.2.2.1, cdF g a u1.2.2.2.2.1, evF g a u1.2.2.2.2.2, loW g w lo]) (stk2 := [.int r2, .int (0 : Int32), .ref w]) rfl rfl rfl ?_
    refine x_i2l C dL_unschedule_7 rfl ?_
    obtain ⟨h4, hf⟩ := x_n hf
    refine x_last (b := loW g w lo) (b' := loW g w (vp_updL lo (0 : Int32).toNatClampNeg r2.toInt64)) (wss' := [ccO g a b y z, stO g a 10 v, cdW g a 10 c, evW g a 10 u1.2.1, hiO g a u1.2.2.1, hrW g a t, stF g a u1.2.2.2.1, cdF g a u1.2.2.2.2.1, evF g a u1.2.2.2.2.2, loW g w (vp_updL lo (0 : Int32).toNatClampNeg r2.toInt64)]) C 9 rfl 0 (loW_at0 g w _) h4 rfl rfl dL_unschedule_8 ?_
    refine x_goto (tgt := 15) C dL_unschedule_9 (by decide) ?_
    refine x_iconst (v := 0) C dL_unschedule_15 (by decide) ?_
    refine x_widen (k := 1) (n := 6) (Nat.le_of_ble_eq_true rfl) (Nat.le_of_ble_eq_true rfl) ?_
    refine x_vx ?_
    exact x_iret C hr ⟨by cases hf; rfl, by cases hf; rfl⟩ dL_unschedule_16
theorem wd_1099 : Cond.methodLink RL 42 yX9_pass ∈ xTB := xTB_in 1099 (by decide +kernel) (by decide +kernel)
theorem wd_1100 : Cond.instanceMethod yX9_pass ∈ xTB := xTB_in 1100 (by decide +kernel) (by decide +kernel)
theorem wd_1101 : Cond.selects yX9_pass.cls yX9_pass yX9_pass ∈ xTB := xTB_in 1101 (by decide +kernel) (by decide +kernel)
theorem wd_1102 : Cond.code yX9_pass cX9_pass 2 (some .int) ∈ xTB := xTB_in 1102 (by decide +kernel) (by decide +kernel)
theorem dL_pass_0 : decode cL_pass 0 = .ok (.aload_n 2, 1) := by decide +kernel
theorem dL_pass_1 : decode cL_pass 1 = .ok (.iconst 0, 1) := by decide +kernel
theorem dL_pass_2 : decode cL_pass 2 = .ok (.aload_n 0, 1) := by decide +kernel
theorem dL_pass_3 : decode cL_pass 3 = .ok (.iload_n 1, 1) := by decide +kernel
theorem dL_pass_4 : decode cL_pass 4 = .ok (.invokevirtual 42, 3) := by decide +kernel
theorem dL_pass_7 : decode cL_pass 7 = .ok (.i2l, 1) := by decide +kernel
theorem dL_pass_8 : decode cL_pass 8 = .ok (.lastore, 1) := by decide +kernel
theorem dL_pass_9 : decode cL_pass 9 = .ok (.goto 6, 3) := by decide +kernel
theorem dL_pass_12 : decode cL_pass 12 = .ok (.astore_n 3, 1) := by decide +kernel
theorem dL_pass_13 : decode cL_pass 13 = .ok (.iconst 1, 1) := by decide +kernel
theorem dL_pass_14 : decode cL_pass 14 = .ok (.ireturn, 1) := by decide +kernel
theorem dL_pass_15 : decode cL_pass 15 = .ok (.iconst 0, 1) := by decide +kernel
theorem dL_pass_16 : decode cL_pass 16 = .ok (.ireturn, 1) := by decide +kernel
set_option maxHeartbeats 4000000 in
set_option maxRecDepth 100000 in
theorem c_L_pass (g : xG) (l : Launch) (hl : l.stackTraces = false) (a : Nat → Nat) (b : Nat → Nat) (y : Nat) (w : Nat) (z : CcT) (v : StS) (c : CdT) (e : EvT) (h : HiT) (t : Unit) (vs : (Nat → StS)) (cs : (Nat → CdT)) (es : (Nat → EvT)) (lo : (Nat → Int64)) (x1 : Int32) {u : Int32 × StS × CdT × EvT × HiT × (Nat → StS) × (Nat → CdT) × (Nat → EvT) × (Nat → Int64)} (hf : f_L_pass z v c e h t vs cs es lo x1 = some u) : ConH g l yL_pass cL_pass 4 (some .int) [(0, 9, 12, 13)] ({ frames := 8, cells := 1, slots := 6, locals := 131 } : Room) [.ref (a 0), .int x1, .ref w] ([ccO g a b y z, stO g a 10 v, cdW g a 10 c, evW g a 10 e, hiO g a h, hrW g a t, stF g a vs, cdF g a cs, evF g a es, loW g w lo] : List va_W).flatten (fun v9 w9 => v9 = some (.int u.1) ∧ w9 = ([ccO g a b y z, stO g a 10 u.2.1, cdW g a 10 u.2.2.1, evW g a 10 u.2.2.2.1, hiO g a u.2.2.2.2.1, hrW g a t, stF g a u.2.2.2.2.2.1, cdF g a u.2.2.2.2.2.2.1, evF g a u.2.2.2.2.2.2.2.1, loW g w u.2.2.2.2.2.2.2.2] : List va_W).flatten) 1 6 := by
  unfold f_L_pass at hf
  refine ConH_of [ccO g a b y z, stO g a 10 v, cdW g a 10 c, evW g a 10 e, hiO g a h, hrW g a t, stF g a vs, cdF g a cs, evF g a es, loW g w lo] [(0, .ref (a 0)), (1, .int x1), (2, .ref w)] rfl rfl (by decide) (Nat.le_of_ble_eq_true rfl) ?_
  intro pW eW sW mW argsW belowW methW c9 C hr hT
  have C : CX g RL cL_pass 4 _ pW sW mW argsW methW c9 := C
  refine x_aload_n C dL_pass_0 rfl 2 rfl ?_
  refine x_iconst (v := 0) C dL_pass_1 (by decide) ?_
  refine x_aload_n C dL_pass_2 rfl 0 rfl ?_
  refine x_iload_n C dL_pass_3 rfl 1 rfl ?_
  obtain ⟨u1, hu1, hf⟩ := x_b hf
  refine x_xcallV (n := 1) (As := [.int x1]) (rest := [.int (0 : Int32), .ref w]) C (c_X9_pass g l hl a b y z v c e h t vs cs es x1 hu1) ⟨⟨wd_1102, wd_1099, wd_65⟩, ⟨by decide, by decide, by decide⟩, rfl, rfl, Nat.le_of_ble_eq_true rfl, Nat.le_of_ble_eq_true rfl⟩ wd_1100 wd_1101 ⟨0, 10, _, _, rfl, rfl, rfl⟩ [loW g w lo] (x_pickD [0, 1, 2, 3, 4, 5, 6, 7, 8, 9] 10 rfl rfl rfl) rfl rfl (Nat.le_of_ble_eq_true rfl) ⟨Nat.le_of_ble_eq_true rfl, Nat.le_of_ble_eq_true rfl⟩ dL_pass_4 (fun E9 w9 hX9 => ?_) (fun v9 w9 hQ9 => ?_)
  · obtain ⟨k9, hk9, rfl, rfl⟩ := hX9
    have hf := x_sl hk9 hf
    refine x_goX (wss2 := [ccO g a b y z, stO g a 10 u1.2.1, cdW g a 10 u1.2.2.1, evW g a 10 u1.2.2.2.1, hiO g a u1.2.2.2.2.1, hrW g a t, stF g a u1.2.2.2.2.2.1, cdF g a u1.2.2.2.2.2.2.1, evF g a u1.2.2.2.2.2.2.2, loW g w lo]) rfl rfl ?_
    by_cases e3 : k9 = 0
    · subst e3
      have hf := x_t rfl hf
      refine x_catch (E := "java/lang/IllegalArgumentException") C hT 0 rfl ⟨by decide, by decide⟩ (by decide) wd_886 (by decide) (fun x hx => by cases hx) (fun q9 => ?_)
      refine x_astore_n (lv' := [(3, .ref q9), (0, .ref (a 0)), (1, .int x1), (2, .ref w)]) C dL_pass_12 rfl (by decide) rfl ?_
      refine x_iconst (v := 1) C dL_pass_13 (by decide) ?_
      refine x_widen (k := 1) (n := 6) (by omega) (by omega) ?_
      refine x_vx ?_
      exact x_iret C hr ⟨by cases hf; rfl, by cases hf; rfl⟩ dL_pass_14
    · have hf := x_f e3 hf
      cases hf
  · obtain ⟨r2, hr9, rfl, rfl⟩ := hQ9
    have hf := x_sr hr9 hf
    refine x_goW (wss2 := [ccO g a b y z, stO g a 10 u1.2.1, cdW g a 10 u1.2.2.1, evW g a 10 u1.2.2.2.1, hiO g a u1.2.2.2.2.1, hrW g a t, stF g a u1.2.2.2.2.2.1, cdF g a u1.2.2.2.2.2.2.1, evF g a u1.2.2.2.2.2.2.2, loW g w lo]) (stk2 := [.int r2, .int (0 : Int32), .ref w]) rfl rfl rfl ?_
    refine x_i2l C dL_pass_7 rfl ?_
    obtain ⟨h4, hf⟩ := x_n hf
    refine x_last (b := loW g w lo) (b' := loW g w (vp_updL lo (0 : Int32).toNatClampNeg r2.toInt64)) (wss' := [ccO g a b y z, stO g a 10 u1.2.1, cdW g a 10 u1.2.2.1, evW g a 10 u1.2.2.2.1, hiO g a u1.2.2.2.2.1, hrW g a t, stF g a u1.2.2.2.2.2.1, cdF g a u1.2.2.2.2.2.2.1, evF g a u1.2.2.2.2.2.2.2, loW g w (vp_updL lo (0 : Int32).toNatClampNeg r2.toInt64)]) C 9 rfl 0 (loW_at0 g w _) h4 rfl rfl dL_pass_8 ?_
    refine x_goto (tgt := 15) C dL_pass_9 (by decide) ?_
    refine x_iconst (v := 0) C dL_pass_15 (by decide) ?_
    refine x_widen (k := 1) (n := 6) (Nat.le_of_ble_eq_true rfl) (Nat.le_of_ble_eq_true rfl) ?_
    refine x_vx ?_
    exact x_iret C hr ⟨by cases hf; rfl, by cases hf; rfl⟩ dL_pass_16
theorem wd_1114 : Cond.methodLink RL 45 yX9_voice ∈ xTB := xTB_in 1114 (by decide +kernel) (by decide +kernel)
theorem wd_1115 : Cond.instanceMethod yX9_voice ∈ xTB := xTB_in 1115 (by decide +kernel) (by decide +kernel)
theorem wd_1116 : Cond.selects yX9_voice.cls yX9_voice yX9_voice ∈ xTB := xTB_in 1116 (by decide +kernel) (by decide +kernel)
theorem wd_1117 : Cond.code yX9_voice cX9_voice 2 (some .char) ∈ xTB := xTB_in 1117 (by decide +kernel) (by decide +kernel)
theorem dL_voice_0 : decode cL_voice 0 = .ok (.aload_n 2, 1) := by decide +kernel
theorem dL_voice_1 : decode cL_voice 1 = .ok (.iconst 0, 1) := by decide +kernel
theorem dL_voice_2 : decode cL_voice 2 = .ok (.aload_n 0, 1) := by decide +kernel
theorem dL_voice_3 : decode cL_voice 3 = .ok (.iload_n 1, 1) := by decide +kernel
theorem dL_voice_4 : decode cL_voice 4 = .ok (.invokevirtual 45, 3) := by decide +kernel
theorem dL_voice_7 : decode cL_voice 7 = .ok (.i2l, 1) := by decide +kernel
theorem dL_voice_8 : decode cL_voice 8 = .ok (.lastore, 1) := by decide +kernel
theorem dL_voice_9 : decode cL_voice 9 = .ok (.goto 6, 3) := by decide +kernel
theorem dL_voice_12 : decode cL_voice 12 = .ok (.astore_n 3, 1) := by decide +kernel
theorem dL_voice_13 : decode cL_voice 13 = .ok (.iconst 1, 1) := by decide +kernel
theorem dL_voice_14 : decode cL_voice 14 = .ok (.ireturn, 1) := by decide +kernel
theorem dL_voice_15 : decode cL_voice 15 = .ok (.iconst 0, 1) := by decide +kernel
theorem dL_voice_16 : decode cL_voice 16 = .ok (.ireturn, 1) := by decide +kernel
set_option maxHeartbeats 4000000 in
set_option maxRecDepth 100000 in
theorem c_L_voice (g : xG) (l : Launch) (hl : l.stackTraces = false) (a : Nat → Nat) (b : Nat → Nat) (y : Nat) (w : Nat) (z : CcT) (v : StS) (c : CdT) (lo : (Nat → Int64)) (x1 : Int32) {u : Int32 × (Nat → Int64)} (hf : f_L_voice z v c lo x1 = some u) : ConH g l yL_voice cL_voice 4 (some .int) [(0, 9, 12, 21)] ({ frames := 8, cells := 1, slots := 6, locals := 132 } : Room) [.ref (a 0), .int x1, .ref w] ([ccO g a b y z, stO g a 10 v, cdW g a 10 c, loW g w lo] : List va_W).flatten (fun v9 w9 => v9 = some (.int u.1) ∧ w9 = ([ccO g a b y z, stO g a 10 v, cdW g a 10 c, loW g w u.2] : List va_W).flatten) 1 6 := by
  unfold f_L_voice at hf
  refine ConH_of [ccO g a b y z, stO g a 10 v, cdW g a 10 c, loW g w lo] [(0, .ref (a 0)), (1, .int x1), (2, .ref w)] rfl rfl (by decide) (Nat.le_of_ble_eq_true rfl) ?_
  intro pW eW sW mW argsW belowW methW c9 C hr hT
  have C : CX g RL cL_voice 4 _ pW sW mW argsW methW c9 := C
  refine x_aload_n C dL_voice_0 rfl 2 rfl ?_
  refine x_iconst (v := 0) C dL_voice_1 (by decide) ?_
  refine x_aload_n C dL_voice_2 rfl 0 rfl ?_
  refine x_iload_n C dL_voice_3 rfl 1 rfl ?_
  obtain ⟨u1, hu1, hf⟩ := x_b hf
  refine x_xcallV (n := 1) (As := [.int x1]) (rest := [.int (0 : Int32), .ref w]) C (c_X9_voice g l hl a b y z v c x1 hu1) ⟨⟨wd_1117, wd_1114, wd_65⟩, ⟨by decide, by decide, by decide⟩, rfl, rfl, Nat.le_of_ble_eq_true rfl, Nat.le_of_ble_eq_true rfl⟩ wd_1115 wd_1116 ⟨0, 10, _, _, rfl, rfl, rfl⟩ [loW g w lo] (x_pickD [0, 1, 2, 3] 4 rfl rfl rfl) rfl rfl (Nat.le_of_ble_eq_true rfl) ⟨Nat.le_of_ble_eq_true rfl, Nat.le_of_ble_eq_true rfl⟩ dL_voice_4 (fun E9 w9 hX9 => ?_) (fun v9 w9 hQ9 => ?_)
  · obtain ⟨k9, hk9, rfl, rfl⟩ := hX9
    have hf := x_sl hk9 hf
    refine x_goX (wss2 := [ccO g a b y z, stO g a 10 v, cdW g a 10 c, loW g w lo]) rfl rfl ?_
    by_cases e3 : k9 = 2
    · subst e3
      have hf := x_t rfl hf
      refine x_catch (E := "java/lang/IndexOutOfBoundsException") C hT 0 rfl ⟨by decide, by decide⟩ (by decide) wd_987 (by decide) (fun x hx => by cases hx) (fun q9 => ?_)
      refine x_astore_n (lv' := [(3, .ref q9), (0, .ref (a 0)), (1, .int x1), (2, .ref w)]) C dL_voice_12 rfl (by decide) rfl ?_
      refine x_iconst (v := 1) C dL_voice_13 (by decide) ?_
      refine x_widen (k := 1) (n := 6) (by omega) (by omega) ?_
      refine x_vx ?_
      exact x_iret C hr ⟨by cases hf; rfl, by cases hf; rfl⟩ dL_voice_14
    · have hf := x_f e3 hf
      cases hf
  · obtain ⟨r2, hr9, rfl, rfl⟩ := hQ9
    have hf := x_sr hr9 hf
    refine x_goW (wss2 := [ccO g a b y z, stO g a 10 v, cdW g a 10 c, loW g w lo]) (stk2 := [.int r2, .int (0 : Int32), .ref w]) rfl rfl rfl ?_
    refine x_i2l C dL_voice_7 rfl ?_
    obtain ⟨h4, hf⟩ := x_n hf
    refine x_last (b := loW g w lo) (b' := loW g w (vp_updL lo (0 : Int32).toNatClampNeg r2.toInt64)) (wss' := [ccO g a b y z, stO g a 10 v, cdW g a 10 c, loW g w (vp_updL lo (0 : Int32).toNatClampNeg r2.toInt64)]) C 3 rfl 0 (loW_at0 g w _) h4 rfl rfl dL_voice_8 ?_
    refine x_goto (tgt := 15) C dL_voice_9 (by decide) ?_
    refine x_iconst (v := 0) C dL_voice_15 (by decide) ?_
    refine x_widen (k := 1) (n := 6) (Nat.le_of_ble_eq_true rfl) (Nat.le_of_ble_eq_true rfl) ?_
    refine x_vx ?_
    exact x_iret C hr ⟨by cases hf; rfl, by cases hf; rfl⟩ dL_voice_16
theorem wd_1126 : Cond.methodLink RL 49 yX9_wax ∈ xTB := xTB_in 1126 (by decide +kernel) (by decide +kernel)
theorem wd_1127 : Cond.instanceMethod yX9_wax ∈ xTB := xTB_in 1127 (by decide +kernel) (by decide +kernel)
theorem wd_1128 : Cond.selects yX9_wax.cls yX9_wax yX9_wax ∈ xTB := xTB_in 1128 (by decide +kernel) (by decide +kernel)
theorem wd_1129 : Cond.code yX9_wax cX9_wax 2 (some .int) ∈ xTB := xTB_in 1129 (by decide +kernel) (by decide +kernel)
theorem dL_wax_0 : decode cL_wax 0 = .ok (.aload_n 2, 1) := by decide +kernel
theorem dL_wax_1 : decode cL_wax 1 = .ok (.iconst 0, 1) := by decide +kernel
theorem dL_wax_2 : decode cL_wax 2 = .ok (.aload_n 0, 1) := by decide +kernel
theorem dL_wax_3 : decode cL_wax 3 = .ok (.iload_n 1, 1) := by decide +kernel
theorem dL_wax_4 : decode cL_wax 4 = .ok (.invokevirtual 49, 3) := by decide +kernel
theorem dL_wax_7 : decode cL_wax 7 = .ok (.i2l, 1) := by decide +kernel
theorem dL_wax_8 : decode cL_wax 8 = .ok (.lastore, 1) := by decide +kernel
theorem dL_wax_9 : decode cL_wax 9 = .ok (.goto 6, 3) := by decide +kernel
theorem dL_wax_12 : decode cL_wax 12 = .ok (.astore_n 3, 1) := by decide +kernel
theorem dL_wax_13 : decode cL_wax 13 = .ok (.iconst 1, 1) := by decide +kernel
theorem dL_wax_14 : decode cL_wax 14 = .ok (.ireturn, 1) := by decide +kernel
theorem dL_wax_15 : decode cL_wax 15 = .ok (.iconst 0, 1) := by decide +kernel
theorem dL_wax_16 : decode cL_wax 16 = .ok (.ireturn, 1) := by decide +kernel
set_option maxHeartbeats 4000000 in
set_option maxRecDepth 100000 in
theorem c_L_wax (g : xG) (l : Launch) (hl : l.stackTraces = false) (a : Nat → Nat) (b : Nat → Nat) (y : Nat) (w : Nat) (z : CcT) (v : StS) (c : CdT) (lo : (Nat → Int64)) (x1 : Int32) {u : Int32 × (Nat → Int64)} (hf : f_L_wax z v c lo x1 = some u) : ConH g l yL_wax cL_wax 4 (some .int) [(0, 9, 12, 21)] ({ frames := 8, cells := 1, slots := 6, locals := 132 } : Room) [.ref (a 0), .int x1, .ref w] ([ccO g a b y z, stO g a 10 v, cdW g a 10 c, loW g w lo] : List va_W).flatten (fun v9 w9 => v9 = some (.int u.1) ∧ w9 = ([ccO g a b y z, stO g a 10 v, cdW g a 10 c, loW g w u.2] : List va_W).flatten) 1 6 := by
  unfold f_L_wax at hf
  refine ConH_of [ccO g a b y z, stO g a 10 v, cdW g a 10 c, loW g w lo] [(0, .ref (a 0)), (1, .int x1), (2, .ref w)] rfl rfl (by decide) (Nat.le_of_ble_eq_true rfl) ?_
  intro pW eW sW mW argsW belowW methW c9 C hr hT
  have C : CX g RL cL_wax 4 _ pW sW mW argsW methW c9 := C
  refine x_aload_n C dL_wax_0 rfl 2 rfl ?_
  refine x_iconst (v := 0) C dL_wax_1 (by decide) ?_
  refine x_aload_n C dL_wax_2 rfl 0 rfl ?_
  refine x_iload_n C dL_wax_3 rfl 1 rfl ?_
  obtain ⟨u1, hu1, hf⟩ := x_b hf
  refine x_xcallV (n := 1) (As := [.int x1]) (rest := [.int (0 : Int32), .ref w]) C (c_X9_wax g l hl a b y z v c x1 hu1) ⟨⟨wd_1129, wd_1126, wd_65⟩, ⟨by decide, by decide, by decide⟩, rfl, rfl, Nat.le_of_ble_eq_true rfl, Nat.le_of_ble_eq_true rfl⟩ wd_1127 wd_1128 ⟨0, 10, _, _, rfl, rfl, rfl⟩ [loW g w lo] (x_pickD [0, 1, 2, 3] 4 rfl rfl rfl) rfl rfl (Nat.le_of_ble_eq_true rfl) ⟨Nat.le_of_ble_eq_true rfl, Nat.le_of_ble_eq_true rfl⟩ dL_wax_4 (fun E9 w9 hX9 => ?_) (fun v9 w9 hQ9 => ?_)
  · obtain ⟨k9, hk9, rfl, rfl⟩ := hX9
    have hf := x_sl hk9 hf
    refine x_goX (wss2 := [ccO g a b y z, stO g a 10 v, cdW g a 10 c, loW g w lo]) rfl rfl ?_
    by_cases e3 : k9 = 2
    · subst e3
      have hf := x_t rfl hf
      refine x_catch (E := "java/lang/IndexOutOfBoundsException") C hT 0 rfl ⟨by decide, by decide⟩ (by decide) wd_987 (by decide) (fun x hx => by cases hx) (fun q9 => ?_)
      refine x_astore_n (lv' := [(3, .ref q9), (0, .ref (a 0)), (1, .int x1), (2, .ref w)]) C dL_wax_12 rfl (by decide) rfl ?_
      refine x_iconst (v := 1) C dL_wax_13 (by decide) ?_
      refine x_widen (k := 1) (n := 6) (by omega) (by omega) ?_
      refine x_vx ?_
      exact x_iret C hr ⟨by cases hf; rfl, by cases hf; rfl⟩ dL_wax_14
    · have hf := x_f e3 hf
      cases hf
  · obtain ⟨r2, hr9, rfl, rfl⟩ := hQ9
    have hf := x_sr hr9 hf
    refine x_goW (wss2 := [ccO g a b y z, stO g a 10 v, cdW g a 10 c, loW g w lo]) (stk2 := [.int r2, .int (0 : Int32), .ref w]) rfl rfl rfl ?_
    refine x_i2l C dL_wax_7 rfl ?_
    obtain ⟨h4, hf⟩ := x_n hf
    refine x_last (b := loW g w lo) (b' := loW g w (vp_updL lo (0 : Int32).toNatClampNeg r2.toInt64)) (wss' := [ccO g a b y z, stO g a 10 v, cdW g a 10 c, loW g w (vp_updL lo (0 : Int32).toNatClampNeg r2.toInt64)]) C 3 rfl 0 (loW_at0 g w _) h4 rfl rfl dL_wax_8 ?_
    refine x_goto (tgt := 15) C dL_wax_9 (by decide) ?_
    refine x_iconst (v := 0) C dL_wax_15 (by decide) ?_
    refine x_widen (k := 1) (n := 6) (Nat.le_of_ble_eq_true rfl) (Nat.le_of_ble_eq_true rfl) ?_
    refine x_vx ?_
    exact x_iret C hr ⟨by cases hf; rfl, by cases hf; rfl⟩ dL_wax_16
theorem wd_1133 : Cond.methodLink RL 52 yX9_consumption ∈ xTB := xTB_in 1133 (by decide +kernel) (by decide +kernel)
theorem wd_1134 : Cond.instanceMethod yX9_consumption ∈ xTB := xTB_in 1134 (by decide +kernel) (by decide +kernel)
theorem wd_1135 : Cond.selects yX9_consumption.cls yX9_consumption yX9_consumption ∈ xTB := xTB_in 1135 (by decide +kernel) (by decide +kernel)
theorem wd_1136 : Cond.code yX9_consumption cX9_consumption 2 (some .int) ∈ xTB := xTB_in 1136 (by decide +kernel) (by decide +kernel)
theorem dL_consumption_0 : decode cL_consumption 0 = .ok (.aload_n 2, 1) := by decide +kernel
theorem dL_consumption_1 : decode cL_consumption 1 = .ok (.iconst 0, 1) := by decide +kernel
theorem dL_consumption_2 : decode cL_consumption 2 = .ok (.aload_n 0, 1) := by decide +kernel
theorem dL_consumption_3 : decode cL_consumption 3 = .ok (.iload_n 1, 1) := by decide +kernel
theorem dL_consumption_4 : decode cL_consumption 4 = .ok (.invokevirtual 52, 3) := by decide +kernel
theorem dL_consumption_7 : decode cL_consumption 7 = .ok (.i2l, 1) := by decide +kernel
theorem dL_consumption_8 : decode cL_consumption 8 = .ok (.lastore, 1) := by decide +kernel
theorem dL_consumption_9 : decode cL_consumption 9 = .ok (.goto 6, 3) := by decide +kernel
theorem dL_consumption_12 : decode cL_consumption 12 = .ok (.astore_n 3, 1) := by decide +kernel
theorem dL_consumption_13 : decode cL_consumption 13 = .ok (.iconst 1, 1) := by decide +kernel
theorem dL_consumption_14 : decode cL_consumption 14 = .ok (.ireturn, 1) := by decide +kernel
theorem dL_consumption_15 : decode cL_consumption 15 = .ok (.iconst 0, 1) := by decide +kernel
theorem dL_consumption_16 : decode cL_consumption 16 = .ok (.ireturn, 1) := by decide +kernel
set_option maxHeartbeats 4000000 in
set_option maxRecDepth 100000 in
theorem c_L_consumption (g : xG) (l : Launch) (hl : l.stackTraces = false) (a : Nat → Nat) (b : Nat → Nat) (y : Nat) (w : Nat) (z : CcT) (v : StS) (c : CdT) (lo : (Nat → Int64)) (x1 : Int32) {u : Int32 × (Nat → Int64)} (hf : f_L_consumption z v c lo x1 = some u) : ConH g l yL_consumption cL_consumption 4 (some .int) [(0, 9, 12, 21)] ({ frames := 8, cells := 1, slots := 6, locals := 132 } : Room) [.ref (a 0), .int x1, .ref w] ([ccO g a b y z, stO g a 10 v, cdW g a 10 c, loW g w lo] : List va_W).flatten (fun v9 w9 => v9 = some (.int u.1) ∧ w9 = ([ccO g a b y z, stO g a 10 v, cdW g a 10 c, loW g w u.2] : List va_W).flatten) 1 6 := by
  unfold f_L_consumption at hf
  refine ConH_of [ccO g a b y z, stO g a 10 v, cdW g a 10 c, loW g w lo] [(0, .ref (a 0)), (1, .int x1), (2, .ref w)] rfl rfl (by decide) (Nat.le_of_ble_eq_true rfl) ?_
  intro pW eW sW mW argsW belowW methW c9 C hr hT
  have C : CX g RL cL_consumption 4 _ pW sW mW argsW methW c9 := C
  refine x_aload_n C dL_consumption_0 rfl 2 rfl ?_
  refine x_iconst (v := 0) C dL_consumption_1 (by decide) ?_
  refine x_aload_n C dL_consumption_2 rfl 0 rfl ?_
  refine x_iload_n C dL_consumption_3 rfl 1 rfl ?_
  obtain ⟨u1, hu1, hf⟩ := x_b hf
  refine x_xcallV (n := 1) (As := [.int x1]) (rest := [.int (0 : Int32), .ref w]) C (c_X9_consumption g l hl a b y z v c x1 hu1) ⟨⟨wd_1136, wd_1133, wd_65⟩, ⟨by decide, by decide, by decide⟩, rfl, rfl, Nat.le_of_ble_eq_true rfl, Nat.le_of_ble_eq_true rfl⟩ wd_1134 wd_1135 ⟨0, 10, _, _, rfl, rfl, rfl⟩ [loW g w lo] (x_pickD [0, 1, 2, 3] 4 rfl rfl rfl) rfl rfl (Nat.le_of_ble_eq_true rfl) ⟨Nat.le_of_ble_eq_true rfl, Nat.le_of_ble_eq_true rfl⟩ dL_consumption_4 (fun E9 w9 hX9 => ?_) (fun v9 w9 hQ9 => ?_)
  · obtain ⟨k9, hk9, rfl, rfl⟩ := hX9
    have hf := x_sl hk9 hf
    refine x_goX (wss2 := [ccO g a b y z, stO g a 10 v, cdW g a 10 c, loW g w lo]) rfl rfl ?_
    by_cases e3 : k9 = 2
    · subst e3
      have hf := x_t rfl hf
      refine x_catch (E := "java/lang/IndexOutOfBoundsException") C hT 0 rfl ⟨by decide, by decide⟩ (by decide) wd_987 (by decide) (fun x hx => by cases hx) (fun q9 => ?_)
      refine x_astore_n (lv' := [(3, .ref q9), (0, .ref (a 0)), (1, .int x1), (2, .ref w)]) C dL_consumption_12 rfl (by decide) rfl ?_
      refine x_iconst (v := 1) C dL_consumption_13 (by decide) ?_
      refine x_widen (k := 1) (n := 6) (by omega) (by omega) ?_
      refine x_vx ?_
      exact x_iret C hr ⟨by cases hf; rfl, by cases hf; rfl⟩ dL_consumption_14
    · have hf := x_f e3 hf
      cases hf
  · obtain ⟨r2, hr9, rfl, rfl⟩ := hQ9
    have hf := x_sr hr9 hf
    refine x_goW (wss2 := [ccO g a b y z, stO g a 10 v, cdW g a 10 c, loW g w lo]) (stk2 := [.int r2, .int (0 : Int32), .ref w]) rfl rfl rfl ?_
    refine x_i2l C dL_consumption_7 rfl ?_
    obtain ⟨h4, hf⟩ := x_n hf
    refine x_last (b := loW g w lo) (b' := loW g w (vp_updL lo (0 : Int32).toNatClampNeg r2.toInt64)) (wss' := [ccO g a b y z, stO g a 10 v, cdW g a 10 c, loW g w (vp_updL lo (0 : Int32).toNatClampNeg r2.toInt64)]) C 3 rfl 0 (loW_at0 g w _) h4 rfl rfl dL_consumption_8 ?_
    refine x_goto (tgt := 15) C dL_consumption_9 (by decide) ?_
    refine x_iconst (v := 0) C dL_consumption_15 (by decide) ?_
    refine x_widen (k := 1) (n := 6) (Nat.le_of_ble_eq_true rfl) (Nat.le_of_ble_eq_true rfl) ?_
    refine x_vx ?_
    exact x_iret C hr ⟨by cases hf; rfl, by cases hf; rfl⟩ dL_consumption_16
theorem wd_1141 : Cond.methodLink RL 55 yX9_isLit ∈ xTB := xTB_in 1141 (by decide +kernel) (by decide +kernel)
theorem wd_1142 : Cond.instanceMethod yX9_isLit ∈ xTB := xTB_in 1142 (by decide +kernel) (by decide +kernel)
theorem wd_1143 : Cond.selects yX9_isLit.cls yX9_isLit yX9_isLit ∈ xTB := xTB_in 1143 (by decide +kernel) (by decide +kernel)
theorem wd_1144 : Cond.code yX9_isLit cX9_isLit 2 (some .boolean) ∈ xTB := xTB_in 1144 (by decide +kernel) (by decide +kernel)
theorem dL_isLit_0 : decode cL_isLit 0 = .ok (.aload_n 2, 1) := by decide +kernel
theorem dL_isLit_1 : decode cL_isLit 1 = .ok (.iconst 0, 1) := by decide +kernel
theorem dL_isLit_2 : decode cL_isLit 2 = .ok (.aload_n 0, 1) := by decide +kernel
theorem dL_isLit_3 : decode cL_isLit 3 = .ok (.iload_n 1, 1) := by decide +kernel
theorem dL_isLit_4 : decode cL_isLit 4 = .ok (.invokevirtual 55, 3) := by decide +kernel
theorem dL_isLit_7 : decode cL_isLit 7 = .ok (.ifCond .eq 7, 3) := by decide +kernel
theorem dL_isLit_10 : decode cL_isLit 10 = .ok (.lconst 1, 1) := by decide +kernel
theorem dL_isLit_11 : decode cL_isLit 11 = .ok (.goto 4, 3) := by decide +kernel
theorem dL_isLit_14 : decode cL_isLit 14 = .ok (.lconst 0, 1) := by decide +kernel
theorem dL_isLit_15 : decode cL_isLit 15 = .ok (.lastore, 1) := by decide +kernel
theorem dL_isLit_16 : decode cL_isLit 16 = .ok (.goto 6, 3) := by decide +kernel
theorem dL_isLit_19 : decode cL_isLit 19 = .ok (.astore_n 3, 1) := by decide +kernel
theorem dL_isLit_20 : decode cL_isLit 20 = .ok (.iconst 1, 1) := by decide +kernel
theorem dL_isLit_21 : decode cL_isLit 21 = .ok (.ireturn, 1) := by decide +kernel
theorem dL_isLit_22 : decode cL_isLit 22 = .ok (.iconst 0, 1) := by decide +kernel
theorem dL_isLit_23 : decode cL_isLit 23 = .ok (.ireturn, 1) := by decide +kernel
set_option maxHeartbeats 4000000 in
set_option maxRecDepth 100000 in
theorem c_L_isLit (g : xG) (l : Launch) (hl : l.stackTraces = false) (a : Nat → Nat) (b : Nat → Nat) (y : Nat) (w : Nat) (z : CcT) (v : StS) (c : CdT) (lo : (Nat → Int64)) (x1 : Int32) {u : Int32 × (Nat → Int64)} (hf : f_L_isLit z v c lo x1 = some u) : ConH g l yL_isLit cL_isLit 4 (some .int) [(0, 16, 19, 21)] ({ frames := 8, cells := 1, slots := 6, locals := 132 } : Room) [.ref (a 0), .int x1, .ref w] ([ccO g a b y z, stO g a 10 v, cdW g a 10 c, loW g w lo] : List va_W).flatten (fun v9 w9 => v9 = some (.int u.1) ∧ w9 = ([ccO g a b y z, stO g a 10 v, cdW g a 10 c, loW g w u.2] : List va_W).flatten) 1 6 := by
  unfold f_L_isLit at hf
  refine ConH_of [ccO g a b y z, stO g a 10 v, cdW g a 10 c, loW g w lo] [(0, .ref (a 0)), (1, .int x1), (2, .ref w)] rfl rfl (by decide) (Nat.le_of_ble_eq_true rfl) ?_
  intro pW eW sW mW argsW belowW methW c9 C hr hT
  have C : CX g RL cL_isLit 4 _ pW sW mW argsW methW c9 := C
  refine x_aload_n C dL_isLit_0 rfl 2 rfl ?_
  refine x_iconst (v := 0) C dL_isLit_1 (by decide) ?_
  refine x_aload_n C dL_isLit_2 rfl 0 rfl ?_
  refine x_iload_n C dL_isLit_3 rfl 1 rfl ?_
  obtain ⟨u1, hu1, hf⟩ := x_b hf
  refine x_xcallV (n := 1) (As := [.int x1]) (rest := [.int (0 : Int32), .ref w]) C (c_X9_isLit g l hl a b y z v c x1 hu1) ⟨⟨wd_1144, wd_1141, wd_65⟩, ⟨by decide, by decide, by decide⟩, rfl, rfl, Nat.le_of_ble_eq_true rfl, Nat.le_of_ble_eq_true rfl⟩ wd_1142 wd_1143 ⟨0, 10, _, _, rfl, rfl, rfl⟩ [loW g w lo] (x_pickD [0, 1, 2, 3] 4 rfl rfl rfl) rfl rfl (Nat.le_of_ble_eq_true rfl) ⟨Nat.le_of_ble_eq_true rfl, Nat.le_of_ble_eq_true rfl⟩ dL_isLit_4 (fun E9 w9 hX9 => ?_) (fun v9 w9 hQ9 => ?_)
  · obtain ⟨k9, hk9, rfl, rfl⟩ := hX9
    have hf := x_sl hk9 hf
    refine x_goX (wss2 := [ccO g a b y z, stO g a 10 v, cdW g a 10 c, loW g w lo]) rfl rfl ?_
    by_cases e3 : k9 = 2
    · subst e3
      have hf := x_t rfl hf
      refine x_catch (E := "java/lang/IndexOutOfBoundsException") C hT 0 rfl ⟨by decide, by decide⟩ (by decide) wd_987 (by decide) (fun x hx => by cases hx) (fun q9 => ?_)
      refine x_astore_n (lv' := [(3, .ref q9), (0, .ref (a 0)), (1, .int x1), (2, .ref w)]) C dL_isLit_19 rfl (by decide) rfl ?_
      refine x_iconst (v := 1) C dL_isLit_20 (by decide) ?_
      refine x_widen (k := 1) (n := 6) (by omega) (by omega) ?_
      refine x_vx ?_
      exact x_iret C hr ⟨by cases hf; rfl, by cases hf; rfl⟩ dL_isLit_21
    · have hf := x_f e3 hf
      cases hf
  · obtain ⟨r2, hr9, rfl, rfl⟩ := hQ9
    have hf := x_sr hr9 hf
    refine x_goW (wss2 := [ccO g a b y z, stO g a 10 v, cdW g a 10 c, loW g w lo]) (stk2 := [.int r2, .int (0 : Int32), .ref w]) rfl rfl rfl ?_
    refine x_if_eq (tgt := 14) C dL_isLit_7 (by decide) (fun h4 => ?_) (fun h4 => ?_)
    · have hf := x_t h4 hf
      refine x_lconst (v := 0) C dL_isLit_14 (by decide) ?_
      obtain ⟨h5, hf⟩ := x_n hf
      refine x_last (b := loW g w lo) (b' := loW g w (vp_updL lo (0 : Int32).toNatClampNeg (0 : Int64))) (wss' := [ccO g a b y z, stO g a 10 v, cdW g a 10 c, loW g w (vp_updL lo (0 : Int32).toNatClampNeg (0 : Int64))]) C 3 rfl 0 (loW_at0 g w _) h5 rfl rfl dL_isLit_15 ?_
      refine x_goto (tgt := 22) C dL_isLit_16 (by decide) ?_
      refine x_iconst (v := 0) C dL_isLit_22 (by decide) ?_
      refine x_widen (k := 1) (n := 6) (Nat.le_of_ble_eq_true rfl) (Nat.le_of_ble_eq_true rfl) ?_
      refine x_vx ?_
      exact x_iret C hr ⟨by cases hf; rfl, by cases hf; rfl⟩ dL_isLit_23
    · have hf := x_f h4 hf
      refine x_lconst (v := 1) C dL_isLit_10 (by decide) ?_
      refine x_goto (tgt := 15) C dL_isLit_11 (by decide) ?_
      obtain ⟨h6, hf⟩ := x_n hf
      refine x_last (b := loW g w lo) (b' := loW g w (vp_updL lo (0 : Int32).toNatClampNeg (1 : Int64))) (wss' := [ccO g a b y z, stO g a 10 v, cdW g a 10 c, loW g w (vp_updL lo (0 : Int32).toNatClampNeg (1 : Int64))]) C 3 rfl 0 (loW_at0 g w _) h6 rfl rfl dL_isLit_15 ?_
      refine x_goto (tgt := 22) C dL_isLit_16 (by decide) ?_
      refine x_iconst (v := 0) C dL_isLit_22 (by decide) ?_
      refine x_widen (k := 1) (n := 6) (Nat.le_of_ble_eq_true rfl) (Nat.le_of_ble_eq_true rfl) ?_
      refine x_vx ?_
      exact x_iret C hr ⟨by cases hf; rfl, by cases hf; rfl⟩ dL_isLit_23
theorem wd_1148 : Cond.methodLink RL 59 yX9_sounding ∈ xTB := xTB_in 1148 (by decide +kernel) (by decide +kernel)
theorem wd_1149 : Cond.instanceMethod yX9_sounding ∈ xTB := xTB_in 1149 (by decide +kernel) (by decide +kernel)
theorem wd_1150 : Cond.selects yX9_sounding.cls yX9_sounding yX9_sounding ∈ xTB := xTB_in 1150 (by decide +kernel) (by decide +kernel)
theorem wd_1151 : Cond.code yX9_sounding cX9_sounding 2 (some .int) ∈ xTB := xTB_in 1151 (by decide +kernel) (by decide +kernel)
theorem dL_sounding_0 : decode cL_sounding 0 = .ok (.aload_n 2, 1) := by decide +kernel
theorem dL_sounding_1 : decode cL_sounding 1 = .ok (.iconst 0, 1) := by decide +kernel
theorem dL_sounding_2 : decode cL_sounding 2 = .ok (.aload_n 0, 1) := by decide +kernel
theorem dL_sounding_3 : decode cL_sounding 3 = .ok (.iload_n 1, 1) := by decide +kernel
theorem dL_sounding_4 : decode cL_sounding 4 = .ok (.invokevirtual 59, 3) := by decide +kernel
theorem dL_sounding_7 : decode cL_sounding 7 = .ok (.i2l, 1) := by decide +kernel
theorem dL_sounding_8 : decode cL_sounding 8 = .ok (.lastore, 1) := by decide +kernel
theorem dL_sounding_9 : decode cL_sounding 9 = .ok (.goto 6, 3) := by decide +kernel
theorem dL_sounding_12 : decode cL_sounding 12 = .ok (.astore_n 3, 1) := by decide +kernel
theorem dL_sounding_13 : decode cL_sounding 13 = .ok (.iconst 1, 1) := by decide +kernel
theorem dL_sounding_14 : decode cL_sounding 14 = .ok (.ireturn, 1) := by decide +kernel
theorem dL_sounding_15 : decode cL_sounding 15 = .ok (.iconst 0, 1) := by decide +kernel
theorem dL_sounding_16 : decode cL_sounding 16 = .ok (.ireturn, 1) := by decide +kernel
set_option maxHeartbeats 4000000 in
set_option maxRecDepth 100000 in
theorem c_L_sounding (g : xG) (l : Launch) (hl : l.stackTraces = false) (a : Nat → Nat) (b : Nat → Nat) (y : Nat) (w : Nat) (z : CcT) (v : StS) (c : CdT) (lo : (Nat → Int64)) (x1 : Int32) {u : Int32 × (Nat → Int64)} (hf : f_L_sounding z v c lo x1 = some u) : ConH g l yL_sounding cL_sounding 4 (some .int) [(0, 9, 12, 13)] ({ frames := 7, cells := 1, slots := 6, locals := 111 } : Room) [.ref (a 0), .int x1, .ref w] ([ccO g a b y z, stO g a 10 v, cdW g a 10 c, loW g w lo] : List va_W).flatten (fun v9 w9 => v9 = some (.int u.1) ∧ w9 = ([ccO g a b y z, stO g a 10 v, cdW g a 10 c, loW g w u.2] : List va_W).flatten) 1 6 := by
  unfold f_L_sounding at hf
  refine ConH_of [ccO g a b y z, stO g a 10 v, cdW g a 10 c, loW g w lo] [(0, .ref (a 0)), (1, .int x1), (2, .ref w)] rfl rfl (by decide) (Nat.le_of_ble_eq_true rfl) ?_
  intro pW eW sW mW argsW belowW methW c9 C hr hT
  have C : CX g RL cL_sounding 4 _ pW sW mW argsW methW c9 := C
  refine x_aload_n C dL_sounding_0 rfl 2 rfl ?_
  refine x_iconst (v := 0) C dL_sounding_1 (by decide) ?_
  refine x_aload_n C dL_sounding_2 rfl 0 rfl ?_
  refine x_iload_n C dL_sounding_3 rfl 1 rfl ?_
  obtain ⟨u1, hu1, hf⟩ := x_b hf
  refine x_xcallV (n := 1) (As := [.int x1]) (rest := [.int (0 : Int32), .ref w]) C (c_X9_sounding g l hl a b y z v c x1 hu1) ⟨⟨wd_1151, wd_1148, wd_65⟩, ⟨by decide, by decide, by decide⟩, rfl, rfl, Nat.le_of_ble_eq_true rfl, Nat.le_of_ble_eq_true rfl⟩ wd_1149 wd_1150 ⟨0, 10, _, _, rfl, rfl, rfl⟩ [loW g w lo] (x_pickD [0, 1, 2, 3] 4 rfl rfl rfl) rfl rfl (Nat.le_of_ble_eq_true rfl) ⟨Nat.le_of_ble_eq_true rfl, Nat.le_of_ble_eq_true rfl⟩ dL_sounding_4 (fun E9 w9 hX9 => ?_) (fun v9 w9 hQ9 => ?_)
  · obtain ⟨k9, hk9, rfl, rfl⟩ := hX9
    have hf := x_sl hk9 hf
    refine x_goX (wss2 := [ccO g a b y z, stO g a 10 v, cdW g a 10 c, loW g w lo]) rfl rfl ?_
    by_cases e3 : k9 = 0
    · subst e3
      have hf := x_t rfl hf
      refine x_catch (E := "java/lang/IllegalArgumentException") C hT 0 rfl ⟨by decide, by decide⟩ (by decide) wd_886 (by decide) (fun x hx => by cases hx) (fun q9 => ?_)
      refine x_astore_n (lv' := [(3, .ref q9), (0, .ref (a 0)), (1, .int x1), (2, .ref w)]) C dL_sounding_12 rfl (by decide) rfl ?_
      refine x_iconst (v := 1) C dL_sounding_13 (by decide) ?_
      refine x_widen (k := 1) (n := 6) (by omega) (by omega) ?_
      refine x_vx ?_
      exact x_iret C hr ⟨by cases hf; rfl, by cases hf; rfl⟩ dL_sounding_14
    · have hf := x_f e3 hf
      cases hf
  · obtain ⟨r2, hr9, rfl, rfl⟩ := hQ9
    have hf := x_sr hr9 hf
    refine x_goW (wss2 := [ccO g a b y z, stO g a 10 v, cdW g a 10 c, loW g w lo]) (stk2 := [.int r2, .int (0 : Int32), .ref w]) rfl rfl rfl ?_
    refine x_i2l C dL_sounding_7 rfl ?_
    obtain ⟨h4, hf⟩ := x_n hf
    refine x_last (b := loW g w lo) (b' := loW g w (vp_updL lo (0 : Int32).toNatClampNeg r2.toInt64)) (wss' := [ccO g a b y z, stO g a 10 v, cdW g a 10 c, loW g w (vp_updL lo (0 : Int32).toNatClampNeg r2.toInt64)]) C 3 rfl 0 (loW_at0 g w _) h4 rfl rfl dL_sounding_8 ?_
    refine x_goto (tgt := 15) C dL_sounding_9 (by decide) ?_
    refine x_iconst (v := 0) C dL_sounding_15 (by decide) ?_
    refine x_widen (k := 1) (n := 6) (Nat.le_of_ble_eq_true rfl) (Nat.le_of_ble_eq_true rfl) ?_
    refine x_vx ?_
    exact x_iret C hr ⟨by cases hf; rfl, by cases hf; rfl⟩ dL_sounding_16
theorem wd_1160 : Cond.methodLink RL 63 yX9_minutesLeft ∈ xTB := xTB_in 1160 (by decide +kernel) (by decide +kernel)
theorem wd_1161 : Cond.instanceMethod yX9_minutesLeft ∈ xTB := xTB_in 1161 (by decide +kernel) (by decide +kernel)
theorem wd_1162 : Cond.selects yX9_minutesLeft.cls yX9_minutesLeft yX9_minutesLeft ∈ xTB := xTB_in 1162 (by decide +kernel) (by decide +kernel)
theorem wd_1163 : Cond.code yX9_minutesLeft cX9_minutesLeft 2 (some .int) ∈ xTB := xTB_in 1163 (by decide +kernel) (by decide +kernel)
theorem dL_minutesLeft_0 : decode cL_minutesLeft 0 = .ok (.aload_n 2, 1) := by decide +kernel
theorem dL_minutesLeft_1 : decode cL_minutesLeft 1 = .ok (.iconst 0, 1) := by decide +kernel
theorem dL_minutesLeft_2 : decode cL_minutesLeft 2 = .ok (.aload_n 0, 1) := by decide +kernel
theorem dL_minutesLeft_3 : decode cL_minutesLeft 3 = .ok (.iload_n 1, 1) := by decide +kernel
theorem dL_minutesLeft_4 : decode cL_minutesLeft 4 = .ok (.invokevirtual 63, 3) := by decide +kernel
theorem dL_minutesLeft_7 : decode cL_minutesLeft 7 = .ok (.i2l, 1) := by decide +kernel
theorem dL_minutesLeft_8 : decode cL_minutesLeft 8 = .ok (.lastore, 1) := by decide +kernel
theorem dL_minutesLeft_9 : decode cL_minutesLeft 9 = .ok (.goto 6, 3) := by decide +kernel
theorem dL_minutesLeft_12 : decode cL_minutesLeft 12 = .ok (.astore_n 3, 1) := by decide +kernel
theorem dL_minutesLeft_13 : decode cL_minutesLeft 13 = .ok (.iconst 1, 1) := by decide +kernel
theorem dL_minutesLeft_14 : decode cL_minutesLeft 14 = .ok (.ireturn, 1) := by decide +kernel
theorem dL_minutesLeft_15 : decode cL_minutesLeft 15 = .ok (.iconst 0, 1) := by decide +kernel
theorem dL_minutesLeft_16 : decode cL_minutesLeft 16 = .ok (.ireturn, 1) := by decide +kernel
set_option maxHeartbeats 4000000 in
set_option maxRecDepth 100000 in
theorem c_L_minutesLeft (g : xG) (l : Launch) (hl : l.stackTraces = false) (a : Nat → Nat) (b : Nat → Nat) (y : Nat) (w : Nat) (z : CcT) (v : StS) (c : CdT) (lo : (Nat → Int64)) (x1 : Int32) {u : Int32 × (Nat → Int64)} (hf : f_L_minutesLeft z v c lo x1 = some u) : ConH g l yL_minutesLeft cL_minutesLeft 4 (some .int) [(0, 9, 12, 21)] ({ frames := 8, cells := 1, slots := 6, locals := 132 } : Room) [.ref (a 0), .int x1, .ref w] ([ccO g a b y z, stO g a 10 v, cdW g a 10 c, loW g w lo] : List va_W).flatten (fun v9 w9 => v9 = some (.int u.1) ∧ w9 = ([ccO g a b y z, stO g a 10 v, cdW g a 10 c, loW g w u.2] : List va_W).flatten) 1 6 := by
  unfold f_L_minutesLeft at hf
  refine ConH_of [ccO g a b y z, stO g a 10 v, cdW g a 10 c, loW g w lo] [(0, .ref (a 0)), (1, .int x1), (2, .ref w)] rfl rfl (by decide) (Nat.le_of_ble_eq_true rfl) ?_
  intro pW eW sW mW argsW belowW methW c9 C hr hT
  have C : CX g RL cL_minutesLeft 4 _ pW sW mW argsW methW c9 := C
  refine x_aload_n C dL_minutesLeft_0 rfl 2 rfl ?_
  refine x_iconst (v := 0) C dL_minutesLeft_1 (by decide) ?_
  refine x_aload_n C dL_minutesLeft_2 rfl 0 rfl ?_
  refine x_iload_n C dL_minutesLeft_3 rfl 1 rfl ?_
  obtain ⟨u1, hu1, hf⟩ := x_b hf
  refine x_xcallV (n := 1) (As := [.int x1]) (rest := [.int (0 : Int32), .ref w]) C (c_X9_minutesLeft g l hl a b y z v c x1 hu1) ⟨⟨wd_1163, wd_1160, wd_65⟩, ⟨by decide, by decide, by decide⟩, rfl, rfl, Nat.le_of_ble_eq_true rfl, Nat.le_of_ble_eq_true rfl⟩ wd_1161 wd_1162 ⟨0, 10, _, _, rfl, rfl, rfl⟩ [loW g w lo] (x_pickD [0, 1, 2, 3] 4 rfl rfl rfl) rfl rfl (Nat.le_of_ble_eq_true rfl) ⟨Nat.le_of_ble_eq_true rfl, Nat.le_of_ble_eq_true rfl⟩ dL_minutesLeft_4 (fun E9 w9 hX9 => ?_) (fun v9 w9 hQ9 => ?_)
  · obtain ⟨k9, hk9, rfl, rfl⟩ := hX9
    have hf := x_sl hk9 hf
    refine x_goX (wss2 := [ccO g a b y z, stO g a 10 v, cdW g a 10 c, loW g w lo]) rfl rfl ?_
    by_cases e3 : k9 = 2
    · subst e3
      have hf := x_t rfl hf
      refine x_catch (E := "java/lang/IndexOutOfBoundsException") C hT 0 rfl ⟨by decide, by decide⟩ (by decide) wd_987 (by decide) (fun x hx => by cases hx) (fun q9 => ?_)
      refine x_astore_n (lv' := [(3, .ref q9), (0, .ref (a 0)), (1, .int x1), (2, .ref w)]) C dL_minutesLeft_12 rfl (by decide) rfl ?_
      refine x_iconst (v := 1) C dL_minutesLeft_13 (by decide) ?_
      refine x_widen (k := 1) (n := 6) (by omega) (by omega) ?_
      refine x_vx ?_
      exact x_iret C hr ⟨by cases hf; rfl, by cases hf; rfl⟩ dL_minutesLeft_14
    · have hf := x_f e3 hf
      cases hf
  · obtain ⟨r2, hr9, rfl, rfl⟩ := hQ9
    have hf := x_sr hr9 hf
    refine x_goW (wss2 := [ccO g a b y z, stO g a 10 v, cdW g a 10 c, loW g w lo]) (stk2 := [.int r2, .int (0 : Int32), .ref w]) rfl rfl rfl ?_
    refine x_i2l C dL_minutesLeft_7 rfl ?_
    obtain ⟨h4, hf⟩ := x_n hf
    refine x_last (b := loW g w lo) (b' := loW g w (vp_updL lo (0 : Int32).toNatClampNeg r2.toInt64)) (wss' := [ccO g a b y z, stO g a 10 v, cdW g a 10 c, loW g w (vp_updL lo (0 : Int32).toNatClampNeg r2.toInt64)]) C 3 rfl 0 (loW_at0 g w _) h4 rfl rfl dL_minutesLeft_8 ?_
    refine x_goto (tgt := 15) C dL_minutesLeft_9 (by decide) ?_
    refine x_iconst (v := 0) C dL_minutesLeft_15 (by decide) ?_
    refine x_widen (k := 1) (n := 6) (Nat.le_of_ble_eq_true rfl) (Nat.le_of_ble_eq_true rfl) ?_
    refine x_vx ?_
    exact x_iret C hr ⟨by cases hf; rfl, by cases hf; rfl⟩ dL_minutesLeft_16
theorem wd_1167 : Cond.methodLink RL 66 yX9_minutesLeftByBurning ∈ xTB := xTB_in 1167 (by decide +kernel) (by decide +kernel)
theorem wd_1168 : Cond.instanceMethod yX9_minutesLeftByBurning ∈ xTB := xTB_in 1168 (by decide +kernel) (by decide +kernel)
theorem wd_1169 : Cond.selects yX9_minutesLeftByBurning.cls yX9_minutesLeftByBurning yX9_minutesLeftByBurning ∈ xTB := xTB_in 1169 (by decide +kernel) (by decide +kernel)
theorem wd_1170 : Cond.code yX9_minutesLeftByBurning cX9_minutesLeftByBurning 2 (some .int) ∈ xTB := xTB_in 1170 (by decide +kernel) (by decide +kernel)
theorem dL_minutesLeftByBurning_0 : decode cL_minutesLeftByBurning 0 = .ok (.aload_n 2, 1) := by decide +kernel
theorem dL_minutesLeftByBurning_1 : decode cL_minutesLeftByBurning 1 = .ok (.iconst 0, 1) := by decide +kernel
theorem dL_minutesLeftByBurning_2 : decode cL_minutesLeftByBurning 2 = .ok (.aload_n 0, 1) := by decide +kernel
theorem dL_minutesLeftByBurning_3 : decode cL_minutesLeftByBurning 3 = .ok (.iload_n 1, 1) := by decide +kernel
theorem dL_minutesLeftByBurning_4 : decode cL_minutesLeftByBurning 4 = .ok (.invokevirtual 66, 3) := by decide +kernel
theorem dL_minutesLeftByBurning_7 : decode cL_minutesLeftByBurning 7 = .ok (.i2l, 1) := by decide +kernel
theorem dL_minutesLeftByBurning_8 : decode cL_minutesLeftByBurning 8 = .ok (.lastore, 1) := by decide +kernel
theorem dL_minutesLeftByBurning_9 : decode cL_minutesLeftByBurning 9 = .ok (.goto 6, 3) := by decide +kernel
theorem dL_minutesLeftByBurning_12 : decode cL_minutesLeftByBurning 12 = .ok (.astore_n 3, 1) := by decide +kernel
theorem dL_minutesLeftByBurning_13 : decode cL_minutesLeftByBurning 13 = .ok (.iconst 1, 1) := by decide +kernel
theorem dL_minutesLeftByBurning_14 : decode cL_minutesLeftByBurning 14 = .ok (.ireturn, 1) := by decide +kernel
theorem dL_minutesLeftByBurning_15 : decode cL_minutesLeftByBurning 15 = .ok (.iconst 0, 1) := by decide +kernel
theorem dL_minutesLeftByBurning_16 : decode cL_minutesLeftByBurning 16 = .ok (.ireturn, 1) := by decide +kernel
set_option maxHeartbeats 4000000 in
set_option maxRecDepth 100000 in
theorem c_L_minutesLeftByBurning (g : xG) (l : Launch) (hl : l.stackTraces = false) (a : Nat → Nat) (b : Nat → Nat) (y : Nat) (w : Nat) (z : CcT) (v : StS) (c : CdT) (lo : (Nat → Int64)) (x1 : Int32) {u : Int32 × (Nat → Int64)} (hf : f_L_minutesLeftByBurning z v c lo x1 = some u) : ConH g l yL_minutesLeftByBurning cL_minutesLeftByBurning 4 (some .int) [(0, 9, 12, 21)] ({ frames := 8, cells := 1, slots := 6, locals := 132 } : Room) [.ref (a 0), .int x1, .ref w] ([ccO g a b y z, stO g a 10 v, cdW g a 10 c, loW g w lo] : List va_W).flatten (fun v9 w9 => v9 = some (.int u.1) ∧ w9 = ([ccO g a b y z, stO g a 10 v, cdW g a 10 c, loW g w u.2] : List va_W).flatten) 1 6 := by
  unfold f_L_minutesLeftByBurning at hf
  refine ConH_of [ccO g a b y z, stO g a 10 v, cdW g a 10 c, loW g w lo] [(0, .ref (a 0)), (1, .int x1), (2, .ref w)] rfl rfl (by decide) (Nat.le_of_ble_eq_true rfl) ?_
  intro pW eW sW mW argsW belowW methW c9 C hr hT
  have C : CX g RL cL_minutesLeftByBurning 4 _ pW sW mW argsW methW c9 := C
  refine x_aload_n C dL_minutesLeftByBurning_0 rfl 2 rfl ?_
  refine x_iconst (v := 0) C dL_minutesLeftByBurning_1 (by decide) ?_
  refine x_aload_n C dL_minutesLeftByBurning_2 rfl 0 rfl ?_
  refine x_iload_n C dL_minutesLeftByBurning_3 rfl 1 rfl ?_
  obtain ⟨u1, hu1, hf⟩ := x_b hf
  refine x_xcallV (n := 1) (As := [.int x1]) (rest := [.int (0 : Int32), .ref w]) C (c_X9_minutesLeftByBurning g l hl a b y z v c x1 hu1) ⟨⟨wd_1170, wd_1167, wd_65⟩, ⟨by decide, by decide, by decide⟩, rfl, rfl, Nat.le_of_ble_eq_true rfl, Nat.le_of_ble_eq_true rfl⟩ wd_1168 wd_1169 ⟨0, 10, _, _, rfl, rfl, rfl⟩ [loW g w lo] (x_pickD [0, 1, 2, 3] 4 rfl rfl rfl) rfl rfl (Nat.le_of_ble_eq_true rfl) ⟨Nat.le_of_ble_eq_true rfl, Nat.le_of_ble_eq_true rfl⟩ dL_minutesLeftByBurning_4 (fun E9 w9 hX9 => ?_) (fun v9 w9 hQ9 => ?_)
  · obtain ⟨k9, hk9, rfl, rfl⟩ := hX9
    have hf := x_sl hk9 hf
    refine x_goX (wss2 := [ccO g a b y z, stO g a 10 v, cdW g a 10 c, loW g w lo]) rfl rfl ?_
    by_cases e3 : k9 = 2
    · subst e3
      have hf := x_t rfl hf
      refine x_catch (E := "java/lang/IndexOutOfBoundsException") C hT 0 rfl ⟨by decide, by decide⟩ (by decide) wd_987 (by decide) (fun x hx => by cases hx) (fun q9 => ?_)
      refine x_astore_n (lv' := [(3, .ref q9), (0, .ref (a 0)), (1, .int x1), (2, .ref w)]) C dL_minutesLeftByBurning_12 rfl (by decide) rfl ?_
      refine x_iconst (v := 1) C dL_minutesLeftByBurning_13 (by decide) ?_
      refine x_widen (k := 1) (n := 6) (by omega) (by omega) ?_
      refine x_vx ?_
      exact x_iret C hr ⟨by cases hf; rfl, by cases hf; rfl⟩ dL_minutesLeftByBurning_14
    · have hf := x_f e3 hf
      cases hf
  · obtain ⟨r2, hr9, rfl, rfl⟩ := hQ9
    have hf := x_sr hr9 hf
    refine x_goW (wss2 := [ccO g a b y z, stO g a 10 v, cdW g a 10 c, loW g w lo]) (stk2 := [.int r2, .int (0 : Int32), .ref w]) rfl rfl rfl ?_
    refine x_i2l C dL_minutesLeftByBurning_7 rfl ?_
    obtain ⟨h4, hf⟩ := x_n hf
    refine x_last (b := loW g w lo) (b' := loW g w (vp_updL lo (0 : Int32).toNatClampNeg r2.toInt64)) (wss' := [ccO g a b y z, stO g a 10 v, cdW g a 10 c, loW g w (vp_updL lo (0 : Int32).toNatClampNeg r2.toInt64)]) C 3 rfl 0 (loW_at0 g w _) h4 rfl rfl dL_minutesLeftByBurning_8 ?_
    refine x_goto (tgt := 15) C dL_minutesLeftByBurning_9 (by decide) ?_
    refine x_iconst (v := 0) C dL_minutesLeftByBurning_15 (by decide) ?_
    refine x_widen (k := 1) (n := 6) (Nat.le_of_ble_eq_true rfl) (Nat.le_of_ble_eq_true rfl) ?_
    refine x_vx ?_
    exact x_iret C hr ⟨by cases hf; rfl, by cases hf; rfl⟩ dL_minutesLeftByBurning_16
theorem wd_1174 : Cond.classLink RL 72 "java/util/NoSuchElementException" ∈ xTB := xTB_in 1174 (by decide +kernel) (by decide +kernel)
theorem wd_1175 : Cond.methodLink RL 69 yX9_candleByWax ∈ xTB := xTB_in 1175 (by decide +kernel) (by decide +kernel)
theorem wd_1176 : Cond.instanceMethod yX9_candleByWax ∈ xTB := xTB_in 1176 (by decide +kernel) (by decide +kernel)
theorem wd_1177 : Cond.selects yX9_candleByWax.cls yX9_candleByWax yX9_candleByWax ∈ xTB := xTB_in 1177 (by decide +kernel) (by decide +kernel)
theorem wd_1178 : Cond.code yX9_candleByWax cX9_candleByWax 2 (some .int) ∈ xTB := xTB_in 1178 (by decide +kernel) (by decide +kernel)
theorem dL_candleByWax_0 : decode cL_candleByWax 0 = .ok (.aload_n 2, 1) := by decide +kernel
theorem dL_candleByWax_1 : decode cL_candleByWax 1 = .ok (.iconst 0, 1) := by decide +kernel
theorem dL_candleByWax_2 : decode cL_candleByWax 2 = .ok (.aload_n 0, 1) := by decide +kernel
theorem dL_candleByWax_3 : decode cL_candleByWax 3 = .ok (.iload_n 1, 1) := by decide +kernel
theorem dL_candleByWax_4 : decode cL_candleByWax 4 = .ok (.invokevirtual 69, 3) := by decide +kernel
theorem dL_candleByWax_7 : decode cL_candleByWax 7 = .ok (.i2l, 1) := by decide +kernel
theorem dL_candleByWax_8 : decode cL_candleByWax 8 = .ok (.lastore, 1) := by decide +kernel
theorem dL_candleByWax_9 : decode cL_candleByWax 9 = .ok (.goto 6, 3) := by decide +kernel
theorem dL_candleByWax_12 : decode cL_candleByWax 12 = .ok (.astore_n 3, 1) := by decide +kernel
theorem dL_candleByWax_13 : decode cL_candleByWax 13 = .ok (.iconst 1, 1) := by decide +kernel
theorem dL_candleByWax_14 : decode cL_candleByWax 14 = .ok (.ireturn, 1) := by decide +kernel
theorem dL_candleByWax_15 : decode cL_candleByWax 15 = .ok (.iconst 0, 1) := by decide +kernel
theorem dL_candleByWax_16 : decode cL_candleByWax 16 = .ok (.ireturn, 1) := by decide +kernel
set_option maxHeartbeats 4000000 in
set_option maxRecDepth 100000 in
theorem c_L_candleByWax (g : xG) (l : Launch) (hl : l.stackTraces = false) (a : Nat → Nat) (b : Nat → Nat) (y : Nat) (w : Nat) (z : CcT) (v : StS) (c : CdT) (lo : (Nat → Int64)) (x1 : Int32) {u : Int32 × (Nat → Int64)} (hf : f_L_candleByWax z v c lo x1 = some u) : ConH g l yL_candleByWax cL_candleByWax 4 (some .int) [(0, 9, 12, 72)] ({ frames := 7, cells := 1, slots := 6, locals := 111 } : Room) [.ref (a 0), .int x1, .ref w] ([ccO g a b y z, stO g a 10 v, cdW g a 10 c, loW g w lo] : List va_W).flatten (fun v9 w9 => v9 = some (.int u.1) ∧ w9 = ([ccO g a b y z, stO g a 10 v, cdW g a 10 c, loW g w u.2] : List va_W).flatten) 1 6 := by
  unfold f_L_candleByWax at hf
  refine ConH_of [ccO g a b y z, stO g a 10 v, cdW g a 10 c, loW g w lo] [(0, .ref (a 0)), (1, .int x1), (2, .ref w)] rfl rfl (by decide) (Nat.le_of_ble_eq_true rfl) ?_
  intro pW eW sW mW argsW belowW methW c9 C hr hT
  have C : CX g RL cL_candleByWax 4 _ pW sW mW argsW methW c9 := C
  refine x_aload_n C dL_candleByWax_0 rfl 2 rfl ?_
  refine x_iconst (v := 0) C dL_candleByWax_1 (by decide) ?_
  refine x_aload_n C dL_candleByWax_2 rfl 0 rfl ?_
  refine x_iload_n C dL_candleByWax_3 rfl 1 rfl ?_
  obtain ⟨u1, hu1, hf⟩ := x_b hf
  refine x_xcallV (n := 1) (As := [.int x1]) (rest := [.int (0 : Int32), .ref w]) C (c_X9_candleByWax g l hl a b y z v c x1 hu1) ⟨⟨wd_1178, wd_1175, wd_65⟩, ⟨by decide, by decide, by decide⟩, rfl, rfl, Nat.le_of_ble_eq_true rfl, Nat.le_of_ble_eq_true rfl⟩ wd_1176 wd_1177 ⟨0, 10, _, _, rfl, rfl, rfl⟩ [loW g w lo] (x_pickD [0, 1, 2, 3] 4 rfl rfl rfl) rfl rfl (Nat.le_of_ble_eq_true rfl) ⟨Nat.le_of_ble_eq_true rfl, Nat.le_of_ble_eq_true rfl⟩ dL_candleByWax_4 (fun E9 w9 hX9 => ?_) (fun v9 w9 hQ9 => ?_)
  · obtain ⟨k9, hk9, rfl, rfl⟩ := hX9
    have hf := x_sl hk9 hf
    refine x_goX (wss2 := [ccO g a b y z, stO g a 10 v, cdW g a 10 c, loW g w lo]) rfl rfl ?_
    by_cases e3 : k9 = 4
    · subst e3
      have hf := x_t rfl hf
      refine x_catch (E := "java/util/NoSuchElementException") C hT 0 rfl ⟨by decide, by decide⟩ (by decide) wd_1174 (by decide) (fun x hx => by cases hx) (fun q9 => ?_)
      refine x_astore_n (lv' := [(3, .ref q9), (0, .ref (a 0)), (1, .int x1), (2, .ref w)]) C dL_candleByWax_12 rfl (by decide) rfl ?_
      refine x_iconst (v := 1) C dL_candleByWax_13 (by decide) ?_
      refine x_widen (k := 1) (n := 6) (by omega) (by omega) ?_
      refine x_vx ?_
      exact x_iret C hr ⟨by cases hf; rfl, by cases hf; rfl⟩ dL_candleByWax_14
    · have hf := x_f e3 hf
      cases hf
  · obtain ⟨r2, hr9, rfl, rfl⟩ := hQ9
    have hf := x_sr hr9 hf
    refine x_goW (wss2 := [ccO g a b y z, stO g a 10 v, cdW g a 10 c, loW g w lo]) (stk2 := [.int r2, .int (0 : Int32), .ref w]) rfl rfl rfl ?_
    refine x_i2l C dL_candleByWax_7 rfl ?_
    obtain ⟨h4, hf⟩ := x_n hf
    refine x_last (b := loW g w lo) (b' := loW g w (vp_updL lo (0 : Int32).toNatClampNeg r2.toInt64)) (wss' := [ccO g a b y z, stO g a 10 v, cdW g a 10 c, loW g w (vp_updL lo (0 : Int32).toNatClampNeg r2.toInt64)]) C 3 rfl 0 (loW_at0 g w _) h4 rfl rfl dL_candleByWax_8 ?_
    refine x_goto (tgt := 15) C dL_candleByWax_9 (by decide) ?_
    refine x_iconst (v := 0) C dL_candleByWax_15 (by decide) ?_
    refine x_widen (k := 1) (n := 6) (Nat.le_of_ble_eq_true rfl) (Nat.le_of_ble_eq_true rfl) ?_
    refine x_vx ?_
    exact x_iret C hr ⟨by cases hf; rfl, by cases hf; rfl⟩ dL_candleByWax_16
theorem wd_1206 : Cond.methodLink RL 74 yX9_eventMinute ∈ xTB := xTB_in 1206 (by decide +kernel) (by decide +kernel)
theorem wd_1207 : Cond.instanceMethod yX9_eventMinute ∈ xTB := xTB_in 1207 (by decide +kernel) (by decide +kernel)
theorem wd_1208 : Cond.selects yX9_eventMinute.cls yX9_eventMinute yX9_eventMinute ∈ xTB := xTB_in 1208 (by decide +kernel) (by decide +kernel)
theorem wd_1209 : Cond.code yX9_eventMinute cX9_eventMinute 2 (some .int) ∈ xTB := xTB_in 1209 (by decide +kernel) (by decide +kernel)
theorem dL_eventMinute_0 : decode cL_eventMinute 0 = .ok (.aload_n 2, 1) := by decide +kernel
theorem dL_eventMinute_1 : decode cL_eventMinute 1 = .ok (.iconst 0, 1) := by decide +kernel
theorem dL_eventMinute_2 : decode cL_eventMinute 2 = .ok (.aload_n 0, 1) := by decide +kernel
theorem dL_eventMinute_3 : decode cL_eventMinute 3 = .ok (.iload_n 1, 1) := by decide +kernel
theorem dL_eventMinute_4 : decode cL_eventMinute 4 = .ok (.invokevirtual 74, 3) := by decide +kernel
theorem dL_eventMinute_7 : decode cL_eventMinute 7 = .ok (.i2l, 1) := by decide +kernel
theorem dL_eventMinute_8 : decode cL_eventMinute 8 = .ok (.lastore, 1) := by decide +kernel
theorem dL_eventMinute_9 : decode cL_eventMinute 9 = .ok (.goto 6, 3) := by decide +kernel
theorem dL_eventMinute_12 : decode cL_eventMinute 12 = .ok (.astore_n 3, 1) := by decide +kernel
theorem dL_eventMinute_13 : decode cL_eventMinute 13 = .ok (.iconst 1, 1) := by decide +kernel
theorem dL_eventMinute_14 : decode cL_eventMinute 14 = .ok (.ireturn, 1) := by decide +kernel
theorem dL_eventMinute_15 : decode cL_eventMinute 15 = .ok (.iconst 0, 1) := by decide +kernel
theorem dL_eventMinute_16 : decode cL_eventMinute 16 = .ok (.ireturn, 1) := by decide +kernel
set_option maxHeartbeats 4000000 in
set_option maxRecDepth 100000 in
theorem c_L_eventMinute (g : xG) (l : Launch) (hl : l.stackTraces = false) (a : Nat → Nat) (b : Nat → Nat) (y : Nat) (w : Nat) (z : CcT) (v : StS) (e : EvT) (lo : (Nat → Int64)) (x1 : Int32) {u : Int32 × (Nat → Int64)} (hf : f_L_eventMinute z v e lo x1 = some u) : ConH g l yL_eventMinute cL_eventMinute 4 (some .int) [(0, 9, 12, 21)] ({ frames := 8, cells := 1, slots := 6, locals := 132 } : Room) [.ref (a 0), .int x1, .ref w] ([ccO g a b y z, stO g a 10 v, evW g a 10 e, loW g w lo] : List va_W).flatten (fun v9 w9 => v9 = some (.int u.1) ∧ w9 = ([ccO g a b y z, stO g a 10 v, evW g a 10 e, loW g w u.2] : List va_W).flatten) 1 6 := by
  unfold f_L_eventMinute at hf
  refine ConH_of [ccO g a b y z, stO g a 10 v, evW g a 10 e, loW g w lo] [(0, .ref (a 0)), (1, .int x1), (2, .ref w)] rfl rfl (by decide) (Nat.le_of_ble_eq_true rfl) ?_
  intro pW eW sW mW argsW belowW methW c9 C hr hT
  have C : CX g RL cL_eventMinute 4 _ pW sW mW argsW methW c9 := C
  refine x_aload_n C dL_eventMinute_0 rfl 2 rfl ?_
  refine x_iconst (v := 0) C dL_eventMinute_1 (by decide) ?_
  refine x_aload_n C dL_eventMinute_2 rfl 0 rfl ?_
  refine x_iload_n C dL_eventMinute_3 rfl 1 rfl ?_
  obtain ⟨u1, hu1, hf⟩ := x_b hf
  refine x_xcallV (n := 1) (As := [.int x1]) (rest := [.int (0 : Int32), .ref w]) C (c_X9_eventMinute g l hl a b y z v e x1 hu1) ⟨⟨wd_1209, wd_1206, wd_65⟩, ⟨by decide, by decide, by decide⟩, rfl, rfl, Nat.le_of_ble_eq_true rfl, Nat.le_of_ble_eq_true rfl⟩ wd_1207 wd_1208 ⟨0, 10, _, _, rfl, rfl, rfl⟩ [loW g w lo] (x_pickD [0, 1, 2, 3] 4 rfl rfl rfl) rfl rfl (Nat.le_of_ble_eq_true rfl) ⟨Nat.le_of_ble_eq_true rfl, Nat.le_of_ble_eq_true rfl⟩ dL_eventMinute_4 (fun E9 w9 hX9 => ?_) (fun v9 w9 hQ9 => ?_)
  · obtain ⟨k9, hk9, rfl, rfl⟩ := hX9
    have hf := x_sl hk9 hf
    refine x_goX (wss2 := [ccO g a b y z, stO g a 10 v, evW g a 10 e, loW g w lo]) rfl rfl ?_
    by_cases e3 : k9 = 2
    · subst e3
      have hf := x_t rfl hf
      refine x_catch (E := "java/lang/IndexOutOfBoundsException") C hT 0 rfl ⟨by decide, by decide⟩ (by decide) wd_987 (by decide) (fun x hx => by cases hx) (fun q9 => ?_)
      refine x_astore_n (lv' := [(3, .ref q9), (0, .ref (a 0)), (1, .int x1), (2, .ref w)]) C dL_eventMinute_12 rfl (by decide) rfl ?_
      refine x_iconst (v := 1) C dL_eventMinute_13 (by decide) ?_
      refine x_widen (k := 1) (n := 6) (by omega) (by omega) ?_
      refine x_vx ?_
      exact x_iret C hr ⟨by cases hf; rfl, by cases hf; rfl⟩ dL_eventMinute_14
    · have hf := x_f e3 hf
      cases hf
  · obtain ⟨r2, hr9, rfl, rfl⟩ := hQ9
    have hf := x_sr hr9 hf
    refine x_goW (wss2 := [ccO g a b y z, stO g a 10 v, evW g a 10 e, loW g w lo]) (stk2 := [.int r2, .int (0 : Int32), .ref w]) rfl rfl rfl ?_
    refine x_i2l C dL_eventMinute_7 rfl ?_
    obtain ⟨h4, hf⟩ := x_n hf
    refine x_last (b := loW g w lo) (b' := loW g w (vp_updL lo (0 : Int32).toNatClampNeg r2.toInt64)) (wss' := [ccO g a b y z, stO g a 10 v, evW g a 10 e, loW g w (vp_updL lo (0 : Int32).toNatClampNeg r2.toInt64)]) C 3 rfl 0 (loW_at0 g w _) h4 rfl rfl dL_eventMinute_8 ?_
    refine x_goto (tgt := 15) C dL_eventMinute_9 (by decide) ?_
    refine x_iconst (v := 0) C dL_eventMinute_15 (by decide) ?_
    refine x_widen (k := 1) (n := 6) (Nat.le_of_ble_eq_true rfl) (Nat.le_of_ble_eq_true rfl) ?_
    refine x_vx ?_
    exact x_iret C hr ⟨by cases hf; rfl, by cases hf; rfl⟩ dL_eventMinute_16
theorem wd_1213 : Cond.methodLink RL 77 yX9_eventCandle ∈ xTB := xTB_in 1213 (by decide +kernel) (by decide +kernel)
theorem wd_1214 : Cond.instanceMethod yX9_eventCandle ∈ xTB := xTB_in 1214 (by decide +kernel) (by decide +kernel)
theorem wd_1215 : Cond.selects yX9_eventCandle.cls yX9_eventCandle yX9_eventCandle ∈ xTB := xTB_in 1215 (by decide +kernel) (by decide +kernel)
theorem wd_1216 : Cond.code yX9_eventCandle cX9_eventCandle 2 (some .int) ∈ xTB := xTB_in 1216 (by decide +kernel) (by decide +kernel)
theorem dL_eventCandle_0 : decode cL_eventCandle 0 = .ok (.aload_n 2, 1) := by decide +kernel
theorem dL_eventCandle_1 : decode cL_eventCandle 1 = .ok (.iconst 0, 1) := by decide +kernel
theorem dL_eventCandle_2 : decode cL_eventCandle 2 = .ok (.aload_n 0, 1) := by decide +kernel
theorem dL_eventCandle_3 : decode cL_eventCandle 3 = .ok (.iload_n 1, 1) := by decide +kernel
theorem dL_eventCandle_4 : decode cL_eventCandle 4 = .ok (.invokevirtual 77, 3) := by decide +kernel
theorem dL_eventCandle_7 : decode cL_eventCandle 7 = .ok (.i2l, 1) := by decide +kernel
theorem dL_eventCandle_8 : decode cL_eventCandle 8 = .ok (.lastore, 1) := by decide +kernel
theorem dL_eventCandle_9 : decode cL_eventCandle 9 = .ok (.goto 6, 3) := by decide +kernel
theorem dL_eventCandle_12 : decode cL_eventCandle 12 = .ok (.astore_n 3, 1) := by decide +kernel
theorem dL_eventCandle_13 : decode cL_eventCandle 13 = .ok (.iconst 1, 1) := by decide +kernel
theorem dL_eventCandle_14 : decode cL_eventCandle 14 = .ok (.ireturn, 1) := by decide +kernel
theorem dL_eventCandle_15 : decode cL_eventCandle 15 = .ok (.iconst 0, 1) := by decide +kernel
theorem dL_eventCandle_16 : decode cL_eventCandle 16 = .ok (.ireturn, 1) := by decide +kernel
set_option maxHeartbeats 4000000 in
set_option maxRecDepth 100000 in
theorem c_L_eventCandle (g : xG) (l : Launch) (hl : l.stackTraces = false) (a : Nat → Nat) (b : Nat → Nat) (y : Nat) (w : Nat) (z : CcT) (v : StS) (e : EvT) (lo : (Nat → Int64)) (x1 : Int32) {u : Int32 × (Nat → Int64)} (hf : f_L_eventCandle z v e lo x1 = some u) : ConH g l yL_eventCandle cL_eventCandle 4 (some .int) [(0, 9, 12, 21)] ({ frames := 8, cells := 1, slots := 6, locals := 132 } : Room) [.ref (a 0), .int x1, .ref w] ([ccO g a b y z, stO g a 10 v, evW g a 10 e, loW g w lo] : List va_W).flatten (fun v9 w9 => v9 = some (.int u.1) ∧ w9 = ([ccO g a b y z, stO g a 10 v, evW g a 10 e, loW g w u.2] : List va_W).flatten) 1 6 := by
  unfold f_L_eventCandle at hf
  refine ConH_of [ccO g a b y z, stO g a 10 v, evW g a 10 e, loW g w lo] [(0, .ref (a 0)), (1, .int x1), (2, .ref w)] rfl rfl (by decide) (Nat.le_of_ble_eq_true rfl) ?_
  intro pW eW sW mW argsW belowW methW c9 C hr hT
  have C : CX g RL cL_eventCandle 4 _ pW sW mW argsW methW c9 := C
  refine x_aload_n C dL_eventCandle_0 rfl 2 rfl ?_
  refine x_iconst (v := 0) C dL_eventCandle_1 (by decide) ?_
  refine x_aload_n C dL_eventCandle_2 rfl 0 rfl ?_
  refine x_iload_n C dL_eventCandle_3 rfl 1 rfl ?_
  obtain ⟨u1, hu1, hf⟩ := x_b hf
  refine x_xcallV (n := 1) (As := [.int x1]) (rest := [.int (0 : Int32), .ref w]) C (c_X9_eventCandle g l hl a b y z v e x1 hu1) ⟨⟨wd_1216, wd_1213, wd_65⟩, ⟨by decide, by decide, by decide⟩, rfl, rfl, Nat.le_of_ble_eq_true rfl, Nat.le_of_ble_eq_true rfl⟩ wd_1214 wd_1215 ⟨0, 10, _, _, rfl, rfl, rfl⟩ [loW g w lo] (x_pickD [0, 1, 2, 3] 4 rfl rfl rfl) rfl rfl (Nat.le_of_ble_eq_true rfl) ⟨Nat.le_of_ble_eq_true rfl, Nat.le_of_ble_eq_true rfl⟩ dL_eventCandle_4 (fun E9 w9 hX9 => ?_) (fun v9 w9 hQ9 => ?_)
  · obtain ⟨k9, hk9, rfl, rfl⟩ := hX9
    have hf := x_sl hk9 hf
    refine x_goX (wss2 := [ccO g a b y z, stO g a 10 v, evW g a 10 e, loW g w lo]) rfl rfl ?_
    by_cases e3 : k9 = 2
    · subst e3
      have hf := x_t rfl hf
      refine x_catch (E := "java/lang/IndexOutOfBoundsException") C hT 0 rfl ⟨by decide, by decide⟩ (by decide) wd_987 (by decide) (fun x hx => by cases hx) (fun q9 => ?_)
      refine x_astore_n (lv' := [(3, .ref q9), (0, .ref (a 0)), (1, .int x1), (2, .ref w)]) C dL_eventCandle_12 rfl (by decide) rfl ?_
      refine x_iconst (v := 1) C dL_eventCandle_13 (by decide) ?_
      refine x_widen (k := 1) (n := 6) (by omega) (by omega) ?_
      refine x_vx ?_
      exact x_iret C hr ⟨by cases hf; rfl, by cases hf; rfl⟩ dL_eventCandle_14
    · have hf := x_f e3 hf
      cases hf
  · obtain ⟨r2, hr9, rfl, rfl⟩ := hQ9
    have hf := x_sr hr9 hf
    refine x_goW (wss2 := [ccO g a b y z, stO g a 10 v, evW g a 10 e, loW g w lo]) (stk2 := [.int r2, .int (0 : Int32), .ref w]) rfl rfl rfl ?_
    refine x_i2l C dL_eventCandle_7 rfl ?_
    obtain ⟨h4, hf⟩ := x_n hf
    refine x_last (b := loW g w lo) (b' := loW g w (vp_updL lo (0 : Int32).toNatClampNeg r2.toInt64)) (wss' := [ccO g a b y z, stO g a 10 v, evW g a 10 e, loW g w (vp_updL lo (0 : Int32).toNatClampNeg r2.toInt64)]) C 3 rfl 0 (loW_at0 g w _) h4 rfl rfl dL_eventCandle_8 ?_
    refine x_goto (tgt := 15) C dL_eventCandle_9 (by decide) ?_
    refine x_iconst (v := 0) C dL_eventCandle_15 (by decide) ?_
    refine x_widen (k := 1) (n := 6) (Nat.le_of_ble_eq_true rfl) (Nat.le_of_ble_eq_true rfl) ?_
    refine x_vx ?_
    exact x_iret C hr ⟨by cases hf; rfl, by cases hf; rfl⟩ dL_eventCandle_16
theorem wd_1220 : Cond.methodLink RL 80 yX9_isLighting ∈ xTB := xTB_in 1220 (by decide +kernel) (by decide +kernel)
theorem wd_1221 : Cond.instanceMethod yX9_isLighting ∈ xTB := xTB_in 1221 (by decide +kernel) (by decide +kernel)
theorem wd_1222 : Cond.selects yX9_isLighting.cls yX9_isLighting yX9_isLighting ∈ xTB := xTB_in 1222 (by decide +kernel) (by decide +kernel)
theorem wd_1223 : Cond.code yX9_isLighting cX9_isLighting 2 (some .boolean) ∈ xTB := xTB_in 1223 (by decide +kernel) (by decide +kernel)
theorem dL_isLighting_0 : decode cL_isLighting 0 = .ok (.aload_n 2, 1) := by decide +kernel
theorem dL_isLighting_1 : decode cL_isLighting 1 = .ok (.iconst 0, 1) := by decide +kernel
theorem dL_isLighting_2 : decode cL_isLighting 2 = .ok (.aload_n 0, 1) := by decide +kernel
theorem dL_isLighting_3 : decode cL_isLighting 3 = .ok (.iload_n 1, 1) := by decide +kernel
theorem dL_isLighting_4 : decode cL_isLighting 4 = .ok (.invokevirtual 80, 3) := by decide +kernel
theorem dL_isLighting_7 : decode cL_isLighting 7 = .ok (.ifCond .eq 7, 3) := by decide +kernel
theorem dL_isLighting_10 : decode cL_isLighting 10 = .ok (.lconst 1, 1) := by decide +kernel
theorem dL_isLighting_11 : decode cL_isLighting 11 = .ok (.goto 4, 3) := by decide +kernel
theorem dL_isLighting_14 : decode cL_isLighting 14 = .ok (.lconst 0, 1) := by decide +kernel
theorem dL_isLighting_15 : decode cL_isLighting 15 = .ok (.lastore, 1) := by decide +kernel
theorem dL_isLighting_16 : decode cL_isLighting 16 = .ok (.goto 6, 3) := by decide +kernel
theorem dL_isLighting_19 : decode cL_isLighting 19 = .ok (.astore_n 3, 1) := by decide +kernel
theorem dL_isLighting_20 : decode cL_isLighting 20 = .ok (.iconst 1, 1) := by decide +kernel
theorem dL_isLighting_21 : decode cL_isLighting 21 = .ok (.ireturn, 1) := by decide +kernel
theorem dL_isLighting_22 : decode cL_isLighting 22 = .ok (.iconst 0, 1) := by decide +kernel
theorem dL_isLighting_23 : decode cL_isLighting 23 = .ok (.ireturn, 1) := by decide +kernel
set_option maxHeartbeats 4000000 in
set_option maxRecDepth 100000 in
theorem c_L_isLighting (g : xG) (l : Launch) (hl : l.stackTraces = false) (a : Nat → Nat) (b : Nat → Nat) (y : Nat) (w : Nat) (z : CcT) (v : StS) (e : EvT) (lo : (Nat → Int64)) (x1 : Int32) {u : Int32 × (Nat → Int64)} (hf : f_L_isLighting z v e lo x1 = some u) : ConH g l yL_isLighting cL_isLighting 4 (some .int) [(0, 16, 19, 21)] ({ frames := 8, cells := 1, slots := 6, locals := 132 } : Room) [.ref (a 0), .int x1, .ref w] ([ccO g a b y z, stO g a 10 v, evW g a 10 e, loW g w lo] : List va_W).flatten (fun v9 w9 => v9 = some (.int u.1) ∧ w9 = ([ccO g a b y z, stO g a 10 v, evW g a 10 e, loW g w u.2] : List va_W).flatten) 1 6 := by
  unfold f_L_isLighting at hf
  refine ConH_of [ccO g a b y z, stO g a 10 v, evW g a 10 e, loW g w lo] [(0, .ref (a 0)), (1, .int x1), (2, .ref w)] rfl rfl (by decide) (Nat.le_of_ble_eq_true rfl) ?_
  intro pW eW sW mW argsW belowW methW c9 C hr hT
  have C : CX g RL cL_isLighting 4 _ pW sW mW argsW methW c9 := C
  refine x_aload_n C dL_isLighting_0 rfl 2 rfl ?_
  refine x_iconst (v := 0) C dL_isLighting_1 (by decide) ?_
  refine x_aload_n C dL_isLighting_2 rfl 0 rfl ?_
  refine x_iload_n C dL_isLighting_3 rfl 1 rfl ?_
  obtain ⟨u1, hu1, hf⟩ := x_b hf
  refine x_xcallV (n := 1) (As := [.int x1]) (rest := [.int (0 : Int32), .ref w]) C (c_X9_isLighting g l hl a b y z v e x1 hu1) ⟨⟨wd_1223, wd_1220, wd_65⟩, ⟨by decide, by decide, by decide⟩, rfl, rfl, Nat.le_of_ble_eq_true rfl, Nat.le_of_ble_eq_true rfl⟩ wd_1221 wd_1222 ⟨0, 10, _, _, rfl, rfl, rfl⟩ [loW g w lo] (x_pickD [0, 1, 2, 3] 4 rfl rfl rfl) rfl rfl (Nat.le_of_ble_eq_true rfl) ⟨Nat.le_of_ble_eq_true rfl, Nat.le_of_ble_eq_true rfl⟩ dL_isLighting_4 (fun E9 w9 hX9 => ?_) (fun v9 w9 hQ9 => ?_)
  · obtain ⟨k9, hk9, rfl, rfl⟩ := hX9
    have hf := x_sl hk9 hf
    refine x_goX (wss2 := [ccO g a b y z, stO g a 10 v, evW g a 10 e, loW g w lo]) rfl rfl ?_
    by_cases e3 : k9 = 2
    · subst e3
      have hf := x_t rfl hf
      refine x_catch (E := "java/lang/IndexOutOfBoundsException") C hT 0 rfl ⟨by decide, by decide⟩ (by decide) wd_987 (by decide) (fun x hx => by cases hx) (fun q9 => ?_)
      refine x_astore_n (lv' := [(3, .ref q9), (0, .ref (a 0)), (1, .int x1), (2, .ref w)]) C dL_isLighting_19 rfl (by decide) rfl ?_
      refine x_iconst (v := 1) C dL_isLighting_20 (by decide) ?_
      refine x_widen (k := 1) (n := 6) (by omega) (by omega) ?_
      refine x_vx ?_
      exact x_iret C hr ⟨by cases hf; rfl, by cases hf; rfl⟩ dL_isLighting_21
    · have hf := x_f e3 hf
      cases hf
  · obtain ⟨r2, hr9, rfl, rfl⟩ := hQ9
    have hf := x_sr hr9 hf
    refine x_goW (wss2 := [ccO g a b y z, stO g a 10 v, evW g a 10 e, loW g w lo]) (stk2 := [.int r2, .int (0 : Int32), .ref w]) rfl rfl rfl ?_
    refine x_if_eq (tgt := 14) C dL_isLighting_7 (by decide) (fun h4 => ?_) (fun h4 => ?_)
    · have hf := x_t h4 hf
      refine x_lconst (v := 0) C dL_isLighting_14 (by decide) ?_
      obtain ⟨h5, hf⟩ := x_n hf
      refine x_last (b := loW g w lo) (b' := loW g w (vp_updL lo (0 : Int32).toNatClampNeg (0 : Int64))) (wss' := [ccO g a b y z, stO g a 10 v, evW g a 10 e, loW g w (vp_updL lo (0 : Int32).toNatClampNeg (0 : Int64))]) C 3 rfl 0 (loW_at0 g w _) h5 rfl rfl dL_isLighting_15 ?_
      refine x_goto (tgt := 22) C dL_isLighting_16 (by decide) ?_
      refine x_iconst (v := 0) C dL_isLighting_22 (by decide) ?_
      refine x_widen (k := 1) (n := 6) (Nat.le_of_ble_eq_true rfl) (Nat.le_of_ble_eq_true rfl) ?_
      refine x_vx ?_
      exact x_iret C hr ⟨by cases hf; rfl, by cases hf; rfl⟩ dL_isLighting_23
    · have hf := x_f h4 hf
      refine x_lconst (v := 1) C dL_isLighting_10 (by decide) ?_
      refine x_goto (tgt := 15) C dL_isLighting_11 (by decide) ?_
      obtain ⟨h6, hf⟩ := x_n hf
      refine x_last (b := loW g w lo) (b' := loW g w (vp_updL lo (0 : Int32).toNatClampNeg (1 : Int64))) (wss' := [ccO g a b y z, stO g a 10 v, evW g a 10 e, loW g w (vp_updL lo (0 : Int32).toNatClampNeg (1 : Int64))]) C 3 rfl 0 (loW_at0 g w _) h6 rfl rfl dL_isLighting_15 ?_
      refine x_goto (tgt := 22) C dL_isLighting_16 (by decide) ?_
      refine x_iconst (v := 0) C dL_isLighting_22 (by decide) ?_
      refine x_widen (k := 1) (n := 6) (Nat.le_of_ble_eq_true rfl) (Nat.le_of_ble_eq_true rfl) ?_
      refine x_vx ?_
      exact x_iret C hr ⟨by cases hf; rfl, by cases hf; rfl⟩ dL_isLighting_23
theorem wd_1227 : Cond.methodLink RL 83 yX9_failureReason ∈ xTB := xTB_in 1227 (by decide +kernel) (by decide +kernel)
theorem wd_1228 : Cond.instanceMethod yX9_failureReason ∈ xTB := xTB_in 1228 (by decide +kernel) (by decide +kernel)
theorem wd_1229 : Cond.selects yX9_failureReason.cls yX9_failureReason yX9_failureReason ∈ xTB := xTB_in 1229 (by decide +kernel) (by decide +kernel)
theorem wd_1230 : Cond.code yX9_failureReason cX9_failureReason 1 (some .char) ∈ xTB := xTB_in 1230 (by decide +kernel) (by decide +kernel)
theorem dL_failureReason_0 : decode cL_failureReason 0 = .ok (.aload_n 1, 1) := by decide +kernel
theorem dL_failureReason_1 : decode cL_failureReason 1 = .ok (.iconst 0, 1) := by decide +kernel
theorem dL_failureReason_2 : decode cL_failureReason 2 = .ok (.aload_n 0, 1) := by decide +kernel
theorem dL_failureReason_3 : decode cL_failureReason 3 = .ok (.invokevirtual 83, 3) := by decide +kernel
theorem dL_failureReason_6 : decode cL_failureReason 6 = .ok (.i2l, 1) := by decide +kernel
theorem dL_failureReason_7 : decode cL_failureReason 7 = .ok (.lastore, 1) := by decide +kernel
theorem dL_failureReason_8 : decode cL_failureReason 8 = .ok (.goto 6, 3) := by decide +kernel
theorem dL_failureReason_11 : decode cL_failureReason 11 = .ok (.astore_n 2, 1) := by decide +kernel
theorem dL_failureReason_12 : decode cL_failureReason 12 = .ok (.iconst 1, 1) := by decide +kernel
theorem dL_failureReason_13 : decode cL_failureReason 13 = .ok (.ireturn, 1) := by decide +kernel
theorem dL_failureReason_14 : decode cL_failureReason 14 = .ok (.iconst 0, 1) := by decide +kernel
theorem dL_failureReason_15 : decode cL_failureReason 15 = .ok (.ireturn, 1) := by decide +kernel
set_option maxHeartbeats 4000000 in
set_option maxRecDepth 100000 in
theorem c_L_failureReason (g : xG) (l : Launch) (hl : l.stackTraces = false) (a : Nat → Nat) (b : Nat → Nat) (y : Nat) (w : Nat) (z : CcT) (v : StS) (lo : (Nat → Int64))  {u : Int32 × (Nat → Int64)} (hf : f_L_failureReason z v lo = some u) : ConH g l yL_failureReason cL_failureReason 3 (some .int) [(0, 8, 11, 72)] ({ frames := 7, cells := 1, slots := 6, locals := 110 } : Room) [.ref (a 0), .ref w] ([ccO g a b y z, stO g a 10 v, loW g w lo] : List va_W).flatten (fun v9 w9 => v9 = some (.int u.1) ∧ w9 = ([ccO g a b y z, stO g a 10 v, loW g w u.2] : List va_W).flatten) 1 6 := by
  unfold f_L_failureReason at hf
  refine ConH_of [ccO g a b y z, stO g a 10 v, loW g w lo] [(0, .ref (a 0)), (1, .ref w)] rfl rfl (by decide) (Nat.le_of_ble_eq_true rfl) ?_
  intro pW eW sW mW argsW belowW methW c9 C hr hT
  have C : CX g RL cL_failureReason 3 _ pW sW mW argsW methW c9 := C
  refine x_aload_n C dL_failureReason_0 rfl 1 rfl ?_
  refine x_iconst (v := 0) C dL_failureReason_1 (by decide) ?_
  refine x_aload_n C dL_failureReason_2 rfl 0 rfl ?_
  obtain ⟨u1, hu1, hf⟩ := x_b hf
  refine x_xcallV (n := 0) (As := []) (rest := [.int (0 : Int32), .ref w]) C (c_X9_failureReason g l hl a b y z v hu1) ⟨⟨wd_1230, wd_1227, wd_65⟩, ⟨by decide, by decide, by decide⟩, rfl, rfl, Nat.le_of_ble_eq_true rfl, Nat.le_of_ble_eq_true rfl⟩ wd_1228 wd_1229 ⟨0, 10, _, _, rfl, rfl, rfl⟩ [loW g w lo] (x_pickD [0, 1, 2] 3 rfl rfl rfl) rfl rfl (Nat.le_of_ble_eq_true rfl) ⟨Nat.le_of_ble_eq_true rfl, Nat.le_of_ble_eq_true rfl⟩ dL_failureReason_3 (fun E9 w9 hX9 => ?_) (fun v9 w9 hQ9 => ?_)
  · obtain ⟨k9, hk9, rfl, rfl⟩ := hX9
    have hf := x_sl hk9 hf
    refine x_goX (wss2 := [ccO g a b y z, stO g a 10 v, loW g w lo]) rfl rfl ?_
    by_cases e3 : k9 = 4
    · subst e3
      have hf := x_t rfl hf
      refine x_catch (E := "java/util/NoSuchElementException") C hT 0 rfl ⟨by decide, by decide⟩ (by decide) wd_1174 (by decide) (fun x hx => by cases hx) (fun q9 => ?_)
      refine x_astore_n (lv' := [(2, .ref q9), (0, .ref (a 0)), (1, .ref w)]) C dL_failureReason_11 rfl (by decide) rfl ?_
      refine x_iconst (v := 1) C dL_failureReason_12 (by decide) ?_
      refine x_widen (k := 1) (n := 6) (by omega) (by omega) ?_
      refine x_vx ?_
      exact x_iret C hr ⟨by cases hf; rfl, by cases hf; rfl⟩ dL_failureReason_13
    · have hf := x_f e3 hf
      cases hf
  · obtain ⟨r2, hr9, rfl, rfl⟩ := hQ9
    have hf := x_sr hr9 hf
    refine x_goW (wss2 := [ccO g a b y z, stO g a 10 v, loW g w lo]) (stk2 := [.int r2, .int (0 : Int32), .ref w]) rfl rfl rfl ?_
    refine x_i2l C dL_failureReason_6 rfl ?_
    obtain ⟨h4, hf⟩ := x_n hf
    refine x_last (b := loW g w lo) (b' := loW g w (vp_updL lo (0 : Int32).toNatClampNeg r2.toInt64)) (wss' := [ccO g a b y z, stO g a 10 v, loW g w (vp_updL lo (0 : Int32).toNatClampNeg r2.toInt64)]) C 2 rfl 0 (loW_at0 g w _) h4 rfl rfl dL_failureReason_7 ?_
    refine x_goto (tgt := 14) C dL_failureReason_8 (by decide) ?_
    refine x_iconst (v := 0) C dL_failureReason_14 (by decide) ?_
    refine x_widen (k := 1) (n := 6) (Nat.le_of_ble_eq_true rfl) (Nat.le_of_ble_eq_true rfl) ?_
    refine x_vx ?_
    exact x_iret C hr ⟨by cases hf; rfl, by cases hf; rfl⟩ dL_failureReason_15
theorem wd_1235 : Cond.methodLink RL 87 yX9_lastCandle ∈ xTB := xTB_in 1235 (by decide +kernel) (by decide +kernel)
theorem wd_1236 : Cond.instanceMethod yX9_lastCandle ∈ xTB := xTB_in 1236 (by decide +kernel) (by decide +kernel)
theorem wd_1237 : Cond.selects yX9_lastCandle.cls yX9_lastCandle yX9_lastCandle ∈ xTB := xTB_in 1237 (by decide +kernel) (by decide +kernel)
theorem wd_1238 : Cond.code yX9_lastCandle cX9_lastCandle 1 (some .int) ∈ xTB := xTB_in 1238 (by decide +kernel) (by decide +kernel)
theorem dL_lastCandle_0 : decode cL_lastCandle 0 = .ok (.aload_n 1, 1) := by decide +kernel
theorem dL_lastCandle_1 : decode cL_lastCandle 1 = .ok (.iconst 0, 1) := by decide +kernel
theorem dL_lastCandle_2 : decode cL_lastCandle 2 = .ok (.aload_n 0, 1) := by decide +kernel
theorem dL_lastCandle_3 : decode cL_lastCandle 3 = .ok (.invokevirtual 87, 3) := by decide +kernel
theorem dL_lastCandle_6 : decode cL_lastCandle 6 = .ok (.i2l, 1) := by decide +kernel
theorem dL_lastCandle_7 : decode cL_lastCandle 7 = .ok (.lastore, 1) := by decide +kernel
theorem dL_lastCandle_8 : decode cL_lastCandle 8 = .ok (.goto 6, 3) := by decide +kernel
theorem dL_lastCandle_11 : decode cL_lastCandle 11 = .ok (.astore_n 2, 1) := by decide +kernel
theorem dL_lastCandle_12 : decode cL_lastCandle 12 = .ok (.iconst 1, 1) := by decide +kernel
theorem dL_lastCandle_13 : decode cL_lastCandle 13 = .ok (.ireturn, 1) := by decide +kernel
theorem dL_lastCandle_14 : decode cL_lastCandle 14 = .ok (.iconst 0, 1) := by decide +kernel
theorem dL_lastCandle_15 : decode cL_lastCandle 15 = .ok (.ireturn, 1) := by decide +kernel
set_option maxHeartbeats 4000000 in
set_option maxRecDepth 100000 in
theorem c_L_lastCandle (g : xG) (l : Launch) (hl : l.stackTraces = false) (a : Nat → Nat) (b : Nat → Nat) (y : Nat) (w : Nat) (z : CcT) (v : StS) (lo : (Nat → Int64))  {u : Int32 × (Nat → Int64)} (hf : f_L_lastCandle z v lo = some u) : ConH g l yL_lastCandle cL_lastCandle 3 (some .int) [(0, 8, 11, 72)] ({ frames := 7, cells := 1, slots := 6, locals := 110 } : Room) [.ref (a 0), .ref w] ([ccO g a b y z, stO g a 10 v, loW g w lo] : List va_W).flatten (fun v9 w9 => v9 = some (.int u.1) ∧ w9 = ([ccO g a b y z, stO g a 10 v, loW g w u.2] : List va_W).flatten) 1 6 := by
  unfold f_L_lastCandle at hf
  refine ConH_of [ccO g a b y z, stO g a 10 v, loW g w lo] [(0, .ref (a 0)), (1, .ref w)] rfl rfl (by decide) (Nat.le_of_ble_eq_true rfl) ?_
  intro pW eW sW mW argsW belowW methW c9 C hr hT
  have C : CX g RL cL_lastCandle 3 _ pW sW mW argsW methW c9 := C
  refine x_aload_n C dL_lastCandle_0 rfl 1 rfl ?_
  refine x_iconst (v := 0) C dL_lastCandle_1 (by decide) ?_
  refine x_aload_n C dL_lastCandle_2 rfl 0 rfl ?_
  obtain ⟨u1, hu1, hf⟩ := x_b hf
  refine x_xcallV (n := 0) (As := []) (rest := [.int (0 : Int32), .ref w]) C (c_X9_lastCandle g l hl a b y z v hu1) ⟨⟨wd_1238, wd_1235, wd_65⟩, ⟨by decide, by decide, by decide⟩, rfl, rfl, Nat.le_of_ble_eq_true rfl, Nat.le_of_ble_eq_true rfl⟩ wd_1236 wd_1237 ⟨0, 10, _, _, rfl, rfl, rfl⟩ [loW g w lo] (x_pickD [0, 1, 2] 3 rfl rfl rfl) rfl rfl (Nat.le_of_ble_eq_true rfl) ⟨Nat.le_of_ble_eq_true rfl, Nat.le_of_ble_eq_true rfl⟩ dL_lastCandle_3 (fun E9 w9 hX9 => ?_) (fun v9 w9 hQ9 => ?_)
  · obtain ⟨k9, hk9, rfl, rfl⟩ := hX9
    have hf := x_sl hk9 hf
    refine x_goX (wss2 := [ccO g a b y z, stO g a 10 v, loW g w lo]) rfl rfl ?_
    by_cases e3 : k9 = 4
    · subst e3
      have hf := x_t rfl hf
      refine x_catch (E := "java/util/NoSuchElementException") C hT 0 rfl ⟨by decide, by decide⟩ (by decide) wd_1174 (by decide) (fun x hx => by cases hx) (fun q9 => ?_)
      refine x_astore_n (lv' := [(2, .ref q9), (0, .ref (a 0)), (1, .ref w)]) C dL_lastCandle_11 rfl (by decide) rfl ?_
      refine x_iconst (v := 1) C dL_lastCandle_12 (by decide) ?_
      refine x_widen (k := 1) (n := 6) (by omega) (by omega) ?_
      refine x_vx ?_
      exact x_iret C hr ⟨by cases hf; rfl, by cases hf; rfl⟩ dL_lastCandle_13
    · have hf := x_f e3 hf
      cases hf
  · obtain ⟨r2, hr9, rfl, rfl⟩ := hQ9
    have hf := x_sr hr9 hf
    refine x_goW (wss2 := [ccO g a b y z, stO g a 10 v, loW g w lo]) (stk2 := [.int r2, .int (0 : Int32), .ref w]) rfl rfl rfl ?_
    refine x_i2l C dL_lastCandle_6 rfl ?_
    obtain ⟨h4, hf⟩ := x_n hf
    refine x_last (b := loW g w lo) (b' := loW g w (vp_updL lo (0 : Int32).toNatClampNeg r2.toInt64)) (wss' := [ccO g a b y z, stO g a 10 v, loW g w (vp_updL lo (0 : Int32).toNatClampNeg r2.toInt64)]) C 2 rfl 0 (loW_at0 g w _) h4 rfl rfl dL_lastCandle_7 ?_
    refine x_goto (tgt := 14) C dL_lastCandle_8 (by decide) ?_
    refine x_iconst (v := 0) C dL_lastCandle_14 (by decide) ?_
    refine x_widen (k := 1) (n := 6) (Nat.le_of_ble_eq_true rfl) (Nat.le_of_ble_eq_true rfl) ?_
    refine x_vx ?_
    exact x_iret C hr ⟨by cases hf; rfl, by cases hf; rfl⟩ dL_lastCandle_15
theorem wd_1243 : Cond.methodLink RL 91 yX9_loudestVoice ∈ xTB := xTB_in 1243 (by decide +kernel) (by decide +kernel)
theorem wd_1244 : Cond.instanceMethod yX9_loudestVoice ∈ xTB := xTB_in 1244 (by decide +kernel) (by decide +kernel)
theorem wd_1245 : Cond.selects yX9_loudestVoice.cls yX9_loudestVoice yX9_loudestVoice ∈ xTB := xTB_in 1245 (by decide +kernel) (by decide +kernel)
theorem wd_1246 : Cond.code yX9_loudestVoice cX9_loudestVoice 1 (some .char) ∈ xTB := xTB_in 1246 (by decide +kernel) (by decide +kernel)
theorem dL_loudestVoice_0 : decode cL_loudestVoice 0 = .ok (.aload_n 1, 1) := by decide +kernel
theorem dL_loudestVoice_1 : decode cL_loudestVoice 1 = .ok (.iconst 0, 1) := by decide +kernel
theorem dL_loudestVoice_2 : decode cL_loudestVoice 2 = .ok (.aload_n 0, 1) := by decide +kernel
theorem dL_loudestVoice_3 : decode cL_loudestVoice 3 = .ok (.invokevirtual 91, 3) := by decide +kernel
theorem dL_loudestVoice_6 : decode cL_loudestVoice 6 = .ok (.i2l, 1) := by decide +kernel
theorem dL_loudestVoice_7 : decode cL_loudestVoice 7 = .ok (.lastore, 1) := by decide +kernel
theorem dL_loudestVoice_8 : decode cL_loudestVoice 8 = .ok (.goto 6, 3) := by decide +kernel
theorem dL_loudestVoice_11 : decode cL_loudestVoice 11 = .ok (.astore_n 2, 1) := by decide +kernel
theorem dL_loudestVoice_12 : decode cL_loudestVoice 12 = .ok (.iconst 1, 1) := by decide +kernel
theorem dL_loudestVoice_13 : decode cL_loudestVoice 13 = .ok (.ireturn, 1) := by decide +kernel
theorem dL_loudestVoice_14 : decode cL_loudestVoice 14 = .ok (.iconst 0, 1) := by decide +kernel
theorem dL_loudestVoice_15 : decode cL_loudestVoice 15 = .ok (.ireturn, 1) := by decide +kernel
set_option maxHeartbeats 4000000 in
set_option maxRecDepth 100000 in
theorem c_L_loudestVoice (g : xG) (l : Launch) (hl : l.stackTraces = false) (a : Nat → Nat) (b : Nat → Nat) (y : Nat) (w : Nat) (z : CcT) (v : StS) (c : CdT) (lo : (Nat → Int64))  {u : Int32 × (Nat → Int64)} (hf : f_L_loudestVoice z v c lo = some u) : ConH g l yL_loudestVoice cL_loudestVoice 3 (some .int) [(0, 8, 11, 72)] ({ frames := 7, cells := 1, slots := 6, locals := 110 } : Room) [.ref (a 0), .ref w] ([ccO g a b y z, stO g a 10 v, cdW g a 10 c, loW g w lo] : List va_W).flatten (fun v9 w9 => v9 = some (.int u.1) ∧ w9 = ([ccO g a b y z, stO g a 10 v, cdW g a 10 c, loW g w u.2] : List va_W).flatten) 1 6 := by
  unfold f_L_loudestVoice at hf
  refine ConH_of [ccO g a b y z, stO g a 10 v, cdW g a 10 c, loW g w lo] [(0, .ref (a 0)), (1, .ref w)] rfl rfl (by decide) (Nat.le_of_ble_eq_true rfl) ?_
  intro pW eW sW mW argsW belowW methW c9 C hr hT
  have C : CX g RL cL_loudestVoice 3 _ pW sW mW argsW methW c9 := C
  refine x_aload_n C dL_loudestVoice_0 rfl 1 rfl ?_
  refine x_iconst (v := 0) C dL_loudestVoice_1 (by decide) ?_
  refine x_aload_n C dL_loudestVoice_2 rfl 0 rfl ?_
  obtain ⟨u1, hu1, hf⟩ := x_b hf
  refine x_xcallV (n := 0) (As := []) (rest := [.int (0 : Int32), .ref w]) C (c_X9_loudestVoice g l hl a b y z v c hu1) ⟨⟨wd_1246, wd_1243, wd_65⟩, ⟨by decide, by decide, by decide⟩, rfl, rfl, Nat.le_of_ble_eq_true rfl, Nat.le_of_ble_eq_true rfl⟩ wd_1244 wd_1245 ⟨0, 10, _, _, rfl, rfl, rfl⟩ [loW g w lo] (x_pickD [0, 1, 2, 3] 4 rfl rfl rfl) rfl rfl (Nat.le_of_ble_eq_true rfl) ⟨Nat.le_of_ble_eq_true rfl, Nat.le_of_ble_eq_true rfl⟩ dL_loudestVoice_3 (fun E9 w9 hX9 => ?_) (fun v9 w9 hQ9 => ?_)
  · obtain ⟨k9, hk9, rfl, rfl⟩ := hX9
    have hf := x_sl hk9 hf
    refine x_goX (wss2 := [ccO g a b y z, stO g a 10 v, cdW g a 10 c, loW g w lo]) rfl rfl ?_
    by_cases e3 : k9 = 4
    · subst e3
      have hf := x_t rfl hf
      refine x_catch (E := "java/util/NoSuchElementException") C hT 0 rfl ⟨by decide, by decide⟩ (by decide) wd_1174 (by decide) (fun x hx => by cases hx) (fun q9 => ?_)
      refine x_astore_n (lv' := [(2, .ref q9), (0, .ref (a 0)), (1, .ref w)]) C dL_loudestVoice_11 rfl (by decide) rfl ?_
      refine x_iconst (v := 1) C dL_loudestVoice_12 (by decide) ?_
      refine x_widen (k := 1) (n := 6) (by omega) (by omega) ?_
      refine x_vx ?_
      exact x_iret C hr ⟨by cases hf; rfl, by cases hf; rfl⟩ dL_loudestVoice_13
    · have hf := x_f e3 hf
      cases hf
  · obtain ⟨r2, hr9, rfl, rfl⟩ := hQ9
    have hf := x_sr hr9 hf
    refine x_goW (wss2 := [ccO g a b y z, stO g a 10 v, cdW g a 10 c, loW g w lo]) (stk2 := [.int r2, .int (0 : Int32), .ref w]) rfl rfl rfl ?_
    refine x_i2l C dL_loudestVoice_6 rfl ?_
    obtain ⟨h4, hf⟩ := x_n hf
    refine x_last (b := loW g w lo) (b' := loW g w (vp_updL lo (0 : Int32).toNatClampNeg r2.toInt64)) (wss' := [ccO g a b y z, stO g a 10 v, cdW g a 10 c, loW g w (vp_updL lo (0 : Int32).toNatClampNeg r2.toInt64)]) C 3 rfl 0 (loW_at0 g w _) h4 rfl rfl dL_loudestVoice_7 ?_
    refine x_goto (tgt := 14) C dL_loudestVoice_8 (by decide) ?_
    refine x_iconst (v := 0) C dL_loudestVoice_14 (by decide) ?_
    refine x_widen (k := 1) (n := 6) (Nat.le_of_ble_eq_true rfl) (Nat.le_of_ble_eq_true rfl) ?_
    refine x_vx ?_
    exact x_iret C hr ⟨by cases hf; rfl, by cases hf; rfl⟩ dL_loudestVoice_15
theorem wd_1257 : Cond.classLink RL 98 "java/lang/ArithmeticException" ∈ xTB := xTB_in 1257 (by decide +kernel) (by decide +kernel)
theorem wd_1271 : Cond.methodLink RL 94 yX9_meanWax ∈ xTB := xTB_in 1271 (by decide +kernel) (by decide +kernel)
theorem wd_1272 : Cond.instanceMethod yX9_meanWax ∈ xTB := xTB_in 1272 (by decide +kernel) (by decide +kernel)
theorem wd_1273 : Cond.selects yX9_meanWax.cls yX9_meanWax yX9_meanWax ∈ xTB := xTB_in 1273 (by decide +kernel) (by decide +kernel)
theorem wd_1274 : Cond.code yX9_meanWax cX9_meanWax 1 (some .double) ∈ xTB := xTB_in 1274 (by decide +kernel) (by decide +kernel)
theorem dL_meanWax_0 : decode cL_meanWax 0 = .ok (.aload_n 1, 1) := by decide +kernel
theorem dL_meanWax_1 : decode cL_meanWax 1 = .ok (.iconst 0, 1) := by decide +kernel
theorem dL_meanWax_2 : decode cL_meanWax 2 = .ok (.aload_n 0, 1) := by decide +kernel
theorem dL_meanWax_3 : decode cL_meanWax 3 = .ok (.invokevirtual 94, 3) := by decide +kernel
theorem dL_meanWax_6 : decode cL_meanWax 6 = .ok (.dastore, 1) := by decide +kernel
theorem dL_meanWax_7 : decode cL_meanWax 7 = .ok (.goto 6, 3) := by decide +kernel
theorem dL_meanWax_10 : decode cL_meanWax 10 = .ok (.astore_n 2, 1) := by decide +kernel
theorem dL_meanWax_11 : decode cL_meanWax 11 = .ok (.iconst 1, 1) := by decide +kernel
theorem dL_meanWax_12 : decode cL_meanWax 12 = .ok (.ireturn, 1) := by decide +kernel
theorem dL_meanWax_13 : decode cL_meanWax 13 = .ok (.iconst 0, 1) := by decide +kernel
theorem dL_meanWax_14 : decode cL_meanWax 14 = .ok (.ireturn, 1) := by decide +kernel
set_option maxHeartbeats 4000000 in
set_option maxRecDepth 100000 in
theorem c_L_meanWax (g : xG) (l : Launch) (hl : l.stackTraces = false) (a : Nat → Nat) (b : Nat → Nat) (y : Nat) (w2 : Nat) (z : CcT) (v : StS) (c : CdT) (dd : (Nat → UInt64))  {u : Int32 × (Nat → UInt64)} (hf : f_L_meanWax z v c dd = some u) : ConH g l yL_meanWax cL_meanWax 3 (some .int) [(0, 7, 10, 98)] ({ frames := 7, cells := 1, slots := 6, locals := 110 } : Room) [.ref (a 0), .ref w2] ([ccO g a b y z, stO g a 10 v, cdW g a 10 c, doW g w2 dd] : List va_W).flatten (fun v9 w9 => v9 = some (.int u.1) ∧ w9 = ([ccO g a b y z, stO g a 10 v, cdW g a 10 c, doW g w2 u.2] : List va_W).flatten) 1 6 := by
  unfold f_L_meanWax at hf
  refine ConH_of [ccO g a b y z, stO g a 10 v, cdW g a 10 c, doW g w2 dd] [(0, .ref (a 0)), (1, .ref w2)] rfl rfl (by decide) (Nat.le_of_ble_eq_true rfl) ?_
  intro pW eW sW mW argsW belowW methW c9 C hr hT
  have C : CX g RL cL_meanWax 3 _ pW sW mW argsW methW c9 := C
  refine x_aload_n C dL_meanWax_0 rfl 1 rfl ?_
  refine x_iconst (v := 0) C dL_meanWax_1 (by decide) ?_
  refine x_aload_n C dL_meanWax_2 rfl 0 rfl ?_
  obtain ⟨u1, hu1, hf⟩ := x_b hf
  refine x_xcallV (n := 0) (As := []) (rest := [.int (0 : Int32), .ref w2]) C (c_X9_meanWax g l hl a b y z v c hu1) ⟨⟨wd_1274, wd_1271, wd_65⟩, ⟨by decide, by decide, by decide⟩, rfl, rfl, Nat.le_of_ble_eq_true rfl, Nat.le_of_ble_eq_true rfl⟩ wd_1272 wd_1273 ⟨0, 10, _, _, rfl, rfl, rfl⟩ [doW g w2 dd] (x_pickD [0, 1, 2, 3] 4 rfl rfl rfl) rfl rfl (Nat.le_of_ble_eq_true rfl) ⟨Nat.le_of_ble_eq_true rfl, Nat.le_of_ble_eq_true rfl⟩ dL_meanWax_3 (fun E9 w9 hX9 => ?_) (fun v9 w9 hQ9 => ?_)
  · obtain ⟨k9, hk9, rfl, rfl⟩ := hX9
    have hf := x_sl hk9 hf
    refine x_goX (wss2 := [ccO g a b y z, stO g a 10 v, cdW g a 10 c, doW g w2 dd]) rfl rfl ?_
    by_cases e3 : k9 = 5
    · subst e3
      have hf := x_t rfl hf
      refine x_catch (E := "java/lang/ArithmeticException") C hT 0 rfl ⟨by decide, by decide⟩ (by decide) wd_1257 (by decide) (fun x hx => by cases hx) (fun q9 => ?_)
      refine x_astore_n (lv' := [(2, .ref q9), (0, .ref (a 0)), (1, .ref w2)]) C dL_meanWax_10 rfl (by decide) rfl ?_
      refine x_iconst (v := 1) C dL_meanWax_11 (by decide) ?_
      refine x_widen (k := 1) (n := 6) (by omega) (by omega) ?_
      refine x_vx ?_
      exact x_iret C hr ⟨by cases hf; rfl, by cases hf; rfl⟩ dL_meanWax_12
    · have hf := x_f e3 hf
      cases hf
  · obtain ⟨r2, hr9, rfl, rfl⟩ := hQ9
    have hf := x_sr hr9 hf
    refine x_goW (wss2 := [ccO g a b y z, stO g a 10 v, cdW g a 10 c, doW g w2 dd]) (stk2 := [.double r2, .int (0 : Int32), .ref w2]) rfl rfl rfl ?_
    obtain ⟨h4, hf⟩ := x_n hf
    refine x_dast (b := doW g w2 dd) (b' := doW g w2 (vf_upd dd (0 : Int32).toNatClampNeg r2)) (wss' := [ccO g a b y z, stO g a 10 v, cdW g a 10 c, doW g w2 (vf_upd dd (0 : Int32).toNatClampNeg r2)]) C 3 rfl 0 (doW_at0 g w2 _) h4 rfl rfl dL_meanWax_6 ?_
    refine x_goto (tgt := 13) C dL_meanWax_7 (by decide) ?_
    refine x_iconst (v := 0) C dL_meanWax_13 (by decide) ?_
    refine x_widen (k := 1) (n := 6) (Nat.le_of_ble_eq_true rfl) (Nat.le_of_ble_eq_true rfl) ?_
    refine x_vx ?_
    exact x_iret C hr ⟨by cases hf; rfl, by cases hf; rfl⟩ dL_meanWax_14
theorem wd_1281 : Cond.methodLink RL 100 yX9_litShare ∈ xTB := xTB_in 1281 (by decide +kernel) (by decide +kernel)
theorem wd_1282 : Cond.instanceMethod yX9_litShare ∈ xTB := xTB_in 1282 (by decide +kernel) (by decide +kernel)
theorem wd_1283 : Cond.selects yX9_litShare.cls yX9_litShare yX9_litShare ∈ xTB := xTB_in 1283 (by decide +kernel) (by decide +kernel)
theorem wd_1284 : Cond.code yX9_litShare cX9_litShare 1 (some .float) ∈ xTB := xTB_in 1284 (by decide +kernel) (by decide +kernel)
theorem dL_litShare_0 : decode cL_litShare 0 = .ok (.aload_n 1, 1) := by decide +kernel
theorem dL_litShare_1 : decode cL_litShare 1 = .ok (.iconst 0, 1) := by decide +kernel
theorem dL_litShare_2 : decode cL_litShare 2 = .ok (.aload_n 0, 1) := by decide +kernel
theorem dL_litShare_3 : decode cL_litShare 3 = .ok (.invokevirtual 100, 3) := by decide +kernel
theorem dL_litShare_6 : decode cL_litShare 6 = .ok (.f2d, 1) := by decide +kernel
theorem dL_litShare_7 : decode cL_litShare 7 = .ok (.dastore, 1) := by decide +kernel
theorem dL_litShare_8 : decode cL_litShare 8 = .ok (.goto 6, 3) := by decide +kernel
theorem dL_litShare_11 : decode cL_litShare 11 = .ok (.astore_n 2, 1) := by decide +kernel
theorem dL_litShare_12 : decode cL_litShare 12 = .ok (.iconst 1, 1) := by decide +kernel
theorem dL_litShare_13 : decode cL_litShare 13 = .ok (.ireturn, 1) := by decide +kernel
theorem dL_litShare_14 : decode cL_litShare 14 = .ok (.iconst 0, 1) := by decide +kernel
theorem dL_litShare_15 : decode cL_litShare 15 = .ok (.ireturn, 1) := by decide +kernel
set_option maxHeartbeats 4000000 in
set_option maxRecDepth 100000 in
theorem c_L_litShare (g : xG) (l : Launch) (hl : l.stackTraces = false) (a : Nat → Nat) (b : Nat → Nat) (y : Nat) (w2 : Nat) (z : CcT) (v : StS) (c : CdT) (dd : (Nat → UInt64))  {u : Int32 × (Nat → UInt64)} (hf : f_L_litShare z v c dd = some u) : ConH g l yL_litShare cL_litShare 3 (some .int) [(0, 8, 11, 98)] ({ frames := 7, cells := 1, slots := 6, locals := 110 } : Room) [.ref (a 0), .ref w2] ([ccO g a b y z, stO g a 10 v, cdW g a 10 c, doW g w2 dd] : List va_W).flatten (fun v9 w9 => v9 = some (.int u.1) ∧ w9 = ([ccO g a b y z, stO g a 10 v, cdW g a 10 c, doW g w2 u.2] : List va_W).flatten) 1 6 := by
  unfold f_L_litShare at hf
  refine ConH_of [ccO g a b y z, stO g a 10 v, cdW g a 10 c, doW g w2 dd] [(0, .ref (a 0)), (1, .ref w2)] rfl rfl (by decide) (Nat.le_of_ble_eq_true rfl) ?_
  intro pW eW sW mW argsW belowW methW c9 C hr hT
  have C : CX g RL cL_litShare 3 _ pW sW mW argsW methW c9 := C
  refine x_aload_n C dL_litShare_0 rfl 1 rfl ?_
  refine x_iconst (v := 0) C dL_litShare_1 (by decide) ?_
  refine x_aload_n C dL_litShare_2 rfl 0 rfl ?_
  obtain ⟨u1, hu1, hf⟩ := x_b hf
  refine x_xcallV (n := 0) (As := []) (rest := [.int (0 : Int32), .ref w2]) C (c_X9_litShare g l hl a b y z v c hu1) ⟨⟨wd_1284, wd_1281, wd_65⟩, ⟨by decide, by decide, by decide⟩, rfl, rfl, Nat.le_of_ble_eq_true rfl, Nat.le_of_ble_eq_true rfl⟩ wd_1282 wd_1283 ⟨0, 10, _, _, rfl, rfl, rfl⟩ [doW g w2 dd] (x_pickD [0, 1, 2, 3] 4 rfl rfl rfl) rfl rfl (Nat.le_of_ble_eq_true rfl) ⟨Nat.le_of_ble_eq_true rfl, Nat.le_of_ble_eq_true rfl⟩ dL_litShare_3 (fun E9 w9 hX9 => ?_) (fun v9 w9 hQ9 => ?_)
  · obtain ⟨k9, hk9, rfl, rfl⟩ := hX9
    have hf := x_sl hk9 hf
    refine x_goX (wss2 := [ccO g a b y z, stO g a 10 v, cdW g a 10 c, doW g w2 dd]) rfl rfl ?_
    by_cases e3 : k9 = 5
    · subst e3
      have hf := x_t rfl hf
      refine x_catch (E := "java/lang/ArithmeticException") C hT 0 rfl ⟨by decide, by decide⟩ (by decide) wd_1257 (by decide) (fun x hx => by cases hx) (fun q9 => ?_)
      refine x_astore_n (lv' := [(2, .ref q9), (0, .ref (a 0)), (1, .ref w2)]) C dL_litShare_11 rfl (by decide) rfl ?_
      refine x_iconst (v := 1) C dL_litShare_12 (by decide) ?_
      refine x_widen (k := 1) (n := 6) (by omega) (by omega) ?_
      refine x_vx ?_
      exact x_iret C hr ⟨by cases hf; rfl, by cases hf; rfl⟩ dL_litShare_13
    · have hf := x_f e3 hf
      cases hf
  · obtain ⟨r2, hr9, rfl, rfl⟩ := hQ9
    have hf := x_sr hr9 hf
    refine x_goW (wss2 := [ccO g a b y z, stO g a 10 v, cdW g a 10 c, doW g w2 dd]) (stk2 := [.float r2, .int (0 : Int32), .ref w2]) rfl rfl rfl ?_
    obtain ⟨h4, hf⟩ := x_y hf
    refine x_f2d C dL_litShare_6 h4 ?_
    obtain ⟨h5, hf⟩ := x_n hf
    refine x_dast (b := doW g w2 dd) (b' := doW g w2 (vf_upd dd (0 : Int32).toNatClampNeg (FP.f2d r2))) (wss' := [ccO g a b y z, stO g a 10 v, cdW g a 10 c, doW g w2 (vf_upd dd (0 : Int32).toNatClampNeg (FP.f2d r2))]) C 3 rfl 0 (doW_at0 g w2 _) h5 rfl rfl dL_litShare_7 ?_
    refine x_goto (tgt := 14) C dL_litShare_8 (by decide) ?_
    refine x_iconst (v := 0) C dL_litShare_14 (by decide) ?_
    refine x_widen (k := 1) (n := 6) (Nat.le_of_ble_eq_true rfl) (Nat.le_of_ble_eq_true rfl) ?_
    refine x_vx ?_
    exact x_iret C hr ⟨by cases hf; rfl, by cases hf; rfl⟩ dL_litShare_15
theorem wd_1288 : Cond.methodLink RL 104 yX9_writeCandle ∈ xTB := xTB_in 1288 (by decide +kernel) (by decide +kernel)
theorem wd_1289 : Cond.instanceMethod yX9_writeCandle ∈ xTB := xTB_in 1289 (by decide +kernel) (by decide +kernel)
theorem wd_1290 : Cond.selects yX9_writeCandle.cls yX9_writeCandle yX9_writeCandle ∈ xTB := xTB_in 1290 (by decide +kernel) (by decide +kernel)
theorem wd_1291 : Cond.code yX9_writeCandle cX9_writeCandle 2 (some .int) ∈ xTB := xTB_in 1291 (by decide +kernel) (by decide +kernel)
theorem dL_writeCandle_0 : decode cL_writeCandle 0 = .ok (.aload_n 2, 1) := by decide +kernel
theorem dL_writeCandle_1 : decode cL_writeCandle 1 = .ok (.iconst 0, 1) := by decide +kernel
theorem dL_writeCandle_2 : decode cL_writeCandle 2 = .ok (.aload_n 0, 1) := by decide +kernel
theorem dL_writeCandle_3 : decode cL_writeCandle 3 = .ok (.iload_n 1, 1) := by decide +kernel
theorem dL_writeCandle_4 : decode cL_writeCandle 4 = .ok (.invokevirtual 104, 3) := by decide +kernel
theorem dL_writeCandle_7 : decode cL_writeCandle 7 = .ok (.i2l, 1) := by decide +kernel
theorem dL_writeCandle_8 : decode cL_writeCandle 8 = .ok (.lastore, 1) := by decide +kernel
theorem dL_writeCandle_9 : decode cL_writeCandle 9 = .ok (.goto 6, 3) := by decide +kernel
theorem dL_writeCandle_12 : decode cL_writeCandle 12 = .ok (.astore_n 3, 1) := by decide +kernel
theorem dL_writeCandle_13 : decode cL_writeCandle 13 = .ok (.iconst 1, 1) := by decide +kernel
theorem dL_writeCandle_14 : decode cL_writeCandle 14 = .ok (.ireturn, 1) := by decide +kernel
theorem dL_writeCandle_15 : decode cL_writeCandle 15 = .ok (.iconst 0, 1) := by decide +kernel
theorem dL_writeCandle_16 : decode cL_writeCandle 16 = .ok (.ireturn, 1) := by decide +kernel
set_option maxHeartbeats 4000000 in
set_option maxRecDepth 100000 in
theorem c_L_writeCandle (g : xG) (l : Launch) (hl : l.stackTraces = false) (a : Nat → Nat) (b : Nat → Nat) (y : Nat) (zz : Nat) (n : Nat) (w : Nat) (z : CcT) (v : StS) (c : CdT) (k : SbT) (f : (Nat → Int32)) (lo : (Nat → Int64)) (x1 : Int32) {u : Int32 × SbT × (Nat → Int32) × (Nat → Int64) × Nat} (hf : f_L_writeCandle n z v c k f lo x1 = some u) : ConH g l yL_writeCandle cL_writeCandle 4 (some .int) [(0, 9, 12, 21)] ({ frames := 11, cells := 292, slots := 5516, locals := 321 } : Room) [.ref (a 0), .int x1, .ref w] ([ccO g a b y z, stO g a 10 v, cdW g a 10 c, sbO g y zz k, baW g zz n f, loW g w lo] : List va_W).flatten (fun v9 w9 => v9 = some (.int u.1) ∧ ∃ z9 : Nat, w9 = ([ccO g a b y z, stO g a 10 v, cdW g a 10 c, sbO g y z9 u.2.1, baW g z9 u.2.2.2.2 u.2.2.1, loW g w u.2.2.2.1] : List va_W).flatten) 292 5516 := by
  unfold f_L_writeCandle at hf
  refine ConH_of [ccO g a b y z, stO g a 10 v, cdW g a 10 c, sbO g y zz k, baW g zz n f, loW g w lo] [(0, .ref (a 0)), (1, .int x1), (2, .ref w)] rfl rfl (by decide) (Nat.le_of_ble_eq_true rfl) ?_
  intro pW eW sW mW argsW belowW methW c9 C hr hT
  have C : CX g RL cL_writeCandle 4 _ pW sW mW argsW methW c9 := C
  refine x_aload_n C dL_writeCandle_0 rfl 2 rfl ?_
  refine x_iconst (v := 0) C dL_writeCandle_1 (by decide) ?_
  refine x_aload_n C dL_writeCandle_2 rfl 0 rfl ?_
  refine x_iload_n C dL_writeCandle_3 rfl 1 rfl ?_
  obtain ⟨u1, hu1, hf⟩ := x_b hf
  refine x_xcallV (n := 1) (As := [.int x1]) (rest := [.int (0 : Int32), .ref w]) C (c_X9_writeCandle g l hl a b y zz n z v c k f x1 hu1) ⟨⟨wd_1291, wd_1288, wd_65⟩, ⟨by decide, by decide, by decide⟩, rfl, rfl, Nat.le_of_ble_eq_true rfl, Nat.le_of_ble_eq_true rfl⟩ wd_1289 wd_1290 ⟨0, 10, _, _, rfl, rfl, rfl⟩ [loW g w lo] (x_pickD [0, 1, 2, 3, 4, 5] 6 rfl rfl rfl) rfl rfl (Nat.le_of_ble_eq_true rfl) ⟨Nat.le_of_ble_eq_true rfl, Nat.le_of_ble_eq_true rfl⟩ dL_writeCandle_4 (fun E9 w9 hX9 => ?_) (fun v9 w9 hQ9 => ?_)
  · obtain ⟨k9, hk9, rfl, z3, rfl⟩ := hX9
    have hf := x_sl hk9 hf
    refine x_goX (wss2 := [ccO g a b y z, stO g a 10 v, cdW g a 10 c, sbO g y z3 u1.2.1, baW g z3 u1.2.2.2 u1.2.2.1, loW g w lo]) rfl rfl ?_
    by_cases e4 : k9 = 2
    · subst e4
      have hf := x_t rfl hf
      obtain ⟨h290, hf⟩ := x_y hf
      refine x_catch (E := "java/lang/IndexOutOfBoundsException") C hT 0 rfl ⟨by decide, by decide⟩ (by decide) wd_987 (by decide) (fun x hx => by cases hx) (fun q9 => ?_)
      refine x_astore_n (lv' := [(3, .ref q9), (0, .ref (a 0)), (1, .int x1), (2, .ref w)]) C dL_writeCandle_12 rfl (by decide) rfl ?_
      refine x_iconst (v := 1) C dL_writeCandle_13 (by decide) ?_
      refine x_widen (k := 292) (n := 5516) (by omega) (by omega) ?_
      refine x_vx ?_
      exact x_iret C hr ⟨by cases hf; rfl, z3, by cases hf; rfl⟩ dL_writeCandle_14
    · have hf := x_f e4 hf
      cases hf
  · obtain ⟨r2, hr9, rfl, z3, rfl⟩ := hQ9
    have hf := x_sr hr9 hf
    refine x_goW (wss2 := [ccO g a b y z, stO g a 10 v, cdW g a 10 c, sbO g y z3 u1.2.1, baW g z3 u1.2.2.2 u1.2.2.1, loW g w lo]) (stk2 := [.int r2, .int (0 : Int32), .ref w]) rfl rfl rfl ?_
    refine x_i2l C dL_writeCandle_7 rfl ?_
    obtain ⟨h5, hf⟩ := x_n hf
    refine x_last (b := loW g w lo) (b' := loW g w (vp_updL lo (0 : Int32).toNatClampNeg r2.toInt64)) (wss' := [ccO g a b y z, stO g a 10 v, cdW g a 10 c, sbO g y z3 u1.2.1, baW g z3 u1.2.2.2 u1.2.2.1, loW g w (vp_updL lo (0 : Int32).toNatClampNeg r2.toInt64)]) C 5 rfl 0 (loW_at0 g w _) h5 rfl rfl dL_writeCandle_8 ?_
    refine x_goto (tgt := 15) C dL_writeCandle_9 (by decide) ?_
    refine x_iconst (v := 0) C dL_writeCandle_15 (by decide) ?_
    obtain ⟨h6, hf⟩ := x_y hf
    refine x_widen (k := 292) (n := 5516) (by omega) (by omega) ?_
    refine x_vx ?_
    exact x_iret C hr ⟨by cases hf; rfl, z3, by cases hf; rfl⟩ dL_writeCandle_16
theorem wd_1295 : Cond.methodLink RL 107 yX9_charAt ∈ xTB := xTB_in 1295 (by decide +kernel) (by decide +kernel)
theorem wd_1296 : Cond.instanceMethod yX9_charAt ∈ xTB := xTB_in 1296 (by decide +kernel) (by decide +kernel)
theorem wd_1297 : Cond.selects yX9_charAt.cls yX9_charAt yX9_charAt ∈ xTB := xTB_in 1297 (by decide +kernel) (by decide +kernel)
theorem wd_1298 : Cond.code yX9_charAt cX9_charAt 2 (some .char) ∈ xTB := xTB_in 1298 (by decide +kernel) (by decide +kernel)
theorem dL_charAt_0 : decode cL_charAt 0 = .ok (.aload_n 2, 1) := by decide +kernel
theorem dL_charAt_1 : decode cL_charAt 1 = .ok (.iconst 0, 1) := by decide +kernel
theorem dL_charAt_2 : decode cL_charAt 2 = .ok (.aload_n 0, 1) := by decide +kernel
theorem dL_charAt_3 : decode cL_charAt 3 = .ok (.iload_n 1, 1) := by decide +kernel
theorem dL_charAt_4 : decode cL_charAt 4 = .ok (.invokevirtual 107, 3) := by decide +kernel
theorem dL_charAt_7 : decode cL_charAt 7 = .ok (.i2l, 1) := by decide +kernel
theorem dL_charAt_8 : decode cL_charAt 8 = .ok (.lastore, 1) := by decide +kernel
theorem dL_charAt_9 : decode cL_charAt 9 = .ok (.goto 6, 3) := by decide +kernel
theorem dL_charAt_12 : decode cL_charAt 12 = .ok (.astore_n 3, 1) := by decide +kernel
theorem dL_charAt_13 : decode cL_charAt 13 = .ok (.iconst 1, 1) := by decide +kernel
theorem dL_charAt_14 : decode cL_charAt 14 = .ok (.ireturn, 1) := by decide +kernel
theorem dL_charAt_15 : decode cL_charAt 15 = .ok (.iconst 0, 1) := by decide +kernel
theorem dL_charAt_16 : decode cL_charAt 16 = .ok (.ireturn, 1) := by decide +kernel
set_option maxHeartbeats 4000000 in
set_option maxRecDepth 100000 in
theorem c_L_charAt (g : xG) (l : Launch) (hl : l.stackTraces = false) (a : Nat → Nat) (b : Nat → Nat) (y : Nat) (zz : Nat) (n : Nat) (w : Nat) (z : CcT) (k : SbT) (f : (Nat → Int32)) (lo : (Nat → Int64)) (x1 : Int32) {u : Int32 × (Nat → Int64)} (hf : f_L_charAt n z k f lo x1 = some u) : ConH g l yL_charAt cL_charAt 4 (some .int) [(0, 9, 12, 21)] ({ frames := 7, cells := 1, slots := 6, locals := 111 } : Room) [.ref (a 0), .int x1, .ref w] ([ccO g a b y z, sbO g y zz k, baW g zz n f, loW g w lo] : List va_W).flatten (fun v9 w9 => v9 = some (.int u.1) ∧ w9 = ([ccO g a b y z, sbO g y zz k, baW g zz n f, loW g w u.2] : List va_W).flatten) 1 6 := by
  unfold f_L_charAt at hf
  refine ConH_of [ccO g a b y z, sbO g y zz k, baW g zz n f, loW g w lo] [(0, .ref (a 0)), (1, .int x1), (2, .ref w)] rfl rfl (by decide) (Nat.le_of_ble_eq_true rfl) ?_
  intro pW eW sW mW argsW belowW methW c9 C hr hT
  have C : CX g RL cL_charAt 4 _ pW sW mW argsW methW c9 := C
  refine x_aload_n C dL_charAt_0 rfl 2 rfl ?_
  refine x_iconst (v := 0) C dL_charAt_1 (by decide) ?_
  refine x_aload_n C dL_charAt_2 rfl 0 rfl ?_
  refine x_iload_n C dL_charAt_3 rfl 1 rfl ?_
  obtain ⟨u1, hu1, hf⟩ := x_b hf
  refine x_xcallV (n := 1) (As := [.int x1]) (rest := [.int (0 : Int32), .ref w]) C (c_X9_charAt g l hl a b y zz n z k f x1 hu1) ⟨⟨wd_1298, wd_1295, wd_65⟩, ⟨by decide, by decide, by decide⟩, rfl, rfl, Nat.le_of_ble_eq_true rfl, Nat.le_of_ble_eq_true rfl⟩ wd_1296 wd_1297 ⟨0, 10, _, _, rfl, rfl, rfl⟩ [loW g w lo] (x_pickD [0, 1, 2, 3] 4 rfl rfl rfl) rfl rfl (Nat.le_of_ble_eq_true rfl) ⟨Nat.le_of_ble_eq_true rfl, Nat.le_of_ble_eq_true rfl⟩ dL_charAt_4 (fun E9 w9 hX9 => ?_) (fun v9 w9 hQ9 => ?_)
  · obtain ⟨k9, hk9, rfl, rfl⟩ := hX9
    have hf := x_sl hk9 hf
    refine x_goX (wss2 := [ccO g a b y z, sbO g y zz k, baW g zz n f, loW g w lo]) rfl rfl ?_
    by_cases e3 : k9 = 2
    · subst e3
      have hf := x_t rfl hf
      refine x_catch (E := "java/lang/IndexOutOfBoundsException") C hT 0 rfl ⟨by decide, by decide⟩ (by decide) wd_987 (by decide) (fun x hx => by cases hx) (fun q9 => ?_)
      refine x_astore_n (lv' := [(3, .ref q9), (0, .ref (a 0)), (1, .int x1), (2, .ref w)]) C dL_charAt_12 rfl (by decide) rfl ?_
      refine x_iconst (v := 1) C dL_charAt_13 (by decide) ?_
      refine x_widen (k := 1) (n := 6) (by omega) (by omega) ?_
      refine x_vx ?_
      exact x_iret C hr ⟨by cases hf; rfl, by cases hf; rfl⟩ dL_charAt_14
    · have hf := x_f e3 hf
      cases hf
  · obtain ⟨r2, hr9, rfl, rfl⟩ := hQ9
    have hf := x_sr hr9 hf
    refine x_goW (wss2 := [ccO g a b y z, sbO g y zz k, baW g zz n f, loW g w lo]) (stk2 := [.int r2, .int (0 : Int32), .ref w]) rfl rfl rfl ?_
    refine x_i2l C dL_charAt_7 rfl ?_
    obtain ⟨h4, hf⟩ := x_n hf
    refine x_last (b := loW g w lo) (b' := loW g w (vp_updL lo (0 : Int32).toNatClampNeg r2.toInt64)) (wss' := [ccO g a b y z, sbO g y zz k, baW g zz n f, loW g w (vp_updL lo (0 : Int32).toNatClampNeg r2.toInt64)]) C 3 rfl 0 (loW_at0 g w _) h4 rfl rfl dL_charAt_8 ?_
    refine x_goto (tgt := 15) C dL_charAt_9 (by decide) ?_
    refine x_iconst (v := 0) C dL_charAt_15 (by decide) ?_
    refine x_widen (k := 1) (n := 6) (Nat.le_of_ble_eq_true rfl) (Nat.le_of_ble_eq_true rfl) ?_
    refine x_vx ?_
    exact x_iret C hr ⟨by cases hf; rfl, by cases hf; rfl⟩ dL_charAt_16
theorem wd_1313 : Cond.methodLink RL 110 yX9_type ∈ xTB := xTB_in 1313 (by decide +kernel) (by decide +kernel)
theorem wd_1314 : Cond.instanceMethod yX9_type ∈ xTB := xTB_in 1314 (by decide +kernel) (by decide +kernel)
theorem wd_1315 : Cond.selects yX9_type.cls yX9_type yX9_type ∈ xTB := xTB_in 1315 (by decide +kernel) (by decide +kernel)
theorem wd_1316 : Cond.code yX9_type cX9_type 2 (some .int) ∈ xTB := xTB_in 1316 (by decide +kernel) (by decide +kernel)
theorem dL_type_0 : decode cL_type 0 = .ok (.aload_n 2, 1) := by decide +kernel
theorem dL_type_1 : decode cL_type 1 = .ok (.iconst 0, 1) := by decide +kernel
theorem dL_type_2 : decode cL_type 2 = .ok (.aload_n 0, 1) := by decide +kernel
theorem dL_type_3 : decode cL_type 3 = .ok (.iload_n 1, 1) := by decide +kernel
theorem dL_type_4 : decode cL_type 4 = .ok (.invokevirtual 110, 3) := by decide +kernel
theorem dL_type_7 : decode cL_type 7 = .ok (.i2l, 1) := by decide +kernel
theorem dL_type_8 : decode cL_type 8 = .ok (.lastore, 1) := by decide +kernel
theorem dL_type_9 : decode cL_type 9 = .ok (.goto 6, 3) := by decide +kernel
theorem dL_type_12 : decode cL_type 12 = .ok (.astore_n 3, 1) := by decide +kernel
theorem dL_type_13 : decode cL_type 13 = .ok (.iconst 1, 1) := by decide +kernel
theorem dL_type_14 : decode cL_type 14 = .ok (.ireturn, 1) := by decide +kernel
theorem dL_type_15 : decode cL_type 15 = .ok (.iconst 0, 1) := by decide +kernel
theorem dL_type_16 : decode cL_type 16 = .ok (.ireturn, 1) := by decide +kernel
set_option maxHeartbeats 4000000 in
set_option maxRecDepth 100000 in
theorem c_L_type (g : xG) (l : Launch) (hl : l.stackTraces = false) (a : Nat → Nat) (b : Nat → Nat) (y : Nat) (w : Nat) (z : CcT) (q : PrT) (lo : (Nat → Int64)) (x1 : Int32) {u : Int32 × PrT × (Nat → Int64)} (hf : f_L_type z q lo x1 = some u) : ConH g l yL_type cL_type 4 (some .int) [(0, 9, 12, 15)] ({ frames := 7, cells := 1, slots := 6, locals := 111 } : Room) [.ref (a 0), .int x1, .ref w] ([ccO g a b y z, prO g b q, loW g w lo] : List va_W).flatten (fun v9 w9 => v9 = some (.int u.1) ∧ w9 = ([ccO g a b y z, prO g b u.2.1, loW g w u.2.2] : List va_W).flatten) 1 6 := by
  unfold f_L_type at hf
  refine ConH_of [ccO g a b y z, prO g b q, loW g w lo] [(0, .ref (a 0)), (1, .int x1), (2, .ref w)] rfl rfl (by decide) (Nat.le_of_ble_eq_true rfl) ?_
  intro pW eW sW mW argsW belowW methW c9 C hr hT
  have C : CX g RL cL_type 4 _ pW sW mW argsW methW c9 := C
  refine x_aload_n C dL_type_0 rfl 2 rfl ?_
  refine x_iconst (v := 0) C dL_type_1 (by decide) ?_
  refine x_aload_n C dL_type_2 rfl 0 rfl ?_
  refine x_iload_n C dL_type_3 rfl 1 rfl ?_
  obtain ⟨u1, hu1, hf⟩ := x_b hf
  refine x_xcallV (n := 1) (As := [.int x1]) (rest := [.int (0 : Int32), .ref w]) C (c_X9_type g l hl a b y z q x1 hu1) ⟨⟨wd_1316, wd_1313, wd_65⟩, ⟨by decide, by decide, by decide⟩, rfl, rfl, Nat.le_of_ble_eq_true rfl, Nat.le_of_ble_eq_true rfl⟩ wd_1314 wd_1315 ⟨0, 10, _, _, rfl, rfl, rfl⟩ [loW g w lo] (x_pickD [0, 1, 2] 3 rfl rfl rfl) rfl rfl (Nat.le_of_ble_eq_true rfl) ⟨Nat.le_of_ble_eq_true rfl, Nat.le_of_ble_eq_true rfl⟩ dL_type_4 (fun E9 w9 hX9 => ?_) (fun v9 w9 hQ9 => ?_)
  · obtain ⟨k9, hk9, rfl, rfl⟩ := hX9
    have hf := x_sl hk9 hf
    refine x_goX (wss2 := [ccO g a b y z, prO g b u1.2, loW g w lo]) rfl rfl ?_
    by_cases e3 : k9 = 1
    · subst e3
      have hf := x_t rfl hf
      refine x_catch (E := "java/lang/IllegalStateException") C hT 0 rfl ⟨by decide, by decide⟩ (by decide) wd_887 (by decide) (fun x hx => by cases hx) (fun q9 => ?_)
      refine x_astore_n (lv' := [(3, .ref q9), (0, .ref (a 0)), (1, .int x1), (2, .ref w)]) C dL_type_12 rfl (by decide) rfl ?_
      refine x_iconst (v := 1) C dL_type_13 (by decide) ?_
      refine x_widen (k := 1) (n := 6) (by omega) (by omega) ?_
      refine x_vx ?_
      exact x_iret C hr ⟨by cases hf; rfl, by cases hf; rfl⟩ dL_type_14
    · have hf := x_f e3 hf
      cases hf
  · obtain ⟨r2, hr9, rfl, rfl⟩ := hQ9
    have hf := x_sr hr9 hf
    refine x_goW (wss2 := [ccO g a b y z, prO g b u1.2, loW g w lo]) (stk2 := [.int r2, .int (0 : Int32), .ref w]) rfl rfl rfl ?_
    refine x_i2l C dL_type_7 rfl ?_
    obtain ⟨h4, hf⟩ := x_n hf
    refine x_last (b := loW g w lo) (b' := loW g w (vp_updL lo (0 : Int32).toNatClampNeg r2.toInt64)) (wss' := [ccO g a b y z, prO g b u1.2, loW g w (vp_updL lo (0 : Int32).toNatClampNeg r2.toInt64)]) C 2 rfl 0 (loW_at0 g w _) h4 rfl rfl dL_type_8 ?_
    refine x_goto (tgt := 15) C dL_type_9 (by decide) ?_
    refine x_iconst (v := 0) C dL_type_15 (by decide) ?_
    refine x_widen (k := 1) (n := 6) (Nat.le_of_ble_eq_true rfl) (Nat.le_of_ble_eq_true rfl) ?_
    refine x_vx ?_
    exact x_iret C hr ⟨by cases hf; rfl, by cases hf; rfl⟩ dL_type_16
theorem wd_1330 : Cond.methodLink RL 113 yX9_run ∈ xTB := xTB_in 1330 (by decide +kernel) (by decide +kernel)
theorem wd_1331 : Cond.instanceMethod yX9_run ∈ xTB := xTB_in 1331 (by decide +kernel) (by decide +kernel)
theorem wd_1332 : Cond.selects yX9_run.cls yX9_run yX9_run ∈ xTB := xTB_in 1332 (by decide +kernel) (by decide +kernel)
theorem wd_1333 : Cond.code yX9_run cX9_run 3 (some .int) ∈ xTB := xTB_in 1333 (by decide +kernel) (by decide +kernel)
theorem dL_run_0 : decode cL_run 0 = .ok (.aload_n 1, 1) := by decide +kernel
theorem dL_run_1 : decode cL_run 1 = .ok (.iconst 0, 1) := by decide +kernel
theorem dL_run_2 : decode cL_run 2 = .ok (.aload_n 0, 1) := by decide +kernel
theorem dL_run_3 : decode cL_run 3 = .ok (.invokevirtual 113, 3) := by decide +kernel
theorem dL_run_6 : decode cL_run 6 = .ok (.i2l, 1) := by decide +kernel
theorem dL_run_7 : decode cL_run 7 = .ok (.lastore, 1) := by decide +kernel
theorem dL_run_8 : decode cL_run 8 = .ok (.goto 9, 3) := by decide +kernel
theorem dL_run_11 : decode cL_run 11 = .ok (.astore_n 2, 1) := by decide +kernel
theorem dL_run_12 : decode cL_run 12 = .ok (.iconst 1, 1) := by decide +kernel
theorem dL_run_13 : decode cL_run 13 = .ok (.ireturn, 1) := by decide +kernel
theorem dL_run_14 : decode cL_run 14 = .ok (.astore_n 2, 1) := by decide +kernel
theorem dL_run_15 : decode cL_run 15 = .ok (.iconst 2, 1) := by decide +kernel
theorem dL_run_16 : decode cL_run 16 = .ok (.ireturn, 1) := by decide +kernel
theorem dL_run_17 : decode cL_run 17 = .ok (.iconst 0, 1) := by decide +kernel
theorem dL_run_18 : decode cL_run 18 = .ok (.ireturn, 1) := by decide +kernel
set_option maxHeartbeats 4000000 in
set_option maxRecDepth 100000 in
theorem c_L_run (g : xG) (l : Launch) (hl : l.stackTraces = false) (a : Nat → Nat) (b : Nat → Nat) (y : Nat) (w : Nat) (z : CcT) (v : StS) (c : CdT) (e : EvT) (v2 : StS) (c2 : CdT) (e2 : EvT) (h : HiT) (t : Unit) (vs : (Nat → StS)) (cs : (Nat → CdT)) (es : (Nat → EvT)) (q : PrT) (t2 : Unit) (ws : (Nat → CmT)) (lo : (Nat → Int64))  {u : Int32 × CcT × StS × CdT × EvT × StS × CdT × EvT × HiT × (Nat → StS) × (Nat → CdT) × (Nat → EvT) × PrT × (Nat → CmT) × (Nat → Int64)} (hf : f_L_run z v c e v2 c2 e2 h t vs cs es q t2 ws lo = some u) : ConH g l yL_run cL_run 3 (some .int) [(0, 8, 11, 13), (0, 8, 14, 23)] ({ frames := 9, cells := 1, slots := 6, locals := 192 } : Room) [.ref (a 0), .ref w] ([ccO g a b y z, stO g a 10 v, cdW g a 10 c, evW g a 10 e, stO g a 20 v2, cdW g a 20 c2, evW g a 20 e2, hiO g a h, hrW g a t, stF g a vs, cdF g a cs, evF g a es, prO g b q, caW g b t2, cmF g b ws, loW g w lo] : List va_W).flatten (fun v9 w9 => v9 = some (.int u.1) ∧ w9 = ([ccO g a b y u.2.1, stO g a 10 u.2.2.1, cdW g a 10 u.2.2.2.1, evW g a 10 u.2.2.2.2.1, stO g a 20 u.2.2.2.2.2.1, cdW g a 20 u.2.2.2.2.2.2.1, evW g a 20 u.2.2.2.2.2.2.2.1, hiO g a u.2.2.2.2.2.2.2.2.1, hrW g a t, stF g a u.2.2.2.2.2.2.2.2.2.1, cdF g a u.2.2.2.2.2.2.2.2.2.2.1, evF g a u.2.2.2.2.2.2.2.2.2.2.2.1, prO g b u.2.2.2.2.2.2.2.2.2.2.2.2.1, caW g b t2, cmF g b u.2.2.2.2.2.2.2.2.2.2.2.2.2.1, loW g w u.2.2.2.2.2.2.2.2.2.2.2.2.2.2] : List va_W).flatten) 1 6 := by
  unfold f_L_run at hf
  refine ConH_of [ccO g a b y z, stO g a 10 v, cdW g a 10 c, evW g a 10 e, stO g a 20 v2, cdW g a 20 c2, evW g a 20 e2, hiO g a h, hrW g a t, stF g a vs, cdF g a cs, evF g a es, prO g b q, caW g b t2, cmF g b ws, loW g w lo] [(0, .ref (a 0)), (1, .ref w)] rfl rfl (by decide) (Nat.le_of_ble_eq_true rfl) ?_
  intro pW eW sW mW argsW belowW methW c9 C hr hT
  have C : CX g RL cL_run 3 _ pW sW mW argsW methW c9 := C
  refine x_aload_n C dL_run_0 rfl 1 rfl ?_
  refine x_iconst (v := 0) C dL_run_1 (by decide) ?_
  refine x_aload_n C dL_run_2 rfl 0 rfl ?_
  obtain ⟨u1, hu1, hf⟩ := x_b hf
  refine x_xcallV (n := 0) (As := []) (rest := [.int (0 : Int32), .ref w]) C (c_X9_run g l hl a b y z v c e v2 c2 e2 h t vs cs es q t2 ws hu1) ⟨⟨wd_1333, wd_1330, wd_65⟩, ⟨by decide, by decide, by decide⟩, rfl, rfl, Nat.le_of_ble_eq_true rfl, Nat.le_of_ble_eq_true rfl⟩ wd_1331 wd_1332 ⟨0, 10, _, _, rfl, rfl, rfl⟩ [loW g w lo] (x_pickD [0, 1, 2, 3, 4, 5, 6, 7, 8, 9, 10, 11, 12, 13, 14, 15] 16 rfl rfl rfl) rfl rfl (Nat.le_of_ble_eq_true rfl) ⟨Nat.le_of_ble_eq_true rfl, Nat.le_of_ble_eq_true rfl⟩ dL_run_3 (fun E9 w9 hX9 => ?_) (fun v9 w9 hQ9 => ?_)
  · obtain ⟨k9, hk9, rfl, rfl⟩ := hX9
    have hf := x_sl hk9 hf
    refine x_goX (wss2 := [ccO g a b y u1.2.1, stO g a 10 u1.2.2.1, cdW g a 10 u1.2.2.2.1, evW g a 10 u1.2.2.2.2.1, stO g a 20 u1.2.2.2.2.2.1, cdW g a 20 u1.2.2.2.2.2.2.1, evW g a 20 u1.2.2.2.2.2.2.2.1, hiO g a u1.2.2.2.2.2.2.2.2.1, hrW g a t, stF g a u1.2.2.2.2.2.2.2.2.2.1, cdF g a u1.2.2.2.2.2.2.2.2.2.2.1, evF g a u1.2.2.2.2.2.2.2.2.2.2.2.1, prO g b u1.2.2.2.2.2.2.2.2.2.2.2.2.1, caW g b t2, cmF g b u1.2.2.2.2.2.2.2.2.2.2.2.2.2, loW g w lo]) rfl rfl ?_
    by_cases e3 : k9 = 0
    · subst e3
      have hf := x_t rfl hf
      refine x_catch (E := "java/lang/IllegalArgumentException") C hT 0 rfl ⟨by decide, by decide⟩ (by decide) wd_886 (by decide) (fun x hx => by cases hx) (fun q9 => ?_)
      refine x_astore_n (lv' := [(2, .ref q9), (0, .ref (a 0)), (1, .ref w)]) C dL_run_11 rfl (by decide) rfl ?_
      refine x_iconst (v := 1) C dL_run_12 (by decide) ?_
      refine x_widen (k := 1) (n := 6) (by omega) (by omega) ?_
      refine x_vx ?_
      exact x_iret C hr ⟨by cases hf; rfl, by cases hf; rfl⟩ dL_run_13
    · have hf := x_f e3 hf
      by_cases e4 : k9 = 3
      · subst e4
        have hf := x_t rfl hf
        refine x_catch (E := "java/lang/UnsupportedOperationException") C hT 1 rfl ⟨by decide, by decide⟩ (by decide) wd_990 (by decide) (fun x hx => by
            simp only [List.take, List.mem_cons, List.not_mem_nil, or_false] at hx
            rcases hx with rfl
            · exact ⟨"java/lang/IllegalArgumentException", by decide, wd_886, by decide⟩) (fun q9 => ?_)
        refine x_astore_n (lv' := [(2, .ref q9), (0, .ref (a 0)), (1, .ref w)]) C dL_run_14 rfl (by decide) rfl ?_
        refine x_iconst (v := 2) C dL_run_15 (by decide) ?_
        refine x_widen (k := 1) (n := 6) (by omega) (by omega) ?_
        refine x_vx ?_
        exact x_iret C hr ⟨by cases hf; rfl, by cases hf; rfl⟩ dL_run_16
      · have hf := x_f e4 hf
        cases hf
  · obtain ⟨r2, hr9, rfl, rfl⟩ := hQ9
    have hf := x_sr hr9 hf
    refine x_goW (wss2 := [ccO g a b y u1.2.1, stO g a 10 u1.2.2.1, cdW g a 10 u1.2.2.2.1, evW g a 10 u1.2.2.2.2.1, stO g a 20 u1.2.2.2.2.2.1, cdW g a 20 u1.2.2.2.2.2.2.1, evW g a 20 u1.2.2.2.2.2.2.2.1, hiO g a u1.2.2.2.2.2.2.2.2.1, hrW g a t, stF g a u1.2.2.2.2.2.2.2.2.2.1, cdF g a u1.2.2.2.2.2.2.2.2.2.2.1, evF g a u1.2.2.2.2.2.2.2.2.2.2.2.1, prO g b u1.2.2.2.2.2.2.2.2.2.2.2.2.1, caW g b t2, cmF g b u1.2.2.2.2.2.2.2.2.2.2.2.2.2, loW g w lo]) (stk2 := [.int r2, .int (0 : Int32), .ref w]) rfl rfl rfl ?_
    refine x_i2l C dL_run_6 rfl ?_
    obtain ⟨h5, hf⟩ := x_n hf
    refine x_last (b := loW g w lo) (b' := loW g w (vp_updL lo (0 : Int32).toNatClampNeg r2.toInt64)) (wss' := [ccO g a b y u1.2.1, stO g a 10 u1.2.2.1, cdW g a 10 u1.2.2.2.1, evW g a 10 u1.2.2.2.2.1, stO g a 20 u1.2.2.2.2.2.1, cdW g a 20 u1.2.2.2.2.2.2.1, evW g a 20 u1.2.2.2.2.2.2.2.1, hiO g a u1.2.2.2.2.2.2.2.2.1, hrW g a t, stF g a u1.2.2.2.2.2.2.2.2.2.1, cdF g a u1.2.2.2.2.2.2.2.2.2.2.1, evF g a u1.2.2.2.2.2.2.2.2.2.2.2.1, prO g b u1.2.2.2.2.2.2.2.2.2.2.2.2.1, caW g b t2, cmF g b u1.2.2.2.2.2.2.2.2.2.2.2.2.2, loW g w (vp_updL lo (0 : Int32).toNatClampNeg r2.toInt64)]) C 15 rfl 0 (loW_at0 g w _) h5 rfl rfl dL_run_7 ?_
    refine x_goto (tgt := 17) C dL_run_8 (by decide) ?_
    refine x_iconst (v := 0) C dL_run_17 (by decide) ?_
    refine x_widen (k := 1) (n := 6) (Nat.le_of_ble_eq_true rfl) (Nat.le_of_ble_eq_true rfl) ?_
    refine x_vx ?_
    exact x_iret C hr ⟨by cases hf; rfl, by cases hf; rfl⟩ dL_run_18
theorem wd_1449 : Cond.methodLink RL 116 yX9_errorPosition ∈ xTB := xTB_in 1449 (by decide +kernel) (by decide +kernel)
theorem wd_1450 : Cond.instanceMethod yX9_errorPosition ∈ xTB := xTB_in 1450 (by decide +kernel) (by decide +kernel)
theorem wd_1451 : Cond.selects yX9_errorPosition.cls yX9_errorPosition yX9_errorPosition ∈ xTB := xTB_in 1451 (by decide +kernel) (by decide +kernel)
theorem wd_1452 : Cond.code yX9_errorPosition cX9_errorPosition 1 (some .int) ∈ xTB := xTB_in 1452 (by decide +kernel) (by decide +kernel)
theorem dL_errorPosition_0 : decode cL_errorPosition 0 = .ok (.aload_n 1, 1) := by decide +kernel
theorem dL_errorPosition_1 : decode cL_errorPosition 1 = .ok (.iconst 0, 1) := by decide +kernel
theorem dL_errorPosition_2 : decode cL_errorPosition 2 = .ok (.aload_n 0, 1) := by decide +kernel
theorem dL_errorPosition_3 : decode cL_errorPosition 3 = .ok (.invokevirtual 116, 3) := by decide +kernel
theorem dL_errorPosition_6 : decode cL_errorPosition 6 = .ok (.i2l, 1) := by decide +kernel
theorem dL_errorPosition_7 : decode cL_errorPosition 7 = .ok (.lastore, 1) := by decide +kernel
theorem dL_errorPosition_8 : decode cL_errorPosition 8 = .ok (.goto 6, 3) := by decide +kernel
theorem dL_errorPosition_11 : decode cL_errorPosition 11 = .ok (.astore_n 2, 1) := by decide +kernel
theorem dL_errorPosition_12 : decode cL_errorPosition 12 = .ok (.iconst 1, 1) := by decide +kernel
theorem dL_errorPosition_13 : decode cL_errorPosition 13 = .ok (.ireturn, 1) := by decide +kernel
theorem dL_errorPosition_14 : decode cL_errorPosition 14 = .ok (.iconst 0, 1) := by decide +kernel
theorem dL_errorPosition_15 : decode cL_errorPosition 15 = .ok (.ireturn, 1) := by decide +kernel
set_option maxHeartbeats 4000000 in
set_option maxRecDepth 100000 in
theorem c_L_errorPosition (g : xG) (l : Launch) (hl : l.stackTraces = false) (a : Nat → Nat) (b : Nat → Nat) (y : Nat) (w : Nat) (z : CcT) (lo : (Nat → Int64))  {u : Int32 × (Nat → Int64)} (hf : f_L_errorPosition z lo = some u) : ConH g l yL_errorPosition cL_errorPosition 3 (some .int) [(0, 8, 11, 72)] ({ frames := 7, cells := 1, slots := 6, locals := 110 } : Room) [.ref (a 0), .ref w] ([ccO g a b y z, loW g w lo] : List va_W).flatten (fun v9 w9 => v9 = some (.int u.1) ∧ w9 = ([ccO g a b y z, loW g w u.2] : List va_W).flatten) 1 6 := by
  unfold f_L_errorPosition at hf
  refine ConH_of [ccO g a b y z, loW g w lo] [(0, .ref (a 0)), (1, .ref w)] rfl rfl (by decide) (Nat.le_of_ble_eq_true rfl) ?_
  intro pW eW sW mW argsW belowW methW c9 C hr hT
  have C : CX g RL cL_errorPosition 3 _ pW sW mW argsW methW c9 := C
  refine x_aload_n C dL_errorPosition_0 rfl 1 rfl ?_
  refine x_iconst (v := 0) C dL_errorPosition_1 (by decide) ?_
  refine x_aload_n C dL_errorPosition_2 rfl 0 rfl ?_
  obtain ⟨u1, hu1, hf⟩ := x_b hf
  refine x_xcallV (n := 0) (As := []) (rest := [.int (0 : Int32), .ref w]) C (c_X9_errorPosition g l hl a b y z hu1) ⟨⟨wd_1452, wd_1449, wd_65⟩, ⟨by decide, by decide, by decide⟩, rfl, rfl, Nat.le_of_ble_eq_true rfl, Nat.le_of_ble_eq_true rfl⟩ wd_1450 wd_1451 ⟨0, 10, _, _, rfl, rfl, rfl⟩ [loW g w lo] (x_pickD [0, 1] 2 rfl rfl rfl) rfl rfl (Nat.le_of_ble_eq_true rfl) ⟨Nat.le_of_ble_eq_true rfl, Nat.le_of_ble_eq_true rfl⟩ dL_errorPosition_3 (fun E9 w9 hX9 => ?_) (fun v9 w9 hQ9 => ?_)
  · obtain ⟨k9, hk9, rfl, rfl⟩ := hX9
    have hf := x_sl hk9 hf
    refine x_goX (wss2 := [ccO g a b y z, loW g w lo]) rfl rfl ?_
    by_cases e3 : k9 = 4
    · subst e3
      have hf := x_t rfl hf
      refine x_catch (E := "java/util/NoSuchElementException") C hT 0 rfl ⟨by decide, by decide⟩ (by decide) wd_1174 (by decide) (fun x hx => by cases hx) (fun q9 => ?_)
      refine x_astore_n (lv' := [(2, .ref q9), (0, .ref (a 0)), (1, .ref w)]) C dL_errorPosition_11 rfl (by decide) rfl ?_
      refine x_iconst (v := 1) C dL_errorPosition_12 (by decide) ?_
      refine x_widen (k := 1) (n := 6) (by omega) (by omega) ?_
      refine x_vx ?_
      exact x_iret C hr ⟨by cases hf; rfl, by cases hf; rfl⟩ dL_errorPosition_13
    · have hf := x_f e3 hf
      cases hf
  · obtain ⟨r2, hr9, rfl, rfl⟩ := hQ9
    have hf := x_sr hr9 hf
    refine x_goW (wss2 := [ccO g a b y z, loW g w lo]) (stk2 := [.int r2, .int (0 : Int32), .ref w]) rfl rfl rfl ?_
    refine x_i2l C dL_errorPosition_6 rfl ?_
    obtain ⟨h4, hf⟩ := x_n hf
    refine x_last (b := loW g w lo) (b' := loW g w (vp_updL lo (0 : Int32).toNatClampNeg r2.toInt64)) (wss' := [ccO g a b y z, loW g w (vp_updL lo (0 : Int32).toNatClampNeg r2.toInt64)]) C 1 rfl 0 (loW_at0 g w _) h4 rfl rfl dL_errorPosition_7 ?_
    refine x_goto (tgt := 14) C dL_errorPosition_8 (by decide) ?_
    refine x_iconst (v := 0) C dL_errorPosition_14 (by decide) ?_
    refine x_widen (k := 1) (n := 6) (Nat.le_of_ble_eq_true rfl) (Nat.le_of_ble_eq_true rfl) ?_
    refine x_vx ?_
    exact x_iret C hr ⟨by cases hf; rfl, by cases hf; rfl⟩ dL_errorPosition_15
theorem wd_1457 : Cond.methodLink RL 119 yX9_failedCommand ∈ xTB := xTB_in 1457 (by decide +kernel) (by decide +kernel)
theorem wd_1458 : Cond.instanceMethod yX9_failedCommand ∈ xTB := xTB_in 1458 (by decide +kernel) (by decide +kernel)
theorem wd_1459 : Cond.selects yX9_failedCommand.cls yX9_failedCommand yX9_failedCommand ∈ xTB := xTB_in 1459 (by decide +kernel) (by decide +kernel)
theorem wd_1460 : Cond.code yX9_failedCommand cX9_failedCommand 1 (some .int) ∈ xTB := xTB_in 1460 (by decide +kernel) (by decide +kernel)
theorem dL_failedCommand_0 : decode cL_failedCommand 0 = .ok (.aload_n 1, 1) := by decide +kernel
theorem dL_failedCommand_1 : decode cL_failedCommand 1 = .ok (.iconst 0, 1) := by decide +kernel
theorem dL_failedCommand_2 : decode cL_failedCommand 2 = .ok (.aload_n 0, 1) := by decide +kernel
theorem dL_failedCommand_3 : decode cL_failedCommand 3 = .ok (.invokevirtual 119, 3) := by decide +kernel
theorem dL_failedCommand_6 : decode cL_failedCommand 6 = .ok (.i2l, 1) := by decide +kernel
theorem dL_failedCommand_7 : decode cL_failedCommand 7 = .ok (.lastore, 1) := by decide +kernel
theorem dL_failedCommand_8 : decode cL_failedCommand 8 = .ok (.goto 6, 3) := by decide +kernel
theorem dL_failedCommand_11 : decode cL_failedCommand 11 = .ok (.astore_n 2, 1) := by decide +kernel
theorem dL_failedCommand_12 : decode cL_failedCommand 12 = .ok (.iconst 1, 1) := by decide +kernel
theorem dL_failedCommand_13 : decode cL_failedCommand 13 = .ok (.ireturn, 1) := by decide +kernel
theorem dL_failedCommand_14 : decode cL_failedCommand 14 = .ok (.iconst 0, 1) := by decide +kernel
theorem dL_failedCommand_15 : decode cL_failedCommand 15 = .ok (.ireturn, 1) := by decide +kernel
set_option maxHeartbeats 4000000 in
set_option maxRecDepth 100000 in
theorem c_L_failedCommand (g : xG) (l : Launch) (hl : l.stackTraces = false) (a : Nat → Nat) (b : Nat → Nat) (y : Nat) (w : Nat) (z : CcT) (lo : (Nat → Int64))  {u : Int32 × (Nat → Int64)} (hf : f_L_failedCommand z lo = some u) : ConH g l yL_failedCommand cL_failedCommand 3 (some .int) [(0, 8, 11, 72)] ({ frames := 7, cells := 1, slots := 6, locals := 110 } : Room) [.ref (a 0), .ref w] ([ccO g a b y z, loW g w lo] : List va_W).flatten (fun v9 w9 => v9 = some (.int u.1) ∧ w9 = ([ccO g a b y z, loW g w u.2] : List va_W).flatten) 1 6 := by
  unfold f_L_failedCommand at hf
  refine ConH_of [ccO g a b y z, loW g w lo] [(0, .ref (a 0)), (1, .ref w)] rfl rfl (by decide) (Nat.le_of_ble_eq_true rfl) ?_
  intro pW eW sW mW argsW belowW methW c9 C hr hT
  have C : CX g RL cL_failedCommand 3 _ pW sW mW argsW methW c9 := C
  refine x_aload_n C dL_failedCommand_0 rfl 1 rfl ?_
  refine x_iconst (v := 0) C dL_failedCommand_1 (by decide) ?_
  refine x_aload_n C dL_failedCommand_2 rfl 0 rfl ?_
  obtain ⟨u1, hu1, hf⟩ := x_b hf
  refine x_xcallV (n := 0) (As := []) (rest := [.int (0 : Int32), .ref w]) C (c_X9_failedCommand g l hl a b y z hu1) ⟨⟨wd_1460, wd_1457, wd_65⟩, ⟨by decide, by decide, by decide⟩, rfl, rfl, Nat.le_of_ble_eq_true rfl, Nat.le_of_ble_eq_true rfl⟩ wd_1458 wd_1459 ⟨0, 10, _, _, rfl, rfl, rfl⟩ [loW g w lo] (x_pickD [0, 1] 2 rfl rfl rfl) rfl rfl (Nat.le_of_ble_eq_true rfl) ⟨Nat.le_of_ble_eq_true rfl, Nat.le_of_ble_eq_true rfl⟩ dL_failedCommand_3 (fun E9 w9 hX9 => ?_) (fun v9 w9 hQ9 => ?_)
  · obtain ⟨k9, hk9, rfl, rfl⟩ := hX9
    have hf := x_sl hk9 hf
    refine x_goX (wss2 := [ccO g a b y z, loW g w lo]) rfl rfl ?_
    by_cases e3 : k9 = 4
    · subst e3
      have hf := x_t rfl hf
      refine x_catch (E := "java/util/NoSuchElementException") C hT 0 rfl ⟨by decide, by decide⟩ (by decide) wd_1174 (by decide) (fun x hx => by cases hx) (fun q9 => ?_)
      refine x_astore_n (lv' := [(2, .ref q9), (0, .ref (a 0)), (1, .ref w)]) C dL_failedCommand_11 rfl (by decide) rfl ?_
      refine x_iconst (v := 1) C dL_failedCommand_12 (by decide) ?_
      refine x_widen (k := 1) (n := 6) (by omega) (by omega) ?_
      refine x_vx ?_
      exact x_iret C hr ⟨by cases hf; rfl, by cases hf; rfl⟩ dL_failedCommand_13
    · have hf := x_f e3 hf
      cases hf
  · obtain ⟨r2, hr9, rfl, rfl⟩ := hQ9
    have hf := x_sr hr9 hf
    refine x_goW (wss2 := [ccO g a b y z, loW g w lo]) (stk2 := [.int r2, .int (0 : Int32), .ref w]) rfl rfl rfl ?_
    refine x_i2l C dL_failedCommand_6 rfl ?_
    obtain ⟨h4, hf⟩ := x_n hf
    refine x_last (b := loW g w lo) (b' := loW g w (vp_updL lo (0 : Int32).toNatClampNeg r2.toInt64)) (wss' := [ccO g a b y z, loW g w (vp_updL lo (0 : Int32).toNatClampNeg r2.toInt64)]) C 1 rfl 0 (loW_at0 g w _) h4 rfl rfl dL_failedCommand_7 ?_
    refine x_goto (tgt := 14) C dL_failedCommand_8 (by decide) ?_
    refine x_iconst (v := 0) C dL_failedCommand_14 (by decide) ?_
    refine x_widen (k := 1) (n := 6) (Nat.le_of_ble_eq_true rfl) (Nat.le_of_ble_eq_true rfl) ?_
    refine x_vx ?_
    exact x_iret C hr ⟨by cases hf; rfl, by cases hf; rfl⟩ dL_failedCommand_15
theorem wd_1465 : Cond.methodLink RL 122 yX9_undo ∈ xTB := xTB_in 1465 (by decide +kernel) (by decide +kernel)
theorem wd_1466 : Cond.instanceMethod yX9_undo ∈ xTB := xTB_in 1466 (by decide +kernel) (by decide +kernel)
theorem wd_1467 : Cond.selects yX9_undo.cls yX9_undo yX9_undo ∈ xTB := xTB_in 1467 (by decide +kernel) (by decide +kernel)
theorem wd_1468 : Cond.code yX9_undo cX9_undo 1 (some .int) ∈ xTB := xTB_in 1468 (by decide +kernel) (by decide +kernel)
theorem dL_undo_0 : decode cL_undo 0 = .ok (.aload_n 1, 1) := by decide +kernel
theorem dL_undo_1 : decode cL_undo 1 = .ok (.iconst 0, 1) := by decide +kernel
theorem dL_undo_2 : decode cL_undo 2 = .ok (.aload_n 0, 1) := by decide +kernel
theorem dL_undo_3 : decode cL_undo 3 = .ok (.invokevirtual 122, 3) := by decide +kernel
theorem dL_undo_6 : decode cL_undo 6 = .ok (.i2l, 1) := by decide +kernel
theorem dL_undo_7 : decode cL_undo 7 = .ok (.lastore, 1) := by decide +kernel
theorem dL_undo_8 : decode cL_undo 8 = .ok (.goto 6, 3) := by decide +kernel
theorem dL_undo_11 : decode cL_undo 11 = .ok (.astore_n 2, 1) := by decide +kernel
theorem dL_undo_12 : decode cL_undo 12 = .ok (.iconst 1, 1) := by decide +kernel
theorem dL_undo_13 : decode cL_undo 13 = .ok (.ireturn, 1) := by decide +kernel
theorem dL_undo_14 : decode cL_undo 14 = .ok (.iconst 0, 1) := by decide +kernel
theorem dL_undo_15 : decode cL_undo 15 = .ok (.ireturn, 1) := by decide +kernel
set_option maxHeartbeats 4000000 in
set_option maxRecDepth 100000 in
theorem c_L_undo (g : xG) (l : Launch) (hl : l.stackTraces = false) (a : Nat → Nat) (b : Nat → Nat) (y : Nat) (w : Nat) (z : CcT) (v : StS) (c : CdT) (e : EvT) (h : HiT) (t : Unit) (vs : (Nat → StS)) (cs : (Nat → CdT)) (es : (Nat → EvT)) (lo : (Nat → Int64))  {u : Int32 × StS × CdT × EvT × HiT × (Nat → Int64)} (hf : f_L_undo z v c e h t vs cs es lo = some u) : ConH g l yL_undo cL_undo 3 (some .int) [(0, 8, 11, 15)] ({ frames := 7, cells := 1, slots := 6, locals := 110 } : Room) [.ref (a 0), .ref w] ([ccO g a b y z, stO g a 10 v, cdW g a 10 c, evW g a 10 e, hiO g a h, hrW g a t, stF g a vs, cdF g a cs, evF g a es, loW g w lo] : List va_W).flatten (fun v9 w9 => v9 = some (.int u.1) ∧ w9 = ([ccO g a b y z, stO g a 10 u.2.1, cdW g a 10 u.2.2.1, evW g a 10 u.2.2.2.1, hiO g a u.2.2.2.2.1, hrW g a t, stF g a vs, cdF g a cs, evF g a es, loW g w u.2.2.2.2.2] : List va_W).flatten) 1 6 := by
  unfold f_L_undo at hf
  refine ConH_of [ccO g a b y z, stO g a 10 v, cdW g a 10 c, evW g a 10 e, hiO g a h, hrW g a t, stF g a vs, cdF g a cs, evF g a es, loW g w lo] [(0, .ref (a 0)), (1, .ref w)] rfl rfl (by decide) (Nat.le_of_ble_eq_true rfl) ?_
  intro pW eW sW mW argsW belowW methW c9 C hr hT
  have C : CX g RL cL_undo 3 _ pW sW mW argsW methW c9 := C
  refine x_aload_n C dL_undo_0 rfl 1 rfl ?_
  refine x_iconst (v := 0) C dL_undo_1 (by decide) ?_
  refine x_aload_n C dL_undo_2 rfl 0 rfl ?_
  obtain ⟨u1, hu1, hf⟩ := x_b hf
  refine x_xcallV (n := 0) (As := []) (rest := [.int (0 : Int32), .ref w]) C (c_X9_undo g l hl a b y z v c e h t vs cs es hu1) ⟨⟨wd_1468, wd_1465, wd_65⟩, ⟨by decide, by decide, by decide⟩, rfl, rfl, Nat.le_of_ble_eq_true rfl, Nat.le_of_ble_eq_true rfl⟩ wd_1466 wd_1467 ⟨0, 10, _, _, rfl, rfl, rfl⟩ [loW g w lo] (x_pickD [0, 1, 2, 3, 4, 5, 6, 7, 8, 9] 10 rfl rfl rfl) rfl rfl (Nat.le_of_ble_eq_true rfl) ⟨Nat.le_of_ble_eq_true rfl, Nat.le_of_ble_eq_true rfl⟩ dL_undo_3 (fun E9 w9 hX9 => ?_) (fun v9 w9 hQ9 => ?_)
  · obtain ⟨k9, hk9, rfl, rfl⟩ := hX9
    have hf := x_sl hk9 hf
    refine x_goX (wss2 := [ccO g a b y z, stO g a 10 u1.2.1, cdW g a 10 u1.2.2.1, evW g a 10 u1.2.2.2.1, hiO g a u1.2.2.2.2, hrW g a t, stF g a vs, cdF g a cs, evF g a es, loW g w lo]) rfl rfl ?_
    by_cases e3 : k9 = 1
    · subst e3
      have hf := x_t rfl hf
      refine x_catch (E := "java/lang/IllegalStateException") C hT 0 rfl ⟨by decide, by decide⟩ (by decide) wd_887 (by decide) (fun x hx => by cases hx) (fun q9 => ?_)
      refine x_astore_n (lv' := [(2, .ref q9), (0, .ref (a 0)), (1, .ref w)]) C dL_undo_11 rfl (by decide) rfl ?_
      refine x_iconst (v := 1) C dL_undo_12 (by decide) ?_
      refine x_widen (k := 1) (n := 6) (by omega) (by omega) ?_
      refine x_vx ?_
      exact x_iret C hr ⟨by cases hf; rfl, by cases hf; rfl⟩ dL_undo_13
    · have hf := x_f e3 hf
      cases hf
  · obtain ⟨r2, hr9, rfl, rfl⟩ := hQ9
    have hf := x_sr hr9 hf
    refine x_goW (wss2 := [ccO g a b y z, stO g a 10 u1.2.1, cdW g a 10 u1.2.2.1, evW g a 10 u1.2.2.2.1, hiO g a u1.2.2.2.2, hrW g a t, stF g a vs, cdF g a cs, evF g a es, loW g w lo]) (stk2 := [.int r2, .int (0 : Int32), .ref w]) rfl rfl rfl ?_
    refine x_i2l C dL_undo_6 rfl ?_
    obtain ⟨h4, hf⟩ := x_n hf
    refine x_last (b := loW g w lo) (b' := loW g w (vp_updL lo (0 : Int32).toNatClampNeg r2.toInt64)) (wss' := [ccO g a b y z, stO g a 10 u1.2.1, cdW g a 10 u1.2.2.1, evW g a 10 u1.2.2.2.1, hiO g a u1.2.2.2.2, hrW g a t, stF g a vs, cdF g a cs, evF g a es, loW g w (vp_updL lo (0 : Int32).toNatClampNeg r2.toInt64)]) C 9 rfl 0 (loW_at0 g w _) h4 rfl rfl dL_undo_7 ?_
    refine x_goto (tgt := 14) C dL_undo_8 (by decide) ?_
    refine x_iconst (v := 0) C dL_undo_14 (by decide) ?_
    refine x_widen (k := 1) (n := 6) (Nat.le_of_ble_eq_true rfl) (Nat.le_of_ble_eq_true rfl) ?_
    refine x_vx ?_
    exact x_iret C hr ⟨by cases hf; rfl, by cases hf; rfl⟩ dL_undo_15
theorem wd_1477 : Cond.methodLink RL 125 yX9_restore ∈ xTB := xTB_in 1477 (by decide +kernel) (by decide +kernel)
theorem wd_1478 : Cond.instanceMethod yX9_restore ∈ xTB := xTB_in 1478 (by decide +kernel) (by decide +kernel)
theorem wd_1479 : Cond.selects yX9_restore.cls yX9_restore yX9_restore ∈ xTB := xTB_in 1479 (by decide +kernel) (by decide +kernel)
theorem wd_1480 : Cond.code yX9_restore cX9_restore 1 (some .int) ∈ xTB := xTB_in 1480 (by decide +kernel) (by decide +kernel)
theorem dL_restore_0 : decode cL_restore 0 = .ok (.aload_n 1, 1) := by decide +kernel
theorem dL_restore_1 : decode cL_restore 1 = .ok (.iconst 0, 1) := by decide +kernel
theorem dL_restore_2 : decode cL_restore 2 = .ok (.aload_n 0, 1) := by decide +kernel
theorem dL_restore_3 : decode cL_restore 3 = .ok (.invokevirtual 125, 3) := by decide +kernel
theorem dL_restore_6 : decode cL_restore 6 = .ok (.i2l, 1) := by decide +kernel
theorem dL_restore_7 : decode cL_restore 7 = .ok (.lastore, 1) := by decide +kernel
theorem dL_restore_8 : decode cL_restore 8 = .ok (.goto 6, 3) := by decide +kernel
theorem dL_restore_11 : decode cL_restore 11 = .ok (.astore_n 2, 1) := by decide +kernel
theorem dL_restore_12 : decode cL_restore 12 = .ok (.iconst 1, 1) := by decide +kernel
theorem dL_restore_13 : decode cL_restore 13 = .ok (.ireturn, 1) := by decide +kernel
theorem dL_restore_14 : decode cL_restore 14 = .ok (.iconst 0, 1) := by decide +kernel
theorem dL_restore_15 : decode cL_restore 15 = .ok (.ireturn, 1) := by decide +kernel
set_option maxHeartbeats 4000000 in
set_option maxRecDepth 100000 in
theorem c_L_restore (g : xG) (l : Launch) (hl : l.stackTraces = false) (a : Nat → Nat) (b : Nat → Nat) (y : Nat) (w : Nat) (z : CcT) (v : StS) (c : CdT) (e : EvT) (v3 : StS) (c3 : CdT) (e3 : EvT) (h : HiT) (lo : (Nat → Int64))  {u : Int32 × StS × CdT × EvT × HiT × (Nat → Int64)} (hf : f_L_restore z v c e v3 c3 e3 h lo = some u) : ConH g l yL_restore cL_restore 3 (some .int) [(0, 8, 11, 15)] ({ frames := 7, cells := 1, slots := 6, locals := 110 } : Room) [.ref (a 0), .ref w] ([ccO g a b y z, stO g a 10 v, cdW g a 10 c, evW g a 10 e, stO g a 30 v3, cdW g a 30 c3, evW g a 30 e3, hiO g a h, loW g w lo] : List va_W).flatten (fun v9 w9 => v9 = some (.int u.1) ∧ w9 = ([ccO g a b y z, stO g a 10 u.2.1, cdW g a 10 u.2.2.1, evW g a 10 u.2.2.2.1, stO g a 30 v3, cdW g a 30 c3, evW g a 30 e3, hiO g a u.2.2.2.2.1, loW g w u.2.2.2.2.2] : List va_W).flatten) 1 6 := by
  unfold f_L_restore at hf
  refine ConH_of [ccO g a b y z, stO g a 10 v, cdW g a 10 c, evW g a 10 e, stO g a 30 v3, cdW g a 30 c3, evW g a 30 e3, hiO g a h, loW g w lo] [(0, .ref (a 0)), (1, .ref w)] rfl rfl (by decide) (Nat.le_of_ble_eq_true rfl) ?_
  intro pW eW sW mW argsW belowW methW c9 C hr hT
  have C : CX g RL cL_restore 3 _ pW sW mW argsW methW c9 := C
  refine x_aload_n C dL_restore_0 rfl 1 rfl ?_
  refine x_iconst (v := 0) C dL_restore_1 (by decide) ?_
  refine x_aload_n C dL_restore_2 rfl 0 rfl ?_
  obtain ⟨u1, hu1, hf⟩ := x_b hf
  refine x_xcallV (n := 0) (As := []) (rest := [.int (0 : Int32), .ref w]) C (c_X9_restore g l hl a b y z v c e v3 c3 e3 h hu1) ⟨⟨wd_1480, wd_1477, wd_65⟩, ⟨by decide, by decide, by decide⟩, rfl, rfl, Nat.le_of_ble_eq_true rfl, Nat.le_of_ble_eq_true rfl⟩ wd_1478 wd_1479 ⟨0, 10, _, _, rfl, rfl, rfl⟩ [loW g w lo] (x_pickD [0, 1, 2, 3, 4, 5, 6, 7, 8] 9 rfl rfl rfl) rfl rfl (Nat.le_of_ble_eq_true rfl) ⟨Nat.le_of_ble_eq_true rfl, Nat.le_of_ble_eq_true rfl⟩ dL_restore_3 (fun E9 w9 hX9 => ?_) (fun v9 w9 hQ9 => ?_)
  · obtain ⟨k9, hk9, rfl, rfl⟩ := hX9
    have hf := x_sl hk9 hf
    refine x_goX (wss2 := [ccO g a b y z, stO g a 10 u1.2.1, cdW g a 10 u1.2.2.1, evW g a 10 u1.2.2.2.1, stO g a 30 v3, cdW g a 30 c3, evW g a 30 e3, hiO g a u1.2.2.2.2, loW g w lo]) rfl rfl ?_
    by_cases e3 : k9 = 1
    · subst e3
      have hf := x_t rfl hf
      refine x_catch (E := "java/lang/IllegalStateException") C hT 0 rfl ⟨by decide, by decide⟩ (by decide) wd_887 (by decide) (fun x hx => by cases hx) (fun q9 => ?_)
      refine x_astore_n (lv' := [(2, .ref q9), (0, .ref (a 0)), (1, .ref w)]) C dL_restore_11 rfl (by decide) rfl ?_
      refine x_iconst (v := 1) C dL_restore_12 (by decide) ?_
      refine x_widen (k := 1) (n := 6) (by omega) (by omega) ?_
      refine x_vx ?_
      exact x_iret C hr ⟨by cases hf; rfl, by cases hf; rfl⟩ dL_restore_13
    · have hf := x_f e3 hf
      cases hf
  · obtain ⟨r2, hr9, rfl, rfl⟩ := hQ9
    have hf := x_sr hr9 hf
    refine x_goW (wss2 := [ccO g a b y z, stO g a 10 u1.2.1, cdW g a 10 u1.2.2.1, evW g a 10 u1.2.2.2.1, stO g a 30 v3, cdW g a 30 c3, evW g a 30 e3, hiO g a u1.2.2.2.2, loW g w lo]) (stk2 := [.int r2, .int (0 : Int32), .ref w]) rfl rfl rfl ?_
    refine x_i2l C dL_restore_6 rfl ?_
    obtain ⟨h4, hf⟩ := x_n hf
    refine x_last (b := loW g w lo) (b' := loW g w (vp_updL lo (0 : Int32).toNatClampNeg r2.toInt64)) (wss' := [ccO g a b y z, stO g a 10 u1.2.1, cdW g a 10 u1.2.2.1, evW g a 10 u1.2.2.2.1, stO g a 30 v3, cdW g a 30 c3, evW g a 30 e3, hiO g a u1.2.2.2.2, loW g w (vp_updL lo (0 : Int32).toNatClampNeg r2.toInt64)]) C 8 rfl 0 (loW_at0 g w _) h4 rfl rfl dL_restore_7 ?_
    refine x_goto (tgt := 14) C dL_restore_8 (by decide) ?_
    refine x_iconst (v := 0) C dL_restore_14 (by decide) ?_
    refine x_widen (k := 1) (n := 6) (Nat.le_of_ble_eq_true rfl) (Nat.le_of_ble_eq_true rfl) ?_
    refine x_vx ?_
    exact x_iret C hr ⟨by cases hf; rfl, by cases hf; rfl⟩ dL_restore_15
