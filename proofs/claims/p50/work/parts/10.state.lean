/-! CANDLES, EVENTS, STATE: pure functions and contracts, by program (wip/p50/build_all.py) -/
theorem wd_819 : Cond.fieldLink RX1 9 "CandleConcert$Candles" "voice" "[C" ∈ xTB := xTB_in 819 (by decide +kernel) (by decide +kernel)
theorem wd_822 : Cond.fieldLink RX1 15 "CandleConcert$Candles" "wax" "[I" ∈ xTB := xTB_in 822 (by decide +kernel) (by decide +kernel)
theorem wd_825 : Cond.fieldLink RX1 19 "CandleConcert$Candles" "rate" "[I" ∈ xTB := xTB_in 825 (by decide +kernel) (by decide +kernel)
theorem wd_827 : Cond.fieldLink RX1 22 "CandleConcert$Candles" "lit" "[Z" ∈ xTB := xTB_in 827 (by decide +kernel) (by decide +kernel)
theorem wd_830 : Cond.fieldLink RX1 26 "CandleConcert$Candles" "count" "I" ∈ xTB := xTB_in 830 (by decide +kernel) (by decide +kernel)
theorem dX1_copyFrom_0 : decode cX1_copyFrom 0 = .ok (.aload_n 0, 1) := by decide +kernel
theorem dX1_copyFrom_1 : decode cX1_copyFrom 1 = .ok (.aload_n 1, 1) := by decide +kernel
theorem dX1_copyFrom_2 : decode cX1_copyFrom 2 = .ok (.getfield 26, 3) := by decide +kernel
theorem dX1_copyFrom_5 : decode cX1_copyFrom 5 = .ok (.putfield 26, 3) := by decide +kernel
theorem dX1_copyFrom_8 : decode cX1_copyFrom 8 = .ok (.iconst 0, 1) := by decide +kernel
theorem dX1_copyFrom_9 : decode cX1_copyFrom 9 = .ok (.istore_n 2, 1) := by decide +kernel
theorem dX1_copyFrom_10 : decode cX1_copyFrom 10 = .ok (.iload_n 2, 1) := by decide +kernel
theorem dX1_copyFrom_11 : decode cX1_copyFrom 11 = .ok (.bipush 10, 2) := by decide +kernel
theorem dX1_copyFrom_13 : decode cX1_copyFrom 13 = .ok (.if_icmp .ge 57, 3) := by decide +kernel
theorem dX1_copyFrom_16 : decode cX1_copyFrom 16 = .ok (.aload_n 0, 1) := by decide +kernel
theorem dX1_copyFrom_17 : decode cX1_copyFrom 17 = .ok (.getfield 9, 3) := by decide +kernel
theorem dX1_copyFrom_20 : decode cX1_copyFrom 20 = .ok (.iload_n 2, 1) := by decide +kernel
theorem dX1_copyFrom_21 : decode cX1_copyFrom 21 = .ok (.aload_n 1, 1) := by decide +kernel
theorem dX1_copyFrom_22 : decode cX1_copyFrom 22 = .ok (.getfield 9, 3) := by decide +kernel
theorem dX1_copyFrom_25 : decode cX1_copyFrom 25 = .ok (.iload_n 2, 1) := by decide +kernel
theorem dX1_copyFrom_26 : decode cX1_copyFrom 26 = .ok (.caload, 1) := by decide +kernel
theorem dX1_copyFrom_27 : decode cX1_copyFrom 27 = .ok (.castore, 1) := by decide +kernel
theorem dX1_copyFrom_28 : decode cX1_copyFrom 28 = .ok (.aload_n 0, 1) := by decide +kernel
theorem dX1_copyFrom_29 : decode cX1_copyFrom 29 = .ok (.getfield 15, 3) := by decide +kernel
theorem dX1_copyFrom_32 : decode cX1_copyFrom 32 = .ok (.iload_n 2, 1) := by decide +kernel
theorem dX1_copyFrom_33 : decode cX1_copyFrom 33 = .ok (.aload_n 1, 1) := by decide +kernel
theorem dX1_copyFrom_34 : decode cX1_copyFrom 34 = .ok (.getfield 15, 3) := by decide +kernel
theorem dX1_copyFrom_37 : decode cX1_copyFrom 37 = .ok (.iload_n 2, 1) := by decide +kernel
theorem dX1_copyFrom_38 : decode cX1_copyFrom 38 = .ok (.iaload, 1) := by decide +kernel
theorem dX1_copyFrom_39 : decode cX1_copyFrom 39 = .ok (.iastore, 1) := by decide +kernel
theorem dX1_copyFrom_40 : decode cX1_copyFrom 40 = .ok (.aload_n 0, 1) := by decide +kernel
theorem dX1_copyFrom_41 : decode cX1_copyFrom 41 = .ok (.getfield 19, 3) := by decide +kernel
theorem dX1_copyFrom_44 : decode cX1_copyFrom 44 = .ok (.iload_n 2, 1) := by decide +kernel
theorem dX1_copyFrom_45 : decode cX1_copyFrom 45 = .ok (.aload_n 1, 1) := by decide +kernel
theorem dX1_copyFrom_46 : decode cX1_copyFrom 46 = .ok (.getfield 19, 3) := by decide +kernel
theorem dX1_copyFrom_49 : decode cX1_copyFrom 49 = .ok (.iload_n 2, 1) := by decide +kernel
theorem dX1_copyFrom_50 : decode cX1_copyFrom 50 = .ok (.iaload, 1) := by decide +kernel
theorem dX1_copyFrom_51 : decode cX1_copyFrom 51 = .ok (.iastore, 1) := by decide +kernel
theorem dX1_copyFrom_52 : decode cX1_copyFrom 52 = .ok (.aload_n 0, 1) := by decide +kernel
theorem dX1_copyFrom_53 : decode cX1_copyFrom 53 = .ok (.getfield 22, 3) := by decide +kernel
theorem dX1_copyFrom_56 : decode cX1_copyFrom 56 = .ok (.iload_n 2, 1) := by decide +kernel
theorem dX1_copyFrom_57 : decode cX1_copyFrom 57 = .ok (.aload_n 1, 1) := by decide +kernel
theorem dX1_copyFrom_58 : decode cX1_copyFrom 58 = .ok (.getfield 22, 3) := by decide +kernel
theorem dX1_copyFrom_61 : decode cX1_copyFrom 61 = .ok (.iload_n 2, 1) := by decide +kernel
theorem dX1_copyFrom_62 : decode cX1_copyFrom 62 = .ok (.baload, 1) := by decide +kernel
theorem dX1_copyFrom_63 : decode cX1_copyFrom 63 = .ok (.bastore, 1) := by decide +kernel
theorem dX1_copyFrom_64 : decode cX1_copyFrom 64 = .ok (.iinc 2 1, 3) := by decide +kernel
theorem dX1_copyFrom_67 : decode cX1_copyFrom 67 = .ok (.goto (-57), 3) := by decide +kernel
theorem dX1_copyFrom_70 : decode cX1_copyFrom 70 = .ok (.return_, 1) := by decide +kernel
set_option maxHeartbeats 4000000 in
set_option maxRecDepth 100000 in
theorem c_X1_copyFrom (g : xG) (l : Launch) (a : Nat → Nat) (o : Nat) (k : Nat) (c : CdT) (d : CdT)  {u : CdT} (hf : f_X1_copyFrom c d = some u) : ConD g l yX1_copyFrom cX1_copyFrom 3 none ({ frames := 0, cells := 0, slots := 0, locals := 0 } : Room) [.ref (a (o + 1)), .ref (a (k + 1))] [cdW g a o c, cdW g a k d] (none) [cdW g a o u, cdW g a k d] := by
  unfold f_X1_copyFrom at hf
  refine Con_of [cdW g a o c, cdW g a k d] [(0, .ref (a (o + 1))), (1, .ref (a (k + 1)))] rfl rfl (by decide) (Nat.le_of_ble_eq_true rfl) ?_
  intro pW eW sW mW argsW belowW methW c9 C hnm hr
  have C : CX g RX1 cX1_copyFrom 3 _ pW sW mW argsW methW c9 := C
  have hL10 : ∀ (nW : Nat) (cL : CdT) (x2 : Int32), f_X1_copyFrom_10 nW cL d x2 = some u → VW g (va_A ([cdW g a o c, cdW g a k d] : List va_W).flatten sW.heap.size) 3 pW l eW ({ frames := 0, cells := 0, slots := 0, locals := 0 } : Room) sW mW argsW belowW methW c9 0 0 (MQ belowW (xQc g ([cdW g a o c, cdW g a k d] : List va_W).flatten sW.heap.size (fun v9 w9 => v9 = none ∧ w9 = ([cdW g a o u, cdW g a k d] : List va_W).flatten)) argsW sW 0 0 (va_A ([cdW g a o c, cdW g a k d] : List va_W).flatten sW.heap.size)) [cdW g a o cL, cdW g a k d] [(0, .ref (a (o + 1))), (1, .ref (a (k + 1))), (2, .int x2)] 10 [] := by
    intro nW
    induction nW with
    | zero => intro cL x2 hf; rw [f_X1_copyFrom_10] at hf; cases hf
    | succ nW ih =>
      intro cL x2 hf
      rw [f_X1_copyFrom_10] at hf
      refine x_iload_n C dX1_copyFrom_10 rfl 2 rfl ?_
      refine x_bipush (v := 10) C dX1_copyFrom_11 (by decide) ?_
      refine x_icmp_ge (tgt := 70) C dX1_copyFrom_13 (by decide) (fun h1 => ?_) (fun h1 => ?_)
      · have hf := x_t h1 hf
        exact x_vret C hr ⟨by cases hf; rfl, by cases hf; rfl⟩ dX1_copyFrom_70
      · have hf := x_f h1 hf
        refine x_aload_n C dX1_copyFrom_16 rfl 0 rfl ?_
        refine x_get (ci := 4) (v := .ref (a (o + 2))) (b := cdW g a o cL) C ixX1 rfl 0 (by decide) wd_819 (fun _ h => h) 0 rfl 0 (cdW_at0 g a o _) rfl dX1_copyFrom_17 ?_
        refine x_iload_n C dX1_copyFrom_20 rfl 2 rfl ?_
        refine x_aload_n C dX1_copyFrom_21 rfl 1 rfl ?_
        refine x_get (ci := 4) (v := .ref (a (k + 2))) (b := cdW g a k d) C ixX1 rfl 0 (by decide) wd_819 (fun _ h => h) 1 rfl 0 (cdW_at0 g a k _) rfl dX1_copyFrom_22 ?_
        refine x_iload_n C dX1_copyFrom_25 rfl 2 rfl ?_
        obtain ⟨h2, hf⟩ := x_n hf
        refine x_cald (b := cdW g a k d) C 1 rfl 1 (cdW_at1 g a k _) h2 dX1_copyFrom_26 ?_
        obtain ⟨h3, hf⟩ := x_n hf
        refine x_cast (b := cdW g a o cL) (b' := cdW g a o (upd cL.1 x2.toNatClampNeg (vp_nar .char (d.1 x2.toNatClampNeg)), cL.2.1, cL.2.2.1, cL.2.2.2.1, cL.2.2.2.2)) (wss' := [cdW g a o (upd cL.1 x2.toNatClampNeg (vp_nar .char (d.1 x2.toNatClampNeg)), cL.2.1, cL.2.2.1, cL.2.2.2.1, cL.2.2.2.2), cdW g a k d]) C 0 rfl 1 (cdW_at1 g a o _) h3 rfl rfl dX1_copyFrom_27 ?_
        refine x_aload_n C dX1_copyFrom_28 rfl 0 rfl ?_
        refine x_get (ci := 4) (v := .ref (a (o + 3))) (b := cdW g a o (upd cL.1 x2.toNatClampNeg (vp_nar .char (d.1 x2.toNatClampNeg)), cL.2.1, cL.2.2.1, cL.2.2.2.1, cL.2.2.2.2)) C ixX1 rfl 1 (by decide) wd_822 (fun _ h => h) 0 rfl 0 (cdW_at0 g a o _) rfl dX1_copyFrom_29 ?_
        refine x_iload_n C dX1_copyFrom_32 rfl 2 rfl ?_
        refine x_aload_n C dX1_copyFrom_33 rfl 1 rfl ?_
        refine x_get (ci := 4) (v := .ref (a (k + 3))) (b := cdW g a k d) C ixX1 rfl 1 (by decide) wd_822 (fun _ h => h) 1 rfl 0 (cdW_at0 g a k _) rfl dX1_copyFrom_34 ?_
        refine x_iload_n C dX1_copyFrom_37 rfl 2 rfl ?_
        obtain ⟨h4, hf⟩ := x_n hf
        refine x_iald (b := cdW g a k d) C 1 rfl 2 (cdW_at2 g a k _) h4 dX1_copyFrom_38 ?_
        obtain ⟨h5, hf⟩ := x_n hf
        refine x_iast (b := cdW g a o (upd cL.1 x2.toNatClampNeg (vp_nar .char (d.1 x2.toNatClampNeg)), cL.2.1, cL.2.2.1, cL.2.2.2.1, cL.2.2.2.2)) (b' := cdW g a o (upd cL.1 x2.toNatClampNeg (vp_nar .char (d.1 x2.toNatClampNeg)), upd cL.2.1 x2.toNatClampNeg (d.2.1 x2.toNatClampNeg), cL.2.2.1, cL.2.2.2.1, cL.2.2.2.2)) (wss' := [cdW g a o (upd cL.1 x2.toNatClampNeg (vp_nar .char (d.1 x2.toNatClampNeg)), upd cL.2.1 x2.toNatClampNeg (d.2.1 x2.toNatClampNeg), cL.2.2.1, cL.2.2.2.1, cL.2.2.2.2), cdW g a k d]) C 0 rfl 2 (cdW_at2 g a o _) h5 rfl rfl dX1_copyFrom_39 ?_
        refine x_aload_n C dX1_copyFrom_40 rfl 0 rfl ?_
        refine x_get (ci := 4) (v := .ref (a (o + 4))) (b := cdW g a o (upd cL.1 x2.toNatClampNeg (vp_nar .char (d.1 x2.toNatClampNeg)), upd cL.2.1 x2.toNatClampNeg (d.2.1 x2.toNatClampNeg), cL.2.2.1, cL.2.2.2.1, cL.2.2.2.2)) C ixX1 rfl 2 (by decide) wd_825 (fun _ h => h) 0 rfl 0 (cdW_at0 g a o _) rfl dX1_copyFrom_41 ?_
        refine x_iload_n C dX1_copyFrom_44 rfl 2 rfl ?_
        refine x_aload_n C dX1_copyFrom_45 rfl 1 rfl ?_
        refine x_get (ci := 4) (v := .ref (a (k + 4))) (b := cdW g a k d) C ixX1 rfl 2 (by decide) wd_825 (fun _ h => h) 1 rfl 0 (cdW_at0 g a k _) rfl dX1_copyFrom_46 ?_
        refine x_iload_n C dX1_copyFrom_49 rfl 2 rfl ?_
        obtain ⟨h6, hf⟩ := x_n hf
        refine x_iald (b := cdW g a k d) C 1 rfl 3 (cdW_at3 g a k _) h6 dX1_copyFrom_50 ?_
        obtain ⟨h7, hf⟩ := x_n hf
        refine x_iast (b := cdW g a o (upd cL.1 x2.toNatClampNeg (vp_nar .char (d.1 x2.toNatClampNeg)), upd cL.2.1 x2.toNatClampNeg (d.2.1 x2.toNatClampNeg), cL.2.2.1, cL.2.2.2.1, cL.2.2.2.2)) (b' := cdW g a o (upd cL.1 x2.toNatClampNeg (vp_nar .char (d.1 x2.toNatClampNeg)), upd cL.2.1 x2.toNatClampNeg (d.2.1 x2.toNatClampNeg), upd cL.2.2.1 x2.toNatClampNeg (d.2.2.1 x2.toNatClampNeg), cL.2.2.2.1, cL.2.2.2.2)) (wss' := [cdW g a o (upd cL.1 x2.toNatClampNeg (vp_nar .char (d.1 x2.toNatClampNeg)), upd cL.2.1 x2.toNatClampNeg (d.2.1 x2.toNatClampNeg), upd cL.2.2.1 x2.toNatClampNeg (d.2.2.1 x2.toNatClampNeg), cL.2.2.2.1, cL.2.2.2.2), cdW g a k d]) C 0 rfl 3 (cdW_at3 g a o _) h7 rfl rfl dX1_copyFrom_51 ?_
        refine x_aload_n C dX1_copyFrom_52 rfl 0 rfl ?_
        refine x_get (ci := 4) (v := .ref (a (o + 5))) (b := cdW g a o (upd cL.1 x2.toNatClampNeg (vp_nar .char (d.1 x2.toNatClampNeg)), upd cL.2.1 x2.toNatClampNeg (d.2.1 x2.toNatClampNeg), upd cL.2.2.1 x2.toNatClampNeg (d.2.2.1 x2.toNatClampNeg), cL.2.2.2.1, cL.2.2.2.2)) C ixX1 rfl 3 (by decide) wd_827 (fun _ h => h) 0 rfl 0 (cdW_at0 g a o _) rfl dX1_copyFrom_53 ?_
        refine x_iload_n C dX1_copyFrom_56 rfl 2 rfl ?_
        refine x_aload_n C dX1_copyFrom_57 rfl 1 rfl ?_
        refine x_get (ci := 4) (v := .ref (a (k + 5))) (b := cdW g a k d) C ixX1 rfl 3 (by decide) wd_827 (fun _ h => h) 1 rfl 0 (cdW_at0 g a k _) rfl dX1_copyFrom_58 ?_
        refine x_iload_n C dX1_copyFrom_61 rfl 2 rfl ?_
        obtain ⟨h8, hf⟩ := x_n hf
        refine x_zald (b := cdW g a k d) C 1 rfl 4 (cdW_at4 g a k _) h8 dX1_copyFrom_62 ?_
        obtain ⟨h9, hf⟩ := x_n hf
        refine x_zast (b := cdW g a o (upd cL.1 x2.toNatClampNeg (vp_nar .char (d.1 x2.toNatClampNeg)), upd cL.2.1 x2.toNatClampNeg (d.2.1 x2.toNatClampNeg), upd cL.2.2.1 x2.toNatClampNeg (d.2.2.1 x2.toNatClampNeg), cL.2.2.2.1, cL.2.2.2.2)) (b' := cdW g a o (upd cL.1 x2.toNatClampNeg (vp_nar .char (d.1 x2.toNatClampNeg)), upd cL.2.1 x2.toNatClampNeg (d.2.1 x2.toNatClampNeg), upd cL.2.2.1 x2.toNatClampNeg (d.2.2.1 x2.toNatClampNeg), upd cL.2.2.2.1 x2.toNatClampNeg (vp_nar .boolean (d.2.2.2.1 x2.toNatClampNeg)), cL.2.2.2.2)) (wss' := [cdW g a o (upd cL.1 x2.toNatClampNeg (vp_nar .char (d.1 x2.toNatClampNeg)), upd cL.2.1 x2.toNatClampNeg (d.2.1 x2.toNatClampNeg), upd cL.2.2.1 x2.toNatClampNeg (d.2.2.1 x2.toNatClampNeg), upd cL.2.2.2.1 x2.toNatClampNeg (vp_nar .boolean (d.2.2.2.1 x2.toNatClampNeg)), cL.2.2.2.2), cdW g a k d]) C 0 rfl 4 (cdW_at4 g a o _) h9 rfl rfl dX1_copyFrom_63 ?_
        refine x_iinc (v := x2 + 1) (lv' := [(2, .int (x2 + 1)), (0, .ref (a (o + 1))), (1, .ref (a (k + 1)))]) C dX1_copyFrom_64 2 rfl rfl (by decide) rfl ?_
        refine x_goto (tgt := 10) C dX1_copyFrom_67 (by decide) ?_
        refine x_locals (lv' := [(0, .ref (a (o + 1))), (1, .ref (a (k + 1))), (2, .int (x2 + 1))]) [1, 2, 0] rfl ?_
        exact ih (upd cL.1 x2.toNatClampNeg (vp_nar .char (d.1 x2.toNatClampNeg)), upd cL.2.1 x2.toNatClampNeg (d.2.1 x2.toNatClampNeg), upd cL.2.2.1 x2.toNatClampNeg (d.2.2.1 x2.toNatClampNeg), upd cL.2.2.2.1 x2.toNatClampNeg (vp_nar .boolean (d.2.2.2.1 x2.toNatClampNeg)), cL.2.2.2.2) (x2 + 1) hf
  refine x_aload_n C dX1_copyFrom_0 rfl 0 rfl ?_
  refine x_aload_n C dX1_copyFrom_1 rfl 1 rfl ?_
  refine x_get (ci := 4) (v := .int d.2.2.2.2) (b := cdW g a k d) C ixX1 rfl 4 (by decide) wd_830 (fun _ h => h) 1 rfl 0 (cdW_at0 g a k _) rfl dX1_copyFrom_2 ?_
  refine x_put (ci := 4) (ty := .int) (v := .int d.2.2.2.2) (b := cdW g a o c) (b' := cdW g a o (c.1, c.2.1, c.2.2.1, c.2.2.2.1, d.2.2.2.2)) (wss' := [cdW g a o (c.1, c.2.1, c.2.2.1, c.2.2.2.1, d.2.2.2.2), cdW g a k d]) C ixX1 tyX1 tyX1_ok nmX1 rfl 4 (by decide) wd_830 (fun _ h => h) rfl (tyX1_ok 4 (by decide)) rfl rfl 0 rfl 0 (cdW_at0 g a o _) (Nat.le_of_ble_eq_true rfl) rfl rfl dX1_copyFrom_5 ?_
  refine x_iconst (v := 0) C dX1_copyFrom_8 (by decide) ?_
  refine x_istore_n (lv' := [(2, .int (0 : Int32)), (0, .ref (a (o + 1))), (1, .ref (a (k + 1)))]) C dX1_copyFrom_9 rfl (by decide) rfl ?_
  refine x_locals (lv' := [(0, .ref (a (o + 1))), (1, .ref (a (k + 1))), (2, .int (0 : Int32))]) [1, 2, 0] rfl ?_
  exact hL10 xFuel (c.1, c.2.1, c.2.2.1, c.2.2.2.1, d.2.2.2.2) (0 : Int32) hf
theorem dX1_has_0 : decode cX1_has 0 = .ok (.iload_n 1, 1) := by decide +kernel
theorem dX1_has_1 : decode cX1_has 1 = .ok (.ifCond .lt 15, 3) := by decide +kernel
theorem dX1_has_4 : decode cX1_has 4 = .ok (.iload_n 1, 1) := by decide +kernel
theorem dX1_has_5 : decode cX1_has 5 = .ok (.aload_n 0, 1) := by decide +kernel
theorem dX1_has_6 : decode cX1_has 6 = .ok (.getfield 26, 3) := by decide +kernel
theorem dX1_has_9 : decode cX1_has 9 = .ok (.if_icmp .ge 7, 3) := by decide +kernel
theorem dX1_has_12 : decode cX1_has 12 = .ok (.iconst 1, 1) := by decide +kernel
theorem dX1_has_13 : decode cX1_has 13 = .ok (.goto 4, 3) := by decide +kernel
theorem dX1_has_16 : decode cX1_has 16 = .ok (.iconst 0, 1) := by decide +kernel
theorem dX1_has_17 : decode cX1_has 17 = .ok (.ireturn, 1) := by decide +kernel
set_option maxHeartbeats 4000000 in
set_option maxRecDepth 100000 in
theorem c_X1_has (g : xG) (l : Launch) (a : Nat → Nat) (o : Nat) (c : CdT) (x1 : Int32) {u : Int32} (hf : f_X1_has c x1 = some u) : ConD g l yX1_has cX1_has 2 (some .boolean) ({ frames := 0, cells := 0, slots := 0, locals := 0 } : Room) [.ref (a (o + 1)), .int x1] [cdW g a o c] (some (.int u)) [cdW g a o c] := by
  unfold f_X1_has at hf
  refine Con_of [cdW g a o c] [(0, .ref (a (o + 1))), (1, .int x1)] rfl rfl (by decide) (Nat.le_of_ble_eq_true rfl) ?_
  intro pW eW sW mW argsW belowW methW c9 C hnm hr
  have C : CX g RX1 cX1_has 2 _ pW sW mW argsW methW c9 := C
  refine x_iload_n C dX1_has_0 rfl 1 rfl ?_
  refine x_if_lt (tgt := 16) C dX1_has_1 (by decide) (fun h1 => ?_) (fun h1 => ?_)
  · have hf := x_t h1 hf
    refine x_iconst (v := 0) C dX1_has_16 (by decide) ?_
    exact x_zret C hr rfl ⟨by cases hf; rfl, by cases hf; rfl⟩ dX1_has_17
  · have hf := x_f h1 hf
    refine x_iload_n C dX1_has_4 rfl 1 rfl ?_
    refine x_aload_n C dX1_has_5 rfl 0 rfl ?_
    refine x_get (ci := 4) (v := .int c.2.2.2.2) (b := cdW g a o c) C ixX1 rfl 4 (by decide) wd_830 (fun _ h => h) 0 rfl 0 (cdW_at0 g a o _) rfl dX1_has_6 ?_
    refine x_icmp_ge (tgt := 16) C dX1_has_9 (by decide) (fun h2 => ?_) (fun h2 => ?_)
    · have hf := x_t h2 hf
      refine x_iconst (v := 0) C dX1_has_16 (by decide) ?_
      exact x_zret C hr rfl ⟨by cases hf; rfl, by cases hf; rfl⟩ dX1_has_17
    · have hf := x_f h2 hf
      refine x_iconst (v := 1) C dX1_has_12 (by decide) ?_
      refine x_goto (tgt := 17) C dX1_has_13 (by decide) ?_
      exact x_zret C hr rfl ⟨by cases hf; rfl, by cases hf; rfl⟩ dX1_has_17
theorem dX1_countLit_0 : decode cX1_countLit 0 = .ok (.iconst 0, 1) := by decide +kernel
theorem dX1_countLit_1 : decode cX1_countLit 1 = .ok (.istore_n 1, 1) := by decide +kernel
theorem dX1_countLit_2 : decode cX1_countLit 2 = .ok (.iconst 0, 1) := by decide +kernel
theorem dX1_countLit_3 : decode cX1_countLit 3 = .ok (.istore_n 2, 1) := by decide +kernel
theorem dX1_countLit_4 : decode cX1_countLit 4 = .ok (.iload_n 2, 1) := by decide +kernel
theorem dX1_countLit_5 : decode cX1_countLit 5 = .ok (.aload_n 0, 1) := by decide +kernel
theorem dX1_countLit_6 : decode cX1_countLit 6 = .ok (.getfield 26, 3) := by decide +kernel
theorem dX1_countLit_9 : decode cX1_countLit 9 = .ok (.if_icmp .ge 21, 3) := by decide +kernel
theorem dX1_countLit_12 : decode cX1_countLit 12 = .ok (.aload_n 0, 1) := by decide +kernel
theorem dX1_countLit_13 : decode cX1_countLit 13 = .ok (.getfield 22, 3) := by decide +kernel
theorem dX1_countLit_16 : decode cX1_countLit 16 = .ok (.iload_n 2, 1) := by decide +kernel
theorem dX1_countLit_17 : decode cX1_countLit 17 = .ok (.baload, 1) := by decide +kernel
theorem dX1_countLit_18 : decode cX1_countLit 18 = .ok (.ifCond .eq 6, 3) := by decide +kernel
theorem dX1_countLit_21 : decode cX1_countLit 21 = .ok (.iinc 1 1, 3) := by decide +kernel
theorem dX1_countLit_24 : decode cX1_countLit 24 = .ok (.iinc 2 1, 3) := by decide +kernel
theorem dX1_countLit_27 : decode cX1_countLit 27 = .ok (.goto (-23), 3) := by decide +kernel
theorem dX1_countLit_30 : decode cX1_countLit 30 = .ok (.iload_n 1, 1) := by decide +kernel
theorem dX1_countLit_31 : decode cX1_countLit 31 = .ok (.ireturn, 1) := by decide +kernel
set_option maxHeartbeats 4000000 in
set_option maxRecDepth 100000 in
theorem c_X1_countLit (g : xG) (l : Launch) (a : Nat → Nat) (o : Nat) (c : CdT)  {u : Int32} (hf : f_X1_countLit c = some u) : ConD g l yX1_countLit cX1_countLit 3 (some .int) ({ frames := 0, cells := 0, slots := 0, locals := 0 } : Room) [.ref (a (o + 1))] [cdW g a o c] (some (.int u)) [cdW g a o c] := by
  unfold f_X1_countLit at hf
  refine Con_of [cdW g a o c] [(0, .ref (a (o + 1)))] rfl rfl (by decide) (Nat.le_of_ble_eq_true rfl) ?_
  intro pW eW sW mW argsW belowW methW c9 C hnm hr
  have C : CX g RX1 cX1_countLit 3 _ pW sW mW argsW methW c9 := C
  have hL4 : ∀ (nW : Nat) (x1 : Int32) (x2 : Int32), f_X1_countLit_4 nW c x1 x2 = some u → VW g (va_A ([cdW g a o c] : List va_W).flatten sW.heap.size) 3 pW l eW ({ frames := 0, cells := 0, slots := 0, locals := 0 } : Room) sW mW argsW belowW methW c9 0 0 (MQ belowW (xQc g ([cdW g a o c] : List va_W).flatten sW.heap.size (fun v9 w9 => v9 = some (.int u) ∧ w9 = ([cdW g a o c] : List va_W).flatten)) argsW sW 0 0 (va_A ([cdW g a o c] : List va_W).flatten sW.heap.size)) [cdW g a o c] [(0, .ref (a (o + 1))), (1, .int x1), (2, .int x2)] 4 [] := by
    intro nW
    induction nW with
    | zero => intro x1 x2 hf; rw [f_X1_countLit_4] at hf; cases hf
    | succ nW ih =>
      intro x1 x2 hf
      rw [f_X1_countLit_4] at hf
      refine x_iload_n C dX1_countLit_4 rfl 2 rfl ?_
      refine x_aload_n C dX1_countLit_5 rfl 0 rfl ?_
      refine x_get (ci := 4) (v := .int c.2.2.2.2) (b := cdW g a o c) C ixX1 rfl 4 (by decide) wd_830 (fun _ h => h) 0 rfl 0 (cdW_at0 g a o _) rfl dX1_countLit_6 ?_
      refine x_icmp_ge (tgt := 30) C dX1_countLit_9 (by decide) (fun h1 => ?_) (fun h1 => ?_)
      · have hf := x_t h1 hf
        refine x_iload_n C dX1_countLit_30 rfl 1 rfl ?_
        exact x_iret C hr ⟨by cases hf; rfl, by cases hf; rfl⟩ dX1_countLit_31
      · have hf := x_f h1 hf
        refine x_aload_n C dX1_countLit_12 rfl 0 rfl ?_
        refine x_get (ci := 4) (v := .ref (a (o + 5))) (b := cdW g a o c) C ixX1 rfl 3 (by decide) wd_827 (fun _ h => h) 0 rfl 0 (cdW_at0 g a o _) rfl dX1_countLit_13 ?_
        refine x_iload_n C dX1_countLit_16 rfl 2 rfl ?_
        obtain ⟨h2, hf⟩ := x_n hf
        refine x_zald (b := cdW g a o c) C 0 rfl 4 (cdW_at4 g a o _) h2 dX1_countLit_17 ?_
        refine x_if_eq (tgt := 24) C dX1_countLit_18 (by decide) (fun h3 => ?_) (fun h3 => ?_)
        · have hf := x_t h3 hf
          refine x_iinc (v := x2 + 1) (lv' := [(2, .int (x2 + 1)), (0, .ref (a (o + 1))), (1, .int x1)]) C dX1_countLit_24 2 rfl rfl (by decide) rfl ?_
          refine x_goto (tgt := 4) C dX1_countLit_27 (by decide) ?_
          refine x_locals (lv' := [(0, .ref (a (o + 1))), (1, .int x1), (2, .int (x2 + 1))]) [1, 2, 0] rfl ?_
          exact ih x1 (x2 + 1) hf
        · have hf := x_f h3 hf
          refine x_iinc (v := x1 + 1) (lv' := [(1, .int (x1 + 1)), (0, .ref (a (o + 1))), (2, .int x2)]) C dX1_countLit_21 1 rfl rfl (by decide) rfl ?_
          refine x_iinc (v := x2 + 1) (lv' := [(2, .int (x2 + 1)), (1, .int (x1 + 1)), (0, .ref (a (o + 1)))]) C dX1_countLit_24 2 rfl rfl (by decide) rfl ?_
          refine x_goto (tgt := 4) C dX1_countLit_27 (by decide) ?_
          refine x_locals (lv' := [(0, .ref (a (o + 1))), (1, .int (x1 + 1)), (2, .int (x2 + 1))]) [2, 1, 0] rfl ?_
          exact ih (x1 + 1) (x2 + 1) hf
  refine x_iconst (v := 0) C dX1_countLit_0 (by decide) ?_
  refine x_istore_n (lv' := [(1, .int (0 : Int32)), (0, .ref (a (o + 1)))]) C dX1_countLit_1 rfl (by decide) rfl ?_
  refine x_iconst (v := 0) C dX1_countLit_2 (by decide) ?_
  refine x_istore_n (lv' := [(2, .int (0 : Int32)), (1, .int (0 : Int32)), (0, .ref (a (o + 1)))]) C dX1_countLit_3 rfl (by decide) rfl ?_
  refine x_locals (lv' := [(0, .ref (a (o + 1))), (1, .int (0 : Int32)), (2, .int (0 : Int32))]) [2, 1, 0] rfl ?_
  exact hL4 xFuel (0 : Int32) (0 : Int32) hf
theorem dX1_countLitOf_0 : decode cX1_countLitOf 0 = .ok (.iconst 0, 1) := by decide +kernel
theorem dX1_countLitOf_1 : decode cX1_countLitOf 1 = .ok (.istore_n 2, 1) := by decide +kernel
theorem dX1_countLitOf_2 : decode cX1_countLitOf 2 = .ok (.iconst 0, 1) := by decide +kernel
theorem dX1_countLitOf_3 : decode cX1_countLitOf 3 = .ok (.istore_n 3, 1) := by decide +kernel
theorem dX1_countLitOf_4 : decode cX1_countLitOf 4 = .ok (.iload_n 3, 1) := by decide +kernel
theorem dX1_countLitOf_5 : decode cX1_countLitOf 5 = .ok (.aload_n 0, 1) := by decide +kernel
theorem dX1_countLitOf_6 : decode cX1_countLitOf 6 = .ok (.getfield 26, 3) := by decide +kernel
theorem dX1_countLitOf_9 : decode cX1_countLitOf 9 = .ok (.if_icmp .ge 31, 3) := by decide +kernel
theorem dX1_countLitOf_12 : decode cX1_countLitOf 12 = .ok (.aload_n 0, 1) := by decide +kernel
theorem dX1_countLitOf_13 : decode cX1_countLitOf 13 = .ok (.getfield 22, 3) := by decide +kernel
theorem dX1_countLitOf_16 : decode cX1_countLitOf 16 = .ok (.iload_n 3, 1) := by decide +kernel
theorem dX1_countLitOf_17 : decode cX1_countLitOf 17 = .ok (.baload, 1) := by decide +kernel
theorem dX1_countLitOf_18 : decode cX1_countLitOf 18 = .ok (.ifCond .eq 16, 3) := by decide +kernel
theorem dX1_countLitOf_21 : decode cX1_countLitOf 21 = .ok (.aload_n 0, 1) := by decide +kernel
theorem dX1_countLitOf_22 : decode cX1_countLitOf 22 = .ok (.getfield 9, 3) := by decide +kernel
theorem dX1_countLitOf_25 : decode cX1_countLitOf 25 = .ok (.iload_n 3, 1) := by decide +kernel
theorem dX1_countLitOf_26 : decode cX1_countLitOf 26 = .ok (.caload, 1) := by decide +kernel
theorem dX1_countLitOf_27 : decode cX1_countLitOf 27 = .ok (.iload_n 1, 1) := by decide +kernel
theorem dX1_countLitOf_28 : decode cX1_countLitOf 28 = .ok (.if_icmp .ne 6, 3) := by decide +kernel
theorem dX1_countLitOf_31 : decode cX1_countLitOf 31 = .ok (.iinc 2 1, 3) := by decide +kernel
theorem dX1_countLitOf_34 : decode cX1_countLitOf 34 = .ok (.iinc 3 1, 3) := by decide +kernel
theorem dX1_countLitOf_37 : decode cX1_countLitOf 37 = .ok (.goto (-33), 3) := by decide +kernel
theorem dX1_countLitOf_40 : decode cX1_countLitOf 40 = .ok (.iload_n 2, 1) := by decide +kernel
theorem dX1_countLitOf_41 : decode cX1_countLitOf 41 = .ok (.ireturn, 1) := by decide +kernel
set_option maxHeartbeats 4000000 in
set_option maxRecDepth 100000 in
theorem c_X1_countLitOf (g : xG) (l : Launch) (a : Nat → Nat) (o : Nat) (c : CdT) (x1 : Int32) {u : Int32} (hf : f_X1_countLitOf c x1 = some u) : ConD g l yX1_countLitOf cX1_countLitOf 4 (some .int) ({ frames := 0, cells := 0, slots := 0, locals := 0 } : Room) [.ref (a (o + 1)), .int x1] [cdW g a o c] (some (.int u)) [cdW g a o c] := by
  unfold f_X1_countLitOf at hf
  refine Con_of [cdW g a o c] [(0, .ref (a (o + 1))), (1, .int x1)] rfl rfl (by decide) (Nat.le_of_ble_eq_true rfl) ?_
  intro pW eW sW mW argsW belowW methW c9 C hnm hr
  have C : CX g RX1 cX1_countLitOf 4 _ pW sW mW argsW methW c9 := C
  have hL4 : ∀ (nW : Nat) (x1 : Int32) (x2 : Int32) (x3 : Int32), f_X1_countLitOf_4 nW c x1 x2 x3 = some u → VW g (va_A ([cdW g a o c] : List va_W).flatten sW.heap.size) 4 pW l eW ({ frames := 0, cells := 0, slots := 0, locals := 0 } : Room) sW mW argsW belowW methW c9 0 0 (MQ belowW (xQc g ([cdW g a o c] : List va_W).flatten sW.heap.size (fun v9 w9 => v9 = some (.int u) ∧ w9 = ([cdW g a o c] : List va_W).flatten)) argsW sW 0 0 (va_A ([cdW g a o c] : List va_W).flatten sW.heap.size)) [cdW g a o c] [(0, .ref (a (o + 1))), (1, .int x1), (2, .int x2), (3, .int x3)] 4 [] := by
    intro nW
    induction nW with
    | zero => intro x1 x2 x3 hf; rw [f_X1_countLitOf_4] at hf; cases hf
    | succ nW ih =>
      intro x1 x2 x3 hf
      rw [f_X1_countLitOf_4] at hf
      refine x_iload_n C dX1_countLitOf_4 rfl 3 rfl ?_
      refine x_aload_n C dX1_countLitOf_5 rfl 0 rfl ?_
      refine x_get (ci := 4) (v := .int c.2.2.2.2) (b := cdW g a o c) C ixX1 rfl 4 (by decide) wd_830 (fun _ h => h) 0 rfl 0 (cdW_at0 g a o _) rfl dX1_countLitOf_6 ?_
      refine x_icmp_ge (tgt := 40) C dX1_countLitOf_9 (by decide) (fun h1 => ?_) (fun h1 => ?_)
      · have hf := x_t h1 hf
        refine x_iload_n C dX1_countLitOf_40 rfl 2 rfl ?_
        exact x_iret C hr ⟨by cases hf; rfl, by cases hf; rfl⟩ dX1_countLitOf_41
      · have hf := x_f h1 hf
        refine x_aload_n C dX1_countLitOf_12 rfl 0 rfl ?_
        refine x_get (ci := 4) (v := .ref (a (o + 5))) (b := cdW g a o c) C ixX1 rfl 3 (by decide) wd_827 (fun _ h => h) 0 rfl 0 (cdW_at0 g a o _) rfl dX1_countLitOf_13 ?_
        refine x_iload_n C dX1_countLitOf_16 rfl 3 rfl ?_
        obtain ⟨h2, hf⟩ := x_n hf
        refine x_zald (b := cdW g a o c) C 0 rfl 4 (cdW_at4 g a o _) h2 dX1_countLitOf_17 ?_
        refine x_if_eq (tgt := 34) C dX1_countLitOf_18 (by decide) (fun h3 => ?_) (fun h3 => ?_)
        · have hf := x_t h3 hf
          refine x_iinc (v := x3 + 1) (lv' := [(3, .int (x3 + 1)), (0, .ref (a (o + 1))), (1, .int x1), (2, .int x2)]) C dX1_countLitOf_34 3 rfl rfl (by decide) rfl ?_
          refine x_goto (tgt := 4) C dX1_countLitOf_37 (by decide) ?_
          refine x_locals (lv' := [(0, .ref (a (o + 1))), (1, .int x1), (2, .int x2), (3, .int (x3 + 1))]) [1, 2, 3, 0] rfl ?_
          exact ih x1 x2 (x3 + 1) hf
        · have hf := x_f h3 hf
          refine x_aload_n C dX1_countLitOf_21 rfl 0 rfl ?_
          refine x_get (ci := 4) (v := .ref (a (o + 2))) (b := cdW g a o c) C ixX1 rfl 0 (by decide) wd_819 (fun _ h => h) 0 rfl 0 (cdW_at0 g a o _) rfl dX1_countLitOf_22 ?_
          refine x_iload_n C dX1_countLitOf_25 rfl 3 rfl ?_
          obtain ⟨h4, hf⟩ := x_n hf
          refine x_cald (b := cdW g a o c) C 0 rfl 1 (cdW_at1 g a o _) h4 dX1_countLitOf_26 ?_
          refine x_iload_n C dX1_countLitOf_27 rfl 1 rfl ?_
          refine x_icmp_ne (tgt := 34) C dX1_countLitOf_28 (by decide) (fun h5 => ?_) (fun h5 => ?_)
          · have hf := x_f h5 hf
            refine x_iinc (v := x3 + 1) (lv' := [(3, .int (x3 + 1)), (0, .ref (a (o + 1))), (1, .int x1), (2, .int x2)]) C dX1_countLitOf_34 3 rfl rfl (by decide) rfl ?_
            refine x_goto (tgt := 4) C dX1_countLitOf_37 (by decide) ?_
            refine x_locals (lv' := [(0, .ref (a (o + 1))), (1, .int x1), (2, .int x2), (3, .int (x3 + 1))]) [1, 2, 3, 0] rfl ?_
            exact ih x1 x2 (x3 + 1) hf
          · have hf := x_t h5 hf
            refine x_iinc (v := x2 + 1) (lv' := [(2, .int (x2 + 1)), (0, .ref (a (o + 1))), (1, .int x1), (3, .int x3)]) C dX1_countLitOf_31 2 rfl rfl (by decide) rfl ?_
            refine x_iinc (v := x3 + 1) (lv' := [(3, .int (x3 + 1)), (2, .int (x2 + 1)), (0, .ref (a (o + 1))), (1, .int x1)]) C dX1_countLitOf_34 3 rfl rfl (by decide) rfl ?_
            refine x_goto (tgt := 4) C dX1_countLitOf_37 (by decide) ?_
            refine x_locals (lv' := [(0, .ref (a (o + 1))), (1, .int x1), (2, .int (x2 + 1)), (3, .int (x3 + 1))]) [2, 3, 1, 0] rfl ?_
            exact ih x1 (x2 + 1) (x3 + 1) hf
  refine x_iconst (v := 0) C dX1_countLitOf_0 (by decide) ?_
  refine x_istore_n (lv' := [(2, .int (0 : Int32)), (0, .ref (a (o + 1))), (1, .int x1)]) C dX1_countLitOf_1 rfl (by decide) rfl ?_
  refine x_iconst (v := 0) C dX1_countLitOf_2 (by decide) ?_
  refine x_istore_n (lv' := [(3, .int (0 : Int32)), (2, .int (0 : Int32)), (0, .ref (a (o + 1))), (1, .int x1)]) C dX1_countLitOf_3 rfl (by decide) rfl ?_
  refine x_locals (lv' := [(0, .ref (a (o + 1))), (1, .int x1), (2, .int (0 : Int32)), (3, .int (0 : Int32))]) [2, 3, 1, 0] rfl ?_
  exact hL4 xFuel x1 (0 : Int32) (0 : Int32) hf
theorem wd_27 : Cond.initialized RX1 ∈ xTB := xTB_in 27 (by decide +kernel) (by decide +kernel)
theorem wd_1335 : Cond.instanceMethod yX1_countLitOf ∈ xTB := xTB_in 1335 (by decide +kernel) (by decide +kernel)
theorem wd_1336 : Cond.selects yX1_countLitOf.cls yX1_countLitOf yX1_countLitOf ∈ xTB := xTB_in 1336 (by decide +kernel) (by decide +kernel)
theorem wd_1337 : Cond.code yX1_countLitOf cX1_countLitOf 4 (some .int) ∈ xTB := xTB_in 1337 (by decide +kernel) (by decide +kernel)
theorem wd_1374 : Cond.methodLink RX1 33 yX1_countLitOf ∈ xTB := xTB_in 1374 (by decide +kernel) (by decide +kernel)
theorem dX1_loudest_0 : decode cX1_loudest 0 = .ok (.getstatic 30, 3) := by decide +kernel
theorem dX1_loudest_3 : decode cX1_loudest 3 = .ok (.iconst 0, 1) := by decide +kernel
theorem dX1_loudest_4 : decode cX1_loudest 4 = .ok (.caload, 1) := by decide +kernel
theorem dX1_loudest_5 : decode cX1_loudest 5 = .ok (.istore_n 1, 1) := by decide +kernel
theorem dX1_loudest_6 : decode cX1_loudest 6 = .ok (.iconst 1, 1) := by decide +kernel
theorem dX1_loudest_7 : decode cX1_loudest 7 = .ok (.istore_n 2, 1) := by decide +kernel
theorem dX1_loudest_8 : decode cX1_loudest 8 = .ok (.iload_n 2, 1) := by decide +kernel
theorem dX1_loudest_9 : decode cX1_loudest 9 = .ok (.getstatic 30, 3) := by decide +kernel
theorem dX1_loudest_12 : decode cX1_loudest 12 = .ok (.arraylength, 1) := by decide +kernel
theorem dX1_loudest_13 : decode cX1_loudest 13 = .ok (.if_icmp .ge 32, 3) := by decide +kernel
theorem dX1_loudest_16 : decode cX1_loudest 16 = .ok (.aload_n 0, 1) := by decide +kernel
theorem dX1_loudest_17 : decode cX1_loudest 17 = .ok (.getstatic 30, 3) := by decide +kernel
theorem dX1_loudest_20 : decode cX1_loudest 20 = .ok (.iload_n 2, 1) := by decide +kernel
theorem dX1_loudest_21 : decode cX1_loudest 21 = .ok (.caload, 1) := by decide +kernel
theorem dX1_loudest_22 : decode cX1_loudest 22 = .ok (.invokevirtual 33, 3) := by decide +kernel
theorem dX1_loudest_25 : decode cX1_loudest 25 = .ok (.aload_n 0, 1) := by decide +kernel
theorem dX1_loudest_26 : decode cX1_loudest 26 = .ok (.iload_n 1, 1) := by decide +kernel
theorem dX1_loudest_27 : decode cX1_loudest 27 = .ok (.invokevirtual 33, 3) := by decide +kernel
theorem dX1_loudest_30 : decode cX1_loudest 30 = .ok (.if_icmp .le 9, 3) := by decide +kernel
theorem dX1_loudest_33 : decode cX1_loudest 33 = .ok (.getstatic 30, 3) := by decide +kernel
theorem dX1_loudest_36 : decode cX1_loudest 36 = .ok (.iload_n 2, 1) := by decide +kernel
theorem dX1_loudest_37 : decode cX1_loudest 37 = .ok (.caload, 1) := by decide +kernel
theorem dX1_loudest_38 : decode cX1_loudest 38 = .ok (.istore_n 1, 1) := by decide +kernel
theorem dX1_loudest_39 : decode cX1_loudest 39 = .ok (.iinc 2 1, 3) := by decide +kernel
theorem dX1_loudest_42 : decode cX1_loudest 42 = .ok (.goto (-34), 3) := by decide +kernel
theorem dX1_loudest_45 : decode cX1_loudest 45 = .ok (.iload_n 1, 1) := by decide +kernel
theorem dX1_loudest_46 : decode cX1_loudest 46 = .ok (.ireturn, 1) := by decide +kernel
set_option maxHeartbeats 4000000 in
set_option maxRecDepth 100000 in
theorem c_X1_loudest (g : xG) (l : Launch) (a : Nat → Nat) (o : Nat) (c : CdT)  {u : Int32} (hf : f_X1_loudest c = some u) : ConD g l yX1_loudest cX1_loudest 3 (some .char) ({ frames := 1, cells := 0, slots := 0, locals := 23 } : Room) [.ref (a (o + 1))] [cdW g a o c] (some (.int u)) [cdW g a o c] := by
  unfold f_X1_loudest at hf
  refine Con_of [cdW g a o c] [(0, .ref (a (o + 1)))] rfl rfl (by decide) (Nat.le_of_ble_eq_true rfl) ?_
  intro pW eW sW mW argsW belowW methW c9 C hnm hr
  have C : CX g RX1 cX1_loudest 3 _ pW sW mW argsW methW c9 := C
  have hL8 : ∀ (nW : Nat) (x1 : Int32) (x2 : Int32), f_X1_loudest_8 nW c x1 x2 = some u → VW g (va_A ([cdW g a o c] : List va_W).flatten sW.heap.size) 3 pW l eW ({ frames := 1, cells := 0, slots := 0, locals := 23 } : Room) sW mW argsW belowW methW c9 0 0 (MQ belowW (xQc g ([cdW g a o c] : List va_W).flatten sW.heap.size (fun v9 w9 => v9 = some (.int u) ∧ w9 = ([cdW g a o c] : List va_W).flatten)) argsW sW 0 0 (va_A ([cdW g a o c] : List va_W).flatten sW.heap.size)) [cdW g a o c] [(0, .ref (a (o + 1))), (1, .int x1), (2, .int x2)] 8 [] := by
    intro nW
    induction nW with
    | zero => intro x1 x2 hf; rw [f_X1_loudest_8] at hf; cases hf
    | succ nW ih =>
      intro x1 x2 hf
      rw [f_X1_loudest_8] at hf
      refine x_iload_n C dX1_loudest_8 rfl 2 rfl ?_
      refine x_getsN (host := "CandleConcert") (Cn := "CandleConcert") (n := "VOICES") (d := "[C") C (CX_vo C) (by decide) (fun _ h => h) dX1_loudest_9 ?_
      refine x_stn (v := 4) C (CX_tvo C) (by decide) dX1_loudest_12 ?_
      refine x_icmp_ge (tgt := 45) C dX1_loudest_13 (by decide) (fun h1 => ?_) (fun h1 => ?_)
      · have hf := x_t h1 hf
        refine x_iload_n C dX1_loudest_45 rfl 1 rfl ?_
        obtain ⟨h2, hf⟩ := x_y hf
        exact x_zret C hr (x_narC h2).1 ⟨by cases hf; rfl, by cases hf; rfl⟩ dX1_loudest_46
      · have hf := x_f h1 hf
        refine x_aload_n C dX1_loudest_16 rfl 0 rfl ?_
        refine x_getsN (host := "CandleConcert") (Cn := "CandleConcert") (n := "VOICES") (d := "[C") C (CX_vo C) (by decide) (fun _ h => h) dX1_loudest_17 ?_
        refine x_iload_n C dX1_loudest_20 rfl 2 rfl ?_
        obtain ⟨h3, hf⟩ := x_n hf
        refine x_stc (f := fun j => voT.getD j 0) C (CX_tvo C) h3 dX1_loudest_21 ?_
        obtain ⟨u4, hu4, hf⟩ := x_b hf
        refine x_callV (n := 1) (As := [.int (voT.getD x2.toNatClampNeg 0)]) (rest := []) C (c_X1_countLitOf g l a o c (voT.getD x2.toNatClampNeg 0) hu4) ⟨⟨wd_1337, wd_1374, wd_27⟩, ⟨by decide, by decide, by decide⟩, rfl, rfl, Nat.le_of_ble_eq_true rfl, Nat.le_of_ble_eq_true rfl⟩ wd_1335 wd_1336 ⟨0, 4, _, _, rfl, rfl, rfl⟩ [] (x_pickD [0] 1 rfl rfl rfl) rfl rfl (Nat.le_of_ble_eq_true rfl) ⟨Nat.le_of_ble_eq_true rfl, Nat.le_of_ble_eq_true rfl⟩ dX1_loudest_22 (x_goD (wss2 := [cdW g a o c]) (stk2 := [.int u4]) rfl rfl ?_)
        refine x_aload_n C dX1_loudest_25 rfl 0 rfl ?_
        refine x_iload_n C dX1_loudest_26 rfl 1 rfl ?_
        obtain ⟨u5, hu5, hf⟩ := x_b hf
        refine x_callV (n := 1) (As := [.int x1]) (rest := [.int u4]) C (c_X1_countLitOf g l a o c x1 hu5) ⟨⟨wd_1337, wd_1374, wd_27⟩, ⟨by decide, by decide, by decide⟩, rfl, rfl, Nat.le_of_ble_eq_true rfl, Nat.le_of_ble_eq_true rfl⟩ wd_1335 wd_1336 ⟨0, 4, _, _, rfl, rfl, rfl⟩ [] (x_pickD [0] 1 rfl rfl rfl) rfl rfl (Nat.le_of_ble_eq_true rfl) ⟨Nat.le_of_ble_eq_true rfl, Nat.le_of_ble_eq_true rfl⟩ dX1_loudest_27 (x_goD (wss2 := [cdW g a o c]) (stk2 := [.int u5, .int u4]) rfl rfl ?_)
        refine x_icmp_le (tgt := 39) C dX1_loudest_30 (by decide) (fun h6 => ?_) (fun h6 => ?_)
        · have hf := x_t h6 hf
          refine x_iinc (v := x2 + 1) (lv' := [(2, .int (x2 + 1)), (0, .ref (a (o + 1))), (1, .int x1)]) C dX1_loudest_39 2 rfl rfl (by decide) rfl ?_
          refine x_goto (tgt := 8) C dX1_loudest_42 (by decide) ?_
          refine x_locals (lv' := [(0, .ref (a (o + 1))), (1, .int x1), (2, .int (x2 + 1))]) [1, 2, 0] rfl ?_
          exact ih x1 (x2 + 1) hf
        · have hf := x_f h6 hf
          refine x_getsN (host := "CandleConcert") (Cn := "CandleConcert") (n := "VOICES") (d := "[C") C (CX_vo C) (by decide) (fun _ h => h) dX1_loudest_33 ?_
          refine x_iload_n C dX1_loudest_36 rfl 2 rfl ?_
          obtain ⟨h7, hf⟩ := x_n hf
          refine x_stc (f := fun j => voT.getD j 0) C (CX_tvo C) h7 dX1_loudest_37 ?_
          refine x_istore_n (lv' := [(1, .int (voT.getD x2.toNatClampNeg 0)), (0, .ref (a (o + 1))), (2, .int x2)]) C dX1_loudest_38 rfl (by decide) rfl ?_
          refine x_iinc (v := x2 + 1) (lv' := [(2, .int (x2 + 1)), (1, .int (voT.getD x2.toNatClampNeg 0)), (0, .ref (a (o + 1)))]) C dX1_loudest_39 2 rfl rfl (by decide) rfl ?_
          refine x_goto (tgt := 8) C dX1_loudest_42 (by decide) ?_
          refine x_locals (lv' := [(0, .ref (a (o + 1))), (1, .int (voT.getD x2.toNatClampNeg 0)), (2, .int (x2 + 1))]) [2, 1, 0] rfl ?_
          exact ih (voT.getD x2.toNatClampNeg 0) (x2 + 1) hf
  refine x_getsN (host := "CandleConcert") (Cn := "CandleConcert") (n := "VOICES") (d := "[C") C (CX_vo C) (by decide) (fun _ h => h) dX1_loudest_0 ?_
  refine x_iconst (v := 0) C dX1_loudest_3 (by decide) ?_
  obtain ⟨h1, hf⟩ := x_n hf
  refine x_stc (f := fun j => voT.getD j 0) C (CX_tvo C) h1 dX1_loudest_4 ?_
  refine x_istore_n (lv' := [(1, .int (voT.getD (0 : Int32).toNatClampNeg 0)), (0, .ref (a (o + 1)))]) C dX1_loudest_5 rfl (by decide) rfl ?_
  refine x_iconst (v := 1) C dX1_loudest_6 (by decide) ?_
  refine x_istore_n (lv' := [(2, .int (1 : Int32)), (1, .int (voT.getD (0 : Int32).toNatClampNeg 0)), (0, .ref (a (o + 1)))]) C dX1_loudest_7 rfl (by decide) rfl ?_
  refine x_locals (lv' := [(0, .ref (a (o + 1))), (1, .int (voT.getD (0 : Int32).toNatClampNeg 0)), (2, .int (1 : Int32))]) [2, 1, 0] rfl ?_
  exact hL8 xFuel (voT.getD (0 : Int32).toNatClampNeg 0) (1 : Int32) hf
theorem dX1_sumOfWax_0 : decode cX1_sumOfWax 0 = .ok (.iconst 0, 1) := by decide +kernel
theorem dX1_sumOfWax_1 : decode cX1_sumOfWax 1 = .ok (.istore_n 1, 1) := by decide +kernel
theorem dX1_sumOfWax_2 : decode cX1_sumOfWax 2 = .ok (.iconst 0, 1) := by decide +kernel
theorem dX1_sumOfWax_3 : decode cX1_sumOfWax 3 = .ok (.istore_n 2, 1) := by decide +kernel
theorem dX1_sumOfWax_4 : decode cX1_sumOfWax 4 = .ok (.iload_n 2, 1) := by decide +kernel
theorem dX1_sumOfWax_5 : decode cX1_sumOfWax 5 = .ok (.aload_n 0, 1) := by decide +kernel
theorem dX1_sumOfWax_6 : decode cX1_sumOfWax 6 = .ok (.getfield 26, 3) := by decide +kernel
theorem dX1_sumOfWax_9 : decode cX1_sumOfWax 9 = .ok (.if_icmp .ge 18, 3) := by decide +kernel
theorem dX1_sumOfWax_12 : decode cX1_sumOfWax 12 = .ok (.iload_n 1, 1) := by decide +kernel
theorem dX1_sumOfWax_13 : decode cX1_sumOfWax 13 = .ok (.aload_n 0, 1) := by decide +kernel
theorem dX1_sumOfWax_14 : decode cX1_sumOfWax 14 = .ok (.getfield 15, 3) := by decide +kernel
theorem dX1_sumOfWax_17 : decode cX1_sumOfWax 17 = .ok (.iload_n 2, 1) := by decide +kernel
theorem dX1_sumOfWax_18 : decode cX1_sumOfWax 18 = .ok (.iaload, 1) := by decide +kernel
theorem dX1_sumOfWax_19 : decode cX1_sumOfWax 19 = .ok (.iadd, 1) := by decide +kernel
theorem dX1_sumOfWax_20 : decode cX1_sumOfWax 20 = .ok (.istore_n 1, 1) := by decide +kernel
theorem dX1_sumOfWax_21 : decode cX1_sumOfWax 21 = .ok (.iinc 2 1, 3) := by decide +kernel
theorem dX1_sumOfWax_24 : decode cX1_sumOfWax 24 = .ok (.goto (-20), 3) := by decide +kernel
theorem dX1_sumOfWax_27 : decode cX1_sumOfWax 27 = .ok (.iload_n 1, 1) := by decide +kernel
theorem dX1_sumOfWax_28 : decode cX1_sumOfWax 28 = .ok (.ireturn, 1) := by decide +kernel
set_option maxHeartbeats 4000000 in
set_option maxRecDepth 100000 in
theorem c_X1_sumOfWax (g : xG) (l : Launch) (a : Nat → Nat) (o : Nat) (c : CdT)  {u : Int32} (hf : f_X1_sumOfWax c = some u) : ConD g l yX1_sumOfWax cX1_sumOfWax 3 (some .int) ({ frames := 0, cells := 0, slots := 0, locals := 0 } : Room) [.ref (a (o + 1))] [cdW g a o c] (some (.int u)) [cdW g a o c] := by
  unfold f_X1_sumOfWax at hf
  refine Con_of [cdW g a o c] [(0, .ref (a (o + 1)))] rfl rfl (by decide) (Nat.le_of_ble_eq_true rfl) ?_
  intro pW eW sW mW argsW belowW methW c9 C hnm hr
  have C : CX g RX1 cX1_sumOfWax 3 _ pW sW mW argsW methW c9 := C
  have hL4 : ∀ (nW : Nat) (x1 : Int32) (x2 : Int32), f_X1_sumOfWax_4 nW c x1 x2 = some u → VW g (va_A ([cdW g a o c] : List va_W).flatten sW.heap.size) 3 pW l eW ({ frames := 0, cells := 0, slots := 0, locals := 0 } : Room) sW mW argsW belowW methW c9 0 0 (MQ belowW (xQc g ([cdW g a o c] : List va_W).flatten sW.heap.size (fun v9 w9 => v9 = some (.int u) ∧ w9 = ([cdW g a o c] : List va_W).flatten)) argsW sW 0 0 (va_A ([cdW g a o c] : List va_W).flatten sW.heap.size)) [cdW g a o c] [(0, .ref (a (o + 1))), (1, .int x1), (2, .int x2)] 4 [] := by
    intro nW
    induction nW with
    | zero => intro x1 x2 hf; rw [f_X1_sumOfWax_4] at hf; cases hf
    | succ nW ih =>
      intro x1 x2 hf
      rw [f_X1_sumOfWax_4] at hf
      refine x_iload_n C dX1_sumOfWax_4 rfl 2 rfl ?_
      refine x_aload_n C dX1_sumOfWax_5 rfl 0 rfl ?_
      refine x_get (ci := 4) (v := .int c.2.2.2.2) (b := cdW g a o c) C ixX1 rfl 4 (by decide) wd_830 (fun _ h => h) 0 rfl 0 (cdW_at0 g a o _) rfl dX1_sumOfWax_6 ?_
      refine x_icmp_ge (tgt := 27) C dX1_sumOfWax_9 (by decide) (fun h1 => ?_) (fun h1 => ?_)
      · have hf := x_t h1 hf
        refine x_iload_n C dX1_sumOfWax_27 rfl 1 rfl ?_
        exact x_iret C hr ⟨by cases hf; rfl, by cases hf; rfl⟩ dX1_sumOfWax_28
      · have hf := x_f h1 hf
        refine x_iload_n C dX1_sumOfWax_12 rfl 1 rfl ?_
        refine x_aload_n C dX1_sumOfWax_13 rfl 0 rfl ?_
        refine x_get (ci := 4) (v := .ref (a (o + 3))) (b := cdW g a o c) C ixX1 rfl 1 (by decide) wd_822 (fun _ h => h) 0 rfl 0 (cdW_at0 g a o _) rfl dX1_sumOfWax_14 ?_
        refine x_iload_n C dX1_sumOfWax_17 rfl 2 rfl ?_
        obtain ⟨h2, hf⟩ := x_n hf
        refine x_iald (b := cdW g a o c) C 0 rfl 2 (cdW_at2 g a o _) h2 dX1_sumOfWax_18 ?_
        refine x_iadd C dX1_sumOfWax_19 ?_
        refine x_istore_n (lv' := [(1, .int (x1 + (c.2.1 x2.toNatClampNeg))), (0, .ref (a (o + 1))), (2, .int x2)]) C dX1_sumOfWax_20 rfl (by decide) rfl ?_
        refine x_iinc (v := x2 + 1) (lv' := [(2, .int (x2 + 1)), (1, .int (x1 + (c.2.1 x2.toNatClampNeg))), (0, .ref (a (o + 1)))]) C dX1_sumOfWax_21 2 rfl rfl (by decide) rfl ?_
        refine x_goto (tgt := 4) C dX1_sumOfWax_24 (by decide) ?_
        refine x_locals (lv' := [(0, .ref (a (o + 1))), (1, .int (x1 + (c.2.1 x2.toNatClampNeg))), (2, .int (x2 + 1))]) [2, 1, 0] rfl ?_
        exact ih (x1 + (c.2.1 x2.toNatClampNeg)) (x2 + 1) hf
  refine x_iconst (v := 0) C dX1_sumOfWax_0 (by decide) ?_
  refine x_istore_n (lv' := [(1, .int (0 : Int32)), (0, .ref (a (o + 1)))]) C dX1_sumOfWax_1 rfl (by decide) rfl ?_
  refine x_iconst (v := 0) C dX1_sumOfWax_2 (by decide) ?_
  refine x_istore_n (lv' := [(2, .int (0 : Int32)), (1, .int (0 : Int32)), (0, .ref (a (o + 1)))]) C dX1_sumOfWax_3 rfl (by decide) rfl ?_
  refine x_locals (lv' := [(0, .ref (a (o + 1))), (1, .int (0 : Int32)), (2, .int (0 : Int32))]) [2, 1, 0] rfl ?_
  exact hL4 xFuel (0 : Int32) (0 : Int32) hf
theorem dX1_rankOf_0 : decode cX1_rankOf 0 = .ok (.iconst 0, 1) := by decide +kernel
theorem dX1_rankOf_1 : decode cX1_rankOf 1 = .ok (.istore_n 2, 1) := by decide +kernel
theorem dX1_rankOf_2 : decode cX1_rankOf 2 = .ok (.iconst 0, 1) := by decide +kernel
theorem dX1_rankOf_3 : decode cX1_rankOf 3 = .ok (.istore_n 3, 1) := by decide +kernel
theorem dX1_rankOf_4 : decode cX1_rankOf 4 = .ok (.iload_n 3, 1) := by decide +kernel
theorem dX1_rankOf_5 : decode cX1_rankOf 5 = .ok (.aload_n 0, 1) := by decide +kernel
theorem dX1_rankOf_6 : decode cX1_rankOf 6 = .ok (.getfield 26, 3) := by decide +kernel
theorem dX1_rankOf_9 : decode cX1_rankOf 9 = .ok (.if_icmp .ge 47, 3) := by decide +kernel
theorem dX1_rankOf_12 : decode cX1_rankOf 12 = .ok (.aload_n 0, 1) := by decide +kernel
theorem dX1_rankOf_13 : decode cX1_rankOf 13 = .ok (.getfield 15, 3) := by decide +kernel
theorem dX1_rankOf_16 : decode cX1_rankOf 16 = .ok (.iload_n 3, 1) := by decide +kernel
theorem dX1_rankOf_17 : decode cX1_rankOf 17 = .ok (.iaload, 1) := by decide +kernel
theorem dX1_rankOf_18 : decode cX1_rankOf 18 = .ok (.aload_n 0, 1) := by decide +kernel
theorem dX1_rankOf_19 : decode cX1_rankOf 19 = .ok (.getfield 15, 3) := by decide +kernel
theorem dX1_rankOf_22 : decode cX1_rankOf 22 = .ok (.iload_n 1, 1) := by decide +kernel
theorem dX1_rankOf_23 : decode cX1_rankOf 23 = .ok (.iaload, 1) := by decide +kernel
theorem dX1_rankOf_24 : decode cX1_rankOf 24 = .ok (.if_icmp .gt 23, 3) := by decide +kernel
theorem dX1_rankOf_27 : decode cX1_rankOf 27 = .ok (.aload_n 0, 1) := by decide +kernel
theorem dX1_rankOf_28 : decode cX1_rankOf 28 = .ok (.getfield 15, 3) := by decide +kernel
theorem dX1_rankOf_31 : decode cX1_rankOf 31 = .ok (.iload_n 3, 1) := by decide +kernel
theorem dX1_rankOf_32 : decode cX1_rankOf 32 = .ok (.iaload, 1) := by decide +kernel
theorem dX1_rankOf_33 : decode cX1_rankOf 33 = .ok (.aload_n 0, 1) := by decide +kernel
theorem dX1_rankOf_34 : decode cX1_rankOf 34 = .ok (.getfield 15, 3) := by decide +kernel
theorem dX1_rankOf_37 : decode cX1_rankOf 37 = .ok (.iload_n 1, 1) := by decide +kernel
theorem dX1_rankOf_38 : decode cX1_rankOf 38 = .ok (.iaload, 1) := by decide +kernel
theorem dX1_rankOf_39 : decode cX1_rankOf 39 = .ok (.if_icmp .ne 11, 3) := by decide +kernel
theorem dX1_rankOf_42 : decode cX1_rankOf 42 = .ok (.iload_n 3, 1) := by decide +kernel
theorem dX1_rankOf_43 : decode cX1_rankOf 43 = .ok (.iload_n 1, 1) := by decide +kernel
theorem dX1_rankOf_44 : decode cX1_rankOf 44 = .ok (.if_icmp .ge 6, 3) := by decide +kernel
theorem dX1_rankOf_47 : decode cX1_rankOf 47 = .ok (.iinc 2 1, 3) := by decide +kernel
theorem dX1_rankOf_50 : decode cX1_rankOf 50 = .ok (.iinc 3 1, 3) := by decide +kernel
theorem dX1_rankOf_53 : decode cX1_rankOf 53 = .ok (.goto (-49), 3) := by decide +kernel
theorem dX1_rankOf_56 : decode cX1_rankOf 56 = .ok (.iload_n 2, 1) := by decide +kernel
theorem dX1_rankOf_57 : decode cX1_rankOf 57 = .ok (.ireturn, 1) := by decide +kernel
set_option maxHeartbeats 4000000 in
set_option maxRecDepth 100000 in
theorem c_X1_rankOf (g : xG) (l : Launch) (a : Nat → Nat) (o : Nat) (c : CdT) (x1 : Int32) {u : Int32} (hf : f_X1_rankOf c x1 = some u) : ConD g l yX1_rankOf cX1_rankOf 4 (some .int) ({ frames := 0, cells := 0, slots := 0, locals := 0 } : Room) [.ref (a (o + 1)), .int x1] [cdW g a o c] (some (.int u)) [cdW g a o c] := by
  unfold f_X1_rankOf at hf
  refine Con_of [cdW g a o c] [(0, .ref (a (o + 1))), (1, .int x1)] rfl rfl (by decide) (Nat.le_of_ble_eq_true rfl) ?_
  intro pW eW sW mW argsW belowW methW c9 C hnm hr
  have C : CX g RX1 cX1_rankOf 4 _ pW sW mW argsW methW c9 := C
  have hL4 : ∀ (nW : Nat) (x1 : Int32) (x2 : Int32) (x3 : Int32), f_X1_rankOf_4 nW c x1 x2 x3 = some u → VW g (va_A ([cdW g a o c] : List va_W).flatten sW.heap.size) 4 pW l eW ({ frames := 0, cells := 0, slots := 0, locals := 0 } : Room) sW mW argsW belowW methW c9 0 0 (MQ belowW (xQc g ([cdW g a o c] : List va_W).flatten sW.heap.size (fun v9 w9 => v9 = some (.int u) ∧ w9 = ([cdW g a o c] : List va_W).flatten)) argsW sW 0 0 (va_A ([cdW g a o c] : List va_W).flatten sW.heap.size)) [cdW g a o c] [(0, .ref (a (o + 1))), (1, .int x1), (2, .int x2), (3, .int x3)] 4 [] := by
    intro nW
    induction nW with
    | zero => intro x1 x2 x3 hf; rw [f_X1_rankOf_4] at hf; cases hf
    | succ nW ih =>
      intro x1 x2 x3 hf
      rw [f_X1_rankOf_4] at hf
      refine x_iload_n C dX1_rankOf_4 rfl 3 rfl ?_
      refine x_aload_n C dX1_rankOf_5 rfl 0 rfl ?_
      refine x_get (ci := 4) (v := .int c.2.2.2.2) (b := cdW g a o c) C ixX1 rfl 4 (by decide) wd_830 (fun _ h => h) 0 rfl 0 (cdW_at0 g a o _) rfl dX1_rankOf_6 ?_
      refine x_icmp_ge (tgt := 56) C dX1_rankOf_9 (by decide) (fun h1 => ?_) (fun h1 => ?_)
      · have hf := x_t h1 hf
        refine x_iload_n C dX1_rankOf_56 rfl 2 rfl ?_
        exact x_iret C hr ⟨by cases hf; rfl, by cases hf; rfl⟩ dX1_rankOf_57
      · have hf := x_f h1 hf
        refine x_aload_n C dX1_rankOf_12 rfl 0 rfl ?_
        refine x_get (ci := 4) (v := .ref (a (o + 3))) (b := cdW g a o c) C ixX1 rfl 1 (by decide) wd_822 (fun _ h => h) 0 rfl 0 (cdW_at0 g a o _) rfl dX1_rankOf_13 ?_
        refine x_iload_n C dX1_rankOf_16 rfl 3 rfl ?_
        obtain ⟨h2, hf⟩ := x_n hf
        refine x_iald (b := cdW g a o c) C 0 rfl 2 (cdW_at2 g a o _) h2 dX1_rankOf_17 ?_
        refine x_aload_n C dX1_rankOf_18 rfl 0 rfl ?_
        refine x_get (ci := 4) (v := .ref (a (o + 3))) (b := cdW g a o c) C ixX1 rfl 1 (by decide) wd_822 (fun _ h => h) 0 rfl 0 (cdW_at0 g a o _) rfl dX1_rankOf_19 ?_
        refine x_iload_n C dX1_rankOf_22 rfl 1 rfl ?_
        obtain ⟨h3, hf⟩ := x_n hf
        refine x_iald (b := cdW g a o c) C 0 rfl 2 (cdW_at2 g a o _) h3 dX1_rankOf_23 ?_
        refine x_icmp_gt (tgt := 47) C dX1_rankOf_24 (by decide) (fun h4 => ?_) (fun h4 => ?_)
        · have hf := x_t h4 hf
          refine x_iinc (v := x2 + 1) (lv' := [(2, .int (x2 + 1)), (0, .ref (a (o + 1))), (1, .int x1), (3, .int x3)]) C dX1_rankOf_47 2 rfl rfl (by decide) rfl ?_
          refine x_iinc (v := x3 + 1) (lv' := [(3, .int (x3 + 1)), (2, .int (x2 + 1)), (0, .ref (a (o + 1))), (1, .int x1)]) C dX1_rankOf_50 3 rfl rfl (by decide) rfl ?_
          refine x_goto (tgt := 4) C dX1_rankOf_53 (by decide) ?_
          refine x_locals (lv' := [(0, .ref (a (o + 1))), (1, .int x1), (2, .int (x2 + 1)), (3, .int (x3 + 1))]) [2, 3, 1, 0] rfl ?_
          exact ih x1 (x2 + 1) (x3 + 1) hf
        · have hf := x_f h4 hf
          refine x_aload_n C dX1_rankOf_27 rfl 0 rfl ?_
          refine x_get (ci := 4) (v := .ref (a (o + 3))) (b := cdW g a o c) C ixX1 rfl 1 (by decide) wd_822 (fun _ h => h) 0 rfl 0 (cdW_at0 g a o _) rfl dX1_rankOf_28 ?_
          refine x_iload_n C dX1_rankOf_31 rfl 3 rfl ?_
          obtain ⟨h5, hf⟩ := x_n hf
          refine x_iald (b := cdW g a o c) C 0 rfl 2 (cdW_at2 g a o _) h5 dX1_rankOf_32 ?_
          refine x_aload_n C dX1_rankOf_33 rfl 0 rfl ?_
          refine x_get (ci := 4) (v := .ref (a (o + 3))) (b := cdW g a o c) C ixX1 rfl 1 (by decide) wd_822 (fun _ h => h) 0 rfl 0 (cdW_at0 g a o _) rfl dX1_rankOf_34 ?_
          refine x_iload_n C dX1_rankOf_37 rfl 1 rfl ?_
          obtain ⟨h6, hf⟩ := x_n hf
          refine x_iald (b := cdW g a o c) C 0 rfl 2 (cdW_at2 g a o _) h6 dX1_rankOf_38 ?_
          refine x_icmp_ne (tgt := 50) C dX1_rankOf_39 (by decide) (fun h7 => ?_) (fun h7 => ?_)
          · have hf := x_f h7 hf
            refine x_iinc (v := x3 + 1) (lv' := [(3, .int (x3 + 1)), (0, .ref (a (o + 1))), (1, .int x1), (2, .int x2)]) C dX1_rankOf_50 3 rfl rfl (by decide) rfl ?_
            refine x_goto (tgt := 4) C dX1_rankOf_53 (by decide) ?_
            refine x_locals (lv' := [(0, .ref (a (o + 1))), (1, .int x1), (2, .int x2), (3, .int (x3 + 1))]) [1, 2, 3, 0] rfl ?_
            exact ih x1 x2 (x3 + 1) hf
          · have hf := x_t h7 hf
            refine x_iload_n C dX1_rankOf_42 rfl 3 rfl ?_
            refine x_iload_n C dX1_rankOf_43 rfl 1 rfl ?_
            refine x_icmp_ge (tgt := 50) C dX1_rankOf_44 (by decide) (fun h8 => ?_) (fun h8 => ?_)
            · have hf := x_t h8 hf
              refine x_iinc (v := x3 + 1) (lv' := [(3, .int (x3 + 1)), (0, .ref (a (o + 1))), (1, .int x1), (2, .int x2)]) C dX1_rankOf_50 3 rfl rfl (by decide) rfl ?_
              refine x_goto (tgt := 4) C dX1_rankOf_53 (by decide) ?_
              refine x_locals (lv' := [(0, .ref (a (o + 1))), (1, .int x1), (2, .int x2), (3, .int (x3 + 1))]) [1, 2, 3, 0] rfl ?_
              exact ih x1 x2 (x3 + 1) hf
            · have hf := x_f h8 hf
              refine x_iinc (v := x2 + 1) (lv' := [(2, .int (x2 + 1)), (0, .ref (a (o + 1))), (1, .int x1), (3, .int x3)]) C dX1_rankOf_47 2 rfl rfl (by decide) rfl ?_
              refine x_iinc (v := x3 + 1) (lv' := [(3, .int (x3 + 1)), (2, .int (x2 + 1)), (0, .ref (a (o + 1))), (1, .int x1)]) C dX1_rankOf_50 3 rfl rfl (by decide) rfl ?_
              refine x_goto (tgt := 4) C dX1_rankOf_53 (by decide) ?_
              refine x_locals (lv' := [(0, .ref (a (o + 1))), (1, .int x1), (2, .int (x2 + 1)), (3, .int (x3 + 1))]) [2, 3, 1, 0] rfl ?_
              exact ih x1 (x2 + 1) (x3 + 1) hf
  refine x_iconst (v := 0) C dX1_rankOf_0 (by decide) ?_
  refine x_istore_n (lv' := [(2, .int (0 : Int32)), (0, .ref (a (o + 1))), (1, .int x1)]) C dX1_rankOf_1 rfl (by decide) rfl ?_
  refine x_iconst (v := 0) C dX1_rankOf_2 (by decide) ?_
  refine x_istore_n (lv' := [(3, .int (0 : Int32)), (2, .int (0 : Int32)), (0, .ref (a (o + 1))), (1, .int x1)]) C dX1_rankOf_3 rfl (by decide) rfl ?_
  refine x_locals (lv' := [(0, .ref (a (o + 1))), (1, .int x1), (2, .int (0 : Int32)), (3, .int (0 : Int32))]) [2, 3, 1, 0] rfl ?_
  exact hL4 xFuel x1 (0 : Int32) (0 : Int32) hf
theorem wd_7 : Cond.selects yX1_rankOf.cls yX1_rankOf yX1_rankOf ∈ xTB := xTB_in 7 (by decide +kernel) (by decide +kernel)
theorem wd_763 : Cond.methodLink RX1 37 yX1_rankOf ∈ xTB := xTB_in 763 (by decide +kernel) (by decide +kernel)
theorem wd_765 : Cond.instanceMethod yX1_rankOf ∈ xTB := xTB_in 765 (by decide +kernel) (by decide +kernel)
theorem wd_767 : Cond.code yX1_rankOf cX1_rankOf 4 (some .int) ∈ xTB := xTB_in 767 (by decide +kernel) (by decide +kernel)
theorem dX1_atRank_0 : decode cX1_atRank 0 = .ok (.iconst 0, 1) := by decide +kernel
theorem dX1_atRank_1 : decode cX1_atRank 1 = .ok (.istore_n 2, 1) := by decide +kernel
theorem dX1_atRank_2 : decode cX1_atRank 2 = .ok (.iload_n 2, 1) := by decide +kernel
theorem dX1_atRank_3 : decode cX1_atRank 3 = .ok (.aload_n 0, 1) := by decide +kernel
theorem dX1_atRank_4 : decode cX1_atRank 4 = .ok (.getfield 26, 3) := by decide +kernel
theorem dX1_atRank_7 : decode cX1_atRank 7 = .ok (.if_icmp .ge 20, 3) := by decide +kernel
theorem dX1_atRank_10 : decode cX1_atRank 10 = .ok (.aload_n 0, 1) := by decide +kernel
theorem dX1_atRank_11 : decode cX1_atRank 11 = .ok (.iload_n 2, 1) := by decide +kernel
theorem dX1_atRank_12 : decode cX1_atRank 12 = .ok (.invokevirtual 37, 3) := by decide +kernel
theorem dX1_atRank_15 : decode cX1_atRank 15 = .ok (.iload_n 1, 1) := by decide +kernel
theorem dX1_atRank_16 : decode cX1_atRank 16 = .ok (.if_icmp .ne 5, 3) := by decide +kernel
theorem dX1_atRank_19 : decode cX1_atRank 19 = .ok (.iload_n 2, 1) := by decide +kernel
theorem dX1_atRank_20 : decode cX1_atRank 20 = .ok (.ireturn, 1) := by decide +kernel
theorem dX1_atRank_21 : decode cX1_atRank 21 = .ok (.iinc 2 1, 3) := by decide +kernel
theorem dX1_atRank_24 : decode cX1_atRank 24 = .ok (.goto (-22), 3) := by decide +kernel
theorem dX1_atRank_27 : decode cX1_atRank 27 = .ok (.iconst (-1), 1) := by decide +kernel
theorem dX1_atRank_28 : decode cX1_atRank 28 = .ok (.ireturn, 1) := by decide +kernel
set_option maxHeartbeats 4000000 in
set_option maxRecDepth 100000 in
theorem c_X1_atRank (g : xG) (l : Launch) (a : Nat → Nat) (o : Nat) (c : CdT) (x1 : Int32) {u : Int32} (hf : f_X1_atRank c x1 = some u) : ConD g l yX1_atRank cX1_atRank 3 (some .int) ({ frames := 1, cells := 0, slots := 0, locals := 23 } : Room) [.ref (a (o + 1)), .int x1] [cdW g a o c] (some (.int u)) [cdW g a o c] := by
  unfold f_X1_atRank at hf
  refine Con_of [cdW g a o c] [(0, .ref (a (o + 1))), (1, .int x1)] rfl rfl (by decide) (Nat.le_of_ble_eq_true rfl) ?_
  intro pW eW sW mW argsW belowW methW c9 C hnm hr
  have C : CX g RX1 cX1_atRank 3 _ pW sW mW argsW methW c9 := C
  have hL2 : ∀ (nW : Nat) (x1 : Int32) (x2 : Int32), f_X1_atRank_2 nW c x1 x2 = some u → VW g (va_A ([cdW g a o c] : List va_W).flatten sW.heap.size) 3 pW l eW ({ frames := 1, cells := 0, slots := 0, locals := 23 } : Room) sW mW argsW belowW methW c9 0 0 (MQ belowW (xQc g ([cdW g a o c] : List va_W).flatten sW.heap.size (fun v9 w9 => v9 = some (.int u) ∧ w9 = ([cdW g a o c] : List va_W).flatten)) argsW sW 0 0 (va_A ([cdW g a o c] : List va_W).flatten sW.heap.size)) [cdW g a o c] [(0, .ref (a (o + 1))), (1, .int x1), (2, .int x2)] 2 [] := by
    intro nW
    induction nW with
    | zero => intro x1 x2 hf; rw [f_X1_atRank_2] at hf; cases hf
    | succ nW ih =>
      intro x1 x2 hf
      rw [f_X1_atRank_2] at hf
      refine x_iload_n C dX1_atRank_2 rfl 2 rfl ?_
      refine x_aload_n C dX1_atRank_3 rfl 0 rfl ?_
      refine x_get (ci := 4) (v := .int c.2.2.2.2) (b := cdW g a o c) C ixX1 rfl 4 (by decide) wd_830 (fun _ h => h) 0 rfl 0 (cdW_at0 g a o _) rfl dX1_atRank_4 ?_
      refine x_icmp_ge (tgt := 27) C dX1_atRank_7 (by decide) (fun h1 => ?_) (fun h1 => ?_)
      · have hf := x_t h1 hf
        refine x_iconst (v := (-1)) C dX1_atRank_27 (by decide) ?_
        exact x_iret C hr ⟨by cases hf; rfl, by cases hf; rfl⟩ dX1_atRank_28
      · have hf := x_f h1 hf
        refine x_aload_n C dX1_atRank_10 rfl 0 rfl ?_
        refine x_iload_n C dX1_atRank_11 rfl 2 rfl ?_
        obtain ⟨u2, hu2, hf⟩ := x_b hf
        refine x_callV (n := 1) (As := [.int x2]) (rest := []) C (c_X1_rankOf g l a o c x2 hu2) ⟨⟨wd_767, wd_763, wd_27⟩, ⟨by decide, by decide, by decide⟩, rfl, rfl, Nat.le_of_ble_eq_true rfl, Nat.le_of_ble_eq_true rfl⟩ wd_765 wd_7 ⟨0, 4, _, _, rfl, rfl, rfl⟩ [] (x_pickD [0] 1 rfl rfl rfl) rfl rfl (Nat.le_of_ble_eq_true rfl) ⟨Nat.le_of_ble_eq_true rfl, Nat.le_of_ble_eq_true rfl⟩ dX1_atRank_12 (x_goD (wss2 := [cdW g a o c]) (stk2 := [.int u2]) rfl rfl ?_)
        refine x_iload_n C dX1_atRank_15 rfl 1 rfl ?_
        refine x_icmp_ne (tgt := 21) C dX1_atRank_16 (by decide) (fun h3 => ?_) (fun h3 => ?_)
        · have hf := x_f h3 hf
          refine x_iinc (v := x2 + 1) (lv' := [(2, .int (x2 + 1)), (0, .ref (a (o + 1))), (1, .int x1)]) C dX1_atRank_21 2 rfl rfl (by decide) rfl ?_
          refine x_goto (tgt := 2) C dX1_atRank_24 (by decide) ?_
          refine x_locals (lv' := [(0, .ref (a (o + 1))), (1, .int x1), (2, .int (x2 + 1))]) [1, 2, 0] rfl ?_
          exact ih x1 (x2 + 1) hf
        · have hf := x_t h3 hf
          refine x_iload_n C dX1_atRank_19 rfl 2 rfl ?_
          exact x_iret C hr ⟨by cases hf; rfl, by cases hf; rfl⟩ dX1_atRank_20
  refine x_iconst (v := 0) C dX1_atRank_0 (by decide) ?_
  refine x_istore_n (lv' := [(2, .int (0 : Int32)), (0, .ref (a (o + 1))), (1, .int x1)]) C dX1_atRank_1 rfl (by decide) rfl ?_
  refine x_locals (lv' := [(0, .ref (a (o + 1))), (1, .int x1), (2, .int (0 : Int32))]) [1, 2, 0] rfl ?_
  exact hL2 xFuel x1 (0 : Int32) hf
theorem wd_852 : Cond.fieldLink RX3 9 "CandleConcert$Events" "minute" "[I" ∈ xTB := xTB_in 852 (by decide +kernel) (by decide +kernel)
theorem wd_855 : Cond.fieldLink RX3 15 "CandleConcert$Events" "candle" "[I" ∈ xTB := xTB_in 855 (by decide +kernel) (by decide +kernel)
theorem wd_858 : Cond.fieldLink RX3 18 "CandleConcert$Events" "lighting" "[Z" ∈ xTB := xTB_in 858 (by decide +kernel) (by decide +kernel)
theorem wd_861 : Cond.fieldLink RX3 22 "CandleConcert$Events" "count" "I" ∈ xTB := xTB_in 861 (by decide +kernel) (by decide +kernel)
theorem dX3_copyFrom_0 : decode cX3_copyFrom 0 = .ok (.aload_n 0, 1) := by decide +kernel
theorem dX3_copyFrom_1 : decode cX3_copyFrom 1 = .ok (.aload_n 1, 1) := by decide +kernel
theorem dX3_copyFrom_2 : decode cX3_copyFrom 2 = .ok (.getfield 22, 3) := by decide +kernel
theorem dX3_copyFrom_5 : decode cX3_copyFrom 5 = .ok (.putfield 22, 3) := by decide +kernel
theorem dX3_copyFrom_8 : decode cX3_copyFrom 8 = .ok (.iconst 0, 1) := by decide +kernel
theorem dX3_copyFrom_9 : decode cX3_copyFrom 9 = .ok (.istore_n 2, 1) := by decide +kernel
theorem dX3_copyFrom_10 : decode cX3_copyFrom 10 = .ok (.iload_n 2, 1) := by decide +kernel
theorem dX3_copyFrom_11 : decode cX3_copyFrom 11 = .ok (.bipush 20, 2) := by decide +kernel
theorem dX3_copyFrom_13 : decode cX3_copyFrom 13 = .ok (.if_icmp .ge 45, 3) := by decide +kernel
theorem dX3_copyFrom_16 : decode cX3_copyFrom 16 = .ok (.aload_n 0, 1) := by decide +kernel
theorem dX3_copyFrom_17 : decode cX3_copyFrom 17 = .ok (.getfield 9, 3) := by decide +kernel
theorem dX3_copyFrom_20 : decode cX3_copyFrom 20 = .ok (.iload_n 2, 1) := by decide +kernel
theorem dX3_copyFrom_21 : decode cX3_copyFrom 21 = .ok (.aload_n 1, 1) := by decide +kernel
theorem dX3_copyFrom_22 : decode cX3_copyFrom 22 = .ok (.getfield 9, 3) := by decide +kernel
theorem dX3_copyFrom_25 : decode cX3_copyFrom 25 = .ok (.iload_n 2, 1) := by decide +kernel
theorem dX3_copyFrom_26 : decode cX3_copyFrom 26 = .ok (.iaload, 1) := by decide +kernel
theorem dX3_copyFrom_27 : decode cX3_copyFrom 27 = .ok (.iastore, 1) := by decide +kernel
theorem dX3_copyFrom_28 : decode cX3_copyFrom 28 = .ok (.aload_n 0, 1) := by decide +kernel
theorem dX3_copyFrom_29 : decode cX3_copyFrom 29 = .ok (.getfield 15, 3) := by decide +kernel
theorem dX3_copyFrom_32 : decode cX3_copyFrom 32 = .ok (.iload_n 2, 1) := by decide +kernel
theorem dX3_copyFrom_33 : decode cX3_copyFrom 33 = .ok (.aload_n 1, 1) := by decide +kernel
theorem dX3_copyFrom_34 : decode cX3_copyFrom 34 = .ok (.getfield 15, 3) := by decide +kernel
theorem dX3_copyFrom_37 : decode cX3_copyFrom 37 = .ok (.iload_n 2, 1) := by decide +kernel
theorem dX3_copyFrom_38 : decode cX3_copyFrom 38 = .ok (.iaload, 1) := by decide +kernel
theorem dX3_copyFrom_39 : decode cX3_copyFrom 39 = .ok (.iastore, 1) := by decide +kernel
theorem dX3_copyFrom_40 : decode cX3_copyFrom 40 = .ok (.aload_n 0, 1) := by decide +kernel
theorem dX3_copyFrom_41 : decode cX3_copyFrom 41 = .ok (.getfield 18, 3) := by decide +kernel
theorem dX3_copyFrom_44 : decode cX3_copyFrom 44 = .ok (.iload_n 2, 1) := by decide +kernel
theorem dX3_copyFrom_45 : decode cX3_copyFrom 45 = .ok (.aload_n 1, 1) := by decide +kernel
theorem dX3_copyFrom_46 : decode cX3_copyFrom 46 = .ok (.getfield 18, 3) := by decide +kernel
theorem dX3_copyFrom_49 : decode cX3_copyFrom 49 = .ok (.iload_n 2, 1) := by decide +kernel
theorem dX3_copyFrom_50 : decode cX3_copyFrom 50 = .ok (.baload, 1) := by decide +kernel
theorem dX3_copyFrom_51 : decode cX3_copyFrom 51 = .ok (.bastore, 1) := by decide +kernel
theorem dX3_copyFrom_52 : decode cX3_copyFrom 52 = .ok (.iinc 2 1, 3) := by decide +kernel
theorem dX3_copyFrom_55 : decode cX3_copyFrom 55 = .ok (.goto (-45), 3) := by decide +kernel
theorem dX3_copyFrom_58 : decode cX3_copyFrom 58 = .ok (.return_, 1) := by decide +kernel
set_option maxHeartbeats 4000000 in
set_option maxRecDepth 100000 in
theorem c_X3_copyFrom (g : xG) (l : Launch) (a : Nat → Nat) (o : Nat) (k : Nat) (e : EvT) (f : EvT)  {u : EvT} (hf : f_X3_copyFrom e f = some u) : ConD g l yX3_copyFrom cX3_copyFrom 3 none ({ frames := 0, cells := 0, slots := 0, locals := 0 } : Room) [.ref (a (o + 6)), .ref (a (k + 6))] [evW g a o e, evW g a k f] (none) [evW g a o u, evW g a k f] := by
  unfold f_X3_copyFrom at hf
  refine Con_of [evW g a o e, evW g a k f] [(0, .ref (a (o + 6))), (1, .ref (a (k + 6)))] rfl rfl (by decide) (Nat.le_of_ble_eq_true rfl) ?_
  intro pW eW sW mW argsW belowW methW c9 C hnm hr
  have C : CX g RX3 cX3_copyFrom 3 _ pW sW mW argsW methW c9 := C
  have hL10 : ∀ (nW : Nat) (eL : EvT) (x2 : Int32), f_X3_copyFrom_10 nW eL f x2 = some u → VW g (va_A ([evW g a o e, evW g a k f] : List va_W).flatten sW.heap.size) 3 pW l eW ({ frames := 0, cells := 0, slots := 0, locals := 0 } : Room) sW mW argsW belowW methW c9 0 0 (MQ belowW (xQc g ([evW g a o e, evW g a k f] : List va_W).flatten sW.heap.size (fun v9 w9 => v9 = none ∧ w9 = ([evW g a o u, evW g a k f] : List va_W).flatten)) argsW sW 0 0 (va_A ([evW g a o e, evW g a k f] : List va_W).flatten sW.heap.size)) [evW g a o eL, evW g a k f] [(0, .ref (a (o + 6))), (1, .ref (a (k + 6))), (2, .int x2)] 10 [] := by
    intro nW
    induction nW with
    | zero => intro eL x2 hf; rw [f_X3_copyFrom_10] at hf; cases hf
    | succ nW ih =>
      intro eL x2 hf
      rw [f_X3_copyFrom_10] at hf
      refine x_iload_n C dX3_copyFrom_10 rfl 2 rfl ?_
      refine x_bipush (v := 20) C dX3_copyFrom_11 (by decide) ?_
      refine x_icmp_ge (tgt := 58) C dX3_copyFrom_13 (by decide) (fun h1 => ?_) (fun h1 => ?_)
      · have hf := x_t h1 hf
        exact x_vret C hr ⟨by cases hf; rfl, by cases hf; rfl⟩ dX3_copyFrom_58
      · have hf := x_f h1 hf
        refine x_aload_n C dX3_copyFrom_16 rfl 0 rfl ?_
        refine x_get (ci := 6) (v := .ref (a (o + 7))) (b := evW g a o eL) C ixX3 rfl 0 (by decide) wd_852 (fun _ h => h) 0 rfl 0 (evW_at0 g a o _) rfl dX3_copyFrom_17 ?_
        refine x_iload_n C dX3_copyFrom_20 rfl 2 rfl ?_
        refine x_aload_n C dX3_copyFrom_21 rfl 1 rfl ?_
        refine x_get (ci := 6) (v := .ref (a (k + 7))) (b := evW g a k f) C ixX3 rfl 0 (by decide) wd_852 (fun _ h => h) 1 rfl 0 (evW_at0 g a k _) rfl dX3_copyFrom_22 ?_
        refine x_iload_n C dX3_copyFrom_25 rfl 2 rfl ?_
        obtain ⟨h2, hf⟩ := x_n hf
        refine x_iald (b := evW g a k f) C 1 rfl 1 (evW_at1 g a k _) h2 dX3_copyFrom_26 ?_
        obtain ⟨h3, hf⟩ := x_n hf
        refine x_iast (b := evW g a o eL) (b' := evW g a o (upd eL.1 x2.toNatClampNeg (f.1 x2.toNatClampNeg), eL.2.1, eL.2.2.1, eL.2.2.2)) (wss' := [evW g a o (upd eL.1 x2.toNatClampNeg (f.1 x2.toNatClampNeg), eL.2.1, eL.2.2.1, eL.2.2.2), evW g a k f]) C 0 rfl 1 (evW_at1 g a o _) h3 rfl rfl dX3_copyFrom_27 ?_
        refine x_aload_n C dX3_copyFrom_28 rfl 0 rfl ?_
        refine x_get (ci := 6) (v := .ref (a (o + 8))) (b := evW g a o (upd eL.1 x2.toNatClampNeg (f.1 x2.toNatClampNeg), eL.2.1, eL.2.2.1, eL.2.2.2)) C ixX3 rfl 1 (by decide) wd_855 (fun _ h => h) 0 rfl 0 (evW_at0 g a o _) rfl dX3_copyFrom_29 ?_
        refine x_iload_n C dX3_copyFrom_32 rfl 2 rfl ?_
        refine x_aload_n C dX3_copyFrom_33 rfl 1 rfl ?_
        refine x_get (ci := 6) (v := .ref (a (k + 8))) (b := evW g a k f) C ixX3 rfl 1 (by decide) wd_855 (fun _ h => h) 1 rfl 0 (evW_at0 g a k _) rfl dX3_copyFrom_34 ?_
        refine x_iload_n C dX3_copyFrom_37 rfl 2 rfl ?_
        obtain ⟨h4, hf⟩ := x_n hf
        refine x_iald (b := evW g a k f) C 1 rfl 2 (evW_at2 g a k _) h4 dX3_copyFrom_38 ?_
        obtain ⟨h5, hf⟩ := x_n hf
        refine x_iast (b := evW g a o (upd eL.1 x2.toNatClampNeg (f.1 x2.toNatClampNeg), eL.2.1, eL.2.2.1, eL.2.2.2)) (b' := evW g a o (upd eL.1 x2.toNatClampNeg (f.1 x2.toNatClampNeg), upd eL.2.1 x2.toNatClampNeg (f.2.1 x2.toNatClampNeg), eL.2.2.1, eL.2.2.2)) (wss' := [evW g a o (upd eL.1 x2.toNatClampNeg (f.1 x2.toNatClampNeg), upd eL.2.1 x2.toNatClampNeg (f.2.1 x2.toNatClampNeg), eL.2.2.1, eL.2.2.2), evW g a k f]) C 0 rfl 2 (evW_at2 g a o _) h5 rfl rfl dX3_copyFrom_39 ?_
        refine x_aload_n C dX3_copyFrom_40 rfl 0 rfl ?_
        refine x_get (ci := 6) (v := .ref (a (o + 9))) (b := evW g a o (upd eL.1 x2.toNatClampNeg (f.1 x2.toNatClampNeg), upd eL.2.1 x2.toNatClampNeg (f.2.1 x2.toNatClampNeg), eL.2.2.1, eL.2.2.2)) C ixX3 rfl 2 (by decide) wd_858 (fun _ h => h) 0 rfl 0 (evW_at0 g a o _) rfl dX3_copyFrom_41 ?_
        refine x_iload_n C dX3_copyFrom_44 rfl 2 rfl ?_
        refine x_aload_n C dX3_copyFrom_45 rfl 1 rfl ?_
        refine x_get (ci := 6) (v := .ref (a (k + 9))) (b := evW g a k f) C ixX3 rfl 2 (by decide) wd_858 (fun _ h => h) 1 rfl 0 (evW_at0 g a k _) rfl dX3_copyFrom_46 ?_
        refine x_iload_n C dX3_copyFrom_49 rfl 2 rfl ?_
        obtain ⟨h6, hf⟩ := x_n hf
        refine x_zald (b := evW g a k f) C 1 rfl 3 (evW_at3 g a k _) h6 dX3_copyFrom_50 ?_
        obtain ⟨h7, hf⟩ := x_n hf
        refine x_zast (b := evW g a o (upd eL.1 x2.toNatClampNeg (f.1 x2.toNatClampNeg), upd eL.2.1 x2.toNatClampNeg (f.2.1 x2.toNatClampNeg), eL.2.2.1, eL.2.2.2)) (b' := evW g a o (upd eL.1 x2.toNatClampNeg (f.1 x2.toNatClampNeg), upd eL.2.1 x2.toNatClampNeg (f.2.1 x2.toNatClampNeg), upd eL.2.2.1 x2.toNatClampNeg (vp_nar .boolean (f.2.2.1 x2.toNatClampNeg)), eL.2.2.2)) (wss' := [evW g a o (upd eL.1 x2.toNatClampNeg (f.1 x2.toNatClampNeg), upd eL.2.1 x2.toNatClampNeg (f.2.1 x2.toNatClampNeg), upd eL.2.2.1 x2.toNatClampNeg (vp_nar .boolean (f.2.2.1 x2.toNatClampNeg)), eL.2.2.2), evW g a k f]) C 0 rfl 3 (evW_at3 g a o _) h7 rfl rfl dX3_copyFrom_51 ?_
        refine x_iinc (v := x2 + 1) (lv' := [(2, .int (x2 + 1)), (0, .ref (a (o + 6))), (1, .ref (a (k + 6)))]) C dX3_copyFrom_52 2 rfl rfl (by decide) rfl ?_
        refine x_goto (tgt := 10) C dX3_copyFrom_55 (by decide) ?_
        refine x_locals (lv' := [(0, .ref (a (o + 6))), (1, .ref (a (k + 6))), (2, .int (x2 + 1))]) [1, 2, 0] rfl ?_
        exact ih (upd eL.1 x2.toNatClampNeg (f.1 x2.toNatClampNeg), upd eL.2.1 x2.toNatClampNeg (f.2.1 x2.toNatClampNeg), upd eL.2.2.1 x2.toNatClampNeg (vp_nar .boolean (f.2.2.1 x2.toNatClampNeg)), eL.2.2.2) (x2 + 1) hf
  refine x_aload_n C dX3_copyFrom_0 rfl 0 rfl ?_
  refine x_aload_n C dX3_copyFrom_1 rfl 1 rfl ?_
  refine x_get (ci := 6) (v := .int f.2.2.2) (b := evW g a k f) C ixX3 rfl 3 (by decide) wd_861 (fun _ h => h) 1 rfl 0 (evW_at0 g a k _) rfl dX3_copyFrom_2 ?_
  refine x_put (ci := 6) (ty := .int) (v := .int f.2.2.2) (b := evW g a o e) (b' := evW g a o (e.1, e.2.1, e.2.2.1, f.2.2.2)) (wss' := [evW g a o (e.1, e.2.1, e.2.2.1, f.2.2.2), evW g a k f]) C ixX3 tyX3 tyX3_ok nmX3 rfl 3 (by decide) wd_861 (fun _ h => h) rfl (tyX3_ok 3 (by decide)) rfl rfl 0 rfl 0 (evW_at0 g a o _) (Nat.le_of_ble_eq_true rfl) rfl rfl dX3_copyFrom_5 ?_
  refine x_iconst (v := 0) C dX3_copyFrom_8 (by decide) ?_
  refine x_istore_n (lv' := [(2, .int (0 : Int32)), (0, .ref (a (o + 6))), (1, .ref (a (k + 6)))]) C dX3_copyFrom_9 rfl (by decide) rfl ?_
  refine x_locals (lv' := [(0, .ref (a (o + 6))), (1, .ref (a (k + 6))), (2, .int (0 : Int32))]) [1, 2, 0] rfl ?_
  exact hL10 xFuel (e.1, e.2.1, e.2.2.1, f.2.2.2) (0 : Int32) hf
theorem dX3_has_0 : decode cX3_has 0 = .ok (.iload_n 1, 1) := by decide +kernel
theorem dX3_has_1 : decode cX3_has 1 = .ok (.ifCond .lt 15, 3) := by decide +kernel
theorem dX3_has_4 : decode cX3_has 4 = .ok (.iload_n 1, 1) := by decide +kernel
theorem dX3_has_5 : decode cX3_has 5 = .ok (.aload_n 0, 1) := by decide +kernel
theorem dX3_has_6 : decode cX3_has 6 = .ok (.getfield 22, 3) := by decide +kernel
theorem dX3_has_9 : decode cX3_has 9 = .ok (.if_icmp .ge 7, 3) := by decide +kernel
theorem dX3_has_12 : decode cX3_has 12 = .ok (.iconst 1, 1) := by decide +kernel
theorem dX3_has_13 : decode cX3_has 13 = .ok (.goto 4, 3) := by decide +kernel
theorem dX3_has_16 : decode cX3_has 16 = .ok (.iconst 0, 1) := by decide +kernel
theorem dX3_has_17 : decode cX3_has 17 = .ok (.ireturn, 1) := by decide +kernel
set_option maxHeartbeats 4000000 in
set_option maxRecDepth 100000 in
theorem c_X3_has (g : xG) (l : Launch) (a : Nat → Nat) (o : Nat) (e : EvT) (x1 : Int32) {u : Int32} (hf : f_X3_has e x1 = some u) : ConD g l yX3_has cX3_has 2 (some .boolean) ({ frames := 0, cells := 0, slots := 0, locals := 0 } : Room) [.ref (a (o + 6)), .int x1] [evW g a o e] (some (.int u)) [evW g a o e] := by
  unfold f_X3_has at hf
  refine Con_of [evW g a o e] [(0, .ref (a (o + 6))), (1, .int x1)] rfl rfl (by decide) (Nat.le_of_ble_eq_true rfl) ?_
  intro pW eW sW mW argsW belowW methW c9 C hnm hr
  have C : CX g RX3 cX3_has 2 _ pW sW mW argsW methW c9 := C
  refine x_iload_n C dX3_has_0 rfl 1 rfl ?_
  refine x_if_lt (tgt := 16) C dX3_has_1 (by decide) (fun h1 => ?_) (fun h1 => ?_)
  · have hf := x_t h1 hf
    refine x_iconst (v := 0) C dX3_has_16 (by decide) ?_
    exact x_zret C hr rfl ⟨by cases hf; rfl, by cases hf; rfl⟩ dX3_has_17
  · have hf := x_f h1 hf
    refine x_iload_n C dX3_has_4 rfl 1 rfl ?_
    refine x_aload_n C dX3_has_5 rfl 0 rfl ?_
    refine x_get (ci := 6) (v := .int e.2.2.2) (b := evW g a o e) C ixX3 rfl 3 (by decide) wd_861 (fun _ h => h) 0 rfl 0 (evW_at0 g a o _) rfl dX3_has_6 ?_
    refine x_icmp_ge (tgt := 16) C dX3_has_9 (by decide) (fun h2 => ?_) (fun h2 => ?_)
    · have hf := x_t h2 hf
      refine x_iconst (v := 0) C dX3_has_16 (by decide) ?_
      exact x_zret C hr rfl ⟨by cases hf; rfl, by cases hf; rfl⟩ dX3_has_17
    · have hf := x_f h2 hf
      refine x_iconst (v := 1) C dX3_has_12 (by decide) ?_
      refine x_goto (tgt := 17) C dX3_has_13 (by decide) ?_
      exact x_zret C hr rfl ⟨by cases hf; rfl, by cases hf; rfl⟩ dX3_has_17
theorem dX3_isFull_0 : decode cX3_isFull 0 = .ok (.aload_n 0, 1) := by decide +kernel
theorem dX3_isFull_1 : decode cX3_isFull 1 = .ok (.getfield 22, 3) := by decide +kernel
theorem dX3_isFull_4 : decode cX3_isFull 4 = .ok (.bipush 20, 2) := by decide +kernel
theorem dX3_isFull_6 : decode cX3_isFull 6 = .ok (.if_icmp .lt 7, 3) := by decide +kernel
theorem dX3_isFull_9 : decode cX3_isFull 9 = .ok (.iconst 1, 1) := by decide +kernel
theorem dX3_isFull_10 : decode cX3_isFull 10 = .ok (.goto 4, 3) := by decide +kernel
theorem dX3_isFull_13 : decode cX3_isFull 13 = .ok (.iconst 0, 1) := by decide +kernel
theorem dX3_isFull_14 : decode cX3_isFull 14 = .ok (.ireturn, 1) := by decide +kernel
set_option maxHeartbeats 4000000 in
set_option maxRecDepth 100000 in
theorem c_X3_isFull (g : xG) (l : Launch) (a : Nat → Nat) (o : Nat) (e : EvT)  {u : Int32} (hf : f_X3_isFull e = some u) : ConD g l yX3_isFull cX3_isFull 1 (some .boolean) ({ frames := 0, cells := 0, slots := 0, locals := 0 } : Room) [.ref (a (o + 6))] [evW g a o e] (some (.int u)) [evW g a o e] := by
  unfold f_X3_isFull at hf
  refine Con_of [evW g a o e] [(0, .ref (a (o + 6)))] rfl rfl (by decide) (Nat.le_of_ble_eq_true rfl) ?_
  intro pW eW sW mW argsW belowW methW c9 C hnm hr
  have C : CX g RX3 cX3_isFull 1 _ pW sW mW argsW methW c9 := C
  refine x_aload_n C dX3_isFull_0 rfl 0 rfl ?_
  refine x_get (ci := 6) (v := .int e.2.2.2) (b := evW g a o e) C ixX3 rfl 3 (by decide) wd_861 (fun _ h => h) 0 rfl 0 (evW_at0 g a o _) rfl dX3_isFull_1 ?_
  refine x_bipush (v := 20) C dX3_isFull_4 (by decide) ?_
  refine x_icmp_lt (tgt := 13) C dX3_isFull_6 (by decide) (fun h1 => ?_) (fun h1 => ?_)
  · have hf := x_t h1 hf
    refine x_iconst (v := 0) C dX3_isFull_13 (by decide) ?_
    exact x_zret C hr rfl ⟨by cases hf; rfl, by cases hf; rfl⟩ dX3_isFull_14
  · have hf := x_f h1 hf
    refine x_iconst (v := 1) C dX3_isFull_9 (by decide) ?_
    refine x_goto (tgt := 14) C dX3_isFull_10 (by decide) ?_
    exact x_zret C hr rfl ⟨by cases hf; rfl, by cases hf; rfl⟩ dX3_isFull_14
theorem dX3_move_0 : decode cX3_move 0 = .ok (.aload_n 0, 1) := by decide +kernel
theorem dX3_move_1 : decode cX3_move 1 = .ok (.getfield 9, 3) := by decide +kernel
theorem dX3_move_4 : decode cX3_move 4 = .ok (.iload_n 2, 1) := by decide +kernel
theorem dX3_move_5 : decode cX3_move 5 = .ok (.aload_n 0, 1) := by decide +kernel
theorem dX3_move_6 : decode cX3_move 6 = .ok (.getfield 9, 3) := by decide +kernel
theorem dX3_move_9 : decode cX3_move 9 = .ok (.iload_n 1, 1) := by decide +kernel
theorem dX3_move_10 : decode cX3_move 10 = .ok (.iaload, 1) := by decide +kernel
theorem dX3_move_11 : decode cX3_move 11 = .ok (.iastore, 1) := by decide +kernel
theorem dX3_move_12 : decode cX3_move 12 = .ok (.aload_n 0, 1) := by decide +kernel
theorem dX3_move_13 : decode cX3_move 13 = .ok (.getfield 15, 3) := by decide +kernel
theorem dX3_move_16 : decode cX3_move 16 = .ok (.iload_n 2, 1) := by decide +kernel
theorem dX3_move_17 : decode cX3_move 17 = .ok (.aload_n 0, 1) := by decide +kernel
theorem dX3_move_18 : decode cX3_move 18 = .ok (.getfield 15, 3) := by decide +kernel
theorem dX3_move_21 : decode cX3_move 21 = .ok (.iload_n 1, 1) := by decide +kernel
theorem dX3_move_22 : decode cX3_move 22 = .ok (.iaload, 1) := by decide +kernel
theorem dX3_move_23 : decode cX3_move 23 = .ok (.iastore, 1) := by decide +kernel
theorem dX3_move_24 : decode cX3_move 24 = .ok (.aload_n 0, 1) := by decide +kernel
theorem dX3_move_25 : decode cX3_move 25 = .ok (.getfield 18, 3) := by decide +kernel
theorem dX3_move_28 : decode cX3_move 28 = .ok (.iload_n 2, 1) := by decide +kernel
theorem dX3_move_29 : decode cX3_move 29 = .ok (.aload_n 0, 1) := by decide +kernel
theorem dX3_move_30 : decode cX3_move 30 = .ok (.getfield 18, 3) := by decide +kernel
theorem dX3_move_33 : decode cX3_move 33 = .ok (.iload_n 1, 1) := by decide +kernel
theorem dX3_move_34 : decode cX3_move 34 = .ok (.baload, 1) := by decide +kernel
theorem dX3_move_35 : decode cX3_move 35 = .ok (.bastore, 1) := by decide +kernel
theorem dX3_move_36 : decode cX3_move 36 = .ok (.return_, 1) := by decide +kernel
set_option maxHeartbeats 4000000 in
set_option maxRecDepth 100000 in
theorem c_X3_move (g : xG) (l : Launch) (a : Nat → Nat) (o : Nat) (e : EvT) (x1 : Int32) (x2 : Int32) {u : EvT} (hf : f_X3_move e x1 x2 = some u) : ConD g l yX3_move cX3_move 3 none ({ frames := 0, cells := 0, slots := 0, locals := 0 } : Room) [.ref (a (o + 6)), .int x1, .int x2] [evW g a o e] (none) [evW g a o u] := by
  unfold f_X3_move at hf
  refine Con_of [evW g a o e] [(0, .ref (a (o + 6))), (1, .int x1), (2, .int x2)] rfl rfl (by decide) (Nat.le_of_ble_eq_true rfl) ?_
  intro pW eW sW mW argsW belowW methW c9 C hnm hr
  have C : CX g RX3 cX3_move 3 _ pW sW mW argsW methW c9 := C
  refine x_aload_n C dX3_move_0 rfl 0 rfl ?_
  refine x_get (ci := 6) (v := .ref (a (o + 7))) (b := evW g a o e) C ixX3 rfl 0 (by decide) wd_852 (fun _ h => h) 0 rfl 0 (evW_at0 g a o _) rfl dX3_move_1 ?_
  refine x_iload_n C dX3_move_4 rfl 2 rfl ?_
  refine x_aload_n C dX3_move_5 rfl 0 rfl ?_
  refine x_get (ci := 6) (v := .ref (a (o + 7))) (b := evW g a o e) C ixX3 rfl 0 (by decide) wd_852 (fun _ h => h) 0 rfl 0 (evW_at0 g a o _) rfl dX3_move_6 ?_
  refine x_iload_n C dX3_move_9 rfl 1 rfl ?_
  obtain ⟨h1, hf⟩ := x_n hf
  refine x_iald (b := evW g a o e) C 0 rfl 1 (evW_at1 g a o _) h1 dX3_move_10 ?_
  obtain ⟨h2, hf⟩ := x_n hf
  refine x_iast (b := evW g a o e) (b' := evW g a o (upd e.1 x2.toNatClampNeg (e.1 x1.toNatClampNeg), e.2.1, e.2.2.1, e.2.2.2)) (wss' := [evW g a o (upd e.1 x2.toNatClampNeg (e.1 x1.toNatClampNeg), e.2.1, e.2.2.1, e.2.2.2)]) C 0 rfl 1 (evW_at1 g a o _) h2 rfl rfl dX3_move_11 ?_
  refine x_aload_n C dX3_move_12 rfl 0 rfl ?_
  refine x_get (ci := 6) (v := .ref (a (o + 8))) (b := evW g a o (upd e.1 x2.toNatClampNeg (e.1 x1.toNatClampNeg), e.2.1, e.2.2.1, e.2.2.2)) C ixX3 rfl 1 (by decide) wd_855 (fun _ h => h) 0 rfl 0 (evW_at0 g a o _) rfl dX3_move_13 ?_
  refine x_iload_n C dX3_move_16 rfl 2 rfl ?_
  refine x_aload_n C dX3_move_17 rfl 0 rfl ?_
  refine x_get (ci := 6) (v := .ref (a (o + 8))) (b := evW g a o (upd e.1 x2.toNatClampNeg (e.1 x1.toNatClampNeg), e.2.1, e.2.2.1, e.2.2.2)) C ixX3 rfl 1 (by decide) wd_855 (fun _ h => h) 0 rfl 0 (evW_at0 g a o _) rfl dX3_move_18 ?_
  refine x_iload_n C dX3_move_21 rfl 1 rfl ?_
  obtain ⟨h3, hf⟩ := x_n hf
  refine x_iald (b := evW g a o (upd e.1 x2.toNatClampNeg (e.1 x1.toNatClampNeg), e.2.1, e.2.2.1, e.2.2.2)) C 0 rfl 2 (evW_at2 g a o _) h3 dX3_move_22 ?_
  obtain ⟨h4, hf⟩ := x_n hf
  refine x_iast (b := evW g a o (upd e.1 x2.toNatClampNeg (e.1 x1.toNatClampNeg), e.2.1, e.2.2.1, e.2.2.2)) (b' := evW g a o (upd e.1 x2.toNatClampNeg (e.1 x1.toNatClampNeg), upd e.2.1 x2.toNatClampNeg (e.2.1 x1.toNatClampNeg), e.2.2.1, e.2.2.2)) (wss' := [evW g a o (upd e.1 x2.toNatClampNeg (e.1 x1.toNatClampNeg), upd e.2.1 x2.toNatClampNeg (e.2.1 x1.toNatClampNeg), e.2.2.1, e.2.2.2)]) C 0 rfl 2 (evW_at2 g a o _) h4 rfl rfl dX3_move_23 ?_
  refine x_aload_n C dX3_move_24 rfl 0 rfl ?_
  refine x_get (ci := 6) (v := .ref (a (o + 9))) (b := evW g a o (upd e.1 x2.toNatClampNeg (e.1 x1.toNatClampNeg), upd e.2.1 x2.toNatClampNeg (e.2.1 x1.toNatClampNeg), e.2.2.1, e.2.2.2)) C ixX3 rfl 2 (by decide) wd_858 (fun _ h => h) 0 rfl 0 (evW_at0 g a o _) rfl dX3_move_25 ?_
  refine x_iload_n C dX3_move_28 rfl 2 rfl ?_
  refine x_aload_n C dX3_move_29 rfl 0 rfl ?_
  refine x_get (ci := 6) (v := .ref (a (o + 9))) (b := evW g a o (upd e.1 x2.toNatClampNeg (e.1 x1.toNatClampNeg), upd e.2.1 x2.toNatClampNeg (e.2.1 x1.toNatClampNeg), e.2.2.1, e.2.2.2)) C ixX3 rfl 2 (by decide) wd_858 (fun _ h => h) 0 rfl 0 (evW_at0 g a o _) rfl dX3_move_30 ?_
  refine x_iload_n C dX3_move_33 rfl 1 rfl ?_
  obtain ⟨h5, hf⟩ := x_n hf
  refine x_zald (b := evW g a o (upd e.1 x2.toNatClampNeg (e.1 x1.toNatClampNeg), upd e.2.1 x2.toNatClampNeg (e.2.1 x1.toNatClampNeg), e.2.2.1, e.2.2.2)) C 0 rfl 3 (evW_at3 g a o _) h5 dX3_move_34 ?_
  obtain ⟨h6, hf⟩ := x_n hf
  refine x_zast (b := evW g a o (upd e.1 x2.toNatClampNeg (e.1 x1.toNatClampNeg), upd e.2.1 x2.toNatClampNeg (e.2.1 x1.toNatClampNeg), e.2.2.1, e.2.2.2)) (b' := evW g a o (upd e.1 x2.toNatClampNeg (e.1 x1.toNatClampNeg), upd e.2.1 x2.toNatClampNeg (e.2.1 x1.toNatClampNeg), upd e.2.2.1 x2.toNatClampNeg (vp_nar .boolean (e.2.2.1 x1.toNatClampNeg)), e.2.2.2)) (wss' := [evW g a o (upd e.1 x2.toNatClampNeg (e.1 x1.toNatClampNeg), upd e.2.1 x2.toNatClampNeg (e.2.1 x1.toNatClampNeg), upd e.2.2.1 x2.toNatClampNeg (vp_nar .boolean (e.2.2.1 x1.toNatClampNeg)), e.2.2.2)]) C 0 rfl 3 (evW_at3 g a o _) h6 rfl rfl dX3_move_35 ?_
  exact x_vret C hr ⟨by cases hf; rfl, by cases hf; rfl⟩ dX3_move_36
theorem wd_5 : Cond.selects yX3_move.cls yX3_move yX3_move ∈ xTB := xTB_in 5 (by decide +kernel) (by decide +kernel)
theorem wd_28 : Cond.initialized RX3 ∈ xTB := xTB_in 28 (by decide +kernel) (by decide +kernel)
theorem wd_208 : Cond.methodLink RX3 30 yX3_move ∈ xTB := xTB_in 208 (by decide +kernel) (by decide +kernel)
theorem wd_210 : Cond.instanceMethod yX3_move ∈ xTB := xTB_in 210 (by decide +kernel) (by decide +kernel)
theorem wd_212 : Cond.code yX3_move cX3_move 3 none ∈ xTB := xTB_in 212 (by decide +kernel) (by decide +kernel)
theorem wd_709 : Cond.instanceMethod yX3_isFull ∈ xTB := xTB_in 709 (by decide +kernel) (by decide +kernel)
theorem wd_710 : Cond.selects yX3_isFull.cls yX3_isFull yX3_isFull ∈ xTB := xTB_in 710 (by decide +kernel) (by decide +kernel)
theorem wd_711 : Cond.code yX3_isFull cX3_isFull 1 (some .boolean) ∈ xTB := xTB_in 711 (by decide +kernel) (by decide +kernel)
theorem wd_718 : Cond.methodLink RX3 26 yX3_isFull ∈ xTB := xTB_in 718 (by decide +kernel) (by decide +kernel)
theorem dX3_insert_0 : decode cX3_insert 0 = .ok (.aload_n 0, 1) := by decide +kernel
theorem dX3_insert_1 : decode cX3_insert 1 = .ok (.invokevirtual 26, 3) := by decide +kernel
theorem dX3_insert_4 : decode cX3_insert 4 = .ok (.ifCond .eq 5, 3) := by decide +kernel
theorem dX3_insert_7 : decode cX3_insert 7 = .ok (.iconst (-1), 1) := by decide +kernel
theorem dX3_insert_8 : decode cX3_insert 8 = .ok (.ireturn, 1) := by decide +kernel
theorem dX3_insert_9 : decode cX3_insert 9 = .ok (.aload_n 0, 1) := by decide +kernel
theorem dX3_insert_10 : decode cX3_insert 10 = .ok (.getfield 22, 3) := by decide +kernel
theorem dX3_insert_13 : decode cX3_insert 13 = .ok (.istore 4, 2) := by decide +kernel
theorem dX3_insert_15 : decode cX3_insert 15 = .ok (.iload 4, 2) := by decide +kernel
theorem dX3_insert_17 : decode cX3_insert 17 = .ok (.ifCond .le 32, 3) := by decide +kernel
theorem dX3_insert_20 : decode cX3_insert 20 = .ok (.aload_n 0, 1) := by decide +kernel
theorem dX3_insert_21 : decode cX3_insert 21 = .ok (.getfield 9, 3) := by decide +kernel
theorem dX3_insert_24 : decode cX3_insert 24 = .ok (.iload 4, 2) := by decide +kernel
theorem dX3_insert_26 : decode cX3_insert 26 = .ok (.iconst 1, 1) := by decide +kernel
theorem dX3_insert_27 : decode cX3_insert 27 = .ok (.isub, 1) := by decide +kernel
theorem dX3_insert_28 : decode cX3_insert 28 = .ok (.iaload, 1) := by decide +kernel
theorem dX3_insert_29 : decode cX3_insert 29 = .ok (.iload_n 1, 1) := by decide +kernel
theorem dX3_insert_30 : decode cX3_insert 30 = .ok (.if_icmp .le 19, 3) := by decide +kernel
theorem dX3_insert_33 : decode cX3_insert 33 = .ok (.aload_n 0, 1) := by decide +kernel
theorem dX3_insert_34 : decode cX3_insert 34 = .ok (.iload 4, 2) := by decide +kernel
theorem dX3_insert_36 : decode cX3_insert 36 = .ok (.iconst 1, 1) := by decide +kernel
theorem dX3_insert_37 : decode cX3_insert 37 = .ok (.isub, 1) := by decide +kernel
theorem dX3_insert_38 : decode cX3_insert 38 = .ok (.iload 4, 2) := by decide +kernel
theorem dX3_insert_40 : decode cX3_insert 40 = .ok (.invokevirtual 30, 3) := by decide +kernel
theorem dX3_insert_43 : decode cX3_insert 43 = .ok (.iinc 4 (-1), 3) := by decide +kernel
theorem dX3_insert_46 : decode cX3_insert 46 = .ok (.goto (-31), 3) := by decide +kernel
theorem dX3_insert_49 : decode cX3_insert 49 = .ok (.aload_n 0, 1) := by decide +kernel
theorem dX3_insert_50 : decode cX3_insert 50 = .ok (.getfield 9, 3) := by decide +kernel
theorem dX3_insert_53 : decode cX3_insert 53 = .ok (.iload 4, 2) := by decide +kernel
theorem dX3_insert_55 : decode cX3_insert 55 = .ok (.iload_n 1, 1) := by decide +kernel
theorem dX3_insert_56 : decode cX3_insert 56 = .ok (.iastore, 1) := by decide +kernel
theorem dX3_insert_57 : decode cX3_insert 57 = .ok (.aload_n 0, 1) := by decide +kernel
theorem dX3_insert_58 : decode cX3_insert 58 = .ok (.getfield 15, 3) := by decide +kernel
theorem dX3_insert_61 : decode cX3_insert 61 = .ok (.iload 4, 2) := by decide +kernel
theorem dX3_insert_63 : decode cX3_insert 63 = .ok (.iload_n 2, 1) := by decide +kernel
theorem dX3_insert_64 : decode cX3_insert 64 = .ok (.iastore, 1) := by decide +kernel
theorem dX3_insert_65 : decode cX3_insert 65 = .ok (.aload_n 0, 1) := by decide +kernel
theorem dX3_insert_66 : decode cX3_insert 66 = .ok (.getfield 18, 3) := by decide +kernel
theorem dX3_insert_69 : decode cX3_insert 69 = .ok (.iload 4, 2) := by decide +kernel
theorem dX3_insert_71 : decode cX3_insert 71 = .ok (.iload_n 3, 1) := by decide +kernel
theorem dX3_insert_72 : decode cX3_insert 72 = .ok (.bastore, 1) := by decide +kernel
theorem dX3_insert_73 : decode cX3_insert 73 = .ok (.aload_n 0, 1) := by decide +kernel
theorem dX3_insert_74 : decode cX3_insert 74 = .ok (.dup, 1) := by decide +kernel
theorem dX3_insert_75 : decode cX3_insert 75 = .ok (.getfield 22, 3) := by decide +kernel
theorem dX3_insert_78 : decode cX3_insert 78 = .ok (.iconst 1, 1) := by decide +kernel
theorem dX3_insert_79 : decode cX3_insert 79 = .ok (.iadd, 1) := by decide +kernel
theorem dX3_insert_80 : decode cX3_insert 80 = .ok (.putfield 22, 3) := by decide +kernel
theorem dX3_insert_83 : decode cX3_insert 83 = .ok (.iload 4, 2) := by decide +kernel
theorem dX3_insert_85 : decode cX3_insert 85 = .ok (.ireturn, 1) := by decide +kernel
set_option maxHeartbeats 4000000 in
set_option maxRecDepth 100000 in
theorem c_X3_insert (g : xG) (l : Launch) (a : Nat → Nat) (o : Nat) (e : EvT) (x1 : Int32) (x2 : Int32) (x3 : Int32) {u : Int32 × EvT} (hf : f_X3_insert e x1 x2 x3 = some u) : ConD g l yX3_insert cX3_insert 5 (some .int) ({ frames := 1, cells := 0, slots := 0, locals := 22 } : Room) [.ref (a (o + 6)), .int x1, .int x2, .int x3] [evW g a o e] (some (.int u.1)) [evW g a o u.2] := by
  unfold f_X3_insert at hf
  refine Con_of [evW g a o e] [(0, .ref (a (o + 6))), (1, .int x1), (2, .int x2), (3, .int x3)] rfl rfl (by decide) (Nat.le_of_ble_eq_true rfl) ?_
  intro pW eW sW mW argsW belowW methW c9 C hnm hr
  have C : CX g RX3 cX3_insert 5 _ pW sW mW argsW methW c9 := C
  have hL49 : ∀ (eL : EvT) (x1 : Int32) (x2 : Int32) (x3 : Int32) (x4 : Int32), f_X3_insert_49 eL x1 x2 x3 x4 = some u → VW g (va_A ([evW g a o e] : List va_W).flatten sW.heap.size) 5 pW l eW ({ frames := 1, cells := 0, slots := 0, locals := 22 } : Room) sW mW argsW belowW methW c9 0 0 (MQ belowW (xQc g ([evW g a o e] : List va_W).flatten sW.heap.size (fun v9 w9 => v9 = some (.int u.1) ∧ w9 = ([evW g a o u.2] : List va_W).flatten)) argsW sW 0 0 (va_A ([evW g a o e] : List va_W).flatten sW.heap.size)) [evW g a o eL] [(0, .ref (a (o + 6))), (1, .int x1), (2, .int x2), (3, .int x3), (4, .int x4)] 49 [] := by
    intro eL x1 x2 x3 x4 hf
    unfold f_X3_insert_49 at hf
    refine x_aload_n C dX3_insert_49 rfl 0 rfl ?_
    refine x_get (ci := 6) (v := .ref (a (o + 7))) (b := evW g a o eL) C ixX3 rfl 0 (by decide) wd_852 (fun _ h => h) 0 rfl 0 (evW_at0 g a o _) rfl dX3_insert_50 ?_
    refine x_iload C dX3_insert_53 4 rfl ?_
    refine x_iload_n C dX3_insert_55 rfl 1 rfl ?_
    obtain ⟨h1, hf⟩ := x_n hf
    refine x_iast (b := evW g a o eL) (b' := evW g a o (upd eL.1 x4.toNatClampNeg x1, eL.2.1, eL.2.2.1, eL.2.2.2)) (wss' := [evW g a o (upd eL.1 x4.toNatClampNeg x1, eL.2.1, eL.2.2.1, eL.2.2.2)]) C 0 rfl 1 (evW_at1 g a o _) h1 rfl rfl dX3_insert_56 ?_
    refine x_aload_n C dX3_insert_57 rfl 0 rfl ?_
    refine x_get (ci := 6) (v := .ref (a (o + 8))) (b := evW g a o (upd eL.1 x4.toNatClampNeg x1, eL.2.1, eL.2.2.1, eL.2.2.2)) C ixX3 rfl 1 (by decide) wd_855 (fun _ h => h) 0 rfl 0 (evW_at0 g a o _) rfl dX3_insert_58 ?_
    refine x_iload C dX3_insert_61 4 rfl ?_
    refine x_iload_n C dX3_insert_63 rfl 2 rfl ?_
    obtain ⟨h2, hf⟩ := x_n hf
    refine x_iast (b := evW g a o (upd eL.1 x4.toNatClampNeg x1, eL.2.1, eL.2.2.1, eL.2.2.2)) (b' := evW g a o (upd eL.1 x4.toNatClampNeg x1, upd eL.2.1 x4.toNatClampNeg x2, eL.2.2.1, eL.2.2.2)) (wss' := [evW g a o (upd eL.1 x4.toNatClampNeg x1, upd eL.2.1 x4.toNatClampNeg x2, eL.2.2.1, eL.2.2.2)]) C 0 rfl 2 (evW_at2 g a o _) h2 rfl rfl dX3_insert_64 ?_
    refine x_aload_n C dX3_insert_65 rfl 0 rfl ?_
    refine x_get (ci := 6) (v := .ref (a (o + 9))) (b := evW g a o (upd eL.1 x4.toNatClampNeg x1, upd eL.2.1 x4.toNatClampNeg x2, eL.2.2.1, eL.2.2.2)) C ixX3 rfl 2 (by decide) wd_858 (fun _ h => h) 0 rfl 0 (evW_at0 g a o _) rfl dX3_insert_66 ?_
    refine x_iload C dX3_insert_69 4 rfl ?_
    refine x_iload_n C dX3_insert_71 rfl 3 rfl ?_
    obtain ⟨h3, hf⟩ := x_n hf
    refine x_zast (b := evW g a o (upd eL.1 x4.toNatClampNeg x1, upd eL.2.1 x4.toNatClampNeg x2, eL.2.2.1, eL.2.2.2)) (b' := evW g a o (upd eL.1 x4.toNatClampNeg x1, upd eL.2.1 x4.toNatClampNeg x2, upd eL.2.2.1 x4.toNatClampNeg (vp_nar .boolean x3), eL.2.2.2)) (wss' := [evW g a o (upd eL.1 x4.toNatClampNeg x1, upd eL.2.1 x4.toNatClampNeg x2, upd eL.2.2.1 x4.toNatClampNeg (vp_nar .boolean x3), eL.2.2.2)]) C 0 rfl 3 (evW_at3 g a o _) h3 rfl rfl dX3_insert_72 ?_
    refine x_aload_n C dX3_insert_73 rfl 0 rfl ?_
    refine x_dup C dX3_insert_74 rfl ?_
    refine x_get (ci := 6) (v := .int eL.2.2.2) (b := evW g a o (upd eL.1 x4.toNatClampNeg x1, upd eL.2.1 x4.toNatClampNeg x2, upd eL.2.2.1 x4.toNatClampNeg (vp_nar .boolean x3), eL.2.2.2)) C ixX3 rfl 3 (by decide) wd_861 (fun _ h => h) 0 rfl 0 (evW_at0 g a o _) rfl dX3_insert_75 ?_
    refine x_iconst (v := 1) C dX3_insert_78 (by decide) ?_
    refine x_iadd C dX3_insert_79 ?_
    refine x_put (ci := 6) (ty := .int) (v := .int (eL.2.2.2 + (1 : Int32))) (b := evW g a o (upd eL.1 x4.toNatClampNeg x1, upd eL.2.1 x4.toNatClampNeg x2, upd eL.2.2.1 x4.toNatClampNeg (vp_nar .boolean x3), eL.2.2.2)) (b' := evW g a o (upd eL.1 x4.toNatClampNeg x1, upd eL.2.1 x4.toNatClampNeg x2, upd eL.2.2.1 x4.toNatClampNeg (vp_nar .boolean x3), eL.2.2.2 + (1 : Int32))) (wss' := [evW g a o (upd eL.1 x4.toNatClampNeg x1, upd eL.2.1 x4.toNatClampNeg x2, upd eL.2.2.1 x4.toNatClampNeg (vp_nar .boolean x3), eL.2.2.2 + (1 : Int32))]) C ixX3 tyX3 tyX3_ok nmX3 rfl 3 (by decide) wd_861 (fun _ h => h) rfl (tyX3_ok 3 (by decide)) rfl rfl 0 rfl 0 (evW_at0 g a o _) (Nat.le_of_ble_eq_true rfl) rfl rfl dX3_insert_80 ?_
    refine x_iload C dX3_insert_83 4 rfl ?_
    exact x_iret C hr ⟨by cases hf; rfl, by cases hf; rfl⟩ dX3_insert_85
  have hL15 : ∀ (nW : Nat) (eL : EvT) (x1 : Int32) (x2 : Int32) (x3 : Int32) (x4 : Int32), f_X3_insert_15 nW eL x1 x2 x3 x4 = some u → VW g (va_A ([evW g a o e] : List va_W).flatten sW.heap.size) 5 pW l eW ({ frames := 1, cells := 0, slots := 0, locals := 22 } : Room) sW mW argsW belowW methW c9 0 0 (MQ belowW (xQc g ([evW g a o e] : List va_W).flatten sW.heap.size (fun v9 w9 => v9 = some (.int u.1) ∧ w9 = ([evW g a o u.2] : List va_W).flatten)) argsW sW 0 0 (va_A ([evW g a o e] : List va_W).flatten sW.heap.size)) [evW g a o eL] [(0, .ref (a (o + 6))), (1, .int x1), (2, .int x2), (3, .int x3), (4, .int x4)] 15 [] := by
    intro nW
    induction nW with
    | zero => intro eL x1 x2 x3 x4 hf; rw [f_X3_insert_15] at hf; cases hf
    | succ nW ih =>
      intro eL x1 x2 x3 x4 hf
      rw [f_X3_insert_15] at hf
      refine x_iload C dX3_insert_15 4 rfl ?_
      refine x_if_le (tgt := 49) C dX3_insert_17 (by decide) (fun h1 => ?_) (fun h1 => ?_)
      · have hf := x_t h1 hf
        exact hL49 eL x1 x2 x3 x4 hf
      · have hf := x_f h1 hf
        refine x_aload_n C dX3_insert_20 rfl 0 rfl ?_
        refine x_get (ci := 6) (v := .ref (a (o + 7))) (b := evW g a o eL) C ixX3 rfl 0 (by decide) wd_852 (fun _ h => h) 0 rfl 0 (evW_at0 g a o _) rfl dX3_insert_21 ?_
        refine x_iload C dX3_insert_24 4 rfl ?_
        refine x_iconst (v := 1) C dX3_insert_26 (by decide) ?_
        refine x_isub C dX3_insert_27 ?_
        obtain ⟨h2, hf⟩ := x_n hf
        refine x_iald (b := evW g a o eL) C 0 rfl 1 (evW_at1 g a o _) h2 dX3_insert_28 ?_
        refine x_iload_n C dX3_insert_29 rfl 1 rfl ?_
        refine x_icmp_le (tgt := 49) C dX3_insert_30 (by decide) (fun h3 => ?_) (fun h3 => ?_)
        · have hf := x_t h3 hf
          exact hL49 eL x1 x2 x3 x4 hf
        · have hf := x_f h3 hf
          refine x_aload_n C dX3_insert_33 rfl 0 rfl ?_
          refine x_iload C dX3_insert_34 4 rfl ?_
          refine x_iconst (v := 1) C dX3_insert_36 (by decide) ?_
          refine x_isub C dX3_insert_37 ?_
          refine x_iload C dX3_insert_38 4 rfl ?_
          obtain ⟨u4, hu4, hf⟩ := x_b hf
          refine x_callV (n := 2) (As := [.int (x4 - (1 : Int32)), .int x4]) (rest := []) C (c_X3_move g l a o eL (x4 - (1 : Int32)) x4 hu4) ⟨⟨wd_212, wd_208, wd_28⟩, ⟨by decide, by decide, by decide⟩, rfl, rfl, Nat.le_of_ble_eq_true rfl, Nat.le_of_ble_eq_true rfl⟩ wd_210 wd_5 ⟨0, 6, _, _, rfl, rfl, rfl⟩ [] (x_pickD [0] 1 rfl rfl rfl) rfl rfl (Nat.le_of_ble_eq_true rfl) ⟨Nat.le_of_ble_eq_true rfl, Nat.le_of_ble_eq_true rfl⟩ dX3_insert_40 (x_goD (wss2 := [evW g a o u4]) (stk2 := []) rfl rfl ?_)
          refine x_iinc (v := x4 + (-1)) (lv' := [(4, .int (x4 + (-1))), (0, .ref (a (o + 6))), (1, .int x1), (2, .int x2), (3, .int x3)]) C dX3_insert_43 4 rfl rfl (by decide) rfl ?_
          refine x_goto (tgt := 15) C dX3_insert_46 (by decide) ?_
          refine x_locals (lv' := [(0, .ref (a (o + 6))), (1, .int x1), (2, .int x2), (3, .int x3), (4, .int (x4 + (-1)))]) [1, 2, 3, 4, 0] rfl ?_
          exact ih u4 x1 x2 x3 (x4 + (-1)) hf
  refine x_aload_n C dX3_insert_0 rfl 0 rfl ?_
  obtain ⟨u1, hu1, hf⟩ := x_b hf
  refine x_callV (n := 0) (As := []) (rest := []) C (c_X3_isFull g l a o e hu1) ⟨⟨wd_711, wd_718, wd_28⟩, ⟨by decide, by decide, by decide⟩, rfl, rfl, Nat.le_of_ble_eq_true rfl, Nat.le_of_ble_eq_true rfl⟩ wd_709 wd_710 ⟨0, 6, _, _, rfl, rfl, rfl⟩ [] (x_pickD [0] 1 rfl rfl rfl) rfl rfl (Nat.le_of_ble_eq_true rfl) ⟨Nat.le_of_ble_eq_true rfl, Nat.le_of_ble_eq_true rfl⟩ dX3_insert_1 (x_goD (wss2 := [evW g a o e]) (stk2 := [.int u1]) rfl rfl ?_)
  refine x_if_eq (tgt := 9) C dX3_insert_4 (by decide) (fun h2 => ?_) (fun h2 => ?_)
  · have hf := x_t h2 hf
    refine x_aload_n C dX3_insert_9 rfl 0 rfl ?_
    refine x_get (ci := 6) (v := .int e.2.2.2) (b := evW g a o e) C ixX3 rfl 3 (by decide) wd_861 (fun _ h => h) 0 rfl 0 (evW_at0 g a o _) rfl dX3_insert_10 ?_
    refine x_istore (lv' := [(4, .int e.2.2.2), (0, .ref (a (o + 6))), (1, .int x1), (2, .int x2), (3, .int x3)]) C dX3_insert_13 (by decide) rfl ?_
    refine x_locals (lv' := [(0, .ref (a (o + 6))), (1, .int x1), (2, .int x2), (3, .int x3), (4, .int e.2.2.2)]) [1, 2, 3, 4, 0] rfl ?_
    exact hL15 xFuel e x1 x2 x3 e.2.2.2 hf
  · have hf := x_f h2 hf
    refine x_iconst (v := (-1)) C dX3_insert_7 (by decide) ?_
    exact x_iret C hr ⟨by cases hf; rfl, by cases hf; rfl⟩ dX3_insert_8
theorem wd_204 : Cond.methodLink RX3 34 yX3_has ∈ xTB := xTB_in 204 (by decide +kernel) (by decide +kernel)
theorem wd_205 : Cond.instanceMethod yX3_has ∈ xTB := xTB_in 205 (by decide +kernel) (by decide +kernel)
theorem wd_206 : Cond.selects yX3_has.cls yX3_has yX3_has ∈ xTB := xTB_in 206 (by decide +kernel) (by decide +kernel)
theorem wd_207 : Cond.code yX3_has cX3_has 2 (some .boolean) ∈ xTB := xTB_in 207 (by decide +kernel) (by decide +kernel)
theorem dX3_remove_0 : decode cX3_remove 0 = .ok (.aload_n 0, 1) := by decide +kernel
theorem dX3_remove_1 : decode cX3_remove 1 = .ok (.iload_n 1, 1) := by decide +kernel
theorem dX3_remove_2 : decode cX3_remove 2 = .ok (.invokevirtual 34, 3) := by decide +kernel
theorem dX3_remove_5 : decode cX3_remove 5 = .ok (.ifCond .ne 4, 3) := by decide +kernel
theorem dX3_remove_8 : decode cX3_remove 8 = .ok (.return_, 1) := by decide +kernel
theorem dX3_remove_9 : decode cX3_remove 9 = .ok (.aload_n 0, 1) := by decide +kernel
theorem dX3_remove_10 : decode cX3_remove 10 = .ok (.dup, 1) := by decide +kernel
theorem dX3_remove_11 : decode cX3_remove 11 = .ok (.getfield 22, 3) := by decide +kernel
theorem dX3_remove_14 : decode cX3_remove 14 = .ok (.iconst 1, 1) := by decide +kernel
theorem dX3_remove_15 : decode cX3_remove 15 = .ok (.isub, 1) := by decide +kernel
theorem dX3_remove_16 : decode cX3_remove 16 = .ok (.putfield 22, 3) := by decide +kernel
theorem dX3_remove_19 : decode cX3_remove 19 = .ok (.iload_n 1, 1) := by decide +kernel
theorem dX3_remove_20 : decode cX3_remove 20 = .ok (.istore_n 2, 1) := by decide +kernel
theorem dX3_remove_21 : decode cX3_remove 21 = .ok (.iload_n 2, 1) := by decide +kernel
theorem dX3_remove_22 : decode cX3_remove 22 = .ok (.aload_n 0, 1) := by decide +kernel
theorem dX3_remove_23 : decode cX3_remove 23 = .ok (.getfield 22, 3) := by decide +kernel
theorem dX3_remove_26 : decode cX3_remove 26 = .ok (.if_icmp .ge 17, 3) := by decide +kernel
theorem dX3_remove_29 : decode cX3_remove 29 = .ok (.aload_n 0, 1) := by decide +kernel
theorem dX3_remove_30 : decode cX3_remove 30 = .ok (.iload_n 2, 1) := by decide +kernel
theorem dX3_remove_31 : decode cX3_remove 31 = .ok (.iconst 1, 1) := by decide +kernel
theorem dX3_remove_32 : decode cX3_remove 32 = .ok (.iadd, 1) := by decide +kernel
theorem dX3_remove_33 : decode cX3_remove 33 = .ok (.iload_n 2, 1) := by decide +kernel
theorem dX3_remove_34 : decode cX3_remove 34 = .ok (.invokevirtual 30, 3) := by decide +kernel
theorem dX3_remove_37 : decode cX3_remove 37 = .ok (.iinc 2 1, 3) := by decide +kernel
theorem dX3_remove_40 : decode cX3_remove 40 = .ok (.goto (-19), 3) := by decide +kernel
theorem dX3_remove_43 : decode cX3_remove 43 = .ok (.return_, 1) := by decide +kernel
set_option maxHeartbeats 4000000 in
set_option maxRecDepth 100000 in
theorem c_X3_remove (g : xG) (l : Launch) (a : Nat → Nat) (o : Nat) (e : EvT) (x1 : Int32) {u : EvT} (hf : f_X3_remove e x1 = some u) : ConD g l yX3_remove cX3_remove 3 none ({ frames := 1, cells := 0, slots := 0, locals := 22 } : Room) [.ref (a (o + 6)), .int x1] [evW g a o e] (none) [evW g a o u] := by
  unfold f_X3_remove at hf
  refine Con_of [evW g a o e] [(0, .ref (a (o + 6))), (1, .int x1)] rfl rfl (by decide) (Nat.le_of_ble_eq_true rfl) ?_
  intro pW eW sW mW argsW belowW methW c9 C hnm hr
  have C : CX g RX3 cX3_remove 3 _ pW sW mW argsW methW c9 := C
  have hL21 : ∀ (nW : Nat) (eL : EvT) (x2 : Int32), f_X3_remove_21 nW eL x2 = some u → VW g (va_A ([evW g a o e] : List va_W).flatten sW.heap.size) 3 pW l eW ({ frames := 1, cells := 0, slots := 0, locals := 22 } : Room) sW mW argsW belowW methW c9 0 0 (MQ belowW (xQc g ([evW g a o e] : List va_W).flatten sW.heap.size (fun v9 w9 => v9 = none ∧ w9 = ([evW g a o u] : List va_W).flatten)) argsW sW 0 0 (va_A ([evW g a o e] : List va_W).flatten sW.heap.size)) [evW g a o eL] [(0, .ref (a (o + 6))), (2, .int x2)] 21 [] := by
    intro nW
    induction nW with
    | zero => intro eL x2 hf; rw [f_X3_remove_21] at hf; cases hf
    | succ nW ih =>
      intro eL x2 hf
      rw [f_X3_remove_21] at hf
      refine x_iload_n C dX3_remove_21 rfl 1 rfl ?_
      refine x_aload_n C dX3_remove_22 rfl 0 rfl ?_
      refine x_get (ci := 6) (v := .int eL.2.2.2) (b := evW g a o eL) C ixX3 rfl 3 (by decide) wd_861 (fun _ h => h) 0 rfl 0 (evW_at0 g a o _) rfl dX3_remove_23 ?_
      refine x_icmp_ge (tgt := 43) C dX3_remove_26 (by decide) (fun h1 => ?_) (fun h1 => ?_)
      · have hf := x_t h1 hf
        exact x_vret C hr ⟨by cases hf; rfl, by cases hf; rfl⟩ dX3_remove_43
      · have hf := x_f h1 hf
        refine x_aload_n C dX3_remove_29 rfl 0 rfl ?_
        refine x_iload_n C dX3_remove_30 rfl 1 rfl ?_
        refine x_iconst (v := 1) C dX3_remove_31 (by decide) ?_
        refine x_iadd C dX3_remove_32 ?_
        refine x_iload_n C dX3_remove_33 rfl 1 rfl ?_
        obtain ⟨u2, hu2, hf⟩ := x_b hf
        refine x_callV (n := 2) (As := [.int (x2 + (1 : Int32)), .int x2]) (rest := []) C (c_X3_move g l a o eL (x2 + (1 : Int32)) x2 hu2) ⟨⟨wd_212, wd_208, wd_28⟩, ⟨by decide, by decide, by decide⟩, rfl, rfl, Nat.le_of_ble_eq_true rfl, Nat.le_of_ble_eq_true rfl⟩ wd_210 wd_5 ⟨0, 6, _, _, rfl, rfl, rfl⟩ [] (x_pickD [0] 1 rfl rfl rfl) rfl rfl (Nat.le_of_ble_eq_true rfl) ⟨Nat.le_of_ble_eq_true rfl, Nat.le_of_ble_eq_true rfl⟩ dX3_remove_34 (x_goD (wss2 := [evW g a o u2]) (stk2 := []) rfl rfl ?_)
        refine x_iinc (v := x2 + 1) (lv' := [(2, .int (x2 + 1)), (0, .ref (a (o + 6)))]) C dX3_remove_37 1 rfl rfl (by decide) rfl ?_
        refine x_goto (tgt := 21) C dX3_remove_40 (by decide) ?_
        refine x_locals (lv' := [(0, .ref (a (o + 6))), (2, .int (x2 + 1))]) [1, 0] rfl ?_
        exact ih u2 (x2 + 1) hf
  refine x_aload_n C dX3_remove_0 rfl 0 rfl ?_
  refine x_iload_n C dX3_remove_1 rfl 1 rfl ?_
  obtain ⟨u1, hu1, hf⟩ := x_b hf
  refine x_callV (n := 1) (As := [.int x1]) (rest := []) C (c_X3_has g l a o e x1 hu1) ⟨⟨wd_207, wd_204, wd_28⟩, ⟨by decide, by decide, by decide⟩, rfl, rfl, Nat.le_of_ble_eq_true rfl, Nat.le_of_ble_eq_true rfl⟩ wd_205 wd_206 ⟨0, 6, _, _, rfl, rfl, rfl⟩ [] (x_pickD [0] 1 rfl rfl rfl) rfl rfl (Nat.le_of_ble_eq_true rfl) ⟨Nat.le_of_ble_eq_true rfl, Nat.le_of_ble_eq_true rfl⟩ dX3_remove_2 (x_goD (wss2 := [evW g a o e]) (stk2 := [.int u1]) rfl rfl ?_)
  refine x_if_ne (tgt := 9) C dX3_remove_5 (by decide) (fun h2 => ?_) (fun h2 => ?_)
  · have hf := x_f h2 hf
    refine x_aload_n C dX3_remove_9 rfl 0 rfl ?_
    refine x_dup C dX3_remove_10 rfl ?_
    refine x_get (ci := 6) (v := .int e.2.2.2) (b := evW g a o e) C ixX3 rfl 3 (by decide) wd_861 (fun _ h => h) 0 rfl 0 (evW_at0 g a o _) rfl dX3_remove_11 ?_
    refine x_iconst (v := 1) C dX3_remove_14 (by decide) ?_
    refine x_isub C dX3_remove_15 ?_
    refine x_put (ci := 6) (ty := .int) (v := .int (e.2.2.2 - (1 : Int32))) (b := evW g a o e) (b' := evW g a o (e.1, e.2.1, e.2.2.1, e.2.2.2 - (1 : Int32))) (wss' := [evW g a o (e.1, e.2.1, e.2.2.1, e.2.2.2 - (1 : Int32))]) C ixX3 tyX3 tyX3_ok nmX3 rfl 3 (by decide) wd_861 (fun _ h => h) rfl (tyX3_ok 3 (by decide)) rfl rfl 0 rfl 0 (evW_at0 g a o _) (Nat.le_of_ble_eq_true rfl) rfl rfl dX3_remove_16 ?_
    refine x_iload_n C dX3_remove_19 rfl 1 rfl ?_
    refine x_istore_n (lv' := [(2, .int x1), (0, .ref (a (o + 6))), (1, .int x1)]) C dX3_remove_20 rfl (by decide) rfl ?_
    refine x_locals (lv' := [(0, .ref (a (o + 6))), (2, .int x1)]) [1, 0] rfl ?_
    exact hL21 xFuel (e.1, e.2.1, e.2.2.1, e.2.2.2 - (1 : Int32)) x1 hf
  · have hf := x_t h2 hf
    exact x_vret C hr ⟨by cases hf; rfl, by cases hf; rfl⟩ dX3_remove_8
theorem wd_165 : Cond.methodLink RX8 52 yX1_copyFrom ∈ xTB := xTB_in 165 (by decide +kernel) (by decide +kernel)
theorem wd_166 : Cond.instanceMethod yX1_copyFrom ∈ xTB := xTB_in 166 (by decide +kernel) (by decide +kernel)
theorem wd_167 : Cond.selects yX1_copyFrom.cls yX1_copyFrom yX1_copyFrom ∈ xTB := xTB_in 167 (by decide +kernel) (by decide +kernel)
theorem wd_168 : Cond.code yX1_copyFrom cX1_copyFrom 3 none ∈ xTB := xTB_in 168 (by decide +kernel) (by decide +kernel)
theorem wd_169 : Cond.methodLink RX8 56 yX3_copyFrom ∈ xTB := xTB_in 169 (by decide +kernel) (by decide +kernel)
theorem wd_170 : Cond.instanceMethod yX3_copyFrom ∈ xTB := xTB_in 170 (by decide +kernel) (by decide +kernel)
theorem wd_171 : Cond.selects yX3_copyFrom.cls yX3_copyFrom yX3_copyFrom ∈ xTB := xTB_in 171 (by decide +kernel) (by decide +kernel)
theorem wd_172 : Cond.code yX3_copyFrom cX3_copyFrom 3 none ∈ xTB := xTB_in 172 (by decide +kernel) (by decide +kernel)
theorem wd_873 : Cond.fieldLink RX8 12 "CandleConcert$State" "candles" "LCandleConcert$Candles;" ∈ xTB := xTB_in 873 (by decide +kernel) (by decide +kernel)
theorem wd_875 : Cond.fieldLink RX8 21 "CandleConcert$State" "events" "LCandleConcert$Events;" ∈ xTB := xTB_in 875 (by decide +kernel) (by decide +kernel)
theorem wd_877 : Cond.fieldLink RX8 25 "CandleConcert$State" "draught" "I" ∈ xTB := xTB_in 877 (by decide +kernel) (by decide +kernel)
theorem wd_879 : Cond.fieldLink RX8 29 "CandleConcert$State" "dish" "I" ∈ xTB := xTB_in 879 (by decide +kernel) (by decide +kernel)
theorem wd_881 : Cond.fieldLink RX8 32 "CandleConcert$State" "time" "I" ∈ xTB := xTB_in 881 (by decide +kernel) (by decide +kernel)
theorem wd_883 : Cond.fieldLink RX8 35 "CandleConcert$State" "burnt" "I" ∈ xTB := xTB_in 883 (by decide +kernel) (by decide +kernel)
theorem wd_885 : Cond.fieldLink RX8 38 "CandleConcert$State" "addedWax" "J" ∈ xTB := xTB_in 885 (by decide +kernel) (by decide +kernel)
theorem wd_887 : Cond.fieldLink RX8 42 "CandleConcert$State" "failedEvents" "I" ∈ xTB := xTB_in 887 (by decide +kernel) (by decide +kernel)
theorem wd_889 : Cond.fieldLink RX8 45 "CandleConcert$State" "failureReason" "C" ∈ xTB := xTB_in 889 (by decide +kernel) (by decide +kernel)
theorem wd_890 : Cond.fieldLink RX8 49 "CandleConcert$State" "lastCandle" "I" ∈ xTB := xTB_in 890 (by decide +kernel) (by decide +kernel)
theorem dX8_copyFrom_0 : decode cX8_copyFrom 0 = .ok (.aload_n 0, 1) := by decide +kernel
theorem dX8_copyFrom_1 : decode cX8_copyFrom 1 = .ok (.getfield 12, 3) := by decide +kernel
theorem dX8_copyFrom_4 : decode cX8_copyFrom 4 = .ok (.aload_n 1, 1) := by decide +kernel
theorem dX8_copyFrom_5 : decode cX8_copyFrom 5 = .ok (.getfield 12, 3) := by decide +kernel
theorem dX8_copyFrom_8 : decode cX8_copyFrom 8 = .ok (.invokevirtual 52, 3) := by decide +kernel
theorem dX8_copyFrom_11 : decode cX8_copyFrom 11 = .ok (.aload_n 0, 1) := by decide +kernel
theorem dX8_copyFrom_12 : decode cX8_copyFrom 12 = .ok (.getfield 21, 3) := by decide +kernel
theorem dX8_copyFrom_15 : decode cX8_copyFrom 15 = .ok (.aload_n 1, 1) := by decide +kernel
theorem dX8_copyFrom_16 : decode cX8_copyFrom 16 = .ok (.getfield 21, 3) := by decide +kernel
theorem dX8_copyFrom_19 : decode cX8_copyFrom 19 = .ok (.invokevirtual 56, 3) := by decide +kernel
theorem dX8_copyFrom_22 : decode cX8_copyFrom 22 = .ok (.aload_n 0, 1) := by decide +kernel
theorem dX8_copyFrom_23 : decode cX8_copyFrom 23 = .ok (.aload_n 1, 1) := by decide +kernel
theorem dX8_copyFrom_24 : decode cX8_copyFrom 24 = .ok (.getfield 25, 3) := by decide +kernel
theorem dX8_copyFrom_27 : decode cX8_copyFrom 27 = .ok (.putfield 25, 3) := by decide +kernel
theorem dX8_copyFrom_30 : decode cX8_copyFrom 30 = .ok (.aload_n 0, 1) := by decide +kernel
theorem dX8_copyFrom_31 : decode cX8_copyFrom 31 = .ok (.aload_n 1, 1) := by decide +kernel
theorem dX8_copyFrom_32 : decode cX8_copyFrom 32 = .ok (.getfield 29, 3) := by decide +kernel
theorem dX8_copyFrom_35 : decode cX8_copyFrom 35 = .ok (.putfield 29, 3) := by decide +kernel
theorem dX8_copyFrom_38 : decode cX8_copyFrom 38 = .ok (.aload_n 0, 1) := by decide +kernel
theorem dX8_copyFrom_39 : decode cX8_copyFrom 39 = .ok (.aload_n 1, 1) := by decide +kernel
theorem dX8_copyFrom_40 : decode cX8_copyFrom 40 = .ok (.getfield 32, 3) := by decide +kernel
theorem dX8_copyFrom_43 : decode cX8_copyFrom 43 = .ok (.putfield 32, 3) := by decide +kernel
theorem dX8_copyFrom_46 : decode cX8_copyFrom 46 = .ok (.aload_n 0, 1) := by decide +kernel
theorem dX8_copyFrom_47 : decode cX8_copyFrom 47 = .ok (.aload_n 1, 1) := by decide +kernel
theorem dX8_copyFrom_48 : decode cX8_copyFrom 48 = .ok (.getfield 35, 3) := by decide +kernel
theorem dX8_copyFrom_51 : decode cX8_copyFrom 51 = .ok (.putfield 35, 3) := by decide +kernel
theorem dX8_copyFrom_54 : decode cX8_copyFrom 54 = .ok (.aload_n 0, 1) := by decide +kernel
theorem dX8_copyFrom_55 : decode cX8_copyFrom 55 = .ok (.aload_n 1, 1) := by decide +kernel
theorem dX8_copyFrom_56 : decode cX8_copyFrom 56 = .ok (.getfield 38, 3) := by decide +kernel
theorem dX8_copyFrom_59 : decode cX8_copyFrom 59 = .ok (.putfield 38, 3) := by decide +kernel
theorem dX8_copyFrom_62 : decode cX8_copyFrom 62 = .ok (.aload_n 0, 1) := by decide +kernel
theorem dX8_copyFrom_63 : decode cX8_copyFrom 63 = .ok (.aload_n 1, 1) := by decide +kernel
theorem dX8_copyFrom_64 : decode cX8_copyFrom 64 = .ok (.getfield 42, 3) := by decide +kernel
theorem dX8_copyFrom_67 : decode cX8_copyFrom 67 = .ok (.putfield 42, 3) := by decide +kernel
theorem dX8_copyFrom_70 : decode cX8_copyFrom 70 = .ok (.aload_n 0, 1) := by decide +kernel
theorem dX8_copyFrom_71 : decode cX8_copyFrom 71 = .ok (.aload_n 1, 1) := by decide +kernel
theorem dX8_copyFrom_72 : decode cX8_copyFrom 72 = .ok (.getfield 45, 3) := by decide +kernel
theorem dX8_copyFrom_75 : decode cX8_copyFrom 75 = .ok (.putfield 45, 3) := by decide +kernel
theorem dX8_copyFrom_78 : decode cX8_copyFrom 78 = .ok (.aload_n 0, 1) := by decide +kernel
theorem dX8_copyFrom_79 : decode cX8_copyFrom 79 = .ok (.aload_n 1, 1) := by decide +kernel
theorem dX8_copyFrom_80 : decode cX8_copyFrom 80 = .ok (.getfield 49, 3) := by decide +kernel
theorem dX8_copyFrom_83 : decode cX8_copyFrom 83 = .ok (.putfield 49, 3) := by decide +kernel
theorem dX8_copyFrom_86 : decode cX8_copyFrom 86 = .ok (.return_, 1) := by decide +kernel
set_option maxHeartbeats 4000000 in
set_option maxRecDepth 100000 in
theorem c_X8_copyFrom (g : xG) (l : Launch) (a : Nat → Nat) (o : Nat) (k : Nat) (v : StS) (c : CdT) (e : EvT) (w : StS) (d : CdT) (f : EvT)  {u : StS × CdT × EvT} (hf : f_X8_copyFrom v c e w d f = some u) : ConD g l yX8_copyFrom cX8_copyFrom 2 none ({ frames := 1, cells := 0, slots := 0, locals := 22 } : Room) [.ref (a (o + 0)), .ref (a (k + 0))] [stO g a o v, cdW g a o c, evW g a o e, stO g a k w, cdW g a k d, evW g a k f] (none) [stO g a o u.1, cdW g a o u.2.1, evW g a o u.2.2, stO g a k w, cdW g a k d, evW g a k f] := by
  unfold f_X8_copyFrom at hf
  refine Con_of [stO g a o v, cdW g a o c, evW g a o e, stO g a k w, cdW g a k d, evW g a k f] [(0, .ref (a (o + 0))), (1, .ref (a (k + 0)))] rfl rfl (by decide) (Nat.le_of_ble_eq_true rfl) ?_
  intro pW eW sW mW argsW belowW methW c9 C hnm hr
  have C : CX g RX8 cX8_copyFrom 2 _ pW sW mW argsW methW c9 := C
  refine x_aload_n C dX8_copyFrom_0 rfl 0 rfl ?_
  refine x_get (ci := 9) (v := .ref (a (o + 1))) (b := stO g a o v) C ixX8 rfl 0 (by decide) wd_873 (fun _ h => h) 0 rfl 0 (stO_at0 g a o _) rfl dX8_copyFrom_1 ?_
  refine x_aload_n C dX8_copyFrom_4 rfl 1 rfl ?_
  refine x_get (ci := 9) (v := .ref (a (k + 1))) (b := stO g a k w) C ixX8 rfl 0 (by decide) wd_873 (fun _ h => h) 3 rfl 0 (stO_at0 g a k _) rfl dX8_copyFrom_5 ?_
  obtain ⟨u1, hu1, hf⟩ := x_b hf
  refine x_callV (n := 1) (As := [.ref (a (k + 1))]) (rest := []) C (c_X1_copyFrom g l a o k c d hu1) ⟨⟨wd_168, wd_165, wd_27⟩, ⟨by decide, by decide, by decide⟩, rfl, rfl, Nat.le_of_ble_eq_true rfl, Nat.le_of_ble_eq_true rfl⟩ wd_166 wd_167 ⟨0, 4, _, _, rfl, rfl, rfl⟩ [stO g a o v, evW g a o e, stO g a k w, evW g a k f] (x_pickD [1, 4, 0, 2, 3, 5] 6 rfl rfl rfl) rfl rfl (Nat.le_of_ble_eq_true rfl) ⟨Nat.le_of_ble_eq_true rfl, Nat.le_of_ble_eq_true rfl⟩ dX8_copyFrom_8 (x_goD (wss2 := [cdW g a o u1, cdW g a k d, stO g a o v, evW g a o e, stO g a k w, evW g a k f]) (stk2 := []) rfl rfl ?_)
  refine x_aload_n C dX8_copyFrom_11 rfl 0 rfl ?_
  refine x_get (ci := 9) (v := .ref (a (o + 6))) (b := stO g a o v) C ixX8 rfl 1 (by decide) wd_875 (fun _ h => h) 2 rfl 0 (stO_at0 g a o _) rfl dX8_copyFrom_12 ?_
  refine x_aload_n C dX8_copyFrom_15 rfl 1 rfl ?_
  refine x_get (ci := 9) (v := .ref (a (k + 6))) (b := stO g a k w) C ixX8 rfl 1 (by decide) wd_875 (fun _ h => h) 4 rfl 0 (stO_at0 g a k _) rfl dX8_copyFrom_16 ?_
  obtain ⟨u2, hu2, hf⟩ := x_b hf
  refine x_callV (n := 1) (As := [.ref (a (k + 6))]) (rest := []) C (c_X3_copyFrom g l a o k e f hu2) ⟨⟨wd_172, wd_169, wd_28⟩, ⟨by decide, by decide, by decide⟩, rfl, rfl, Nat.le_of_ble_eq_true rfl, Nat.le_of_ble_eq_true rfl⟩ wd_170 wd_171 ⟨0, 6, _, _, rfl, rfl, rfl⟩ [cdW g a o u1, cdW g a k d, stO g a o v, stO g a k w] (x_pickD [3, 5, 0, 1, 2, 4] 6 rfl rfl rfl) rfl rfl (Nat.le_of_ble_eq_true rfl) ⟨Nat.le_of_ble_eq_true rfl, Nat.le_of_ble_eq_true rfl⟩ dX8_copyFrom_19 (x_goD (wss2 := [evW g a o u2, evW g a k f, cdW g a o u1, cdW g a k d, stO g a o v, stO g a k w]) (stk2 := []) rfl rfl ?_)
  refine x_aload_n C dX8_copyFrom_22 rfl 0 rfl ?_
  refine x_aload_n C dX8_copyFrom_23 rfl 1 rfl ?_
  refine x_get (ci := 9) (v := .int w.1) (b := stO g a k w) C ixX8 rfl 2 (by decide) wd_877 (fun _ h => h) 5 rfl 0 (stO_at0 g a k _) rfl dX8_copyFrom_24 ?_
  refine x_put (ci := 9) (ty := .int) (v := .int w.1) (b := stO g a o v) (b' := stO g a o (w.1, v.2.1, v.2.2.1, v.2.2.2.1, v.2.2.2.2.1, v.2.2.2.2.2.1, v.2.2.2.2.2.2.1, v.2.2.2.2.2.2.2)) (wss' := [evW g a o u2, evW g a k f, cdW g a o u1, cdW g a k d, stO g a o (w.1, v.2.1, v.2.2.1, v.2.2.2.1, v.2.2.2.2.1, v.2.2.2.2.2.1, v.2.2.2.2.2.2.1, v.2.2.2.2.2.2.2), stO g a k w]) C ixX8 tyX8 tyX8_ok nmX8 rfl 2 (by decide) wd_877 (fun _ h => h) rfl (tyX8_ok 2 (by decide)) rfl rfl 4 rfl 0 (stO_at0 g a o _) (Nat.le_of_ble_eq_true rfl) rfl rfl dX8_copyFrom_27 ?_
  refine x_aload_n C dX8_copyFrom_30 rfl 0 rfl ?_
  refine x_aload_n C dX8_copyFrom_31 rfl 1 rfl ?_
  refine x_get (ci := 9) (v := .int w.2.1) (b := stO g a k w) C ixX8 rfl 3 (by decide) wd_879 (fun _ h => h) 5 rfl 0 (stO_at0 g a k _) rfl dX8_copyFrom_32 ?_
  refine x_put (ci := 9) (ty := .int) (v := .int w.2.1) (b := stO g a o (w.1, v.2.1, v.2.2.1, v.2.2.2.1, v.2.2.2.2.1, v.2.2.2.2.2.1, v.2.2.2.2.2.2.1, v.2.2.2.2.2.2.2)) (b' := stO g a o (w.1, w.2.1, v.2.2.1, v.2.2.2.1, v.2.2.2.2.1, v.2.2.2.2.2.1, v.2.2.2.2.2.2.1, v.2.2.2.2.2.2.2)) (wss' := [evW g a o u2, evW g a k f, cdW g a o u1, cdW g a k d, stO g a o (w.1, w.2.1, v.2.2.1, v.2.2.2.1, v.2.2.2.2.1, v.2.2.2.2.2.1, v.2.2.2.2.2.2.1, v.2.2.2.2.2.2.2), stO g a k w]) C ixX8 tyX8 tyX8_ok nmX8 rfl 3 (by decide) wd_879 (fun _ h => h) rfl (tyX8_ok 3 (by decide)) rfl rfl 4 rfl 0 (stO_at0 g a o _) (Nat.le_of_ble_eq_true rfl) rfl rfl dX8_copyFrom_35 ?_
  refine x_aload_n C dX8_copyFrom_38 rfl 0 rfl ?_
  refine x_aload_n C dX8_copyFrom_39 rfl 1 rfl ?_
  refine x_get (ci := 9) (v := .int w.2.2.1) (b := stO g a k w) C ixX8 rfl 4 (by decide) wd_881 (fun _ h => h) 5 rfl 0 (stO_at0 g a k _) rfl dX8_copyFrom_40 ?_
  refine x_put (ci := 9) (ty := .int) (v := .int w.2.2.1) (b := stO g a o (w.1, w.2.1, v.2.2.1, v.2.2.2.1, v.2.2.2.2.1, v.2.2.2.2.2.1, v.2.2.2.2.2.2.1, v.2.2.2.2.2.2.2)) (b' := stO g a o (w.1, w.2.1, w.2.2.1, v.2.2.2.1, v.2.2.2.2.1, v.2.2.2.2.2.1, v.2.2.2.2.2.2.1, v.2.2.2.2.2.2.2)) (wss' := [evW g a o u2, evW g a k f, cdW g a o u1, cdW g a k d, stO g a o (w.1, w.2.1, w.2.2.1, v.2.2.2.1, v.2.2.2.2.1, v.2.2.2.2.2.1, v.2.2.2.2.2.2.1, v.2.2.2.2.2.2.2), stO g a k w]) C ixX8 tyX8 tyX8_ok nmX8 rfl 4 (by decide) wd_881 (fun _ h => h) rfl (tyX8_ok 4 (by decide)) rfl rfl 4 rfl 0 (stO_at0 g a o _) (Nat.le_of_ble_eq_true rfl) rfl rfl dX8_copyFrom_43 ?_
  refine x_aload_n C dX8_copyFrom_46 rfl 0 rfl ?_
  refine x_aload_n C dX8_copyFrom_47 rfl 1 rfl ?_
  refine x_get (ci := 9) (v := .int w.2.2.2.1) (b := stO g a k w) C ixX8 rfl 5 (by decide) wd_883 (fun _ h => h) 5 rfl 0 (stO_at0 g a k _) rfl dX8_copyFrom_48 ?_
  refine x_put (ci := 9) (ty := .int) (v := .int w.2.2.2.1) (b := stO g a o (w.1, w.2.1, w.2.2.1, v.2.2.2.1, v.2.2.2.2.1, v.2.2.2.2.2.1, v.2.2.2.2.2.2.1, v.2.2.2.2.2.2.2)) (b' := stO g a o (w.1, w.2.1, w.2.2.1, w.2.2.2.1, v.2.2.2.2.1, v.2.2.2.2.2.1, v.2.2.2.2.2.2.1, v.2.2.2.2.2.2.2)) (wss' := [evW g a o u2, evW g a k f, cdW g a o u1, cdW g a k d, stO g a o (w.1, w.2.1, w.2.2.1, w.2.2.2.1, v.2.2.2.2.1, v.2.2.2.2.2.1, v.2.2.2.2.2.2.1, v.2.2.2.2.2.2.2), stO g a k w]) C ixX8 tyX8 tyX8_ok nmX8 rfl 5 (by decide) wd_883 (fun _ h => h) rfl (tyX8_ok 5 (by decide)) rfl rfl 4 rfl 0 (stO_at0 g a o _) (Nat.le_of_ble_eq_true rfl) rfl rfl dX8_copyFrom_51 ?_
  refine x_aload_n C dX8_copyFrom_54 rfl 0 rfl ?_
  refine x_aload_n C dX8_copyFrom_55 rfl 1 rfl ?_
  refine x_get (ci := 9) (v := .long w.2.2.2.2.1) (b := stO g a k w) C ixX8 rfl 6 (by decide) wd_885 (fun _ h => h) 5 rfl 0 (stO_at0 g a k _) rfl dX8_copyFrom_56 ?_
  refine x_put (ci := 9) (ty := .long) (v := .long w.2.2.2.2.1) (b := stO g a o (w.1, w.2.1, w.2.2.1, w.2.2.2.1, v.2.2.2.2.1, v.2.2.2.2.2.1, v.2.2.2.2.2.2.1, v.2.2.2.2.2.2.2)) (b' := stO g a o (w.1, w.2.1, w.2.2.1, w.2.2.2.1, w.2.2.2.2.1, v.2.2.2.2.2.1, v.2.2.2.2.2.2.1, v.2.2.2.2.2.2.2)) (wss' := [evW g a o u2, evW g a k f, cdW g a o u1, cdW g a k d, stO g a o (w.1, w.2.1, w.2.2.1, w.2.2.2.1, w.2.2.2.2.1, v.2.2.2.2.2.1, v.2.2.2.2.2.2.1, v.2.2.2.2.2.2.2), stO g a k w]) C ixX8 tyX8 tyX8_ok nmX8 rfl 6 (by decide) wd_885 (fun _ h => h) rfl (tyX8_ok 6 (by decide)) rfl rfl 4 rfl 0 (stO_at0 g a o _) (Nat.le_of_ble_eq_true rfl) rfl rfl dX8_copyFrom_59 ?_
  refine x_aload_n C dX8_copyFrom_62 rfl 0 rfl ?_
  refine x_aload_n C dX8_copyFrom_63 rfl 1 rfl ?_
  refine x_get (ci := 9) (v := .int w.2.2.2.2.2.1) (b := stO g a k w) C ixX8 rfl 7 (by decide) wd_887 (fun _ h => h) 5 rfl 0 (stO_at0 g a k _) rfl dX8_copyFrom_64 ?_
  refine x_put (ci := 9) (ty := .int) (v := .int w.2.2.2.2.2.1) (b := stO g a o (w.1, w.2.1, w.2.2.1, w.2.2.2.1, w.2.2.2.2.1, v.2.2.2.2.2.1, v.2.2.2.2.2.2.1, v.2.2.2.2.2.2.2)) (b' := stO g a o (w.1, w.2.1, w.2.2.1, w.2.2.2.1, w.2.2.2.2.1, w.2.2.2.2.2.1, v.2.2.2.2.2.2.1, v.2.2.2.2.2.2.2)) (wss' := [evW g a o u2, evW g a k f, cdW g a o u1, cdW g a k d, stO g a o (w.1, w.2.1, w.2.2.1, w.2.2.2.1, w.2.2.2.2.1, w.2.2.2.2.2.1, v.2.2.2.2.2.2.1, v.2.2.2.2.2.2.2), stO g a k w]) C ixX8 tyX8 tyX8_ok nmX8 rfl 7 (by decide) wd_887 (fun _ h => h) rfl (tyX8_ok 7 (by decide)) rfl rfl 4 rfl 0 (stO_at0 g a o _) (Nat.le_of_ble_eq_true rfl) rfl rfl dX8_copyFrom_67 ?_
  refine x_aload_n C dX8_copyFrom_70 rfl 0 rfl ?_
  refine x_aload_n C dX8_copyFrom_71 rfl 1 rfl ?_
  refine x_get (ci := 9) (v := .int w.2.2.2.2.2.2.1) (b := stO g a k w) C ixX8 rfl 8 (by decide) wd_889 (fun _ h => h) 5 rfl 0 (stO_at0 g a k _) rfl dX8_copyFrom_72 ?_
  obtain ⟨h3, hf⟩ := x_y hf
  refine x_put (ci := 9) (ty := .char) (v := .int w.2.2.2.2.2.2.1) (b := stO g a o (w.1, w.2.1, w.2.2.1, w.2.2.2.1, w.2.2.2.2.1, w.2.2.2.2.2.1, v.2.2.2.2.2.2.1, v.2.2.2.2.2.2.2)) (b' := stO g a o (w.1, w.2.1, w.2.2.1, w.2.2.2.1, w.2.2.2.2.1, w.2.2.2.2.2.1, w.2.2.2.2.2.2.1, v.2.2.2.2.2.2.2)) (wss' := [evW g a o u2, evW g a k f, cdW g a o u1, cdW g a k d, stO g a o (w.1, w.2.1, w.2.2.1, w.2.2.2.1, w.2.2.2.2.1, w.2.2.2.2.2.1, w.2.2.2.2.2.2.1, v.2.2.2.2.2.2.2), stO g a k w]) C ixX8 tyX8 tyX8_ok nmX8 rfl 8 (by decide) wd_889 (fun _ h => h) rfl (tyX8_ok 8 (by decide)) (x_narC h3).1 (x_narC h3).2 4 rfl 0 (stO_at0 g a o _) (Nat.le_of_ble_eq_true rfl) rfl rfl dX8_copyFrom_75 ?_
  refine x_aload_n C dX8_copyFrom_78 rfl 0 rfl ?_
  refine x_aload_n C dX8_copyFrom_79 rfl 1 rfl ?_
  refine x_get (ci := 9) (v := .int w.2.2.2.2.2.2.2) (b := stO g a k w) C ixX8 rfl 9 (by decide) wd_890 (fun _ h => h) 5 rfl 0 (stO_at0 g a k _) rfl dX8_copyFrom_80 ?_
  refine x_put (ci := 9) (ty := .int) (v := .int w.2.2.2.2.2.2.2) (b := stO g a o (w.1, w.2.1, w.2.2.1, w.2.2.2.1, w.2.2.2.2.1, w.2.2.2.2.2.1, w.2.2.2.2.2.2.1, v.2.2.2.2.2.2.2)) (b' := stO g a o (w.1, w.2.1, w.2.2.1, w.2.2.2.1, w.2.2.2.2.1, w.2.2.2.2.2.1, w.2.2.2.2.2.2.1, w.2.2.2.2.2.2.2)) (wss' := [evW g a o u2, evW g a k f, cdW g a o u1, cdW g a k d, stO g a o (w.1, w.2.1, w.2.2.1, w.2.2.2.1, w.2.2.2.2.1, w.2.2.2.2.2.1, w.2.2.2.2.2.2.1, w.2.2.2.2.2.2.2), stO g a k w]) C ixX8 tyX8 tyX8_ok nmX8 rfl 9 (by decide) wd_890 (fun _ h => h) rfl (tyX8_ok 9 (by decide)) rfl rfl 4 rfl 0 (stO_at0 g a o _) (Nat.le_of_ble_eq_true rfl) rfl rfl dX8_copyFrom_83 ?_
  refine x_perm (wss' := [stO g a o (w.1, w.2.1, w.2.2.1, w.2.2.2.1, w.2.2.2.2.1, w.2.2.2.2.2.1, w.2.2.2.2.2.2.1, w.2.2.2.2.2.2.2), cdW g a o u1, evW g a o u2, stO g a k w, cdW g a k d, evW g a k f]) (x_pick [4, 2, 0, 5, 3, 1] 6 rfl rfl rfl) ?_
  exact x_vret C hr ⟨by cases hf; rfl, by cases hf; rfl⟩ dX8_copyFrom_86
theorem wd_1058 : Cond.fieldLink RX9 351 "CandleConcert" "VOICES" "[C" ∈ xTB := xTB_in 1058 (by decide +kernel) (by decide +kernel)
theorem dX9_isVoice_0 : decode cX9_isVoice 0 = .ok (.iconst 0, 1) := by decide +kernel
theorem dX9_isVoice_1 : decode cX9_isVoice 1 = .ok (.istore_n 1, 1) := by decide +kernel
theorem dX9_isVoice_2 : decode cX9_isVoice 2 = .ok (.iload_n 1, 1) := by decide +kernel
theorem dX9_isVoice_3 : decode cX9_isVoice 3 = .ok (.getstatic 351, 3) := by decide +kernel
theorem dX9_isVoice_6 : decode cX9_isVoice 6 = .ok (.arraylength, 1) := by decide +kernel
theorem dX9_isVoice_7 : decode cX9_isVoice 7 = .ok (.if_icmp .ge 20, 3) := by decide +kernel
theorem dX9_isVoice_10 : decode cX9_isVoice 10 = .ok (.getstatic 351, 3) := by decide +kernel
theorem dX9_isVoice_13 : decode cX9_isVoice 13 = .ok (.iload_n 1, 1) := by decide +kernel
theorem dX9_isVoice_14 : decode cX9_isVoice 14 = .ok (.caload, 1) := by decide +kernel
theorem dX9_isVoice_15 : decode cX9_isVoice 15 = .ok (.iload_n 0, 1) := by decide +kernel
theorem dX9_isVoice_16 : decode cX9_isVoice 16 = .ok (.if_icmp .ne 5, 3) := by decide +kernel
theorem dX9_isVoice_19 : decode cX9_isVoice 19 = .ok (.iconst 1, 1) := by decide +kernel
theorem dX9_isVoice_20 : decode cX9_isVoice 20 = .ok (.ireturn, 1) := by decide +kernel
theorem dX9_isVoice_21 : decode cX9_isVoice 21 = .ok (.iinc 1 1, 3) := by decide +kernel
theorem dX9_isVoice_24 : decode cX9_isVoice 24 = .ok (.goto (-22), 3) := by decide +kernel
theorem dX9_isVoice_27 : decode cX9_isVoice 27 = .ok (.iconst 0, 1) := by decide +kernel
theorem dX9_isVoice_28 : decode cX9_isVoice 28 = .ok (.ireturn, 1) := by decide +kernel
set_option maxHeartbeats 4000000 in
set_option maxRecDepth 100000 in
theorem c_X9_isVoice (g : xG) (l : Launch)   (x0 : Int32) {u : Int32} (hf : f_X9_isVoice x0 = some u) : ConD g l yX9_isVoice cX9_isVoice 2 (some .boolean) ({ frames := 0, cells := 0, slots := 0, locals := 0 } : Room) [.int x0] [] (some (.int u)) [] := by
  unfold f_X9_isVoice at hf
  refine Con_of [] [(0, .int x0)] rfl rfl (by decide) (Nat.le_of_ble_eq_true rfl) ?_
  intro pW eW sW mW argsW belowW methW c9 C hnm hr
  have C : CX g RX9 cX9_isVoice 2 _ pW sW mW argsW methW c9 := C
  have hL2 : ∀ (nW : Nat) (x0 : Int32) (x1 : Int32), f_X9_isVoice_2 nW x0 x1 = some u → VW g (va_A ([] : List va_W).flatten sW.heap.size) 2 pW l eW ({ frames := 0, cells := 0, slots := 0, locals := 0 } : Room) sW mW argsW belowW methW c9 0 0 (MQ belowW (xQc g ([] : List va_W).flatten sW.heap.size (fun v9 w9 => v9 = some (.int u) ∧ w9 = ([] : List va_W).flatten)) argsW sW 0 0 (va_A ([] : List va_W).flatten sW.heap.size)) [] [(0, .int x0), (1, .int x1)] 2 [] := by
    intro nW
    induction nW with
    | zero => intro x0 x1 hf; rw [f_X9_isVoice_2] at hf; cases hf
    | succ nW ih =>
      intro x0 x1 hf
      rw [f_X9_isVoice_2] at hf
      refine x_iload_n C dX9_isVoice_2 rfl 1 rfl ?_
      refine x_gets (Cn := "CandleConcert") (n := "VOICES") (d := "[C") C (CX_vo C) wd_1058 (fun _ h => h) dX9_isVoice_3 ?_
      refine x_stn (v := 4) C (CX_tvo C) (by decide) dX9_isVoice_6 ?_
      refine x_icmp_ge (tgt := 27) C dX9_isVoice_7 (by decide) (fun h1 => ?_) (fun h1 => ?_)
      · have hf := x_t h1 hf
        refine x_iconst (v := 0) C dX9_isVoice_27 (by decide) ?_
        exact x_zret C hr rfl ⟨by cases hf; rfl, by cases hf; rfl⟩ dX9_isVoice_28
      · have hf := x_f h1 hf
        refine x_gets (Cn := "CandleConcert") (n := "VOICES") (d := "[C") C (CX_vo C) wd_1058 (fun _ h => h) dX9_isVoice_10 ?_
        refine x_iload_n C dX9_isVoice_13 rfl 1 rfl ?_
        obtain ⟨h2, hf⟩ := x_n hf
        refine x_stc (f := fun j => voT.getD j 0) C (CX_tvo C) h2 dX9_isVoice_14 ?_
        refine x_iload_n C dX9_isVoice_15 rfl 0 rfl ?_
        refine x_icmp_ne (tgt := 21) C dX9_isVoice_16 (by decide) (fun h3 => ?_) (fun h3 => ?_)
        · have hf := x_f h3 hf
          refine x_iinc (v := x1 + 1) (lv' := [(1, .int (x1 + 1)), (0, .int x0)]) C dX9_isVoice_21 1 rfl rfl (by decide) rfl ?_
          refine x_goto (tgt := 2) C dX9_isVoice_24 (by decide) ?_
          refine x_locals (lv' := [(0, .int x0), (1, .int (x1 + 1))]) [1, 0] rfl ?_
          exact ih x0 (x1 + 1) hf
        · have hf := x_t h3 hf
          refine x_iconst (v := 1) C dX9_isVoice_19 (by decide) ?_
          exact x_zret C hr rfl ⟨by cases hf; rfl, by cases hf; rfl⟩ dX9_isVoice_20
  refine x_iconst (v := 0) C dX9_isVoice_0 (by decide) ?_
  refine x_istore_n (lv' := [(1, .int (0 : Int32)), (0, .int x0)]) C dX9_isVoice_1 rfl (by decide) rfl ?_
  refine x_locals (lv' := [(0, .int x0), (1, .int (0 : Int32))]) [1, 0] rfl ?_
  exact hL2 xFuel x0 (0 : Int32) hf
theorem wd_25 : Cond.initialized RX9 ∈ xTB := xTB_in 25 (by decide +kernel) (by decide +kernel)
theorem wd_595 : Cond.fieldLink RX8 78 "CandleConcert$Refusal" "NOTHING" "LCandleConcert$Refusal;" ∈ xTB := xTB_in 595 (by decide +kernel) (by decide +kernel)
theorem wd_691 : Cond.fieldLink RX8 69 "CandleConcert$Refusal" "OUT_OF_RANGE" "LCandleConcert$Refusal;" ∈ xTB := xTB_in 691 (by decide +kernel) (by decide +kernel)
theorem wd_831 : Cond.fieldLink RX8 72 "CandleConcert$Candles" "count" "I" ∈ xTB := xTB_in 831 (by decide +kernel) (by decide +kernel)
theorem wd_1056 : Cond.static yX9_isVoice ∈ xTB := xTB_in 1056 (by decide +kernel) (by decide +kernel)
theorem wd_1057 : Cond.code yX9_isVoice cX9_isVoice 2 (some .boolean) ∈ xTB := xTB_in 1057 (by decide +kernel) (by decide +kernel)
theorem wd_1060 : Cond.fieldLink RX8 63 "CandleConcert$Refusal" "NO_SUCH_VOICE" "LCandleConcert$Refusal;" ∈ xTB := xTB_in 1060 (by decide +kernel) (by decide +kernel)
theorem wd_1062 : Cond.fieldLink RX8 75 "CandleConcert$Refusal" "TOO_MANY_CANDLES" "LCandleConcert$Refusal;" ∈ xTB := xTB_in 1062 (by decide +kernel) (by decide +kernel)
theorem dX8_refusalToAdd_0 : decode cX8_refusalToAdd 0 = .ok (.iload_n 1, 1) := by decide +kernel
theorem dX8_refusalToAdd_1 : decode cX8_refusalToAdd 1 = .ok (.invokestatic 59, 3) := by decide +kernel
theorem dX8_refusalToAdd_4 : decode cX8_refusalToAdd 4 = .ok (.ifCond .ne 7, 3) := by decide +kernel
theorem dX8_refusalToAdd_7 : decode cX8_refusalToAdd 7 = .ok (.getstatic 63, 3) := by decide +kernel
theorem dX8_refusalToAdd_10 : decode cX8_refusalToAdd 10 = .ok (.areturn, 1) := by decide +kernel
theorem dX8_refusalToAdd_11 : decode cX8_refusalToAdd 11 = .ok (.iload_n 2, 1) := by decide +kernel
theorem dX8_refusalToAdd_12 : decode cX8_refusalToAdd 12 = .ok (.iconst 1, 1) := by decide +kernel
theorem dX8_refusalToAdd_13 : decode cX8_refusalToAdd 13 = .ok (.if_icmp .lt 21, 3) := by decide +kernel
theorem dX8_refusalToAdd_16 : decode cX8_refusalToAdd 16 = .ok (.iload_n 2, 1) := by decide +kernel
theorem dX8_refusalToAdd_17 : decode cX8_refusalToAdd 17 = .ok (.sipush 999, 3) := by decide +kernel
theorem dX8_refusalToAdd_20 : decode cX8_refusalToAdd 20 = .ok (.if_icmp .gt 14, 3) := by decide +kernel
theorem dX8_refusalToAdd_23 : decode cX8_refusalToAdd 23 = .ok (.iload_n 3, 1) := by decide +kernel
theorem dX8_refusalToAdd_24 : decode cX8_refusalToAdd 24 = .ok (.iconst 1, 1) := by decide +kernel
theorem dX8_refusalToAdd_25 : decode cX8_refusalToAdd 25 = .ok (.if_icmp .lt 9, 3) := by decide +kernel
theorem dX8_refusalToAdd_28 : decode cX8_refusalToAdd 28 = .ok (.iload_n 3, 1) := by decide +kernel
theorem dX8_refusalToAdd_29 : decode cX8_refusalToAdd 29 = .ok (.bipush 9, 2) := by decide +kernel
theorem dX8_refusalToAdd_31 : decode cX8_refusalToAdd 31 = .ok (.if_icmp .le 7, 3) := by decide +kernel
theorem dX8_refusalToAdd_34 : decode cX8_refusalToAdd 34 = .ok (.getstatic 69, 3) := by decide +kernel
theorem dX8_refusalToAdd_37 : decode cX8_refusalToAdd 37 = .ok (.areturn, 1) := by decide +kernel
theorem dX8_refusalToAdd_38 : decode cX8_refusalToAdd 38 = .ok (.aload_n 0, 1) := by decide +kernel
theorem dX8_refusalToAdd_39 : decode cX8_refusalToAdd 39 = .ok (.getfield 12, 3) := by decide +kernel
theorem dX8_refusalToAdd_42 : decode cX8_refusalToAdd 42 = .ok (.getfield 72, 3) := by decide +kernel
theorem dX8_refusalToAdd_45 : decode cX8_refusalToAdd 45 = .ok (.bipush 10, 2) := by decide +kernel
theorem dX8_refusalToAdd_47 : decode cX8_refusalToAdd 47 = .ok (.if_icmp .lt 9, 3) := by decide +kernel
theorem dX8_refusalToAdd_50 : decode cX8_refusalToAdd 50 = .ok (.getstatic 75, 3) := by decide +kernel
theorem dX8_refusalToAdd_53 : decode cX8_refusalToAdd 53 = .ok (.goto 6, 3) := by decide +kernel
theorem dX8_refusalToAdd_56 : decode cX8_refusalToAdd 56 = .ok (.getstatic 78, 3) := by decide +kernel
theorem dX8_refusalToAdd_59 : decode cX8_refusalToAdd 59 = .ok (.areturn, 1) := by decide +kernel
set_option maxHeartbeats 4000000 in
set_option maxRecDepth 100000 in
theorem c_X8_refusalToAdd (g : xG) (l : Launch) (a : Nat → Nat) (o : Nat) (v : StS) (c : CdT) (x1 : Int32) (x2 : Int32) (x3 : Int32) {u : Nat} (hf : f_X8_refusalToAdd v c x1 x2 x3 = some u) : ConD g l yX8_refusalToAdd cX8_refusalToAdd 4 (some (.object "CandleConcert$Refusal")) ({ frames := 1, cells := 0, slots := 0, locals := 21 } : Room) [.ref (a (o + 0)), .int x1, .int x2, .int x3] [stO g a o v, cdW g a o c] (some (.ref (g.2.2 (100 + u)))) [stO g a o v, cdW g a o c] := by
  unfold f_X8_refusalToAdd at hf
  refine Con_of [stO g a o v, cdW g a o c] [(0, .ref (a (o + 0))), (1, .int x1), (2, .int x2), (3, .int x3)] rfl rfl (by decide) (Nat.le_of_ble_eq_true rfl) ?_
  intro pW eW sW mW argsW belowW methW c9 C hnm hr
  have C : CX g RX8 cX8_refusalToAdd 4 _ pW sW mW argsW methW c9 := C
  refine x_iload_n C dX8_refusalToAdd_0 rfl 1 rfl ?_
  obtain ⟨u1, hu1, hf⟩ := x_b hf
  refine x_callSN (n := 1) (host := "CandleConcert") (As := [.int x1]) (rest := []) C (c_X9_isVoice g l x1 hu1) ⟨⟨wd_1057, (by decide), wd_25⟩, ⟨by decide, by decide, by decide⟩, rfl, rfl, Nat.le_of_ble_eq_true rfl, Nat.le_of_ble_eq_true rfl⟩ wd_1056 [stO g a o v, cdW g a o c] (x_pickD [0, 1] 2 rfl rfl rfl) rfl rfl (Nat.le_of_ble_eq_true rfl) ⟨Nat.le_of_ble_eq_true rfl, Nat.le_of_ble_eq_true rfl⟩ dX8_refusalToAdd_1 (x_goD (wss2 := [stO g a o v, cdW g a o c]) (stk2 := [.int u1]) rfl rfl ?_)
  refine x_if_ne (tgt := 11) C dX8_refusalToAdd_4 (by decide) (fun h2 => ?_) (fun h2 => ?_)
  · have hf := x_f h2 hf
    refine x_iload_n C dX8_refusalToAdd_11 rfl 2 rfl ?_
    refine x_iconst (v := 1) C dX8_refusalToAdd_12 (by decide) ?_
    refine x_icmp_lt (tgt := 34) C dX8_refusalToAdd_13 (by decide) (fun h3 => ?_) (fun h3 => ?_)
    · have hf := x_t h3 hf
      refine x_gets (Cn := "CandleConcert$Refusal") (n := "OUT_OF_RANGE") (d := "LCandleConcert$Refusal;") C (CX_enR C 2 (by decide)) wd_691 (fun _ h => h) dX8_refusalToAdd_34 ?_
      exact x_aret C hr (Or.inl ⟨_, rfl⟩) ⟨by cases hf; rfl, by cases hf; rfl⟩ dX8_refusalToAdd_37
    · have hf := x_f h3 hf
      refine x_iload_n C dX8_refusalToAdd_16 rfl 2 rfl ?_
      refine x_sipush (v := 999) C dX8_refusalToAdd_17 (by decide) ?_
      refine x_icmp_gt (tgt := 34) C dX8_refusalToAdd_20 (by decide) (fun h4 => ?_) (fun h4 => ?_)
      · have hf := x_t h4 hf
        refine x_gets (Cn := "CandleConcert$Refusal") (n := "OUT_OF_RANGE") (d := "LCandleConcert$Refusal;") C (CX_enR C 2 (by decide)) wd_691 (fun _ h => h) dX8_refusalToAdd_34 ?_
        exact x_aret C hr (Or.inl ⟨_, rfl⟩) ⟨by cases hf; rfl, by cases hf; rfl⟩ dX8_refusalToAdd_37
      · have hf := x_f h4 hf
        refine x_iload_n C dX8_refusalToAdd_23 rfl 3 rfl ?_
        refine x_iconst (v := 1) C dX8_refusalToAdd_24 (by decide) ?_
        refine x_icmp_lt (tgt := 34) C dX8_refusalToAdd_25 (by decide) (fun h5 => ?_) (fun h5 => ?_)
        · have hf := x_t h5 hf
          refine x_gets (Cn := "CandleConcert$Refusal") (n := "OUT_OF_RANGE") (d := "LCandleConcert$Refusal;") C (CX_enR C 2 (by decide)) wd_691 (fun _ h => h) dX8_refusalToAdd_34 ?_
          exact x_aret C hr (Or.inl ⟨_, rfl⟩) ⟨by cases hf; rfl, by cases hf; rfl⟩ dX8_refusalToAdd_37
        · have hf := x_f h5 hf
          refine x_iload_n C dX8_refusalToAdd_28 rfl 3 rfl ?_
          refine x_bipush (v := 9) C dX8_refusalToAdd_29 (by decide) ?_
          refine x_icmp_le (tgt := 38) C dX8_refusalToAdd_31 (by decide) (fun h6 => ?_) (fun h6 => ?_)
          · have hf := x_t h6 hf
            refine x_aload_n C dX8_refusalToAdd_38 rfl 0 rfl ?_
            refine x_get (ci := 9) (v := .ref (a (o + 1))) (b := stO g a o v) C ixX8 rfl 0 (by decide) wd_873 (fun _ h => h) 0 rfl 0 (stO_at0 g a o _) rfl dX8_refusalToAdd_39 ?_
            refine x_get (ci := 4) (v := .int c.2.2.2.2) (b := cdW g a o c) C ixX1 rfl 4 (by decide) wd_831 (fun _ h => h) 1 rfl 0 (cdW_at0 g a o _) rfl dX8_refusalToAdd_42 ?_
            refine x_bipush (v := 10) C dX8_refusalToAdd_45 (by decide) ?_
            refine x_icmp_lt (tgt := 56) C dX8_refusalToAdd_47 (by decide) (fun h7 => ?_) (fun h7 => ?_)
            · have hf := x_t h7 hf
              refine x_gets (Cn := "CandleConcert$Refusal") (n := "NOTHING") (d := "LCandleConcert$Refusal;") C (CX_enR C 0 (by decide)) wd_595 (fun _ h => h) dX8_refusalToAdd_56 ?_
              exact x_aret C hr (Or.inl ⟨_, rfl⟩) ⟨by cases hf; rfl, by cases hf; rfl⟩ dX8_refusalToAdd_59
            · have hf := x_f h7 hf
              refine x_gets (Cn := "CandleConcert$Refusal") (n := "TOO_MANY_CANDLES") (d := "LCandleConcert$Refusal;") C (CX_enR C 4 (by decide)) wd_1062 (fun _ h => h) dX8_refusalToAdd_50 ?_
              refine x_goto (tgt := 59) C dX8_refusalToAdd_53 (by decide) ?_
              exact x_aret C hr (Or.inl ⟨_, rfl⟩) ⟨by cases hf; rfl, by cases hf; rfl⟩ dX8_refusalToAdd_59
          · have hf := x_f h6 hf
            refine x_gets (Cn := "CandleConcert$Refusal") (n := "OUT_OF_RANGE") (d := "LCandleConcert$Refusal;") C (CX_enR C 2 (by decide)) wd_691 (fun _ h => h) dX8_refusalToAdd_34 ?_
            exact x_aret C hr (Or.inl ⟨_, rfl⟩) ⟨by cases hf; rfl, by cases hf; rfl⟩ dX8_refusalToAdd_37
  · have hf := x_t h2 hf
    refine x_gets (Cn := "CandleConcert$Refusal") (n := "NO_SUCH_VOICE") (d := "LCandleConcert$Refusal;") C (CX_enR C 1 (by decide)) wd_1060 (fun _ h => h) dX8_refusalToAdd_7 ?_
    exact x_aret C hr (Or.inl ⟨_, rfl⟩) ⟨by cases hf; rfl, by cases hf; rfl⟩ dX8_refusalToAdd_10
theorem wd_820 : Cond.fieldLink RX8 81 "CandleConcert$Candles" "voice" "[C" ∈ xTB := xTB_in 820 (by decide +kernel) (by decide +kernel)
theorem wd_823 : Cond.fieldLink RX8 85 "CandleConcert$Candles" "wax" "[I" ∈ xTB := xTB_in 823 (by decide +kernel) (by decide +kernel)
theorem wd_826 : Cond.fieldLink RX8 89 "CandleConcert$Candles" "rate" "[I" ∈ xTB := xTB_in 826 (by decide +kernel) (by decide +kernel)
theorem wd_828 : Cond.fieldLink RX8 92 "CandleConcert$Candles" "lit" "[Z" ∈ xTB := xTB_in 828 (by decide +kernel) (by decide +kernel)
theorem dX8_addNewCandle_0 : decode cX8_addNewCandle 0 = .ok (.aload_n 0, 1) := by decide +kernel
theorem dX8_addNewCandle_1 : decode cX8_addNewCandle 1 = .ok (.getfield 12, 3) := by decide +kernel
theorem dX8_addNewCandle_4 : decode cX8_addNewCandle 4 = .ok (.getfield 72, 3) := by decide +kernel
theorem dX8_addNewCandle_7 : decode cX8_addNewCandle 7 = .ok (.istore 4, 2) := by decide +kernel
theorem dX8_addNewCandle_9 : decode cX8_addNewCandle 9 = .ok (.iload 4, 2) := by decide +kernel
theorem dX8_addNewCandle_11 : decode cX8_addNewCandle 11 = .ok (.bipush 10, 2) := by decide +kernel
theorem dX8_addNewCandle_13 : decode cX8_addNewCandle 13 = .ok (.if_icmp .lt 5, 3) := by decide +kernel
theorem dX8_addNewCandle_16 : decode cX8_addNewCandle 16 = .ok (.iconst (-1), 1) := by decide +kernel
theorem dX8_addNewCandle_17 : decode cX8_addNewCandle 17 = .ok (.ireturn, 1) := by decide +kernel
theorem dX8_addNewCandle_18 : decode cX8_addNewCandle 18 = .ok (.aload_n 0, 1) := by decide +kernel
theorem dX8_addNewCandle_19 : decode cX8_addNewCandle 19 = .ok (.getfield 12, 3) := by decide +kernel
theorem dX8_addNewCandle_22 : decode cX8_addNewCandle 22 = .ok (.getfield 81, 3) := by decide +kernel
theorem dX8_addNewCandle_25 : decode cX8_addNewCandle 25 = .ok (.iload 4, 2) := by decide +kernel
theorem dX8_addNewCandle_27 : decode cX8_addNewCandle 27 = .ok (.iload_n 1, 1) := by decide +kernel
theorem dX8_addNewCandle_28 : decode cX8_addNewCandle 28 = .ok (.castore, 1) := by decide +kernel
theorem dX8_addNewCandle_29 : decode cX8_addNewCandle 29 = .ok (.aload_n 0, 1) := by decide +kernel
theorem dX8_addNewCandle_30 : decode cX8_addNewCandle 30 = .ok (.getfield 12, 3) := by decide +kernel
theorem dX8_addNewCandle_33 : decode cX8_addNewCandle 33 = .ok (.getfield 85, 3) := by decide +kernel
theorem dX8_addNewCandle_36 : decode cX8_addNewCandle 36 = .ok (.iload 4, 2) := by decide +kernel
theorem dX8_addNewCandle_38 : decode cX8_addNewCandle 38 = .ok (.iload_n 2, 1) := by decide +kernel
theorem dX8_addNewCandle_39 : decode cX8_addNewCandle 39 = .ok (.iastore, 1) := by decide +kernel
theorem dX8_addNewCandle_40 : decode cX8_addNewCandle 40 = .ok (.aload_n 0, 1) := by decide +kernel
theorem dX8_addNewCandle_41 : decode cX8_addNewCandle 41 = .ok (.getfield 12, 3) := by decide +kernel
theorem dX8_addNewCandle_44 : decode cX8_addNewCandle 44 = .ok (.getfield 89, 3) := by decide +kernel
theorem dX8_addNewCandle_47 : decode cX8_addNewCandle 47 = .ok (.iload 4, 2) := by decide +kernel
theorem dX8_addNewCandle_49 : decode cX8_addNewCandle 49 = .ok (.iload_n 3, 1) := by decide +kernel
theorem dX8_addNewCandle_50 : decode cX8_addNewCandle 50 = .ok (.iastore, 1) := by decide +kernel
theorem dX8_addNewCandle_51 : decode cX8_addNewCandle 51 = .ok (.aload_n 0, 1) := by decide +kernel
theorem dX8_addNewCandle_52 : decode cX8_addNewCandle 52 = .ok (.getfield 12, 3) := by decide +kernel
theorem dX8_addNewCandle_55 : decode cX8_addNewCandle 55 = .ok (.getfield 92, 3) := by decide +kernel
theorem dX8_addNewCandle_58 : decode cX8_addNewCandle 58 = .ok (.iload 4, 2) := by decide +kernel
theorem dX8_addNewCandle_60 : decode cX8_addNewCandle 60 = .ok (.iconst 0, 1) := by decide +kernel
theorem dX8_addNewCandle_61 : decode cX8_addNewCandle 61 = .ok (.bastore, 1) := by decide +kernel
theorem dX8_addNewCandle_62 : decode cX8_addNewCandle 62 = .ok (.aload_n 0, 1) := by decide +kernel
theorem dX8_addNewCandle_63 : decode cX8_addNewCandle 63 = .ok (.getfield 12, 3) := by decide +kernel
theorem dX8_addNewCandle_66 : decode cX8_addNewCandle 66 = .ok (.dup, 1) := by decide +kernel
theorem dX8_addNewCandle_67 : decode cX8_addNewCandle 67 = .ok (.getfield 72, 3) := by decide +kernel
theorem dX8_addNewCandle_70 : decode cX8_addNewCandle 70 = .ok (.iconst 1, 1) := by decide +kernel
theorem dX8_addNewCandle_71 : decode cX8_addNewCandle 71 = .ok (.iadd, 1) := by decide +kernel
theorem dX8_addNewCandle_72 : decode cX8_addNewCandle 72 = .ok (.putfield 72, 3) := by decide +kernel
theorem dX8_addNewCandle_75 : decode cX8_addNewCandle 75 = .ok (.aload_n 0, 1) := by decide +kernel
theorem dX8_addNewCandle_76 : decode cX8_addNewCandle 76 = .ok (.dup, 1) := by decide +kernel
theorem dX8_addNewCandle_77 : decode cX8_addNewCandle 77 = .ok (.getfield 38, 3) := by decide +kernel
theorem dX8_addNewCandle_80 : decode cX8_addNewCandle 80 = .ok (.iload_n 2, 1) := by decide +kernel
theorem dX8_addNewCandle_81 : decode cX8_addNewCandle 81 = .ok (.i2l, 1) := by decide +kernel
theorem dX8_addNewCandle_82 : decode cX8_addNewCandle 82 = .ok (.ladd, 1) := by decide +kernel
theorem dX8_addNewCandle_83 : decode cX8_addNewCandle 83 = .ok (.putfield 38, 3) := by decide +kernel
theorem dX8_addNewCandle_86 : decode cX8_addNewCandle 86 = .ok (.iload 4, 2) := by decide +kernel
theorem dX8_addNewCandle_88 : decode cX8_addNewCandle 88 = .ok (.ireturn, 1) := by decide +kernel
set_option maxHeartbeats 4000000 in
set_option maxRecDepth 100000 in
theorem c_X8_addNewCandle (g : xG) (l : Launch) (a : Nat → Nat) (o : Nat) (v : StS) (c : CdT) (x1 : Int32) (x2 : Int32) (x3 : Int32) {u : Int32 × StS × CdT} (hf : f_X8_addNewCandle v c x1 x2 x3 = some u) : ConD g l yX8_addNewCandle cX8_addNewCandle 5 (some .int) ({ frames := 0, cells := 0, slots := 0, locals := 0 } : Room) [.ref (a (o + 0)), .int x1, .int x2, .int x3] [stO g a o v, cdW g a o c] (some (.int u.1)) [stO g a o u.2.1, cdW g a o u.2.2] := by
  unfold f_X8_addNewCandle at hf
  refine Con_of [stO g a o v, cdW g a o c] [(0, .ref (a (o + 0))), (1, .int x1), (2, .int x2), (3, .int x3)] rfl rfl (by decide) (Nat.le_of_ble_eq_true rfl) ?_
  intro pW eW sW mW argsW belowW methW c9 C hnm hr
  have C : CX g RX8 cX8_addNewCandle 5 _ pW sW mW argsW methW c9 := C
  refine x_aload_n C dX8_addNewCandle_0 rfl 0 rfl ?_
  refine x_get (ci := 9) (v := .ref (a (o + 1))) (b := stO g a o v) C ixX8 rfl 0 (by decide) wd_873 (fun _ h => h) 0 rfl 0 (stO_at0 g a o _) rfl dX8_addNewCandle_1 ?_
  refine x_get (ci := 4) (v := .int c.2.2.2.2) (b := cdW g a o c) C ixX1 rfl 4 (by decide) wd_831 (fun _ h => h) 1 rfl 0 (cdW_at0 g a o _) rfl dX8_addNewCandle_4 ?_
  refine x_istore (lv' := [(4, .int c.2.2.2.2), (0, .ref (a (o + 0))), (1, .int x1), (2, .int x2), (3, .int x3)]) C dX8_addNewCandle_7 (by decide) rfl ?_
  refine x_iload C dX8_addNewCandle_9 0 rfl ?_
  refine x_bipush (v := 10) C dX8_addNewCandle_11 (by decide) ?_
  refine x_icmp_lt (tgt := 18) C dX8_addNewCandle_13 (by decide) (fun h1 => ?_) (fun h1 => ?_)
  · have hf := x_t h1 hf
    refine x_aload_n C dX8_addNewCandle_18 rfl 1 rfl ?_
    refine x_get (ci := 9) (v := .ref (a (o + 1))) (b := stO g a o v) C ixX8 rfl 0 (by decide) wd_873 (fun _ h => h) 0 rfl 0 (stO_at0 g a o _) rfl dX8_addNewCandle_19 ?_
    refine x_get (ci := 4) (v := .ref (a (o + 2))) (b := cdW g a o c) C ixX1 rfl 0 (by decide) wd_820 (fun _ h => h) 1 rfl 0 (cdW_at0 g a o _) rfl dX8_addNewCandle_22 ?_
    refine x_iload C dX8_addNewCandle_25 0 rfl ?_
    refine x_iload_n C dX8_addNewCandle_27 rfl 2 rfl ?_
    obtain ⟨h2, hf⟩ := x_n hf
    refine x_cast (b := cdW g a o c) (b' := cdW g a o (upd c.1 c.2.2.2.2.toNatClampNeg (vp_nar .char x1), c.2.1, c.2.2.1, c.2.2.2.1, c.2.2.2.2)) (wss' := [stO g a o v, cdW g a o (upd c.1 c.2.2.2.2.toNatClampNeg (vp_nar .char x1), c.2.1, c.2.2.1, c.2.2.2.1, c.2.2.2.2)]) C 1 rfl 1 (cdW_at1 g a o _) h2 rfl rfl dX8_addNewCandle_28 ?_
    refine x_aload_n C dX8_addNewCandle_29 rfl 1 rfl ?_
    refine x_get (ci := 9) (v := .ref (a (o + 1))) (b := stO g a o v) C ixX8 rfl 0 (by decide) wd_873 (fun _ h => h) 0 rfl 0 (stO_at0 g a o _) rfl dX8_addNewCandle_30 ?_
    refine x_get (ci := 4) (v := .ref (a (o + 3))) (b := cdW g a o (upd c.1 c.2.2.2.2.toNatClampNeg (vp_nar .char x1), c.2.1, c.2.2.1, c.2.2.2.1, c.2.2.2.2)) C ixX1 rfl 1 (by decide) wd_823 (fun _ h => h) 1 rfl 0 (cdW_at0 g a o _) rfl dX8_addNewCandle_33 ?_
    refine x_iload C dX8_addNewCandle_36 0 rfl ?_
    refine x_iload_n C dX8_addNewCandle_38 rfl 3 rfl ?_
    obtain ⟨h3, hf⟩ := x_n hf
    refine x_iast (b := cdW g a o (upd c.1 c.2.2.2.2.toNatClampNeg (vp_nar .char x1), c.2.1, c.2.2.1, c.2.2.2.1, c.2.2.2.2)) (b' := cdW g a o (upd c.1 c.2.2.2.2.toNatClampNeg (vp_nar .char x1), upd c.2.1 c.2.2.2.2.toNatClampNeg x2, c.2.2.1, c.2.2.2.1, c.2.2.2.2)) (wss' := [stO g a o v, cdW g a o (upd c.1 c.2.2.2.2.toNatClampNeg (vp_nar .char x1), upd c.2.1 c.2.2.2.2.toNatClampNeg x2, c.2.2.1, c.2.2.2.1, c.2.2.2.2)]) C 1 rfl 2 (cdW_at2 g a o _) h3 rfl rfl dX8_addNewCandle_39 ?_
    refine x_aload_n C dX8_addNewCandle_40 rfl 1 rfl ?_
    refine x_get (ci := 9) (v := .ref (a (o + 1))) (b := stO g a o v) C ixX8 rfl 0 (by decide) wd_873 (fun _ h => h) 0 rfl 0 (stO_at0 g a o _) rfl dX8_addNewCandle_41 ?_
    refine x_get (ci := 4) (v := .ref (a (o + 4))) (b := cdW g a o (upd c.1 c.2.2.2.2.toNatClampNeg (vp_nar .char x1), upd c.2.1 c.2.2.2.2.toNatClampNeg x2, c.2.2.1, c.2.2.2.1, c.2.2.2.2)) C ixX1 rfl 2 (by decide) wd_826 (fun _ h => h) 1 rfl 0 (cdW_at0 g a o _) rfl dX8_addNewCandle_44 ?_
    refine x_iload C dX8_addNewCandle_47 0 rfl ?_
    refine x_iload_n C dX8_addNewCandle_49 rfl 4 rfl ?_
    obtain ⟨h4, hf⟩ := x_n hf
    refine x_iast (b := cdW g a o (upd c.1 c.2.2.2.2.toNatClampNeg (vp_nar .char x1), upd c.2.1 c.2.2.2.2.toNatClampNeg x2, c.2.2.1, c.2.2.2.1, c.2.2.2.2)) (b' := cdW g a o (upd c.1 c.2.2.2.2.toNatClampNeg (vp_nar .char x1), upd c.2.1 c.2.2.2.2.toNatClampNeg x2, upd c.2.2.1 c.2.2.2.2.toNatClampNeg x3, c.2.2.2.1, c.2.2.2.2)) (wss' := [stO g a o v, cdW g a o (upd c.1 c.2.2.2.2.toNatClampNeg (vp_nar .char x1), upd c.2.1 c.2.2.2.2.toNatClampNeg x2, upd c.2.2.1 c.2.2.2.2.toNatClampNeg x3, c.2.2.2.1, c.2.2.2.2)]) C 1 rfl 3 (cdW_at3 g a o _) h4 rfl rfl dX8_addNewCandle_50 ?_
    refine x_aload_n C dX8_addNewCandle_51 rfl 1 rfl ?_
    refine x_get (ci := 9) (v := .ref (a (o + 1))) (b := stO g a o v) C ixX8 rfl 0 (by decide) wd_873 (fun _ h => h) 0 rfl 0 (stO_at0 g a o _) rfl dX8_addNewCandle_52 ?_
    refine x_get (ci := 4) (v := .ref (a (o + 5))) (b := cdW g a o (upd c.1 c.2.2.2.2.toNatClampNeg (vp_nar .char x1), upd c.2.1 c.2.2.2.2.toNatClampNeg x2, upd c.2.2.1 c.2.2.2.2.toNatClampNeg x3, c.2.2.2.1, c.2.2.2.2)) C ixX1 rfl 3 (by decide) wd_828 (fun _ h => h) 1 rfl 0 (cdW_at0 g a o _) rfl dX8_addNewCandle_55 ?_
    refine x_iload C dX8_addNewCandle_58 0 rfl ?_
    refine x_iconst (v := 0) C dX8_addNewCandle_60 (by decide) ?_
    obtain ⟨h5, hf⟩ := x_n hf
    refine x_zast (b := cdW g a o (upd c.1 c.2.2.2.2.toNatClampNeg (vp_nar .char x1), upd c.2.1 c.2.2.2.2.toNatClampNeg x2, upd c.2.2.1 c.2.2.2.2.toNatClampNeg x3, c.2.2.2.1, c.2.2.2.2)) (b' := cdW g a o (upd c.1 c.2.2.2.2.toNatClampNeg (vp_nar .char x1), upd c.2.1 c.2.2.2.2.toNatClampNeg x2, upd c.2.2.1 c.2.2.2.2.toNatClampNeg x3, upd c.2.2.2.1 c.2.2.2.2.toNatClampNeg (vp_nar .boolean (0 : Int32)), c.2.2.2.2)) (wss' := [stO g a o v, cdW g a o (upd c.1 c.2.2.2.2.toNatClampNeg (vp_nar .char x1), upd c.2.1 c.2.2.2.2.toNatClampNeg x2, upd c.2.2.1 c.2.2.2.2.toNatClampNeg x3, upd c.2.2.2.1 c.2.2.2.2.toNatClampNeg (vp_nar .boolean (0 : Int32)), c.2.2.2.2)]) C 1 rfl 4 (cdW_at4 g a o _) h5 rfl rfl dX8_addNewCandle_61 ?_
    refine x_aload_n C dX8_addNewCandle_62 rfl 1 rfl ?_
    refine x_get (ci := 9) (v := .ref (a (o + 1))) (b := stO g a o v) C ixX8 rfl 0 (by decide) wd_873 (fun _ h => h) 0 rfl 0 (stO_at0 g a o _) rfl dX8_addNewCandle_63 ?_
    refine x_dup C dX8_addNewCandle_66 rfl ?_
    refine x_get (ci := 4) (v := .int c.2.2.2.2) (b := cdW g a o (upd c.1 c.2.2.2.2.toNatClampNeg (vp_nar .char x1), upd c.2.1 c.2.2.2.2.toNatClampNeg x2, upd c.2.2.1 c.2.2.2.2.toNatClampNeg x3, upd c.2.2.2.1 c.2.2.2.2.toNatClampNeg (vp_nar .boolean (0 : Int32)), c.2.2.2.2)) C ixX1 rfl 4 (by decide) wd_831 (fun _ h => h) 1 rfl 0 (cdW_at0 g a o _) rfl dX8_addNewCandle_67 ?_
    refine x_iconst (v := 1) C dX8_addNewCandle_70 (by decide) ?_
    refine x_iadd C dX8_addNewCandle_71 ?_
    refine x_put (ci := 4) (ty := .int) (v := .int (c.2.2.2.2 + (1 : Int32))) (b := cdW g a o (upd c.1 c.2.2.2.2.toNatClampNeg (vp_nar .char x1), upd c.2.1 c.2.2.2.2.toNatClampNeg x2, upd c.2.2.1 c.2.2.2.2.toNatClampNeg x3, upd c.2.2.2.1 c.2.2.2.2.toNatClampNeg (vp_nar .boolean (0 : Int32)), c.2.2.2.2)) (b' := cdW g a o (upd c.1 c.2.2.2.2.toNatClampNeg (vp_nar .char x1), upd c.2.1 c.2.2.2.2.toNatClampNeg x2, upd c.2.2.1 c.2.2.2.2.toNatClampNeg x3, upd c.2.2.2.1 c.2.2.2.2.toNatClampNeg (vp_nar .boolean (0 : Int32)), c.2.2.2.2 + (1 : Int32))) (wss' := [stO g a o v, cdW g a o (upd c.1 c.2.2.2.2.toNatClampNeg (vp_nar .char x1), upd c.2.1 c.2.2.2.2.toNatClampNeg x2, upd c.2.2.1 c.2.2.2.2.toNatClampNeg x3, upd c.2.2.2.1 c.2.2.2.2.toNatClampNeg (vp_nar .boolean (0 : Int32)), c.2.2.2.2 + (1 : Int32))]) C ixX1 tyX1 tyX1_ok nmX1 rfl 4 (by decide) wd_831 (fun _ h => h) rfl (tyX1_ok 4 (by decide)) rfl rfl 1 rfl 0 (cdW_at0 g a o _) (Nat.le_of_ble_eq_true rfl) rfl rfl dX8_addNewCandle_72 ?_
    refine x_aload_n C dX8_addNewCandle_75 rfl 1 rfl ?_
    refine x_dup C dX8_addNewCandle_76 rfl ?_
    refine x_get (ci := 9) (v := .long v.2.2.2.2.1) (b := stO g a o v) C ixX8 rfl 6 (by decide) wd_885 (fun _ h => h) 0 rfl 0 (stO_at0 g a o _) rfl dX8_addNewCandle_77 ?_
    refine x_iload_n C dX8_addNewCandle_80 rfl 3 rfl ?_
    refine x_i2l C dX8_addNewCandle_81 rfl ?_
    refine x_ladd C dX8_addNewCandle_82 ?_
    refine x_put (ci := 9) (ty := .long) (v := .long (v.2.2.2.2.1 + x2.toInt64)) (b := stO g a o v) (b' := stO g a o (v.1, v.2.1, v.2.2.1, v.2.2.2.1, v.2.2.2.2.1 + x2.toInt64, v.2.2.2.2.2.1, v.2.2.2.2.2.2.1, v.2.2.2.2.2.2.2)) (wss' := [stO g a o (v.1, v.2.1, v.2.2.1, v.2.2.2.1, v.2.2.2.2.1 + x2.toInt64, v.2.2.2.2.2.1, v.2.2.2.2.2.2.1, v.2.2.2.2.2.2.2), cdW g a o (upd c.1 c.2.2.2.2.toNatClampNeg (vp_nar .char x1), upd c.2.1 c.2.2.2.2.toNatClampNeg x2, upd c.2.2.1 c.2.2.2.2.toNatClampNeg x3, upd c.2.2.2.1 c.2.2.2.2.toNatClampNeg (vp_nar .boolean (0 : Int32)), c.2.2.2.2 + (1 : Int32))]) C ixX8 tyX8 tyX8_ok nmX8 rfl 6 (by decide) wd_885 (fun _ h => h) rfl (tyX8_ok 6 (by decide)) rfl rfl 0 rfl 0 (stO_at0 g a o _) (Nat.le_of_ble_eq_true rfl) rfl rfl dX8_addNewCandle_83 ?_
    refine x_iload C dX8_addNewCandle_86 0 rfl ?_
    exact x_iret C hr ⟨by cases hf; rfl, by cases hf; rfl⟩ dX8_addNewCandle_88
  · have hf := x_f h1 hf
    refine x_iconst (v := (-1)) C dX8_addNewCandle_16 (by decide) ?_
    exact x_iret C hr ⟨by cases hf; rfl, by cases hf; rfl⟩ dX8_addNewCandle_17
theorem wd_68 : Cond.instanceMethod yX1_has ∈ xTB := xTB_in 68 (by decide +kernel) (by decide +kernel)
theorem wd_69 : Cond.selects yX1_has.cls yX1_has yX1_has ∈ xTB := xTB_in 69 (by decide +kernel) (by decide +kernel)
theorem wd_70 : Cond.code yX1_has cX1_has 2 (some .boolean) ∈ xTB := xTB_in 70 (by decide +kernel) (by decide +kernel)
theorem wd_195 : Cond.methodLink RX8 96 yX1_has ∈ xTB := xTB_in 195 (by decide +kernel) (by decide +kernel)
theorem wd_589 : Cond.fieldLink RX8 100 "CandleConcert$Refusal" "NO_SUCH_CANDLE" "LCandleConcert$Refusal;" ∈ xTB := xTB_in 589 (by decide +kernel) (by decide +kernel)
theorem wd_591 : Cond.fieldLink RX8 103 "CandleConcert$Refusal" "IS_LIT" "LCandleConcert$Refusal;" ∈ xTB := xTB_in 591 (by decide +kernel) (by decide +kernel)
theorem wd_593 : Cond.fieldLink RX8 106 "CandleConcert$Refusal" "NO_WAX" "LCandleConcert$Refusal;" ∈ xTB := xTB_in 593 (by decide +kernel) (by decide +kernel)
theorem dX8_refusalToLight_0 : decode cX8_refusalToLight 0 = .ok (.aload_n 0, 1) := by decide +kernel
theorem dX8_refusalToLight_1 : decode cX8_refusalToLight 1 = .ok (.getfield 12, 3) := by decide +kernel
theorem dX8_refusalToLight_4 : decode cX8_refusalToLight 4 = .ok (.iload_n 1, 1) := by decide +kernel
theorem dX8_refusalToLight_5 : decode cX8_refusalToLight 5 = .ok (.invokevirtual 96, 3) := by decide +kernel
theorem dX8_refusalToLight_8 : decode cX8_refusalToLight 8 = .ok (.ifCond .ne 7, 3) := by decide +kernel
theorem dX8_refusalToLight_11 : decode cX8_refusalToLight 11 = .ok (.getstatic 100, 3) := by decide +kernel
theorem dX8_refusalToLight_14 : decode cX8_refusalToLight 14 = .ok (.areturn, 1) := by decide +kernel
theorem dX8_refusalToLight_15 : decode cX8_refusalToLight 15 = .ok (.aload_n 0, 1) := by decide +kernel
theorem dX8_refusalToLight_16 : decode cX8_refusalToLight 16 = .ok (.getfield 12, 3) := by decide +kernel
theorem dX8_refusalToLight_19 : decode cX8_refusalToLight 19 = .ok (.getfield 92, 3) := by decide +kernel
theorem dX8_refusalToLight_22 : decode cX8_refusalToLight 22 = .ok (.iload_n 1, 1) := by decide +kernel
theorem dX8_refusalToLight_23 : decode cX8_refusalToLight 23 = .ok (.baload, 1) := by decide +kernel
theorem dX8_refusalToLight_24 : decode cX8_refusalToLight 24 = .ok (.ifCond .eq 7, 3) := by decide +kernel
theorem dX8_refusalToLight_27 : decode cX8_refusalToLight 27 = .ok (.getstatic 103, 3) := by decide +kernel
theorem dX8_refusalToLight_30 : decode cX8_refusalToLight 30 = .ok (.areturn, 1) := by decide +kernel
theorem dX8_refusalToLight_31 : decode cX8_refusalToLight 31 = .ok (.aload_n 0, 1) := by decide +kernel
theorem dX8_refusalToLight_32 : decode cX8_refusalToLight 32 = .ok (.getfield 12, 3) := by decide +kernel
theorem dX8_refusalToLight_35 : decode cX8_refusalToLight 35 = .ok (.getfield 85, 3) := by decide +kernel
theorem dX8_refusalToLight_38 : decode cX8_refusalToLight 38 = .ok (.iload_n 1, 1) := by decide +kernel
theorem dX8_refusalToLight_39 : decode cX8_refusalToLight 39 = .ok (.iaload, 1) := by decide +kernel
theorem dX8_refusalToLight_40 : decode cX8_refusalToLight 40 = .ok (.ifCond .ne 9, 3) := by decide +kernel
theorem dX8_refusalToLight_43 : decode cX8_refusalToLight 43 = .ok (.getstatic 106, 3) := by decide +kernel
theorem dX8_refusalToLight_46 : decode cX8_refusalToLight 46 = .ok (.goto 6, 3) := by decide +kernel
theorem dX8_refusalToLight_49 : decode cX8_refusalToLight 49 = .ok (.getstatic 78, 3) := by decide +kernel
theorem dX8_refusalToLight_52 : decode cX8_refusalToLight 52 = .ok (.areturn, 1) := by decide +kernel
set_option maxHeartbeats 4000000 in
set_option maxRecDepth 100000 in
theorem c_X8_refusalToLight (g : xG) (l : Launch) (a : Nat → Nat) (o : Nat) (v : StS) (c : CdT) (x1 : Int32) {u : Nat} (hf : f_X8_refusalToLight v c x1 = some u) : ConD g l yX8_refusalToLight cX8_refusalToLight 2 (some (.object "CandleConcert$Refusal")) ({ frames := 1, cells := 0, slots := 0, locals := 21 } : Room) [.ref (a (o + 0)), .int x1] [stO g a o v, cdW g a o c] (some (.ref (g.2.2 (100 + u)))) [stO g a o v, cdW g a o c] := by
  unfold f_X8_refusalToLight at hf
  refine Con_of [stO g a o v, cdW g a o c] [(0, .ref (a (o + 0))), (1, .int x1)] rfl rfl (by decide) (Nat.le_of_ble_eq_true rfl) ?_
  intro pW eW sW mW argsW belowW methW c9 C hnm hr
  have C : CX g RX8 cX8_refusalToLight 2 _ pW sW mW argsW methW c9 := C
  refine x_aload_n C dX8_refusalToLight_0 rfl 0 rfl ?_
  refine x_get (ci := 9) (v := .ref (a (o + 1))) (b := stO g a o v) C ixX8 rfl 0 (by decide) wd_873 (fun _ h => h) 0 rfl 0 (stO_at0 g a o _) rfl dX8_refusalToLight_1 ?_
  refine x_iload_n C dX8_refusalToLight_4 rfl 1 rfl ?_
  obtain ⟨u1, hu1, hf⟩ := x_b hf
  refine x_callV (n := 1) (As := [.int x1]) (rest := []) C (c_X1_has g l a o c x1 hu1) ⟨⟨wd_70, wd_195, wd_27⟩, ⟨by decide, by decide, by decide⟩, rfl, rfl, Nat.le_of_ble_eq_true rfl, Nat.le_of_ble_eq_true rfl⟩ wd_68 wd_69 ⟨0, 4, _, _, rfl, rfl, rfl⟩ [stO g a o v] (x_pickD [1, 0] 2 rfl rfl rfl) rfl rfl (Nat.le_of_ble_eq_true rfl) ⟨Nat.le_of_ble_eq_true rfl, Nat.le_of_ble_eq_true rfl⟩ dX8_refusalToLight_5 (x_goD (wss2 := [cdW g a o c, stO g a o v]) (stk2 := [.int u1]) rfl rfl ?_)
  refine x_if_ne (tgt := 15) C dX8_refusalToLight_8 (by decide) (fun h2 => ?_) (fun h2 => ?_)
  · have hf := x_f h2 hf
    refine x_aload_n C dX8_refusalToLight_15 rfl 0 rfl ?_
    refine x_get (ci := 9) (v := .ref (a (o + 1))) (b := stO g a o v) C ixX8 rfl 0 (by decide) wd_873 (fun _ h => h) 1 rfl 0 (stO_at0 g a o _) rfl dX8_refusalToLight_16 ?_
    refine x_get (ci := 4) (v := .ref (a (o + 5))) (b := cdW g a o c) C ixX1 rfl 3 (by decide) wd_828 (fun _ h => h) 0 rfl 0 (cdW_at0 g a o _) rfl dX8_refusalToLight_19 ?_
    refine x_iload_n C dX8_refusalToLight_22 rfl 1 rfl ?_
    obtain ⟨h3, hf⟩ := x_n hf
    refine x_zald (b := cdW g a o c) C 0 rfl 4 (cdW_at4 g a o _) h3 dX8_refusalToLight_23 ?_
    refine x_if_eq (tgt := 31) C dX8_refusalToLight_24 (by decide) (fun h4 => ?_) (fun h4 => ?_)
    · have hf := x_t h4 hf
      refine x_aload_n C dX8_refusalToLight_31 rfl 0 rfl ?_
      refine x_get (ci := 9) (v := .ref (a (o + 1))) (b := stO g a o v) C ixX8 rfl 0 (by decide) wd_873 (fun _ h => h) 1 rfl 0 (stO_at0 g a o _) rfl dX8_refusalToLight_32 ?_
      refine x_get (ci := 4) (v := .ref (a (o + 3))) (b := cdW g a o c) C ixX1 rfl 1 (by decide) wd_823 (fun _ h => h) 0 rfl 0 (cdW_at0 g a o _) rfl dX8_refusalToLight_35 ?_
      refine x_iload_n C dX8_refusalToLight_38 rfl 1 rfl ?_
      obtain ⟨h5, hf⟩ := x_n hf
      refine x_iald (b := cdW g a o c) C 0 rfl 2 (cdW_at2 g a o _) h5 dX8_refusalToLight_39 ?_
      refine x_if_ne (tgt := 49) C dX8_refusalToLight_40 (by decide) (fun h6 => ?_) (fun h6 => ?_)
      · have hf := x_f h6 hf
        refine x_gets (Cn := "CandleConcert$Refusal") (n := "NOTHING") (d := "LCandleConcert$Refusal;") C (CX_enR C 0 (by decide)) wd_595 (fun _ h => h) dX8_refusalToLight_49 ?_
        refine x_perm (wss' := [stO g a o v, cdW g a o c]) (x_pick [1, 0] 2 rfl rfl rfl) ?_
        exact x_aret C hr (Or.inl ⟨_, rfl⟩) ⟨by cases hf; rfl, by cases hf; rfl⟩ dX8_refusalToLight_52
      · have hf := x_t h6 hf
        refine x_gets (Cn := "CandleConcert$Refusal") (n := "NO_WAX") (d := "LCandleConcert$Refusal;") C (CX_enR C 9 (by decide)) wd_593 (fun _ h => h) dX8_refusalToLight_43 ?_
        refine x_goto (tgt := 52) C dX8_refusalToLight_46 (by decide) ?_
        refine x_perm (wss' := [stO g a o v, cdW g a o c]) (x_pick [1, 0] 2 rfl rfl rfl) ?_
        exact x_aret C hr (Or.inl ⟨_, rfl⟩) ⟨by cases hf; rfl, by cases hf; rfl⟩ dX8_refusalToLight_52
    · have hf := x_f h4 hf
      refine x_gets (Cn := "CandleConcert$Refusal") (n := "IS_LIT") (d := "LCandleConcert$Refusal;") C (CX_enR C 5 (by decide)) wd_591 (fun _ h => h) dX8_refusalToLight_27 ?_
      refine x_perm (wss' := [stO g a o v, cdW g a o c]) (x_pick [1, 0] 2 rfl rfl rfl) ?_
      exact x_aret C hr (Or.inl ⟨_, rfl⟩) ⟨by cases hf; rfl, by cases hf; rfl⟩ dX8_refusalToLight_30
  · have hf := x_t h2 hf
    refine x_gets (Cn := "CandleConcert$Refusal") (n := "NO_SUCH_CANDLE") (d := "LCandleConcert$Refusal;") C (CX_enR C 3 (by decide)) wd_589 (fun _ h => h) dX8_refusalToLight_11 ?_
    refine x_perm (wss' := [stO g a o v, cdW g a o c]) (x_pick [1, 0] 2 rfl rfl rfl) ?_
    exact x_aret C hr (Or.inl ⟨_, rfl⟩) ⟨by cases hf; rfl, by cases hf; rfl⟩ dX8_refusalToLight_14
theorem wd_178 : Cond.methodLink RX8 109 yX1_countLit ∈ xTB := xTB_in 178 (by decide +kernel) (by decide +kernel)
theorem wd_179 : Cond.instanceMethod yX1_countLit ∈ xTB := xTB_in 179 (by decide +kernel) (by decide +kernel)
theorem wd_180 : Cond.selects yX1_countLit.cls yX1_countLit yX1_countLit ∈ xTB := xTB_in 180 (by decide +kernel) (by decide +kernel)
theorem wd_181 : Cond.code yX1_countLit cX1_countLit 3 (some .int) ∈ xTB := xTB_in 181 (by decide +kernel) (by decide +kernel)
theorem dX8_setLit_0 : decode cX8_setLit 0 = .ok (.aload_n 0, 1) := by decide +kernel
theorem dX8_setLit_1 : decode cX8_setLit 1 = .ok (.getfield 12, 3) := by decide +kernel
theorem dX8_setLit_4 : decode cX8_setLit 4 = .ok (.iload_n 1, 1) := by decide +kernel
theorem dX8_setLit_5 : decode cX8_setLit 5 = .ok (.invokevirtual 96, 3) := by decide +kernel
theorem dX8_setLit_8 : decode cX8_setLit 8 = .ok (.ifCond .eq 13, 3) := by decide +kernel
theorem dX8_setLit_11 : decode cX8_setLit 11 = .ok (.aload_n 0, 1) := by decide +kernel
theorem dX8_setLit_12 : decode cX8_setLit 12 = .ok (.getfield 12, 3) := by decide +kernel
theorem dX8_setLit_15 : decode cX8_setLit 15 = .ok (.getfield 92, 3) := by decide +kernel
theorem dX8_setLit_18 : decode cX8_setLit 18 = .ok (.iload_n 1, 1) := by decide +kernel
theorem dX8_setLit_19 : decode cX8_setLit 19 = .ok (.iconst 1, 1) := by decide +kernel
theorem dX8_setLit_20 : decode cX8_setLit 20 = .ok (.bastore, 1) := by decide +kernel
theorem dX8_setLit_21 : decode cX8_setLit 21 = .ok (.aload_n 0, 1) := by decide +kernel
theorem dX8_setLit_22 : decode cX8_setLit 22 = .ok (.getfield 12, 3) := by decide +kernel
theorem dX8_setLit_25 : decode cX8_setLit 25 = .ok (.invokevirtual 109, 3) := by decide +kernel
theorem dX8_setLit_28 : decode cX8_setLit 28 = .ok (.ireturn, 1) := by decide +kernel
set_option maxHeartbeats 4000000 in
set_option maxRecDepth 100000 in
theorem c_X8_setLit (g : xG) (l : Launch) (a : Nat → Nat) (o : Nat) (v : StS) (c : CdT) (x1 : Int32) {u : Int32 × CdT} (hf : f_X8_setLit v c x1 = some u) : ConD g l yX8_setLit cX8_setLit 2 (some .int) ({ frames := 1, cells := 0, slots := 0, locals := 22 } : Room) [.ref (a (o + 0)), .int x1] [stO g a o v, cdW g a o c] (some (.int u.1)) [stO g a o v, cdW g a o u.2] := by
  unfold f_X8_setLit at hf
  refine Con_of [stO g a o v, cdW g a o c] [(0, .ref (a (o + 0))), (1, .int x1)] rfl rfl (by decide) (Nat.le_of_ble_eq_true rfl) ?_
  intro pW eW sW mW argsW belowW methW c9 C hnm hr
  have C : CX g RX8 cX8_setLit 2 _ pW sW mW argsW methW c9 := C
  refine x_aload_n C dX8_setLit_0 rfl 0 rfl ?_
  refine x_get (ci := 9) (v := .ref (a (o + 1))) (b := stO g a o v) C ixX8 rfl 0 (by decide) wd_873 (fun _ h => h) 0 rfl 0 (stO_at0 g a o _) rfl dX8_setLit_1 ?_
  refine x_iload_n C dX8_setLit_4 rfl 1 rfl ?_
  obtain ⟨u1, hu1, hf⟩ := x_b hf
  refine x_callV (n := 1) (As := [.int x1]) (rest := []) C (c_X1_has g l a o c x1 hu1) ⟨⟨wd_70, wd_195, wd_27⟩, ⟨by decide, by decide, by decide⟩, rfl, rfl, Nat.le_of_ble_eq_true rfl, Nat.le_of_ble_eq_true rfl⟩ wd_68 wd_69 ⟨0, 4, _, _, rfl, rfl, rfl⟩ [stO g a o v] (x_pickD [1, 0] 2 rfl rfl rfl) rfl rfl (Nat.le_of_ble_eq_true rfl) ⟨Nat.le_of_ble_eq_true rfl, Nat.le_of_ble_eq_true rfl⟩ dX8_setLit_5 (x_goD (wss2 := [cdW g a o c, stO g a o v]) (stk2 := [.int u1]) rfl rfl ?_)
  refine x_if_eq (tgt := 21) C dX8_setLit_8 (by decide) (fun h2 => ?_) (fun h2 => ?_)
  · have hf := x_t h2 hf
    refine x_aload_n C dX8_setLit_21 rfl 0 rfl ?_
    refine x_get (ci := 9) (v := .ref (a (o + 1))) (b := stO g a o v) C ixX8 rfl 0 (by decide) wd_873 (fun _ h => h) 1 rfl 0 (stO_at0 g a o _) rfl dX8_setLit_22 ?_
    obtain ⟨u3, hu3, hf⟩ := x_b hf
    refine x_callV (n := 0) (As := []) (rest := []) C (c_X1_countLit g l a o c hu3) ⟨⟨wd_181, wd_178, wd_27⟩, ⟨by decide, by decide, by decide⟩, rfl, rfl, Nat.le_of_ble_eq_true rfl, Nat.le_of_ble_eq_true rfl⟩ wd_179 wd_180 ⟨0, 4, _, _, rfl, rfl, rfl⟩ [stO g a o v] (x_pickD [0, 1] 2 rfl rfl rfl) rfl rfl (Nat.le_of_ble_eq_true rfl) ⟨Nat.le_of_ble_eq_true rfl, Nat.le_of_ble_eq_true rfl⟩ dX8_setLit_25 (x_goD (wss2 := [cdW g a o c, stO g a o v]) (stk2 := [.int u3]) rfl rfl ?_)
    refine x_perm (wss' := [stO g a o v, cdW g a o c]) (x_pick [1, 0] 2 rfl rfl rfl) ?_
    exact x_iret C hr ⟨by cases hf; rfl, by cases hf; rfl⟩ dX8_setLit_28
  · have hf := x_f h2 hf
    refine x_aload_n C dX8_setLit_11 rfl 0 rfl ?_
    refine x_get (ci := 9) (v := .ref (a (o + 1))) (b := stO g a o v) C ixX8 rfl 0 (by decide) wd_873 (fun _ h => h) 1 rfl 0 (stO_at0 g a o _) rfl dX8_setLit_12 ?_
    refine x_get (ci := 4) (v := .ref (a (o + 5))) (b := cdW g a o c) C ixX1 rfl 3 (by decide) wd_828 (fun _ h => h) 0 rfl 0 (cdW_at0 g a o _) rfl dX8_setLit_15 ?_
    refine x_iload_n C dX8_setLit_18 rfl 1 rfl ?_
    refine x_iconst (v := 1) C dX8_setLit_19 (by decide) ?_
    obtain ⟨h4, hf⟩ := x_n hf
    refine x_zast (b := cdW g a o c) (b' := cdW g a o (c.1, c.2.1, c.2.2.1, upd c.2.2.2.1 x1.toNatClampNeg (vp_nar .boolean (1 : Int32)), c.2.2.2.2)) (wss' := [cdW g a o (c.1, c.2.1, c.2.2.1, upd c.2.2.2.1 x1.toNatClampNeg (vp_nar .boolean (1 : Int32)), c.2.2.2.2), stO g a o v]) C 0 rfl 4 (cdW_at4 g a o _) h4 rfl rfl dX8_setLit_20 ?_
    refine x_aload_n C dX8_setLit_21 rfl 0 rfl ?_
    refine x_get (ci := 9) (v := .ref (a (o + 1))) (b := stO g a o v) C ixX8 rfl 0 (by decide) wd_873 (fun _ h => h) 1 rfl 0 (stO_at0 g a o _) rfl dX8_setLit_22 ?_
    obtain ⟨u5, hu5, hf⟩ := x_b hf
    refine x_callV (n := 0) (As := []) (rest := []) C (c_X1_countLit g l a o (c.1, c.2.1, c.2.2.1, upd c.2.2.2.1 x1.toNatClampNeg (vp_nar .boolean (1 : Int32)), c.2.2.2.2) hu5) ⟨⟨wd_181, wd_178, wd_27⟩, ⟨by decide, by decide, by decide⟩, rfl, rfl, Nat.le_of_ble_eq_true rfl, Nat.le_of_ble_eq_true rfl⟩ wd_179 wd_180 ⟨0, 4, _, _, rfl, rfl, rfl⟩ [stO g a o v] (x_pickD [0, 1] 2 rfl rfl rfl) rfl rfl (Nat.le_of_ble_eq_true rfl) ⟨Nat.le_of_ble_eq_true rfl, Nat.le_of_ble_eq_true rfl⟩ dX8_setLit_25 (x_goD (wss2 := [cdW g a o (c.1, c.2.1, c.2.2.1, upd c.2.2.2.1 x1.toNatClampNeg (vp_nar .boolean (1 : Int32)), c.2.2.2.2), stO g a o v]) (stk2 := [.int u5]) rfl rfl ?_)
    refine x_perm (wss' := [stO g a o v, cdW g a o (c.1, c.2.1, c.2.2.1, upd c.2.2.2.1 x1.toNatClampNeg (vp_nar .boolean (1 : Int32)), c.2.2.2.2)]) (x_pick [1, 0] 2 rfl rfl rfl) ?_
    exact x_iret C hr ⟨by cases hf; rfl, by cases hf; rfl⟩ dX8_setLit_28
theorem wd_673 : Cond.fieldLink RX8 113 "CandleConcert$Refusal" "IS_NOT_LIT" "LCandleConcert$Refusal;" ∈ xTB := xTB_in 673 (by decide +kernel) (by decide +kernel)
theorem dX8_refusalToSnuff_0 : decode cX8_refusalToSnuff 0 = .ok (.aload_n 0, 1) := by decide +kernel
theorem dX8_refusalToSnuff_1 : decode cX8_refusalToSnuff 1 = .ok (.getfield 12, 3) := by decide +kernel
theorem dX8_refusalToSnuff_4 : decode cX8_refusalToSnuff 4 = .ok (.iload_n 1, 1) := by decide +kernel
theorem dX8_refusalToSnuff_5 : decode cX8_refusalToSnuff 5 = .ok (.invokevirtual 96, 3) := by decide +kernel
theorem dX8_refusalToSnuff_8 : decode cX8_refusalToSnuff 8 = .ok (.ifCond .ne 7, 3) := by decide +kernel
theorem dX8_refusalToSnuff_11 : decode cX8_refusalToSnuff 11 = .ok (.getstatic 100, 3) := by decide +kernel
theorem dX8_refusalToSnuff_14 : decode cX8_refusalToSnuff 14 = .ok (.areturn, 1) := by decide +kernel
theorem dX8_refusalToSnuff_15 : decode cX8_refusalToSnuff 15 = .ok (.aload_n 0, 1) := by decide +kernel
theorem dX8_refusalToSnuff_16 : decode cX8_refusalToSnuff 16 = .ok (.getfield 12, 3) := by decide +kernel
theorem dX8_refusalToSnuff_19 : decode cX8_refusalToSnuff 19 = .ok (.getfield 92, 3) := by decide +kernel
theorem dX8_refusalToSnuff_22 : decode cX8_refusalToSnuff 22 = .ok (.iload_n 1, 1) := by decide +kernel
theorem dX8_refusalToSnuff_23 : decode cX8_refusalToSnuff 23 = .ok (.baload, 1) := by decide +kernel
theorem dX8_refusalToSnuff_24 : decode cX8_refusalToSnuff 24 = .ok (.ifCond .eq 9, 3) := by decide +kernel
theorem dX8_refusalToSnuff_27 : decode cX8_refusalToSnuff 27 = .ok (.getstatic 78, 3) := by decide +kernel
theorem dX8_refusalToSnuff_30 : decode cX8_refusalToSnuff 30 = .ok (.goto 6, 3) := by decide +kernel
theorem dX8_refusalToSnuff_33 : decode cX8_refusalToSnuff 33 = .ok (.getstatic 113, 3) := by decide +kernel
theorem dX8_refusalToSnuff_36 : decode cX8_refusalToSnuff 36 = .ok (.areturn, 1) := by decide +kernel
set_option maxHeartbeats 4000000 in
set_option maxRecDepth 100000 in
theorem c_X8_refusalToSnuff (g : xG) (l : Launch) (a : Nat → Nat) (o : Nat) (v : StS) (c : CdT) (x1 : Int32) {u : Nat} (hf : f_X8_refusalToSnuff v c x1 = some u) : ConD g l yX8_refusalToSnuff cX8_refusalToSnuff 2 (some (.object "CandleConcert$Refusal")) ({ frames := 1, cells := 0, slots := 0, locals := 21 } : Room) [.ref (a (o + 0)), .int x1] [stO g a o v, cdW g a o c] (some (.ref (g.2.2 (100 + u)))) [stO g a o v, cdW g a o c] := by
  unfold f_X8_refusalToSnuff at hf
  refine Con_of [stO g a o v, cdW g a o c] [(0, .ref (a (o + 0))), (1, .int x1)] rfl rfl (by decide) (Nat.le_of_ble_eq_true rfl) ?_
  intro pW eW sW mW argsW belowW methW c9 C hnm hr
  have C : CX g RX8 cX8_refusalToSnuff 2 _ pW sW mW argsW methW c9 := C
  refine x_aload_n C dX8_refusalToSnuff_0 rfl 0 rfl ?_
  refine x_get (ci := 9) (v := .ref (a (o + 1))) (b := stO g a o v) C ixX8 rfl 0 (by decide) wd_873 (fun _ h => h) 0 rfl 0 (stO_at0 g a o _) rfl dX8_refusalToSnuff_1 ?_
  refine x_iload_n C dX8_refusalToSnuff_4 rfl 1 rfl ?_
  obtain ⟨u1, hu1, hf⟩ := x_b hf
  refine x_callV (n := 1) (As := [.int x1]) (rest := []) C (c_X1_has g l a o c x1 hu1) ⟨⟨wd_70, wd_195, wd_27⟩, ⟨by decide, by decide, by decide⟩, rfl, rfl, Nat.le_of_ble_eq_true rfl, Nat.le_of_ble_eq_true rfl⟩ wd_68 wd_69 ⟨0, 4, _, _, rfl, rfl, rfl⟩ [stO g a o v] (x_pickD [1, 0] 2 rfl rfl rfl) rfl rfl (Nat.le_of_ble_eq_true rfl) ⟨Nat.le_of_ble_eq_true rfl, Nat.le_of_ble_eq_true rfl⟩ dX8_refusalToSnuff_5 (x_goD (wss2 := [cdW g a o c, stO g a o v]) (stk2 := [.int u1]) rfl rfl ?_)
  refine x_if_ne (tgt := 15) C dX8_refusalToSnuff_8 (by decide) (fun h2 => ?_) (fun h2 => ?_)
  · have hf := x_f h2 hf
    refine x_aload_n C dX8_refusalToSnuff_15 rfl 0 rfl ?_
    refine x_get (ci := 9) (v := .ref (a (o + 1))) (b := stO g a o v) C ixX8 rfl 0 (by decide) wd_873 (fun _ h => h) 1 rfl 0 (stO_at0 g a o _) rfl dX8_refusalToSnuff_16 ?_
    refine x_get (ci := 4) (v := .ref (a (o + 5))) (b := cdW g a o c) C ixX1 rfl 3 (by decide) wd_828 (fun _ h => h) 0 rfl 0 (cdW_at0 g a o _) rfl dX8_refusalToSnuff_19 ?_
    refine x_iload_n C dX8_refusalToSnuff_22 rfl 1 rfl ?_
    obtain ⟨h3, hf⟩ := x_n hf
    refine x_zald (b := cdW g a o c) C 0 rfl 4 (cdW_at4 g a o _) h3 dX8_refusalToSnuff_23 ?_
    refine x_if_eq (tgt := 33) C dX8_refusalToSnuff_24 (by decide) (fun h4 => ?_) (fun h4 => ?_)
    · have hf := x_t h4 hf
      refine x_gets (Cn := "CandleConcert$Refusal") (n := "IS_NOT_LIT") (d := "LCandleConcert$Refusal;") C (CX_enR C 6 (by decide)) wd_673 (fun _ h => h) dX8_refusalToSnuff_33 ?_
      refine x_perm (wss' := [stO g a o v, cdW g a o c]) (x_pick [1, 0] 2 rfl rfl rfl) ?_
      exact x_aret C hr (Or.inl ⟨_, rfl⟩) ⟨by cases hf; rfl, by cases hf; rfl⟩ dX8_refusalToSnuff_36
    · have hf := x_f h4 hf
      refine x_gets (Cn := "CandleConcert$Refusal") (n := "NOTHING") (d := "LCandleConcert$Refusal;") C (CX_enR C 0 (by decide)) wd_595 (fun _ h => h) dX8_refusalToSnuff_27 ?_
      refine x_goto (tgt := 36) C dX8_refusalToSnuff_30 (by decide) ?_
      refine x_perm (wss' := [stO g a o v, cdW g a o c]) (x_pick [1, 0] 2 rfl rfl rfl) ?_
      exact x_aret C hr (Or.inl ⟨_, rfl⟩) ⟨by cases hf; rfl, by cases hf; rfl⟩ dX8_refusalToSnuff_36
  · have hf := x_t h2 hf
    refine x_gets (Cn := "CandleConcert$Refusal") (n := "NO_SUCH_CANDLE") (d := "LCandleConcert$Refusal;") C (CX_enR C 3 (by decide)) wd_589 (fun _ h => h) dX8_refusalToSnuff_11 ?_
    refine x_perm (wss' := [stO g a o v, cdW g a o c]) (x_pick [1, 0] 2 rfl rfl rfl) ?_
    exact x_aret C hr (Or.inl ⟨_, rfl⟩) ⟨by cases hf; rfl, by cases hf; rfl⟩ dX8_refusalToSnuff_14
theorem dX8_setUnlit_0 : decode cX8_setUnlit 0 = .ok (.aload_n 0, 1) := by decide +kernel
theorem dX8_setUnlit_1 : decode cX8_setUnlit 1 = .ok (.getfield 12, 3) := by decide +kernel
theorem dX8_setUnlit_4 : decode cX8_setUnlit 4 = .ok (.iload_n 1, 1) := by decide +kernel
theorem dX8_setUnlit_5 : decode cX8_setUnlit 5 = .ok (.invokevirtual 96, 3) := by decide +kernel
theorem dX8_setUnlit_8 : decode cX8_setUnlit 8 = .ok (.ifCond .ne 5, 3) := by decide +kernel
theorem dX8_setUnlit_11 : decode cX8_setUnlit 11 = .ok (.iconst (-1), 1) := by decide +kernel
theorem dX8_setUnlit_12 : decode cX8_setUnlit 12 = .ok (.ireturn, 1) := by decide +kernel
theorem dX8_setUnlit_13 : decode cX8_setUnlit 13 = .ok (.aload_n 0, 1) := by decide +kernel
theorem dX8_setUnlit_14 : decode cX8_setUnlit 14 = .ok (.getfield 12, 3) := by decide +kernel
theorem dX8_setUnlit_17 : decode cX8_setUnlit 17 = .ok (.getfield 92, 3) := by decide +kernel
theorem dX8_setUnlit_20 : decode cX8_setUnlit 20 = .ok (.iload_n 1, 1) := by decide +kernel
theorem dX8_setUnlit_21 : decode cX8_setUnlit 21 = .ok (.iconst 0, 1) := by decide +kernel
theorem dX8_setUnlit_22 : decode cX8_setUnlit 22 = .ok (.bastore, 1) := by decide +kernel
theorem dX8_setUnlit_23 : decode cX8_setUnlit 23 = .ok (.aload_n 0, 1) := by decide +kernel
theorem dX8_setUnlit_24 : decode cX8_setUnlit 24 = .ok (.getfield 12, 3) := by decide +kernel
theorem dX8_setUnlit_27 : decode cX8_setUnlit 27 = .ok (.getfield 85, 3) := by decide +kernel
theorem dX8_setUnlit_30 : decode cX8_setUnlit 30 = .ok (.iload_n 1, 1) := by decide +kernel
theorem dX8_setUnlit_31 : decode cX8_setUnlit 31 = .ok (.iaload, 1) := by decide +kernel
theorem dX8_setUnlit_32 : decode cX8_setUnlit 32 = .ok (.ireturn, 1) := by decide +kernel
set_option maxHeartbeats 4000000 in
set_option maxRecDepth 100000 in
theorem c_X8_setUnlit (g : xG) (l : Launch) (a : Nat → Nat) (o : Nat) (v : StS) (c : CdT) (x1 : Int32) {u : Int32 × CdT} (hf : f_X8_setUnlit v c x1 = some u) : ConD g l yX8_setUnlit cX8_setUnlit 2 (some .int) ({ frames := 1, cells := 0, slots := 0, locals := 21 } : Room) [.ref (a (o + 0)), .int x1] [stO g a o v, cdW g a o c] (some (.int u.1)) [stO g a o v, cdW g a o u.2] := by
  unfold f_X8_setUnlit at hf
  refine Con_of [stO g a o v, cdW g a o c] [(0, .ref (a (o + 0))), (1, .int x1)] rfl rfl (by decide) (Nat.le_of_ble_eq_true rfl) ?_
  intro pW eW sW mW argsW belowW methW c9 C hnm hr
  have C : CX g RX8 cX8_setUnlit 2 _ pW sW mW argsW methW c9 := C
  refine x_aload_n C dX8_setUnlit_0 rfl 0 rfl ?_
  refine x_get (ci := 9) (v := .ref (a (o + 1))) (b := stO g a o v) C ixX8 rfl 0 (by decide) wd_873 (fun _ h => h) 0 rfl 0 (stO_at0 g a o _) rfl dX8_setUnlit_1 ?_
  refine x_iload_n C dX8_setUnlit_4 rfl 1 rfl ?_
  obtain ⟨u1, hu1, hf⟩ := x_b hf
  refine x_callV (n := 1) (As := [.int x1]) (rest := []) C (c_X1_has g l a o c x1 hu1) ⟨⟨wd_70, wd_195, wd_27⟩, ⟨by decide, by decide, by decide⟩, rfl, rfl, Nat.le_of_ble_eq_true rfl, Nat.le_of_ble_eq_true rfl⟩ wd_68 wd_69 ⟨0, 4, _, _, rfl, rfl, rfl⟩ [stO g a o v] (x_pickD [1, 0] 2 rfl rfl rfl) rfl rfl (Nat.le_of_ble_eq_true rfl) ⟨Nat.le_of_ble_eq_true rfl, Nat.le_of_ble_eq_true rfl⟩ dX8_setUnlit_5 (x_goD (wss2 := [cdW g a o c, stO g a o v]) (stk2 := [.int u1]) rfl rfl ?_)
  refine x_if_ne (tgt := 13) C dX8_setUnlit_8 (by decide) (fun h2 => ?_) (fun h2 => ?_)
  · have hf := x_f h2 hf
    refine x_aload_n C dX8_setUnlit_13 rfl 0 rfl ?_
    refine x_get (ci := 9) (v := .ref (a (o + 1))) (b := stO g a o v) C ixX8 rfl 0 (by decide) wd_873 (fun _ h => h) 1 rfl 0 (stO_at0 g a o _) rfl dX8_setUnlit_14 ?_
    refine x_get (ci := 4) (v := .ref (a (o + 5))) (b := cdW g a o c) C ixX1 rfl 3 (by decide) wd_828 (fun _ h => h) 0 rfl 0 (cdW_at0 g a o _) rfl dX8_setUnlit_17 ?_
    refine x_iload_n C dX8_setUnlit_20 rfl 1 rfl ?_
    refine x_iconst (v := 0) C dX8_setUnlit_21 (by decide) ?_
    obtain ⟨h3, hf⟩ := x_n hf
    refine x_zast (b := cdW g a o c) (b' := cdW g a o (c.1, c.2.1, c.2.2.1, upd c.2.2.2.1 x1.toNatClampNeg (vp_nar .boolean (0 : Int32)), c.2.2.2.2)) (wss' := [cdW g a o (c.1, c.2.1, c.2.2.1, upd c.2.2.2.1 x1.toNatClampNeg (vp_nar .boolean (0 : Int32)), c.2.2.2.2), stO g a o v]) C 0 rfl 4 (cdW_at4 g a o _) h3 rfl rfl dX8_setUnlit_22 ?_
    refine x_aload_n C dX8_setUnlit_23 rfl 0 rfl ?_
    refine x_get (ci := 9) (v := .ref (a (o + 1))) (b := stO g a o v) C ixX8 rfl 0 (by decide) wd_873 (fun _ h => h) 1 rfl 0 (stO_at0 g a o _) rfl dX8_setUnlit_24 ?_
    refine x_get (ci := 4) (v := .ref (a (o + 3))) (b := cdW g a o (c.1, c.2.1, c.2.2.1, upd c.2.2.2.1 x1.toNatClampNeg (vp_nar .boolean (0 : Int32)), c.2.2.2.2)) C ixX1 rfl 1 (by decide) wd_823 (fun _ h => h) 0 rfl 0 (cdW_at0 g a o _) rfl dX8_setUnlit_27 ?_
    refine x_iload_n C dX8_setUnlit_30 rfl 1 rfl ?_
    obtain ⟨h4, hf⟩ := x_n hf
    refine x_iald (b := cdW g a o (c.1, c.2.1, c.2.2.1, upd c.2.2.2.1 x1.toNatClampNeg (vp_nar .boolean (0 : Int32)), c.2.2.2.2)) C 0 rfl 2 (cdW_at2 g a o _) h4 dX8_setUnlit_31 ?_
    refine x_perm (wss' := [stO g a o v, cdW g a o (c.1, c.2.1, c.2.2.1, upd c.2.2.2.1 x1.toNatClampNeg (vp_nar .boolean (0 : Int32)), c.2.2.2.2)]) (x_pick [1, 0] 2 rfl rfl rfl) ?_
    exact x_iret C hr ⟨by cases hf; rfl, by cases hf; rfl⟩ dX8_setUnlit_32
  · have hf := x_t h2 hf
    refine x_iconst (v := (-1)) C dX8_setUnlit_11 (by decide) ?_
    refine x_perm (wss' := [stO g a o v, cdW g a o c]) (x_pick [1, 0] 2 rfl rfl rfl) ?_
    exact x_iret C hr ⟨by cases hf; rfl, by cases hf; rfl⟩ dX8_setUnlit_12
theorem wd_1089 : Cond.fieldLink RX8 116 "CandleConcert$Refusal" "TOO_MUCH_WAX" "LCandleConcert$Refusal;" ∈ xTB := xTB_in 1089 (by decide +kernel) (by decide +kernel)
theorem wd_1091 : Cond.fieldLink RX8 119 "CandleConcert$Refusal" "DISH_TOO_EMPTY" "LCandleConcert$Refusal;" ∈ xTB := xTB_in 1091 (by decide +kernel) (by decide +kernel)
theorem dX8_refusalToPour_0 : decode cX8_refusalToPour 0 = .ok (.aload_n 0, 1) := by decide +kernel
theorem dX8_refusalToPour_1 : decode cX8_refusalToPour 1 = .ok (.getfield 12, 3) := by decide +kernel
theorem dX8_refusalToPour_4 : decode cX8_refusalToPour 4 = .ok (.iload_n 1, 1) := by decide +kernel
theorem dX8_refusalToPour_5 : decode cX8_refusalToPour 5 = .ok (.invokevirtual 96, 3) := by decide +kernel
theorem dX8_refusalToPour_8 : decode cX8_refusalToPour 8 = .ok (.ifCond .ne 7, 3) := by decide +kernel
theorem dX8_refusalToPour_11 : decode cX8_refusalToPour 11 = .ok (.getstatic 100, 3) := by decide +kernel
theorem dX8_refusalToPour_14 : decode cX8_refusalToPour 14 = .ok (.areturn, 1) := by decide +kernel
theorem dX8_refusalToPour_15 : decode cX8_refusalToPour 15 = .ok (.iload_n 2, 1) := by decide +kernel
theorem dX8_refusalToPour_16 : decode cX8_refusalToPour 16 = .ok (.iconst 1, 1) := by decide +kernel
theorem dX8_refusalToPour_17 : decode cX8_refusalToPour 17 = .ok (.if_icmp .lt 10, 3) := by decide +kernel
theorem dX8_refusalToPour_20 : decode cX8_refusalToPour 20 = .ok (.iload_n 2, 1) := by decide +kernel
theorem dX8_refusalToPour_21 : decode cX8_refusalToPour 21 = .ok (.sipush 999, 3) := by decide +kernel
theorem dX8_refusalToPour_24 : decode cX8_refusalToPour 24 = .ok (.if_icmp .le 7, 3) := by decide +kernel
theorem dX8_refusalToPour_27 : decode cX8_refusalToPour 27 = .ok (.getstatic 69, 3) := by decide +kernel
theorem dX8_refusalToPour_30 : decode cX8_refusalToPour 30 = .ok (.areturn, 1) := by decide +kernel
theorem dX8_refusalToPour_31 : decode cX8_refusalToPour 31 = .ok (.aload_n 0, 1) := by decide +kernel
theorem dX8_refusalToPour_32 : decode cX8_refusalToPour 32 = .ok (.getfield 12, 3) := by decide +kernel
theorem dX8_refusalToPour_35 : decode cX8_refusalToPour 35 = .ok (.getfield 92, 3) := by decide +kernel
theorem dX8_refusalToPour_38 : decode cX8_refusalToPour 38 = .ok (.iload_n 1, 1) := by decide +kernel
theorem dX8_refusalToPour_39 : decode cX8_refusalToPour 39 = .ok (.baload, 1) := by decide +kernel
theorem dX8_refusalToPour_40 : decode cX8_refusalToPour 40 = .ok (.ifCond .eq 7, 3) := by decide +kernel
theorem dX8_refusalToPour_43 : decode cX8_refusalToPour 43 = .ok (.getstatic 103, 3) := by decide +kernel
theorem dX8_refusalToPour_46 : decode cX8_refusalToPour 46 = .ok (.areturn, 1) := by decide +kernel
theorem dX8_refusalToPour_47 : decode cX8_refusalToPour 47 = .ok (.aload_n 0, 1) := by decide +kernel
theorem dX8_refusalToPour_48 : decode cX8_refusalToPour 48 = .ok (.getfield 12, 3) := by decide +kernel
theorem dX8_refusalToPour_51 : decode cX8_refusalToPour 51 = .ok (.getfield 85, 3) := by decide +kernel
theorem dX8_refusalToPour_54 : decode cX8_refusalToPour 54 = .ok (.iload_n 1, 1) := by decide +kernel
theorem dX8_refusalToPour_55 : decode cX8_refusalToPour 55 = .ok (.iaload, 1) := by decide +kernel
theorem dX8_refusalToPour_56 : decode cX8_refusalToPour 56 = .ok (.iload_n 2, 1) := by decide +kernel
theorem dX8_refusalToPour_57 : decode cX8_refusalToPour 57 = .ok (.iadd, 1) := by decide +kernel
theorem dX8_refusalToPour_58 : decode cX8_refusalToPour 58 = .ok (.sipush 999, 3) := by decide +kernel
theorem dX8_refusalToPour_61 : decode cX8_refusalToPour 61 = .ok (.if_icmp .le 7, 3) := by decide +kernel
theorem dX8_refusalToPour_64 : decode cX8_refusalToPour 64 = .ok (.getstatic 116, 3) := by decide +kernel
theorem dX8_refusalToPour_67 : decode cX8_refusalToPour 67 = .ok (.areturn, 1) := by decide +kernel
theorem dX8_refusalToPour_68 : decode cX8_refusalToPour 68 = .ok (.aload_n 0, 1) := by decide +kernel
theorem dX8_refusalToPour_69 : decode cX8_refusalToPour 69 = .ok (.getfield 29, 3) := by decide +kernel
theorem dX8_refusalToPour_72 : decode cX8_refusalToPour 72 = .ok (.iload_n 2, 1) := by decide +kernel
theorem dX8_refusalToPour_73 : decode cX8_refusalToPour 73 = .ok (.if_icmp .ge 9, 3) := by decide +kernel
theorem dX8_refusalToPour_76 : decode cX8_refusalToPour 76 = .ok (.getstatic 119, 3) := by decide +kernel
theorem dX8_refusalToPour_79 : decode cX8_refusalToPour 79 = .ok (.goto 6, 3) := by decide +kernel
theorem dX8_refusalToPour_82 : decode cX8_refusalToPour 82 = .ok (.getstatic 78, 3) := by decide +kernel
theorem dX8_refusalToPour_85 : decode cX8_refusalToPour 85 = .ok (.areturn, 1) := by decide +kernel
set_option maxHeartbeats 4000000 in
set_option maxRecDepth 100000 in
theorem c_X8_refusalToPour (g : xG) (l : Launch) (a : Nat → Nat) (o : Nat) (v : StS) (c : CdT) (x1 : Int32) (x2 : Int32) {u : Nat} (hf : f_X8_refusalToPour v c x1 x2 = some u) : ConD g l yX8_refusalToPour cX8_refusalToPour 3 (some (.object "CandleConcert$Refusal")) ({ frames := 1, cells := 0, slots := 0, locals := 21 } : Room) [.ref (a (o + 0)), .int x1, .int x2] [stO g a o v, cdW g a o c] (some (.ref (g.2.2 (100 + u)))) [stO g a o v, cdW g a o c] := by
  unfold f_X8_refusalToPour at hf
  refine Con_of [stO g a o v, cdW g a o c] [(0, .ref (a (o + 0))), (1, .int x1), (2, .int x2)] rfl rfl (by decide) (Nat.le_of_ble_eq_true rfl) ?_
  intro pW eW sW mW argsW belowW methW c9 C hnm hr
  have C : CX g RX8 cX8_refusalToPour 3 _ pW sW mW argsW methW c9 := C
  refine x_aload_n C dX8_refusalToPour_0 rfl 0 rfl ?_
  refine x_get (ci := 9) (v := .ref (a (o + 1))) (b := stO g a o v) C ixX8 rfl 0 (by decide) wd_873 (fun _ h => h) 0 rfl 0 (stO_at0 g a o _) rfl dX8_refusalToPour_1 ?_
  refine x_iload_n C dX8_refusalToPour_4 rfl 1 rfl ?_
  obtain ⟨u1, hu1, hf⟩ := x_b hf
  refine x_callV (n := 1) (As := [.int x1]) (rest := []) C (c_X1_has g l a o c x1 hu1) ⟨⟨wd_70, wd_195, wd_27⟩, ⟨by decide, by decide, by decide⟩, rfl, rfl, Nat.le_of_ble_eq_true rfl, Nat.le_of_ble_eq_true rfl⟩ wd_68 wd_69 ⟨0, 4, _, _, rfl, rfl, rfl⟩ [stO g a o v] (x_pickD [1, 0] 2 rfl rfl rfl) rfl rfl (Nat.le_of_ble_eq_true rfl) ⟨Nat.le_of_ble_eq_true rfl, Nat.le_of_ble_eq_true rfl⟩ dX8_refusalToPour_5 (x_goD (wss2 := [cdW g a o c, stO g a o v]) (stk2 := [.int u1]) rfl rfl ?_)
  refine x_if_ne (tgt := 15) C dX8_refusalToPour_8 (by decide) (fun h2 => ?_) (fun h2 => ?_)
  · have hf := x_f h2 hf
    refine x_iload_n C dX8_refusalToPour_15 rfl 2 rfl ?_
    refine x_iconst (v := 1) C dX8_refusalToPour_16 (by decide) ?_
    refine x_icmp_lt (tgt := 27) C dX8_refusalToPour_17 (by decide) (fun h3 => ?_) (fun h3 => ?_)
    · have hf := x_t h3 hf
      refine x_gets (Cn := "CandleConcert$Refusal") (n := "OUT_OF_RANGE") (d := "LCandleConcert$Refusal;") C (CX_enR C 2 (by decide)) wd_691 (fun _ h => h) dX8_refusalToPour_27 ?_
      refine x_perm (wss' := [stO g a o v, cdW g a o c]) (x_pick [1, 0] 2 rfl rfl rfl) ?_
      exact x_aret C hr (Or.inl ⟨_, rfl⟩) ⟨by cases hf; rfl, by cases hf; rfl⟩ dX8_refusalToPour_30
    · have hf := x_f h3 hf
      refine x_iload_n C dX8_refusalToPour_20 rfl 2 rfl ?_
      refine x_sipush (v := 999) C dX8_refusalToPour_21 (by decide) ?_
      refine x_icmp_le (tgt := 31) C dX8_refusalToPour_24 (by decide) (fun h4 => ?_) (fun h4 => ?_)
      · have hf := x_t h4 hf
        refine x_aload_n C dX8_refusalToPour_31 rfl 0 rfl ?_
        refine x_get (ci := 9) (v := .ref (a (o + 1))) (b := stO g a o v) C ixX8 rfl 0 (by decide) wd_873 (fun _ h => h) 1 rfl 0 (stO_at0 g a o _) rfl dX8_refusalToPour_32 ?_
        refine x_get (ci := 4) (v := .ref (a (o + 5))) (b := cdW g a o c) C ixX1 rfl 3 (by decide) wd_828 (fun _ h => h) 0 rfl 0 (cdW_at0 g a o _) rfl dX8_refusalToPour_35 ?_
        refine x_iload_n C dX8_refusalToPour_38 rfl 1 rfl ?_
        obtain ⟨h5, hf⟩ := x_n hf
        refine x_zald (b := cdW g a o c) C 0 rfl 4 (cdW_at4 g a o _) h5 dX8_refusalToPour_39 ?_
        refine x_if_eq (tgt := 47) C dX8_refusalToPour_40 (by decide) (fun h6 => ?_) (fun h6 => ?_)
        · have hf := x_t h6 hf
          refine x_aload_n C dX8_refusalToPour_47 rfl 0 rfl ?_
          refine x_get (ci := 9) (v := .ref (a (o + 1))) (b := stO g a o v) C ixX8 rfl 0 (by decide) wd_873 (fun _ h => h) 1 rfl 0 (stO_at0 g a o _) rfl dX8_refusalToPour_48 ?_
          refine x_get (ci := 4) (v := .ref (a (o + 3))) (b := cdW g a o c) C ixX1 rfl 1 (by decide) wd_823 (fun _ h => h) 0 rfl 0 (cdW_at0 g a o _) rfl dX8_refusalToPour_51 ?_
          refine x_iload_n C dX8_refusalToPour_54 rfl 1 rfl ?_
          obtain ⟨h7, hf⟩ := x_n hf
          refine x_iald (b := cdW g a o c) C 0 rfl 2 (cdW_at2 g a o _) h7 dX8_refusalToPour_55 ?_
          refine x_iload_n C dX8_refusalToPour_56 rfl 2 rfl ?_
          refine x_iadd C dX8_refusalToPour_57 ?_
          refine x_sipush (v := 999) C dX8_refusalToPour_58 (by decide) ?_
          refine x_icmp_le (tgt := 68) C dX8_refusalToPour_61 (by decide) (fun h8 => ?_) (fun h8 => ?_)
          · have hf := x_t h8 hf
            refine x_aload_n C dX8_refusalToPour_68 rfl 0 rfl ?_
            refine x_get (ci := 9) (v := .int v.2.1) (b := stO g a o v) C ixX8 rfl 3 (by decide) wd_879 (fun _ h => h) 1 rfl 0 (stO_at0 g a o _) rfl dX8_refusalToPour_69 ?_
            refine x_iload_n C dX8_refusalToPour_72 rfl 2 rfl ?_
            refine x_icmp_ge (tgt := 82) C dX8_refusalToPour_73 (by decide) (fun h9 => ?_) (fun h9 => ?_)
            · have hf := x_t h9 hf
              refine x_gets (Cn := "CandleConcert$Refusal") (n := "NOTHING") (d := "LCandleConcert$Refusal;") C (CX_enR C 0 (by decide)) wd_595 (fun _ h => h) dX8_refusalToPour_82 ?_
              refine x_perm (wss' := [stO g a o v, cdW g a o c]) (x_pick [1, 0] 2 rfl rfl rfl) ?_
              exact x_aret C hr (Or.inl ⟨_, rfl⟩) ⟨by cases hf; rfl, by cases hf; rfl⟩ dX8_refusalToPour_85
            · have hf := x_f h9 hf
              refine x_gets (Cn := "CandleConcert$Refusal") (n := "DISH_TOO_EMPTY") (d := "LCandleConcert$Refusal;") C (CX_enR C 10 (by decide)) wd_1091 (fun _ h => h) dX8_refusalToPour_76 ?_
              refine x_goto (tgt := 85) C dX8_refusalToPour_79 (by decide) ?_
              refine x_perm (wss' := [stO g a o v, cdW g a o c]) (x_pick [1, 0] 2 rfl rfl rfl) ?_
              exact x_aret C hr (Or.inl ⟨_, rfl⟩) ⟨by cases hf; rfl, by cases hf; rfl⟩ dX8_refusalToPour_85
          · have hf := x_f h8 hf
            refine x_gets (Cn := "CandleConcert$Refusal") (n := "TOO_MUCH_WAX") (d := "LCandleConcert$Refusal;") C (CX_enR C 7 (by decide)) wd_1089 (fun _ h => h) dX8_refusalToPour_64 ?_
            refine x_perm (wss' := [stO g a o v, cdW g a o c]) (x_pick [1, 0] 2 rfl rfl rfl) ?_
            exact x_aret C hr (Or.inl ⟨_, rfl⟩) ⟨by cases hf; rfl, by cases hf; rfl⟩ dX8_refusalToPour_67
        · have hf := x_f h6 hf
          refine x_gets (Cn := "CandleConcert$Refusal") (n := "IS_LIT") (d := "LCandleConcert$Refusal;") C (CX_enR C 5 (by decide)) wd_591 (fun _ h => h) dX8_refusalToPour_43 ?_
          refine x_perm (wss' := [stO g a o v, cdW g a o c]) (x_pick [1, 0] 2 rfl rfl rfl) ?_
          exact x_aret C hr (Or.inl ⟨_, rfl⟩) ⟨by cases hf; rfl, by cases hf; rfl⟩ dX8_refusalToPour_46
      · have hf := x_f h4 hf
        refine x_gets (Cn := "CandleConcert$Refusal") (n := "OUT_OF_RANGE") (d := "LCandleConcert$Refusal;") C (CX_enR C 2 (by decide)) wd_691 (fun _ h => h) dX8_refusalToPour_27 ?_
        refine x_perm (wss' := [stO g a o v, cdW g a o c]) (x_pick [1, 0] 2 rfl rfl rfl) ?_
        exact x_aret C hr (Or.inl ⟨_, rfl⟩) ⟨by cases hf; rfl, by cases hf; rfl⟩ dX8_refusalToPour_30
  · have hf := x_t h2 hf
    refine x_gets (Cn := "CandleConcert$Refusal") (n := "NO_SUCH_CANDLE") (d := "LCandleConcert$Refusal;") C (CX_enR C 3 (by decide)) wd_589 (fun _ h => h) dX8_refusalToPour_11 ?_
    refine x_perm (wss' := [stO g a o v, cdW g a o c]) (x_pick [1, 0] 2 rfl rfl rfl) ?_
    exact x_aret C hr (Or.inl ⟨_, rfl⟩) ⟨by cases hf; rfl, by cases hf; rfl⟩ dX8_refusalToPour_14
theorem dX8_pourFromDish_0 : decode cX8_pourFromDish 0 = .ok (.aload_n 0, 1) := by decide +kernel
theorem dX8_pourFromDish_1 : decode cX8_pourFromDish 1 = .ok (.getfield 12, 3) := by decide +kernel
theorem dX8_pourFromDish_4 : decode cX8_pourFromDish 4 = .ok (.iload_n 1, 1) := by decide +kernel
theorem dX8_pourFromDish_5 : decode cX8_pourFromDish 5 = .ok (.invokevirtual 96, 3) := by decide +kernel
theorem dX8_pourFromDish_8 : decode cX8_pourFromDish 8 = .ok (.ifCond .ne 5, 3) := by decide +kernel
theorem dX8_pourFromDish_11 : decode cX8_pourFromDish 11 = .ok (.iconst (-1), 1) := by decide +kernel
theorem dX8_pourFromDish_12 : decode cX8_pourFromDish 12 = .ok (.ireturn, 1) := by decide +kernel
theorem dX8_pourFromDish_13 : decode cX8_pourFromDish 13 = .ok (.aload_n 0, 1) := by decide +kernel
theorem dX8_pourFromDish_14 : decode cX8_pourFromDish 14 = .ok (.dup, 1) := by decide +kernel
theorem dX8_pourFromDish_15 : decode cX8_pourFromDish 15 = .ok (.getfield 29, 3) := by decide +kernel
theorem dX8_pourFromDish_18 : decode cX8_pourFromDish 18 = .ok (.iload_n 2, 1) := by decide +kernel
theorem dX8_pourFromDish_19 : decode cX8_pourFromDish 19 = .ok (.isub, 1) := by decide +kernel
theorem dX8_pourFromDish_20 : decode cX8_pourFromDish 20 = .ok (.putfield 29, 3) := by decide +kernel
theorem dX8_pourFromDish_23 : decode cX8_pourFromDish 23 = .ok (.aload_n 0, 1) := by decide +kernel
theorem dX8_pourFromDish_24 : decode cX8_pourFromDish 24 = .ok (.getfield 12, 3) := by decide +kernel
theorem dX8_pourFromDish_27 : decode cX8_pourFromDish 27 = .ok (.getfield 85, 3) := by decide +kernel
theorem dX8_pourFromDish_30 : decode cX8_pourFromDish 30 = .ok (.iload_n 1, 1) := by decide +kernel
theorem dX8_pourFromDish_31 : decode cX8_pourFromDish 31 = .ok (.dup2, 1) := by decide +kernel
theorem dX8_pourFromDish_32 : decode cX8_pourFromDish 32 = .ok (.iaload, 1) := by decide +kernel
theorem dX8_pourFromDish_33 : decode cX8_pourFromDish 33 = .ok (.iload_n 2, 1) := by decide +kernel
theorem dX8_pourFromDish_34 : decode cX8_pourFromDish 34 = .ok (.iadd, 1) := by decide +kernel
theorem dX8_pourFromDish_35 : decode cX8_pourFromDish 35 = .ok (.iastore, 1) := by decide +kernel
theorem dX8_pourFromDish_36 : decode cX8_pourFromDish 36 = .ok (.aload_n 0, 1) := by decide +kernel
theorem dX8_pourFromDish_37 : decode cX8_pourFromDish 37 = .ok (.getfield 12, 3) := by decide +kernel
theorem dX8_pourFromDish_40 : decode cX8_pourFromDish 40 = .ok (.getfield 85, 3) := by decide +kernel
theorem dX8_pourFromDish_43 : decode cX8_pourFromDish 43 = .ok (.iload_n 1, 1) := by decide +kernel
theorem dX8_pourFromDish_44 : decode cX8_pourFromDish 44 = .ok (.iaload, 1) := by decide +kernel
theorem dX8_pourFromDish_45 : decode cX8_pourFromDish 45 = .ok (.ireturn, 1) := by decide +kernel
set_option maxHeartbeats 4000000 in
set_option maxRecDepth 100000 in
theorem c_X8_pourFromDish (g : xG) (l : Launch) (a : Nat → Nat) (o : Nat) (v : StS) (c : CdT) (x1 : Int32) (x2 : Int32) {u : Int32 × StS × CdT} (hf : f_X8_pourFromDish v c x1 x2 = some u) : ConD g l yX8_pourFromDish cX8_pourFromDish 3 (some .int) ({ frames := 1, cells := 0, slots := 0, locals := 21 } : Room) [.ref (a (o + 0)), .int x1, .int x2] [stO g a o v, cdW g a o c] (some (.int u.1)) [stO g a o u.2.1, cdW g a o u.2.2] := by
  unfold f_X8_pourFromDish at hf
  refine Con_of [stO g a o v, cdW g a o c] [(0, .ref (a (o + 0))), (1, .int x1), (2, .int x2)] rfl rfl (by decide) (Nat.le_of_ble_eq_true rfl) ?_
  intro pW eW sW mW argsW belowW methW c9 C hnm hr
  have C : CX g RX8 cX8_pourFromDish 3 _ pW sW mW argsW methW c9 := C
  refine x_aload_n C dX8_pourFromDish_0 rfl 0 rfl ?_
  refine x_get (ci := 9) (v := .ref (a (o + 1))) (b := stO g a o v) C ixX8 rfl 0 (by decide) wd_873 (fun _ h => h) 0 rfl 0 (stO_at0 g a o _) rfl dX8_pourFromDish_1 ?_
  refine x_iload_n C dX8_pourFromDish_4 rfl 1 rfl ?_
  obtain ⟨u1, hu1, hf⟩ := x_b hf
  refine x_callV (n := 1) (As := [.int x1]) (rest := []) C (c_X1_has g l a o c x1 hu1) ⟨⟨wd_70, wd_195, wd_27⟩, ⟨by decide, by decide, by decide⟩, rfl, rfl, Nat.le_of_ble_eq_true rfl, Nat.le_of_ble_eq_true rfl⟩ wd_68 wd_69 ⟨0, 4, _, _, rfl, rfl, rfl⟩ [stO g a o v] (x_pickD [1, 0] 2 rfl rfl rfl) rfl rfl (Nat.le_of_ble_eq_true rfl) ⟨Nat.le_of_ble_eq_true rfl, Nat.le_of_ble_eq_true rfl⟩ dX8_pourFromDish_5 (x_goD (wss2 := [cdW g a o c, stO g a o v]) (stk2 := [.int u1]) rfl rfl ?_)
  refine x_if_ne (tgt := 13) C dX8_pourFromDish_8 (by decide) (fun h2 => ?_) (fun h2 => ?_)
  · have hf := x_f h2 hf
    refine x_aload_n C dX8_pourFromDish_13 rfl 0 rfl ?_
    refine x_dup C dX8_pourFromDish_14 rfl ?_
    refine x_get (ci := 9) (v := .int v.2.1) (b := stO g a o v) C ixX8 rfl 3 (by decide) wd_879 (fun _ h => h) 1 rfl 0 (stO_at0 g a o _) rfl dX8_pourFromDish_15 ?_
    refine x_iload_n C dX8_pourFromDish_18 rfl 2 rfl ?_
    refine x_isub C dX8_pourFromDish_19 ?_
    refine x_put (ci := 9) (ty := .int) (v := .int (v.2.1 - x2)) (b := stO g a o v) (b' := stO g a o (v.1, v.2.1 - x2, v.2.2.1, v.2.2.2.1, v.2.2.2.2.1, v.2.2.2.2.2.1, v.2.2.2.2.2.2.1, v.2.2.2.2.2.2.2)) (wss' := [cdW g a o c, stO g a o (v.1, v.2.1 - x2, v.2.2.1, v.2.2.2.1, v.2.2.2.2.1, v.2.2.2.2.2.1, v.2.2.2.2.2.2.1, v.2.2.2.2.2.2.2)]) C ixX8 tyX8 tyX8_ok nmX8 rfl 3 (by decide) wd_879 (fun _ h => h) rfl (tyX8_ok 3 (by decide)) rfl rfl 1 rfl 0 (stO_at0 g a o _) (Nat.le_of_ble_eq_true rfl) rfl rfl dX8_pourFromDish_20 ?_
    refine x_aload_n C dX8_pourFromDish_23 rfl 0 rfl ?_
    refine x_get (ci := 9) (v := .ref (a (o + 1))) (b := stO g a o (v.1, v.2.1 - x2, v.2.2.1, v.2.2.2.1, v.2.2.2.2.1, v.2.2.2.2.2.1, v.2.2.2.2.2.2.1, v.2.2.2.2.2.2.2)) C ixX8 rfl 0 (by decide) wd_873 (fun _ h => h) 1 rfl 0 (stO_at0 g a o _) rfl dX8_pourFromDish_24 ?_
    refine x_get (ci := 4) (v := .ref (a (o + 3))) (b := cdW g a o c) C ixX1 rfl 1 (by decide) wd_823 (fun _ h => h) 0 rfl 0 (cdW_at0 g a o _) rfl dX8_pourFromDish_27 ?_
    refine x_iload_n C dX8_pourFromDish_30 rfl 1 rfl ?_
    refine x_dup2_11 C dX8_pourFromDish_31 rfl rfl ?_
    obtain ⟨h3, hf⟩ := x_n hf
    refine x_iald (b := cdW g a o c) C 0 rfl 2 (cdW_at2 g a o _) h3 dX8_pourFromDish_32 ?_
    refine x_iload_n C dX8_pourFromDish_33 rfl 2 rfl ?_
    refine x_iadd C dX8_pourFromDish_34 ?_
    obtain ⟨h4, hf⟩ := x_n hf
    refine x_iast (b := cdW g a o c) (b' := cdW g a o (c.1, upd c.2.1 x1.toNatClampNeg ((c.2.1 x1.toNatClampNeg) + x2), c.2.2.1, c.2.2.2.1, c.2.2.2.2)) (wss' := [cdW g a o (c.1, upd c.2.1 x1.toNatClampNeg ((c.2.1 x1.toNatClampNeg) + x2), c.2.2.1, c.2.2.2.1, c.2.2.2.2), stO g a o (v.1, v.2.1 - x2, v.2.2.1, v.2.2.2.1, v.2.2.2.2.1, v.2.2.2.2.2.1, v.2.2.2.2.2.2.1, v.2.2.2.2.2.2.2)]) C 0 rfl 2 (cdW_at2 g a o _) h4 rfl rfl dX8_pourFromDish_35 ?_
    refine x_aload_n C dX8_pourFromDish_36 rfl 0 rfl ?_
    refine x_get (ci := 9) (v := .ref (a (o + 1))) (b := stO g a o (v.1, v.2.1 - x2, v.2.2.1, v.2.2.2.1, v.2.2.2.2.1, v.2.2.2.2.2.1, v.2.2.2.2.2.2.1, v.2.2.2.2.2.2.2)) C ixX8 rfl 0 (by decide) wd_873 (fun _ h => h) 1 rfl 0 (stO_at0 g a o _) rfl dX8_pourFromDish_37 ?_
    refine x_get (ci := 4) (v := .ref (a (o + 3))) (b := cdW g a o (c.1, upd c.2.1 x1.toNatClampNeg ((c.2.1 x1.toNatClampNeg) + x2), c.2.2.1, c.2.2.2.1, c.2.2.2.2)) C ixX1 rfl 1 (by decide) wd_823 (fun _ h => h) 0 rfl 0 (cdW_at0 g a o _) rfl dX8_pourFromDish_40 ?_
    refine x_iload_n C dX8_pourFromDish_43 rfl 1 rfl ?_
    obtain ⟨h5, hf⟩ := x_n hf
    refine x_iald (b := cdW g a o (c.1, upd c.2.1 x1.toNatClampNeg ((c.2.1 x1.toNatClampNeg) + x2), c.2.2.1, c.2.2.2.1, c.2.2.2.2)) C 0 rfl 2 (cdW_at2 g a o _) h5 dX8_pourFromDish_44 ?_
    refine x_perm (wss' := [stO g a o (v.1, v.2.1 - x2, v.2.2.1, v.2.2.2.1, v.2.2.2.2.1, v.2.2.2.2.2.1, v.2.2.2.2.2.2.1, v.2.2.2.2.2.2.2), cdW g a o (c.1, upd c.2.1 x1.toNatClampNeg ((c.2.1 x1.toNatClampNeg) + x2), c.2.2.1, c.2.2.2.1, c.2.2.2.2)]) (x_pick [1, 0] 2 rfl rfl rfl) ?_
    exact x_iret C hr ⟨by cases hf; rfl, by cases hf; rfl⟩ dX8_pourFromDish_45
  · have hf := x_t h2 hf
    refine x_iconst (v := (-1)) C dX8_pourFromDish_11 (by decide) ?_
    refine x_perm (wss' := [stO g a o v, cdW g a o c]) (x_pick [1, 0] 2 rfl rfl rfl) ?_
    exact x_iret C hr ⟨by cases hf; rfl, by cases hf; rfl⟩ dX8_pourFromDish_12
theorem dX8_refusalToChangeDraught_0 : decode cX8_refusalToChangeDraught 0 = .ok (.iload_n 1, 1) := by decide +kernel
theorem dX8_refusalToChangeDraught_1 : decode cX8_refusalToChangeDraught 1 = .ok (.ifCond .lt 8, 3) := by decide +kernel
theorem dX8_refusalToChangeDraught_4 : decode cX8_refusalToChangeDraught 4 = .ok (.iload_n 1, 1) := by decide +kernel
theorem dX8_refusalToChangeDraught_5 : decode cX8_refusalToChangeDraught 5 = .ok (.iconst 3, 1) := by decide +kernel
theorem dX8_refusalToChangeDraught_6 : decode cX8_refusalToChangeDraught 6 = .ok (.if_icmp .le 9, 3) := by decide +kernel
theorem dX8_refusalToChangeDraught_9 : decode cX8_refusalToChangeDraught 9 = .ok (.getstatic 69, 3) := by decide +kernel
theorem dX8_refusalToChangeDraught_12 : decode cX8_refusalToChangeDraught 12 = .ok (.goto 6, 3) := by decide +kernel
theorem dX8_refusalToChangeDraught_15 : decode cX8_refusalToChangeDraught 15 = .ok (.getstatic 78, 3) := by decide +kernel
theorem dX8_refusalToChangeDraught_18 : decode cX8_refusalToChangeDraught 18 = .ok (.areturn, 1) := by decide +kernel
set_option maxHeartbeats 4000000 in
set_option maxRecDepth 100000 in
theorem c_X8_refusalToChangeDraught (g : xG) (l : Launch) (a : Nat → Nat) (o : Nat) (v : StS) (x1 : Int32) {u : Nat} (hf : f_X8_refusalToChangeDraught v x1 = some u) : ConD g l yX8_refusalToChangeDraught cX8_refusalToChangeDraught 2 (some (.object "CandleConcert$Refusal")) ({ frames := 0, cells := 0, slots := 0, locals := 0 } : Room) [.ref (a (o + 0)), .int x1] [stO g a o v] (some (.ref (g.2.2 (100 + u)))) [stO g a o v] := by
  unfold f_X8_refusalToChangeDraught at hf
  refine Con_of [stO g a o v] [(0, .ref (a (o + 0))), (1, .int x1)] rfl rfl (by decide) (Nat.le_of_ble_eq_true rfl) ?_
  intro pW eW sW mW argsW belowW methW c9 C hnm hr
  have C : CX g RX8 cX8_refusalToChangeDraught 2 _ pW sW mW argsW methW c9 := C
  refine x_iload_n C dX8_refusalToChangeDraught_0 rfl 1 rfl ?_
  refine x_if_lt (tgt := 9) C dX8_refusalToChangeDraught_1 (by decide) (fun h1 => ?_) (fun h1 => ?_)
  · have hf := x_t h1 hf
    refine x_gets (Cn := "CandleConcert$Refusal") (n := "OUT_OF_RANGE") (d := "LCandleConcert$Refusal;") C (CX_enR C 2 (by decide)) wd_691 (fun _ h => h) dX8_refusalToChangeDraught_9 ?_
    refine x_goto (tgt := 18) C dX8_refusalToChangeDraught_12 (by decide) ?_
    exact x_aret C hr (Or.inl ⟨_, rfl⟩) ⟨by cases hf; rfl, by cases hf; rfl⟩ dX8_refusalToChangeDraught_18
  · have hf := x_f h1 hf
    refine x_iload_n C dX8_refusalToChangeDraught_4 rfl 1 rfl ?_
    refine x_iconst (v := 3) C dX8_refusalToChangeDraught_5 (by decide) ?_
    refine x_icmp_le (tgt := 15) C dX8_refusalToChangeDraught_6 (by decide) (fun h2 => ?_) (fun h2 => ?_)
    · have hf := x_t h2 hf
      refine x_gets (Cn := "CandleConcert$Refusal") (n := "NOTHING") (d := "LCandleConcert$Refusal;") C (CX_enR C 0 (by decide)) wd_595 (fun _ h => h) dX8_refusalToChangeDraught_15 ?_
      exact x_aret C hr (Or.inl ⟨_, rfl⟩) ⟨by cases hf; rfl, by cases hf; rfl⟩ dX8_refusalToChangeDraught_18
    · have hf := x_f h2 hf
      refine x_gets (Cn := "CandleConcert$Refusal") (n := "OUT_OF_RANGE") (d := "LCandleConcert$Refusal;") C (CX_enR C 2 (by decide)) wd_691 (fun _ h => h) dX8_refusalToChangeDraught_9 ?_
      refine x_goto (tgt := 18) C dX8_refusalToChangeDraught_12 (by decide) ?_
      exact x_aret C hr (Or.inl ⟨_, rfl⟩) ⟨by cases hf; rfl, by cases hf; rfl⟩ dX8_refusalToChangeDraught_18
theorem dX8_changeDraught_0 : decode cX8_changeDraught 0 = .ok (.aload_n 0, 1) := by decide +kernel
theorem dX8_changeDraught_1 : decode cX8_changeDraught 1 = .ok (.getfield 25, 3) := by decide +kernel
theorem dX8_changeDraught_4 : decode cX8_changeDraught 4 = .ok (.istore_n 2, 1) := by decide +kernel
theorem dX8_changeDraught_5 : decode cX8_changeDraught 5 = .ok (.aload_n 0, 1) := by decide +kernel
theorem dX8_changeDraught_6 : decode cX8_changeDraught 6 = .ok (.iload_n 1, 1) := by decide +kernel
theorem dX8_changeDraught_7 : decode cX8_changeDraught 7 = .ok (.putfield 25, 3) := by decide +kernel
theorem dX8_changeDraught_10 : decode cX8_changeDraught 10 = .ok (.iload_n 2, 1) := by decide +kernel
theorem dX8_changeDraught_11 : decode cX8_changeDraught 11 = .ok (.ireturn, 1) := by decide +kernel
set_option maxHeartbeats 4000000 in
set_option maxRecDepth 100000 in
theorem c_X8_changeDraught (g : xG) (l : Launch) (a : Nat → Nat) (o : Nat) (v : StS) (x1 : Int32) {u : Int32 × StS} (hf : f_X8_changeDraught v x1 = some u) : ConD g l yX8_changeDraught cX8_changeDraught 3 (some .int) ({ frames := 0, cells := 0, slots := 0, locals := 0 } : Room) [.ref (a (o + 0)), .int x1] [stO g a o v] (some (.int u.1)) [stO g a o u.2] := by
  unfold f_X8_changeDraught at hf
  refine Con_of [stO g a o v] [(0, .ref (a (o + 0))), (1, .int x1)] rfl rfl (by decide) (Nat.le_of_ble_eq_true rfl) ?_
  intro pW eW sW mW argsW belowW methW c9 C hnm hr
  have C : CX g RX8 cX8_changeDraught 3 _ pW sW mW argsW methW c9 := C
  refine x_aload_n C dX8_changeDraught_0 rfl 0 rfl ?_
  refine x_get (ci := 9) (v := .int v.1) (b := stO g a o v) C ixX8 rfl 2 (by decide) wd_877 (fun _ h => h) 0 rfl 0 (stO_at0 g a o _) rfl dX8_changeDraught_1 ?_
  refine x_istore_n (lv' := [(2, .int v.1), (0, .ref (a (o + 0))), (1, .int x1)]) C dX8_changeDraught_4 rfl (by decide) rfl ?_
  refine x_aload_n C dX8_changeDraught_5 rfl 1 rfl ?_
  refine x_iload_n C dX8_changeDraught_6 rfl 2 rfl ?_
  refine x_put (ci := 9) (ty := .int) (v := .int x1) (b := stO g a o v) (b' := stO g a o (x1, v.2.1, v.2.2.1, v.2.2.2.1, v.2.2.2.2.1, v.2.2.2.2.2.1, v.2.2.2.2.2.2.1, v.2.2.2.2.2.2.2)) (wss' := [stO g a o (x1, v.2.1, v.2.2.1, v.2.2.2.1, v.2.2.2.2.1, v.2.2.2.2.2.1, v.2.2.2.2.2.2.1, v.2.2.2.2.2.2.2)]) C ixX8 tyX8 tyX8_ok nmX8 rfl 2 (by decide) wd_877 (fun _ h => h) rfl (tyX8_ok 2 (by decide)) rfl rfl 0 rfl 0 (stO_at0 g a o _) (Nat.le_of_ble_eq_true rfl) rfl rfl dX8_changeDraught_7 ?_
  refine x_iload_n C dX8_changeDraught_10 rfl 0 rfl ?_
  exact x_iret C hr ⟨by cases hf; rfl, by cases hf; rfl⟩ dX8_changeDraught_11
theorem wd_708 : Cond.methodLink RX8 122 yX3_isFull ∈ xTB := xTB_in 708 (by decide +kernel) (by decide +kernel)
theorem wd_712 : Cond.fieldLink RX8 126 "CandleConcert$Refusal" "TOO_MANY_EVENTS" "LCandleConcert$Refusal;" ∈ xTB := xTB_in 712 (by decide +kernel) (by decide +kernel)
theorem dX8_refusalToSchedule_0 : decode cX8_refusalToSchedule 0 = .ok (.iload_n 1, 1) := by decide +kernel
theorem dX8_refusalToSchedule_1 : decode cX8_refusalToSchedule 1 = .ok (.aload_n 0, 1) := by decide +kernel
theorem dX8_refusalToSchedule_2 : decode cX8_refusalToSchedule 2 = .ok (.getfield 32, 3) := by decide +kernel
theorem dX8_refusalToSchedule_5 : decode cX8_refusalToSchedule 5 = .ok (.if_icmp .le 15, 3) := by decide +kernel
theorem dX8_refusalToSchedule_8 : decode cX8_refusalToSchedule 8 = .ok (.iload_n 1, 1) := by decide +kernel
theorem dX8_refusalToSchedule_9 : decode cX8_refusalToSchedule 9 = .ok (.aload_n 0, 1) := by decide +kernel
theorem dX8_refusalToSchedule_10 : decode cX8_refusalToSchedule 10 = .ok (.getfield 32, 3) := by decide +kernel
theorem dX8_refusalToSchedule_13 : decode cX8_refusalToSchedule 13 = .ok (.isub, 1) := by decide +kernel
theorem dX8_refusalToSchedule_14 : decode cX8_refusalToSchedule 14 = .ok (.sipush 999, 3) := by decide +kernel
theorem dX8_refusalToSchedule_17 : decode cX8_refusalToSchedule 17 = .ok (.if_icmp .le 7, 3) := by decide +kernel
theorem dX8_refusalToSchedule_20 : decode cX8_refusalToSchedule 20 = .ok (.getstatic 69, 3) := by decide +kernel
theorem dX8_refusalToSchedule_23 : decode cX8_refusalToSchedule 23 = .ok (.areturn, 1) := by decide +kernel
theorem dX8_refusalToSchedule_24 : decode cX8_refusalToSchedule 24 = .ok (.aload_n 0, 1) := by decide +kernel
theorem dX8_refusalToSchedule_25 : decode cX8_refusalToSchedule 25 = .ok (.getfield 12, 3) := by decide +kernel
theorem dX8_refusalToSchedule_28 : decode cX8_refusalToSchedule 28 = .ok (.iload_n 2, 1) := by decide +kernel
theorem dX8_refusalToSchedule_29 : decode cX8_refusalToSchedule 29 = .ok (.invokevirtual 96, 3) := by decide +kernel
theorem dX8_refusalToSchedule_32 : decode cX8_refusalToSchedule 32 = .ok (.ifCond .ne 7, 3) := by decide +kernel
theorem dX8_refusalToSchedule_35 : decode cX8_refusalToSchedule 35 = .ok (.getstatic 100, 3) := by decide +kernel
theorem dX8_refusalToSchedule_38 : decode cX8_refusalToSchedule 38 = .ok (.areturn, 1) := by decide +kernel
theorem dX8_refusalToSchedule_39 : decode cX8_refusalToSchedule 39 = .ok (.aload_n 0, 1) := by decide +kernel
theorem dX8_refusalToSchedule_40 : decode cX8_refusalToSchedule 40 = .ok (.getfield 21, 3) := by decide +kernel
theorem dX8_refusalToSchedule_43 : decode cX8_refusalToSchedule 43 = .ok (.invokevirtual 122, 3) := by decide +kernel
theorem dX8_refusalToSchedule_46 : decode cX8_refusalToSchedule 46 = .ok (.ifCond .eq 9, 3) := by decide +kernel
theorem dX8_refusalToSchedule_49 : decode cX8_refusalToSchedule 49 = .ok (.getstatic 126, 3) := by decide +kernel
theorem dX8_refusalToSchedule_52 : decode cX8_refusalToSchedule 52 = .ok (.goto 6, 3) := by decide +kernel
theorem dX8_refusalToSchedule_55 : decode cX8_refusalToSchedule 55 = .ok (.getstatic 78, 3) := by decide +kernel
theorem dX8_refusalToSchedule_58 : decode cX8_refusalToSchedule 58 = .ok (.areturn, 1) := by decide +kernel
set_option maxHeartbeats 4000000 in
set_option maxRecDepth 100000 in
theorem c_X8_refusalToSchedule (g : xG) (l : Launch) (a : Nat → Nat) (o : Nat) (v : StS) (c : CdT) (e : EvT) (x1 : Int32) (x2 : Int32) {u : Nat} (hf : f_X8_refusalToSchedule v c e x1 x2 = some u) : ConD g l yX8_refusalToSchedule cX8_refusalToSchedule 3 (some (.object "CandleConcert$Refusal")) ({ frames := 1, cells := 0, slots := 0, locals := 21 } : Room) [.ref (a (o + 0)), .int x1, .int x2] [stO g a o v, cdW g a o c, evW g a o e] (some (.ref (g.2.2 (100 + u)))) [stO g a o v, cdW g a o c, evW g a o e] := by
  unfold f_X8_refusalToSchedule at hf
  refine Con_of [stO g a o v, cdW g a o c, evW g a o e] [(0, .ref (a (o + 0))), (1, .int x1), (2, .int x2)] rfl rfl (by decide) (Nat.le_of_ble_eq_true rfl) ?_
  intro pW eW sW mW argsW belowW methW c9 C hnm hr
  have C : CX g RX8 cX8_refusalToSchedule 3 _ pW sW mW argsW methW c9 := C
  refine x_iload_n C dX8_refusalToSchedule_0 rfl 1 rfl ?_
  refine x_aload_n C dX8_refusalToSchedule_1 rfl 0 rfl ?_
  refine x_get (ci := 9) (v := .int v.2.2.1) (b := stO g a o v) C ixX8 rfl 4 (by decide) wd_881 (fun _ h => h) 0 rfl 0 (stO_at0 g a o _) rfl dX8_refusalToSchedule_2 ?_
  refine x_icmp_le (tgt := 20) C dX8_refusalToSchedule_5 (by decide) (fun h1 => ?_) (fun h1 => ?_)
  · have hf := x_t h1 hf
    refine x_gets (Cn := "CandleConcert$Refusal") (n := "OUT_OF_RANGE") (d := "LCandleConcert$Refusal;") C (CX_enR C 2 (by decide)) wd_691 (fun _ h => h) dX8_refusalToSchedule_20 ?_
    exact x_aret C hr (Or.inl ⟨_, rfl⟩) ⟨by cases hf; rfl, by cases hf; rfl⟩ dX8_refusalToSchedule_23
  · have hf := x_f h1 hf
    refine x_iload_n C dX8_refusalToSchedule_8 rfl 1 rfl ?_
    refine x_aload_n C dX8_refusalToSchedule_9 rfl 0 rfl ?_
    refine x_get (ci := 9) (v := .int v.2.2.1) (b := stO g a o v) C ixX8 rfl 4 (by decide) wd_881 (fun _ h => h) 0 rfl 0 (stO_at0 g a o _) rfl dX8_refusalToSchedule_10 ?_
    refine x_isub C dX8_refusalToSchedule_13 ?_
    refine x_sipush (v := 999) C dX8_refusalToSchedule_14 (by decide) ?_
    refine x_icmp_le (tgt := 24) C dX8_refusalToSchedule_17 (by decide) (fun h2 => ?_) (fun h2 => ?_)
    · have hf := x_t h2 hf
      refine x_aload_n C dX8_refusalToSchedule_24 rfl 0 rfl ?_
      refine x_get (ci := 9) (v := .ref (a (o + 1))) (b := stO g a o v) C ixX8 rfl 0 (by decide) wd_873 (fun _ h => h) 0 rfl 0 (stO_at0 g a o _) rfl dX8_refusalToSchedule_25 ?_
      refine x_iload_n C dX8_refusalToSchedule_28 rfl 2 rfl ?_
      obtain ⟨u3, hu3, hf⟩ := x_b hf
      refine x_callV (n := 1) (As := [.int x2]) (rest := []) C (c_X1_has g l a o c x2 hu3) ⟨⟨wd_70, wd_195, wd_27⟩, ⟨by decide, by decide, by decide⟩, rfl, rfl, Nat.le_of_ble_eq_true rfl, Nat.le_of_ble_eq_true rfl⟩ wd_68 wd_69 ⟨0, 4, _, _, rfl, rfl, rfl⟩ [stO g a o v, evW g a o e] (x_pickD [1, 0, 2] 3 rfl rfl rfl) rfl rfl (Nat.le_of_ble_eq_true rfl) ⟨Nat.le_of_ble_eq_true rfl, Nat.le_of_ble_eq_true rfl⟩ dX8_refusalToSchedule_29 (x_goD (wss2 := [cdW g a o c, stO g a o v, evW g a o e]) (stk2 := [.int u3]) rfl rfl ?_)
      refine x_if_ne (tgt := 39) C dX8_refusalToSchedule_32 (by decide) (fun h4 => ?_) (fun h4 => ?_)
      · have hf := x_f h4 hf
        refine x_aload_n C dX8_refusalToSchedule_39 rfl 0 rfl ?_
        refine x_get (ci := 9) (v := .ref (a (o + 6))) (b := stO g a o v) C ixX8 rfl 1 (by decide) wd_875 (fun _ h => h) 1 rfl 0 (stO_at0 g a o _) rfl dX8_refusalToSchedule_40 ?_
        obtain ⟨u5, hu5, hf⟩ := x_b hf
        refine x_callV (n := 0) (As := []) (rest := []) C (c_X3_isFull g l a o e hu5) ⟨⟨wd_711, wd_708, wd_28⟩, ⟨by decide, by decide, by decide⟩, rfl, rfl, Nat.le_of_ble_eq_true rfl, Nat.le_of_ble_eq_true rfl⟩ wd_709 wd_710 ⟨0, 6, _, _, rfl, rfl, rfl⟩ [cdW g a o c, stO g a o v] (x_pickD [2, 0, 1] 3 rfl rfl rfl) rfl rfl (Nat.le_of_ble_eq_true rfl) ⟨Nat.le_of_ble_eq_true rfl, Nat.le_of_ble_eq_true rfl⟩ dX8_refusalToSchedule_43 (x_goD (wss2 := [evW g a o e, cdW g a o c, stO g a o v]) (stk2 := [.int u5]) rfl rfl ?_)
        refine x_if_eq (tgt := 55) C dX8_refusalToSchedule_46 (by decide) (fun h6 => ?_) (fun h6 => ?_)
        · have hf := x_t h6 hf
          refine x_gets (Cn := "CandleConcert$Refusal") (n := "NOTHING") (d := "LCandleConcert$Refusal;") C (CX_enR C 0 (by decide)) wd_595 (fun _ h => h) dX8_refusalToSchedule_55 ?_
          refine x_perm (wss' := [stO g a o v, cdW g a o c, evW g a o e]) (x_pick [2, 1, 0] 3 rfl rfl rfl) ?_
          exact x_aret C hr (Or.inl ⟨_, rfl⟩) ⟨by cases hf; rfl, by cases hf; rfl⟩ dX8_refusalToSchedule_58
        · have hf := x_f h6 hf
          refine x_gets (Cn := "CandleConcert$Refusal") (n := "TOO_MANY_EVENTS") (d := "LCandleConcert$Refusal;") C (CX_enR C 8 (by decide)) wd_712 (fun _ h => h) dX8_refusalToSchedule_49 ?_
          refine x_goto (tgt := 58) C dX8_refusalToSchedule_52 (by decide) ?_
          refine x_perm (wss' := [stO g a o v, cdW g a o c, evW g a o e]) (x_pick [2, 1, 0] 3 rfl rfl rfl) ?_
          exact x_aret C hr (Or.inl ⟨_, rfl⟩) ⟨by cases hf; rfl, by cases hf; rfl⟩ dX8_refusalToSchedule_58
      · have hf := x_t h4 hf
        refine x_gets (Cn := "CandleConcert$Refusal") (n := "NO_SUCH_CANDLE") (d := "LCandleConcert$Refusal;") C (CX_enR C 3 (by decide)) wd_589 (fun _ h => h) dX8_refusalToSchedule_35 ?_
        refine x_perm (wss' := [stO g a o v, cdW g a o c, evW g a o e]) (x_pick [1, 0, 2] 3 rfl rfl rfl) ?_
        exact x_aret C hr (Or.inl ⟨_, rfl⟩) ⟨by cases hf; rfl, by cases hf; rfl⟩ dX8_refusalToSchedule_38
    · have hf := x_f h2 hf
      refine x_gets (Cn := "CandleConcert$Refusal") (n := "OUT_OF_RANGE") (d := "LCandleConcert$Refusal;") C (CX_enR C 2 (by decide)) wd_691 (fun _ h => h) dX8_refusalToSchedule_20 ?_
      exact x_aret C hr (Or.inl ⟨_, rfl⟩) ⟨by cases hf; rfl, by cases hf; rfl⟩ dX8_refusalToSchedule_23
theorem dX8_refusalToPass_0 : decode cX8_refusalToPass 0 = .ok (.iload_n 1, 1) := by decide +kernel
theorem dX8_refusalToPass_1 : decode cX8_refusalToPass 1 = .ok (.iconst 1, 1) := by decide +kernel
theorem dX8_refusalToPass_2 : decode cX8_refusalToPass 2 = .ok (.if_icmp .lt 10, 3) := by decide +kernel
theorem dX8_refusalToPass_5 : decode cX8_refusalToPass 5 = .ok (.iload_n 1, 1) := by decide +kernel
theorem dX8_refusalToPass_6 : decode cX8_refusalToPass 6 = .ok (.sipush 240, 3) := by decide +kernel
theorem dX8_refusalToPass_9 : decode cX8_refusalToPass 9 = .ok (.if_icmp .le 9, 3) := by decide +kernel
theorem dX8_refusalToPass_12 : decode cX8_refusalToPass 12 = .ok (.getstatic 69, 3) := by decide +kernel
theorem dX8_refusalToPass_15 : decode cX8_refusalToPass 15 = .ok (.goto 6, 3) := by decide +kernel
theorem dX8_refusalToPass_18 : decode cX8_refusalToPass 18 = .ok (.getstatic 78, 3) := by decide +kernel
theorem dX8_refusalToPass_21 : decode cX8_refusalToPass 21 = .ok (.areturn, 1) := by decide +kernel
set_option maxHeartbeats 4000000 in
set_option maxRecDepth 100000 in
theorem c_X8_refusalToPass (g : xG) (l : Launch) (a : Nat → Nat) (o : Nat) (v : StS) (x1 : Int32) {u : Nat} (hf : f_X8_refusalToPass v x1 = some u) : ConD g l yX8_refusalToPass cX8_refusalToPass 2 (some (.object "CandleConcert$Refusal")) ({ frames := 0, cells := 0, slots := 0, locals := 0 } : Room) [.ref (a (o + 0)), .int x1] [stO g a o v] (some (.ref (g.2.2 (100 + u)))) [stO g a o v] := by
  unfold f_X8_refusalToPass at hf
  refine Con_of [stO g a o v] [(0, .ref (a (o + 0))), (1, .int x1)] rfl rfl (by decide) (Nat.le_of_ble_eq_true rfl) ?_
  intro pW eW sW mW argsW belowW methW c9 C hnm hr
  have C : CX g RX8 cX8_refusalToPass 2 _ pW sW mW argsW methW c9 := C
  refine x_iload_n C dX8_refusalToPass_0 rfl 1 rfl ?_
  refine x_iconst (v := 1) C dX8_refusalToPass_1 (by decide) ?_
  refine x_icmp_lt (tgt := 12) C dX8_refusalToPass_2 (by decide) (fun h1 => ?_) (fun h1 => ?_)
  · have hf := x_t h1 hf
    refine x_gets (Cn := "CandleConcert$Refusal") (n := "OUT_OF_RANGE") (d := "LCandleConcert$Refusal;") C (CX_enR C 2 (by decide)) wd_691 (fun _ h => h) dX8_refusalToPass_12 ?_
    refine x_goto (tgt := 21) C dX8_refusalToPass_15 (by decide) ?_
    exact x_aret C hr (Or.inl ⟨_, rfl⟩) ⟨by cases hf; rfl, by cases hf; rfl⟩ dX8_refusalToPass_21
  · have hf := x_f h1 hf
    refine x_iload_n C dX8_refusalToPass_5 rfl 1 rfl ?_
    refine x_sipush (v := 240) C dX8_refusalToPass_6 (by decide) ?_
    refine x_icmp_le (tgt := 18) C dX8_refusalToPass_9 (by decide) (fun h2 => ?_) (fun h2 => ?_)
    · have hf := x_t h2 hf
      refine x_gets (Cn := "CandleConcert$Refusal") (n := "NOTHING") (d := "LCandleConcert$Refusal;") C (CX_enR C 0 (by decide)) wd_595 (fun _ h => h) dX8_refusalToPass_18 ?_
      exact x_aret C hr (Or.inl ⟨_, rfl⟩) ⟨by cases hf; rfl, by cases hf; rfl⟩ dX8_refusalToPass_21
    · have hf := x_f h2 hf
      refine x_gets (Cn := "CandleConcert$Refusal") (n := "OUT_OF_RANGE") (d := "LCandleConcert$Refusal;") C (CX_enR C 2 (by decide)) wd_691 (fun _ h => h) dX8_refusalToPass_12 ?_
      refine x_goto (tgt := 21) C dX8_refusalToPass_15 (by decide) ?_
      exact x_aret C hr (Or.inl ⟨_, rfl⟩) ⟨by cases hf; rfl, by cases hf; rfl⟩ dX8_refusalToPass_21
theorem dX8_recordFailure_0 : decode cX8_recordFailure 0 = .ok (.aload_n 0, 1) := by decide +kernel
theorem dX8_recordFailure_1 : decode cX8_recordFailure 1 = .ok (.dup, 1) := by decide +kernel
theorem dX8_recordFailure_2 : decode cX8_recordFailure 2 = .ok (.getfield 42, 3) := by decide +kernel
theorem dX8_recordFailure_5 : decode cX8_recordFailure 5 = .ok (.iconst 1, 1) := by decide +kernel
theorem dX8_recordFailure_6 : decode cX8_recordFailure 6 = .ok (.iadd, 1) := by decide +kernel
theorem dX8_recordFailure_7 : decode cX8_recordFailure 7 = .ok (.putfield 42, 3) := by decide +kernel
theorem dX8_recordFailure_10 : decode cX8_recordFailure 10 = .ok (.aload_n 0, 1) := by decide +kernel
theorem dX8_recordFailure_11 : decode cX8_recordFailure 11 = .ok (.iload_n 1, 1) := by decide +kernel
theorem dX8_recordFailure_12 : decode cX8_recordFailure 12 = .ok (.putfield 45, 3) := by decide +kernel
theorem dX8_recordFailure_15 : decode cX8_recordFailure 15 = .ok (.return_, 1) := by decide +kernel
set_option maxHeartbeats 4000000 in
set_option maxRecDepth 100000 in
theorem c_X8_recordFailure (g : xG) (l : Launch) (a : Nat → Nat) (o : Nat) (v : StS) (x1 : Int32) {u : StS} (hf : f_X8_recordFailure v x1 = some u) : ConD g l yX8_recordFailure cX8_recordFailure 2 none ({ frames := 0, cells := 0, slots := 0, locals := 0 } : Room) [.ref (a (o + 0)), .int x1] [stO g a o v] (none) [stO g a o u] := by
  unfold f_X8_recordFailure at hf
  refine Con_of [stO g a o v] [(0, .ref (a (o + 0))), (1, .int x1)] rfl rfl (by decide) (Nat.le_of_ble_eq_true rfl) ?_
  intro pW eW sW mW argsW belowW methW c9 C hnm hr
  have C : CX g RX8 cX8_recordFailure 2 _ pW sW mW argsW methW c9 := C
  refine x_aload_n C dX8_recordFailure_0 rfl 0 rfl ?_
  refine x_dup C dX8_recordFailure_1 rfl ?_
  refine x_get (ci := 9) (v := .int v.2.2.2.2.2.1) (b := stO g a o v) C ixX8 rfl 7 (by decide) wd_887 (fun _ h => h) 0 rfl 0 (stO_at0 g a o _) rfl dX8_recordFailure_2 ?_
  refine x_iconst (v := 1) C dX8_recordFailure_5 (by decide) ?_
  refine x_iadd C dX8_recordFailure_6 ?_
  refine x_put (ci := 9) (ty := .int) (v := .int (v.2.2.2.2.2.1 + (1 : Int32))) (b := stO g a o v) (b' := stO g a o (v.1, v.2.1, v.2.2.1, v.2.2.2.1, v.2.2.2.2.1, v.2.2.2.2.2.1 + (1 : Int32), v.2.2.2.2.2.2.1, v.2.2.2.2.2.2.2)) (wss' := [stO g a o (v.1, v.2.1, v.2.2.1, v.2.2.2.1, v.2.2.2.2.1, v.2.2.2.2.2.1 + (1 : Int32), v.2.2.2.2.2.2.1, v.2.2.2.2.2.2.2)]) C ixX8 tyX8 tyX8_ok nmX8 rfl 7 (by decide) wd_887 (fun _ h => h) rfl (tyX8_ok 7 (by decide)) rfl rfl 0 rfl 0 (stO_at0 g a o _) (Nat.le_of_ble_eq_true rfl) rfl rfl dX8_recordFailure_7 ?_
  refine x_aload_n C dX8_recordFailure_10 rfl 0 rfl ?_
  refine x_iload_n C dX8_recordFailure_11 rfl 1 rfl ?_
  obtain ⟨h1, hf⟩ := x_y hf
  refine x_put (ci := 9) (ty := .char) (v := .int x1) (b := stO g a o (v.1, v.2.1, v.2.2.1, v.2.2.2.1, v.2.2.2.2.1, v.2.2.2.2.2.1 + (1 : Int32), v.2.2.2.2.2.2.1, v.2.2.2.2.2.2.2)) (b' := stO g a o (v.1, v.2.1, v.2.2.1, v.2.2.2.1, v.2.2.2.2.1, v.2.2.2.2.2.1 + (1 : Int32), x1, v.2.2.2.2.2.2.2)) (wss' := [stO g a o (v.1, v.2.1, v.2.2.1, v.2.2.2.1, v.2.2.2.2.1, v.2.2.2.2.2.1 + (1 : Int32), x1, v.2.2.2.2.2.2.2)]) C ixX8 tyX8 tyX8_ok nmX8 rfl 8 (by decide) wd_889 (fun _ h => h) rfl (tyX8_ok 8 (by decide)) (x_narC h1).1 (x_narC h1).2 0 rfl 0 (stO_at0 g a o _) (Nat.le_of_ble_eq_true rfl) rfl rfl dX8_recordFailure_12 ?_
  exact x_vret C hr ⟨by cases hf; rfl, by cases hf; rfl⟩ dX8_recordFailure_15
theorem wd_4 : Cond.selects yX8_recordFailure.cls yX8_recordFailure yX8_recordFailure ∈ xTB := xTB_in 4 (by decide +kernel) (by decide +kernel)
theorem wd_26 : Cond.initialized RX8 ∈ xTB := xTB_in 26 (by decide +kernel) (by decide +kernel)
theorem wd_196 : Cond.methodLink RX8 157 yX8_recordFailure ∈ xTB := xTB_in 196 (by decide +kernel) (by decide +kernel)
theorem wd_198 : Cond.instanceMethod yX8_recordFailure ∈ xTB := xTB_in 198 (by decide +kernel) (by decide +kernel)
theorem wd_199 : Cond.code yX8_recordFailure cX8_recordFailure 2 none ∈ xTB := xTB_in 199 (by decide +kernel) (by decide +kernel)
theorem dX8_carryOut_0 : decode cX8_carryOut 0 = .ok (.aload_n 0, 1) := by decide +kernel
theorem dX8_carryOut_1 : decode cX8_carryOut 1 = .ok (.getfield 12, 3) := by decide +kernel
theorem dX8_carryOut_4 : decode cX8_carryOut 4 = .ok (.iload_n 1, 1) := by decide +kernel
theorem dX8_carryOut_5 : decode cX8_carryOut 5 = .ok (.invokevirtual 96, 3) := by decide +kernel
theorem dX8_carryOut_8 : decode cX8_carryOut 8 = .ok (.ifCond .ne 4, 3) := by decide +kernel
theorem dX8_carryOut_11 : decode cX8_carryOut 11 = .ok (.return_, 1) := by decide +kernel
theorem dX8_carryOut_12 : decode cX8_carryOut 12 = .ok (.iload_n 2, 1) := by decide +kernel
theorem dX8_carryOut_13 : decode cX8_carryOut 13 = .ok (.ifCond .eq 24, 3) := by decide +kernel
theorem dX8_carryOut_16 : decode cX8_carryOut 16 = .ok (.aload_n 0, 1) := by decide +kernel
theorem dX8_carryOut_17 : decode cX8_carryOut 17 = .ok (.getfield 12, 3) := by decide +kernel
theorem dX8_carryOut_20 : decode cX8_carryOut 20 = .ok (.getfield 92, 3) := by decide +kernel
theorem dX8_carryOut_23 : decode cX8_carryOut 23 = .ok (.iload_n 1, 1) := by decide +kernel
theorem dX8_carryOut_24 : decode cX8_carryOut 24 = .ok (.baload, 1) := by decide +kernel
theorem dX8_carryOut_25 : decode cX8_carryOut 25 = .ok (.ifCond .eq 12, 3) := by decide +kernel
theorem dX8_carryOut_28 : decode cX8_carryOut 28 = .ok (.aload_n 0, 1) := by decide +kernel
theorem dX8_carryOut_29 : decode cX8_carryOut 29 = .ok (.bipush 108, 2) := by decide +kernel
theorem dX8_carryOut_31 : decode cX8_carryOut 31 = .ok (.invokevirtual 157, 3) := by decide +kernel
theorem dX8_carryOut_34 : decode cX8_carryOut 34 = .ok (.goto 63, 3) := by decide +kernel
theorem dX8_carryOut_37 : decode cX8_carryOut 37 = .ok (.iload_n 2, 1) := by decide +kernel
theorem dX8_carryOut_38 : decode cX8_carryOut 38 = .ok (.ifCond .eq 24, 3) := by decide +kernel
theorem dX8_carryOut_41 : decode cX8_carryOut 41 = .ok (.aload_n 0, 1) := by decide +kernel
theorem dX8_carryOut_42 : decode cX8_carryOut 42 = .ok (.getfield 12, 3) := by decide +kernel
theorem dX8_carryOut_45 : decode cX8_carryOut 45 = .ok (.getfield 85, 3) := by decide +kernel
theorem dX8_carryOut_48 : decode cX8_carryOut 48 = .ok (.iload_n 1, 1) := by decide +kernel
theorem dX8_carryOut_49 : decode cX8_carryOut 49 = .ok (.iaload, 1) := by decide +kernel
theorem dX8_carryOut_50 : decode cX8_carryOut 50 = .ok (.ifCond .ne 12, 3) := by decide +kernel
theorem dX8_carryOut_53 : decode cX8_carryOut 53 = .ok (.aload_n 0, 1) := by decide +kernel
theorem dX8_carryOut_54 : decode cX8_carryOut 54 = .ok (.bipush 119, 2) := by decide +kernel
theorem dX8_carryOut_56 : decode cX8_carryOut 56 = .ok (.invokevirtual 157, 3) := by decide +kernel
theorem dX8_carryOut_59 : decode cX8_carryOut 59 = .ok (.goto 38, 3) := by decide +kernel
theorem dX8_carryOut_62 : decode cX8_carryOut 62 = .ok (.iload_n 2, 1) := by decide +kernel
theorem dX8_carryOut_63 : decode cX8_carryOut 63 = .ok (.ifCond .ne 24, 3) := by decide +kernel
theorem dX8_carryOut_66 : decode cX8_carryOut 66 = .ok (.aload_n 0, 1) := by decide +kernel
theorem dX8_carryOut_67 : decode cX8_carryOut 67 = .ok (.getfield 12, 3) := by decide +kernel
theorem dX8_carryOut_70 : decode cX8_carryOut 70 = .ok (.getfield 92, 3) := by decide +kernel
theorem dX8_carryOut_73 : decode cX8_carryOut 73 = .ok (.iload_n 1, 1) := by decide +kernel
theorem dX8_carryOut_74 : decode cX8_carryOut 74 = .ok (.baload, 1) := by decide +kernel
theorem dX8_carryOut_75 : decode cX8_carryOut 75 = .ok (.ifCond .ne 12, 3) := by decide +kernel
theorem dX8_carryOut_78 : decode cX8_carryOut 78 = .ok (.aload_n 0, 1) := by decide +kernel
theorem dX8_carryOut_79 : decode cX8_carryOut 79 = .ok (.bipush 110, 2) := by decide +kernel
theorem dX8_carryOut_81 : decode cX8_carryOut 81 = .ok (.invokevirtual 157, 3) := by decide +kernel
theorem dX8_carryOut_84 : decode cX8_carryOut 84 = .ok (.goto 13, 3) := by decide +kernel
theorem dX8_carryOut_87 : decode cX8_carryOut 87 = .ok (.aload_n 0, 1) := by decide +kernel
theorem dX8_carryOut_88 : decode cX8_carryOut 88 = .ok (.getfield 12, 3) := by decide +kernel
theorem dX8_carryOut_91 : decode cX8_carryOut 91 = .ok (.getfield 92, 3) := by decide +kernel
theorem dX8_carryOut_94 : decode cX8_carryOut 94 = .ok (.iload_n 1, 1) := by decide +kernel
theorem dX8_carryOut_95 : decode cX8_carryOut 95 = .ok (.iload_n 2, 1) := by decide +kernel
theorem dX8_carryOut_96 : decode cX8_carryOut 96 = .ok (.bastore, 1) := by decide +kernel
theorem dX8_carryOut_97 : decode cX8_carryOut 97 = .ok (.return_, 1) := by decide +kernel
set_option maxHeartbeats 4000000 in
set_option maxRecDepth 100000 in
theorem c_X8_carryOut (g : xG) (l : Launch) (a : Nat → Nat) (o : Nat) (v : StS) (c : CdT) (x1 : Int32) (x2 : Int32) {u : StS × CdT} (hf : f_X8_carryOut v c x1 x2 = some u) : ConD g l yX8_carryOut cX8_carryOut 3 none ({ frames := 1, cells := 0, slots := 0, locals := 21 } : Room) [.ref (a (o + 0)), .int x1, .int x2] [stO g a o v, cdW g a o c] (none) [stO g a o u.1, cdW g a o u.2] := by
  unfold f_X8_carryOut at hf
  refine Con_of [stO g a o v, cdW g a o c] [(0, .ref (a (o + 0))), (1, .int x1), (2, .int x2)] rfl rfl (by decide) (Nat.le_of_ble_eq_true rfl) ?_
  intro pW eW sW mW argsW belowW methW c9 C hnm hr
  have C : CX g RX8 cX8_carryOut 3 _ pW sW mW argsW methW c9 := C
  have hL62 : ∀ (vL : StS) (cL : CdT) (x1 : Int32) (x2 : Int32), f_X8_carryOut_62 vL cL x1 x2 = some u → VW g (va_A ([stO g a o v, cdW g a o c] : List va_W).flatten sW.heap.size) 3 pW l eW ({ frames := 1, cells := 0, slots := 0, locals := 21 } : Room) sW mW argsW belowW methW c9 0 0 (MQ belowW (xQc g ([stO g a o v, cdW g a o c] : List va_W).flatten sW.heap.size (fun v9 w9 => v9 = none ∧ w9 = ([stO g a o u.1, cdW g a o u.2] : List va_W).flatten)) argsW sW 0 0 (va_A ([stO g a o v, cdW g a o c] : List va_W).flatten sW.heap.size)) [stO g a o vL, cdW g a o cL] [(0, .ref (a (o + 0))), (1, .int x1), (2, .int x2)] 62 [] := by
    intro vL cL x1 x2 hf
    unfold f_X8_carryOut_62 at hf
    refine x_iload_n C dX8_carryOut_62 rfl 2 rfl ?_
    refine x_if_ne (tgt := 87) C dX8_carryOut_63 (by decide) (fun h1 => ?_) (fun h1 => ?_)
    · have hf := x_f h1 hf
      refine x_aload_n C dX8_carryOut_87 rfl 0 rfl ?_
      refine x_get (ci := 9) (v := .ref (a (o + 1))) (b := stO g a o vL) C ixX8 rfl 0 (by decide) wd_873 (fun _ h => h) 0 rfl 0 (stO_at0 g a o _) rfl dX8_carryOut_88 ?_
      refine x_get (ci := 4) (v := .ref (a (o + 5))) (b := cdW g a o cL) C ixX1 rfl 3 (by decide) wd_828 (fun _ h => h) 1 rfl 0 (cdW_at0 g a o _) rfl dX8_carryOut_91 ?_
      refine x_iload_n C dX8_carryOut_94 rfl 1 rfl ?_
      refine x_iload_n C dX8_carryOut_95 rfl 2 rfl ?_
      obtain ⟨h2, hf⟩ := x_n hf
      refine x_zast (b := cdW g a o cL) (b' := cdW g a o (cL.1, cL.2.1, cL.2.2.1, upd cL.2.2.2.1 x1.toNatClampNeg (vp_nar .boolean x2), cL.2.2.2.2)) (wss' := [stO g a o vL, cdW g a o (cL.1, cL.2.1, cL.2.2.1, upd cL.2.2.2.1 x1.toNatClampNeg (vp_nar .boolean x2), cL.2.2.2.2)]) C 1 rfl 4 (cdW_at4 g a o _) h2 rfl rfl dX8_carryOut_96 ?_
      exact x_vret C hr ⟨by cases hf; rfl, by cases hf; rfl⟩ dX8_carryOut_97
    · have hf := x_t h1 hf
      refine x_aload_n C dX8_carryOut_66 rfl 0 rfl ?_
      refine x_get (ci := 9) (v := .ref (a (o + 1))) (b := stO g a o vL) C ixX8 rfl 0 (by decide) wd_873 (fun _ h => h) 0 rfl 0 (stO_at0 g a o _) rfl dX8_carryOut_67 ?_
      refine x_get (ci := 4) (v := .ref (a (o + 5))) (b := cdW g a o cL) C ixX1 rfl 3 (by decide) wd_828 (fun _ h => h) 1 rfl 0 (cdW_at0 g a o _) rfl dX8_carryOut_70 ?_
      refine x_iload_n C dX8_carryOut_73 rfl 1 rfl ?_
      obtain ⟨h3, hf⟩ := x_n hf
      refine x_zald (b := cdW g a o cL) C 1 rfl 4 (cdW_at4 g a o _) h3 dX8_carryOut_74 ?_
      refine x_if_ne (tgt := 87) C dX8_carryOut_75 (by decide) (fun h4 => ?_) (fun h4 => ?_)
      · have hf := x_f h4 hf
        refine x_aload_n C dX8_carryOut_87 rfl 0 rfl ?_
        refine x_get (ci := 9) (v := .ref (a (o + 1))) (b := stO g a o vL) C ixX8 rfl 0 (by decide) wd_873 (fun _ h => h) 0 rfl 0 (stO_at0 g a o _) rfl dX8_carryOut_88 ?_
        refine x_get (ci := 4) (v := .ref (a (o + 5))) (b := cdW g a o cL) C ixX1 rfl 3 (by decide) wd_828 (fun _ h => h) 1 rfl 0 (cdW_at0 g a o _) rfl dX8_carryOut_91 ?_
        refine x_iload_n C dX8_carryOut_94 rfl 1 rfl ?_
        refine x_iload_n C dX8_carryOut_95 rfl 2 rfl ?_
        obtain ⟨h5, hf⟩ := x_n hf
        refine x_zast (b := cdW g a o cL) (b' := cdW g a o (cL.1, cL.2.1, cL.2.2.1, upd cL.2.2.2.1 x1.toNatClampNeg (vp_nar .boolean x2), cL.2.2.2.2)) (wss' := [stO g a o vL, cdW g a o (cL.1, cL.2.1, cL.2.2.1, upd cL.2.2.2.1 x1.toNatClampNeg (vp_nar .boolean x2), cL.2.2.2.2)]) C 1 rfl 4 (cdW_at4 g a o _) h5 rfl rfl dX8_carryOut_96 ?_
        exact x_vret C hr ⟨by cases hf; rfl, by cases hf; rfl⟩ dX8_carryOut_97
      · have hf := x_t h4 hf
        refine x_aload_n C dX8_carryOut_78 rfl 0 rfl ?_
        refine x_bipush (v := 110) C dX8_carryOut_79 (by decide) ?_
        obtain ⟨u6, hu6, hf⟩ := x_b hf
        refine x_callV (n := 1) (As := [.int (110 : Int32)]) (rest := []) C (c_X8_recordFailure g l a o vL (110 : Int32) hu6) ⟨⟨wd_199, wd_196, wd_26⟩, ⟨by decide, by decide, by decide⟩, rfl, rfl, Nat.le_of_ble_eq_true rfl, Nat.le_of_ble_eq_true rfl⟩ wd_198 wd_4 ⟨0, 9, _, _, rfl, rfl, rfl⟩ [cdW g a o cL] (x_pickD [0, 1] 2 rfl rfl rfl) rfl rfl (Nat.le_of_ble_eq_true rfl) ⟨Nat.le_of_ble_eq_true rfl, Nat.le_of_ble_eq_true rfl⟩ dX8_carryOut_81 (x_goD (wss2 := [stO g a o u6, cdW g a o cL]) (stk2 := []) rfl rfl ?_)
        refine x_goto (tgt := 97) C dX8_carryOut_84 (by decide) ?_
        exact x_vret C hr ⟨by cases hf; rfl, by cases hf; rfl⟩ dX8_carryOut_97
  have hL37 : ∀ (vL : StS) (cL : CdT) (x1 : Int32) (x2 : Int32), f_X8_carryOut_37 vL cL x1 x2 = some u → VW g (va_A ([stO g a o v, cdW g a o c] : List va_W).flatten sW.heap.size) 3 pW l eW ({ frames := 1, cells := 0, slots := 0, locals := 21 } : Room) sW mW argsW belowW methW c9 0 0 (MQ belowW (xQc g ([stO g a o v, cdW g a o c] : List va_W).flatten sW.heap.size (fun v9 w9 => v9 = none ∧ w9 = ([stO g a o u.1, cdW g a o u.2] : List va_W).flatten)) argsW sW 0 0 (va_A ([stO g a o v, cdW g a o c] : List va_W).flatten sW.heap.size)) [stO g a o vL, cdW g a o cL] [(0, .ref (a (o + 0))), (1, .int x1), (2, .int x2)] 37 [] := by
    intro vL cL x1 x2 hf
    unfold f_X8_carryOut_37 at hf
    refine x_iload_n C dX8_carryOut_37 rfl 2 rfl ?_
    refine x_if_eq (tgt := 62) C dX8_carryOut_38 (by decide) (fun h1 => ?_) (fun h1 => ?_)
    · have hf := x_t h1 hf
      exact hL62 vL cL x1 x2 hf
    · have hf := x_f h1 hf
      refine x_aload_n C dX8_carryOut_41 rfl 0 rfl ?_
      refine x_get (ci := 9) (v := .ref (a (o + 1))) (b := stO g a o vL) C ixX8 rfl 0 (by decide) wd_873 (fun _ h => h) 0 rfl 0 (stO_at0 g a o _) rfl dX8_carryOut_42 ?_
      refine x_get (ci := 4) (v := .ref (a (o + 3))) (b := cdW g a o cL) C ixX1 rfl 1 (by decide) wd_823 (fun _ h => h) 1 rfl 0 (cdW_at0 g a o _) rfl dX8_carryOut_45 ?_
      refine x_iload_n C dX8_carryOut_48 rfl 1 rfl ?_
      obtain ⟨h2, hf⟩ := x_n hf
      refine x_iald (b := cdW g a o cL) C 1 rfl 2 (cdW_at2 g a o _) h2 dX8_carryOut_49 ?_
      refine x_if_ne (tgt := 62) C dX8_carryOut_50 (by decide) (fun h3 => ?_) (fun h3 => ?_)
      · have hf := x_f h3 hf
        exact hL62 vL cL x1 x2 hf
      · have hf := x_t h3 hf
        refine x_aload_n C dX8_carryOut_53 rfl 0 rfl ?_
        refine x_bipush (v := 119) C dX8_carryOut_54 (by decide) ?_
        obtain ⟨u4, hu4, hf⟩ := x_b hf
        refine x_callV (n := 1) (As := [.int (119 : Int32)]) (rest := []) C (c_X8_recordFailure g l a o vL (119 : Int32) hu4) ⟨⟨wd_199, wd_196, wd_26⟩, ⟨by decide, by decide, by decide⟩, rfl, rfl, Nat.le_of_ble_eq_true rfl, Nat.le_of_ble_eq_true rfl⟩ wd_198 wd_4 ⟨0, 9, _, _, rfl, rfl, rfl⟩ [cdW g a o cL] (x_pickD [0, 1] 2 rfl rfl rfl) rfl rfl (Nat.le_of_ble_eq_true rfl) ⟨Nat.le_of_ble_eq_true rfl, Nat.le_of_ble_eq_true rfl⟩ dX8_carryOut_56 (x_goD (wss2 := [stO g a o u4, cdW g a o cL]) (stk2 := []) rfl rfl ?_)
        refine x_goto (tgt := 97) C dX8_carryOut_59 (by decide) ?_
        exact x_vret C hr ⟨by cases hf; rfl, by cases hf; rfl⟩ dX8_carryOut_97
  refine x_aload_n C dX8_carryOut_0 rfl 0 rfl ?_
  refine x_get (ci := 9) (v := .ref (a (o + 1))) (b := stO g a o v) C ixX8 rfl 0 (by decide) wd_873 (fun _ h => h) 0 rfl 0 (stO_at0 g a o _) rfl dX8_carryOut_1 ?_
  refine x_iload_n C dX8_carryOut_4 rfl 1 rfl ?_
  obtain ⟨u1, hu1, hf⟩ := x_b hf
  refine x_callV (n := 1) (As := [.int x1]) (rest := []) C (c_X1_has g l a o c x1 hu1) ⟨⟨wd_70, wd_195, wd_27⟩, ⟨by decide, by decide, by decide⟩, rfl, rfl, Nat.le_of_ble_eq_true rfl, Nat.le_of_ble_eq_true rfl⟩ wd_68 wd_69 ⟨0, 4, _, _, rfl, rfl, rfl⟩ [stO g a o v] (x_pickD [1, 0] 2 rfl rfl rfl) rfl rfl (Nat.le_of_ble_eq_true rfl) ⟨Nat.le_of_ble_eq_true rfl, Nat.le_of_ble_eq_true rfl⟩ dX8_carryOut_5 (x_goD (wss2 := [cdW g a o c, stO g a o v]) (stk2 := [.int u1]) rfl rfl ?_)
  refine x_if_ne (tgt := 12) C dX8_carryOut_8 (by decide) (fun h2 => ?_) (fun h2 => ?_)
  · have hf := x_f h2 hf
    refine x_iload_n C dX8_carryOut_12 rfl 2 rfl ?_
    refine x_if_eq (tgt := 37) C dX8_carryOut_13 (by decide) (fun h3 => ?_) (fun h3 => ?_)
    · have hf := x_t h3 hf
      refine x_perm (wss' := [stO g a o v, cdW g a o c]) (x_pick [1, 0] 2 rfl rfl rfl) ?_
      exact hL37 v c x1 x2 hf
    · have hf := x_f h3 hf
      refine x_aload_n C dX8_carryOut_16 rfl 0 rfl ?_
      refine x_get (ci := 9) (v := .ref (a (o + 1))) (b := stO g a o v) C ixX8 rfl 0 (by decide) wd_873 (fun _ h => h) 1 rfl 0 (stO_at0 g a o _) rfl dX8_carryOut_17 ?_
      refine x_get (ci := 4) (v := .ref (a (o + 5))) (b := cdW g a o c) C ixX1 rfl 3 (by decide) wd_828 (fun _ h => h) 0 rfl 0 (cdW_at0 g a o _) rfl dX8_carryOut_20 ?_
      refine x_iload_n C dX8_carryOut_23 rfl 1 rfl ?_
      obtain ⟨h4, hf⟩ := x_n hf
      refine x_zald (b := cdW g a o c) C 0 rfl 4 (cdW_at4 g a o _) h4 dX8_carryOut_24 ?_
      refine x_if_eq (tgt := 37) C dX8_carryOut_25 (by decide) (fun h5 => ?_) (fun h5 => ?_)
      · have hf := x_t h5 hf
        refine x_perm (wss' := [stO g a o v, cdW g a o c]) (x_pick [1, 0] 2 rfl rfl rfl) ?_
        exact hL37 v c x1 x2 hf
      · have hf := x_f h5 hf
        refine x_aload_n C dX8_carryOut_28 rfl 0 rfl ?_
        refine x_bipush (v := 108) C dX8_carryOut_29 (by decide) ?_
        obtain ⟨u6, hu6, hf⟩ := x_b hf
        refine x_callV (n := 1) (As := [.int (108 : Int32)]) (rest := []) C (c_X8_recordFailure g l a o v (108 : Int32) hu6) ⟨⟨wd_199, wd_196, wd_26⟩, ⟨by decide, by decide, by decide⟩, rfl, rfl, Nat.le_of_ble_eq_true rfl, Nat.le_of_ble_eq_true rfl⟩ wd_198 wd_4 ⟨0, 9, _, _, rfl, rfl, rfl⟩ [cdW g a o c] (x_pickD [1, 0] 2 rfl rfl rfl) rfl rfl (Nat.le_of_ble_eq_true rfl) ⟨Nat.le_of_ble_eq_true rfl, Nat.le_of_ble_eq_true rfl⟩ dX8_carryOut_31 (x_goD (wss2 := [stO g a o u6, cdW g a o c]) (stk2 := []) rfl rfl ?_)
        refine x_goto (tgt := 97) C dX8_carryOut_34 (by decide) ?_
        exact x_vret C hr ⟨by cases hf; rfl, by cases hf; rfl⟩ dX8_carryOut_97
  · have hf := x_t h2 hf
    refine x_perm (wss' := [stO g a o v, cdW g a o c]) (x_pick [1, 0] 2 rfl rfl rfl) ?_
    exact x_vret C hr ⟨by cases hf; rfl, by cases hf; rfl⟩ dX8_carryOut_11
theorem wd_3 : Cond.selects yX8_carryOut.cls yX8_carryOut yX8_carryOut ∈ xTB := xTB_in 3 (by decide +kernel) (by decide +kernel)
theorem wd_191 : Cond.methodLink RX8 149 yX8_carryOut ∈ xTB := xTB_in 191 (by decide +kernel) (by decide +kernel)
theorem wd_193 : Cond.instanceMethod yX8_carryOut ∈ xTB := xTB_in 193 (by decide +kernel) (by decide +kernel)
theorem wd_194 : Cond.code yX8_carryOut cX8_carryOut 3 none ∈ xTB := xTB_in 194 (by decide +kernel) (by decide +kernel)
theorem wd_200 : Cond.methodLink RX8 153 yX3_remove ∈ xTB := xTB_in 200 (by decide +kernel) (by decide +kernel)
theorem wd_201 : Cond.instanceMethod yX3_remove ∈ xTB := xTB_in 201 (by decide +kernel) (by decide +kernel)
theorem wd_202 : Cond.selects yX3_remove.cls yX3_remove yX3_remove ∈ xTB := xTB_in 202 (by decide +kernel) (by decide +kernel)
theorem wd_203 : Cond.code yX3_remove cX3_remove 3 none ∈ xTB := xTB_in 203 (by decide +kernel) (by decide +kernel)
theorem wd_853 : Cond.fieldLink RX8 140 "CandleConcert$Events" "minute" "[I" ∈ xTB := xTB_in 853 (by decide +kernel) (by decide +kernel)
theorem wd_856 : Cond.fieldLink RX8 143 "CandleConcert$Events" "candle" "[I" ∈ xTB := xTB_in 856 (by decide +kernel) (by decide +kernel)
theorem wd_859 : Cond.fieldLink RX8 146 "CandleConcert$Events" "lighting" "[Z" ∈ xTB := xTB_in 859 (by decide +kernel) (by decide +kernel)
theorem wd_863 : Cond.fieldLink RX8 139 "CandleConcert$Events" "count" "I" ∈ xTB := xTB_in 863 (by decide +kernel) (by decide +kernel)
theorem dX8_carryOutDueEvents_0 : decode cX8_carryOutDueEvents 0 = .ok (.iconst 0, 1) := by decide +kernel
theorem dX8_carryOutDueEvents_1 : decode cX8_carryOutDueEvents 1 = .ok (.istore_n 1, 1) := by decide +kernel
theorem dX8_carryOutDueEvents_2 : decode cX8_carryOutDueEvents 2 = .ok (.iload_n 1, 1) := by decide +kernel
theorem dX8_carryOutDueEvents_3 : decode cX8_carryOutDueEvents 3 = .ok (.bipush 20, 2) := by decide +kernel
theorem dX8_carryOutDueEvents_5 : decode cX8_carryOutDueEvents 5 = .ok (.if_icmp .ge 65, 3) := by decide +kernel
theorem dX8_carryOutDueEvents_8 : decode cX8_carryOutDueEvents 8 = .ok (.aload_n 0, 1) := by decide +kernel
theorem dX8_carryOutDueEvents_9 : decode cX8_carryOutDueEvents 9 = .ok (.getfield 21, 3) := by decide +kernel
theorem dX8_carryOutDueEvents_12 : decode cX8_carryOutDueEvents 12 = .ok (.getfield 139, 3) := by decide +kernel
theorem dX8_carryOutDueEvents_15 : decode cX8_carryOutDueEvents 15 = .ok (.ifCond .le 55, 3) := by decide +kernel
theorem dX8_carryOutDueEvents_18 : decode cX8_carryOutDueEvents 18 = .ok (.aload_n 0, 1) := by decide +kernel
theorem dX8_carryOutDueEvents_19 : decode cX8_carryOutDueEvents 19 = .ok (.getfield 21, 3) := by decide +kernel
theorem dX8_carryOutDueEvents_22 : decode cX8_carryOutDueEvents 22 = .ok (.getfield 140, 3) := by decide +kernel
theorem dX8_carryOutDueEvents_25 : decode cX8_carryOutDueEvents 25 = .ok (.iconst 0, 1) := by decide +kernel
theorem dX8_carryOutDueEvents_26 : decode cX8_carryOutDueEvents 26 = .ok (.iaload, 1) := by decide +kernel
theorem dX8_carryOutDueEvents_27 : decode cX8_carryOutDueEvents 27 = .ok (.aload_n 0, 1) := by decide +kernel
theorem dX8_carryOutDueEvents_28 : decode cX8_carryOutDueEvents 28 = .ok (.getfield 32, 3) := by decide +kernel
theorem dX8_carryOutDueEvents_31 : decode cX8_carryOutDueEvents 31 = .ok (.if_icmp .ne 39, 3) := by decide +kernel
theorem dX8_carryOutDueEvents_34 : decode cX8_carryOutDueEvents 34 = .ok (.aload_n 0, 1) := by decide +kernel
theorem dX8_carryOutDueEvents_35 : decode cX8_carryOutDueEvents 35 = .ok (.aload_n 0, 1) := by decide +kernel
theorem dX8_carryOutDueEvents_36 : decode cX8_carryOutDueEvents 36 = .ok (.getfield 21, 3) := by decide +kernel
theorem dX8_carryOutDueEvents_39 : decode cX8_carryOutDueEvents 39 = .ok (.getfield 143, 3) := by decide +kernel
theorem dX8_carryOutDueEvents_42 : decode cX8_carryOutDueEvents 42 = .ok (.iconst 0, 1) := by decide +kernel
theorem dX8_carryOutDueEvents_43 : decode cX8_carryOutDueEvents 43 = .ok (.iaload, 1) := by decide +kernel
theorem dX8_carryOutDueEvents_44 : decode cX8_carryOutDueEvents 44 = .ok (.aload_n 0, 1) := by decide +kernel
theorem dX8_carryOutDueEvents_45 : decode cX8_carryOutDueEvents 45 = .ok (.getfield 21, 3) := by decide +kernel
theorem dX8_carryOutDueEvents_48 : decode cX8_carryOutDueEvents 48 = .ok (.getfield 146, 3) := by decide +kernel
theorem dX8_carryOutDueEvents_51 : decode cX8_carryOutDueEvents 51 = .ok (.iconst 0, 1) := by decide +kernel
theorem dX8_carryOutDueEvents_52 : decode cX8_carryOutDueEvents 52 = .ok (.baload, 1) := by decide +kernel
theorem dX8_carryOutDueEvents_53 : decode cX8_carryOutDueEvents 53 = .ok (.invokevirtual 149, 3) := by decide +kernel
theorem dX8_carryOutDueEvents_56 : decode cX8_carryOutDueEvents 56 = .ok (.aload_n 0, 1) := by decide +kernel
theorem dX8_carryOutDueEvents_57 : decode cX8_carryOutDueEvents 57 = .ok (.getfield 21, 3) := by decide +kernel
theorem dX8_carryOutDueEvents_60 : decode cX8_carryOutDueEvents 60 = .ok (.iconst 0, 1) := by decide +kernel
theorem dX8_carryOutDueEvents_61 : decode cX8_carryOutDueEvents 61 = .ok (.invokevirtual 153, 3) := by decide +kernel
theorem dX8_carryOutDueEvents_64 : decode cX8_carryOutDueEvents 64 = .ok (.iinc 1 1, 3) := by decide +kernel
theorem dX8_carryOutDueEvents_67 : decode cX8_carryOutDueEvents 67 = .ok (.goto (-65), 3) := by decide +kernel
theorem dX8_carryOutDueEvents_70 : decode cX8_carryOutDueEvents 70 = .ok (.return_, 1) := by decide +kernel
set_option maxHeartbeats 4000000 in
set_option maxRecDepth 100000 in
theorem c_X8_carryOutDueEvents (g : xG) (l : Launch) (a : Nat → Nat) (o : Nat) (v : StS) (c : CdT) (e : EvT)  {u : StS × CdT × EvT} (hf : f_X8_carryOutDueEvents v c e = some u) : ConD g l yX8_carryOutDueEvents cX8_carryOutDueEvents 2 none ({ frames := 2, cells := 0, slots := 0, locals := 44 } : Room) [.ref (a (o + 0))] [stO g a o v, cdW g a o c, evW g a o e] (none) [stO g a o u.1, cdW g a o u.2.1, evW g a o u.2.2] := by
  unfold f_X8_carryOutDueEvents at hf
  refine Con_of [stO g a o v, cdW g a o c, evW g a o e] [(0, .ref (a (o + 0)))] rfl rfl (by decide) (Nat.le_of_ble_eq_true rfl) ?_
  intro pW eW sW mW argsW belowW methW c9 C hnm hr
  have C : CX g RX8 cX8_carryOutDueEvents 2 _ pW sW mW argsW methW c9 := C
  have hL2 : ∀ (nW : Nat) (vL : StS) (cL : CdT) (eL : EvT) (x1 : Int32), f_X8_carryOutDueEvents_2 nW vL cL eL x1 = some u → VW g (va_A ([stO g a o v, cdW g a o c, evW g a o e] : List va_W).flatten sW.heap.size) 2 pW l eW ({ frames := 2, cells := 0, slots := 0, locals := 44 } : Room) sW mW argsW belowW methW c9 0 0 (MQ belowW (xQc g ([stO g a o v, cdW g a o c, evW g a o e] : List va_W).flatten sW.heap.size (fun v9 w9 => v9 = none ∧ w9 = ([stO g a o u.1, cdW g a o u.2.1, evW g a o u.2.2] : List va_W).flatten)) argsW sW 0 0 (va_A ([stO g a o v, cdW g a o c, evW g a o e] : List va_W).flatten sW.heap.size)) [stO g a o vL, cdW g a o cL, evW g a o eL] [(0, .ref (a (o + 0))), (1, .int x1)] 2 [] := by
    intro nW
    induction nW with
    | zero => intro vL cL eL x1 hf; rw [f_X8_carryOutDueEvents_2] at hf; cases hf
    | succ nW ih =>
      intro vL cL eL x1 hf
      rw [f_X8_carryOutDueEvents_2] at hf
      refine x_iload_n C dX8_carryOutDueEvents_2 rfl 1 rfl ?_
      refine x_bipush (v := 20) C dX8_carryOutDueEvents_3 (by decide) ?_
      refine x_icmp_ge (tgt := 70) C dX8_carryOutDueEvents_5 (by decide) (fun h1 => ?_) (fun h1 => ?_)
      · have hf := x_t h1 hf
        exact x_vret C hr ⟨by cases hf; rfl, by cases hf; rfl⟩ dX8_carryOutDueEvents_70
      · have hf := x_f h1 hf
        refine x_aload_n C dX8_carryOutDueEvents_8 rfl 0 rfl ?_
        refine x_get (ci := 9) (v := .ref (a (o + 6))) (b := stO g a o vL) C ixX8 rfl 1 (by decide) wd_875 (fun _ h => h) 0 rfl 0 (stO_at0 g a o _) rfl dX8_carryOutDueEvents_9 ?_
        refine x_get (ci := 6) (v := .int eL.2.2.2) (b := evW g a o eL) C ixX3 rfl 3 (by decide) wd_863 (fun _ h => h) 2 rfl 0 (evW_at0 g a o _) rfl dX8_carryOutDueEvents_12 ?_
        refine x_if_le (tgt := 70) C dX8_carryOutDueEvents_15 (by decide) (fun h2 => ?_) (fun h2 => ?_)
        · have hf := x_t h2 hf
          exact x_vret C hr ⟨by cases hf; rfl, by cases hf; rfl⟩ dX8_carryOutDueEvents_70
        · have hf := x_f h2 hf
          refine x_aload_n C dX8_carryOutDueEvents_18 rfl 0 rfl ?_
          refine x_get (ci := 9) (v := .ref (a (o + 6))) (b := stO g a o vL) C ixX8 rfl 1 (by decide) wd_875 (fun _ h => h) 0 rfl 0 (stO_at0 g a o _) rfl dX8_carryOutDueEvents_19 ?_
          refine x_get (ci := 6) (v := .ref (a (o + 7))) (b := evW g a o eL) C ixX3 rfl 0 (by decide) wd_853 (fun _ h => h) 2 rfl 0 (evW_at0 g a o _) rfl dX8_carryOutDueEvents_22 ?_
          refine x_iconst (v := 0) C dX8_carryOutDueEvents_25 (by decide) ?_
          obtain ⟨h3, hf⟩ := x_n hf
          refine x_iald (b := evW g a o eL) C 2 rfl 1 (evW_at1 g a o _) h3 dX8_carryOutDueEvents_26 ?_
          refine x_aload_n C dX8_carryOutDueEvents_27 rfl 0 rfl ?_
          refine x_get (ci := 9) (v := .int vL.2.2.1) (b := stO g a o vL) C ixX8 rfl 4 (by decide) wd_881 (fun _ h => h) 0 rfl 0 (stO_at0 g a o _) rfl dX8_carryOutDueEvents_28 ?_
          refine x_icmp_ne (tgt := 70) C dX8_carryOutDueEvents_31 (by decide) (fun h4 => ?_) (fun h4 => ?_)
          · have hf := x_f h4 hf
            exact x_vret C hr ⟨by cases hf; rfl, by cases hf; rfl⟩ dX8_carryOutDueEvents_70
          · have hf := x_t h4 hf
            refine x_aload_n C dX8_carryOutDueEvents_34 rfl 0 rfl ?_
            refine x_aload_n C dX8_carryOutDueEvents_35 rfl 0 rfl ?_
            refine x_get (ci := 9) (v := .ref (a (o + 6))) (b := stO g a o vL) C ixX8 rfl 1 (by decide) wd_875 (fun _ h => h) 0 rfl 0 (stO_at0 g a o _) rfl dX8_carryOutDueEvents_36 ?_
            refine x_get (ci := 6) (v := .ref (a (o + 8))) (b := evW g a o eL) C ixX3 rfl 1 (by decide) wd_856 (fun _ h => h) 2 rfl 0 (evW_at0 g a o _) rfl dX8_carryOutDueEvents_39 ?_
            refine x_iconst (v := 0) C dX8_carryOutDueEvents_42 (by decide) ?_
            obtain ⟨h5, hf⟩ := x_n hf
            refine x_iald (b := evW g a o eL) C 2 rfl 2 (evW_at2 g a o _) h5 dX8_carryOutDueEvents_43 ?_
            refine x_aload_n C dX8_carryOutDueEvents_44 rfl 0 rfl ?_
            refine x_get (ci := 9) (v := .ref (a (o + 6))) (b := stO g a o vL) C ixX8 rfl 1 (by decide) wd_875 (fun _ h => h) 0 rfl 0 (stO_at0 g a o _) rfl dX8_carryOutDueEvents_45 ?_
            refine x_get (ci := 6) (v := .ref (a (o + 9))) (b := evW g a o eL) C ixX3 rfl 2 (by decide) wd_859 (fun _ h => h) 2 rfl 0 (evW_at0 g a o _) rfl dX8_carryOutDueEvents_48 ?_
            refine x_iconst (v := 0) C dX8_carryOutDueEvents_51 (by decide) ?_
            obtain ⟨h6, hf⟩ := x_n hf
            refine x_zald (b := evW g a o eL) C 2 rfl 3 (evW_at3 g a o _) h6 dX8_carryOutDueEvents_52 ?_
            obtain ⟨u7, hu7, hf⟩ := x_b hf
            refine x_callV (n := 2) (As := [.int (eL.2.1 (0 : Int32).toNatClampNeg), .int (eL.2.2.1 (0 : Int32).toNatClampNeg)]) (rest := []) C (c_X8_carryOut g l a o vL cL (eL.2.1 (0 : Int32).toNatClampNeg) (eL.2.2.1 (0 : Int32).toNatClampNeg) hu7) ⟨⟨wd_194, wd_191, wd_26⟩, ⟨by decide, by decide, by decide⟩, rfl, rfl, Nat.le_of_ble_eq_true rfl, Nat.le_of_ble_eq_true rfl⟩ wd_193 wd_3 ⟨0, 9, _, _, rfl, rfl, rfl⟩ [evW g a o eL] (x_pickD [0, 1, 2] 3 rfl rfl rfl) rfl rfl (Nat.le_of_ble_eq_true rfl) ⟨Nat.le_of_ble_eq_true rfl, Nat.le_of_ble_eq_true rfl⟩ dX8_carryOutDueEvents_53 (x_goD (wss2 := [stO g a o u7.1, cdW g a o u7.2, evW g a o eL]) (stk2 := []) rfl rfl ?_)
            refine x_aload_n C dX8_carryOutDueEvents_56 rfl 0 rfl ?_
            refine x_get (ci := 9) (v := .ref (a (o + 6))) (b := stO g a o u7.1) C ixX8 rfl 1 (by decide) wd_875 (fun _ h => h) 0 rfl 0 (stO_at0 g a o _) rfl dX8_carryOutDueEvents_57 ?_
            refine x_iconst (v := 0) C dX8_carryOutDueEvents_60 (by decide) ?_
            obtain ⟨u8, hu8, hf⟩ := x_b hf
            refine x_callV (n := 1) (As := [.int (0 : Int32)]) (rest := []) C (c_X3_remove g l a o eL (0 : Int32) hu8) ⟨⟨wd_203, wd_200, wd_28⟩, ⟨by decide, by decide, by decide⟩, rfl, rfl, Nat.le_of_ble_eq_true rfl, Nat.le_of_ble_eq_true rfl⟩ wd_201 wd_202 ⟨0, 6, _, _, rfl, rfl, rfl⟩ [stO g a o u7.1, cdW g a o u7.2] (x_pickD [2, 0, 1] 3 rfl rfl rfl) rfl rfl (Nat.le_of_ble_eq_true rfl) ⟨Nat.le_of_ble_eq_true rfl, Nat.le_of_ble_eq_true rfl⟩ dX8_carryOutDueEvents_61 (x_goD (wss2 := [evW g a o u8, stO g a o u7.1, cdW g a o u7.2]) (stk2 := []) rfl rfl ?_)
            refine x_iinc (v := x1 + 1) (lv' := [(1, .int (x1 + 1)), (0, .ref (a (o + 0)))]) C dX8_carryOutDueEvents_64 1 rfl rfl (by decide) rfl ?_
            refine x_goto (tgt := 2) C dX8_carryOutDueEvents_67 (by decide) ?_
            refine x_perm (wss' := [stO g a o u7.1, cdW g a o u7.2, evW g a o u8]) (x_pick [1, 2, 0] 3 rfl rfl rfl) ?_
            refine x_locals (lv' := [(0, .ref (a (o + 0))), (1, .int (x1 + 1))]) [1, 0] rfl ?_
            exact ih u7.1 u7.2 u8 (x1 + 1) hf
  refine x_iconst (v := 0) C dX8_carryOutDueEvents_0 (by decide) ?_
  refine x_istore_n (lv' := [(1, .int (0 : Int32)), (0, .ref (a (o + 0)))]) C dX8_carryOutDueEvents_1 rfl (by decide) rfl ?_
  refine x_locals (lv' := [(0, .ref (a (o + 0))), (1, .int (0 : Int32))]) [1, 0] rfl ?_
  exact hL2 xFuel v c e (0 : Int32) hf
theorem dX8_consumptionOf_0 : decode cX8_consumptionOf 0 = .ok (.aload_n 0, 1) := by decide +kernel
theorem dX8_consumptionOf_1 : decode cX8_consumptionOf 1 = .ok (.getfield 12, 3) := by decide +kernel
theorem dX8_consumptionOf_4 : decode cX8_consumptionOf 4 = .ok (.getfield 89, 3) := by decide +kernel
theorem dX8_consumptionOf_7 : decode cX8_consumptionOf 7 = .ok (.iload_n 1, 1) := by decide +kernel
theorem dX8_consumptionOf_8 : decode cX8_consumptionOf 8 = .ok (.iaload, 1) := by decide +kernel
theorem dX8_consumptionOf_9 : decode cX8_consumptionOf 9 = .ok (.aload_n 0, 1) := by decide +kernel
theorem dX8_consumptionOf_10 : decode cX8_consumptionOf 10 = .ok (.getfield 25, 3) := by decide +kernel
theorem dX8_consumptionOf_13 : decode cX8_consumptionOf 13 = .ok (.iadd, 1) := by decide +kernel
theorem dX8_consumptionOf_14 : decode cX8_consumptionOf 14 = .ok (.ireturn, 1) := by decide +kernel
set_option maxHeartbeats 4000000 in
set_option maxRecDepth 100000 in
theorem c_X8_consumptionOf (g : xG) (l : Launch) (a : Nat → Nat) (o : Nat) (v : StS) (c : CdT) (x1 : Int32) {u : Int32} (hf : f_X8_consumptionOf v c x1 = some u) : ConD g l yX8_consumptionOf cX8_consumptionOf 2 (some .int) ({ frames := 0, cells := 0, slots := 0, locals := 0 } : Room) [.ref (a (o + 0)), .int x1] [stO g a o v, cdW g a o c] (some (.int u)) [stO g a o v, cdW g a o c] := by
  unfold f_X8_consumptionOf at hf
  refine Con_of [stO g a o v, cdW g a o c] [(0, .ref (a (o + 0))), (1, .int x1)] rfl rfl (by decide) (Nat.le_of_ble_eq_true rfl) ?_
  intro pW eW sW mW argsW belowW methW c9 C hnm hr
  have C : CX g RX8 cX8_consumptionOf 2 _ pW sW mW argsW methW c9 := C
  refine x_aload_n C dX8_consumptionOf_0 rfl 0 rfl ?_
  refine x_get (ci := 9) (v := .ref (a (o + 1))) (b := stO g a o v) C ixX8 rfl 0 (by decide) wd_873 (fun _ h => h) 0 rfl 0 (stO_at0 g a o _) rfl dX8_consumptionOf_1 ?_
  refine x_get (ci := 4) (v := .ref (a (o + 4))) (b := cdW g a o c) C ixX1 rfl 2 (by decide) wd_826 (fun _ h => h) 1 rfl 0 (cdW_at0 g a o _) rfl dX8_consumptionOf_4 ?_
  refine x_iload_n C dX8_consumptionOf_7 rfl 1 rfl ?_
  obtain ⟨h1, hf⟩ := x_n hf
  refine x_iald (b := cdW g a o c) C 1 rfl 3 (cdW_at3 g a o _) h1 dX8_consumptionOf_8 ?_
  refine x_aload_n C dX8_consumptionOf_9 rfl 0 rfl ?_
  refine x_get (ci := 9) (v := .int v.1) (b := stO g a o v) C ixX8 rfl 2 (by decide) wd_877 (fun _ h => h) 0 rfl 0 (stO_at0 g a o _) rfl dX8_consumptionOf_10 ?_
  refine x_iadd C dX8_consumptionOf_13 ?_
  exact x_iret C hr ⟨by cases hf; rfl, by cases hf; rfl⟩ dX8_consumptionOf_14
theorem wd_49 : Cond.initialized "java/lang/Math" ∈ xTB := xTB_in 49 (by decide +kernel) (by decide +kernel)
theorem wd_149 : Cond.methodLink RX8 161 yX8_consumptionOf ∈ xTB := xTB_in 149 (by decide +kernel) (by decide +kernel)
theorem wd_150 : Cond.instanceMethod yX8_consumptionOf ∈ xTB := xTB_in 150 (by decide +kernel) (by decide +kernel)
theorem wd_151 : Cond.selects yX8_consumptionOf.cls yX8_consumptionOf yX8_consumptionOf ∈ xTB := xTB_in 151 (by decide +kernel) (by decide +kernel)
theorem wd_152 : Cond.code yX8_consumptionOf cX8_consumptionOf 2 (some .int) ∈ xTB := xTB_in 152 (by decide +kernel) (by decide +kernel)
theorem wd_217 : Cond.methodLink RX8 164 Lib.Math.min.name ∈ xTB := xTB_in 217 (by decide +kernel) (by decide +kernel)
theorem wd_218 : Cond.static Lib.Math.min.name ∈ xTB := xTB_in 218 (by decide +kernel) (by decide +kernel)
theorem wd_219 : Cond.code Lib.Math.min.name Lib.Math.min.code 2 (some .int) ∈ xTB := xTB_in 219 (by decide +kernel) (by decide +kernel)
theorem dX8_burn_0 : decode cX8_burn 0 = .ok (.aload_n 0, 1) := by decide +kernel
theorem dX8_burn_1 : decode cX8_burn 1 = .ok (.getfield 12, 3) := by decide +kernel
theorem dX8_burn_4 : decode cX8_burn 4 = .ok (.getfield 85, 3) := by decide +kernel
theorem dX8_burn_7 : decode cX8_burn 7 = .ok (.iload_n 1, 1) := by decide +kernel
theorem dX8_burn_8 : decode cX8_burn 8 = .ok (.iaload, 1) := by decide +kernel
theorem dX8_burn_9 : decode cX8_burn 9 = .ok (.aload_n 0, 1) := by decide +kernel
theorem dX8_burn_10 : decode cX8_burn 10 = .ok (.iload_n 1, 1) := by decide +kernel
theorem dX8_burn_11 : decode cX8_burn 11 = .ok (.invokevirtual 161, 3) := by decide +kernel
theorem dX8_burn_14 : decode cX8_burn 14 = .ok (.invokestatic 164, 3) := by decide +kernel
theorem dX8_burn_17 : decode cX8_burn 17 = .ok (.istore_n 2, 1) := by decide +kernel
theorem dX8_burn_18 : decode cX8_burn 18 = .ok (.iload_n 2, 1) := by decide +kernel
theorem dX8_burn_19 : decode cX8_burn 19 = .ok (.iconst 5, 1) := by decide +kernel
theorem dX8_burn_20 : decode cX8_burn 20 = .ok (.if_icmp .lt 7, 3) := by decide +kernel
theorem dX8_burn_23 : decode cX8_burn 23 = .ok (.iconst 1, 1) := by decide +kernel
theorem dX8_burn_24 : decode cX8_burn 24 = .ok (.goto 4, 3) := by decide +kernel
theorem dX8_burn_27 : decode cX8_burn 27 = .ok (.iconst 0, 1) := by decide +kernel
theorem dX8_burn_28 : decode cX8_burn 28 = .ok (.istore_n 3, 1) := by decide +kernel
theorem dX8_burn_29 : decode cX8_burn 29 = .ok (.aload_n 0, 1) := by decide +kernel
theorem dX8_burn_30 : decode cX8_burn 30 = .ok (.getfield 12, 3) := by decide +kernel
theorem dX8_burn_33 : decode cX8_burn 33 = .ok (.getfield 85, 3) := by decide +kernel
theorem dX8_burn_36 : decode cX8_burn 36 = .ok (.iload_n 1, 1) := by decide +kernel
theorem dX8_burn_37 : decode cX8_burn 37 = .ok (.dup2, 1) := by decide +kernel
theorem dX8_burn_38 : decode cX8_burn 38 = .ok (.iaload, 1) := by decide +kernel
theorem dX8_burn_39 : decode cX8_burn 39 = .ok (.iload_n 2, 1) := by decide +kernel
theorem dX8_burn_40 : decode cX8_burn 40 = .ok (.isub, 1) := by decide +kernel
theorem dX8_burn_41 : decode cX8_burn 41 = .ok (.iastore, 1) := by decide +kernel
theorem dX8_burn_42 : decode cX8_burn 42 = .ok (.aload_n 0, 1) := by decide +kernel
theorem dX8_burn_43 : decode cX8_burn 43 = .ok (.dup, 1) := by decide +kernel
theorem dX8_burn_44 : decode cX8_burn 44 = .ok (.getfield 29, 3) := by decide +kernel
theorem dX8_burn_47 : decode cX8_burn 47 = .ok (.iload_n 3, 1) := by decide +kernel
theorem dX8_burn_48 : decode cX8_burn 48 = .ok (.iadd, 1) := by decide +kernel
theorem dX8_burn_49 : decode cX8_burn 49 = .ok (.putfield 29, 3) := by decide +kernel
theorem dX8_burn_52 : decode cX8_burn 52 = .ok (.aload_n 0, 1) := by decide +kernel
theorem dX8_burn_53 : decode cX8_burn 53 = .ok (.dup, 1) := by decide +kernel
theorem dX8_burn_54 : decode cX8_burn 54 = .ok (.getfield 35, 3) := by decide +kernel
theorem dX8_burn_57 : decode cX8_burn 57 = .ok (.iload_n 2, 1) := by decide +kernel
theorem dX8_burn_58 : decode cX8_burn 58 = .ok (.iload_n 3, 1) := by decide +kernel
theorem dX8_burn_59 : decode cX8_burn 59 = .ok (.isub, 1) := by decide +kernel
theorem dX8_burn_60 : decode cX8_burn 60 = .ok (.iadd, 1) := by decide +kernel
theorem dX8_burn_61 : decode cX8_burn 61 = .ok (.putfield 35, 3) := by decide +kernel
theorem dX8_burn_64 : decode cX8_burn 64 = .ok (.aload_n 0, 1) := by decide +kernel
theorem dX8_burn_65 : decode cX8_burn 65 = .ok (.getfield 12, 3) := by decide +kernel
theorem dX8_burn_68 : decode cX8_burn 68 = .ok (.getfield 85, 3) := by decide +kernel
theorem dX8_burn_71 : decode cX8_burn 71 = .ok (.iload_n 1, 1) := by decide +kernel
theorem dX8_burn_72 : decode cX8_burn 72 = .ok (.iaload, 1) := by decide +kernel
theorem dX8_burn_73 : decode cX8_burn 73 = .ok (.ifCond .ne 18, 3) := by decide +kernel
theorem dX8_burn_76 : decode cX8_burn 76 = .ok (.aload_n 0, 1) := by decide +kernel
theorem dX8_burn_77 : decode cX8_burn 77 = .ok (.getfield 12, 3) := by decide +kernel
theorem dX8_burn_80 : decode cX8_burn 80 = .ok (.getfield 92, 3) := by decide +kernel
theorem dX8_burn_83 : decode cX8_burn 83 = .ok (.iload_n 1, 1) := by decide +kernel
theorem dX8_burn_84 : decode cX8_burn 84 = .ok (.iconst 0, 1) := by decide +kernel
theorem dX8_burn_85 : decode cX8_burn 85 = .ok (.bastore, 1) := by decide +kernel
theorem dX8_burn_86 : decode cX8_burn 86 = .ok (.aload_n 0, 1) := by decide +kernel
theorem dX8_burn_87 : decode cX8_burn 87 = .ok (.iload_n 1, 1) := by decide +kernel
theorem dX8_burn_88 : decode cX8_burn 88 = .ok (.putfield 49, 3) := by decide +kernel
theorem dX8_burn_91 : decode cX8_burn 91 = .ok (.iload_n 2, 1) := by decide +kernel
theorem dX8_burn_92 : decode cX8_burn 92 = .ok (.ireturn, 1) := by decide +kernel
set_option maxHeartbeats 4000000 in
set_option maxRecDepth 100000 in
theorem c_X8_burn (g : xG) (l : Launch) (a : Nat → Nat) (o : Nat) (v : StS) (c : CdT) (x1 : Int32) {u : Int32 × StS × CdT} (hf : f_X8_burn v c x1 = some u) : ConD g l yX8_burn cX8_burn 4 (some .int) ({ frames := 1, cells := 0, slots := 0, locals := 21 } : Room) [.ref (a (o + 0)), .int x1] [stO g a o v, cdW g a o c] (some (.int u.1)) [stO g a o u.2.1, cdW g a o u.2.2] := by
  unfold f_X8_burn at hf
  refine Con_of [stO g a o v, cdW g a o c] [(0, .ref (a (o + 0))), (1, .int x1)] rfl rfl (by decide) (Nat.le_of_ble_eq_true rfl) ?_
  intro pW eW sW mW argsW belowW methW c9 C hnm hr
  have C : CX g RX8 cX8_burn 4 _ pW sW mW argsW methW c9 := C
  have hL28 : ∀ (vL : StS) (cL : CdT) (x1 : Int32) (x2 : Int32) (y0 : Int32), f_X8_burn_28 vL cL x1 x2 y0 = some u → VW g (va_A ([stO g a o v, cdW g a o c] : List va_W).flatten sW.heap.size) 4 pW l eW ({ frames := 1, cells := 0, slots := 0, locals := 21 } : Room) sW mW argsW belowW methW c9 0 0 (MQ belowW (xQc g ([stO g a o v, cdW g a o c] : List va_W).flatten sW.heap.size (fun v9 w9 => v9 = some (.int u.1) ∧ w9 = ([stO g a o u.2.1, cdW g a o u.2.2] : List va_W).flatten)) argsW sW 0 0 (va_A ([stO g a o v, cdW g a o c] : List va_W).flatten sW.heap.size)) [stO g a o vL, cdW g a o cL] [(0, .ref (a (o + 0))), (1, .int x1), (2, .int x2)] 28 [.int y0] := by
    intro vL cL x1 x2 y0 hf
    unfold f_X8_burn_28 at hf
    refine x_istore_n (lv' := [(3, .int y0), (0, .ref (a (o + 0))), (1, .int x1), (2, .int x2)]) C dX8_burn_28 rfl (by decide) rfl ?_
    refine x_aload_n C dX8_burn_29 rfl 1 rfl ?_
    refine x_get (ci := 9) (v := .ref (a (o + 1))) (b := stO g a o vL) C ixX8 rfl 0 (by decide) wd_873 (fun _ h => h) 0 rfl 0 (stO_at0 g a o _) rfl dX8_burn_30 ?_
    refine x_get (ci := 4) (v := .ref (a (o + 3))) (b := cdW g a o cL) C ixX1 rfl 1 (by decide) wd_823 (fun _ h => h) 1 rfl 0 (cdW_at0 g a o _) rfl dX8_burn_33 ?_
    refine x_iload_n C dX8_burn_36 rfl 2 rfl ?_
    refine x_dup2_11 C dX8_burn_37 rfl rfl ?_
    obtain ⟨h1, hf⟩ := x_n hf
    refine x_iald (b := cdW g a o cL) C 1 rfl 2 (cdW_at2 g a o _) h1 dX8_burn_38 ?_
    refine x_iload_n C dX8_burn_39 rfl 3 rfl ?_
    refine x_isub C dX8_burn_40 ?_
    obtain ⟨h2, hf⟩ := x_n hf
    refine x_iast (b := cdW g a o cL) (b' := cdW g a o (cL.1, upd cL.2.1 x1.toNatClampNeg ((cL.2.1 x1.toNatClampNeg) - x2), cL.2.2.1, cL.2.2.2.1, cL.2.2.2.2)) (wss' := [stO g a o vL, cdW g a o (cL.1, upd cL.2.1 x1.toNatClampNeg ((cL.2.1 x1.toNatClampNeg) - x2), cL.2.2.1, cL.2.2.2.1, cL.2.2.2.2)]) C 1 rfl 2 (cdW_at2 g a o _) h2 rfl rfl dX8_burn_41 ?_
    refine x_aload_n C dX8_burn_42 rfl 1 rfl ?_
    refine x_dup C dX8_burn_43 rfl ?_
    refine x_get (ci := 9) (v := .int vL.2.1) (b := stO g a o vL) C ixX8 rfl 3 (by decide) wd_879 (fun _ h => h) 0 rfl 0 (stO_at0 g a o _) rfl dX8_burn_44 ?_
    refine x_iload_n C dX8_burn_47 rfl 0 rfl ?_
    refine x_iadd C dX8_burn_48 ?_
    refine x_put (ci := 9) (ty := .int) (v := .int (vL.2.1 + y0)) (b := stO g a o vL) (b' := stO g a o (vL.1, vL.2.1 + y0, vL.2.2.1, vL.2.2.2.1, vL.2.2.2.2.1, vL.2.2.2.2.2.1, vL.2.2.2.2.2.2.1, vL.2.2.2.2.2.2.2)) (wss' := [stO g a o (vL.1, vL.2.1 + y0, vL.2.2.1, vL.2.2.2.1, vL.2.2.2.2.1, vL.2.2.2.2.2.1, vL.2.2.2.2.2.2.1, vL.2.2.2.2.2.2.2), cdW g a o (cL.1, upd cL.2.1 x1.toNatClampNeg ((cL.2.1 x1.toNatClampNeg) - x2), cL.2.2.1, cL.2.2.2.1, cL.2.2.2.2)]) C ixX8 tyX8 tyX8_ok nmX8 rfl 3 (by decide) wd_879 (fun _ h => h) rfl (tyX8_ok 3 (by decide)) rfl rfl 0 rfl 0 (stO_at0 g a o _) (Nat.le_of_ble_eq_true rfl) rfl rfl dX8_burn_49 ?_
    refine x_aload_n C dX8_burn_52 rfl 1 rfl ?_
    refine x_dup C dX8_burn_53 rfl ?_
    refine x_get (ci := 9) (v := .int vL.2.2.2.1) (b := stO g a o (vL.1, vL.2.1 + y0, vL.2.2.1, vL.2.2.2.1, vL.2.2.2.2.1, vL.2.2.2.2.2.1, vL.2.2.2.2.2.2.1, vL.2.2.2.2.2.2.2)) C ixX8 rfl 5 (by decide) wd_883 (fun _ h => h) 0 rfl 0 (stO_at0 g a o _) rfl dX8_burn_54 ?_
    refine x_iload_n C dX8_burn_57 rfl 3 rfl ?_
    refine x_iload_n C dX8_burn_58 rfl 0 rfl ?_
    refine x_isub C dX8_burn_59 ?_
    refine x_iadd C dX8_burn_60 ?_
    refine x_put (ci := 9) (ty := .int) (v := .int (vL.2.2.2.1 + (x2 - y0))) (b := stO g a o (vL.1, vL.2.1 + y0, vL.2.2.1, vL.2.2.2.1, vL.2.2.2.2.1, vL.2.2.2.2.2.1, vL.2.2.2.2.2.2.1, vL.2.2.2.2.2.2.2)) (b' := stO g a o (vL.1, vL.2.1 + y0, vL.2.2.1, vL.2.2.2.1 + (x2 - y0), vL.2.2.2.2.1, vL.2.2.2.2.2.1, vL.2.2.2.2.2.2.1, vL.2.2.2.2.2.2.2)) (wss' := [stO g a o (vL.1, vL.2.1 + y0, vL.2.2.1, vL.2.2.2.1 + (x2 - y0), vL.2.2.2.2.1, vL.2.2.2.2.2.1, vL.2.2.2.2.2.2.1, vL.2.2.2.2.2.2.2), cdW g a o (cL.1, upd cL.2.1 x1.toNatClampNeg ((cL.2.1 x1.toNatClampNeg) - x2), cL.2.2.1, cL.2.2.2.1, cL.2.2.2.2)]) C ixX8 tyX8 tyX8_ok nmX8 rfl 5 (by decide) wd_883 (fun _ h => h) rfl (tyX8_ok 5 (by decide)) rfl rfl 0 rfl 0 (stO_at0 g a o _) (Nat.le_of_ble_eq_true rfl) rfl rfl dX8_burn_61 ?_
    refine x_aload_n C dX8_burn_64 rfl 1 rfl ?_
    refine x_get (ci := 9) (v := .ref (a (o + 1))) (b := stO g a o (vL.1, vL.2.1 + y0, vL.2.2.1, vL.2.2.2.1 + (x2 - y0), vL.2.2.2.2.1, vL.2.2.2.2.2.1, vL.2.2.2.2.2.2.1, vL.2.2.2.2.2.2.2)) C ixX8 rfl 0 (by decide) wd_873 (fun _ h => h) 0 rfl 0 (stO_at0 g a o _) rfl dX8_burn_65 ?_
    refine x_get (ci := 4) (v := .ref (a (o + 3))) (b := cdW g a o (cL.1, upd cL.2.1 x1.toNatClampNeg ((cL.2.1 x1.toNatClampNeg) - x2), cL.2.2.1, cL.2.2.2.1, cL.2.2.2.2)) C ixX1 rfl 1 (by decide) wd_823 (fun _ h => h) 1 rfl 0 (cdW_at0 g a o _) rfl dX8_burn_68 ?_
    refine x_iload_n C dX8_burn_71 rfl 2 rfl ?_
    obtain ⟨h3, hf⟩ := x_n hf
    refine x_iald (b := cdW g a o (cL.1, upd cL.2.1 x1.toNatClampNeg ((cL.2.1 x1.toNatClampNeg) - x2), cL.2.2.1, cL.2.2.2.1, cL.2.2.2.2)) C 1 rfl 2 (cdW_at2 g a o _) h3 dX8_burn_72 ?_
    refine x_if_ne (tgt := 91) C dX8_burn_73 (by decide) (fun h4 => ?_) (fun h4 => ?_)
    · have hf := x_f h4 hf
      refine x_iload_n C dX8_burn_91 rfl 3 rfl ?_
      exact x_iret C hr ⟨by cases hf; rfl, by cases hf; rfl⟩ dX8_burn_92
    · have hf := x_t h4 hf
      refine x_aload_n C dX8_burn_76 rfl 1 rfl ?_
      refine x_get (ci := 9) (v := .ref (a (o + 1))) (b := stO g a o (vL.1, vL.2.1 + y0, vL.2.2.1, vL.2.2.2.1 + (x2 - y0), vL.2.2.2.2.1, vL.2.2.2.2.2.1, vL.2.2.2.2.2.2.1, vL.2.2.2.2.2.2.2)) C ixX8 rfl 0 (by decide) wd_873 (fun _ h => h) 0 rfl 0 (stO_at0 g a o _) rfl dX8_burn_77 ?_
      refine x_get (ci := 4) (v := .ref (a (o + 5))) (b := cdW g a o (cL.1, upd cL.2.1 x1.toNatClampNeg ((cL.2.1 x1.toNatClampNeg) - x2), cL.2.2.1, cL.2.2.2.1, cL.2.2.2.2)) C ixX1 rfl 3 (by decide) wd_828 (fun _ h => h) 1 rfl 0 (cdW_at0 g a o _) rfl dX8_burn_80 ?_
      refine x_iload_n C dX8_burn_83 rfl 2 rfl ?_
      refine x_iconst (v := 0) C dX8_burn_84 (by decide) ?_
      obtain ⟨h5, hf⟩ := x_n hf
      refine x_zast (b := cdW g a o (cL.1, upd cL.2.1 x1.toNatClampNeg ((cL.2.1 x1.toNatClampNeg) - x2), cL.2.2.1, cL.2.2.2.1, cL.2.2.2.2)) (b' := cdW g a o (cL.1, upd cL.2.1 x1.toNatClampNeg ((cL.2.1 x1.toNatClampNeg) - x2), cL.2.2.1, upd cL.2.2.2.1 x1.toNatClampNeg (vp_nar .boolean (0 : Int32)), cL.2.2.2.2)) (wss' := [stO g a o (vL.1, vL.2.1 + y0, vL.2.2.1, vL.2.2.2.1 + (x2 - y0), vL.2.2.2.2.1, vL.2.2.2.2.2.1, vL.2.2.2.2.2.2.1, vL.2.2.2.2.2.2.2), cdW g a o (cL.1, upd cL.2.1 x1.toNatClampNeg ((cL.2.1 x1.toNatClampNeg) - x2), cL.2.2.1, upd cL.2.2.2.1 x1.toNatClampNeg (vp_nar .boolean (0 : Int32)), cL.2.2.2.2)]) C 1 rfl 4 (cdW_at4 g a o _) h5 rfl rfl dX8_burn_85 ?_
      refine x_aload_n C dX8_burn_86 rfl 1 rfl ?_
      refine x_iload_n C dX8_burn_87 rfl 2 rfl ?_
      refine x_put (ci := 9) (ty := .int) (v := .int x1) (b := stO g a o (vL.1, vL.2.1 + y0, vL.2.2.1, vL.2.2.2.1 + (x2 - y0), vL.2.2.2.2.1, vL.2.2.2.2.2.1, vL.2.2.2.2.2.2.1, vL.2.2.2.2.2.2.2)) (b' := stO g a o (vL.1, vL.2.1 + y0, vL.2.2.1, vL.2.2.2.1 + (x2 - y0), vL.2.2.2.2.1, vL.2.2.2.2.2.1, vL.2.2.2.2.2.2.1, x1)) (wss' := [stO g a o (vL.1, vL.2.1 + y0, vL.2.2.1, vL.2.2.2.1 + (x2 - y0), vL.2.2.2.2.1, vL.2.2.2.2.2.1, vL.2.2.2.2.2.2.1, x1), cdW g a o (cL.1, upd cL.2.1 x1.toNatClampNeg ((cL.2.1 x1.toNatClampNeg) - x2), cL.2.2.1, upd cL.2.2.2.1 x1.toNatClampNeg (vp_nar .boolean (0 : Int32)), cL.2.2.2.2)]) C ixX8 tyX8 tyX8_ok nmX8 rfl 9 (by decide) wd_890 (fun _ h => h) rfl (tyX8_ok 9 (by decide)) rfl rfl 0 rfl 0 (stO_at0 g a o _) (Nat.le_of_ble_eq_true rfl) rfl rfl dX8_burn_88 ?_
      refine x_iload_n C dX8_burn_91 rfl 3 rfl ?_
      exact x_iret C hr ⟨by cases hf; rfl, by cases hf; rfl⟩ dX8_burn_92
  refine x_aload_n C dX8_burn_0 rfl 0 rfl ?_
  refine x_get (ci := 9) (v := .ref (a (o + 1))) (b := stO g a o v) C ixX8 rfl 0 (by decide) wd_873 (fun _ h => h) 0 rfl 0 (stO_at0 g a o _) rfl dX8_burn_1 ?_
  refine x_get (ci := 4) (v := .ref (a (o + 3))) (b := cdW g a o c) C ixX1 rfl 1 (by decide) wd_823 (fun _ h => h) 1 rfl 0 (cdW_at0 g a o _) rfl dX8_burn_4 ?_
  refine x_iload_n C dX8_burn_7 rfl 1 rfl ?_
  obtain ⟨h1, hf⟩ := x_n hf
  refine x_iald (b := cdW g a o c) C 1 rfl 2 (cdW_at2 g a o _) h1 dX8_burn_8 ?_
  refine x_aload_n C dX8_burn_9 rfl 0 rfl ?_
  refine x_iload_n C dX8_burn_10 rfl 1 rfl ?_
  obtain ⟨u2, hu2, hf⟩ := x_b hf
  refine x_callV (n := 1) (As := [.int x1]) (rest := [.int (c.2.1 x1.toNatClampNeg)]) C (c_X8_consumptionOf g l a o v c x1 hu2) ⟨⟨wd_152, wd_149, wd_26⟩, ⟨by decide, by decide, by decide⟩, rfl, rfl, Nat.le_of_ble_eq_true rfl, Nat.le_of_ble_eq_true rfl⟩ wd_150 wd_151 ⟨0, 9, _, _, rfl, rfl, rfl⟩ [] (x_pickD [0, 1] 2 rfl rfl rfl) rfl rfl (Nat.le_of_ble_eq_true rfl) ⟨Nat.le_of_ble_eq_true rfl, Nat.le_of_ble_eq_true rfl⟩ dX8_burn_11 (x_goD (wss2 := [stO g a o v, cdW g a o c]) (stk2 := [.int u2, .int (c.2.1 x1.toNatClampNeg)]) rfl rfl ?_)
  refine x_min C wd_217 wd_218 wd_49 wd_219 ⟨Nat.le_of_ble_eq_true rfl, Nat.le_of_ble_eq_true rfl⟩ ⟨Nat.le_of_ble_eq_true rfl, Nat.le_of_ble_eq_true rfl⟩ dX8_burn_14 ?_
  refine x_istore_n (lv' := [(2, .int (jmin (c.2.1 x1.toNatClampNeg) u2)), (0, .ref (a (o + 0))), (1, .int x1)]) C dX8_burn_17 rfl (by decide) rfl ?_
  refine x_iload_n C dX8_burn_18 rfl 0 rfl ?_
  refine x_iconst (v := 5) C dX8_burn_19 (by decide) ?_
  refine x_icmp_lt (tgt := 27) C dX8_burn_20 (by decide) (fun h3 => ?_) (fun h3 => ?_)
  · have hf := x_t h3 hf
    refine x_iconst (v := 0) C dX8_burn_27 (by decide) ?_
    refine x_locals (lv' := [(0, .ref (a (o + 0))), (1, .int x1), (2, .int (jmin (c.2.1 x1.toNatClampNeg) u2))]) [1, 2, 0] rfl ?_
    exact hL28 v c x1 (jmin (c.2.1 x1.toNatClampNeg) u2) (0 : Int32) hf
  · have hf := x_f h3 hf
    refine x_iconst (v := 1) C dX8_burn_23 (by decide) ?_
    refine x_goto (tgt := 28) C dX8_burn_24 (by decide) ?_
    refine x_locals (lv' := [(0, .ref (a (o + 0))), (1, .int x1), (2, .int (jmin (c.2.1 x1.toNatClampNeg) u2))]) [1, 2, 0] rfl ?_
    exact hL28 v c x1 (jmin (c.2.1 x1.toNatClampNeg) u2) (1 : Int32) hf
theorem wd_2 : Cond.selects yX8_carryOutDueEvents.cls yX8_carryOutDueEvents yX8_carryOutDueEvents ∈ xTB := xTB_in 2 (by decide +kernel) (by decide +kernel)
theorem wd_6 : Cond.selects yX8_burn.cls yX8_burn yX8_burn ∈ xTB := xTB_in 6 (by decide +kernel) (by decide +kernel)
theorem wd_186 : Cond.methodLink RX8 132 yX8_carryOutDueEvents ∈ xTB := xTB_in 186 (by decide +kernel) (by decide +kernel)
theorem wd_188 : Cond.instanceMethod yX8_carryOutDueEvents ∈ xTB := xTB_in 188 (by decide +kernel) (by decide +kernel)
theorem wd_190 : Cond.code yX8_carryOutDueEvents cX8_carryOutDueEvents 2 none ∈ xTB := xTB_in 190 (by decide +kernel) (by decide +kernel)
theorem wd_213 : Cond.methodLink RX8 135 yX8_burn ∈ xTB := xTB_in 213 (by decide +kernel) (by decide +kernel)
theorem wd_215 : Cond.instanceMethod yX8_burn ∈ xTB := xTB_in 215 (by decide +kernel) (by decide +kernel)
theorem wd_216 : Cond.code yX8_burn cX8_burn 4 (some .int) ∈ xTB := xTB_in 216 (by decide +kernel) (by decide +kernel)
theorem dX8_passMinute_0 : decode cX8_passMinute 0 = .ok (.aload_n 0, 1) := by decide +kernel
theorem dX8_passMinute_1 : decode cX8_passMinute 1 = .ok (.dup, 1) := by decide +kernel
theorem dX8_passMinute_2 : decode cX8_passMinute 2 = .ok (.getfield 32, 3) := by decide +kernel
theorem dX8_passMinute_5 : decode cX8_passMinute 5 = .ok (.iconst 1, 1) := by decide +kernel
theorem dX8_passMinute_6 : decode cX8_passMinute 6 = .ok (.iadd, 1) := by decide +kernel
theorem dX8_passMinute_7 : decode cX8_passMinute 7 = .ok (.putfield 32, 3) := by decide +kernel
theorem dX8_passMinute_10 : decode cX8_passMinute 10 = .ok (.aload_n 0, 1) := by decide +kernel
theorem dX8_passMinute_11 : decode cX8_passMinute 11 = .ok (.invokevirtual 132, 3) := by decide +kernel
theorem dX8_passMinute_14 : decode cX8_passMinute 14 = .ok (.iconst 0, 1) := by decide +kernel
theorem dX8_passMinute_15 : decode cX8_passMinute 15 = .ok (.istore_n 1, 1) := by decide +kernel
theorem dX8_passMinute_16 : decode cX8_passMinute 16 = .ok (.iconst 0, 1) := by decide +kernel
theorem dX8_passMinute_17 : decode cX8_passMinute 17 = .ok (.istore_n 2, 1) := by decide +kernel
theorem dX8_passMinute_18 : decode cX8_passMinute 18 = .ok (.iload_n 2, 1) := by decide +kernel
theorem dX8_passMinute_19 : decode cX8_passMinute 19 = .ok (.aload_n 0, 1) := by decide +kernel
theorem dX8_passMinute_20 : decode cX8_passMinute 20 = .ok (.getfield 12, 3) := by decide +kernel
theorem dX8_passMinute_23 : decode cX8_passMinute 23 = .ok (.getfield 72, 3) := by decide +kernel
theorem dX8_passMinute_26 : decode cX8_passMinute 26 = .ok (.if_icmp .ge 29, 3) := by decide +kernel
theorem dX8_passMinute_29 : decode cX8_passMinute 29 = .ok (.aload_n 0, 1) := by decide +kernel
theorem dX8_passMinute_30 : decode cX8_passMinute 30 = .ok (.getfield 12, 3) := by decide +kernel
theorem dX8_passMinute_33 : decode cX8_passMinute 33 = .ok (.getfield 92, 3) := by decide +kernel
theorem dX8_passMinute_36 : decode cX8_passMinute 36 = .ok (.iload_n 2, 1) := by decide +kernel
theorem dX8_passMinute_37 : decode cX8_passMinute 37 = .ok (.baload, 1) := by decide +kernel
theorem dX8_passMinute_38 : decode cX8_passMinute 38 = .ok (.ifCond .eq 11, 3) := by decide +kernel
theorem dX8_passMinute_41 : decode cX8_passMinute 41 = .ok (.iload_n 1, 1) := by decide +kernel
theorem dX8_passMinute_42 : decode cX8_passMinute 42 = .ok (.aload_n 0, 1) := by decide +kernel
theorem dX8_passMinute_43 : decode cX8_passMinute 43 = .ok (.iload_n 2, 1) := by decide +kernel
theorem dX8_passMinute_44 : decode cX8_passMinute 44 = .ok (.invokevirtual 135, 3) := by decide +kernel
theorem dX8_passMinute_47 : decode cX8_passMinute 47 = .ok (.iadd, 1) := by decide +kernel
theorem dX8_passMinute_48 : decode cX8_passMinute 48 = .ok (.istore_n 1, 1) := by decide +kernel
theorem dX8_passMinute_49 : decode cX8_passMinute 49 = .ok (.iinc 2 1, 3) := by decide +kernel
theorem dX8_passMinute_52 : decode cX8_passMinute 52 = .ok (.goto (-34), 3) := by decide +kernel
theorem dX8_passMinute_55 : decode cX8_passMinute 55 = .ok (.iload_n 1, 1) := by decide +kernel
theorem dX8_passMinute_56 : decode cX8_passMinute 56 = .ok (.ireturn, 1) := by decide +kernel
set_option maxHeartbeats 4000000 in
set_option maxRecDepth 100000 in
theorem c_X8_passMinute (g : xG) (l : Launch) (a : Nat → Nat) (o : Nat) (v : StS) (c : CdT) (e : EvT)  {u : Int32 × StS × CdT × EvT} (hf : f_X8_passMinute v c e = some u) : ConD g l yX8_passMinute cX8_passMinute 3 (some .int) ({ frames := 3, cells := 0, slots := 0, locals := 65 } : Room) [.ref (a (o + 0))] [stO g a o v, cdW g a o c, evW g a o e] (some (.int u.1)) [stO g a o u.2.1, cdW g a o u.2.2.1, evW g a o u.2.2.2] := by
  unfold f_X8_passMinute at hf
  refine Con_of [stO g a o v, cdW g a o c, evW g a o e] [(0, .ref (a (o + 0)))] rfl rfl (by decide) (Nat.le_of_ble_eq_true rfl) ?_
  intro pW eW sW mW argsW belowW methW c9 C hnm hr
  have C : CX g RX8 cX8_passMinute 3 _ pW sW mW argsW methW c9 := C
  have hL18 : ∀ (nW : Nat) (vL : StS) (cL : CdT) (eL : EvT) (x1 : Int32) (x2 : Int32), f_X8_passMinute_18 nW vL cL eL x1 x2 = some u → VW g (va_A ([stO g a o v, cdW g a o c, evW g a o e] : List va_W).flatten sW.heap.size) 3 pW l eW ({ frames := 3, cells := 0, slots := 0, locals := 65 } : Room) sW mW argsW belowW methW c9 0 0 (MQ belowW (xQc g ([stO g a o v, cdW g a o c, evW g a o e] : List va_W).flatten sW.heap.size (fun v9 w9 => v9 = some (.int u.1) ∧ w9 = ([stO g a o u.2.1, cdW g a o u.2.2.1, evW g a o u.2.2.2] : List va_W).flatten)) argsW sW 0 0 (va_A ([stO g a o v, cdW g a o c, evW g a o e] : List va_W).flatten sW.heap.size)) [stO g a o vL, cdW g a o cL, evW g a o eL] [(0, .ref (a (o + 0))), (1, .int x1), (2, .int x2)] 18 [] := by
    intro nW
    induction nW with
    | zero => intro vL cL eL x1 x2 hf; rw [f_X8_passMinute_18] at hf; cases hf
    | succ nW ih =>
      intro vL cL eL x1 x2 hf
      rw [f_X8_passMinute_18] at hf
      refine x_iload_n C dX8_passMinute_18 rfl 2 rfl ?_
      refine x_aload_n C dX8_passMinute_19 rfl 0 rfl ?_
      refine x_get (ci := 9) (v := .ref (a (o + 1))) (b := stO g a o vL) C ixX8 rfl 0 (by decide) wd_873 (fun _ h => h) 0 rfl 0 (stO_at0 g a o _) rfl dX8_passMinute_20 ?_
      refine x_get (ci := 4) (v := .int cL.2.2.2.2) (b := cdW g a o cL) C ixX1 rfl 4 (by decide) wd_831 (fun _ h => h) 1 rfl 0 (cdW_at0 g a o _) rfl dX8_passMinute_23 ?_
      refine x_icmp_ge (tgt := 55) C dX8_passMinute_26 (by decide) (fun h1 => ?_) (fun h1 => ?_)
      · have hf := x_t h1 hf
        refine x_iload_n C dX8_passMinute_55 rfl 1 rfl ?_
        exact x_iret C hr ⟨by cases hf; rfl, by cases hf; rfl⟩ dX8_passMinute_56
      · have hf := x_f h1 hf
        refine x_aload_n C dX8_passMinute_29 rfl 0 rfl ?_
        refine x_get (ci := 9) (v := .ref (a (o + 1))) (b := stO g a o vL) C ixX8 rfl 0 (by decide) wd_873 (fun _ h => h) 0 rfl 0 (stO_at0 g a o _) rfl dX8_passMinute_30 ?_
        refine x_get (ci := 4) (v := .ref (a (o + 5))) (b := cdW g a o cL) C ixX1 rfl 3 (by decide) wd_828 (fun _ h => h) 1 rfl 0 (cdW_at0 g a o _) rfl dX8_passMinute_33 ?_
        refine x_iload_n C dX8_passMinute_36 rfl 2 rfl ?_
        obtain ⟨h2, hf⟩ := x_n hf
        refine x_zald (b := cdW g a o cL) C 1 rfl 4 (cdW_at4 g a o _) h2 dX8_passMinute_37 ?_
        refine x_if_eq (tgt := 49) C dX8_passMinute_38 (by decide) (fun h3 => ?_) (fun h3 => ?_)
        · have hf := x_t h3 hf
          refine x_iinc (v := x2 + 1) (lv' := [(2, .int (x2 + 1)), (0, .ref (a (o + 0))), (1, .int x1)]) C dX8_passMinute_49 2 rfl rfl (by decide) rfl ?_
          refine x_goto (tgt := 18) C dX8_passMinute_52 (by decide) ?_
          refine x_locals (lv' := [(0, .ref (a (o + 0))), (1, .int x1), (2, .int (x2 + 1))]) [1, 2, 0] rfl ?_
          exact ih vL cL eL x1 (x2 + 1) hf
        · have hf := x_f h3 hf
          refine x_iload_n C dX8_passMinute_41 rfl 1 rfl ?_
          refine x_aload_n C dX8_passMinute_42 rfl 0 rfl ?_
          refine x_iload_n C dX8_passMinute_43 rfl 2 rfl ?_
          obtain ⟨u4, hu4, hf⟩ := x_b hf
          refine x_callV (n := 1) (As := [.int x2]) (rest := [.int x1]) C (c_X8_burn g l a o vL cL x2 hu4) ⟨⟨wd_216, wd_213, wd_26⟩, ⟨by decide, by decide, by decide⟩, rfl, rfl, Nat.le_of_ble_eq_true rfl, Nat.le_of_ble_eq_true rfl⟩ wd_215 wd_6 ⟨0, 9, _, _, rfl, rfl, rfl⟩ [evW g a o eL] (x_pickD [0, 1, 2] 3 rfl rfl rfl) rfl rfl (Nat.le_of_ble_eq_true rfl) ⟨Nat.le_of_ble_eq_true rfl, Nat.le_of_ble_eq_true rfl⟩ dX8_passMinute_44 (x_goD (wss2 := [stO g a o u4.2.1, cdW g a o u4.2.2, evW g a o eL]) (stk2 := [.int u4.1, .int x1]) rfl rfl ?_)
          refine x_iadd C dX8_passMinute_47 ?_
          refine x_istore_n (lv' := [(1, .int (x1 + u4.1)), (0, .ref (a (o + 0))), (2, .int x2)]) C dX8_passMinute_48 rfl (by decide) rfl ?_
          refine x_iinc (v := x2 + 1) (lv' := [(2, .int (x2 + 1)), (1, .int (x1 + u4.1)), (0, .ref (a (o + 0)))]) C dX8_passMinute_49 2 rfl rfl (by decide) rfl ?_
          refine x_goto (tgt := 18) C dX8_passMinute_52 (by decide) ?_
          refine x_locals (lv' := [(0, .ref (a (o + 0))), (1, .int (x1 + u4.1)), (2, .int (x2 + 1))]) [2, 1, 0] rfl ?_
          exact ih u4.2.1 u4.2.2 eL (x1 + u4.1) (x2 + 1) hf
  refine x_aload_n C dX8_passMinute_0 rfl 0 rfl ?_
  refine x_dup C dX8_passMinute_1 rfl ?_
  refine x_get (ci := 9) (v := .int v.2.2.1) (b := stO g a o v) C ixX8 rfl 4 (by decide) wd_881 (fun _ h => h) 0 rfl 0 (stO_at0 g a o _) rfl dX8_passMinute_2 ?_
  refine x_iconst (v := 1) C dX8_passMinute_5 (by decide) ?_
  refine x_iadd C dX8_passMinute_6 ?_
  refine x_put (ci := 9) (ty := .int) (v := .int (v.2.2.1 + (1 : Int32))) (b := stO g a o v) (b' := stO g a o (v.1, v.2.1, v.2.2.1 + (1 : Int32), v.2.2.2.1, v.2.2.2.2.1, v.2.2.2.2.2.1, v.2.2.2.2.2.2.1, v.2.2.2.2.2.2.2)) (wss' := [stO g a o (v.1, v.2.1, v.2.2.1 + (1 : Int32), v.2.2.2.1, v.2.2.2.2.1, v.2.2.2.2.2.1, v.2.2.2.2.2.2.1, v.2.2.2.2.2.2.2), cdW g a o c, evW g a o e]) C ixX8 tyX8 tyX8_ok nmX8 rfl 4 (by decide) wd_881 (fun _ h => h) rfl (tyX8_ok 4 (by decide)) rfl rfl 0 rfl 0 (stO_at0 g a o _) (Nat.le_of_ble_eq_true rfl) rfl rfl dX8_passMinute_7 ?_
  refine x_aload_n C dX8_passMinute_10 rfl 0 rfl ?_
  obtain ⟨u1, hu1, hf⟩ := x_b hf
  refine x_callV (n := 0) (As := []) (rest := []) C (c_X8_carryOutDueEvents g l a o (v.1, v.2.1, v.2.2.1 + (1 : Int32), v.2.2.2.1, v.2.2.2.2.1, v.2.2.2.2.2.1, v.2.2.2.2.2.2.1, v.2.2.2.2.2.2.2) c e hu1) ⟨⟨wd_190, wd_186, wd_26⟩, ⟨by decide, by decide, by decide⟩, rfl, rfl, Nat.le_of_ble_eq_true rfl, Nat.le_of_ble_eq_true rfl⟩ wd_188 wd_2 ⟨0, 9, _, _, rfl, rfl, rfl⟩ [] (x_pickD [0, 1, 2] 3 rfl rfl rfl) rfl rfl (Nat.le_of_ble_eq_true rfl) ⟨Nat.le_of_ble_eq_true rfl, Nat.le_of_ble_eq_true rfl⟩ dX8_passMinute_11 (x_goD (wss2 := [stO g a o u1.1, cdW g a o u1.2.1, evW g a o u1.2.2]) (stk2 := []) rfl rfl ?_)
  refine x_iconst (v := 0) C dX8_passMinute_14 (by decide) ?_
  refine x_istore_n (lv' := [(1, .int (0 : Int32)), (0, .ref (a (o + 0)))]) C dX8_passMinute_15 rfl (by decide) rfl ?_
  refine x_iconst (v := 0) C dX8_passMinute_16 (by decide) ?_
  refine x_istore_n (lv' := [(2, .int (0 : Int32)), (1, .int (0 : Int32)), (0, .ref (a (o + 0)))]) C dX8_passMinute_17 rfl (by decide) rfl ?_
  refine x_locals (lv' := [(0, .ref (a (o + 0))), (1, .int (0 : Int32)), (2, .int (0 : Int32))]) [2, 1, 0] rfl ?_
  exact hL18 xFuel u1.1 u1.2.1 u1.2.2 (0 : Int32) (0 : Int32) hf
theorem wd_183 : Cond.instanceMethod yX8_passMinute ∈ xTB := xTB_in 183 (by decide +kernel) (by decide +kernel)
theorem wd_184 : Cond.selects yX8_passMinute.cls yX8_passMinute yX8_passMinute ∈ xTB := xTB_in 184 (by decide +kernel) (by decide +kernel)
theorem wd_185 : Cond.code yX8_passMinute cX8_passMinute 3 (some .int) ∈ xTB := xTB_in 185 (by decide +kernel) (by decide +kernel)
theorem wd_734 : Cond.methodLink RX8 129 yX8_passMinute ∈ xTB := xTB_in 734 (by decide +kernel) (by decide +kernel)
theorem dX8_passMinutes_0 : decode cX8_passMinutes 0 = .ok (.iconst 0, 1) := by decide +kernel
theorem dX8_passMinutes_1 : decode cX8_passMinutes 1 = .ok (.istore_n 2, 1) := by decide +kernel
theorem dX8_passMinutes_2 : decode cX8_passMinutes 2 = .ok (.iconst 0, 1) := by decide +kernel
theorem dX8_passMinutes_3 : decode cX8_passMinutes 3 = .ok (.istore_n 3, 1) := by decide +kernel
theorem dX8_passMinutes_4 : decode cX8_passMinutes 4 = .ok (.iload_n 3, 1) := by decide +kernel
theorem dX8_passMinutes_5 : decode cX8_passMinutes 5 = .ok (.iload_n 1, 1) := by decide +kernel
theorem dX8_passMinutes_6 : decode cX8_passMinutes 6 = .ok (.if_icmp .ge 16, 3) := by decide +kernel
theorem dX8_passMinutes_9 : decode cX8_passMinutes 9 = .ok (.iload_n 2, 1) := by decide +kernel
theorem dX8_passMinutes_10 : decode cX8_passMinutes 10 = .ok (.aload_n 0, 1) := by decide +kernel
theorem dX8_passMinutes_11 : decode cX8_passMinutes 11 = .ok (.invokevirtual 129, 3) := by decide +kernel
theorem dX8_passMinutes_14 : decode cX8_passMinutes 14 = .ok (.iadd, 1) := by decide +kernel
theorem dX8_passMinutes_15 : decode cX8_passMinutes 15 = .ok (.istore_n 2, 1) := by decide +kernel
theorem dX8_passMinutes_16 : decode cX8_passMinutes 16 = .ok (.iinc 3 1, 3) := by decide +kernel
theorem dX8_passMinutes_19 : decode cX8_passMinutes 19 = .ok (.goto (-15), 3) := by decide +kernel
theorem dX8_passMinutes_22 : decode cX8_passMinutes 22 = .ok (.iload_n 2, 1) := by decide +kernel
theorem dX8_passMinutes_23 : decode cX8_passMinutes 23 = .ok (.ireturn, 1) := by decide +kernel
set_option maxHeartbeats 4000000 in
set_option maxRecDepth 100000 in
theorem c_X8_passMinutes (g : xG) (l : Launch) (a : Nat → Nat) (o : Nat) (v : StS) (c : CdT) (e : EvT) (x1 : Int32) {u : Int32 × StS × CdT × EvT} (hf : f_X8_passMinutes v c e x1 = some u) : ConD g l yX8_passMinutes cX8_passMinutes 4 (some .int) ({ frames := 4, cells := 0, slots := 0, locals := 87 } : Room) [.ref (a (o + 0)), .int x1] [stO g a o v, cdW g a o c, evW g a o e] (some (.int u.1)) [stO g a o u.2.1, cdW g a o u.2.2.1, evW g a o u.2.2.2] := by
  unfold f_X8_passMinutes at hf
  refine Con_of [stO g a o v, cdW g a o c, evW g a o e] [(0, .ref (a (o + 0))), (1, .int x1)] rfl rfl (by decide) (Nat.le_of_ble_eq_true rfl) ?_
  intro pW eW sW mW argsW belowW methW c9 C hnm hr
  have C : CX g RX8 cX8_passMinutes 4 _ pW sW mW argsW methW c9 := C
  have hL4 : ∀ (nW : Nat) (vL : StS) (cL : CdT) (eL : EvT) (x1 : Int32) (x2 : Int32) (x3 : Int32), f_X8_passMinutes_4 nW vL cL eL x1 x2 x3 = some u → VW g (va_A ([stO g a o v, cdW g a o c, evW g a o e] : List va_W).flatten sW.heap.size) 4 pW l eW ({ frames := 4, cells := 0, slots := 0, locals := 87 } : Room) sW mW argsW belowW methW c9 0 0 (MQ belowW (xQc g ([stO g a o v, cdW g a o c, evW g a o e] : List va_W).flatten sW.heap.size (fun v9 w9 => v9 = some (.int u.1) ∧ w9 = ([stO g a o u.2.1, cdW g a o u.2.2.1, evW g a o u.2.2.2] : List va_W).flatten)) argsW sW 0 0 (va_A ([stO g a o v, cdW g a o c, evW g a o e] : List va_W).flatten sW.heap.size)) [stO g a o vL, cdW g a o cL, evW g a o eL] [(0, .ref (a (o + 0))), (1, .int x1), (2, .int x2), (3, .int x3)] 4 [] := by
    intro nW
    induction nW with
    | zero => intro vL cL eL x1 x2 x3 hf; rw [f_X8_passMinutes_4] at hf; cases hf
    | succ nW ih =>
      intro vL cL eL x1 x2 x3 hf
      rw [f_X8_passMinutes_4] at hf
      refine x_iload_n C dX8_passMinutes_4 rfl 3 rfl ?_
      refine x_iload_n C dX8_passMinutes_5 rfl 1 rfl ?_
      refine x_icmp_ge (tgt := 22) C dX8_passMinutes_6 (by decide) (fun h1 => ?_) (fun h1 => ?_)
      · have hf := x_t h1 hf
        refine x_iload_n C dX8_passMinutes_22 rfl 2 rfl ?_
        exact x_iret C hr ⟨by cases hf; rfl, by cases hf; rfl⟩ dX8_passMinutes_23
      · have hf := x_f h1 hf
        refine x_iload_n C dX8_passMinutes_9 rfl 2 rfl ?_
        refine x_aload_n C dX8_passMinutes_10 rfl 0 rfl ?_
        obtain ⟨u2, hu2, hf⟩ := x_b hf
        refine x_callV (n := 0) (As := []) (rest := [.int x2]) C (c_X8_passMinute g l a o vL cL eL hu2) ⟨⟨wd_185, wd_734, wd_26⟩, ⟨by decide, by decide, by decide⟩, rfl, rfl, Nat.le_of_ble_eq_true rfl, Nat.le_of_ble_eq_true rfl⟩ wd_183 wd_184 ⟨0, 9, _, _, rfl, rfl, rfl⟩ [] (x_pickD [0, 1, 2] 3 rfl rfl rfl) rfl rfl (Nat.le_of_ble_eq_true rfl) ⟨Nat.le_of_ble_eq_true rfl, Nat.le_of_ble_eq_true rfl⟩ dX8_passMinutes_11 (x_goD (wss2 := [stO g a o u2.2.1, cdW g a o u2.2.2.1, evW g a o u2.2.2.2]) (stk2 := [.int u2.1, .int x2]) rfl rfl ?_)
        refine x_iadd C dX8_passMinutes_14 ?_
        refine x_istore_n (lv' := [(2, .int (x2 + u2.1)), (0, .ref (a (o + 0))), (1, .int x1), (3, .int x3)]) C dX8_passMinutes_15 rfl (by decide) rfl ?_
        refine x_iinc (v := x3 + 1) (lv' := [(3, .int (x3 + 1)), (2, .int (x2 + u2.1)), (0, .ref (a (o + 0))), (1, .int x1)]) C dX8_passMinutes_16 3 rfl rfl (by decide) rfl ?_
        refine x_goto (tgt := 4) C dX8_passMinutes_19 (by decide) ?_
        refine x_locals (lv' := [(0, .ref (a (o + 0))), (1, .int x1), (2, .int (x2 + u2.1)), (3, .int (x3 + 1))]) [2, 3, 1, 0] rfl ?_
        exact ih u2.2.1 u2.2.2.1 u2.2.2.2 x1 (x2 + u2.1) (x3 + 1) hf
  refine x_iconst (v := 0) C dX8_passMinutes_0 (by decide) ?_
  refine x_istore_n (lv' := [(2, .int (0 : Int32)), (0, .ref (a (o + 0))), (1, .int x1)]) C dX8_passMinutes_1 rfl (by decide) rfl ?_
  refine x_iconst (v := 0) C dX8_passMinutes_2 (by decide) ?_
  refine x_istore_n (lv' := [(3, .int (0 : Int32)), (2, .int (0 : Int32)), (0, .ref (a (o + 0))), (1, .int x1)]) C dX8_passMinutes_3 rfl (by decide) rfl ?_
  refine x_locals (lv' := [(0, .ref (a (o + 0))), (1, .int x1), (2, .int (0 : Int32)), (3, .int (0 : Int32))]) [2, 3, 1, 0] rfl ?_
  exact hL4 xFuel v c e x1 (0 : Int32) (0 : Int32) hf
theorem dX8_minutesLeftOf_0 : decode cX8_minutesLeftOf 0 = .ok (.aload_n 0, 1) := by decide +kernel
theorem dX8_minutesLeftOf_1 : decode cX8_minutesLeftOf 1 = .ok (.iload_n 1, 1) := by decide +kernel
theorem dX8_minutesLeftOf_2 : decode cX8_minutesLeftOf 2 = .ok (.invokevirtual 161, 3) := by decide +kernel
theorem dX8_minutesLeftOf_5 : decode cX8_minutesLeftOf 5 = .ok (.istore_n 2, 1) := by decide +kernel
theorem dX8_minutesLeftOf_6 : decode cX8_minutesLeftOf 6 = .ok (.iload_n 2, 1) := by decide +kernel
theorem dX8_minutesLeftOf_7 : decode cX8_minutesLeftOf 7 = .ok (.iconst 1, 1) := by decide +kernel
theorem dX8_minutesLeftOf_8 : decode cX8_minutesLeftOf 8 = .ok (.if_icmp .ge 5, 3) := by decide +kernel
theorem dX8_minutesLeftOf_11 : decode cX8_minutesLeftOf 11 = .ok (.iconst 0, 1) := by decide +kernel
theorem dX8_minutesLeftOf_12 : decode cX8_minutesLeftOf 12 = .ok (.ireturn, 1) := by decide +kernel
theorem dX8_minutesLeftOf_13 : decode cX8_minutesLeftOf 13 = .ok (.aload_n 0, 1) := by decide +kernel
theorem dX8_minutesLeftOf_14 : decode cX8_minutesLeftOf 14 = .ok (.getfield 12, 3) := by decide +kernel
theorem dX8_minutesLeftOf_17 : decode cX8_minutesLeftOf 17 = .ok (.getfield 85, 3) := by decide +kernel
theorem dX8_minutesLeftOf_20 : decode cX8_minutesLeftOf 20 = .ok (.iload_n 1, 1) := by decide +kernel
theorem dX8_minutesLeftOf_21 : decode cX8_minutesLeftOf 21 = .ok (.iaload, 1) := by decide +kernel
theorem dX8_minutesLeftOf_22 : decode cX8_minutesLeftOf 22 = .ok (.iload_n 2, 1) := by decide +kernel
theorem dX8_minutesLeftOf_23 : decode cX8_minutesLeftOf 23 = .ok (.iadd, 1) := by decide +kernel
theorem dX8_minutesLeftOf_24 : decode cX8_minutesLeftOf 24 = .ok (.iconst 1, 1) := by decide +kernel
theorem dX8_minutesLeftOf_25 : decode cX8_minutesLeftOf 25 = .ok (.isub, 1) := by decide +kernel
theorem dX8_minutesLeftOf_26 : decode cX8_minutesLeftOf 26 = .ok (.iload_n 2, 1) := by decide +kernel
theorem dX8_minutesLeftOf_27 : decode cX8_minutesLeftOf 27 = .ok (.idiv, 1) := by decide +kernel
theorem dX8_minutesLeftOf_28 : decode cX8_minutesLeftOf 28 = .ok (.ireturn, 1) := by decide +kernel
set_option maxHeartbeats 4000000 in
set_option maxRecDepth 100000 in
theorem c_X8_minutesLeftOf (g : xG) (l : Launch) (a : Nat → Nat) (o : Nat) (v : StS) (c : CdT) (x1 : Int32) {u : Int32} (hf : f_X8_minutesLeftOf v c x1 = some u) : ConD g l yX8_minutesLeftOf cX8_minutesLeftOf 3 (some .int) ({ frames := 1, cells := 0, slots := 0, locals := 21 } : Room) [.ref (a (o + 0)), .int x1] [stO g a o v, cdW g a o c] (some (.int u)) [stO g a o v, cdW g a o c] := by
  unfold f_X8_minutesLeftOf at hf
  refine Con_of [stO g a o v, cdW g a o c] [(0, .ref (a (o + 0))), (1, .int x1)] rfl rfl (by decide) (Nat.le_of_ble_eq_true rfl) ?_
  intro pW eW sW mW argsW belowW methW c9 C hnm hr
  have C : CX g RX8 cX8_minutesLeftOf 3 _ pW sW mW argsW methW c9 := C
  refine x_aload_n C dX8_minutesLeftOf_0 rfl 0 rfl ?_
  refine x_iload_n C dX8_minutesLeftOf_1 rfl 1 rfl ?_
  obtain ⟨u1, hu1, hf⟩ := x_b hf
  refine x_callV (n := 1) (As := [.int x1]) (rest := []) C (c_X8_consumptionOf g l a o v c x1 hu1) ⟨⟨wd_152, wd_149, wd_26⟩, ⟨by decide, by decide, by decide⟩, rfl, rfl, Nat.le_of_ble_eq_true rfl, Nat.le_of_ble_eq_true rfl⟩ wd_150 wd_151 ⟨0, 9, _, _, rfl, rfl, rfl⟩ [] (x_pickD [0, 1] 2 rfl rfl rfl) rfl rfl (Nat.le_of_ble_eq_true rfl) ⟨Nat.le_of_ble_eq_true rfl, Nat.le_of_ble_eq_true rfl⟩ dX8_minutesLeftOf_2 (x_goD (wss2 := [stO g a o v, cdW g a o c]) (stk2 := [.int u1]) rfl rfl ?_)
  refine x_istore_n (lv' := [(2, .int u1), (0, .ref (a (o + 0))), (1, .int x1)]) C dX8_minutesLeftOf_5 rfl (by decide) rfl ?_
  refine x_iload_n C dX8_minutesLeftOf_6 rfl 0 rfl ?_
  refine x_iconst (v := 1) C dX8_minutesLeftOf_7 (by decide) ?_
  refine x_icmp_ge (tgt := 13) C dX8_minutesLeftOf_8 (by decide) (fun h2 => ?_) (fun h2 => ?_)
  · have hf := x_t h2 hf
    refine x_aload_n C dX8_minutesLeftOf_13 rfl 1 rfl ?_
    refine x_get (ci := 9) (v := .ref (a (o + 1))) (b := stO g a o v) C ixX8 rfl 0 (by decide) wd_873 (fun _ h => h) 0 rfl 0 (stO_at0 g a o _) rfl dX8_minutesLeftOf_14 ?_
    refine x_get (ci := 4) (v := .ref (a (o + 3))) (b := cdW g a o c) C ixX1 rfl 1 (by decide) wd_823 (fun _ h => h) 1 rfl 0 (cdW_at0 g a o _) rfl dX8_minutesLeftOf_17 ?_
    refine x_iload_n C dX8_minutesLeftOf_20 rfl 2 rfl ?_
    obtain ⟨h3, hf⟩ := x_n hf
    refine x_iald (b := cdW g a o c) C 1 rfl 2 (cdW_at2 g a o _) h3 dX8_minutesLeftOf_21 ?_
    refine x_iload_n C dX8_minutesLeftOf_22 rfl 0 rfl ?_
    refine x_iadd C dX8_minutesLeftOf_23 ?_
    refine x_iconst (v := 1) C dX8_minutesLeftOf_24 (by decide) ?_
    refine x_isub C dX8_minutesLeftOf_25 ?_
    refine x_iload_n C dX8_minutesLeftOf_26 rfl 0 rfl ?_
    obtain ⟨h4, hf⟩ := x_n hf
    refine x_idiv C dX8_minutesLeftOf_27 h4 ?_
    exact x_iret C hr ⟨by cases hf; rfl, by cases hf; rfl⟩ dX8_minutesLeftOf_28
  · have hf := x_f h2 hf
    refine x_iconst (v := 0) C dX8_minutesLeftOf_11 (by decide) ?_
    exact x_iret C hr ⟨by cases hf; rfl, by cases hf; rfl⟩ dX8_minutesLeftOf_12
theorem wd_1328 : Cond.constant RX8 170 1000000 ∈ xTB := xTB_in 1328 (by decide +kernel) (by decide +kernel)
theorem dX8_minutesOfBurning_0 : decode cX8_minutesOfBurning 0 = .ok (.aload_n 0, 1) := by decide +kernel
theorem dX8_minutesOfBurning_1 : decode cX8_minutesOfBurning 1 = .ok (.getfield 12, 3) := by decide +kernel
theorem dX8_minutesOfBurning_4 : decode cX8_minutesOfBurning 4 = .ok (.getfield 85, 3) := by decide +kernel
theorem dX8_minutesOfBurning_7 : decode cX8_minutesOfBurning 7 = .ok (.iload_n 1, 1) := by decide +kernel
theorem dX8_minutesOfBurning_8 : decode cX8_minutesOfBurning 8 = .ok (.iaload, 1) := by decide +kernel
theorem dX8_minutesOfBurning_9 : decode cX8_minutesOfBurning 9 = .ok (.istore_n 2, 1) := by decide +kernel
theorem dX8_minutesOfBurning_10 : decode cX8_minutesOfBurning 10 = .ok (.iconst 0, 1) := by decide +kernel
theorem dX8_minutesOfBurning_11 : decode cX8_minutesOfBurning 11 = .ok (.istore_n 3, 1) := by decide +kernel
theorem dX8_minutesOfBurning_12 : decode cX8_minutesOfBurning 12 = .ok (.iload_n 2, 1) := by decide +kernel
theorem dX8_minutesOfBurning_13 : decode cX8_minutesOfBurning 13 = .ok (.ifCond .le 27, 3) := by decide +kernel
theorem dX8_minutesOfBurning_16 : decode cX8_minutesOfBurning 16 = .ok (.iload_n 3, 1) := by decide +kernel
theorem dX8_minutesOfBurning_17 : decode cX8_minutesOfBurning 17 = .ok (.ldc 170, 2) := by decide +kernel
theorem dX8_minutesOfBurning_19 : decode cX8_minutesOfBurning 19 = .ok (.if_icmp .ge 21, 3) := by decide +kernel
theorem dX8_minutesOfBurning_22 : decode cX8_minutesOfBurning 22 = .ok (.iload_n 2, 1) := by decide +kernel
theorem dX8_minutesOfBurning_23 : decode cX8_minutesOfBurning 23 = .ok (.iload_n 2, 1) := by decide +kernel
theorem dX8_minutesOfBurning_24 : decode cX8_minutesOfBurning 24 = .ok (.aload_n 0, 1) := by decide +kernel
theorem dX8_minutesOfBurning_25 : decode cX8_minutesOfBurning 25 = .ok (.iload_n 1, 1) := by decide +kernel
theorem dX8_minutesOfBurning_26 : decode cX8_minutesOfBurning 26 = .ok (.invokevirtual 161, 3) := by decide +kernel
theorem dX8_minutesOfBurning_29 : decode cX8_minutesOfBurning 29 = .ok (.invokestatic 164, 3) := by decide +kernel
theorem dX8_minutesOfBurning_32 : decode cX8_minutesOfBurning 32 = .ok (.isub, 1) := by decide +kernel
theorem dX8_minutesOfBurning_33 : decode cX8_minutesOfBurning 33 = .ok (.istore_n 2, 1) := by decide +kernel
theorem dX8_minutesOfBurning_34 : decode cX8_minutesOfBurning 34 = .ok (.iinc 3 1, 3) := by decide +kernel
theorem dX8_minutesOfBurning_37 : decode cX8_minutesOfBurning 37 = .ok (.goto (-25), 3) := by decide +kernel
theorem dX8_minutesOfBurning_40 : decode cX8_minutesOfBurning 40 = .ok (.iload_n 3, 1) := by decide +kernel
theorem dX8_minutesOfBurning_41 : decode cX8_minutesOfBurning 41 = .ok (.ireturn, 1) := by decide +kernel
set_option maxHeartbeats 4000000 in
set_option maxRecDepth 100000 in
theorem c_X8_minutesOfBurning (g : xG) (l : Launch) (a : Nat → Nat) (o : Nat) (v : StS) (c : CdT) (x1 : Int32) {u : Int32} (hf : f_X8_minutesOfBurning v c x1 = some u) : ConD g l yX8_minutesOfBurning cX8_minutesOfBurning 4 (some .int) ({ frames := 1, cells := 0, slots := 0, locals := 21 } : Room) [.ref (a (o + 0)), .int x1] [stO g a o v, cdW g a o c] (some (.int u)) [stO g a o v, cdW g a o c] := by
  unfold f_X8_minutesOfBurning at hf
  refine Con_of [stO g a o v, cdW g a o c] [(0, .ref (a (o + 0))), (1, .int x1)] rfl rfl (by decide) (Nat.le_of_ble_eq_true rfl) ?_
  intro pW eW sW mW argsW belowW methW c9 C hnm hr
  have C : CX g RX8 cX8_minutesOfBurning 4 _ pW sW mW argsW methW c9 := C
  have hL12 : ∀ (nW : Nat) (x1 : Int32) (x2 : Int32) (x3 : Int32), f_X8_minutesOfBurning_12 nW v c x1 x2 x3 = some u → VW g (va_A ([stO g a o v, cdW g a o c] : List va_W).flatten sW.heap.size) 4 pW l eW ({ frames := 1, cells := 0, slots := 0, locals := 21 } : Room) sW mW argsW belowW methW c9 0 0 (MQ belowW (xQc g ([stO g a o v, cdW g a o c] : List va_W).flatten sW.heap.size (fun v9 w9 => v9 = some (.int u) ∧ w9 = ([stO g a o v, cdW g a o c] : List va_W).flatten)) argsW sW 0 0 (va_A ([stO g a o v, cdW g a o c] : List va_W).flatten sW.heap.size)) [stO g a o v, cdW g a o c] [(0, .ref (a (o + 0))), (1, .int x1), (2, .int x2), (3, .int x3)] 12 [] := by
    intro nW
    induction nW with
    | zero => intro x1 x2 x3 hf; rw [f_X8_minutesOfBurning_12] at hf; cases hf
    | succ nW ih =>
      intro x1 x2 x3 hf
      rw [f_X8_minutesOfBurning_12] at hf
      refine x_iload_n C dX8_minutesOfBurning_12 rfl 2 rfl ?_
      refine x_if_le (tgt := 40) C dX8_minutesOfBurning_13 (by decide) (fun h1 => ?_) (fun h1 => ?_)
      · have hf := x_t h1 hf
        refine x_iload_n C dX8_minutesOfBurning_40 rfl 3 rfl ?_
        exact x_iret C hr ⟨by cases hf; rfl, by cases hf; rfl⟩ dX8_minutesOfBurning_41
      · have hf := x_f h1 hf
        refine x_iload_n C dX8_minutesOfBurning_16 rfl 3 rfl ?_
        refine x_ldc C wd_1328 dX8_minutesOfBurning_17 ?_
        refine x_icmp_ge (tgt := 40) C dX8_minutesOfBurning_19 (by decide) (fun h2 => ?_) (fun h2 => ?_)
        · have hf := x_t h2 hf
          refine x_iload_n C dX8_minutesOfBurning_40 rfl 3 rfl ?_
          exact x_iret C hr ⟨by cases hf; rfl, by cases hf; rfl⟩ dX8_minutesOfBurning_41
        · have hf := x_f h2 hf
          refine x_iload_n C dX8_minutesOfBurning_22 rfl 2 rfl ?_
          refine x_iload_n C dX8_minutesOfBurning_23 rfl 2 rfl ?_
          refine x_aload_n C dX8_minutesOfBurning_24 rfl 0 rfl ?_
          refine x_iload_n C dX8_minutesOfBurning_25 rfl 1 rfl ?_
          obtain ⟨u3, hu3, hf⟩ := x_b hf
          refine x_callV (n := 1) (As := [.int x1]) (rest := [.int x2, .int x2]) C (c_X8_consumptionOf g l a o v c x1 hu3) ⟨⟨wd_152, wd_149, wd_26⟩, ⟨by decide, by decide, by decide⟩, rfl, rfl, Nat.le_of_ble_eq_true rfl, Nat.le_of_ble_eq_true rfl⟩ wd_150 wd_151 ⟨0, 9, _, _, rfl, rfl, rfl⟩ [] (x_pickD [0, 1] 2 rfl rfl rfl) rfl rfl (Nat.le_of_ble_eq_true rfl) ⟨Nat.le_of_ble_eq_true rfl, Nat.le_of_ble_eq_true rfl⟩ dX8_minutesOfBurning_26 (x_goD (wss2 := [stO g a o v, cdW g a o c]) (stk2 := [.int u3, .int x2, .int x2]) rfl rfl ?_)
          refine x_min C wd_217 wd_218 wd_49 wd_219 ⟨Nat.le_of_ble_eq_true rfl, Nat.le_of_ble_eq_true rfl⟩ ⟨Nat.le_of_ble_eq_true rfl, Nat.le_of_ble_eq_true rfl⟩ dX8_minutesOfBurning_29 ?_
          refine x_isub C dX8_minutesOfBurning_32 ?_
          refine x_istore_n (lv' := [(2, .int (x2 - (jmin x2 u3))), (0, .ref (a (o + 0))), (1, .int x1), (3, .int x3)]) C dX8_minutesOfBurning_33 rfl (by decide) rfl ?_
          refine x_iinc (v := x3 + 1) (lv' := [(3, .int (x3 + 1)), (2, .int (x2 - (jmin x2 u3))), (0, .ref (a (o + 0))), (1, .int x1)]) C dX8_minutesOfBurning_34 3 rfl rfl (by decide) rfl ?_
          refine x_goto (tgt := 12) C dX8_minutesOfBurning_37 (by decide) ?_
          refine x_locals (lv' := [(0, .ref (a (o + 0))), (1, .int x1), (2, .int (x2 - (jmin x2 u3))), (3, .int (x3 + 1))]) [2, 3, 1, 0] rfl ?_
          exact ih x1 (x2 - (jmin x2 u3)) (x3 + 1) hf
  refine x_aload_n C dX8_minutesOfBurning_0 rfl 0 rfl ?_
  refine x_get (ci := 9) (v := .ref (a (o + 1))) (b := stO g a o v) C ixX8 rfl 0 (by decide) wd_873 (fun _ h => h) 0 rfl 0 (stO_at0 g a o _) rfl dX8_minutesOfBurning_1 ?_
  refine x_get (ci := 4) (v := .ref (a (o + 3))) (b := cdW g a o c) C ixX1 rfl 1 (by decide) wd_823 (fun _ h => h) 1 rfl 0 (cdW_at0 g a o _) rfl dX8_minutesOfBurning_4 ?_
  refine x_iload_n C dX8_minutesOfBurning_7 rfl 1 rfl ?_
  obtain ⟨h1, hf⟩ := x_n hf
  refine x_iald (b := cdW g a o c) C 1 rfl 2 (cdW_at2 g a o _) h1 dX8_minutesOfBurning_8 ?_
  refine x_istore_n (lv' := [(2, .int (c.2.1 x1.toNatClampNeg)), (0, .ref (a (o + 0))), (1, .int x1)]) C dX8_minutesOfBurning_9 rfl (by decide) rfl ?_
  refine x_iconst (v := 0) C dX8_minutesOfBurning_10 (by decide) ?_
  refine x_istore_n (lv' := [(3, .int (0 : Int32)), (2, .int (c.2.1 x1.toNatClampNeg)), (0, .ref (a (o + 0))), (1, .int x1)]) C dX8_minutesOfBurning_11 rfl (by decide) rfl ?_
  refine x_locals (lv' := [(0, .ref (a (o + 0))), (1, .int x1), (2, .int (c.2.1 x1.toNatClampNeg)), (3, .int (0 : Int32))]) [2, 3, 1, 0] rfl ?_
  exact hL12 xFuel x1 (c.2.1 x1.toNatClampNeg) (0 : Int32) hf
theorem dX8_isDark_0 : decode cX8_isDark 0 = .ok (.aload_n 0, 1) := by decide +kernel
theorem dX8_isDark_1 : decode cX8_isDark 1 = .ok (.getfield 12, 3) := by decide +kernel
theorem dX8_isDark_4 : decode cX8_isDark 4 = .ok (.invokevirtual 109, 3) := by decide +kernel
theorem dX8_isDark_7 : decode cX8_isDark 7 = .ok (.ifCond .ne 17, 3) := by decide +kernel
theorem dX8_isDark_10 : decode cX8_isDark 10 = .ok (.aload_n 0, 1) := by decide +kernel
theorem dX8_isDark_11 : decode cX8_isDark 11 = .ok (.getfield 21, 3) := by decide +kernel
theorem dX8_isDark_14 : decode cX8_isDark 14 = .ok (.getfield 139, 3) := by decide +kernel
theorem dX8_isDark_17 : decode cX8_isDark 17 = .ok (.ifCond .ne 7, 3) := by decide +kernel
theorem dX8_isDark_20 : decode cX8_isDark 20 = .ok (.iconst 1, 1) := by decide +kernel
theorem dX8_isDark_21 : decode cX8_isDark 21 = .ok (.goto 4, 3) := by decide +kernel
theorem dX8_isDark_24 : decode cX8_isDark 24 = .ok (.iconst 0, 1) := by decide +kernel
theorem dX8_isDark_25 : decode cX8_isDark 25 = .ok (.ireturn, 1) := by decide +kernel
set_option maxHeartbeats 4000000 in
set_option maxRecDepth 100000 in
theorem c_X8_isDark (g : xG) (l : Launch) (a : Nat → Nat) (o : Nat) (v : StS) (c : CdT) (e : EvT)  {u : Int32} (hf : f_X8_isDark v c e = some u) : ConD g l yX8_isDark cX8_isDark 1 (some .boolean) ({ frames := 1, cells := 0, slots := 0, locals := 22 } : Room) [.ref (a (o + 0))] [stO g a o v, cdW g a o c, evW g a o e] (some (.int u)) [stO g a o v, cdW g a o c, evW g a o e] := by
  unfold f_X8_isDark at hf
  refine Con_of [stO g a o v, cdW g a o c, evW g a o e] [(0, .ref (a (o + 0)))] rfl rfl (by decide) (Nat.le_of_ble_eq_true rfl) ?_
  intro pW eW sW mW argsW belowW methW c9 C hnm hr
  have C : CX g RX8 cX8_isDark 1 _ pW sW mW argsW methW c9 := C
  refine x_aload_n C dX8_isDark_0 rfl 0 rfl ?_
  refine x_get (ci := 9) (v := .ref (a (o + 1))) (b := stO g a o v) C ixX8 rfl 0 (by decide) wd_873 (fun _ h => h) 0 rfl 0 (stO_at0 g a o _) rfl dX8_isDark_1 ?_
  obtain ⟨u1, hu1, hf⟩ := x_b hf
  refine x_callV (n := 0) (As := []) (rest := []) C (c_X1_countLit g l a o c hu1) ⟨⟨wd_181, wd_178, wd_27⟩, ⟨by decide, by decide, by decide⟩, rfl, rfl, Nat.le_of_ble_eq_true rfl, Nat.le_of_ble_eq_true rfl⟩ wd_179 wd_180 ⟨0, 4, _, _, rfl, rfl, rfl⟩ [stO g a o v, evW g a o e] (x_pickD [1, 0, 2] 3 rfl rfl rfl) rfl rfl (Nat.le_of_ble_eq_true rfl) ⟨Nat.le_of_ble_eq_true rfl, Nat.le_of_ble_eq_true rfl⟩ dX8_isDark_4 (x_goD (wss2 := [cdW g a o c, stO g a o v, evW g a o e]) (stk2 := [.int u1]) rfl rfl ?_)
  refine x_if_ne (tgt := 24) C dX8_isDark_7 (by decide) (fun h2 => ?_) (fun h2 => ?_)
  · have hf := x_f h2 hf
    refine x_iconst (v := 0) C dX8_isDark_24 (by decide) ?_
    refine x_perm (wss' := [stO g a o v, cdW g a o c, evW g a o e]) (x_pick [1, 0, 2] 3 rfl rfl rfl) ?_
    exact x_zret C hr rfl ⟨by cases hf; rfl, by cases hf; rfl⟩ dX8_isDark_25
  · have hf := x_t h2 hf
    refine x_aload_n C dX8_isDark_10 rfl 0 rfl ?_
    refine x_get (ci := 9) (v := .ref (a (o + 6))) (b := stO g a o v) C ixX8 rfl 1 (by decide) wd_875 (fun _ h => h) 1 rfl 0 (stO_at0 g a o _) rfl dX8_isDark_11 ?_
    refine x_get (ci := 6) (v := .int e.2.2.2) (b := evW g a o e) C ixX3 rfl 3 (by decide) wd_863 (fun _ h => h) 2 rfl 0 (evW_at0 g a o _) rfl dX8_isDark_14 ?_
    refine x_if_ne (tgt := 24) C dX8_isDark_17 (by decide) (fun h3 => ?_) (fun h3 => ?_)
    · have hf := x_f h3 hf
      refine x_iconst (v := 0) C dX8_isDark_24 (by decide) ?_
      refine x_perm (wss' := [stO g a o v, cdW g a o c, evW g a o e]) (x_pick [1, 0, 2] 3 rfl rfl rfl) ?_
      exact x_zret C hr rfl ⟨by cases hf; rfl, by cases hf; rfl⟩ dX8_isDark_25
    · have hf := x_t h3 hf
      refine x_iconst (v := 1) C dX8_isDark_20 (by decide) ?_
      refine x_goto (tgt := 25) C dX8_isDark_21 (by decide) ?_
      refine x_perm (wss' := [stO g a o v, cdW g a o c, evW g a o e]) (x_pick [1, 0, 2] 3 rfl rfl rfl) ?_
      exact x_zret C hr rfl ⟨by cases hf; rfl, by cases hf; rfl⟩ dX8_isDark_25
theorem wd_146 : Cond.instanceMethod yX8_minutesLeftOf ∈ xTB := xTB_in 146 (by decide +kernel) (by decide +kernel)
theorem wd_147 : Cond.selects yX8_minutesLeftOf.cls yX8_minutesLeftOf yX8_minutesLeftOf ∈ xTB := xTB_in 147 (by decide +kernel) (by decide +kernel)
theorem wd_148 : Cond.code yX8_minutesLeftOf cX8_minutesLeftOf 3 (some .int) ∈ xTB := xTB_in 148 (by decide +kernel) (by decide +kernel)
theorem wd_1363 : Cond.methodLink RX8 174 yX8_minutesLeftOf ∈ xTB := xTB_in 1363 (by decide +kernel) (by decide +kernel)
theorem dX8_minutesToNextHappening_0 : decode cX8_minutesToNextHappening 0 = .ok (.aload_n 0, 1) := by decide +kernel
theorem dX8_minutesToNextHappening_1 : decode cX8_minutesToNextHappening 1 = .ok (.getfield 21, 3) := by decide +kernel
theorem dX8_minutesToNextHappening_4 : decode cX8_minutesToNextHappening 4 = .ok (.getfield 139, 3) := by decide +kernel
theorem dX8_minutesToNextHappening_7 : decode cX8_minutesToNextHappening 7 = .ok (.ifCond .le 20, 3) := by decide +kernel
theorem dX8_minutesToNextHappening_10 : decode cX8_minutesToNextHappening 10 = .ok (.aload_n 0, 1) := by decide +kernel
theorem dX8_minutesToNextHappening_11 : decode cX8_minutesToNextHappening 11 = .ok (.getfield 21, 3) := by decide +kernel
theorem dX8_minutesToNextHappening_14 : decode cX8_minutesToNextHappening 14 = .ok (.getfield 140, 3) := by decide +kernel
theorem dX8_minutesToNextHappening_17 : decode cX8_minutesToNextHappening 17 = .ok (.iconst 0, 1) := by decide +kernel
theorem dX8_minutesToNextHappening_18 : decode cX8_minutesToNextHappening 18 = .ok (.iaload, 1) := by decide +kernel
theorem dX8_minutesToNextHappening_19 : decode cX8_minutesToNextHappening 19 = .ok (.aload_n 0, 1) := by decide +kernel
theorem dX8_minutesToNextHappening_20 : decode cX8_minutesToNextHappening 20 = .ok (.getfield 32, 3) := by decide +kernel
theorem dX8_minutesToNextHappening_23 : decode cX8_minutesToNextHappening 23 = .ok (.isub, 1) := by decide +kernel
theorem dX8_minutesToNextHappening_24 : decode cX8_minutesToNextHappening 24 = .ok (.goto 5, 3) := by decide +kernel
theorem dX8_minutesToNextHappening_27 : decode cX8_minutesToNextHappening 27 = .ok (.ldc 170, 2) := by decide +kernel
theorem dX8_minutesToNextHappening_29 : decode cX8_minutesToNextHappening 29 = .ok (.istore_n 1, 1) := by decide +kernel
theorem dX8_minutesToNextHappening_30 : decode cX8_minutesToNextHappening 30 = .ok (.iconst 0, 1) := by decide +kernel
theorem dX8_minutesToNextHappening_31 : decode cX8_minutesToNextHappening 31 = .ok (.istore_n 2, 1) := by decide +kernel
theorem dX8_minutesToNextHappening_32 : decode cX8_minutesToNextHappening 32 = .ok (.iload_n 2, 1) := by decide +kernel
theorem dX8_minutesToNextHappening_33 : decode cX8_minutesToNextHappening 33 = .ok (.aload_n 0, 1) := by decide +kernel
theorem dX8_minutesToNextHappening_34 : decode cX8_minutesToNextHappening 34 = .ok (.getfield 12, 3) := by decide +kernel
theorem dX8_minutesToNextHappening_37 : decode cX8_minutesToNextHappening 37 = .ok (.getfield 72, 3) := by decide +kernel
theorem dX8_minutesToNextHappening_40 : decode cX8_minutesToNextHappening 40 = .ok (.if_icmp .ge 31, 3) := by decide +kernel
theorem dX8_minutesToNextHappening_43 : decode cX8_minutesToNextHappening 43 = .ok (.aload_n 0, 1) := by decide +kernel
theorem dX8_minutesToNextHappening_44 : decode cX8_minutesToNextHappening 44 = .ok (.getfield 12, 3) := by decide +kernel
theorem dX8_minutesToNextHappening_47 : decode cX8_minutesToNextHappening 47 = .ok (.getfield 92, 3) := by decide +kernel
theorem dX8_minutesToNextHappening_50 : decode cX8_minutesToNextHappening 50 = .ok (.iload_n 2, 1) := by decide +kernel
theorem dX8_minutesToNextHappening_51 : decode cX8_minutesToNextHappening 51 = .ok (.baload, 1) := by decide +kernel
theorem dX8_minutesToNextHappening_52 : decode cX8_minutesToNextHappening 52 = .ok (.ifCond .eq 13, 3) := by decide +kernel
theorem dX8_minutesToNextHappening_55 : decode cX8_minutesToNextHappening 55 = .ok (.iload_n 1, 1) := by decide +kernel
theorem dX8_minutesToNextHappening_56 : decode cX8_minutesToNextHappening 56 = .ok (.aload_n 0, 1) := by decide +kernel
theorem dX8_minutesToNextHappening_57 : decode cX8_minutesToNextHappening 57 = .ok (.iload_n 2, 1) := by decide +kernel
theorem dX8_minutesToNextHappening_58 : decode cX8_minutesToNextHappening 58 = .ok (.invokevirtual 174, 3) := by decide +kernel
theorem dX8_minutesToNextHappening_61 : decode cX8_minutesToNextHappening 61 = .ok (.invokestatic 164, 3) := by decide +kernel
theorem dX8_minutesToNextHappening_64 : decode cX8_minutesToNextHappening 64 = .ok (.istore_n 1, 1) := by decide +kernel
theorem dX8_minutesToNextHappening_65 : decode cX8_minutesToNextHappening 65 = .ok (.iinc 2 1, 3) := by decide +kernel
theorem dX8_minutesToNextHappening_68 : decode cX8_minutesToNextHappening 68 = .ok (.goto (-36), 3) := by decide +kernel
theorem dX8_minutesToNextHappening_71 : decode cX8_minutesToNextHappening 71 = .ok (.iload_n 1, 1) := by decide +kernel
theorem dX8_minutesToNextHappening_72 : decode cX8_minutesToNextHappening 72 = .ok (.ireturn, 1) := by decide +kernel
set_option maxHeartbeats 4000000 in
set_option maxRecDepth 100000 in
theorem c_X8_minutesToNextHappening (g : xG) (l : Launch) (a : Nat → Nat) (o : Nat) (v : StS) (c : CdT) (e : EvT)  {u : Int32} (hf : f_X8_minutesToNextHappening v c e = some u) : ConD g l yX8_minutesToNextHappening cX8_minutesToNextHappening 3 (some .int) ({ frames := 2, cells := 0, slots := 0, locals := 43 } : Room) [.ref (a (o + 0))] [stO g a o v, cdW g a o c, evW g a o e] (some (.int u)) [stO g a o v, cdW g a o c, evW g a o e] := by
  unfold f_X8_minutesToNextHappening at hf
  refine Con_of [stO g a o v, cdW g a o c, evW g a o e] [(0, .ref (a (o + 0)))] rfl rfl (by decide) (Nat.le_of_ble_eq_true rfl) ?_
  intro pW eW sW mW argsW belowW methW c9 C hnm hr
  have C : CX g RX8 cX8_minutesToNextHappening 3 _ pW sW mW argsW methW c9 := C
  have hL32 : ∀ (nW : Nat) (x1 : Int32) (x2 : Int32), f_X8_minutesToNextHappening_32 nW v c e x1 x2 = some u → VW g (va_A ([stO g a o v, cdW g a o c, evW g a o e] : List va_W).flatten sW.heap.size) 3 pW l eW ({ frames := 2, cells := 0, slots := 0, locals := 43 } : Room) sW mW argsW belowW methW c9 0 0 (MQ belowW (xQc g ([stO g a o v, cdW g a o c, evW g a o e] : List va_W).flatten sW.heap.size (fun v9 w9 => v9 = some (.int u) ∧ w9 = ([stO g a o v, cdW g a o c, evW g a o e] : List va_W).flatten)) argsW sW 0 0 (va_A ([stO g a o v, cdW g a o c, evW g a o e] : List va_W).flatten sW.heap.size)) [stO g a o v, cdW g a o c, evW g a o e] [(0, .ref (a (o + 0))), (1, .int x1), (2, .int x2)] 32 [] := by
    intro nW
    induction nW with
    | zero => intro x1 x2 hf; rw [f_X8_minutesToNextHappening_32] at hf; cases hf
    | succ nW ih =>
      intro x1 x2 hf
      rw [f_X8_minutesToNextHappening_32] at hf
      refine x_iload_n C dX8_minutesToNextHappening_32 rfl 2 rfl ?_
      refine x_aload_n C dX8_minutesToNextHappening_33 rfl 0 rfl ?_
      refine x_get (ci := 9) (v := .ref (a (o + 1))) (b := stO g a o v) C ixX8 rfl 0 (by decide) wd_873 (fun _ h => h) 0 rfl 0 (stO_at0 g a o _) rfl dX8_minutesToNextHappening_34 ?_
      refine x_get (ci := 4) (v := .int c.2.2.2.2) (b := cdW g a o c) C ixX1 rfl 4 (by decide) wd_831 (fun _ h => h) 1 rfl 0 (cdW_at0 g a o _) rfl dX8_minutesToNextHappening_37 ?_
      refine x_icmp_ge (tgt := 71) C dX8_minutesToNextHappening_40 (by decide) (fun h1 => ?_) (fun h1 => ?_)
      · have hf := x_t h1 hf
        refine x_iload_n C dX8_minutesToNextHappening_71 rfl 1 rfl ?_
        exact x_iret C hr ⟨by cases hf; rfl, by cases hf; rfl⟩ dX8_minutesToNextHappening_72
      · have hf := x_f h1 hf
        refine x_aload_n C dX8_minutesToNextHappening_43 rfl 0 rfl ?_
        refine x_get (ci := 9) (v := .ref (a (o + 1))) (b := stO g a o v) C ixX8 rfl 0 (by decide) wd_873 (fun _ h => h) 0 rfl 0 (stO_at0 g a o _) rfl dX8_minutesToNextHappening_44 ?_
        refine x_get (ci := 4) (v := .ref (a (o + 5))) (b := cdW g a o c) C ixX1 rfl 3 (by decide) wd_828 (fun _ h => h) 1 rfl 0 (cdW_at0 g a o _) rfl dX8_minutesToNextHappening_47 ?_
        refine x_iload_n C dX8_minutesToNextHappening_50 rfl 2 rfl ?_
        obtain ⟨h2, hf⟩ := x_n hf
        refine x_zald (b := cdW g a o c) C 1 rfl 4 (cdW_at4 g a o _) h2 dX8_minutesToNextHappening_51 ?_
        refine x_if_eq (tgt := 65) C dX8_minutesToNextHappening_52 (by decide) (fun h3 => ?_) (fun h3 => ?_)
        · have hf := x_t h3 hf
          refine x_iinc (v := x2 + 1) (lv' := [(2, .int (x2 + 1)), (0, .ref (a (o + 0))), (1, .int x1)]) C dX8_minutesToNextHappening_65 2 rfl rfl (by decide) rfl ?_
          refine x_goto (tgt := 32) C dX8_minutesToNextHappening_68 (by decide) ?_
          refine x_locals (lv' := [(0, .ref (a (o + 0))), (1, .int x1), (2, .int (x2 + 1))]) [1, 2, 0] rfl ?_
          exact ih x1 (x2 + 1) hf
        · have hf := x_f h3 hf
          refine x_iload_n C dX8_minutesToNextHappening_55 rfl 1 rfl ?_
          refine x_aload_n C dX8_minutesToNextHappening_56 rfl 0 rfl ?_
          refine x_iload_n C dX8_minutesToNextHappening_57 rfl 2 rfl ?_
          obtain ⟨u4, hu4, hf⟩ := x_b hf
          refine x_callV (n := 1) (As := [.int x2]) (rest := [.int x1]) C (c_X8_minutesLeftOf g l a o v c x2 hu4) ⟨⟨wd_148, wd_1363, wd_26⟩, ⟨by decide, by decide, by decide⟩, rfl, rfl, Nat.le_of_ble_eq_true rfl, Nat.le_of_ble_eq_true rfl⟩ wd_146 wd_147 ⟨0, 9, _, _, rfl, rfl, rfl⟩ [evW g a o e] (x_pickD [0, 1, 2] 3 rfl rfl rfl) rfl rfl (Nat.le_of_ble_eq_true rfl) ⟨Nat.le_of_ble_eq_true rfl, Nat.le_of_ble_eq_true rfl⟩ dX8_minutesToNextHappening_58 (x_goD (wss2 := [stO g a o v, cdW g a o c, evW g a o e]) (stk2 := [.int u4, .int x1]) rfl rfl ?_)
          refine x_min C wd_217 wd_218 wd_49 wd_219 ⟨Nat.le_of_ble_eq_true rfl, Nat.le_of_ble_eq_true rfl⟩ ⟨Nat.le_of_ble_eq_true rfl, Nat.le_of_ble_eq_true rfl⟩ dX8_minutesToNextHappening_61 ?_
          refine x_istore_n (lv' := [(1, .int (jmin x1 u4)), (0, .ref (a (o + 0))), (2, .int x2)]) C dX8_minutesToNextHappening_64 rfl (by decide) rfl ?_
          refine x_iinc (v := x2 + 1) (lv' := [(2, .int (x2 + 1)), (1, .int (jmin x1 u4)), (0, .ref (a (o + 0)))]) C dX8_minutesToNextHappening_65 2 rfl rfl (by decide) rfl ?_
          refine x_goto (tgt := 32) C dX8_minutesToNextHappening_68 (by decide) ?_
          refine x_locals (lv' := [(0, .ref (a (o + 0))), (1, .int (jmin x1 u4)), (2, .int (x2 + 1))]) [2, 1, 0] rfl ?_
          exact ih (jmin x1 u4) (x2 + 1) hf
  have hL29 : ∀ (y0 : Int32), f_X8_minutesToNextHappening_29 v c e y0 = some u → VW g (va_A ([stO g a o v, cdW g a o c, evW g a o e] : List va_W).flatten sW.heap.size) 3 pW l eW ({ frames := 2, cells := 0, slots := 0, locals := 43 } : Room) sW mW argsW belowW methW c9 0 0 (MQ belowW (xQc g ([stO g a o v, cdW g a o c, evW g a o e] : List va_W).flatten sW.heap.size (fun v9 w9 => v9 = some (.int u) ∧ w9 = ([stO g a o v, cdW g a o c, evW g a o e] : List va_W).flatten)) argsW sW 0 0 (va_A ([stO g a o v, cdW g a o c, evW g a o e] : List va_W).flatten sW.heap.size)) [stO g a o v, cdW g a o c, evW g a o e] [(0, .ref (a (o + 0)))] 29 [.int y0] := by
    intro y0 hf
    unfold f_X8_minutesToNextHappening_29 at hf
    refine x_istore_n (lv' := [(1, .int y0), (0, .ref (a (o + 0)))]) C dX8_minutesToNextHappening_29 rfl (by decide) rfl ?_
    refine x_iconst (v := 0) C dX8_minutesToNextHappening_30 (by decide) ?_
    refine x_istore_n (lv' := [(2, .int (0 : Int32)), (1, .int y0), (0, .ref (a (o + 0)))]) C dX8_minutesToNextHappening_31 rfl (by decide) rfl ?_
    refine x_locals (lv' := [(0, .ref (a (o + 0))), (1, .int y0), (2, .int (0 : Int32))]) [2, 1, 0] rfl ?_
    exact hL32 xFuel y0 (0 : Int32) hf
  refine x_aload_n C dX8_minutesToNextHappening_0 rfl 0 rfl ?_
  refine x_get (ci := 9) (v := .ref (a (o + 6))) (b := stO g a o v) C ixX8 rfl 1 (by decide) wd_875 (fun _ h => h) 0 rfl 0 (stO_at0 g a o _) rfl dX8_minutesToNextHappening_1 ?_
  refine x_get (ci := 6) (v := .int e.2.2.2) (b := evW g a o e) C ixX3 rfl 3 (by decide) wd_863 (fun _ h => h) 2 rfl 0 (evW_at0 g a o _) rfl dX8_minutesToNextHappening_4 ?_
  refine x_if_le (tgt := 27) C dX8_minutesToNextHappening_7 (by decide) (fun h1 => ?_) (fun h1 => ?_)
  · have hf := x_t h1 hf
    refine x_ldc C wd_1328 dX8_minutesToNextHappening_27 ?_
    exact hL29 (1000000 : Int32) hf
  · have hf := x_f h1 hf
    refine x_aload_n C dX8_minutesToNextHappening_10 rfl 0 rfl ?_
    refine x_get (ci := 9) (v := .ref (a (o + 6))) (b := stO g a o v) C ixX8 rfl 1 (by decide) wd_875 (fun _ h => h) 0 rfl 0 (stO_at0 g a o _) rfl dX8_minutesToNextHappening_11 ?_
    refine x_get (ci := 6) (v := .ref (a (o + 7))) (b := evW g a o e) C ixX3 rfl 0 (by decide) wd_853 (fun _ h => h) 2 rfl 0 (evW_at0 g a o _) rfl dX8_minutesToNextHappening_14 ?_
    refine x_iconst (v := 0) C dX8_minutesToNextHappening_17 (by decide) ?_
    obtain ⟨h2, hf⟩ := x_n hf
    refine x_iald (b := evW g a o e) C 2 rfl 1 (evW_at1 g a o _) h2 dX8_minutesToNextHappening_18 ?_
    refine x_aload_n C dX8_minutesToNextHappening_19 rfl 0 rfl ?_
    refine x_get (ci := 9) (v := .int v.2.2.1) (b := stO g a o v) C ixX8 rfl 4 (by decide) wd_881 (fun _ h => h) 0 rfl 0 (stO_at0 g a o _) rfl dX8_minutesToNextHappening_20 ?_
    refine x_isub C dX8_minutesToNextHappening_23 ?_
    refine x_goto (tgt := 29) C dX8_minutesToNextHappening_24 (by decide) ?_
    exact hL29 ((e.1 (0 : Int32).toNatClampNeg) - v.2.2.1) hf
theorem wd_23 : Cond.selects yX8_minutesToNextHappening.cls yX8_minutesToNextHappening yX8_minutesToNextHappening ∈ xTB := xTB_in 23 (by decide +kernel) (by decide +kernel)
theorem wd_1359 : Cond.methodLink RX8 171 yX8_minutesToNextHappening ∈ xTB := xTB_in 1359 (by decide +kernel) (by decide +kernel)
theorem wd_1361 : Cond.instanceMethod yX8_minutesToNextHappening ∈ xTB := xTB_in 1361 (by decide +kernel) (by decide +kernel)
theorem wd_1362 : Cond.code yX8_minutesToNextHappening cX8_minutesToNextHappening 3 (some .int) ∈ xTB := xTB_in 1362 (by decide +kernel) (by decide +kernel)
theorem dX8_leap_0 : decode cX8_leap 0 = .ok (.aload_n 0, 1) := by decide +kernel
theorem dX8_leap_1 : decode cX8_leap 1 = .ok (.invokevirtual 171, 3) := by decide +kernel
theorem dX8_leap_4 : decode cX8_leap 4 = .ok (.iconst 1, 1) := by decide +kernel
theorem dX8_leap_5 : decode cX8_leap 5 = .ok (.isub, 1) := by decide +kernel
theorem dX8_leap_6 : decode cX8_leap 6 = .ok (.istore_n 1, 1) := by decide +kernel
theorem dX8_leap_7 : decode cX8_leap 7 = .ok (.aload_n 0, 1) := by decide +kernel
theorem dX8_leap_8 : decode cX8_leap 8 = .ok (.dup, 1) := by decide +kernel
theorem dX8_leap_9 : decode cX8_leap 9 = .ok (.getfield 32, 3) := by decide +kernel
theorem dX8_leap_12 : decode cX8_leap 12 = .ok (.iload_n 1, 1) := by decide +kernel
theorem dX8_leap_13 : decode cX8_leap 13 = .ok (.iadd, 1) := by decide +kernel
theorem dX8_leap_14 : decode cX8_leap 14 = .ok (.putfield 32, 3) := by decide +kernel
theorem dX8_leap_17 : decode cX8_leap 17 = .ok (.iconst 0, 1) := by decide +kernel
theorem dX8_leap_18 : decode cX8_leap 18 = .ok (.istore_n 2, 1) := by decide +kernel
theorem dX8_leap_19 : decode cX8_leap 19 = .ok (.iload_n 2, 1) := by decide +kernel
theorem dX8_leap_20 : decode cX8_leap 20 = .ok (.aload_n 0, 1) := by decide +kernel
theorem dX8_leap_21 : decode cX8_leap 21 = .ok (.getfield 12, 3) := by decide +kernel
theorem dX8_leap_24 : decode cX8_leap 24 = .ok (.getfield 72, 3) := by decide +kernel
theorem dX8_leap_27 : decode cX8_leap 27 = .ok (.if_icmp .ge 40, 3) := by decide +kernel
theorem dX8_leap_30 : decode cX8_leap 30 = .ok (.aload_n 0, 1) := by decide +kernel
theorem dX8_leap_31 : decode cX8_leap 31 = .ok (.getfield 12, 3) := by decide +kernel
theorem dX8_leap_34 : decode cX8_leap 34 = .ok (.getfield 92, 3) := by decide +kernel
theorem dX8_leap_37 : decode cX8_leap 37 = .ok (.iload_n 2, 1) := by decide +kernel
theorem dX8_leap_38 : decode cX8_leap 38 = .ok (.baload, 1) := by decide +kernel
theorem dX8_leap_39 : decode cX8_leap 39 = .ok (.ifCond .eq 22, 3) := by decide +kernel
theorem dX8_leap_42 : decode cX8_leap 42 = .ok (.aload_n 0, 1) := by decide +kernel
theorem dX8_leap_43 : decode cX8_leap 43 = .ok (.getfield 12, 3) := by decide +kernel
theorem dX8_leap_46 : decode cX8_leap 46 = .ok (.getfield 85, 3) := by decide +kernel
theorem dX8_leap_49 : decode cX8_leap 49 = .ok (.iload_n 2, 1) := by decide +kernel
theorem dX8_leap_50 : decode cX8_leap 50 = .ok (.dup2, 1) := by decide +kernel
theorem dX8_leap_51 : decode cX8_leap 51 = .ok (.iaload, 1) := by decide +kernel
theorem dX8_leap_52 : decode cX8_leap 52 = .ok (.iload_n 1, 1) := by decide +kernel
theorem dX8_leap_53 : decode cX8_leap 53 = .ok (.aload_n 0, 1) := by decide +kernel
theorem dX8_leap_54 : decode cX8_leap 54 = .ok (.iload_n 2, 1) := by decide +kernel
theorem dX8_leap_55 : decode cX8_leap 55 = .ok (.invokevirtual 161, 3) := by decide +kernel
theorem dX8_leap_58 : decode cX8_leap 58 = .ok (.imul, 1) := by decide +kernel
theorem dX8_leap_59 : decode cX8_leap 59 = .ok (.isub, 1) := by decide +kernel
theorem dX8_leap_60 : decode cX8_leap 60 = .ok (.iastore, 1) := by decide +kernel
theorem dX8_leap_61 : decode cX8_leap 61 = .ok (.iinc 2 1, 3) := by decide +kernel
theorem dX8_leap_64 : decode cX8_leap 64 = .ok (.goto (-45), 3) := by decide +kernel
theorem dX8_leap_67 : decode cX8_leap 67 = .ok (.aload_n 0, 1) := by decide +kernel
theorem dX8_leap_68 : decode cX8_leap 68 = .ok (.invokevirtual 129, 3) := by decide +kernel
theorem dX8_leap_71 : decode cX8_leap 71 = .ok (.pop, 1) := by decide +kernel
theorem dX8_leap_72 : decode cX8_leap 72 = .ok (.return_, 1) := by decide +kernel
set_option maxHeartbeats 4000000 in
set_option maxRecDepth 100000 in
theorem c_X8_leap (g : xG) (l : Launch) (a : Nat → Nat) (o : Nat) (v : StS) (c : CdT) (e : EvT)  {u : StS × CdT × EvT} (hf : f_X8_leap v c e = some u) : ConD g l yX8_leap cX8_leap 3 none ({ frames := 4, cells := 0, slots := 0, locals := 87 } : Room) [.ref (a (o + 0))] [stO g a o v, cdW g a o c, evW g a o e] (none) [stO g a o u.1, cdW g a o u.2.1, evW g a o u.2.2] := by
  unfold f_X8_leap at hf
  refine Con_of [stO g a o v, cdW g a o c, evW g a o e] [(0, .ref (a (o + 0)))] rfl rfl (by decide) (Nat.le_of_ble_eq_true rfl) ?_
  intro pW eW sW mW argsW belowW methW c9 C hnm hr
  have C : CX g RX8 cX8_leap 3 _ pW sW mW argsW methW c9 := C
  have hL19 : ∀ (nW : Nat) (vL : StS) (cL : CdT) (eL : EvT) (x1 : Int32) (x2 : Int32), f_X8_leap_19 nW vL cL eL x1 x2 = some u → VW g (va_A ([stO g a o v, cdW g a o c, evW g a o e] : List va_W).flatten sW.heap.size) 3 pW l eW ({ frames := 4, cells := 0, slots := 0, locals := 87 } : Room) sW mW argsW belowW methW c9 0 0 (MQ belowW (xQc g ([stO g a o v, cdW g a o c, evW g a o e] : List va_W).flatten sW.heap.size (fun v9 w9 => v9 = none ∧ w9 = ([stO g a o u.1, cdW g a o u.2.1, evW g a o u.2.2] : List va_W).flatten)) argsW sW 0 0 (va_A ([stO g a o v, cdW g a o c, evW g a o e] : List va_W).flatten sW.heap.size)) [stO g a o vL, cdW g a o cL, evW g a o eL] [(0, .ref (a (o + 0))), (1, .int x1), (2, .int x2)] 19 [] := by
    intro nW
    induction nW with
    | zero => intro vL cL eL x1 x2 hf; rw [f_X8_leap_19] at hf; cases hf
    | succ nW ih =>
      intro vL cL eL x1 x2 hf
      rw [f_X8_leap_19] at hf
      refine x_iload_n C dX8_leap_19 rfl 2 rfl ?_
      refine x_aload_n C dX8_leap_20 rfl 0 rfl ?_
      refine x_get (ci := 9) (v := .ref (a (o + 1))) (b := stO g a o vL) C ixX8 rfl 0 (by decide) wd_873 (fun _ h => h) 0 rfl 0 (stO_at0 g a o _) rfl dX8_leap_21 ?_
      refine x_get (ci := 4) (v := .int cL.2.2.2.2) (b := cdW g a o cL) C ixX1 rfl 4 (by decide) wd_831 (fun _ h => h) 1 rfl 0 (cdW_at0 g a o _) rfl dX8_leap_24 ?_
      refine x_icmp_ge (tgt := 67) C dX8_leap_27 (by decide) (fun h1 => ?_) (fun h1 => ?_)
      · have hf := x_t h1 hf
        refine x_aload_n C dX8_leap_67 rfl 0 rfl ?_
        obtain ⟨u2, hu2, hf⟩ := x_b hf
        refine x_callV (n := 0) (As := []) (rest := []) C (c_X8_passMinute g l a o vL cL eL hu2) ⟨⟨wd_185, wd_734, wd_26⟩, ⟨by decide, by decide, by decide⟩, rfl, rfl, Nat.le_of_ble_eq_true rfl, Nat.le_of_ble_eq_true rfl⟩ wd_183 wd_184 ⟨0, 9, _, _, rfl, rfl, rfl⟩ [] (x_pickD [0, 1, 2] 3 rfl rfl rfl) rfl rfl (Nat.le_of_ble_eq_true rfl) ⟨Nat.le_of_ble_eq_true rfl, Nat.le_of_ble_eq_true rfl⟩ dX8_leap_68 (x_goD (wss2 := [stO g a o u2.2.1, cdW g a o u2.2.2.1, evW g a o u2.2.2.2]) (stk2 := [.int u2.1]) rfl rfl ?_)
        refine x_pop C dX8_leap_71 rfl ?_
        exact x_vret C hr ⟨by cases hf; rfl, by cases hf; rfl⟩ dX8_leap_72
      · have hf := x_f h1 hf
        refine x_aload_n C dX8_leap_30 rfl 0 rfl ?_
        refine x_get (ci := 9) (v := .ref (a (o + 1))) (b := stO g a o vL) C ixX8 rfl 0 (by decide) wd_873 (fun _ h => h) 0 rfl 0 (stO_at0 g a o _) rfl dX8_leap_31 ?_
        refine x_get (ci := 4) (v := .ref (a (o + 5))) (b := cdW g a o cL) C ixX1 rfl 3 (by decide) wd_828 (fun _ h => h) 1 rfl 0 (cdW_at0 g a o _) rfl dX8_leap_34 ?_
        refine x_iload_n C dX8_leap_37 rfl 2 rfl ?_
        obtain ⟨h3, hf⟩ := x_n hf
        refine x_zald (b := cdW g a o cL) C 1 rfl 4 (cdW_at4 g a o _) h3 dX8_leap_38 ?_
        refine x_if_eq (tgt := 61) C dX8_leap_39 (by decide) (fun h4 => ?_) (fun h4 => ?_)
        · have hf := x_t h4 hf
          refine x_iinc (v := x2 + 1) (lv' := [(2, .int (x2 + 1)), (0, .ref (a (o + 0))), (1, .int x1)]) C dX8_leap_61 2 rfl rfl (by decide) rfl ?_
          refine x_goto (tgt := 19) C dX8_leap_64 (by decide) ?_
          refine x_locals (lv' := [(0, .ref (a (o + 0))), (1, .int x1), (2, .int (x2 + 1))]) [1, 2, 0] rfl ?_
          exact ih vL cL eL x1 (x2 + 1) hf
        · have hf := x_f h4 hf
          refine x_aload_n C dX8_leap_42 rfl 0 rfl ?_
          refine x_get (ci := 9) (v := .ref (a (o + 1))) (b := stO g a o vL) C ixX8 rfl 0 (by decide) wd_873 (fun _ h => h) 0 rfl 0 (stO_at0 g a o _) rfl dX8_leap_43 ?_
          refine x_get (ci := 4) (v := .ref (a (o + 3))) (b := cdW g a o cL) C ixX1 rfl 1 (by decide) wd_823 (fun _ h => h) 1 rfl 0 (cdW_at0 g a o _) rfl dX8_leap_46 ?_
          refine x_iload_n C dX8_leap_49 rfl 2 rfl ?_
          refine x_dup2_11 C dX8_leap_50 rfl rfl ?_
          obtain ⟨h5, hf⟩ := x_n hf
          refine x_iald (b := cdW g a o cL) C 1 rfl 2 (cdW_at2 g a o _) h5 dX8_leap_51 ?_
          refine x_iload_n C dX8_leap_52 rfl 1 rfl ?_
          refine x_aload_n C dX8_leap_53 rfl 0 rfl ?_
          refine x_iload_n C dX8_leap_54 rfl 2 rfl ?_
          obtain ⟨u6, hu6, hf⟩ := x_b hf
          refine x_callV (n := 1) (As := [.int x2]) (rest := [.int x1, .int (cL.2.1 x2.toNatClampNeg), .int x2, .ref (a (o + 3))]) C (c_X8_consumptionOf g l a o vL cL x2 hu6) ⟨⟨wd_152, wd_149, wd_26⟩, ⟨by decide, by decide, by decide⟩, rfl, rfl, Nat.le_of_ble_eq_true rfl, Nat.le_of_ble_eq_true rfl⟩ wd_150 wd_151 ⟨0, 9, _, _, rfl, rfl, rfl⟩ [evW g a o eL] (x_pickD [0, 1, 2] 3 rfl rfl rfl) rfl rfl (Nat.le_of_ble_eq_true rfl) ⟨Nat.le_of_ble_eq_true rfl, Nat.le_of_ble_eq_true rfl⟩ dX8_leap_55 (x_goD (wss2 := [stO g a o vL, cdW g a o cL, evW g a o eL]) (stk2 := [.int u6, .int x1, .int (cL.2.1 x2.toNatClampNeg), .int x2, .ref (a (o + 3))]) rfl rfl ?_)
          refine x_imul C dX8_leap_58 ?_
          refine x_isub C dX8_leap_59 ?_
          obtain ⟨h7, hf⟩ := x_n hf
          refine x_iast (b := cdW g a o cL) (b' := cdW g a o (cL.1, upd cL.2.1 x2.toNatClampNeg ((cL.2.1 x2.toNatClampNeg) - (x1 * u6)), cL.2.2.1, cL.2.2.2.1, cL.2.2.2.2)) (wss' := [stO g a o vL, cdW g a o (cL.1, upd cL.2.1 x2.toNatClampNeg ((cL.2.1 x2.toNatClampNeg) - (x1 * u6)), cL.2.2.1, cL.2.2.2.1, cL.2.2.2.2), evW g a o eL]) C 1 rfl 2 (cdW_at2 g a o _) h7 rfl rfl dX8_leap_60 ?_
          refine x_iinc (v := x2 + 1) (lv' := [(2, .int (x2 + 1)), (0, .ref (a (o + 0))), (1, .int x1)]) C dX8_leap_61 2 rfl rfl (by decide) rfl ?_
          refine x_goto (tgt := 19) C dX8_leap_64 (by decide) ?_
          refine x_locals (lv' := [(0, .ref (a (o + 0))), (1, .int x1), (2, .int (x2 + 1))]) [1, 2, 0] rfl ?_
          exact ih vL (cL.1, upd cL.2.1 x2.toNatClampNeg ((cL.2.1 x2.toNatClampNeg) - (x1 * u6)), cL.2.2.1, cL.2.2.2.1, cL.2.2.2.2) eL x1 (x2 + 1) hf
  refine x_aload_n C dX8_leap_0 rfl 0 rfl ?_
  obtain ⟨u1, hu1, hf⟩ := x_b hf
  refine x_callV (n := 0) (As := []) (rest := []) C (c_X8_minutesToNextHappening g l a o v c e hu1) ⟨⟨wd_1362, wd_1359, wd_26⟩, ⟨by decide, by decide, by decide⟩, rfl, rfl, Nat.le_of_ble_eq_true rfl, Nat.le_of_ble_eq_true rfl⟩ wd_1361 wd_23 ⟨0, 9, _, _, rfl, rfl, rfl⟩ [] (x_pickD [0, 1, 2] 3 rfl rfl rfl) rfl rfl (Nat.le_of_ble_eq_true rfl) ⟨Nat.le_of_ble_eq_true rfl, Nat.le_of_ble_eq_true rfl⟩ dX8_leap_1 (x_goD (wss2 := [stO g a o v, cdW g a o c, evW g a o e]) (stk2 := [.int u1]) rfl rfl ?_)
  refine x_iconst (v := 1) C dX8_leap_4 (by decide) ?_
  refine x_isub C dX8_leap_5 ?_
  refine x_istore_n (lv' := [(1, .int (u1 - (1 : Int32))), (0, .ref (a (o + 0)))]) C dX8_leap_6 rfl (by decide) rfl ?_
  refine x_aload_n C dX8_leap_7 rfl 1 rfl ?_
  refine x_dup C dX8_leap_8 rfl ?_
  refine x_get (ci := 9) (v := .int v.2.2.1) (b := stO g a o v) C ixX8 rfl 4 (by decide) wd_881 (fun _ h => h) 0 rfl 0 (stO_at0 g a o _) rfl dX8_leap_9 ?_
  refine x_iload_n C dX8_leap_12 rfl 0 rfl ?_
  refine x_iadd C dX8_leap_13 ?_
  refine x_put (ci := 9) (ty := .int) (v := .int (v.2.2.1 + (u1 - (1 : Int32)))) (b := stO g a o v) (b' := stO g a o (v.1, v.2.1, v.2.2.1 + (u1 - (1 : Int32)), v.2.2.2.1, v.2.2.2.2.1, v.2.2.2.2.2.1, v.2.2.2.2.2.2.1, v.2.2.2.2.2.2.2)) (wss' := [stO g a o (v.1, v.2.1, v.2.2.1 + (u1 - (1 : Int32)), v.2.2.2.1, v.2.2.2.2.1, v.2.2.2.2.2.1, v.2.2.2.2.2.2.1, v.2.2.2.2.2.2.2), cdW g a o c, evW g a o e]) C ixX8 tyX8 tyX8_ok nmX8 rfl 4 (by decide) wd_881 (fun _ h => h) rfl (tyX8_ok 4 (by decide)) rfl rfl 0 rfl 0 (stO_at0 g a o _) (Nat.le_of_ble_eq_true rfl) rfl rfl dX8_leap_14 ?_
  refine x_iconst (v := 0) C dX8_leap_17 (by decide) ?_
  refine x_istore_n (lv' := [(2, .int (0 : Int32)), (1, .int (u1 - (1 : Int32))), (0, .ref (a (o + 0)))]) C dX8_leap_18 rfl (by decide) rfl ?_
  refine x_locals (lv' := [(0, .ref (a (o + 0))), (1, .int (u1 - (1 : Int32))), (2, .int (0 : Int32))]) [2, 1, 0] rfl ?_
  exact hL19 xFuel (v.1, v.2.1, v.2.2.1 + (u1 - (1 : Int32)), v.2.2.2.1, v.2.2.2.2.1, v.2.2.2.2.2.1, v.2.2.2.2.2.2.1, v.2.2.2.2.2.2.2) c e (u1 - (1 : Int32)) (0 : Int32) hf
