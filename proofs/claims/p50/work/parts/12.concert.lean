/-! CANDLECONCERT: pure functions and contracts, by program (wip/p50/build_cc.py) -/
theorem at_164 : (vx_atS "CandleConcert" 164 "java/lang/IllegalArgumentException" ["java/lang/RuntimeException", "java/lang/Exception"]).all (fun w => (decide (w ∈ lw_tbl) && goodWord w) || decide (w ∈ nwAll)) = true := by decide +kernel
theorem at_185 : (nsAt "CandleConcert" 185).all (fun w => (decide (w ∈ lw_tbl) && goodWord w) || decide (w ∈ nwAll)) = true := by decide +kernel
theorem at_285 : (vx_atS "CandleConcert" 285 "java/lang/IndexOutOfBoundsException" ["java/lang/RuntimeException", "java/lang/Exception"]).all (fun w => (decide (w ∈ lw_tbl) && goodWord w) || decide (w ∈ nwAll)) = true := by decide +kernel
theorem at_297 : (vx_atS "CandleConcert" 297 "java/lang/IllegalStateException" ["java/lang/RuntimeException", "java/lang/Exception"]).all (fun w => (decide (w ∈ lw_tbl) && goodWord w) || decide (w ∈ nwAll)) = true := by decide +kernel
theorem at_326 : (vx_atS "CandleConcert" 326 "java/lang/UnsupportedOperationException" ["java/lang/RuntimeException", "java/lang/Exception"]).all (fun w => (decide (w ∈ lw_tbl) && goodWord w) || decide (w ∈ nwAll)) = true := by decide +kernel
theorem og_160_164 : ∀ w ∈ Cond.classLink "CandleConcert" 160 "java/lang/IllegalArgumentException" :: Cond.initialized "java/lang/IllegalArgumentException" :: vx_atS "CandleConcert" 164 "java/lang/IllegalArgumentException" ["java/lang/RuntimeException", "java/lang/Exception"], vx_ot w = true := by decide +kernel
theorem og_181_185 : ∀ w ∈ Cond.classLink "CandleConcert" 181 nsE :: Cond.initialized nsE :: nsAt "CandleConcert" 185, vx_ot w = true := by decide +kernel
theorem og_281_285 : ∀ w ∈ Cond.classLink "CandleConcert" 281 "java/lang/IndexOutOfBoundsException" :: Cond.initialized "java/lang/IndexOutOfBoundsException" :: vx_atS "CandleConcert" 285 "java/lang/IndexOutOfBoundsException" ["java/lang/RuntimeException", "java/lang/Exception"], vx_ot w = true := by decide +kernel
theorem og_293_297 : ∀ w ∈ Cond.classLink "CandleConcert" 293 "java/lang/IllegalStateException" :: Cond.initialized "java/lang/IllegalStateException" :: vx_atS "CandleConcert" 297 "java/lang/IllegalStateException" ["java/lang/RuntimeException", "java/lang/Exception"], vx_ot w = true := by decide +kernel
theorem og_322_326 : ∀ w ∈ Cond.classLink "CandleConcert" 322 "java/lang/UnsupportedOperationException" :: Cond.initialized "java/lang/UnsupportedOperationException" :: vx_atS "CandleConcert" 326 "java/lang/UnsupportedOperationException" ["java/lang/RuntimeException", "java/lang/Exception"], vx_ot w = true := by decide +kernel
theorem wd_45 : Cond.initialized "java/lang/IllegalArgumentException" ∈ xTB := xTB_in 45 (by decide +kernel) (by decide +kernel)
theorem wd_46 : Cond.initialized "java/lang/IndexOutOfBoundsException" ∈ xTB := xTB_in 46 (by decide +kernel) (by decide +kernel)
theorem wd_47 : Cond.initialized "java/lang/IllegalStateException" ∈ xTB := xTB_in 47 (by decide +kernel) (by decide +kernel)
theorem wd_48 : Cond.initialized "java/lang/UnsupportedOperationException" ∈ xTB := xTB_in 48 (by decide +kernel) (by decide +kernel)
theorem wd_71 : Cond.classLink RX9 281 "java/lang/IndexOutOfBoundsException" ∈ xTB := xTB_in 71 (by decide +kernel) (by decide +kernel)
theorem wd_600 : Cond.fieldLink RX9 354 "CandleConcert$1" "$SwitchMap$CandleConcert$Refusal" "[I" ∈ xTB := xTB_in 600 (by decide +kernel) (by decide +kernel)
theorem wd_608 : Cond.classLink RX9 160 "java/lang/IllegalArgumentException" ∈ xTB := xTB_in 608 (by decide +kernel) (by decide +kernel)
theorem wd_612 : Cond.classLink RX9 293 "java/lang/IllegalStateException" ∈ xTB := xTB_in 612 (by decide +kernel) (by decide +kernel)
theorem wd_632 : Cond.classLink RX9 322 "java/lang/UnsupportedOperationException" ∈ xTB := xTB_in 632 (by decide +kernel) (by decide +kernel)
theorem dX9_throwIfRefused_0 : decode cX9_throwIfRefused 0 = .ok (.getstatic 354, 3) := by decide +kernel
theorem dX9_throwIfRefused_3 : decode cX9_throwIfRefused 3 = .ok (.aload_n 0, 1) := by decide +kernel
theorem dX9_throwIfRefused_4 : decode cX9_throwIfRefused 4 = .ok (.invokevirtual 359, 3) := by decide +kernel
theorem dX9_throwIfRefused_7 : decode cX9_throwIfRefused 7 = .ok (.iaload, 1) := by decide +kernel
theorem dX9_throwIfRefused_8 : decode cX9_throwIfRefused 8 = .ok (.tableswitch 165 1 10 #[56, 66, 77, 88, 99, 110, 121, 132, 143, 154], 56) := by decide +kernel
theorem dX9_throwIfRefused_64 : decode cX9_throwIfRefused 64 = .ok (.new 160, 3) := by decide +kernel
theorem dX9_throwIfRefused_67 : decode cX9_throwIfRefused 67 = .ok (.dup, 1) := by decide +kernel
theorem dX9_throwIfRefused_68 : decode cX9_throwIfRefused 68 = .ok (.ldc 162, 2) := by decide +kernel
theorem dX9_throwIfRefused_70 : decode cX9_throwIfRefused 70 = .ok (.invokespecial 164, 3) := by decide +kernel
theorem dX9_throwIfRefused_73 : decode cX9_throwIfRefused 73 = .ok (.athrow, 1) := by decide +kernel
theorem dX9_throwIfRefused_74 : decode cX9_throwIfRefused 74 = .ok (.new 160, 3) := by decide +kernel
theorem dX9_throwIfRefused_77 : decode cX9_throwIfRefused 77 = .ok (.dup, 1) := by decide +kernel
theorem dX9_throwIfRefused_78 : decode cX9_throwIfRefused 78 = .ok (.ldc_w 364, 3) := by decide +kernel
theorem dX9_throwIfRefused_81 : decode cX9_throwIfRefused 81 = .ok (.invokespecial 164, 3) := by decide +kernel
theorem dX9_throwIfRefused_84 : decode cX9_throwIfRefused 84 = .ok (.athrow, 1) := by decide +kernel
theorem dX9_throwIfRefused_85 : decode cX9_throwIfRefused 85 = .ok (.new 281, 3) := by decide +kernel
theorem dX9_throwIfRefused_88 : decode cX9_throwIfRefused 88 = .ok (.dup, 1) := by decide +kernel
theorem dX9_throwIfRefused_89 : decode cX9_throwIfRefused 89 = .ok (.ldc_w 346, 3) := by decide +kernel
theorem dX9_throwIfRefused_92 : decode cX9_throwIfRefused 92 = .ok (.invokespecial 285, 3) := by decide +kernel
theorem dX9_throwIfRefused_95 : decode cX9_throwIfRefused 95 = .ok (.athrow, 1) := by decide +kernel
theorem dX9_throwIfRefused_96 : decode cX9_throwIfRefused 96 = .ok (.new 293, 3) := by decide +kernel
theorem dX9_throwIfRefused_99 : decode cX9_throwIfRefused 99 = .ok (.dup, 1) := by decide +kernel
theorem dX9_throwIfRefused_100 : decode cX9_throwIfRefused 100 = .ok (.ldc_w 366, 3) := by decide +kernel
theorem dX9_throwIfRefused_103 : decode cX9_throwIfRefused 103 = .ok (.invokespecial 297, 3) := by decide +kernel
theorem dX9_throwIfRefused_106 : decode cX9_throwIfRefused 106 = .ok (.athrow, 1) := by decide +kernel
theorem dX9_throwIfRefused_107 : decode cX9_throwIfRefused 107 = .ok (.new 293, 3) := by decide +kernel
theorem dX9_throwIfRefused_110 : decode cX9_throwIfRefused 110 = .ok (.dup, 1) := by decide +kernel
theorem dX9_throwIfRefused_111 : decode cX9_throwIfRefused 111 = .ok (.ldc_w 368, 3) := by decide +kernel
theorem dX9_throwIfRefused_114 : decode cX9_throwIfRefused 114 = .ok (.invokespecial 297, 3) := by decide +kernel
theorem dX9_throwIfRefused_117 : decode cX9_throwIfRefused 117 = .ok (.athrow, 1) := by decide +kernel
theorem dX9_throwIfRefused_118 : decode cX9_throwIfRefused 118 = .ok (.new 293, 3) := by decide +kernel
theorem dX9_throwIfRefused_121 : decode cX9_throwIfRefused 121 = .ok (.dup, 1) := by decide +kernel
theorem dX9_throwIfRefused_122 : decode cX9_throwIfRefused 122 = .ok (.ldc_w 370, 3) := by decide +kernel
theorem dX9_throwIfRefused_125 : decode cX9_throwIfRefused 125 = .ok (.invokespecial 297, 3) := by decide +kernel
theorem dX9_throwIfRefused_128 : decode cX9_throwIfRefused 128 = .ok (.athrow, 1) := by decide +kernel
theorem dX9_throwIfRefused_129 : decode cX9_throwIfRefused 129 = .ok (.new 293, 3) := by decide +kernel
theorem dX9_throwIfRefused_132 : decode cX9_throwIfRefused 132 = .ok (.dup, 1) := by decide +kernel
theorem dX9_throwIfRefused_133 : decode cX9_throwIfRefused 133 = .ok (.ldc_w 372, 3) := by decide +kernel
theorem dX9_throwIfRefused_136 : decode cX9_throwIfRefused 136 = .ok (.invokespecial 297, 3) := by decide +kernel
theorem dX9_throwIfRefused_139 : decode cX9_throwIfRefused 139 = .ok (.athrow, 1) := by decide +kernel
theorem dX9_throwIfRefused_140 : decode cX9_throwIfRefused 140 = .ok (.new 293, 3) := by decide +kernel
theorem dX9_throwIfRefused_143 : decode cX9_throwIfRefused 143 = .ok (.dup, 1) := by decide +kernel
theorem dX9_throwIfRefused_144 : decode cX9_throwIfRefused 144 = .ok (.ldc_w 374, 3) := by decide +kernel
theorem dX9_throwIfRefused_147 : decode cX9_throwIfRefused 147 = .ok (.invokespecial 297, 3) := by decide +kernel
theorem dX9_throwIfRefused_150 : decode cX9_throwIfRefused 150 = .ok (.athrow, 1) := by decide +kernel
theorem dX9_throwIfRefused_151 : decode cX9_throwIfRefused 151 = .ok (.new 322, 3) := by decide +kernel
theorem dX9_throwIfRefused_154 : decode cX9_throwIfRefused 154 = .ok (.dup, 1) := by decide +kernel
theorem dX9_throwIfRefused_155 : decode cX9_throwIfRefused 155 = .ok (.ldc_w 376, 3) := by decide +kernel
theorem dX9_throwIfRefused_158 : decode cX9_throwIfRefused 158 = .ok (.invokespecial 326, 3) := by decide +kernel
theorem dX9_throwIfRefused_161 : decode cX9_throwIfRefused 161 = .ok (.athrow, 1) := by decide +kernel
theorem dX9_throwIfRefused_162 : decode cX9_throwIfRefused 162 = .ok (.new 322, 3) := by decide +kernel
theorem dX9_throwIfRefused_165 : decode cX9_throwIfRefused 165 = .ok (.dup, 1) := by decide +kernel
theorem dX9_throwIfRefused_166 : decode cX9_throwIfRefused 166 = .ok (.ldc_w 378, 3) := by decide +kernel
theorem dX9_throwIfRefused_169 : decode cX9_throwIfRefused 169 = .ok (.invokespecial 326, 3) := by decide +kernel
theorem dX9_throwIfRefused_172 : decode cX9_throwIfRefused 172 = .ok (.athrow, 1) := by decide +kernel
theorem dX9_throwIfRefused_173 : decode cX9_throwIfRefused 173 = .ok (.return_, 1) := by decide +kernel
set_option maxHeartbeats 4000000 in
set_option maxRecDepth 100000 in
theorem c_X9_throwIfRefused (g : xG) (l : Launch) (hl : l.stackTraces = false)   (x0 : Nat) {u : (Nat ⊕ Unit)} (hf : f_X9_throwIfRefused x0 = some u) : ConX g l yX9_throwIfRefused cX9_throwIfRefused 1 none ({ frames := 6, cells := 1, slots := 6, locals := 90 } : Room) [.ref (g.2.2 (100 + x0))] ([] : List va_W).flatten (fun v9 w9 => ∃ r9, u = Sum.inr r9 ∧ v9 = none ∧ w9 = ([] : List va_W).flatten) (fun e9 w9 => ∃ k9, u = Sum.inl k9 ∧ e9 = xcE k9 ∧ w9 = ([] : List va_W).flatten) 1 6 := by
  unfold f_X9_throwIfRefused at hf
  refine ConX_of [] [(0, .ref (g.2.2 (100 + x0)))] rfl rfl (by decide) (Nat.le_of_ble_eq_true rfl) ?_
  intro pW eW sW mW argsW belowW methW c9 C hnm hr hout
  have C : CX g RX9 cX9_throwIfRefused 1 _ pW sW mW argsW methW c9 := C
  refine x_gets (Cn := "CandleConcert$1") (n := "$SwitchMap$CandleConcert$Refusal") (d := "[I") C (CX_smR C) wd_600 (fun _ h => h) dX9_throwIfRefused_0 ?_
  refine x_aload_n C dX9_throwIfRefused_3 rfl 0 rfl ?_
  obtain ⟨h1, hf⟩ := x_y hf
  refine x_ordR C h1 ⟨Nat.le_of_ble_eq_true rfl, Nat.le_of_ble_eq_true rfl, Nat.le_of_ble_eq_true rfl, Nat.le_of_ble_eq_true rfl⟩ (Nat.le_of_ble_eq_true rfl) dX9_throwIfRefused_4 ?_
  obtain ⟨h2, hf⟩ := x_n hf
  refine x_sti (f := fun j => smR.getD j 0) C (CX_tsmR C) h2 dX9_throwIfRefused_7 ?_
  by_cases h3 : (smR.getD (Int32.ofNat x0).toNatClampNeg 0) = 1
  · have hf := x_t h3 hf
    refine x_tableIn (off := 56) (tgt := 64) C dX9_throwIfRefused_8 (by rw [h3]; decide) (by rw [h3]; decide) (by rw [h3]; rfl) (by decide) ?_
    exact x_throwS C hout hl (by decide) wd_608 wd_45 (CX_str C ("CandleConcert", 162, "there is no such voice", 0) (by decide)) at_164 og_160_164 dX9_throwIfRefused_64 dX9_throwIfRefused_67 dX9_throwIfRefused_68 dX9_throwIfRefused_70 dX9_throwIfRefused_73 ⟨Nat.le_of_ble_eq_true rfl, Nat.le_of_ble_eq_true rfl, Nat.le_of_ble_eq_true rfl, Nat.le_of_ble_eq_true rfl⟩ ⟨0, by cases hf; rfl, rfl, by cases hf; rfl⟩ (Nat.le_of_ble_eq_true rfl) (Nat.le_of_ble_eq_true rfl)
  · have hf := x_f h3 hf
    by_cases h4 : (smR.getD (Int32.ofNat x0).toNatClampNeg 0) = 2
    · have hf := x_t h4 hf
      refine x_tableIn (off := 66) (tgt := 74) C dX9_throwIfRefused_8 (by rw [h4]; decide) (by rw [h4]; decide) (by rw [h4]; rfl) (by decide) ?_
      exact x_throwSW C hout hl (by decide) wd_608 wd_45 (CX_str C ("CandleConcert", 364, "a number is out of range", 1) (by decide)) at_164 og_160_164 dX9_throwIfRefused_74 dX9_throwIfRefused_77 dX9_throwIfRefused_78 dX9_throwIfRefused_81 dX9_throwIfRefused_84 ⟨Nat.le_of_ble_eq_true rfl, Nat.le_of_ble_eq_true rfl, Nat.le_of_ble_eq_true rfl, Nat.le_of_ble_eq_true rfl⟩ ⟨0, by cases hf; rfl, rfl, by cases hf; rfl⟩ (Nat.le_of_ble_eq_true rfl) (Nat.le_of_ble_eq_true rfl)
    · have hf := x_f h4 hf
      by_cases h5 : (smR.getD (Int32.ofNat x0).toNatClampNeg 0) = 3
      · have hf := x_t h5 hf
        refine x_tableIn (off := 77) (tgt := 85) C dX9_throwIfRefused_8 (by rw [h5]; decide) (by rw [h5]; decide) (by rw [h5]; rfl) (by decide) ?_
        exact x_throwSW C hout hl (by decide) wd_71 wd_46 (CX_str C ("CandleConcert", 346, "there is no such candle", 2) (by decide)) at_285 og_281_285 dX9_throwIfRefused_85 dX9_throwIfRefused_88 dX9_throwIfRefused_89 dX9_throwIfRefused_92 dX9_throwIfRefused_95 ⟨Nat.le_of_ble_eq_true rfl, Nat.le_of_ble_eq_true rfl, Nat.le_of_ble_eq_true rfl, Nat.le_of_ble_eq_true rfl⟩ ⟨2, by cases hf; rfl, rfl, by cases hf; rfl⟩ (Nat.le_of_ble_eq_true rfl) (Nat.le_of_ble_eq_true rfl)
      · have hf := x_f h5 hf
        by_cases h6 : (smR.getD (Int32.ofNat x0).toNatClampNeg 0) = 4
        · have hf := x_t h6 hf
          refine x_tableIn (off := 88) (tgt := 96) C dX9_throwIfRefused_8 (by rw [h6]; decide) (by rw [h6]; decide) (by rw [h6]; rfl) (by decide) ?_
          exact x_throwSW C hout hl (by decide) wd_612 wd_47 (CX_str C ("CandleConcert", 366, "there are 10 candles", 3) (by decide)) at_297 og_293_297 dX9_throwIfRefused_96 dX9_throwIfRefused_99 dX9_throwIfRefused_100 dX9_throwIfRefused_103 dX9_throwIfRefused_106 ⟨Nat.le_of_ble_eq_true rfl, Nat.le_of_ble_eq_true rfl, Nat.le_of_ble_eq_true rfl, Nat.le_of_ble_eq_true rfl⟩ ⟨1, by cases hf; rfl, rfl, by cases hf; rfl⟩ (Nat.le_of_ble_eq_true rfl) (Nat.le_of_ble_eq_true rfl)
        · have hf := x_f h6 hf
          by_cases h7 : (smR.getD (Int32.ofNat x0).toNatClampNeg 0) = 5
          · have hf := x_t h7 hf
            refine x_tableIn (off := 99) (tgt := 107) C dX9_throwIfRefused_8 (by rw [h7]; decide) (by rw [h7]; decide) (by rw [h7]; rfl) (by decide) ?_
            exact x_throwSW C hout hl (by decide) wd_612 wd_47 (CX_str C ("CandleConcert", 368, "the candle is lit", 4) (by decide)) at_297 og_293_297 dX9_throwIfRefused_107 dX9_throwIfRefused_110 dX9_throwIfRefused_111 dX9_throwIfRefused_114 dX9_throwIfRefused_117 ⟨Nat.le_of_ble_eq_true rfl, Nat.le_of_ble_eq_true rfl, Nat.le_of_ble_eq_true rfl, Nat.le_of_ble_eq_true rfl⟩ ⟨1, by cases hf; rfl, rfl, by cases hf; rfl⟩ (Nat.le_of_ble_eq_true rfl) (Nat.le_of_ble_eq_true rfl)
          · have hf := x_f h7 hf
            by_cases h8 : (smR.getD (Int32.ofNat x0).toNatClampNeg 0) = 6
            · have hf := x_t h8 hf
              refine x_tableIn (off := 110) (tgt := 118) C dX9_throwIfRefused_8 (by rw [h8]; decide) (by rw [h8]; decide) (by rw [h8]; rfl) (by decide) ?_
              exact x_throwSW C hout hl (by decide) wd_612 wd_47 (CX_str C ("CandleConcert", 370, "the candle is not lit", 5) (by decide)) at_297 og_293_297 dX9_throwIfRefused_118 dX9_throwIfRefused_121 dX9_throwIfRefused_122 dX9_throwIfRefused_125 dX9_throwIfRefused_128 ⟨Nat.le_of_ble_eq_true rfl, Nat.le_of_ble_eq_true rfl, Nat.le_of_ble_eq_true rfl, Nat.le_of_ble_eq_true rfl⟩ ⟨1, by cases hf; rfl, rfl, by cases hf; rfl⟩ (Nat.le_of_ble_eq_true rfl) (Nat.le_of_ble_eq_true rfl)
            · have hf := x_f h8 hf
              by_cases h9 : (smR.getD (Int32.ofNat x0).toNatClampNeg 0) = 7
              · have hf := x_t h9 hf
                refine x_tableIn (off := 121) (tgt := 129) C dX9_throwIfRefused_8 (by rw [h9]; decide) (by rw [h9]; decide) (by rw [h9]; rfl) (by decide) ?_
                exact x_throwSW C hout hl (by decide) wd_612 wd_47 (CX_str C ("CandleConcert", 372, "the wax would be more than 999 units", 6) (by decide)) at_297 og_293_297 dX9_throwIfRefused_129 dX9_throwIfRefused_132 dX9_throwIfRefused_133 dX9_throwIfRefused_136 dX9_throwIfRefused_139 ⟨Nat.le_of_ble_eq_true rfl, Nat.le_of_ble_eq_true rfl, Nat.le_of_ble_eq_true rfl, Nat.le_of_ble_eq_true rfl⟩ ⟨1, by cases hf; rfl, rfl, by cases hf; rfl⟩ (Nat.le_of_ble_eq_true rfl) (Nat.le_of_ble_eq_true rfl)
              · have hf := x_f h9 hf
                by_cases h10 : (smR.getD (Int32.ofNat x0).toNatClampNeg 0) = 8
                · have hf := x_t h10 hf
                  refine x_tableIn (off := 132) (tgt := 140) C dX9_throwIfRefused_8 (by rw [h10]; decide) (by rw [h10]; decide) (by rw [h10]; rfl) (by decide) ?_
                  exact x_throwSW C hout hl (by decide) wd_612 wd_47 (CX_str C ("CandleConcert", 374, "20 events are scheduled", 7) (by decide)) at_297 og_293_297 dX9_throwIfRefused_140 dX9_throwIfRefused_143 dX9_throwIfRefused_144 dX9_throwIfRefused_147 dX9_throwIfRefused_150 ⟨Nat.le_of_ble_eq_true rfl, Nat.le_of_ble_eq_true rfl, Nat.le_of_ble_eq_true rfl, Nat.le_of_ble_eq_true rfl⟩ ⟨1, by cases hf; rfl, rfl, by cases hf; rfl⟩ (Nat.le_of_ble_eq_true rfl) (Nat.le_of_ble_eq_true rfl)
                · have hf := x_f h10 hf
                  by_cases h11 : (smR.getD (Int32.ofNat x0).toNatClampNeg 0) = 9
                  · have hf := x_t h11 hf
                    refine x_tableIn (off := 143) (tgt := 151) C dX9_throwIfRefused_8 (by rw [h11]; decide) (by rw [h11]; decide) (by rw [h11]; rfl) (by decide) ?_
                    exact x_throwSW C hout hl (by decide) wd_632 wd_48 (CX_str C ("CandleConcert", 376, "the candle has no wax", 8) (by decide)) at_326 og_322_326 dX9_throwIfRefused_151 dX9_throwIfRefused_154 dX9_throwIfRefused_155 dX9_throwIfRefused_158 dX9_throwIfRefused_161 ⟨Nat.le_of_ble_eq_true rfl, Nat.le_of_ble_eq_true rfl, Nat.le_of_ble_eq_true rfl, Nat.le_of_ble_eq_true rfl⟩ ⟨3, by cases hf; rfl, rfl, by cases hf; rfl⟩ (Nat.le_of_ble_eq_true rfl) (Nat.le_of_ble_eq_true rfl)
                  · have hf := x_f h11 hf
                    by_cases h12 : (smR.getD (Int32.ofNat x0).toNatClampNeg 0) = 10
                    · have hf := x_t h12 hf
                      refine x_tableIn (off := 154) (tgt := 162) C dX9_throwIfRefused_8 (by rw [h12]; decide) (by rw [h12]; decide) (by rw [h12]; rfl) (by decide) ?_
                      exact x_throwSW C hout hl (by decide) wd_632 wd_48 (CX_str C ("CandleConcert", 378, "the dish contains less", 9) (by decide)) at_326 og_322_326 dX9_throwIfRefused_162 dX9_throwIfRefused_165 dX9_throwIfRefused_166 dX9_throwIfRefused_169 dX9_throwIfRefused_172 ⟨Nat.le_of_ble_eq_true rfl, Nat.le_of_ble_eq_true rfl, Nat.le_of_ble_eq_true rfl, Nat.le_of_ble_eq_true rfl⟩ ⟨3, by cases hf; rfl, rfl, by cases hf; rfl⟩ (Nat.le_of_ble_eq_true rfl) (Nat.le_of_ble_eq_true rfl)
                    · have hf := x_f h12 hf
                      refine x_tableOut (tgt := 173) C dX9_throwIfRefused_8 (by have q0 := lv_neT (a := 1) h3 (by decide); have q1 := lv_neT (a := 2) h4 (by decide); have q2 := lv_neT (a := 3) h5 (by decide); have q3 := lv_neT (a := 4) h6 (by decide); have q4 := lv_neT (a := 5) h7 (by decide); have q5 := lv_neT (a := 6) h8 (by decide); have q6 := lv_neT (a := 7) h9 (by decide); have q7 := lv_neT (a := 8) h10 (by decide); have q8 := lv_neT (a := 9) h11 (by decide); have q9 := lv_neT (a := 10) h12 (by decide); omega) (by decide) ?_
                      refine x_widen (k := 1) (n := 6) (Nat.le_of_ble_eq_true rfl) (Nat.le_of_ble_eq_true rfl) ?_
                      refine x_vx ?_
                      exact x_vret C hr ⟨(), by cases hf; rfl, rfl, by cases hf; rfl⟩ dX9_throwIfRefused_173
theorem wd_29 : Cond.initialized RX4 ∈ xTB := xTB_in 29 (by decide +kernel) (by decide +kernel)
theorem wd_597 : Cond.methodLink RX9 58 yX9_throwIfRefused ∈ xTB := xTB_in 597 (by decide +kernel) (by decide +kernel)
theorem wd_598 : Cond.static yX9_throwIfRefused ∈ xTB := xTB_in 598 (by decide +kernel) (by decide +kernel)
theorem wd_599 : Cond.code yX9_throwIfRefused cX9_throwIfRefused 1 none ∈ xTB := xTB_in 599 (by decide +kernel) (by decide +kernel)
theorem wd_649 : Cond.methodLink RX9 62 yX4_remember ∈ xTB := xTB_in 649 (by decide +kernel) (by decide +kernel)
theorem wd_650 : Cond.instanceMethod yX4_remember ∈ xTB := xTB_in 650 (by decide +kernel) (by decide +kernel)
theorem wd_651 : Cond.selects yX4_remember.cls yX4_remember yX4_remember ∈ xTB := xTB_in 651 (by decide +kernel) (by decide +kernel)
theorem wd_652 : Cond.code yX4_remember cX4_remember 2 none ∈ xTB := xTB_in 652 (by decide +kernel) (by decide +kernel)
theorem wd_1000 : Cond.fieldLink RX9 12 "CandleConcert" "now" "LCandleConcert$State;" ∈ xTB := xTB_in 1000 (by decide +kernel) (by decide +kernel)
theorem wd_1003 : Cond.fieldLink RX9 25 "CandleConcert" "history" "LCandleConcert$History;" ∈ xTB := xTB_in 1003 (by decide +kernel) (by decide +kernel)
theorem wd_1051 : Cond.methodLink RX9 54 yX8_refusalToAdd ∈ xTB := xTB_in 1051 (by decide +kernel) (by decide +kernel)
theorem wd_1052 : Cond.instanceMethod yX8_refusalToAdd ∈ xTB := xTB_in 1052 (by decide +kernel) (by decide +kernel)
theorem wd_1053 : Cond.selects yX8_refusalToAdd.cls yX8_refusalToAdd yX8_refusalToAdd ∈ xTB := xTB_in 1053 (by decide +kernel) (by decide +kernel)
theorem wd_1054 : Cond.code yX8_refusalToAdd cX8_refusalToAdd 4 (some (.object "CandleConcert$Refusal")) ∈ xTB := xTB_in 1054 (by decide +kernel) (by decide +kernel)
theorem wd_1064 : Cond.methodLink RX9 66 yX8_addNewCandle ∈ xTB := xTB_in 1064 (by decide +kernel) (by decide +kernel)
theorem wd_1065 : Cond.instanceMethod yX8_addNewCandle ∈ xTB := xTB_in 1065 (by decide +kernel) (by decide +kernel)
theorem wd_1066 : Cond.selects yX8_addNewCandle.cls yX8_addNewCandle yX8_addNewCandle ∈ xTB := xTB_in 1066 (by decide +kernel) (by decide +kernel)
theorem wd_1067 : Cond.code yX8_addNewCandle cX8_addNewCandle 5 (some .int) ∈ xTB := xTB_in 1067 (by decide +kernel) (by decide +kernel)
theorem dX9_addCandle_0 : decode cX9_addCandle 0 = .ok (.aload_n 0, 1) := by decide +kernel
theorem dX9_addCandle_1 : decode cX9_addCandle 1 = .ok (.getfield 12, 3) := by decide +kernel
theorem dX9_addCandle_4 : decode cX9_addCandle 4 = .ok (.iload_n 1, 1) := by decide +kernel
theorem dX9_addCandle_5 : decode cX9_addCandle 5 = .ok (.iload_n 2, 1) := by decide +kernel
theorem dX9_addCandle_6 : decode cX9_addCandle 6 = .ok (.iload_n 3, 1) := by decide +kernel
theorem dX9_addCandle_7 : decode cX9_addCandle 7 = .ok (.invokevirtual 54, 3) := by decide +kernel
theorem dX9_addCandle_10 : decode cX9_addCandle 10 = .ok (.invokestatic 58, 3) := by decide +kernel
theorem dX9_addCandle_13 : decode cX9_addCandle 13 = .ok (.aload_n 0, 1) := by decide +kernel
theorem dX9_addCandle_14 : decode cX9_addCandle 14 = .ok (.getfield 25, 3) := by decide +kernel
theorem dX9_addCandle_17 : decode cX9_addCandle 17 = .ok (.aload_n 0, 1) := by decide +kernel
theorem dX9_addCandle_18 : decode cX9_addCandle 18 = .ok (.getfield 12, 3) := by decide +kernel
theorem dX9_addCandle_21 : decode cX9_addCandle 21 = .ok (.invokevirtual 62, 3) := by decide +kernel
theorem dX9_addCandle_24 : decode cX9_addCandle 24 = .ok (.aload_n 0, 1) := by decide +kernel
theorem dX9_addCandle_25 : decode cX9_addCandle 25 = .ok (.getfield 12, 3) := by decide +kernel
theorem dX9_addCandle_28 : decode cX9_addCandle 28 = .ok (.iload_n 1, 1) := by decide +kernel
theorem dX9_addCandle_29 : decode cX9_addCandle 29 = .ok (.iload_n 2, 1) := by decide +kernel
theorem dX9_addCandle_30 : decode cX9_addCandle 30 = .ok (.iload_n 3, 1) := by decide +kernel
theorem dX9_addCandle_31 : decode cX9_addCandle 31 = .ok (.invokevirtual 66, 3) := by decide +kernel
theorem dX9_addCandle_34 : decode cX9_addCandle 34 = .ok (.ireturn, 1) := by decide +kernel
set_option maxHeartbeats 4000000 in
set_option maxRecDepth 100000 in
theorem c_X9_addCandle (g : xG) (l : Launch) (hl : l.stackTraces = false) (a : Nat → Nat) (b : Nat → Nat) (y : Nat) (z : CcT) (v : StS) (c : CdT) (e : EvT) (h : HiT) (t : Unit) (vs : (Nat → StS)) (cs : (Nat → CdT)) (es : (Nat → EvT)) (x1 : Int32) (x2 : Int32) (x3 : Int32) {u : (Nat ⊕ Int32) × StS × CdT × HiT × (Nat → StS) × (Nat → CdT) × (Nat → EvT)} (hf : f_X9_addCandle z v c e h t vs cs es x1 x2 x3 = some u) : ConX g l yX9_addCandle cX9_addCandle 4 (some .int) ({ frames := 7, cells := 1, slots := 6, locals := 110 } : Room) [.ref (a 0), .int x1, .int x2, .int x3] ([ccO g a b y z, stO g a 10 v, cdW g a 10 c, evW g a 10 e, hiO g a h, hrW g a t, stF g a vs, cdF g a cs, evF g a es] : List va_W).flatten (fun v9 w9 => ∃ r9, u.1 = Sum.inr r9 ∧ v9 = some (.int r9) ∧ w9 = ([ccO g a b y z, stO g a 10 u.2.1, cdW g a 10 u.2.2.1, evW g a 10 e, hiO g a u.2.2.2.1, hrW g a t, stF g a u.2.2.2.2.1, cdF g a u.2.2.2.2.2.1, evF g a u.2.2.2.2.2.2] : List va_W).flatten) (fun e9 w9 => ∃ k9, u.1 = Sum.inl k9 ∧ e9 = xcE k9 ∧ w9 = ([ccO g a b y z, stO g a 10 u.2.1, cdW g a 10 u.2.2.1, evW g a 10 e, hiO g a u.2.2.2.1, hrW g a t, stF g a u.2.2.2.2.1, cdF g a u.2.2.2.2.2.1, evF g a u.2.2.2.2.2.2] : List va_W).flatten) 1 6 := by
  unfold f_X9_addCandle at hf
  refine ConX_of [ccO g a b y z, stO g a 10 v, cdW g a 10 c, evW g a 10 e, hiO g a h, hrW g a t, stF g a vs, cdF g a cs, evF g a es] [(0, .ref (a 0)), (1, .int x1), (2, .int x2), (3, .int x3)] rfl rfl (by decide) (Nat.le_of_ble_eq_true rfl) ?_
  intro pW eW sW mW argsW belowW methW c9 C hnm hr hout
  have C : CX g RX9 cX9_addCandle 4 _ pW sW mW argsW methW c9 := C
  refine x_aload_n C dX9_addCandle_0 rfl 0 rfl ?_
  refine x_get (ci := 10) (v := .ref (a (10 + 0))) (b := ccO g a b y z) C ixX9 rfl 0 (by decide) wd_1000 (fun _ h => h) 0 rfl 0 (ccO_at0 g a b y _) rfl dX9_addCandle_1 ?_
  refine x_iload_n C dX9_addCandle_4 rfl 1 rfl ?_
  refine x_iload_n C dX9_addCandle_5 rfl 2 rfl ?_
  refine x_iload_n C dX9_addCandle_6 rfl 3 rfl ?_
  obtain ⟨u1, hu1, hf⟩ := x_b hf
  refine x_callV (n := 3) (As := [.int x1, .int x2, .int x3]) (rest := []) C (c_X8_refusalToAdd g l a 10 v c x1 x2 x3 hu1) ⟨⟨wd_1054, wd_1051, wd_26⟩, ⟨by decide, by decide, by decide⟩, rfl, rfl, Nat.le_of_ble_eq_true rfl, Nat.le_of_ble_eq_true rfl⟩ wd_1052 wd_1053 ⟨0, 9, _, _, rfl, rfl, rfl⟩ [ccO g a b y z, evW g a 10 e, hiO g a h, hrW g a t, stF g a vs, cdF g a cs, evF g a es] (x_pickD [1, 2, 0, 3, 4, 5, 6, 7, 8] 9 rfl rfl rfl) rfl rfl (Nat.le_of_ble_eq_true rfl) ⟨Nat.le_of_ble_eq_true rfl, Nat.le_of_ble_eq_true rfl⟩ dX9_addCandle_7 (x_goD (wss2 := [stO g a 10 v, cdW g a 10 c, ccO g a b y z, evW g a 10 e, hiO g a h, hrW g a t, stF g a vs, cdF g a cs, evF g a es]) (stk2 := [.ref (g.2.2 (100 + u1))]) rfl rfl ?_)
  obtain ⟨u2, hu2, hf⟩ := x_b hf
  refine x_xcallS (n := 1) (As := [.ref (g.2.2 (100 + u1))]) (rest := []) C (c_X9_throwIfRefused g l hl u1 hu2) ⟨⟨wd_599, wd_597, wd_25⟩, ⟨by decide, by decide, by decide⟩, rfl, rfl, Nat.le_of_ble_eq_true rfl, Nat.le_of_ble_eq_true rfl⟩ wd_598 [stO g a 10 v, cdW g a 10 c, ccO g a b y z, evW g a 10 e, hiO g a h, hrW g a t, stF g a vs, cdF g a cs, evF g a es] (x_pickD [0, 1, 2, 3, 4, 5, 6, 7, 8] 9 rfl rfl rfl) rfl rfl (Nat.le_of_ble_eq_true rfl) ⟨Nat.le_of_ble_eq_true rfl, Nat.le_of_ble_eq_true rfl⟩ dX9_addCandle_10 (fun E9 w9 hX9 => ?_) (fun v9 w9 hQ9 => ?_)
  · obtain ⟨k9, hk9, rfl, rfl⟩ := hX9
    have hf := x_sl hk9 hf
    refine x_goX (wss2 := [stO g a 10 v, cdW g a 10 c, ccO g a b y z, evW g a 10 e, hiO g a h, hrW g a t, stF g a vs, cdF g a cs, evF g a es]) rfl rfl ?_
    refine x_permX (wss' := [ccO g a b y z, stO g a 10 v, cdW g a 10 c, evW g a 10 e, hiO g a h, hrW g a t, stF g a vs, cdF g a cs, evF g a es]) (x_pick [2, 0, 1, 3, 4, 5, 6, 7, 8] 9 rfl rfl rfl) ?_
    exact x_prop C hout ⟨k9, by cases hf; rfl, rfl, by cases hf; rfl⟩ (Nat.le_of_ble_eq_true rfl) (Nat.le_of_ble_eq_true rfl)
  · obtain ⟨r3, hr9, rfl, rfl⟩ := hQ9
    have hf := x_sr hr9 hf
    refine x_goW (wss2 := [stO g a 10 v, cdW g a 10 c, ccO g a b y z, evW g a 10 e, hiO g a h, hrW g a t, stF g a vs, cdF g a cs, evF g a es]) (stk2 := []) rfl rfl rfl ?_
    refine x_aload_n C dX9_addCandle_13 rfl 0 rfl ?_
    refine x_get (ci := 10) (v := .ref (a 90)) (b := ccO g a b y z) C ixX9 rfl 3 (by decide) wd_1003 (fun _ h => h) 2 rfl 0 (ccO_at0 g a b y _) rfl dX9_addCandle_14 ?_
    refine x_aload_n C dX9_addCandle_17 rfl 0 rfl ?_
    refine x_get (ci := 10) (v := .ref (a (10 + 0))) (b := ccO g a b y z) C ixX9 rfl 0 (by decide) wd_1000 (fun _ h => h) 2 rfl 0 (ccO_at0 g a b y _) rfl dX9_addCandle_18 ?_
    obtain ⟨u4, hu4, hf⟩ := x_b hf
    refine x_callV (n := 1) (As := [.ref (a (10 + 0))]) (rest := []) C (c_X4_remember g l a 10 h t vs cs es v c e hu4) ⟨⟨wd_652, wd_649, wd_29⟩, ⟨by decide, by decide, by decide⟩, rfl, rfl, Nat.le_of_ble_eq_true rfl, Nat.le_of_ble_eq_true rfl⟩ wd_650 wd_651 ⟨0, 7, _, _, rfl, rfl, rfl⟩ [ccO g a b y z] (x_pickD [4, 5, 6, 7, 8, 0, 1, 3, 2] 9 rfl rfl rfl) rfl rfl (Nat.le_of_ble_eq_true rfl) ⟨Nat.le_of_ble_eq_true rfl, Nat.le_of_ble_eq_true rfl⟩ dX9_addCandle_21 (x_goD (wss2 := [hiO g a u4.1, hrW g a t, stF g a u4.2.1, cdF g a u4.2.2.1, evF g a u4.2.2.2, stO g a 10 v, cdW g a 10 c, evW g a 10 e, ccO g a b y z]) (stk2 := []) rfl rfl ?_)
    refine x_aload_n C dX9_addCandle_24 rfl 0 rfl ?_
    refine x_get (ci := 10) (v := .ref (a (10 + 0))) (b := ccO g a b y z) C ixX9 rfl 0 (by decide) wd_1000 (fun _ h => h) 8 rfl 0 (ccO_at0 g a b y _) rfl dX9_addCandle_25 ?_
    refine x_iload_n C dX9_addCandle_28 rfl 1 rfl ?_
    refine x_iload_n C dX9_addCandle_29 rfl 2 rfl ?_
    refine x_iload_n C dX9_addCandle_30 rfl 3 rfl ?_
    obtain ⟨u5, hu5, hf⟩ := x_b hf
    refine x_callV (n := 3) (As := [.int x1, .int x2, .int x3]) (rest := []) C (c_X8_addNewCandle g l a 10 v c x1 x2 x3 hu5) ⟨⟨wd_1067, wd_1064, wd_26⟩, ⟨by decide, by decide, by decide⟩, rfl, rfl, Nat.le_of_ble_eq_true rfl, Nat.le_of_ble_eq_true rfl⟩ wd_1065 wd_1066 ⟨0, 9, _, _, rfl, rfl, rfl⟩ [hiO g a u4.1, hrW g a t, stF g a u4.2.1, cdF g a u4.2.2.1, evF g a u4.2.2.2, evW g a 10 e, ccO g a b y z] (x_pickD [5, 6, 0, 1, 2, 3, 4, 7, 8] 9 rfl rfl rfl) rfl rfl (Nat.le_of_ble_eq_true rfl) ⟨Nat.le_of_ble_eq_true rfl, Nat.le_of_ble_eq_true rfl⟩ dX9_addCandle_31 (x_goD (wss2 := [stO g a 10 u5.2.1, cdW g a 10 u5.2.2, hiO g a u4.1, hrW g a t, stF g a u4.2.1, cdF g a u4.2.2.1, evF g a u4.2.2.2, evW g a 10 e, ccO g a b y z]) (stk2 := [.int u5.1]) rfl rfl ?_)
    refine x_perm (wss' := [ccO g a b y z, stO g a 10 u5.2.1, cdW g a 10 u5.2.2, evW g a 10 e, hiO g a u4.1, hrW g a t, stF g a u4.2.1, cdF g a u4.2.2.1, evF g a u4.2.2.2]) (x_pick [8, 0, 1, 7, 2, 3, 4, 5, 6] 9 rfl rfl rfl) ?_
    refine x_widen (k := 1) (n := 6) (Nat.le_of_ble_eq_true rfl) (Nat.le_of_ble_eq_true rfl) ?_
    refine x_vx ?_
    exact x_iret C hr ⟨u5.1, by cases hf; rfl, rfl, by cases hf; rfl⟩ dX9_addCandle_34
theorem wd_585 : Cond.methodLink RX9 70 yX8_refusalToLight ∈ xTB := xTB_in 585 (by decide +kernel) (by decide +kernel)
theorem wd_586 : Cond.instanceMethod yX8_refusalToLight ∈ xTB := xTB_in 586 (by decide +kernel) (by decide +kernel)
theorem wd_587 : Cond.selects yX8_refusalToLight.cls yX8_refusalToLight yX8_refusalToLight ∈ xTB := xTB_in 587 (by decide +kernel) (by decide +kernel)
theorem wd_588 : Cond.code yX8_refusalToLight cX8_refusalToLight 2 (some (.object "CandleConcert$Refusal")) ∈ xTB := xTB_in 588 (by decide +kernel) (by decide +kernel)
theorem wd_655 : Cond.methodLink RX9 74 yX8_setLit ∈ xTB := xTB_in 655 (by decide +kernel) (by decide +kernel)
theorem wd_656 : Cond.instanceMethod yX8_setLit ∈ xTB := xTB_in 656 (by decide +kernel) (by decide +kernel)
theorem wd_657 : Cond.selects yX8_setLit.cls yX8_setLit yX8_setLit ∈ xTB := xTB_in 657 (by decide +kernel) (by decide +kernel)
theorem wd_658 : Cond.code yX8_setLit cX8_setLit 2 (some .int) ∈ xTB := xTB_in 658 (by decide +kernel) (by decide +kernel)
theorem dX9_light_0 : decode cX9_light 0 = .ok (.aload_n 0, 1) := by decide +kernel
theorem dX9_light_1 : decode cX9_light 1 = .ok (.getfield 12, 3) := by decide +kernel
theorem dX9_light_4 : decode cX9_light 4 = .ok (.iload_n 1, 1) := by decide +kernel
theorem dX9_light_5 : decode cX9_light 5 = .ok (.invokevirtual 70, 3) := by decide +kernel
theorem dX9_light_8 : decode cX9_light 8 = .ok (.invokestatic 58, 3) := by decide +kernel
theorem dX9_light_11 : decode cX9_light 11 = .ok (.aload_n 0, 1) := by decide +kernel
theorem dX9_light_12 : decode cX9_light 12 = .ok (.getfield 25, 3) := by decide +kernel
theorem dX9_light_15 : decode cX9_light 15 = .ok (.aload_n 0, 1) := by decide +kernel
theorem dX9_light_16 : decode cX9_light 16 = .ok (.getfield 12, 3) := by decide +kernel
theorem dX9_light_19 : decode cX9_light 19 = .ok (.invokevirtual 62, 3) := by decide +kernel
theorem dX9_light_22 : decode cX9_light 22 = .ok (.aload_n 0, 1) := by decide +kernel
theorem dX9_light_23 : decode cX9_light 23 = .ok (.getfield 12, 3) := by decide +kernel
theorem dX9_light_26 : decode cX9_light 26 = .ok (.iload_n 1, 1) := by decide +kernel
theorem dX9_light_27 : decode cX9_light 27 = .ok (.invokevirtual 74, 3) := by decide +kernel
theorem dX9_light_30 : decode cX9_light 30 = .ok (.ireturn, 1) := by decide +kernel
set_option maxHeartbeats 4000000 in
set_option maxRecDepth 100000 in
theorem c_X9_light (g : xG) (l : Launch) (hl : l.stackTraces = false) (a : Nat → Nat) (b : Nat → Nat) (y : Nat) (z : CcT) (v : StS) (c : CdT) (e : EvT) (h : HiT) (t : Unit) (vs : (Nat → StS)) (cs : (Nat → CdT)) (es : (Nat → EvT)) (x1 : Int32) {u : (Nat ⊕ Int32) × CdT × HiT × (Nat → StS) × (Nat → CdT) × (Nat → EvT)} (hf : f_X9_light z v c e h t vs cs es x1 = some u) : ConX g l yX9_light cX9_light 2 (some .int) ({ frames := 7, cells := 1, slots := 6, locals := 110 } : Room) [.ref (a 0), .int x1] ([ccO g a b y z, stO g a 10 v, cdW g a 10 c, evW g a 10 e, hiO g a h, hrW g a t, stF g a vs, cdF g a cs, evF g a es] : List va_W).flatten (fun v9 w9 => ∃ r9, u.1 = Sum.inr r9 ∧ v9 = some (.int r9) ∧ w9 = ([ccO g a b y z, stO g a 10 v, cdW g a 10 u.2.1, evW g a 10 e, hiO g a u.2.2.1, hrW g a t, stF g a u.2.2.2.1, cdF g a u.2.2.2.2.1, evF g a u.2.2.2.2.2] : List va_W).flatten) (fun e9 w9 => ∃ k9, u.1 = Sum.inl k9 ∧ e9 = xcE k9 ∧ w9 = ([ccO g a b y z, stO g a 10 v, cdW g a 10 u.2.1, evW g a 10 e, hiO g a u.2.2.1, hrW g a t, stF g a u.2.2.2.1, cdF g a u.2.2.2.2.1, evF g a u.2.2.2.2.2] : List va_W).flatten) 1 6 := by
  unfold f_X9_light at hf
  refine ConX_of [ccO g a b y z, stO g a 10 v, cdW g a 10 c, evW g a 10 e, hiO g a h, hrW g a t, stF g a vs, cdF g a cs, evF g a es] [(0, .ref (a 0)), (1, .int x1)] rfl rfl (by decide) (Nat.le_of_ble_eq_true rfl) ?_
  intro pW eW sW mW argsW belowW methW c9 C hnm hr hout
  have C : CX g RX9 cX9_light 2 _ pW sW mW argsW methW c9 := C
  refine x_aload_n C dX9_light_0 rfl 0 rfl ?_
  refine x_get (ci := 10) (v := .ref (a (10 + 0))) (b := ccO g a b y z) C ixX9 rfl 0 (by decide) wd_1000 (fun _ h => h) 0 rfl 0 (ccO_at0 g a b y _) rfl dX9_light_1 ?_
  refine x_iload_n C dX9_light_4 rfl 1 rfl ?_
  obtain ⟨u1, hu1, hf⟩ := x_b hf
  refine x_callV (n := 1) (As := [.int x1]) (rest := []) C (c_X8_refusalToLight g l a 10 v c x1 hu1) ⟨⟨wd_588, wd_585, wd_26⟩, ⟨by decide, by decide, by decide⟩, rfl, rfl, Nat.le_of_ble_eq_true rfl, Nat.le_of_ble_eq_true rfl⟩ wd_586 wd_587 ⟨0, 9, _, _, rfl, rfl, rfl⟩ [ccO g a b y z, evW g a 10 e, hiO g a h, hrW g a t, stF g a vs, cdF g a cs, evF g a es] (x_pickD [1, 2, 0, 3, 4, 5, 6, 7, 8] 9 rfl rfl rfl) rfl rfl (Nat.le_of_ble_eq_true rfl) ⟨Nat.le_of_ble_eq_true rfl, Nat.le_of_ble_eq_true rfl⟩ dX9_light_5 (x_goD (wss2 := [stO g a 10 v, cdW g a 10 c, ccO g a b y z, evW g a 10 e, hiO g a h, hrW g a t, stF g a vs, cdF g a cs, evF g a es]) (stk2 := [.ref (g.2.2 (100 + u1))]) rfl rfl ?_)
  obtain ⟨u2, hu2, hf⟩ := x_b hf
  refine x_xcallS (n := 1) (As := [.ref (g.2.2 (100 + u1))]) (rest := []) C (c_X9_throwIfRefused g l hl u1 hu2) ⟨⟨wd_599, wd_597, wd_25⟩, ⟨by decide, by decide, by decide⟩, rfl, rfl, Nat.le_of_ble_eq_true rfl, Nat.le_of_ble_eq_true rfl⟩ wd_598 [stO g a 10 v, cdW g a 10 c, ccO g a b y z, evW g a 10 e, hiO g a h, hrW g a t, stF g a vs, cdF g a cs, evF g a es] (x_pickD [0, 1, 2, 3, 4, 5, 6, 7, 8] 9 rfl rfl rfl) rfl rfl (Nat.le_of_ble_eq_true rfl) ⟨Nat.le_of_ble_eq_true rfl, Nat.le_of_ble_eq_true rfl⟩ dX9_light_8 (fun E9 w9 hX9 => ?_) (fun v9 w9 hQ9 => ?_)
  · obtain ⟨k9, hk9, rfl, rfl⟩ := hX9
    have hf := x_sl hk9 hf
    refine x_goX (wss2 := [stO g a 10 v, cdW g a 10 c, ccO g a b y z, evW g a 10 e, hiO g a h, hrW g a t, stF g a vs, cdF g a cs, evF g a es]) rfl rfl ?_
    refine x_permX (wss' := [ccO g a b y z, stO g a 10 v, cdW g a 10 c, evW g a 10 e, hiO g a h, hrW g a t, stF g a vs, cdF g a cs, evF g a es]) (x_pick [2, 0, 1, 3, 4, 5, 6, 7, 8] 9 rfl rfl rfl) ?_
    exact x_prop C hout ⟨k9, by cases hf; rfl, rfl, by cases hf; rfl⟩ (Nat.le_of_ble_eq_true rfl) (Nat.le_of_ble_eq_true rfl)
  · obtain ⟨r3, hr9, rfl, rfl⟩ := hQ9
    have hf := x_sr hr9 hf
    refine x_goW (wss2 := [stO g a 10 v, cdW g a 10 c, ccO g a b y z, evW g a 10 e, hiO g a h, hrW g a t, stF g a vs, cdF g a cs, evF g a es]) (stk2 := []) rfl rfl rfl ?_
    refine x_aload_n C dX9_light_11 rfl 0 rfl ?_
    refine x_get (ci := 10) (v := .ref (a 90)) (b := ccO g a b y z) C ixX9 rfl 3 (by decide) wd_1003 (fun _ h => h) 2 rfl 0 (ccO_at0 g a b y _) rfl dX9_light_12 ?_
    refine x_aload_n C dX9_light_15 rfl 0 rfl ?_
    refine x_get (ci := 10) (v := .ref (a (10 + 0))) (b := ccO g a b y z) C ixX9 rfl 0 (by decide) wd_1000 (fun _ h => h) 2 rfl 0 (ccO_at0 g a b y _) rfl dX9_light_16 ?_
    obtain ⟨u4, hu4, hf⟩ := x_b hf
    refine x_callV (n := 1) (As := [.ref (a (10 + 0))]) (rest := []) C (c_X4_remember g l a 10 h t vs cs es v c e hu4) ⟨⟨wd_652, wd_649, wd_29⟩, ⟨by decide, by decide, by decide⟩, rfl, rfl, Nat.le_of_ble_eq_true rfl, Nat.le_of_ble_eq_true rfl⟩ wd_650 wd_651 ⟨0, 7, _, _, rfl, rfl, rfl⟩ [ccO g a b y z] (x_pickD [4, 5, 6, 7, 8, 0, 1, 3, 2] 9 rfl rfl rfl) rfl rfl (Nat.le_of_ble_eq_true rfl) ⟨Nat.le_of_ble_eq_true rfl, Nat.le_of_ble_eq_true rfl⟩ dX9_light_19 (x_goD (wss2 := [hiO g a u4.1, hrW g a t, stF g a u4.2.1, cdF g a u4.2.2.1, evF g a u4.2.2.2, stO g a 10 v, cdW g a 10 c, evW g a 10 e, ccO g a b y z]) (stk2 := []) rfl rfl ?_)
    refine x_aload_n C dX9_light_22 rfl 0 rfl ?_
    refine x_get (ci := 10) (v := .ref (a (10 + 0))) (b := ccO g a b y z) C ixX9 rfl 0 (by decide) wd_1000 (fun _ h => h) 8 rfl 0 (ccO_at0 g a b y _) rfl dX9_light_23 ?_
    refine x_iload_n C dX9_light_26 rfl 1 rfl ?_
    obtain ⟨u5, hu5, hf⟩ := x_b hf
    refine x_callV (n := 1) (As := [.int x1]) (rest := []) C (c_X8_setLit g l a 10 v c x1 hu5) ⟨⟨wd_658, wd_655, wd_26⟩, ⟨by decide, by decide, by decide⟩, rfl, rfl, Nat.le_of_ble_eq_true rfl, Nat.le_of_ble_eq_true rfl⟩ wd_656 wd_657 ⟨0, 9, _, _, rfl, rfl, rfl⟩ [hiO g a u4.1, hrW g a t, stF g a u4.2.1, cdF g a u4.2.2.1, evF g a u4.2.2.2, evW g a 10 e, ccO g a b y z] (x_pickD [5, 6, 0, 1, 2, 3, 4, 7, 8] 9 rfl rfl rfl) rfl rfl (Nat.le_of_ble_eq_true rfl) ⟨Nat.le_of_ble_eq_true rfl, Nat.le_of_ble_eq_true rfl⟩ dX9_light_27 (x_goD (wss2 := [stO g a 10 v, cdW g a 10 u5.2, hiO g a u4.1, hrW g a t, stF g a u4.2.1, cdF g a u4.2.2.1, evF g a u4.2.2.2, evW g a 10 e, ccO g a b y z]) (stk2 := [.int u5.1]) rfl rfl ?_)
    refine x_perm (wss' := [ccO g a b y z, stO g a 10 v, cdW g a 10 u5.2, evW g a 10 e, hiO g a u4.1, hrW g a t, stF g a u4.2.1, cdF g a u4.2.2.1, evF g a u4.2.2.2]) (x_pick [8, 0, 1, 7, 2, 3, 4, 5, 6] 9 rfl rfl rfl) ?_
    refine x_widen (k := 1) (n := 6) (Nat.le_of_ble_eq_true rfl) (Nat.le_of_ble_eq_true rfl) ?_
    refine x_vx ?_
    exact x_iret C hr ⟨u5.1, by cases hf; rfl, rfl, by cases hf; rfl⟩ dX9_light_30
theorem wd_669 : Cond.methodLink RX9 78 yX8_refusalToSnuff ∈ xTB := xTB_in 669 (by decide +kernel) (by decide +kernel)
theorem wd_670 : Cond.instanceMethod yX8_refusalToSnuff ∈ xTB := xTB_in 670 (by decide +kernel) (by decide +kernel)
theorem wd_671 : Cond.selects yX8_refusalToSnuff.cls yX8_refusalToSnuff yX8_refusalToSnuff ∈ xTB := xTB_in 671 (by decide +kernel) (by decide +kernel)
theorem wd_672 : Cond.code yX8_refusalToSnuff cX8_refusalToSnuff 2 (some (.object "CandleConcert$Refusal")) ∈ xTB := xTB_in 672 (by decide +kernel) (by decide +kernel)
theorem wd_675 : Cond.methodLink RX9 81 yX8_setUnlit ∈ xTB := xTB_in 675 (by decide +kernel) (by decide +kernel)
theorem wd_676 : Cond.instanceMethod yX8_setUnlit ∈ xTB := xTB_in 676 (by decide +kernel) (by decide +kernel)
theorem wd_677 : Cond.selects yX8_setUnlit.cls yX8_setUnlit yX8_setUnlit ∈ xTB := xTB_in 677 (by decide +kernel) (by decide +kernel)
theorem wd_678 : Cond.code yX8_setUnlit cX8_setUnlit 2 (some .int) ∈ xTB := xTB_in 678 (by decide +kernel) (by decide +kernel)
theorem dX9_snuff_0 : decode cX9_snuff 0 = .ok (.aload_n 0, 1) := by decide +kernel
theorem dX9_snuff_1 : decode cX9_snuff 1 = .ok (.getfield 12, 3) := by decide +kernel
theorem dX9_snuff_4 : decode cX9_snuff 4 = .ok (.iload_n 1, 1) := by decide +kernel
theorem dX9_snuff_5 : decode cX9_snuff 5 = .ok (.invokevirtual 78, 3) := by decide +kernel
theorem dX9_snuff_8 : decode cX9_snuff 8 = .ok (.invokestatic 58, 3) := by decide +kernel
theorem dX9_snuff_11 : decode cX9_snuff 11 = .ok (.aload_n 0, 1) := by decide +kernel
theorem dX9_snuff_12 : decode cX9_snuff 12 = .ok (.getfield 25, 3) := by decide +kernel
theorem dX9_snuff_15 : decode cX9_snuff 15 = .ok (.aload_n 0, 1) := by decide +kernel
theorem dX9_snuff_16 : decode cX9_snuff 16 = .ok (.getfield 12, 3) := by decide +kernel
theorem dX9_snuff_19 : decode cX9_snuff 19 = .ok (.invokevirtual 62, 3) := by decide +kernel
theorem dX9_snuff_22 : decode cX9_snuff 22 = .ok (.aload_n 0, 1) := by decide +kernel
theorem dX9_snuff_23 : decode cX9_snuff 23 = .ok (.getfield 12, 3) := by decide +kernel
theorem dX9_snuff_26 : decode cX9_snuff 26 = .ok (.iload_n 1, 1) := by decide +kernel
theorem dX9_snuff_27 : decode cX9_snuff 27 = .ok (.invokevirtual 81, 3) := by decide +kernel
theorem dX9_snuff_30 : decode cX9_snuff 30 = .ok (.ireturn, 1) := by decide +kernel
set_option maxHeartbeats 4000000 in
set_option maxRecDepth 100000 in
theorem c_X9_snuff (g : xG) (l : Launch) (hl : l.stackTraces = false) (a : Nat → Nat) (b : Nat → Nat) (y : Nat) (z : CcT) (v : StS) (c : CdT) (e : EvT) (h : HiT) (t : Unit) (vs : (Nat → StS)) (cs : (Nat → CdT)) (es : (Nat → EvT)) (x1 : Int32) {u : (Nat ⊕ Int32) × CdT × HiT × (Nat → StS) × (Nat → CdT) × (Nat → EvT)} (hf : f_X9_snuff z v c e h t vs cs es x1 = some u) : ConX g l yX9_snuff cX9_snuff 2 (some .int) ({ frames := 7, cells := 1, slots := 6, locals := 110 } : Room) [.ref (a 0), .int x1] ([ccO g a b y z, stO g a 10 v, cdW g a 10 c, evW g a 10 e, hiO g a h, hrW g a t, stF g a vs, cdF g a cs, evF g a es] : List va_W).flatten (fun v9 w9 => ∃ r9, u.1 = Sum.inr r9 ∧ v9 = some (.int r9) ∧ w9 = ([ccO g a b y z, stO g a 10 v, cdW g a 10 u.2.1, evW g a 10 e, hiO g a u.2.2.1, hrW g a t, stF g a u.2.2.2.1, cdF g a u.2.2.2.2.1, evF g a u.2.2.2.2.2] : List va_W).flatten) (fun e9 w9 => ∃ k9, u.1 = Sum.inl k9 ∧ e9 = xcE k9 ∧ w9 = ([ccO g a b y z, stO g a 10 v, cdW g a 10 u.2.1, evW g a 10 e, hiO g a u.2.2.1, hrW g a t, stF g a u.2.2.2.1, cdF g a u.2.2.2.2.1, evF g a u.2.2.2.2.2] : List va_W).flatten) 1 6 := by
  unfold f_X9_snuff at hf
  refine ConX_of [ccO g a b y z, stO g a 10 v, cdW g a 10 c, evW g a 10 e, hiO g a h, hrW g a t, stF g a vs, cdF g a cs, evF g a es] [(0, .ref (a 0)), (1, .int x1)] rfl rfl (by decide) (Nat.le_of_ble_eq_true rfl) ?_
  intro pW eW sW mW argsW belowW methW c9 C hnm hr hout
  have C : CX g RX9 cX9_snuff 2 _ pW sW mW argsW methW c9 := C
  refine x_aload_n C dX9_snuff_0 rfl 0 rfl ?_
  refine x_get (ci := 10) (v := .ref (a (10 + 0))) (b := ccO g a b y z) C ixX9 rfl 0 (by decide) wd_1000 (fun _ h => h) 0 rfl 0 (ccO_at0 g a b y _) rfl dX9_snuff_1 ?_
  refine x_iload_n C dX9_snuff_4 rfl 1 rfl ?_
  obtain ⟨u1, hu1, hf⟩ := x_b hf
  refine x_callV (n := 1) (As := [.int x1]) (rest := []) C (c_X8_refusalToSnuff g l a 10 v c x1 hu1) ⟨⟨wd_672, wd_669, wd_26⟩, ⟨by decide, by decide, by decide⟩, rfl, rfl, Nat.le_of_ble_eq_true rfl, Nat.le_of_ble_eq_true rfl⟩ wd_670 wd_671 ⟨0, 9, _, _, rfl, rfl, rfl⟩ [ccO g a b y z, evW g a 10 e, hiO g a h, hrW g a t, stF g a vs, cdF g a cs, evF g a es] (x_pickD [1, 2, 0, 3, 4, 5, 6, 7, 8] 9 rfl rfl rfl) rfl rfl (Nat.le_of_ble_eq_true rfl) ⟨Nat.le_of_ble_eq_true rfl, Nat.le_of_ble_eq_true rfl⟩ dX9_snuff_5 (x_goD (wss2 := [stO g a 10 v, cdW g a 10 c, ccO g a b y z, evW g a 10 e, hiO g a h, hrW g a t, stF g a vs, cdF g a cs, evF g a es]) (stk2 := [.ref (g.2.2 (100 + u1))]) rfl rfl ?_)
  obtain ⟨u2, hu2, hf⟩ := x_b hf
  refine x_xcallS (n := 1) (As := [.ref (g.2.2 (100 + u1))]) (rest := []) C (c_X9_throwIfRefused g l hl u1 hu2) ⟨⟨wd_599, wd_597, wd_25⟩, ⟨by decide, by decide, by decide⟩, rfl, rfl, Nat.le_of_ble_eq_true rfl, Nat.le_of_ble_eq_true rfl⟩ wd_598 [stO g a 10 v, cdW g a 10 c, ccO g a b y z, evW g a 10 e, hiO g a h, hrW g a t, stF g a vs, cdF g a cs, evF g a es] (x_pickD [0, 1, 2, 3, 4, 5, 6, 7, 8] 9 rfl rfl rfl) rfl rfl (Nat.le_of_ble_eq_true rfl) ⟨Nat.le_of_ble_eq_true rfl, Nat.le_of_ble_eq_true rfl⟩ dX9_snuff_8 (fun E9 w9 hX9 => ?_) (fun v9 w9 hQ9 => ?_)
  · obtain ⟨k9, hk9, rfl, rfl⟩ := hX9
    have hf := x_sl hk9 hf
    refine x_goX (wss2 := [stO g a 10 v, cdW g a 10 c, ccO g a b y z, evW g a 10 e, hiO g a h, hrW g a t, stF g a vs, cdF g a cs, evF g a es]) rfl rfl ?_
    refine x_permX (wss' := [ccO g a b y z, stO g a 10 v, cdW g a 10 c, evW g a 10 e, hiO g a h, hrW g a t, stF g a vs, cdF g a cs, evF g a es]) (x_pick [2, 0, 1, 3, 4, 5, 6, 7, 8] 9 rfl rfl rfl) ?_
    exact x_prop C hout ⟨k9, by cases hf; rfl, rfl, by cases hf; rfl⟩ (Nat.le_of_ble_eq_true rfl) (Nat.le_of_ble_eq_true rfl)
  · obtain ⟨r3, hr9, rfl, rfl⟩ := hQ9
    have hf := x_sr hr9 hf
    refine x_goW (wss2 := [stO g a 10 v, cdW g a 10 c, ccO g a b y z, evW g a 10 e, hiO g a h, hrW g a t, stF g a vs, cdF g a cs, evF g a es]) (stk2 := []) rfl rfl rfl ?_
    refine x_aload_n C dX9_snuff_11 rfl 0 rfl ?_
    refine x_get (ci := 10) (v := .ref (a 90)) (b := ccO g a b y z) C ixX9 rfl 3 (by decide) wd_1003 (fun _ h => h) 2 rfl 0 (ccO_at0 g a b y _) rfl dX9_snuff_12 ?_
    refine x_aload_n C dX9_snuff_15 rfl 0 rfl ?_
    refine x_get (ci := 10) (v := .ref (a (10 + 0))) (b := ccO g a b y z) C ixX9 rfl 0 (by decide) wd_1000 (fun _ h => h) 2 rfl 0 (ccO_at0 g a b y _) rfl dX9_snuff_16 ?_
    obtain ⟨u4, hu4, hf⟩ := x_b hf
    refine x_callV (n := 1) (As := [.ref (a (10 + 0))]) (rest := []) C (c_X4_remember g l a 10 h t vs cs es v c e hu4) ⟨⟨wd_652, wd_649, wd_29⟩, ⟨by decide, by decide, by decide⟩, rfl, rfl, Nat.le_of_ble_eq_true rfl, Nat.le_of_ble_eq_true rfl⟩ wd_650 wd_651 ⟨0, 7, _, _, rfl, rfl, rfl⟩ [ccO g a b y z] (x_pickD [4, 5, 6, 7, 8, 0, 1, 3, 2] 9 rfl rfl rfl) rfl rfl (Nat.le_of_ble_eq_true rfl) ⟨Nat.le_of_ble_eq_true rfl, Nat.le_of_ble_eq_true rfl⟩ dX9_snuff_19 (x_goD (wss2 := [hiO g a u4.1, hrW g a t, stF g a u4.2.1, cdF g a u4.2.2.1, evF g a u4.2.2.2, stO g a 10 v, cdW g a 10 c, evW g a 10 e, ccO g a b y z]) (stk2 := []) rfl rfl ?_)
    refine x_aload_n C dX9_snuff_22 rfl 0 rfl ?_
    refine x_get (ci := 10) (v := .ref (a (10 + 0))) (b := ccO g a b y z) C ixX9 rfl 0 (by decide) wd_1000 (fun _ h => h) 8 rfl 0 (ccO_at0 g a b y _) rfl dX9_snuff_23 ?_
    refine x_iload_n C dX9_snuff_26 rfl 1 rfl ?_
    obtain ⟨u5, hu5, hf⟩ := x_b hf
    refine x_callV (n := 1) (As := [.int x1]) (rest := []) C (c_X8_setUnlit g l a 10 v c x1 hu5) ⟨⟨wd_678, wd_675, wd_26⟩, ⟨by decide, by decide, by decide⟩, rfl, rfl, Nat.le_of_ble_eq_true rfl, Nat.le_of_ble_eq_true rfl⟩ wd_676 wd_677 ⟨0, 9, _, _, rfl, rfl, rfl⟩ [hiO g a u4.1, hrW g a t, stF g a u4.2.1, cdF g a u4.2.2.1, evF g a u4.2.2.2, evW g a 10 e, ccO g a b y z] (x_pickD [5, 6, 0, 1, 2, 3, 4, 7, 8] 9 rfl rfl rfl) rfl rfl (Nat.le_of_ble_eq_true rfl) ⟨Nat.le_of_ble_eq_true rfl, Nat.le_of_ble_eq_true rfl⟩ dX9_snuff_27 (x_goD (wss2 := [stO g a 10 v, cdW g a 10 u5.2, hiO g a u4.1, hrW g a t, stF g a u4.2.1, cdF g a u4.2.2.1, evF g a u4.2.2.2, evW g a 10 e, ccO g a b y z]) (stk2 := [.int u5.1]) rfl rfl ?_)
    refine x_perm (wss' := [ccO g a b y z, stO g a 10 v, cdW g a 10 u5.2, evW g a 10 e, hiO g a u4.1, hrW g a t, stF g a u4.2.1, cdF g a u4.2.2.1, evF g a u4.2.2.2]) (x_pick [8, 0, 1, 7, 2, 3, 4, 5, 6] 9 rfl rfl rfl) ?_
    refine x_widen (k := 1) (n := 6) (Nat.le_of_ble_eq_true rfl) (Nat.le_of_ble_eq_true rfl) ?_
    refine x_vx ?_
    exact x_iret C hr ⟨u5.1, by cases hf; rfl, rfl, by cases hf; rfl⟩ dX9_snuff_30
theorem wd_1085 : Cond.methodLink RX9 84 yX8_refusalToPour ∈ xTB := xTB_in 1085 (by decide +kernel) (by decide +kernel)
theorem wd_1086 : Cond.instanceMethod yX8_refusalToPour ∈ xTB := xTB_in 1086 (by decide +kernel) (by decide +kernel)
theorem wd_1087 : Cond.selects yX8_refusalToPour.cls yX8_refusalToPour yX8_refusalToPour ∈ xTB := xTB_in 1087 (by decide +kernel) (by decide +kernel)
theorem wd_1088 : Cond.code yX8_refusalToPour cX8_refusalToPour 3 (some (.object "CandleConcert$Refusal")) ∈ xTB := xTB_in 1088 (by decide +kernel) (by decide +kernel)
theorem wd_1093 : Cond.methodLink RX9 88 yX8_pourFromDish ∈ xTB := xTB_in 1093 (by decide +kernel) (by decide +kernel)
theorem wd_1094 : Cond.instanceMethod yX8_pourFromDish ∈ xTB := xTB_in 1094 (by decide +kernel) (by decide +kernel)
theorem wd_1095 : Cond.selects yX8_pourFromDish.cls yX8_pourFromDish yX8_pourFromDish ∈ xTB := xTB_in 1095 (by decide +kernel) (by decide +kernel)
theorem wd_1096 : Cond.code yX8_pourFromDish cX8_pourFromDish 3 (some .int) ∈ xTB := xTB_in 1096 (by decide +kernel) (by decide +kernel)
theorem dX9_pour_0 : decode cX9_pour 0 = .ok (.aload_n 0, 1) := by decide +kernel
theorem dX9_pour_1 : decode cX9_pour 1 = .ok (.getfield 12, 3) := by decide +kernel
theorem dX9_pour_4 : decode cX9_pour 4 = .ok (.iload_n 1, 1) := by decide +kernel
theorem dX9_pour_5 : decode cX9_pour 5 = .ok (.iload_n 2, 1) := by decide +kernel
theorem dX9_pour_6 : decode cX9_pour 6 = .ok (.invokevirtual 84, 3) := by decide +kernel
theorem dX9_pour_9 : decode cX9_pour 9 = .ok (.invokestatic 58, 3) := by decide +kernel
theorem dX9_pour_12 : decode cX9_pour 12 = .ok (.aload_n 0, 1) := by decide +kernel
theorem dX9_pour_13 : decode cX9_pour 13 = .ok (.getfield 25, 3) := by decide +kernel
theorem dX9_pour_16 : decode cX9_pour 16 = .ok (.aload_n 0, 1) := by decide +kernel
theorem dX9_pour_17 : decode cX9_pour 17 = .ok (.getfield 12, 3) := by decide +kernel
theorem dX9_pour_20 : decode cX9_pour 20 = .ok (.invokevirtual 62, 3) := by decide +kernel
theorem dX9_pour_23 : decode cX9_pour 23 = .ok (.aload_n 0, 1) := by decide +kernel
theorem dX9_pour_24 : decode cX9_pour 24 = .ok (.getfield 12, 3) := by decide +kernel
theorem dX9_pour_27 : decode cX9_pour 27 = .ok (.iload_n 1, 1) := by decide +kernel
theorem dX9_pour_28 : decode cX9_pour 28 = .ok (.iload_n 2, 1) := by decide +kernel
theorem dX9_pour_29 : decode cX9_pour 29 = .ok (.invokevirtual 88, 3) := by decide +kernel
theorem dX9_pour_32 : decode cX9_pour 32 = .ok (.ireturn, 1) := by decide +kernel
set_option maxHeartbeats 4000000 in
set_option maxRecDepth 100000 in
theorem c_X9_pour (g : xG) (l : Launch) (hl : l.stackTraces = false) (a : Nat → Nat) (b : Nat → Nat) (y : Nat) (z : CcT) (v : StS) (c : CdT) (e : EvT) (h : HiT) (t : Unit) (vs : (Nat → StS)) (cs : (Nat → CdT)) (es : (Nat → EvT)) (x1 : Int32) (x2 : Int32) {u : (Nat ⊕ Int32) × StS × CdT × HiT × (Nat → StS) × (Nat → CdT) × (Nat → EvT)} (hf : f_X9_pour z v c e h t vs cs es x1 x2 = some u) : ConX g l yX9_pour cX9_pour 3 (some .int) ({ frames := 7, cells := 1, slots := 6, locals := 110 } : Room) [.ref (a 0), .int x1, .int x2] ([ccO g a b y z, stO g a 10 v, cdW g a 10 c, evW g a 10 e, hiO g a h, hrW g a t, stF g a vs, cdF g a cs, evF g a es] : List va_W).flatten (fun v9 w9 => ∃ r9, u.1 = Sum.inr r9 ∧ v9 = some (.int r9) ∧ w9 = ([ccO g a b y z, stO g a 10 u.2.1, cdW g a 10 u.2.2.1, evW g a 10 e, hiO g a u.2.2.2.1, hrW g a t, stF g a u.2.2.2.2.1, cdF g a u.2.2.2.2.2.1, evF g a u.2.2.2.2.2.2] : List va_W).flatten) (fun e9 w9 => ∃ k9, u.1 = Sum.inl k9 ∧ e9 = xcE k9 ∧ w9 = ([ccO g a b y z, stO g a 10 u.2.1, cdW g a 10 u.2.2.1, evW g a 10 e, hiO g a u.2.2.2.1, hrW g a t, stF g a u.2.2.2.2.1, cdF g a u.2.2.2.2.2.1, evF g a u.2.2.2.2.2.2] : List va_W).flatten) 1 6 := by
  unfold f_X9_pour at hf
  refine ConX_of [ccO g a b y z, stO g a 10 v, cdW g a 10 c, evW g a 10 e, hiO g a h, hrW g a t, stF g a vs, cdF g a cs, evF g a es] [(0, .ref (a 0)), (1, .int x1), (2, .int x2)] rfl rfl (by decide) (Nat.le_of_ble_eq_true rfl) ?_
  intro pW eW sW mW argsW belowW methW c9 C hnm hr hout
  have C : CX g RX9 cX9_pour 3 _ pW sW mW argsW methW c9 := C
  refine x_aload_n C dX9_pour_0 rfl 0 rfl ?_
  refine x_get (ci := 10) (v := .ref (a (10 + 0))) (b := ccO g a b y z) C ixX9 rfl 0 (by decide) wd_1000 (fun _ h => h) 0 rfl 0 (ccO_at0 g a b y _) rfl dX9_pour_1 ?_
  refine x_iload_n C dX9_pour_4 rfl 1 rfl ?_
  refine x_iload_n C dX9_pour_5 rfl 2 rfl ?_
  obtain ⟨u1, hu1, hf⟩ := x_b hf
  refine x_callV (n := 2) (As := [.int x1, .int x2]) (rest := []) C (c_X8_refusalToPour g l a 10 v c x1 x2 hu1) ⟨⟨wd_1088, wd_1085, wd_26⟩, ⟨by decide, by decide, by decide⟩, rfl, rfl, Nat.le_of_ble_eq_true rfl, Nat.le_of_ble_eq_true rfl⟩ wd_1086 wd_1087 ⟨0, 9, _, _, rfl, rfl, rfl⟩ [ccO g a b y z, evW g a 10 e, hiO g a h, hrW g a t, stF g a vs, cdF g a cs, evF g a es] (x_pickD [1, 2, 0, 3, 4, 5, 6, 7, 8] 9 rfl rfl rfl) rfl rfl (Nat.le_of_ble_eq_true rfl) ⟨Nat.le_of_ble_eq_true rfl, Nat.le_of_ble_eq_true rfl⟩ dX9_pour_6 (x_goD (wss2 := [stO g a 10 v, cdW g a 10 c, ccO g a b y z, evW g a 10 e, hiO g a h, hrW g a t, stF g a vs, cdF g a cs, evF g a es]) (stk2 := [.ref (g.2.2 (100 + u1))]) rfl rfl ?_)
  obtain ⟨u2, hu2, hf⟩ := x_b hf
  refine x_xcallS (n := 1) (As := [.ref (g.2.2 (100 + u1))]) (rest := []) C (c_X9_throwIfRefused g l hl u1 hu2) ⟨⟨wd_599, wd_597, wd_25⟩, ⟨by decide, by decide, by decide⟩, rfl, rfl, Nat.le_of_ble_eq_true rfl, Nat.le_of_ble_eq_true rfl⟩ wd_598 [stO g a 10 v, cdW g a 10 c, ccO g a b y z, evW g a 10 e, hiO g a h, hrW g a t, stF g a vs, cdF g a cs, evF g a es] (x_pickD [0, 1, 2, 3, 4, 5, 6, 7, 8] 9 rfl rfl rfl) rfl rfl (Nat.le_of_ble_eq_true rfl) ⟨Nat.le_of_ble_eq_true rfl, Nat.le_of_ble_eq_true rfl⟩ dX9_pour_9 (fun E9 w9 hX9 => ?_) (fun v9 w9 hQ9 => ?_)
  · obtain ⟨k9, hk9, rfl, rfl⟩ := hX9
    have hf := x_sl hk9 hf
    refine x_goX (wss2 := [stO g a 10 v, cdW g a 10 c, ccO g a b y z, evW g a 10 e, hiO g a h, hrW g a t, stF g a vs, cdF g a cs, evF g a es]) rfl rfl ?_
    refine x_permX (wss' := [ccO g a b y z, stO g a 10 v, cdW g a 10 c, evW g a 10 e, hiO g a h, hrW g a t, stF g a vs, cdF g a cs, evF g a es]) (x_pick [2, 0, 1, 3, 4, 5, 6, 7, 8] 9 rfl rfl rfl) ?_
    exact x_prop C hout ⟨k9, by cases hf; rfl, rfl, by cases hf; rfl⟩ (Nat.le_of_ble_eq_true rfl) (Nat.le_of_ble_eq_true rfl)
  · obtain ⟨r3, hr9, rfl, rfl⟩ := hQ9
    have hf := x_sr hr9 hf
    refine x_goW (wss2 := [stO g a 10 v, cdW g a 10 c, ccO g a b y z, evW g a 10 e, hiO g a h, hrW g a t, stF g a vs, cdF g a cs, evF g a es]) (stk2 := []) rfl rfl rfl ?_
    refine x_aload_n C dX9_pour_12 rfl 0 rfl ?_
    refine x_get (ci := 10) (v := .ref (a 90)) (b := ccO g a b y z) C ixX9 rfl 3 (by decide) wd_1003 (fun _ h => h) 2 rfl 0 (ccO_at0 g a b y _) rfl dX9_pour_13 ?_
    refine x_aload_n C dX9_pour_16 rfl 0 rfl ?_
    refine x_get (ci := 10) (v := .ref (a (10 + 0))) (b := ccO g a b y z) C ixX9 rfl 0 (by decide) wd_1000 (fun _ h => h) 2 rfl 0 (ccO_at0 g a b y _) rfl dX9_pour_17 ?_
    obtain ⟨u4, hu4, hf⟩ := x_b hf
    refine x_callV (n := 1) (As := [.ref (a (10 + 0))]) (rest := []) C (c_X4_remember g l a 10 h t vs cs es v c e hu4) ⟨⟨wd_652, wd_649, wd_29⟩, ⟨by decide, by decide, by decide⟩, rfl, rfl, Nat.le_of_ble_eq_true rfl, Nat.le_of_ble_eq_true rfl⟩ wd_650 wd_651 ⟨0, 7, _, _, rfl, rfl, rfl⟩ [ccO g a b y z] (x_pickD [4, 5, 6, 7, 8, 0, 1, 3, 2] 9 rfl rfl rfl) rfl rfl (Nat.le_of_ble_eq_true rfl) ⟨Nat.le_of_ble_eq_true rfl, Nat.le_of_ble_eq_true rfl⟩ dX9_pour_20 (x_goD (wss2 := [hiO g a u4.1, hrW g a t, stF g a u4.2.1, cdF g a u4.2.2.1, evF g a u4.2.2.2, stO g a 10 v, cdW g a 10 c, evW g a 10 e, ccO g a b y z]) (stk2 := []) rfl rfl ?_)
    refine x_aload_n C dX9_pour_23 rfl 0 rfl ?_
    refine x_get (ci := 10) (v := .ref (a (10 + 0))) (b := ccO g a b y z) C ixX9 rfl 0 (by decide) wd_1000 (fun _ h => h) 8 rfl 0 (ccO_at0 g a b y _) rfl dX9_pour_24 ?_
    refine x_iload_n C dX9_pour_27 rfl 1 rfl ?_
    refine x_iload_n C dX9_pour_28 rfl 2 rfl ?_
    obtain ⟨u5, hu5, hf⟩ := x_b hf
    refine x_callV (n := 2) (As := [.int x1, .int x2]) (rest := []) C (c_X8_pourFromDish g l a 10 v c x1 x2 hu5) ⟨⟨wd_1096, wd_1093, wd_26⟩, ⟨by decide, by decide, by decide⟩, rfl, rfl, Nat.le_of_ble_eq_true rfl, Nat.le_of_ble_eq_true rfl⟩ wd_1094 wd_1095 ⟨0, 9, _, _, rfl, rfl, rfl⟩ [hiO g a u4.1, hrW g a t, stF g a u4.2.1, cdF g a u4.2.2.1, evF g a u4.2.2.2, evW g a 10 e, ccO g a b y z] (x_pickD [5, 6, 0, 1, 2, 3, 4, 7, 8] 9 rfl rfl rfl) rfl rfl (Nat.le_of_ble_eq_true rfl) ⟨Nat.le_of_ble_eq_true rfl, Nat.le_of_ble_eq_true rfl⟩ dX9_pour_29 (x_goD (wss2 := [stO g a 10 u5.2.1, cdW g a 10 u5.2.2, hiO g a u4.1, hrW g a t, stF g a u4.2.1, cdF g a u4.2.2.1, evF g a u4.2.2.2, evW g a 10 e, ccO g a b y z]) (stk2 := [.int u5.1]) rfl rfl ?_)
    refine x_perm (wss' := [ccO g a b y z, stO g a 10 u5.2.1, cdW g a 10 u5.2.2, evW g a 10 e, hiO g a u4.1, hrW g a t, stF g a u4.2.1, cdF g a u4.2.2.1, evF g a u4.2.2.2]) (x_pick [8, 0, 1, 7, 2, 3, 4, 5, 6] 9 rfl rfl rfl) ?_
    refine x_widen (k := 1) (n := 6) (Nat.le_of_ble_eq_true rfl) (Nat.le_of_ble_eq_true rfl) ?_
    refine x_vx ?_
    exact x_iret C hr ⟨u5.1, by cases hf; rfl, rfl, by cases hf; rfl⟩ dX9_pour_32
theorem wd_687 : Cond.methodLink RX9 92 yX8_refusalToChangeDraught ∈ xTB := xTB_in 687 (by decide +kernel) (by decide +kernel)
theorem wd_688 : Cond.instanceMethod yX8_refusalToChangeDraught ∈ xTB := xTB_in 688 (by decide +kernel) (by decide +kernel)
theorem wd_689 : Cond.selects yX8_refusalToChangeDraught.cls yX8_refusalToChangeDraught yX8_refusalToChangeDraught ∈ xTB := xTB_in 689 (by decide +kernel) (by decide +kernel)
theorem wd_690 : Cond.code yX8_refusalToChangeDraught cX8_refusalToChangeDraught 2 (some (.object "CandleConcert$Refusal")) ∈ xTB := xTB_in 690 (by decide +kernel) (by decide +kernel)
theorem wd_693 : Cond.methodLink RX9 95 yX8_changeDraught ∈ xTB := xTB_in 693 (by decide +kernel) (by decide +kernel)
theorem wd_694 : Cond.instanceMethod yX8_changeDraught ∈ xTB := xTB_in 694 (by decide +kernel) (by decide +kernel)
theorem wd_695 : Cond.selects yX8_changeDraught.cls yX8_changeDraught yX8_changeDraught ∈ xTB := xTB_in 695 (by decide +kernel) (by decide +kernel)
theorem wd_696 : Cond.code yX8_changeDraught cX8_changeDraught 3 (some .int) ∈ xTB := xTB_in 696 (by decide +kernel) (by decide +kernel)
theorem dX9_setDraught_0 : decode cX9_setDraught 0 = .ok (.aload_n 0, 1) := by decide +kernel
theorem dX9_setDraught_1 : decode cX9_setDraught 1 = .ok (.getfield 12, 3) := by decide +kernel
theorem dX9_setDraught_4 : decode cX9_setDraught 4 = .ok (.iload_n 1, 1) := by decide +kernel
theorem dX9_setDraught_5 : decode cX9_setDraught 5 = .ok (.invokevirtual 92, 3) := by decide +kernel
theorem dX9_setDraught_8 : decode cX9_setDraught 8 = .ok (.invokestatic 58, 3) := by decide +kernel
theorem dX9_setDraught_11 : decode cX9_setDraught 11 = .ok (.aload_n 0, 1) := by decide +kernel
theorem dX9_setDraught_12 : decode cX9_setDraught 12 = .ok (.getfield 25, 3) := by decide +kernel
theorem dX9_setDraught_15 : decode cX9_setDraught 15 = .ok (.aload_n 0, 1) := by decide +kernel
theorem dX9_setDraught_16 : decode cX9_setDraught 16 = .ok (.getfield 12, 3) := by decide +kernel
theorem dX9_setDraught_19 : decode cX9_setDraught 19 = .ok (.invokevirtual 62, 3) := by decide +kernel
theorem dX9_setDraught_22 : decode cX9_setDraught 22 = .ok (.aload_n 0, 1) := by decide +kernel
theorem dX9_setDraught_23 : decode cX9_setDraught 23 = .ok (.getfield 12, 3) := by decide +kernel
theorem dX9_setDraught_26 : decode cX9_setDraught 26 = .ok (.iload_n 1, 1) := by decide +kernel
theorem dX9_setDraught_27 : decode cX9_setDraught 27 = .ok (.invokevirtual 95, 3) := by decide +kernel
theorem dX9_setDraught_30 : decode cX9_setDraught 30 = .ok (.ireturn, 1) := by decide +kernel
set_option maxHeartbeats 4000000 in
set_option maxRecDepth 100000 in
theorem c_X9_setDraught (g : xG) (l : Launch) (hl : l.stackTraces = false) (a : Nat → Nat) (b : Nat → Nat) (y : Nat) (z : CcT) (v : StS) (c : CdT) (e : EvT) (h : HiT) (t : Unit) (vs : (Nat → StS)) (cs : (Nat → CdT)) (es : (Nat → EvT)) (x1 : Int32) {u : (Nat ⊕ Int32) × StS × HiT × (Nat → StS) × (Nat → CdT) × (Nat → EvT)} (hf : f_X9_setDraught z v c e h t vs cs es x1 = some u) : ConX g l yX9_setDraught cX9_setDraught 2 (some .int) ({ frames := 7, cells := 1, slots := 6, locals := 110 } : Room) [.ref (a 0), .int x1] ([ccO g a b y z, stO g a 10 v, cdW g a 10 c, evW g a 10 e, hiO g a h, hrW g a t, stF g a vs, cdF g a cs, evF g a es] : List va_W).flatten (fun v9 w9 => ∃ r9, u.1 = Sum.inr r9 ∧ v9 = some (.int r9) ∧ w9 = ([ccO g a b y z, stO g a 10 u.2.1, cdW g a 10 c, evW g a 10 e, hiO g a u.2.2.1, hrW g a t, stF g a u.2.2.2.1, cdF g a u.2.2.2.2.1, evF g a u.2.2.2.2.2] : List va_W).flatten) (fun e9 w9 => ∃ k9, u.1 = Sum.inl k9 ∧ e9 = xcE k9 ∧ w9 = ([ccO g a b y z, stO g a 10 u.2.1, cdW g a 10 c, evW g a 10 e, hiO g a u.2.2.1, hrW g a t, stF g a u.2.2.2.1, cdF g a u.2.2.2.2.1, evF g a u.2.2.2.2.2] : List va_W).flatten) 1 6 := by
  unfold f_X9_setDraught at hf
  refine ConX_of [ccO g a b y z, stO g a 10 v, cdW g a 10 c, evW g a 10 e, hiO g a h, hrW g a t, stF g a vs, cdF g a cs, evF g a es] [(0, .ref (a 0)), (1, .int x1)] rfl rfl (by decide) (Nat.le_of_ble_eq_true rfl) ?_
  intro pW eW sW mW argsW belowW methW c9 C hnm hr hout
  have C : CX g RX9 cX9_setDraught 2 _ pW sW mW argsW methW c9 := C
  refine x_aload_n C dX9_setDraught_0 rfl 0 rfl ?_
  refine x_get (ci := 10) (v := .ref (a (10 + 0))) (b := ccO g a b y z) C ixX9 rfl 0 (by decide) wd_1000 (fun _ h => h) 0 rfl 0 (ccO_at0 g a b y _) rfl dX9_setDraught_1 ?_
  refine x_iload_n C dX9_setDraught_4 rfl 1 rfl ?_
  obtain ⟨u1, hu1, hf⟩ := x_b hf
  refine x_callV (n := 1) (As := [.int x1]) (rest := []) C (c_X8_refusalToChangeDraught g l a 10 v x1 hu1) ⟨⟨wd_690, wd_687, wd_26⟩, ⟨by decide, by decide, by decide⟩, rfl, rfl, Nat.le_of_ble_eq_true rfl, Nat.le_of_ble_eq_true rfl⟩ wd_688 wd_689 ⟨0, 9, _, _, rfl, rfl, rfl⟩ [ccO g a b y z, cdW g a 10 c, evW g a 10 e, hiO g a h, hrW g a t, stF g a vs, cdF g a cs, evF g a es] (x_pickD [1, 0, 2, 3, 4, 5, 6, 7, 8] 9 rfl rfl rfl) rfl rfl (Nat.le_of_ble_eq_true rfl) ⟨Nat.le_of_ble_eq_true rfl, Nat.le_of_ble_eq_true rfl⟩ dX9_setDraught_5 (x_goD (wss2 := [stO g a 10 v, ccO g a b y z, cdW g a 10 c, evW g a 10 e, hiO g a h, hrW g a t, stF g a vs, cdF g a cs, evF g a es]) (stk2 := [.ref (g.2.2 (100 + u1))]) rfl rfl ?_)
  obtain ⟨u2, hu2, hf⟩ := x_b hf
  refine x_xcallS (n := 1) (As := [.ref (g.2.2 (100 + u1))]) (rest := []) C (c_X9_throwIfRefused g l hl u1 hu2) ⟨⟨wd_599, wd_597, wd_25⟩, ⟨by decide, by decide, by decide⟩, rfl, rfl, Nat.le_of_ble_eq_true rfl, Nat.le_of_ble_eq_true rfl⟩ wd_598 [stO g a 10 v, ccO g a b y z, cdW g a 10 c, evW g a 10 e, hiO g a h, hrW g a t, stF g a vs, cdF g a cs, evF g a es] (x_pickD [0, 1, 2, 3, 4, 5, 6, 7, 8] 9 rfl rfl rfl) rfl rfl (Nat.le_of_ble_eq_true rfl) ⟨Nat.le_of_ble_eq_true rfl, Nat.le_of_ble_eq_true rfl⟩ dX9_setDraught_8 (fun E9 w9 hX9 => ?_) (fun v9 w9 hQ9 => ?_)
  · obtain ⟨k9, hk9, rfl, rfl⟩ := hX9
    have hf := x_sl hk9 hf
    refine x_goX (wss2 := [stO g a 10 v, ccO g a b y z, cdW g a 10 c, evW g a 10 e, hiO g a h, hrW g a t, stF g a vs, cdF g a cs, evF g a es]) rfl rfl ?_
    refine x_permX (wss' := [ccO g a b y z, stO g a 10 v, cdW g a 10 c, evW g a 10 e, hiO g a h, hrW g a t, stF g a vs, cdF g a cs, evF g a es]) (x_pick [1, 0, 2, 3, 4, 5, 6, 7, 8] 9 rfl rfl rfl) ?_
    exact x_prop C hout ⟨k9, by cases hf; rfl, rfl, by cases hf; rfl⟩ (Nat.le_of_ble_eq_true rfl) (Nat.le_of_ble_eq_true rfl)
  · obtain ⟨r3, hr9, rfl, rfl⟩ := hQ9
    have hf := x_sr hr9 hf
    refine x_goW (wss2 := [stO g a 10 v, ccO g a b y z, cdW g a 10 c, evW g a 10 e, hiO g a h, hrW g a t, stF g a vs, cdF g a cs, evF g a es]) (stk2 := []) rfl rfl rfl ?_
    refine x_aload_n C dX9_setDraught_11 rfl 0 rfl ?_
    refine x_get (ci := 10) (v := .ref (a 90)) (b := ccO g a b y z) C ixX9 rfl 3 (by decide) wd_1003 (fun _ h => h) 1 rfl 0 (ccO_at0 g a b y _) rfl dX9_setDraught_12 ?_
    refine x_aload_n C dX9_setDraught_15 rfl 0 rfl ?_
    refine x_get (ci := 10) (v := .ref (a (10 + 0))) (b := ccO g a b y z) C ixX9 rfl 0 (by decide) wd_1000 (fun _ h => h) 1 rfl 0 (ccO_at0 g a b y _) rfl dX9_setDraught_16 ?_
    obtain ⟨u4, hu4, hf⟩ := x_b hf
    refine x_callV (n := 1) (As := [.ref (a (10 + 0))]) (rest := []) C (c_X4_remember g l a 10 h t vs cs es v c e hu4) ⟨⟨wd_652, wd_649, wd_29⟩, ⟨by decide, by decide, by decide⟩, rfl, rfl, Nat.le_of_ble_eq_true rfl, Nat.le_of_ble_eq_true rfl⟩ wd_650 wd_651 ⟨0, 7, _, _, rfl, rfl, rfl⟩ [ccO g a b y z] (x_pickD [4, 5, 6, 7, 8, 0, 2, 3, 1] 9 rfl rfl rfl) rfl rfl (Nat.le_of_ble_eq_true rfl) ⟨Nat.le_of_ble_eq_true rfl, Nat.le_of_ble_eq_true rfl⟩ dX9_setDraught_19 (x_goD (wss2 := [hiO g a u4.1, hrW g a t, stF g a u4.2.1, cdF g a u4.2.2.1, evF g a u4.2.2.2, stO g a 10 v, cdW g a 10 c, evW g a 10 e, ccO g a b y z]) (stk2 := []) rfl rfl ?_)
    refine x_aload_n C dX9_setDraught_22 rfl 0 rfl ?_
    refine x_get (ci := 10) (v := .ref (a (10 + 0))) (b := ccO g a b y z) C ixX9 rfl 0 (by decide) wd_1000 (fun _ h => h) 8 rfl 0 (ccO_at0 g a b y _) rfl dX9_setDraught_23 ?_
    refine x_iload_n C dX9_setDraught_26 rfl 1 rfl ?_
    obtain ⟨u5, hu5, hf⟩ := x_b hf
    refine x_callV (n := 1) (As := [.int x1]) (rest := []) C (c_X8_changeDraught g l a 10 v x1 hu5) ⟨⟨wd_696, wd_693, wd_26⟩, ⟨by decide, by decide, by decide⟩, rfl, rfl, Nat.le_of_ble_eq_true rfl, Nat.le_of_ble_eq_true rfl⟩ wd_694 wd_695 ⟨0, 9, _, _, rfl, rfl, rfl⟩ [hiO g a u4.1, hrW g a t, stF g a u4.2.1, cdF g a u4.2.2.1, evF g a u4.2.2.2, cdW g a 10 c, evW g a 10 e, ccO g a b y z] (x_pickD [5, 0, 1, 2, 3, 4, 6, 7, 8] 9 rfl rfl rfl) rfl rfl (Nat.le_of_ble_eq_true rfl) ⟨Nat.le_of_ble_eq_true rfl, Nat.le_of_ble_eq_true rfl⟩ dX9_setDraught_27 (x_goD (wss2 := [stO g a 10 u5.2, hiO g a u4.1, hrW g a t, stF g a u4.2.1, cdF g a u4.2.2.1, evF g a u4.2.2.2, cdW g a 10 c, evW g a 10 e, ccO g a b y z]) (stk2 := [.int u5.1]) rfl rfl ?_)
    refine x_perm (wss' := [ccO g a b y z, stO g a 10 u5.2, cdW g a 10 c, evW g a 10 e, hiO g a u4.1, hrW g a t, stF g a u4.2.1, cdF g a u4.2.2.1, evF g a u4.2.2.2]) (x_pick [8, 0, 6, 7, 1, 2, 3, 4, 5] 9 rfl rfl rfl) ?_
    refine x_widen (k := 1) (n := 6) (Nat.le_of_ble_eq_true rfl) (Nat.le_of_ble_eq_true rfl) ?_
    refine x_vx ?_
    exact x_iret C hr ⟨u5.1, by cases hf; rfl, rfl, by cases hf; rfl⟩ dX9_setDraught_30
theorem wd_704 : Cond.methodLink RX9 98 yX8_refusalToSchedule ∈ xTB := xTB_in 704 (by decide +kernel) (by decide +kernel)
theorem wd_705 : Cond.instanceMethod yX8_refusalToSchedule ∈ xTB := xTB_in 705 (by decide +kernel) (by decide +kernel)
theorem wd_706 : Cond.selects yX8_refusalToSchedule.cls yX8_refusalToSchedule yX8_refusalToSchedule ∈ xTB := xTB_in 706 (by decide +kernel) (by decide +kernel)
theorem wd_707 : Cond.code yX8_refusalToSchedule cX8_refusalToSchedule 3 (some (.object "CandleConcert$Refusal")) ∈ xTB := xTB_in 707 (by decide +kernel) (by decide +kernel)
theorem wd_714 : Cond.methodLink RX9 105 yX3_insert ∈ xTB := xTB_in 714 (by decide +kernel) (by decide +kernel)
theorem wd_715 : Cond.instanceMethod yX3_insert ∈ xTB := xTB_in 715 (by decide +kernel) (by decide +kernel)
theorem wd_716 : Cond.selects yX3_insert.cls yX3_insert yX3_insert ∈ xTB := xTB_in 716 (by decide +kernel) (by decide +kernel)
theorem wd_717 : Cond.code yX3_insert cX3_insert 5 (some .int) ∈ xTB := xTB_in 717 (by decide +kernel) (by decide +kernel)
theorem wd_876 : Cond.fieldLink RX9 101 "CandleConcert$State" "events" "LCandleConcert$Events;" ∈ xTB := xTB_in 876 (by decide +kernel) (by decide +kernel)
theorem dX9_schedule_0 : decode cX9_schedule 0 = .ok (.aload_n 0, 1) := by decide +kernel
theorem dX9_schedule_1 : decode cX9_schedule 1 = .ok (.getfield 12, 3) := by decide +kernel
theorem dX9_schedule_4 : decode cX9_schedule 4 = .ok (.iload_n 1, 1) := by decide +kernel
theorem dX9_schedule_5 : decode cX9_schedule 5 = .ok (.iload_n 2, 1) := by decide +kernel
theorem dX9_schedule_6 : decode cX9_schedule 6 = .ok (.invokevirtual 98, 3) := by decide +kernel
theorem dX9_schedule_9 : decode cX9_schedule 9 = .ok (.invokestatic 58, 3) := by decide +kernel
theorem dX9_schedule_12 : decode cX9_schedule 12 = .ok (.aload_n 0, 1) := by decide +kernel
theorem dX9_schedule_13 : decode cX9_schedule 13 = .ok (.getfield 25, 3) := by decide +kernel
theorem dX9_schedule_16 : decode cX9_schedule 16 = .ok (.aload_n 0, 1) := by decide +kernel
theorem dX9_schedule_17 : decode cX9_schedule 17 = .ok (.getfield 12, 3) := by decide +kernel
theorem dX9_schedule_20 : decode cX9_schedule 20 = .ok (.invokevirtual 62, 3) := by decide +kernel
theorem dX9_schedule_23 : decode cX9_schedule 23 = .ok (.aload_n 0, 1) := by decide +kernel
theorem dX9_schedule_24 : decode cX9_schedule 24 = .ok (.getfield 12, 3) := by decide +kernel
theorem dX9_schedule_27 : decode cX9_schedule 27 = .ok (.getfield 101, 3) := by decide +kernel
theorem dX9_schedule_30 : decode cX9_schedule 30 = .ok (.iload_n 1, 1) := by decide +kernel
theorem dX9_schedule_31 : decode cX9_schedule 31 = .ok (.iload_n 2, 1) := by decide +kernel
theorem dX9_schedule_32 : decode cX9_schedule 32 = .ok (.iload_n 3, 1) := by decide +kernel
theorem dX9_schedule_33 : decode cX9_schedule 33 = .ok (.invokevirtual 105, 3) := by decide +kernel
theorem dX9_schedule_36 : decode cX9_schedule 36 = .ok (.ireturn, 1) := by decide +kernel
set_option maxHeartbeats 4000000 in
set_option maxRecDepth 100000 in
theorem c_X9_schedule (g : xG) (l : Launch) (hl : l.stackTraces = false) (a : Nat → Nat) (b : Nat → Nat) (y : Nat) (z : CcT) (v : StS) (c : CdT) (e : EvT) (h : HiT) (t : Unit) (vs : (Nat → StS)) (cs : (Nat → CdT)) (es : (Nat → EvT)) (x1 : Int32) (x2 : Int32) (x3 : Int32) {u : (Nat ⊕ Int32) × EvT × HiT × (Nat → StS) × (Nat → CdT) × (Nat → EvT)} (hf : f_X9_schedule z v c e h t vs cs es x1 x2 x3 = some u) : ConX g l yX9_schedule cX9_schedule 4 (some .int) ({ frames := 7, cells := 1, slots := 6, locals := 110 } : Room) [.ref (a 0), .int x1, .int x2, .int x3] ([ccO g a b y z, stO g a 10 v, cdW g a 10 c, evW g a 10 e, hiO g a h, hrW g a t, stF g a vs, cdF g a cs, evF g a es] : List va_W).flatten (fun v9 w9 => ∃ r9, u.1 = Sum.inr r9 ∧ v9 = some (.int r9) ∧ w9 = ([ccO g a b y z, stO g a 10 v, cdW g a 10 c, evW g a 10 u.2.1, hiO g a u.2.2.1, hrW g a t, stF g a u.2.2.2.1, cdF g a u.2.2.2.2.1, evF g a u.2.2.2.2.2] : List va_W).flatten) (fun e9 w9 => ∃ k9, u.1 = Sum.inl k9 ∧ e9 = xcE k9 ∧ w9 = ([ccO g a b y z, stO g a 10 v, cdW g a 10 c, evW g a 10 u.2.1, hiO g a u.2.2.1, hrW g a t, stF g a u.2.2.2.1, cdF g a u.2.2.2.2.1, evF g a u.2.2.2.2.2] : List va_W).flatten) 1 6 := by
  unfold f_X9_schedule at hf
  refine ConX_of [ccO g a b y z, stO g a 10 v, cdW g a 10 c, evW g a 10 e, hiO g a h, hrW g a t, stF g a vs, cdF g a cs, evF g a es] [(0, .ref (a 0)), (1, .int x1), (2, .int x2), (3, .int x3)] rfl rfl (by decide) (Nat.le_of_ble_eq_true rfl) ?_
  intro pW eW sW mW argsW belowW methW c9 C hnm hr hout
  have C : CX g RX9 cX9_schedule 4 _ pW sW mW argsW methW c9 := C
  refine x_aload_n C dX9_schedule_0 rfl 0 rfl ?_
  refine x_get (ci := 10) (v := .ref (a (10 + 0))) (b := ccO g a b y z) C ixX9 rfl 0 (by decide) wd_1000 (fun _ h => h) 0 rfl 0 (ccO_at0 g a b y _) rfl dX9_schedule_1 ?_
  refine x_iload_n C dX9_schedule_4 rfl 1 rfl ?_
  refine x_iload_n C dX9_schedule_5 rfl 2 rfl ?_
  obtain ⟨u1, hu1, hf⟩ := x_b hf
  refine x_callV (n := 2) (As := [.int x1, .int x2]) (rest := []) C (c_X8_refusalToSchedule g l a 10 v c e x1 x2 hu1) ⟨⟨wd_707, wd_704, wd_26⟩, ⟨by decide, by decide, by decide⟩, rfl, rfl, Nat.le_of_ble_eq_true rfl, Nat.le_of_ble_eq_true rfl⟩ wd_705 wd_706 ⟨0, 9, _, _, rfl, rfl, rfl⟩ [ccO g a b y z, hiO g a h, hrW g a t, stF g a vs, cdF g a cs, evF g a es] (x_pickD [1, 2, 3, 0, 4, 5, 6, 7, 8] 9 rfl rfl rfl) rfl rfl (Nat.le_of_ble_eq_true rfl) ⟨Nat.le_of_ble_eq_true rfl, Nat.le_of_ble_eq_true rfl⟩ dX9_schedule_6 (x_goD (wss2 := [stO g a 10 v, cdW g a 10 c, evW g a 10 e, ccO g a b y z, hiO g a h, hrW g a t, stF g a vs, cdF g a cs, evF g a es]) (stk2 := [.ref (g.2.2 (100 + u1))]) rfl rfl ?_)
  obtain ⟨u2, hu2, hf⟩ := x_b hf
  refine x_xcallS (n := 1) (As := [.ref (g.2.2 (100 + u1))]) (rest := []) C (c_X9_throwIfRefused g l hl u1 hu2) ⟨⟨wd_599, wd_597, wd_25⟩, ⟨by decide, by decide, by decide⟩, rfl, rfl, Nat.le_of_ble_eq_true rfl, Nat.le_of_ble_eq_true rfl⟩ wd_598 [stO g a 10 v, cdW g a 10 c, evW g a 10 e, ccO g a b y z, hiO g a h, hrW g a t, stF g a vs, cdF g a cs, evF g a es] (x_pickD [0, 1, 2, 3, 4, 5, 6, 7, 8] 9 rfl rfl rfl) rfl rfl (Nat.le_of_ble_eq_true rfl) ⟨Nat.le_of_ble_eq_true rfl, Nat.le_of_ble_eq_true rfl⟩ dX9_schedule_9 (fun E9 w9 hX9 => ?_) (fun v9 w9 hQ9 => ?_)
  · obtain ⟨k9, hk9, rfl, rfl⟩ := hX9
    have hf := x_sl hk9 hf
    refine x_goX (wss2 := [stO g a 10 v, cdW g a 10 c, evW g a 10 e, ccO g a b y z, hiO g a h, hrW g a t, stF g a vs, cdF g a cs, evF g a es]) rfl rfl ?_
    refine x_permX (wss' := [ccO g a b y z, stO g a 10 v, cdW g a 10 c, evW g a 10 e, hiO g a h, hrW g a t, stF g a vs, cdF g a cs, evF g a es]) (x_pick [3, 0, 1, 2, 4, 5, 6, 7, 8] 9 rfl rfl rfl) ?_
    exact x_prop C hout ⟨k9, by cases hf; rfl, rfl, by cases hf; rfl⟩ (Nat.le_of_ble_eq_true rfl) (Nat.le_of_ble_eq_true rfl)
  · obtain ⟨r3, hr9, rfl, rfl⟩ := hQ9
    have hf := x_sr hr9 hf
    refine x_goW (wss2 := [stO g a 10 v, cdW g a 10 c, evW g a 10 e, ccO g a b y z, hiO g a h, hrW g a t, stF g a vs, cdF g a cs, evF g a es]) (stk2 := []) rfl rfl rfl ?_
    refine x_aload_n C dX9_schedule_12 rfl 0 rfl ?_
    refine x_get (ci := 10) (v := .ref (a 90)) (b := ccO g a b y z) C ixX9 rfl 3 (by decide) wd_1003 (fun _ h => h) 3 rfl 0 (ccO_at0 g a b y _) rfl dX9_schedule_13 ?_
    refine x_aload_n C dX9_schedule_16 rfl 0 rfl ?_
    refine x_get (ci := 10) (v := .ref (a (10 + 0))) (b := ccO g a b y z) C ixX9 rfl 0 (by decide) wd_1000 (fun _ h => h) 3 rfl 0 (ccO_at0 g a b y _) rfl dX9_schedule_17 ?_
    obtain ⟨u4, hu4, hf⟩ := x_b hf
    refine x_callV (n := 1) (As := [.ref (a (10 + 0))]) (rest := []) C (c_X4_remember g l a 10 h t vs cs es v c e hu4) ⟨⟨wd_652, wd_649, wd_29⟩, ⟨by decide, by decide, by decide⟩, rfl, rfl, Nat.le_of_ble_eq_true rfl, Nat.le_of_ble_eq_true rfl⟩ wd_650 wd_651 ⟨0, 7, _, _, rfl, rfl, rfl⟩ [ccO g a b y z] (x_pickD [4, 5, 6, 7, 8, 0, 1, 2, 3] 9 rfl rfl rfl) rfl rfl (Nat.le_of_ble_eq_true rfl) ⟨Nat.le_of_ble_eq_true rfl, Nat.le_of_ble_eq_true rfl⟩ dX9_schedule_20 (x_goD (wss2 := [hiO g a u4.1, hrW g a t, stF g a u4.2.1, cdF g a u4.2.2.1, evF g a u4.2.2.2, stO g a 10 v, cdW g a 10 c, evW g a 10 e, ccO g a b y z]) (stk2 := []) rfl rfl ?_)
    refine x_aload_n C dX9_schedule_23 rfl 0 rfl ?_
    refine x_get (ci := 10) (v := .ref (a (10 + 0))) (b := ccO g a b y z) C ixX9 rfl 0 (by decide) wd_1000 (fun _ h => h) 8 rfl 0 (ccO_at0 g a b y _) rfl dX9_schedule_24 ?_
    refine x_get (ci := 9) (v := .ref (a (10 + 6))) (b := stO g a 10 v) C ixX8 rfl 1 (by decide) wd_876 (fun _ h => h) 5 rfl 0 (stO_at0 g a 10 _) rfl dX9_schedule_27 ?_
    refine x_iload_n C dX9_schedule_30 rfl 1 rfl ?_
    refine x_iload_n C dX9_schedule_31 rfl 2 rfl ?_
    refine x_iload_n C dX9_schedule_32 rfl 3 rfl ?_
    obtain ⟨u5, hu5, hf⟩ := x_b hf
    refine x_callV (n := 3) (As := [.int x1, .int x2, .int x3]) (rest := []) C (c_X3_insert g l a 10 e x1 x2 x3 hu5) ⟨⟨wd_717, wd_714, wd_28⟩, ⟨by decide, by decide, by decide⟩, rfl, rfl, Nat.le_of_ble_eq_true rfl, Nat.le_of_ble_eq_true rfl⟩ wd_715 wd_716 ⟨0, 6, _, _, rfl, rfl, rfl⟩ [hiO g a u4.1, hrW g a t, stF g a u4.2.1, cdF g a u4.2.2.1, evF g a u4.2.2.2, stO g a 10 v, cdW g a 10 c, ccO g a b y z] (x_pickD [7, 0, 1, 2, 3, 4, 5, 6, 8] 9 rfl rfl rfl) rfl rfl (Nat.le_of_ble_eq_true rfl) ⟨Nat.le_of_ble_eq_true rfl, Nat.le_of_ble_eq_true rfl⟩ dX9_schedule_33 (x_goD (wss2 := [evW g a 10 u5.2, hiO g a u4.1, hrW g a t, stF g a u4.2.1, cdF g a u4.2.2.1, evF g a u4.2.2.2, stO g a 10 v, cdW g a 10 c, ccO g a b y z]) (stk2 := [.int u5.1]) rfl rfl ?_)
    refine x_perm (wss' := [ccO g a b y z, stO g a 10 v, cdW g a 10 c, evW g a 10 u5.2, hiO g a u4.1, hrW g a t, stF g a u4.2.1, cdF g a u4.2.2.1, evF g a u4.2.2.2]) (x_pick [8, 6, 7, 0, 1, 2, 3, 4, 5] 9 rfl rfl rfl) ?_
    refine x_widen (k := 1) (n := 6) (Nat.le_of_ble_eq_true rfl) (Nat.le_of_ble_eq_true rfl) ?_
    refine x_vx ?_
    exact x_iret C hr ⟨u5.1, by cases hf; rfl, rfl, by cases hf; rfl⟩ dX9_schedule_36
theorem wd_1109 : Cond.methodLink RX9 348 yX3_has ∈ xTB := xTB_in 1109 (by decide +kernel) (by decide +kernel)
theorem dX9_requireEvent_0 : decode cX9_requireEvent 0 = .ok (.aload_n 0, 1) := by decide +kernel
theorem dX9_requireEvent_1 : decode cX9_requireEvent 1 = .ok (.getfield 12, 3) := by decide +kernel
theorem dX9_requireEvent_4 : decode cX9_requireEvent 4 = .ok (.getfield 101, 3) := by decide +kernel
theorem dX9_requireEvent_7 : decode cX9_requireEvent 7 = .ok (.iload_n 1, 1) := by decide +kernel
theorem dX9_requireEvent_8 : decode cX9_requireEvent 8 = .ok (.invokevirtual 348, 3) := by decide +kernel
theorem dX9_requireEvent_11 : decode cX9_requireEvent 11 = .ok (.ifCond .ne 14, 3) := by decide +kernel
theorem dX9_requireEvent_14 : decode cX9_requireEvent 14 = .ok (.new 281, 3) := by decide +kernel
theorem dX9_requireEvent_17 : decode cX9_requireEvent 17 = .ok (.dup, 1) := by decide +kernel
theorem dX9_requireEvent_18 : decode cX9_requireEvent 18 = .ok (.ldc_w 349, 3) := by decide +kernel
theorem dX9_requireEvent_21 : decode cX9_requireEvent 21 = .ok (.invokespecial 285, 3) := by decide +kernel
theorem dX9_requireEvent_24 : decode cX9_requireEvent 24 = .ok (.athrow, 1) := by decide +kernel
theorem dX9_requireEvent_25 : decode cX9_requireEvent 25 = .ok (.return_, 1) := by decide +kernel
set_option maxHeartbeats 4000000 in
set_option maxRecDepth 100000 in
theorem c_X9_requireEvent (g : xG) (l : Launch) (hl : l.stackTraces = false) (a : Nat → Nat) (b : Nat → Nat) (y : Nat) (z : CcT) (v : StS) (e : EvT) (x1 : Int32) {u : (Nat ⊕ Unit)} (hf : f_X9_requireEvent z v e x1 = some u) : ConX g l yX9_requireEvent cX9_requireEvent 2 none ({ frames := 6, cells := 1, slots := 6, locals := 90 } : Room) [.ref (a 0), .int x1] ([ccO g a b y z, stO g a 10 v, evW g a 10 e] : List va_W).flatten (fun v9 w9 => ∃ r9, u = Sum.inr r9 ∧ v9 = none ∧ w9 = ([ccO g a b y z, stO g a 10 v, evW g a 10 e] : List va_W).flatten) (fun e9 w9 => ∃ k9, u = Sum.inl k9 ∧ e9 = xcE k9 ∧ w9 = ([ccO g a b y z, stO g a 10 v, evW g a 10 e] : List va_W).flatten) 1 6 := by
  unfold f_X9_requireEvent at hf
  refine ConX_of [ccO g a b y z, stO g a 10 v, evW g a 10 e] [(0, .ref (a 0)), (1, .int x1)] rfl rfl (by decide) (Nat.le_of_ble_eq_true rfl) ?_
  intro pW eW sW mW argsW belowW methW c9 C hnm hr hout
  have C : CX g RX9 cX9_requireEvent 2 _ pW sW mW argsW methW c9 := C
  refine x_aload_n C dX9_requireEvent_0 rfl 0 rfl ?_
  refine x_get (ci := 10) (v := .ref (a (10 + 0))) (b := ccO g a b y z) C ixX9 rfl 0 (by decide) wd_1000 (fun _ h => h) 0 rfl 0 (ccO_at0 g a b y _) rfl dX9_requireEvent_1 ?_
  refine x_get (ci := 9) (v := .ref (a (10 + 6))) (b := stO g a 10 v) C ixX8 rfl 1 (by decide) wd_876 (fun _ h => h) 1 rfl 0 (stO_at0 g a 10 _) rfl dX9_requireEvent_4 ?_
  refine x_iload_n C dX9_requireEvent_7 rfl 1 rfl ?_
  obtain ⟨u1, hu1, hf⟩ := x_b hf
  refine x_callV (n := 1) (As := [.int x1]) (rest := []) C (c_X3_has g l a 10 e x1 hu1) ⟨⟨wd_207, wd_1109, wd_28⟩, ⟨by decide, by decide, by decide⟩, rfl, rfl, Nat.le_of_ble_eq_true rfl, Nat.le_of_ble_eq_true rfl⟩ wd_205 wd_206 ⟨0, 6, _, _, rfl, rfl, rfl⟩ [ccO g a b y z, stO g a 10 v] (x_pickD [2, 0, 1] 3 rfl rfl rfl) rfl rfl (Nat.le_of_ble_eq_true rfl) ⟨Nat.le_of_ble_eq_true rfl, Nat.le_of_ble_eq_true rfl⟩ dX9_requireEvent_8 (x_goD (wss2 := [evW g a 10 e, ccO g a b y z, stO g a 10 v]) (stk2 := [.int u1]) rfl rfl ?_)
  refine x_if_ne (tgt := 25) C dX9_requireEvent_11 (by decide) (fun h2 => ?_) (fun h2 => ?_)
  · have hf := x_f h2 hf
    refine x_perm (wss' := [ccO g a b y z, stO g a 10 v, evW g a 10 e]) (x_pick [1, 2, 0] 3 rfl rfl rfl) ?_
    refine x_widen (k := 1) (n := 6) (Nat.le_of_ble_eq_true rfl) (Nat.le_of_ble_eq_true rfl) ?_
    refine x_vx ?_
    exact x_vret C hr ⟨(), by cases hf; rfl, rfl, by cases hf; rfl⟩ dX9_requireEvent_25
  · have hf := x_t h2 hf
    refine x_perm (wss' := [ccO g a b y z, stO g a 10 v, evW g a 10 e]) (x_pick [1, 2, 0] 3 rfl rfl rfl) ?_
    exact x_throwSW C hout hl (by decide) wd_71 wd_46 (CX_str C ("CandleConcert", 349, "there is no such event", 10) (by decide)) at_285 og_281_285 dX9_requireEvent_14 dX9_requireEvent_17 dX9_requireEvent_18 dX9_requireEvent_21 dX9_requireEvent_24 ⟨Nat.le_of_ble_eq_true rfl, Nat.le_of_ble_eq_true rfl, Nat.le_of_ble_eq_true rfl, Nat.le_of_ble_eq_true rfl⟩ ⟨2, by cases hf; rfl, rfl, by cases hf; rfl⟩ (Nat.le_of_ble_eq_true rfl) (Nat.le_of_ble_eq_true rfl)
theorem wd_8 : Cond.selects yX9_requireEvent.cls yX9_requireEvent yX9_requireEvent ∈ xTB := xTB_in 8 (by decide +kernel) (by decide +kernel)
theorem wd_862 : Cond.fieldLink RX9 118 "CandleConcert$Events" "count" "I" ∈ xTB := xTB_in 862 (by decide +kernel) (by decide +kernel)
theorem wd_1105 : Cond.methodLink RX9 111 yX9_requireEvent ∈ xTB := xTB_in 1105 (by decide +kernel) (by decide +kernel)
theorem wd_1107 : Cond.instanceMethod yX9_requireEvent ∈ xTB := xTB_in 1107 (by decide +kernel) (by decide +kernel)
theorem wd_1108 : Cond.code yX9_requireEvent cX9_requireEvent 2 none ∈ xTB := xTB_in 1108 (by decide +kernel) (by decide +kernel)
theorem wd_1111 : Cond.methodLink RX9 115 yX3_remove ∈ xTB := xTB_in 1111 (by decide +kernel) (by decide +kernel)
theorem dX9_unschedule_0 : decode cX9_unschedule 0 = .ok (.aload_n 0, 1) := by decide +kernel
theorem dX9_unschedule_1 : decode cX9_unschedule 1 = .ok (.iload_n 1, 1) := by decide +kernel
theorem dX9_unschedule_2 : decode cX9_unschedule 2 = .ok (.invokevirtual 111, 3) := by decide +kernel
theorem dX9_unschedule_5 : decode cX9_unschedule 5 = .ok (.aload_n 0, 1) := by decide +kernel
theorem dX9_unschedule_6 : decode cX9_unschedule 6 = .ok (.getfield 25, 3) := by decide +kernel
theorem dX9_unschedule_9 : decode cX9_unschedule 9 = .ok (.aload_n 0, 1) := by decide +kernel
theorem dX9_unschedule_10 : decode cX9_unschedule 10 = .ok (.getfield 12, 3) := by decide +kernel
theorem dX9_unschedule_13 : decode cX9_unschedule 13 = .ok (.invokevirtual 62, 3) := by decide +kernel
theorem dX9_unschedule_16 : decode cX9_unschedule 16 = .ok (.aload_n 0, 1) := by decide +kernel
theorem dX9_unschedule_17 : decode cX9_unschedule 17 = .ok (.getfield 12, 3) := by decide +kernel
theorem dX9_unschedule_20 : decode cX9_unschedule 20 = .ok (.getfield 101, 3) := by decide +kernel
theorem dX9_unschedule_23 : decode cX9_unschedule 23 = .ok (.iload_n 1, 1) := by decide +kernel
theorem dX9_unschedule_24 : decode cX9_unschedule 24 = .ok (.invokevirtual 115, 3) := by decide +kernel
theorem dX9_unschedule_27 : decode cX9_unschedule 27 = .ok (.aload_n 0, 1) := by decide +kernel
theorem dX9_unschedule_28 : decode cX9_unschedule 28 = .ok (.getfield 12, 3) := by decide +kernel
theorem dX9_unschedule_31 : decode cX9_unschedule 31 = .ok (.getfield 101, 3) := by decide +kernel
theorem dX9_unschedule_34 : decode cX9_unschedule 34 = .ok (.getfield 118, 3) := by decide +kernel
theorem dX9_unschedule_37 : decode cX9_unschedule 37 = .ok (.ireturn, 1) := by decide +kernel
set_option maxHeartbeats 4000000 in
set_option maxRecDepth 100000 in
theorem c_X9_unschedule (g : xG) (l : Launch) (hl : l.stackTraces = false) (a : Nat → Nat) (b : Nat → Nat) (y : Nat) (z : CcT) (v : StS) (c : CdT) (e : EvT) (h : HiT) (t : Unit) (vs : (Nat → StS)) (cs : (Nat → CdT)) (es : (Nat → EvT)) (x1 : Int32) {u : (Nat ⊕ Int32) × EvT × HiT × (Nat → StS) × (Nat → CdT) × (Nat → EvT)} (hf : f_X9_unschedule z v c e h t vs cs es x1 = some u) : ConX g l yX9_unschedule cX9_unschedule 2 (some .int) ({ frames := 7, cells := 1, slots := 6, locals := 111 } : Room) [.ref (a 0), .int x1] ([ccO g a b y z, stO g a 10 v, cdW g a 10 c, evW g a 10 e, hiO g a h, hrW g a t, stF g a vs, cdF g a cs, evF g a es] : List va_W).flatten (fun v9 w9 => ∃ r9, u.1 = Sum.inr r9 ∧ v9 = some (.int r9) ∧ w9 = ([ccO g a b y z, stO g a 10 v, cdW g a 10 c, evW g a 10 u.2.1, hiO g a u.2.2.1, hrW g a t, stF g a u.2.2.2.1, cdF g a u.2.2.2.2.1, evF g a u.2.2.2.2.2] : List va_W).flatten) (fun e9 w9 => ∃ k9, u.1 = Sum.inl k9 ∧ e9 = xcE k9 ∧ w9 = ([ccO g a b y z, stO g a 10 v, cdW g a 10 c, evW g a 10 u.2.1, hiO g a u.2.2.1, hrW g a t, stF g a u.2.2.2.1, cdF g a u.2.2.2.2.1, evF g a u.2.2.2.2.2] : List va_W).flatten) 1 6 := by
  unfold f_X9_unschedule at hf
  refine ConX_of [ccO g a b y z, stO g a 10 v, cdW g a 10 c, evW g a 10 e, hiO g a h, hrW g a t, stF g a vs, cdF g a cs, evF g a es] [(0, .ref (a 0)), (1, .int x1)] rfl rfl (by decide) (Nat.le_of_ble_eq_true rfl) ?_
  intro pW eW sW mW argsW belowW methW c9 C hnm hr hout
  have C : CX g RX9 cX9_unschedule 2 _ pW sW mW argsW methW c9 := C
  refine x_aload_n C dX9_unschedule_0 rfl 0 rfl ?_
  refine x_iload_n C dX9_unschedule_1 rfl 1 rfl ?_
  obtain ⟨u1, hu1, hf⟩ := x_b hf
  refine x_xcallV (n := 1) (As := [.int x1]) (rest := []) C (c_X9_requireEvent g l hl a b y z v e x1 hu1) ⟨⟨wd_1108, wd_1105, wd_25⟩, ⟨by decide, by decide, by decide⟩, rfl, rfl, Nat.le_of_ble_eq_true rfl, Nat.le_of_ble_eq_true rfl⟩ wd_1107 wd_8 ⟨0, 10, _, _, rfl, rfl, rfl⟩ [cdW g a 10 c, hiO g a h, hrW g a t, stF g a vs, cdF g a cs, evF g a es] (x_pickD [0, 1, 3, 2, 4, 5, 6, 7, 8] 9 rfl rfl rfl) rfl rfl (Nat.le_of_ble_eq_true rfl) ⟨Nat.le_of_ble_eq_true rfl, Nat.le_of_ble_eq_true rfl⟩ dX9_unschedule_2 (fun E9 w9 hX9 => ?_) (fun v9 w9 hQ9 => ?_)
  · obtain ⟨k9, hk9, rfl, rfl⟩ := hX9
    have hf := x_sl hk9 hf
    refine x_goX (wss2 := [ccO g a b y z, stO g a 10 v, evW g a 10 e, cdW g a 10 c, hiO g a h, hrW g a t, stF g a vs, cdF g a cs, evF g a es]) rfl rfl ?_
    refine x_permX (wss' := [ccO g a b y z, stO g a 10 v, cdW g a 10 c, evW g a 10 e, hiO g a h, hrW g a t, stF g a vs, cdF g a cs, evF g a es]) (x_pick [0, 1, 3, 2, 4, 5, 6, 7, 8] 9 rfl rfl rfl) ?_
    exact x_prop C hout ⟨k9, by cases hf; rfl, rfl, by cases hf; rfl⟩ (Nat.le_of_ble_eq_true rfl) (Nat.le_of_ble_eq_true rfl)
  · obtain ⟨r2, hr9, rfl, rfl⟩ := hQ9
    have hf := x_sr hr9 hf
    refine x_goW (wss2 := [ccO g a b y z, stO g a 10 v, evW g a 10 e, cdW g a 10 c, hiO g a h, hrW g a t, stF g a vs, cdF g a cs, evF g a es]) (stk2 := []) rfl rfl rfl ?_
    refine x_aload_n C dX9_unschedule_5 rfl 0 rfl ?_
    refine x_get (ci := 10) (v := .ref (a 90)) (b := ccO g a b y z) C ixX9 rfl 3 (by decide) wd_1003 (fun _ h => h) 0 rfl 0 (ccO_at0 g a b y _) rfl dX9_unschedule_6 ?_
    refine x_aload_n C dX9_unschedule_9 rfl 0 rfl ?_
    refine x_get (ci := 10) (v := .ref (a (10 + 0))) (b := ccO g a b y z) C ixX9 rfl 0 (by decide) wd_1000 (fun _ h => h) 0 rfl 0 (ccO_at0 g a b y _) rfl dX9_unschedule_10 ?_
    obtain ⟨u3, hu3, hf⟩ := x_b hf
    refine x_callV (n := 1) (As := [.ref (a (10 + 0))]) (rest := []) C (c_X4_remember g l a 10 h t vs cs es v c e hu3) ⟨⟨wd_652, wd_649, wd_29⟩, ⟨by decide, by decide, by decide⟩, rfl, rfl, Nat.le_of_ble_eq_true rfl, Nat.le_of_ble_eq_true rfl⟩ wd_650 wd_651 ⟨0, 7, _, _, rfl, rfl, rfl⟩ [ccO g a b y z] (x_pickD [4, 5, 6, 7, 8, 1, 3, 2, 0] 9 rfl rfl rfl) rfl rfl (Nat.le_of_ble_eq_true rfl) ⟨Nat.le_of_ble_eq_true rfl, Nat.le_of_ble_eq_true rfl⟩ dX9_unschedule_13 (x_goD (wss2 := [hiO g a u3.1, hrW g a t, stF g a u3.2.1, cdF g a u3.2.2.1, evF g a u3.2.2.2, stO g a 10 v, cdW g a 10 c, evW g a 10 e, ccO g a b y z]) (stk2 := []) rfl rfl ?_)
    refine x_aload_n C dX9_unschedule_16 rfl 0 rfl ?_
    refine x_get (ci := 10) (v := .ref (a (10 + 0))) (b := ccO g a b y z) C ixX9 rfl 0 (by decide) wd_1000 (fun _ h => h) 8 rfl 0 (ccO_at0 g a b y _) rfl dX9_unschedule_17 ?_
    refine x_get (ci := 9) (v := .ref (a (10 + 6))) (b := stO g a 10 v) C ixX8 rfl 1 (by decide) wd_876 (fun _ h => h) 5 rfl 0 (stO_at0 g a 10 _) rfl dX9_unschedule_20 ?_
    refine x_iload_n C dX9_unschedule_23 rfl 1 rfl ?_
    obtain ⟨u4, hu4, hf⟩ := x_b hf
    refine x_callV (n := 1) (As := [.int x1]) (rest := []) C (c_X3_remove g l a 10 e x1 hu4) ⟨⟨wd_203, wd_1111, wd_28⟩, ⟨by decide, by decide, by decide⟩, rfl, rfl, Nat.le_of_ble_eq_true rfl, Nat.le_of_ble_eq_true rfl⟩ wd_201 wd_202 ⟨0, 6, _, _, rfl, rfl, rfl⟩ [hiO g a u3.1, hrW g a t, stF g a u3.2.1, cdF g a u3.2.2.1, evF g a u3.2.2.2, stO g a 10 v, cdW g a 10 c, ccO g a b y z] (x_pickD [7, 0, 1, 2, 3, 4, 5, 6, 8] 9 rfl rfl rfl) rfl rfl (Nat.le_of_ble_eq_true rfl) ⟨Nat.le_of_ble_eq_true rfl, Nat.le_of_ble_eq_true rfl⟩ dX9_unschedule_24 (x_goD (wss2 := [evW g a 10 u4, hiO g a u3.1, hrW g a t, stF g a u3.2.1, cdF g a u3.2.2.1, evF g a u3.2.2.2, stO g a 10 v, cdW g a 10 c, ccO g a b y z]) (stk2 := []) rfl rfl ?_)
    refine x_aload_n C dX9_unschedule_27 rfl 0 rfl ?_
    refine x_get (ci := 10) (v := .ref (a (10 + 0))) (b := ccO g a b y z) C ixX9 rfl 0 (by decide) wd_1000 (fun _ h => h) 8 rfl 0 (ccO_at0 g a b y _) rfl dX9_unschedule_28 ?_
    refine x_get (ci := 9) (v := .ref (a (10 + 6))) (b := stO g a 10 v) C ixX8 rfl 1 (by decide) wd_876 (fun _ h => h) 6 rfl 0 (stO_at0 g a 10 _) rfl dX9_unschedule_31 ?_
    refine x_get (ci := 6) (v := .int u4.2.2.2) (b := evW g a 10 u4) C ixX3 rfl 3 (by decide) wd_862 (fun _ h => h) 0 rfl 0 (evW_at0 g a 10 _) rfl dX9_unschedule_34 ?_
    refine x_perm (wss' := [ccO g a b y z, stO g a 10 v, cdW g a 10 c, evW g a 10 u4, hiO g a u3.1, hrW g a t, stF g a u3.2.1, cdF g a u3.2.2.1, evF g a u3.2.2.2]) (x_pick [8, 6, 7, 0, 1, 2, 3, 4, 5] 9 rfl rfl rfl) ?_
    refine x_widen (k := 1) (n := 6) (Nat.le_of_ble_eq_true rfl) (Nat.le_of_ble_eq_true rfl) ?_
    refine x_vx ?_
    exact x_iret C hr ⟨u4.2.2.2, by cases hf; rfl, rfl, by cases hf; rfl⟩ dX9_unschedule_37
theorem wd_726 : Cond.methodLink RX9 121 yX8_refusalToPass ∈ xTB := xTB_in 726 (by decide +kernel) (by decide +kernel)
theorem wd_727 : Cond.instanceMethod yX8_refusalToPass ∈ xTB := xTB_in 727 (by decide +kernel) (by decide +kernel)
theorem wd_728 : Cond.selects yX8_refusalToPass.cls yX8_refusalToPass yX8_refusalToPass ∈ xTB := xTB_in 728 (by decide +kernel) (by decide +kernel)
theorem wd_729 : Cond.code yX8_refusalToPass cX8_refusalToPass 2 (some (.object "CandleConcert$Refusal")) ∈ xTB := xTB_in 729 (by decide +kernel) (by decide +kernel)
theorem wd_730 : Cond.methodLink RX9 124 yX8_passMinutes ∈ xTB := xTB_in 730 (by decide +kernel) (by decide +kernel)
theorem wd_731 : Cond.instanceMethod yX8_passMinutes ∈ xTB := xTB_in 731 (by decide +kernel) (by decide +kernel)
theorem wd_732 : Cond.selects yX8_passMinutes.cls yX8_passMinutes yX8_passMinutes ∈ xTB := xTB_in 732 (by decide +kernel) (by decide +kernel)
theorem wd_733 : Cond.code yX8_passMinutes cX8_passMinutes 4 (some .int) ∈ xTB := xTB_in 733 (by decide +kernel) (by decide +kernel)
theorem dX9_pass_0 : decode cX9_pass 0 = .ok (.aload_n 0, 1) := by decide +kernel
theorem dX9_pass_1 : decode cX9_pass 1 = .ok (.getfield 12, 3) := by decide +kernel
theorem dX9_pass_4 : decode cX9_pass 4 = .ok (.iload_n 1, 1) := by decide +kernel
theorem dX9_pass_5 : decode cX9_pass 5 = .ok (.invokevirtual 121, 3) := by decide +kernel
theorem dX9_pass_8 : decode cX9_pass 8 = .ok (.invokestatic 58, 3) := by decide +kernel
theorem dX9_pass_11 : decode cX9_pass 11 = .ok (.aload_n 0, 1) := by decide +kernel
theorem dX9_pass_12 : decode cX9_pass 12 = .ok (.getfield 25, 3) := by decide +kernel
theorem dX9_pass_15 : decode cX9_pass 15 = .ok (.aload_n 0, 1) := by decide +kernel
theorem dX9_pass_16 : decode cX9_pass 16 = .ok (.getfield 12, 3) := by decide +kernel
theorem dX9_pass_19 : decode cX9_pass 19 = .ok (.invokevirtual 62, 3) := by decide +kernel
theorem dX9_pass_22 : decode cX9_pass 22 = .ok (.aload_n 0, 1) := by decide +kernel
theorem dX9_pass_23 : decode cX9_pass 23 = .ok (.getfield 12, 3) := by decide +kernel
theorem dX9_pass_26 : decode cX9_pass 26 = .ok (.iload_n 1, 1) := by decide +kernel
theorem dX9_pass_27 : decode cX9_pass 27 = .ok (.invokevirtual 124, 3) := by decide +kernel
theorem dX9_pass_30 : decode cX9_pass 30 = .ok (.ireturn, 1) := by decide +kernel
set_option maxHeartbeats 4000000 in
set_option maxRecDepth 100000 in
theorem c_X9_pass (g : xG) (l : Launch) (hl : l.stackTraces = false) (a : Nat → Nat) (b : Nat → Nat) (y : Nat) (z : CcT) (v : StS) (c : CdT) (e : EvT) (h : HiT) (t : Unit) (vs : (Nat → StS)) (cs : (Nat → CdT)) (es : (Nat → EvT)) (x1 : Int32) {u : (Nat ⊕ Int32) × StS × CdT × EvT × HiT × (Nat → StS) × (Nat → CdT) × (Nat → EvT)} (hf : f_X9_pass z v c e h t vs cs es x1 = some u) : ConX g l yX9_pass cX9_pass 2 (some .int) ({ frames := 7, cells := 1, slots := 6, locals := 110 } : Room) [.ref (a 0), .int x1] ([ccO g a b y z, stO g a 10 v, cdW g a 10 c, evW g a 10 e, hiO g a h, hrW g a t, stF g a vs, cdF g a cs, evF g a es] : List va_W).flatten (fun v9 w9 => ∃ r9, u.1 = Sum.inr r9 ∧ v9 = some (.int r9) ∧ w9 = ([ccO g a b y z, stO g a 10 u.2.1, cdW g a 10 u.2.2.1, evW g a 10 u.2.2.2.1, hiO g a u.2.2.2.2.1, hrW g a t, stF g a u.2.2.2.2.2.1, cdF g a u.2.2.2.2.2.2.1, evF g a u.2.2.2.2.2.2.2] : List va_W).flatten) (fun e9 w9 => ∃ k9, u.1 = Sum.inl k9 ∧ e9 = xcE k9 ∧ w9 = ([ccO g a b y z, stO g a 10 u.2.1, cdW g a 10 u.2.2.1, evW g a 10 u.2.2.2.1, hiO g a u.2.2.2.2.1, hrW g a t, stF g a u.2.2.2.2.2.1, cdF g a u.2.2.2.2.2.2.1, evF g a u.2.2.2.2.2.2.2] : List va_W).flatten) 1 6 := by
  unfold f_X9_pass at hf
  refine ConX_of [ccO g a b y z, stO g a 10 v, cdW g a 10 c, evW g a 10 e, hiO g a h, hrW g a t, stF g a vs, cdF g a cs, evF g a es] [(0, .ref (a 0)), (1, .int x1)] rfl rfl (by decide) (Nat.le_of_ble_eq_true rfl) ?_
  intro pW eW sW mW argsW belowW methW c9 C hnm hr hout
  have C : CX g RX9 cX9_pass 2 _ pW sW mW argsW methW c9 := C
  refine x_aload_n C dX9_pass_0 rfl 0 rfl ?_
  refine x_get (ci := 10) (v := .ref (a (10 + 0))) (b := ccO g a b y z) C ixX9 rfl 0 (by decide) wd_1000 (fun _ h => h) 0 rfl 0 (ccO_at0 g a b y _) rfl dX9_pass_1 ?_
  refine x_iload_n C dX9_pass_4 rfl 1 rfl ?_
  obtain ⟨u1, hu1, hf⟩ := x_b hf
  refine x_callV (n := 1) (As := [.int x1]) (rest := []) C (c_X8_refusalToPass g l a 10 v x1 hu1) ⟨⟨wd_729, wd_726, wd_26⟩, ⟨by decide, by decide, by decide⟩, rfl, rfl, Nat.le_of_ble_eq_true rfl, Nat.le_of_ble_eq_true rfl⟩ wd_727 wd_728 ⟨0, 9, _, _, rfl, rfl, rfl⟩ [ccO g a b y z, cdW g a 10 c, evW g a 10 e, hiO g a h, hrW g a t, stF g a vs, cdF g a cs, evF g a es] (x_pickD [1, 0, 2, 3, 4, 5, 6, 7, 8] 9 rfl rfl rfl) rfl rfl (Nat.le_of_ble_eq_true rfl) ⟨Nat.le_of_ble_eq_true rfl, Nat.le_of_ble_eq_true rfl⟩ dX9_pass_5 (x_goD (wss2 := [stO g a 10 v, ccO g a b y z, cdW g a 10 c, evW g a 10 e, hiO g a h, hrW g a t, stF g a vs, cdF g a cs, evF g a es]) (stk2 := [.ref (g.2.2 (100 + u1))]) rfl rfl ?_)
  obtain ⟨u2, hu2, hf⟩ := x_b hf
  refine x_xcallS (n := 1) (As := [.ref (g.2.2 (100 + u1))]) (rest := []) C (c_X9_throwIfRefused g l hl u1 hu2) ⟨⟨wd_599, wd_597, wd_25⟩, ⟨by decide, by decide, by decide⟩, rfl, rfl, Nat.le_of_ble_eq_true rfl, Nat.le_of_ble_eq_true rfl⟩ wd_598 [stO g a 10 v, ccO g a b y z, cdW g a 10 c, evW g a 10 e, hiO g a h, hrW g a t, stF g a vs, cdF g a cs, evF g a es] (x_pickD [0, 1, 2, 3, 4, 5, 6, 7, 8] 9 rfl rfl rfl) rfl rfl (Nat.le_of_ble_eq_true rfl) ⟨Nat.le_of_ble_eq_true rfl, Nat.le_of_ble_eq_true rfl⟩ dX9_pass_8 (fun E9 w9 hX9 => ?_) (fun v9 w9 hQ9 => ?_)
  · obtain ⟨k9, hk9, rfl, rfl⟩ := hX9
    have hf := x_sl hk9 hf
    refine x_goX (wss2 := [stO g a 10 v, ccO g a b y z, cdW g a 10 c, evW g a 10 e, hiO g a h, hrW g a t, stF g a vs, cdF g a cs, evF g a es]) rfl rfl ?_
    refine x_permX (wss' := [ccO g a b y z, stO g a 10 v, cdW g a 10 c, evW g a 10 e, hiO g a h, hrW g a t, stF g a vs, cdF g a cs, evF g a es]) (x_pick [1, 0, 2, 3, 4, 5, 6, 7, 8] 9 rfl rfl rfl) ?_
    exact x_prop C hout ⟨k9, by cases hf; rfl, rfl, by cases hf; rfl⟩ (Nat.le_of_ble_eq_true rfl) (Nat.le_of_ble_eq_true rfl)
  · obtain ⟨r3, hr9, rfl, rfl⟩ := hQ9
    have hf := x_sr hr9 hf
    refine x_goW (wss2 := [stO g a 10 v, ccO g a b y z, cdW g a 10 c, evW g a 10 e, hiO g a h, hrW g a t, stF g a vs, cdF g a cs, evF g a es]) (stk2 := []) rfl rfl rfl ?_
    refine x_aload_n C dX9_pass_11 rfl 0 rfl ?_
    refine x_get (ci := 10) (v := .ref (a 90)) (b := ccO g a b y z) C ixX9 rfl 3 (by decide) wd_1003 (fun _ h => h) 1 rfl 0 (ccO_at0 g a b y _) rfl dX9_pass_12 ?_
    refine x_aload_n C dX9_pass_15 rfl 0 rfl ?_
    refine x_get (ci := 10) (v := .ref (a (10 + 0))) (b := ccO g a b y z) C ixX9 rfl 0 (by decide) wd_1000 (fun _ h => h) 1 rfl 0 (ccO_at0 g a b y _) rfl dX9_pass_16 ?_
    obtain ⟨u4, hu4, hf⟩ := x_b hf
    refine x_callV (n := 1) (As := [.ref (a (10 + 0))]) (rest := []) C (c_X4_remember g l a 10 h t vs cs es v c e hu4) ⟨⟨wd_652, wd_649, wd_29⟩, ⟨by decide, by decide, by decide⟩, rfl, rfl, Nat.le_of_ble_eq_true rfl, Nat.le_of_ble_eq_true rfl⟩ wd_650 wd_651 ⟨0, 7, _, _, rfl, rfl, rfl⟩ [ccO g a b y z] (x_pickD [4, 5, 6, 7, 8, 0, 2, 3, 1] 9 rfl rfl rfl) rfl rfl (Nat.le_of_ble_eq_true rfl) ⟨Nat.le_of_ble_eq_true rfl, Nat.le_of_ble_eq_true rfl⟩ dX9_pass_19 (x_goD (wss2 := [hiO g a u4.1, hrW g a t, stF g a u4.2.1, cdF g a u4.2.2.1, evF g a u4.2.2.2, stO g a 10 v, cdW g a 10 c, evW g a 10 e, ccO g a b y z]) (stk2 := []) rfl rfl ?_)
    refine x_aload_n C dX9_pass_22 rfl 0 rfl ?_
    refine x_get (ci := 10) (v := .ref (a (10 + 0))) (b := ccO g a b y z) C ixX9 rfl 0 (by decide) wd_1000 (fun _ h => h) 8 rfl 0 (ccO_at0 g a b y _) rfl dX9_pass_23 ?_
    refine x_iload_n C dX9_pass_26 rfl 1 rfl ?_
    obtain ⟨u5, hu5, hf⟩ := x_b hf
    refine x_callV (n := 1) (As := [.int x1]) (rest := []) C (c_X8_passMinutes g l a 10 v c e x1 hu5) ⟨⟨wd_733, wd_730, wd_26⟩, ⟨by decide, by decide, by decide⟩, rfl, rfl, Nat.le_of_ble_eq_true rfl, Nat.le_of_ble_eq_true rfl⟩ wd_731 wd_732 ⟨0, 9, _, _, rfl, rfl, rfl⟩ [hiO g a u4.1, hrW g a t, stF g a u4.2.1, cdF g a u4.2.2.1, evF g a u4.2.2.2, ccO g a b y z] (x_pickD [5, 6, 7, 0, 1, 2, 3, 4, 8] 9 rfl rfl rfl) rfl rfl (Nat.le_of_ble_eq_true rfl) ⟨Nat.le_of_ble_eq_true rfl, Nat.le_of_ble_eq_true rfl⟩ dX9_pass_27 (x_goD (wss2 := [stO g a 10 u5.2.1, cdW g a 10 u5.2.2.1, evW g a 10 u5.2.2.2, hiO g a u4.1, hrW g a t, stF g a u4.2.1, cdF g a u4.2.2.1, evF g a u4.2.2.2, ccO g a b y z]) (stk2 := [.int u5.1]) rfl rfl ?_)
    refine x_perm (wss' := [ccO g a b y z, stO g a 10 u5.2.1, cdW g a 10 u5.2.2.1, evW g a 10 u5.2.2.2, hiO g a u4.1, hrW g a t, stF g a u4.2.1, cdF g a u4.2.2.1, evF g a u4.2.2.2]) (x_pick [8, 0, 1, 2, 3, 4, 5, 6, 7] 9 rfl rfl rfl) ?_
    refine x_widen (k := 1) (n := 6) (Nat.le_of_ble_eq_true rfl) (Nat.le_of_ble_eq_true rfl) ?_
    refine x_vx ?_
    exact x_iret C hr ⟨u5.1, by cases hf; rfl, rfl, by cases hf; rfl⟩ dX9_pass_30
theorem wd_832 : Cond.fieldLink RX9 131 "CandleConcert$Candles" "count" "I" ∈ xTB := xTB_in 832 (by decide +kernel) (by decide +kernel)
theorem wd_874 : Cond.fieldLink RX9 127 "CandleConcert$State" "candles" "LCandleConcert$Candles;" ∈ xTB := xTB_in 874 (by decide +kernel) (by decide +kernel)
theorem dX9_candles_0 : decode cX9_candles 0 = .ok (.aload_n 0, 1) := by decide +kernel
theorem dX9_candles_1 : decode cX9_candles 1 = .ok (.getfield 12, 3) := by decide +kernel
theorem dX9_candles_4 : decode cX9_candles 4 = .ok (.getfield 127, 3) := by decide +kernel
theorem dX9_candles_7 : decode cX9_candles 7 = .ok (.getfield 131, 3) := by decide +kernel
theorem dX9_candles_10 : decode cX9_candles 10 = .ok (.ireturn, 1) := by decide +kernel
set_option maxHeartbeats 4000000 in
set_option maxRecDepth 100000 in
theorem c_X9_candles (g : xG) (l : Launch) (a : Nat → Nat) (b : Nat → Nat) (y : Nat) (z : CcT) (v : StS) (c : CdT)  {u : Int32} (hf : f_X9_candles z v c = some u) : ConD g l yX9_candles cX9_candles 1 (some .int) ({ frames := 0, cells := 0, slots := 0, locals := 0 } : Room) [.ref (a 0)] [ccO g a b y z, stO g a 10 v, cdW g a 10 c] (some (.int u)) [ccO g a b y z, stO g a 10 v, cdW g a 10 c] := by
  unfold f_X9_candles at hf
  refine Con_of [ccO g a b y z, stO g a 10 v, cdW g a 10 c] [(0, .ref (a 0))] rfl rfl (by decide) (Nat.le_of_ble_eq_true rfl) ?_
  intro pW eW sW mW argsW belowW methW c9 C hnm hr
  have C : CX g RX9 cX9_candles 1 _ pW sW mW argsW methW c9 := C
  refine x_aload_n C dX9_candles_0 rfl 0 rfl ?_
  refine x_get (ci := 10) (v := .ref (a (10 + 0))) (b := ccO g a b y z) C ixX9 rfl 0 (by decide) wd_1000 (fun _ h => h) 0 rfl 0 (ccO_at0 g a b y _) rfl dX9_candles_1 ?_
  refine x_get (ci := 9) (v := .ref (a (10 + 1))) (b := stO g a 10 v) C ixX8 rfl 0 (by decide) wd_874 (fun _ h => h) 1 rfl 0 (stO_at0 g a 10 _) rfl dX9_candles_4 ?_
  refine x_get (ci := 4) (v := .int c.2.2.2.2) (b := cdW g a 10 c) C ixX1 rfl 4 (by decide) wd_832 (fun _ h => h) 2 rfl 0 (cdW_at0 g a 10 _) rfl dX9_candles_7 ?_
  exact x_iret C hr ⟨by cases hf; rfl, by cases hf; rfl⟩ dX9_candles_10
theorem wd_67 : Cond.methodLink RX9 177 yX1_has ∈ xTB := xTB_in 67 (by decide +kernel) (by decide +kernel)
theorem dX9_requireCandle_0 : decode cX9_requireCandle 0 = .ok (.aload_n 0, 1) := by decide +kernel
theorem dX9_requireCandle_1 : decode cX9_requireCandle 1 = .ok (.getfield 12, 3) := by decide +kernel
theorem dX9_requireCandle_4 : decode cX9_requireCandle 4 = .ok (.getfield 127, 3) := by decide +kernel
theorem dX9_requireCandle_7 : decode cX9_requireCandle 7 = .ok (.iload_n 1, 1) := by decide +kernel
theorem dX9_requireCandle_8 : decode cX9_requireCandle 8 = .ok (.invokevirtual 177, 3) := by decide +kernel
theorem dX9_requireCandle_11 : decode cX9_requireCandle 11 = .ok (.ifCond .ne 14, 3) := by decide +kernel
theorem dX9_requireCandle_14 : decode cX9_requireCandle 14 = .ok (.new 281, 3) := by decide +kernel
theorem dX9_requireCandle_17 : decode cX9_requireCandle 17 = .ok (.dup, 1) := by decide +kernel
theorem dX9_requireCandle_18 : decode cX9_requireCandle 18 = .ok (.ldc_w 346, 3) := by decide +kernel
theorem dX9_requireCandle_21 : decode cX9_requireCandle 21 = .ok (.invokespecial 285, 3) := by decide +kernel
theorem dX9_requireCandle_24 : decode cX9_requireCandle 24 = .ok (.athrow, 1) := by decide +kernel
theorem dX9_requireCandle_25 : decode cX9_requireCandle 25 = .ok (.return_, 1) := by decide +kernel
set_option maxHeartbeats 4000000 in
set_option maxRecDepth 100000 in
theorem c_X9_requireCandle (g : xG) (l : Launch) (hl : l.stackTraces = false) (a : Nat → Nat) (b : Nat → Nat) (y : Nat) (z : CcT) (v : StS) (c : CdT) (x1 : Int32) {u : (Nat ⊕ Unit)} (hf : f_X9_requireCandle z v c x1 = some u) : ConX g l yX9_requireCandle cX9_requireCandle 2 none ({ frames := 6, cells := 1, slots := 6, locals := 90 } : Room) [.ref (a 0), .int x1] ([ccO g a b y z, stO g a 10 v, cdW g a 10 c] : List va_W).flatten (fun v9 w9 => ∃ r9, u = Sum.inr r9 ∧ v9 = none ∧ w9 = ([ccO g a b y z, stO g a 10 v, cdW g a 10 c] : List va_W).flatten) (fun e9 w9 => ∃ k9, u = Sum.inl k9 ∧ e9 = xcE k9 ∧ w9 = ([ccO g a b y z, stO g a 10 v, cdW g a 10 c] : List va_W).flatten) 1 6 := by
  unfold f_X9_requireCandle at hf
  refine ConX_of [ccO g a b y z, stO g a 10 v, cdW g a 10 c] [(0, .ref (a 0)), (1, .int x1)] rfl rfl (by decide) (Nat.le_of_ble_eq_true rfl) ?_
  intro pW eW sW mW argsW belowW methW c9 C hnm hr hout
  have C : CX g RX9 cX9_requireCandle 2 _ pW sW mW argsW methW c9 := C
  refine x_aload_n C dX9_requireCandle_0 rfl 0 rfl ?_
  refine x_get (ci := 10) (v := .ref (a (10 + 0))) (b := ccO g a b y z) C ixX9 rfl 0 (by decide) wd_1000 (fun _ h => h) 0 rfl 0 (ccO_at0 g a b y _) rfl dX9_requireCandle_1 ?_
  refine x_get (ci := 9) (v := .ref (a (10 + 1))) (b := stO g a 10 v) C ixX8 rfl 0 (by decide) wd_874 (fun _ h => h) 1 rfl 0 (stO_at0 g a 10 _) rfl dX9_requireCandle_4 ?_
  refine x_iload_n C dX9_requireCandle_7 rfl 1 rfl ?_
  obtain ⟨u1, hu1, hf⟩ := x_b hf
  refine x_callV (n := 1) (As := [.int x1]) (rest := []) C (c_X1_has g l a 10 c x1 hu1) ⟨⟨wd_70, wd_67, wd_27⟩, ⟨by decide, by decide, by decide⟩, rfl, rfl, Nat.le_of_ble_eq_true rfl, Nat.le_of_ble_eq_true rfl⟩ wd_68 wd_69 ⟨0, 4, _, _, rfl, rfl, rfl⟩ [ccO g a b y z, stO g a 10 v] (x_pickD [2, 0, 1] 3 rfl rfl rfl) rfl rfl (Nat.le_of_ble_eq_true rfl) ⟨Nat.le_of_ble_eq_true rfl, Nat.le_of_ble_eq_true rfl⟩ dX9_requireCandle_8 (x_goD (wss2 := [cdW g a 10 c, ccO g a b y z, stO g a 10 v]) (stk2 := [.int u1]) rfl rfl ?_)
  refine x_if_ne (tgt := 25) C dX9_requireCandle_11 (by decide) (fun h2 => ?_) (fun h2 => ?_)
  · have hf := x_f h2 hf
    refine x_perm (wss' := [ccO g a b y z, stO g a 10 v, cdW g a 10 c]) (x_pick [1, 2, 0] 3 rfl rfl rfl) ?_
    refine x_widen (k := 1) (n := 6) (Nat.le_of_ble_eq_true rfl) (Nat.le_of_ble_eq_true rfl) ?_
    refine x_vx ?_
    exact x_vret C hr ⟨(), by cases hf; rfl, rfl, by cases hf; rfl⟩ dX9_requireCandle_25
  · have hf := x_t h2 hf
    refine x_perm (wss' := [ccO g a b y z, stO g a 10 v, cdW g a 10 c]) (x_pick [1, 2, 0] 3 rfl rfl rfl) ?_
    exact x_throwSW C hout hl (by decide) wd_71 wd_46 (CX_str C ("CandleConcert", 346, "there is no such candle", 2) (by decide)) at_285 og_281_285 dX9_requireCandle_14 dX9_requireCandle_17 dX9_requireCandle_18 dX9_requireCandle_21 dX9_requireCandle_24 ⟨Nat.le_of_ble_eq_true rfl, Nat.le_of_ble_eq_true rfl, Nat.le_of_ble_eq_true rfl, Nat.le_of_ble_eq_true rfl⟩ ⟨2, by cases hf; rfl, rfl, by cases hf; rfl⟩ (Nat.le_of_ble_eq_true rfl) (Nat.le_of_ble_eq_true rfl)
theorem wd_0 : Cond.selects yX9_requireCandle.cls yX9_requireCandle yX9_requireCandle ∈ xTB := xTB_in 0 (by decide +kernel) (by decide +kernel)
theorem wd_62 : Cond.methodLink RX9 134 yX9_requireCandle ∈ xTB := xTB_in 62 (by decide +kernel) (by decide +kernel)
theorem wd_64 : Cond.instanceMethod yX9_requireCandle ∈ xTB := xTB_in 64 (by decide +kernel) (by decide +kernel)
theorem wd_66 : Cond.code yX9_requireCandle cX9_requireCandle 2 none ∈ xTB := xTB_in 66 (by decide +kernel) (by decide +kernel)
theorem wd_821 : Cond.fieldLink RX9 137 "CandleConcert$Candles" "voice" "[C" ∈ xTB := xTB_in 821 (by decide +kernel) (by decide +kernel)
theorem dX9_voice_0 : decode cX9_voice 0 = .ok (.aload_n 0, 1) := by decide +kernel
theorem dX9_voice_1 : decode cX9_voice 1 = .ok (.iload_n 1, 1) := by decide +kernel
theorem dX9_voice_2 : decode cX9_voice 2 = .ok (.invokevirtual 134, 3) := by decide +kernel
theorem dX9_voice_5 : decode cX9_voice 5 = .ok (.aload_n 0, 1) := by decide +kernel
theorem dX9_voice_6 : decode cX9_voice 6 = .ok (.getfield 12, 3) := by decide +kernel
theorem dX9_voice_9 : decode cX9_voice 9 = .ok (.getfield 127, 3) := by decide +kernel
theorem dX9_voice_12 : decode cX9_voice 12 = .ok (.getfield 137, 3) := by decide +kernel
theorem dX9_voice_15 : decode cX9_voice 15 = .ok (.iload_n 1, 1) := by decide +kernel
theorem dX9_voice_16 : decode cX9_voice 16 = .ok (.caload, 1) := by decide +kernel
theorem dX9_voice_17 : decode cX9_voice 17 = .ok (.ireturn, 1) := by decide +kernel
set_option maxHeartbeats 4000000 in
set_option maxRecDepth 100000 in
theorem c_X9_voice (g : xG) (l : Launch) (hl : l.stackTraces = false) (a : Nat → Nat) (b : Nat → Nat) (y : Nat) (z : CcT) (v : StS) (c : CdT) (x1 : Int32) {u : (Nat ⊕ Int32)} (hf : f_X9_voice z v c x1 = some u) : ConX g l yX9_voice cX9_voice 2 (some .char) ({ frames := 7, cells := 1, slots := 6, locals := 111 } : Room) [.ref (a 0), .int x1] ([ccO g a b y z, stO g a 10 v, cdW g a 10 c] : List va_W).flatten (fun v9 w9 => ∃ r9, u = Sum.inr r9 ∧ v9 = some (.int r9) ∧ w9 = ([ccO g a b y z, stO g a 10 v, cdW g a 10 c] : List va_W).flatten) (fun e9 w9 => ∃ k9, u = Sum.inl k9 ∧ e9 = xcE k9 ∧ w9 = ([ccO g a b y z, stO g a 10 v, cdW g a 10 c] : List va_W).flatten) 1 6 := by
  unfold f_X9_voice at hf
  refine ConX_of [ccO g a b y z, stO g a 10 v, cdW g a 10 c] [(0, .ref (a 0)), (1, .int x1)] rfl rfl (by decide) (Nat.le_of_ble_eq_true rfl) ?_
  intro pW eW sW mW argsW belowW methW c9 C hnm hr hout
  have C : CX g RX9 cX9_voice 2 _ pW sW mW argsW methW c9 := C
  refine x_aload_n C dX9_voice_0 rfl 0 rfl ?_
  refine x_iload_n C dX9_voice_1 rfl 1 rfl ?_
  obtain ⟨u1, hu1, hf⟩ := x_b hf
  refine x_xcallV (n := 1) (As := [.int x1]) (rest := []) C (c_X9_requireCandle g l hl a b y z v c x1 hu1) ⟨⟨wd_66, wd_62, wd_25⟩, ⟨by decide, by decide, by decide⟩, rfl, rfl, Nat.le_of_ble_eq_true rfl, Nat.le_of_ble_eq_true rfl⟩ wd_64 wd_0 ⟨0, 10, _, _, rfl, rfl, rfl⟩ [] (x_pickD [0, 1, 2] 3 rfl rfl rfl) rfl rfl (Nat.le_of_ble_eq_true rfl) ⟨Nat.le_of_ble_eq_true rfl, Nat.le_of_ble_eq_true rfl⟩ dX9_voice_2 (fun E9 w9 hX9 => ?_) (fun v9 w9 hQ9 => ?_)
  · obtain ⟨k9, hk9, rfl, rfl⟩ := hX9
    have hf := x_sl hk9 hf
    refine x_goX (wss2 := [ccO g a b y z, stO g a 10 v, cdW g a 10 c]) rfl rfl ?_
    exact x_prop C hout ⟨k9, by cases hf; rfl, rfl, by cases hf; rfl⟩ (Nat.le_of_ble_eq_true rfl) (Nat.le_of_ble_eq_true rfl)
  · obtain ⟨r2, hr9, rfl, rfl⟩ := hQ9
    have hf := x_sr hr9 hf
    refine x_goW (wss2 := [ccO g a b y z, stO g a 10 v, cdW g a 10 c]) (stk2 := []) rfl rfl rfl ?_
    refine x_aload_n C dX9_voice_5 rfl 0 rfl ?_
    refine x_get (ci := 10) (v := .ref (a (10 + 0))) (b := ccO g a b y z) C ixX9 rfl 0 (by decide) wd_1000 (fun _ h => h) 0 rfl 0 (ccO_at0 g a b y _) rfl dX9_voice_6 ?_
    refine x_get (ci := 9) (v := .ref (a (10 + 1))) (b := stO g a 10 v) C ixX8 rfl 0 (by decide) wd_874 (fun _ h => h) 1 rfl 0 (stO_at0 g a 10 _) rfl dX9_voice_9 ?_
    refine x_get (ci := 4) (v := .ref (a (10 + 2))) (b := cdW g a 10 c) C ixX1 rfl 0 (by decide) wd_821 (fun _ h => h) 2 rfl 0 (cdW_at0 g a 10 _) rfl dX9_voice_12 ?_
    refine x_iload_n C dX9_voice_15 rfl 1 rfl ?_
    obtain ⟨h3, hf⟩ := x_n hf
    refine x_cald (b := cdW g a 10 c) C 2 rfl 1 (cdW_at1 g a 10 _) h3 dX9_voice_16 ?_
    obtain ⟨h4, hf⟩ := x_y hf
    refine x_widen (k := 1) (n := 6) (Nat.le_of_ble_eq_true rfl) (Nat.le_of_ble_eq_true rfl) ?_
    refine x_vx ?_
    exact x_zret C hr (x_narC h4).1 ⟨c.1 x1.toNatClampNeg, by cases hf; rfl, rfl, by cases hf; rfl⟩ dX9_voice_17
theorem wd_824 : Cond.fieldLink RX9 141 "CandleConcert$Candles" "wax" "[I" ∈ xTB := xTB_in 824 (by decide +kernel) (by decide +kernel)
theorem dX9_wax_0 : decode cX9_wax 0 = .ok (.aload_n 0, 1) := by decide +kernel
theorem dX9_wax_1 : decode cX9_wax 1 = .ok (.iload_n 1, 1) := by decide +kernel
theorem dX9_wax_2 : decode cX9_wax 2 = .ok (.invokevirtual 134, 3) := by decide +kernel
theorem dX9_wax_5 : decode cX9_wax 5 = .ok (.aload_n 0, 1) := by decide +kernel
theorem dX9_wax_6 : decode cX9_wax 6 = .ok (.getfield 12, 3) := by decide +kernel
theorem dX9_wax_9 : decode cX9_wax 9 = .ok (.getfield 127, 3) := by decide +kernel
theorem dX9_wax_12 : decode cX9_wax 12 = .ok (.getfield 141, 3) := by decide +kernel
theorem dX9_wax_15 : decode cX9_wax 15 = .ok (.iload_n 1, 1) := by decide +kernel
theorem dX9_wax_16 : decode cX9_wax 16 = .ok (.iaload, 1) := by decide +kernel
theorem dX9_wax_17 : decode cX9_wax 17 = .ok (.ireturn, 1) := by decide +kernel
set_option maxHeartbeats 4000000 in
set_option maxRecDepth 100000 in
theorem c_X9_wax (g : xG) (l : Launch) (hl : l.stackTraces = false) (a : Nat → Nat) (b : Nat → Nat) (y : Nat) (z : CcT) (v : StS) (c : CdT) (x1 : Int32) {u : (Nat ⊕ Int32)} (hf : f_X9_wax z v c x1 = some u) : ConX g l yX9_wax cX9_wax 2 (some .int) ({ frames := 7, cells := 1, slots := 6, locals := 111 } : Room) [.ref (a 0), .int x1] ([ccO g a b y z, stO g a 10 v, cdW g a 10 c] : List va_W).flatten (fun v9 w9 => ∃ r9, u = Sum.inr r9 ∧ v9 = some (.int r9) ∧ w9 = ([ccO g a b y z, stO g a 10 v, cdW g a 10 c] : List va_W).flatten) (fun e9 w9 => ∃ k9, u = Sum.inl k9 ∧ e9 = xcE k9 ∧ w9 = ([ccO g a b y z, stO g a 10 v, cdW g a 10 c] : List va_W).flatten) 1 6 := by
  unfold f_X9_wax at hf
  refine ConX_of [ccO g a b y z, stO g a 10 v, cdW g a 10 c] [(0, .ref (a 0)), (1, .int x1)] rfl rfl (by decide) (Nat.le_of_ble_eq_true rfl) ?_
  intro pW eW sW mW argsW belowW methW c9 C hnm hr hout
  have C : CX g RX9 cX9_wax 2 _ pW sW mW argsW methW c9 := C
  refine x_aload_n C dX9_wax_0 rfl 0 rfl ?_
  refine x_iload_n C dX9_wax_1 rfl 1 rfl ?_
  obtain ⟨u1, hu1, hf⟩ := x_b hf
  refine x_xcallV (n := 1) (As := [.int x1]) (rest := []) C (c_X9_requireCandle g l hl a b y z v c x1 hu1) ⟨⟨wd_66, wd_62, wd_25⟩, ⟨by decide, by decide, by decide⟩, rfl, rfl, Nat.le_of_ble_eq_true rfl, Nat.le_of_ble_eq_true rfl⟩ wd_64 wd_0 ⟨0, 10, _, _, rfl, rfl, rfl⟩ [] (x_pickD [0, 1, 2] 3 rfl rfl rfl) rfl rfl (Nat.le_of_ble_eq_true rfl) ⟨Nat.le_of_ble_eq_true rfl, Nat.le_of_ble_eq_true rfl⟩ dX9_wax_2 (fun E9 w9 hX9 => ?_) (fun v9 w9 hQ9 => ?_)
  · obtain ⟨k9, hk9, rfl, rfl⟩ := hX9
    have hf := x_sl hk9 hf
    refine x_goX (wss2 := [ccO g a b y z, stO g a 10 v, cdW g a 10 c]) rfl rfl ?_
    exact x_prop C hout ⟨k9, by cases hf; rfl, rfl, by cases hf; rfl⟩ (Nat.le_of_ble_eq_true rfl) (Nat.le_of_ble_eq_true rfl)
  · obtain ⟨r2, hr9, rfl, rfl⟩ := hQ9
    have hf := x_sr hr9 hf
    refine x_goW (wss2 := [ccO g a b y z, stO g a 10 v, cdW g a 10 c]) (stk2 := []) rfl rfl rfl ?_
    refine x_aload_n C dX9_wax_5 rfl 0 rfl ?_
    refine x_get (ci := 10) (v := .ref (a (10 + 0))) (b := ccO g a b y z) C ixX9 rfl 0 (by decide) wd_1000 (fun _ h => h) 0 rfl 0 (ccO_at0 g a b y _) rfl dX9_wax_6 ?_
    refine x_get (ci := 9) (v := .ref (a (10 + 1))) (b := stO g a 10 v) C ixX8 rfl 0 (by decide) wd_874 (fun _ h => h) 1 rfl 0 (stO_at0 g a 10 _) rfl dX9_wax_9 ?_
    refine x_get (ci := 4) (v := .ref (a (10 + 3))) (b := cdW g a 10 c) C ixX1 rfl 1 (by decide) wd_824 (fun _ h => h) 2 rfl 0 (cdW_at0 g a 10 _) rfl dX9_wax_12 ?_
    refine x_iload_n C dX9_wax_15 rfl 1 rfl ?_
    obtain ⟨h3, hf⟩ := x_n hf
    refine x_iald (b := cdW g a 10 c) C 2 rfl 2 (cdW_at2 g a 10 _) h3 dX9_wax_16 ?_
    refine x_widen (k := 1) (n := 6) (Nat.le_of_ble_eq_true rfl) (Nat.le_of_ble_eq_true rfl) ?_
    refine x_vx ?_
    exact x_iret C hr ⟨c.2.1 x1.toNatClampNeg, by cases hf; rfl, rfl, by cases hf; rfl⟩ dX9_wax_17
theorem wd_563 : Cond.methodLink RX9 145 yX8_consumptionOf ∈ xTB := xTB_in 563 (by decide +kernel) (by decide +kernel)
theorem dX9_consumption_0 : decode cX9_consumption 0 = .ok (.aload_n 0, 1) := by decide +kernel
theorem dX9_consumption_1 : decode cX9_consumption 1 = .ok (.iload_n 1, 1) := by decide +kernel
theorem dX9_consumption_2 : decode cX9_consumption 2 = .ok (.invokevirtual 134, 3) := by decide +kernel
theorem dX9_consumption_5 : decode cX9_consumption 5 = .ok (.aload_n 0, 1) := by decide +kernel
theorem dX9_consumption_6 : decode cX9_consumption 6 = .ok (.getfield 12, 3) := by decide +kernel
theorem dX9_consumption_9 : decode cX9_consumption 9 = .ok (.iload_n 1, 1) := by decide +kernel
theorem dX9_consumption_10 : decode cX9_consumption 10 = .ok (.invokevirtual 145, 3) := by decide +kernel
theorem dX9_consumption_13 : decode cX9_consumption 13 = .ok (.ireturn, 1) := by decide +kernel
set_option maxHeartbeats 4000000 in
set_option maxRecDepth 100000 in
theorem c_X9_consumption (g : xG) (l : Launch) (hl : l.stackTraces = false) (a : Nat → Nat) (b : Nat → Nat) (y : Nat) (z : CcT) (v : StS) (c : CdT) (x1 : Int32) {u : (Nat ⊕ Int32)} (hf : f_X9_consumption z v c x1 = some u) : ConX g l yX9_consumption cX9_consumption 2 (some .int) ({ frames := 7, cells := 1, slots := 6, locals := 111 } : Room) [.ref (a 0), .int x1] ([ccO g a b y z, stO g a 10 v, cdW g a 10 c] : List va_W).flatten (fun v9 w9 => ∃ r9, u = Sum.inr r9 ∧ v9 = some (.int r9) ∧ w9 = ([ccO g a b y z, stO g a 10 v, cdW g a 10 c] : List va_W).flatten) (fun e9 w9 => ∃ k9, u = Sum.inl k9 ∧ e9 = xcE k9 ∧ w9 = ([ccO g a b y z, stO g a 10 v, cdW g a 10 c] : List va_W).flatten) 1 6 := by
  unfold f_X9_consumption at hf
  refine ConX_of [ccO g a b y z, stO g a 10 v, cdW g a 10 c] [(0, .ref (a 0)), (1, .int x1)] rfl rfl (by decide) (Nat.le_of_ble_eq_true rfl) ?_
  intro pW eW sW mW argsW belowW methW c9 C hnm hr hout
  have C : CX g RX9 cX9_consumption 2 _ pW sW mW argsW methW c9 := C
  refine x_aload_n C dX9_consumption_0 rfl 0 rfl ?_
  refine x_iload_n C dX9_consumption_1 rfl 1 rfl ?_
  obtain ⟨u1, hu1, hf⟩ := x_b hf
  refine x_xcallV (n := 1) (As := [.int x1]) (rest := []) C (c_X9_requireCandle g l hl a b y z v c x1 hu1) ⟨⟨wd_66, wd_62, wd_25⟩, ⟨by decide, by decide, by decide⟩, rfl, rfl, Nat.le_of_ble_eq_true rfl, Nat.le_of_ble_eq_true rfl⟩ wd_64 wd_0 ⟨0, 10, _, _, rfl, rfl, rfl⟩ [] (x_pickD [0, 1, 2] 3 rfl rfl rfl) rfl rfl (Nat.le_of_ble_eq_true rfl) ⟨Nat.le_of_ble_eq_true rfl, Nat.le_of_ble_eq_true rfl⟩ dX9_consumption_2 (fun E9 w9 hX9 => ?_) (fun v9 w9 hQ9 => ?_)
  · obtain ⟨k9, hk9, rfl, rfl⟩ := hX9
    have hf := x_sl hk9 hf
    refine x_goX (wss2 := [ccO g a b y z, stO g a 10 v, cdW g a 10 c]) rfl rfl ?_
    exact x_prop C hout ⟨k9, by cases hf; rfl, rfl, by cases hf; rfl⟩ (Nat.le_of_ble_eq_true rfl) (Nat.le_of_ble_eq_true rfl)
  · obtain ⟨r2, hr9, rfl, rfl⟩ := hQ9
    have hf := x_sr hr9 hf
    refine x_goW (wss2 := [ccO g a b y z, stO g a 10 v, cdW g a 10 c]) (stk2 := []) rfl rfl rfl ?_
    refine x_aload_n C dX9_consumption_5 rfl 0 rfl ?_
    refine x_get (ci := 10) (v := .ref (a (10 + 0))) (b := ccO g a b y z) C ixX9 rfl 0 (by decide) wd_1000 (fun _ h => h) 0 rfl 0 (ccO_at0 g a b y _) rfl dX9_consumption_6 ?_
    refine x_iload_n C dX9_consumption_9 rfl 1 rfl ?_
    obtain ⟨u3, hu3, hf⟩ := x_b hf
    refine x_callV (n := 1) (As := [.int x1]) (rest := []) C (c_X8_consumptionOf g l a 10 v c x1 hu3) ⟨⟨wd_152, wd_563, wd_26⟩, ⟨by decide, by decide, by decide⟩, rfl, rfl, Nat.le_of_ble_eq_true rfl, Nat.le_of_ble_eq_true rfl⟩ wd_150 wd_151 ⟨0, 9, _, _, rfl, rfl, rfl⟩ [ccO g a b y z] (x_pickD [1, 2, 0] 3 rfl rfl rfl) rfl rfl (Nat.le_of_ble_eq_true rfl) ⟨Nat.le_of_ble_eq_true rfl, Nat.le_of_ble_eq_true rfl⟩ dX9_consumption_10 (x_goD (wss2 := [stO g a 10 v, cdW g a 10 c, ccO g a b y z]) (stk2 := [.int u3]) rfl rfl ?_)
    refine x_perm (wss' := [ccO g a b y z, stO g a 10 v, cdW g a 10 c]) (x_pick [2, 0, 1] 3 rfl rfl rfl) ?_
    refine x_widen (k := 1) (n := 6) (Nat.le_of_ble_eq_true rfl) (Nat.le_of_ble_eq_true rfl) ?_
    refine x_vx ?_
    exact x_iret C hr ⟨u3, by cases hf; rfl, rfl, by cases hf; rfl⟩ dX9_consumption_13
theorem wd_829 : Cond.fieldLink RX9 148 "CandleConcert$Candles" "lit" "[Z" ∈ xTB := xTB_in 829 (by decide +kernel) (by decide +kernel)
theorem dX9_isLit_0 : decode cX9_isLit 0 = .ok (.aload_n 0, 1) := by decide +kernel
theorem dX9_isLit_1 : decode cX9_isLit 1 = .ok (.iload_n 1, 1) := by decide +kernel
theorem dX9_isLit_2 : decode cX9_isLit 2 = .ok (.invokevirtual 134, 3) := by decide +kernel
theorem dX9_isLit_5 : decode cX9_isLit 5 = .ok (.aload_n 0, 1) := by decide +kernel
theorem dX9_isLit_6 : decode cX9_isLit 6 = .ok (.getfield 12, 3) := by decide +kernel
theorem dX9_isLit_9 : decode cX9_isLit 9 = .ok (.getfield 127, 3) := by decide +kernel
theorem dX9_isLit_12 : decode cX9_isLit 12 = .ok (.getfield 148, 3) := by decide +kernel
theorem dX9_isLit_15 : decode cX9_isLit 15 = .ok (.iload_n 1, 1) := by decide +kernel
theorem dX9_isLit_16 : decode cX9_isLit 16 = .ok (.baload, 1) := by decide +kernel
theorem dX9_isLit_17 : decode cX9_isLit 17 = .ok (.ireturn, 1) := by decide +kernel
set_option maxHeartbeats 4000000 in
set_option maxRecDepth 100000 in
theorem c_X9_isLit (g : xG) (l : Launch) (hl : l.stackTraces = false) (a : Nat → Nat) (b : Nat → Nat) (y : Nat) (z : CcT) (v : StS) (c : CdT) (x1 : Int32) {u : (Nat ⊕ Int32)} (hf : f_X9_isLit z v c x1 = some u) : ConX g l yX9_isLit cX9_isLit 2 (some .boolean) ({ frames := 7, cells := 1, slots := 6, locals := 111 } : Room) [.ref (a 0), .int x1] ([ccO g a b y z, stO g a 10 v, cdW g a 10 c] : List va_W).flatten (fun v9 w9 => ∃ r9, u = Sum.inr r9 ∧ v9 = some (.int r9) ∧ w9 = ([ccO g a b y z, stO g a 10 v, cdW g a 10 c] : List va_W).flatten) (fun e9 w9 => ∃ k9, u = Sum.inl k9 ∧ e9 = xcE k9 ∧ w9 = ([ccO g a b y z, stO g a 10 v, cdW g a 10 c] : List va_W).flatten) 1 6 := by
  unfold f_X9_isLit at hf
  refine ConX_of [ccO g a b y z, stO g a 10 v, cdW g a 10 c] [(0, .ref (a 0)), (1, .int x1)] rfl rfl (by decide) (Nat.le_of_ble_eq_true rfl) ?_
  intro pW eW sW mW argsW belowW methW c9 C hnm hr hout
  have C : CX g RX9 cX9_isLit 2 _ pW sW mW argsW methW c9 := C
  refine x_aload_n C dX9_isLit_0 rfl 0 rfl ?_
  refine x_iload_n C dX9_isLit_1 rfl 1 rfl ?_
  obtain ⟨u1, hu1, hf⟩ := x_b hf
  refine x_xcallV (n := 1) (As := [.int x1]) (rest := []) C (c_X9_requireCandle g l hl a b y z v c x1 hu1) ⟨⟨wd_66, wd_62, wd_25⟩, ⟨by decide, by decide, by decide⟩, rfl, rfl, Nat.le_of_ble_eq_true rfl, Nat.le_of_ble_eq_true rfl⟩ wd_64 wd_0 ⟨0, 10, _, _, rfl, rfl, rfl⟩ [] (x_pickD [0, 1, 2] 3 rfl rfl rfl) rfl rfl (Nat.le_of_ble_eq_true rfl) ⟨Nat.le_of_ble_eq_true rfl, Nat.le_of_ble_eq_true rfl⟩ dX9_isLit_2 (fun E9 w9 hX9 => ?_) (fun v9 w9 hQ9 => ?_)
  · obtain ⟨k9, hk9, rfl, rfl⟩ := hX9
    have hf := x_sl hk9 hf
    refine x_goX (wss2 := [ccO g a b y z, stO g a 10 v, cdW g a 10 c]) rfl rfl ?_
    exact x_prop C hout ⟨k9, by cases hf; rfl, rfl, by cases hf; rfl⟩ (Nat.le_of_ble_eq_true rfl) (Nat.le_of_ble_eq_true rfl)
  · obtain ⟨r2, hr9, rfl, rfl⟩ := hQ9
    have hf := x_sr hr9 hf
    refine x_goW (wss2 := [ccO g a b y z, stO g a 10 v, cdW g a 10 c]) (stk2 := []) rfl rfl rfl ?_
    refine x_aload_n C dX9_isLit_5 rfl 0 rfl ?_
    refine x_get (ci := 10) (v := .ref (a (10 + 0))) (b := ccO g a b y z) C ixX9 rfl 0 (by decide) wd_1000 (fun _ h => h) 0 rfl 0 (ccO_at0 g a b y _) rfl dX9_isLit_6 ?_
    refine x_get (ci := 9) (v := .ref (a (10 + 1))) (b := stO g a 10 v) C ixX8 rfl 0 (by decide) wd_874 (fun _ h => h) 1 rfl 0 (stO_at0 g a 10 _) rfl dX9_isLit_9 ?_
    refine x_get (ci := 4) (v := .ref (a (10 + 5))) (b := cdW g a 10 c) C ixX1 rfl 3 (by decide) wd_829 (fun _ h => h) 2 rfl 0 (cdW_at0 g a 10 _) rfl dX9_isLit_12 ?_
    refine x_iload_n C dX9_isLit_15 rfl 1 rfl ?_
    obtain ⟨h3, hf⟩ := x_n hf
    refine x_zald (b := cdW g a 10 c) C 2 rfl 4 (cdW_at4 g a 10 _) h3 dX9_isLit_16 ?_
    obtain ⟨h4, hf⟩ := x_y hf
    refine x_widen (k := 1) (n := 6) (Nat.le_of_ble_eq_true rfl) (Nat.le_of_ble_eq_true rfl) ?_
    refine x_vx ?_
    exact x_zret C hr (x_narZ h4).1 ⟨c.2.2.2.1 x1.toNatClampNeg, by cases hf; rfl, rfl, by cases hf; rfl⟩ dX9_isLit_17
theorem wd_1350 : Cond.methodLink RX9 152 yX1_countLit ∈ xTB := xTB_in 1350 (by decide +kernel) (by decide +kernel)
theorem dX9_litCandles_0 : decode cX9_litCandles 0 = .ok (.aload_n 0, 1) := by decide +kernel
theorem dX9_litCandles_1 : decode cX9_litCandles 1 = .ok (.getfield 12, 3) := by decide +kernel
theorem dX9_litCandles_4 : decode cX9_litCandles 4 = .ok (.getfield 127, 3) := by decide +kernel
theorem dX9_litCandles_7 : decode cX9_litCandles 7 = .ok (.invokevirtual 152, 3) := by decide +kernel
theorem dX9_litCandles_10 : decode cX9_litCandles 10 = .ok (.ireturn, 1) := by decide +kernel
set_option maxHeartbeats 4000000 in
set_option maxRecDepth 100000 in
theorem c_X9_litCandles (g : xG) (l : Launch) (a : Nat → Nat) (b : Nat → Nat) (y : Nat) (z : CcT) (v : StS) (c : CdT)  {u : Int32} (hf : f_X9_litCandles z v c = some u) : ConD g l yX9_litCandles cX9_litCandles 1 (some .int) ({ frames := 1, cells := 0, slots := 0, locals := 22 } : Room) [.ref (a 0)] [ccO g a b y z, stO g a 10 v, cdW g a 10 c] (some (.int u)) [ccO g a b y z, stO g a 10 v, cdW g a 10 c] := by
  unfold f_X9_litCandles at hf
  refine Con_of [ccO g a b y z, stO g a 10 v, cdW g a 10 c] [(0, .ref (a 0))] rfl rfl (by decide) (Nat.le_of_ble_eq_true rfl) ?_
  intro pW eW sW mW argsW belowW methW c9 C hnm hr
  have C : CX g RX9 cX9_litCandles 1 _ pW sW mW argsW methW c9 := C
  refine x_aload_n C dX9_litCandles_0 rfl 0 rfl ?_
  refine x_get (ci := 10) (v := .ref (a (10 + 0))) (b := ccO g a b y z) C ixX9 rfl 0 (by decide) wd_1000 (fun _ h => h) 0 rfl 0 (ccO_at0 g a b y _) rfl dX9_litCandles_1 ?_
  refine x_get (ci := 9) (v := .ref (a (10 + 1))) (b := stO g a 10 v) C ixX8 rfl 0 (by decide) wd_874 (fun _ h => h) 1 rfl 0 (stO_at0 g a 10 _) rfl dX9_litCandles_4 ?_
  obtain ⟨u1, hu1, hf⟩ := x_b hf
  refine x_callV (n := 0) (As := []) (rest := []) C (c_X1_countLit g l a 10 c hu1) ⟨⟨wd_181, wd_1350, wd_27⟩, ⟨by decide, by decide, by decide⟩, rfl, rfl, Nat.le_of_ble_eq_true rfl, Nat.le_of_ble_eq_true rfl⟩ wd_179 wd_180 ⟨0, 4, _, _, rfl, rfl, rfl⟩ [ccO g a b y z, stO g a 10 v] (x_pickD [2, 0, 1] 3 rfl rfl rfl) rfl rfl (Nat.le_of_ble_eq_true rfl) ⟨Nat.le_of_ble_eq_true rfl, Nat.le_of_ble_eq_true rfl⟩ dX9_litCandles_7 (x_goD (wss2 := [cdW g a 10 c, ccO g a b y z, stO g a 10 v]) (stk2 := [.int u1]) rfl rfl ?_)
  refine x_perm (wss' := [ccO g a b y z, stO g a 10 v, cdW g a 10 c]) (x_pick [1, 2, 0] 3 rfl rfl rfl) ?_
  exact x_iret C hr ⟨by cases hf; rfl, by cases hf; rfl⟩ dX9_litCandles_10
theorem wd_1333 : Cond.methodLink RX9 156 yX9_isVoice ∈ xTB := xTB_in 1333 (by decide +kernel) (by decide +kernel)
theorem wd_1334 : Cond.methodLink RX9 167 yX1_countLitOf ∈ xTB := xTB_in 1334 (by decide +kernel) (by decide +kernel)
theorem dX9_sounding_0 : decode cX9_sounding 0 = .ok (.iload_n 1, 1) := by decide +kernel
theorem dX9_sounding_1 : decode cX9_sounding 1 = .ok (.invokestatic 156, 3) := by decide +kernel
theorem dX9_sounding_4 : decode cX9_sounding 4 = .ok (.ifCond .ne 13, 3) := by decide +kernel
theorem dX9_sounding_7 : decode cX9_sounding 7 = .ok (.new 160, 3) := by decide +kernel
theorem dX9_sounding_10 : decode cX9_sounding 10 = .ok (.dup, 1) := by decide +kernel
theorem dX9_sounding_11 : decode cX9_sounding 11 = .ok (.ldc 162, 2) := by decide +kernel
theorem dX9_sounding_13 : decode cX9_sounding 13 = .ok (.invokespecial 164, 3) := by decide +kernel
theorem dX9_sounding_16 : decode cX9_sounding 16 = .ok (.athrow, 1) := by decide +kernel
theorem dX9_sounding_17 : decode cX9_sounding 17 = .ok (.aload_n 0, 1) := by decide +kernel
theorem dX9_sounding_18 : decode cX9_sounding 18 = .ok (.getfield 12, 3) := by decide +kernel
theorem dX9_sounding_21 : decode cX9_sounding 21 = .ok (.getfield 127, 3) := by decide +kernel
theorem dX9_sounding_24 : decode cX9_sounding 24 = .ok (.iload_n 1, 1) := by decide +kernel
theorem dX9_sounding_25 : decode cX9_sounding 25 = .ok (.invokevirtual 167, 3) := by decide +kernel
theorem dX9_sounding_28 : decode cX9_sounding 28 = .ok (.ireturn, 1) := by decide +kernel
set_option maxHeartbeats 4000000 in
set_option maxRecDepth 100000 in
theorem c_X9_sounding (g : xG) (l : Launch) (hl : l.stackTraces = false) (a : Nat → Nat) (b : Nat → Nat) (y : Nat) (z : CcT) (v : StS) (c : CdT) (x1 : Int32) {u : (Nat ⊕ Int32)} (hf : f_X9_sounding z v c x1 = some u) : ConX g l yX9_sounding cX9_sounding 2 (some .int) ({ frames := 6, cells := 1, slots := 6, locals := 90 } : Room) [.ref (a 0), .int x1] ([ccO g a b y z, stO g a 10 v, cdW g a 10 c] : List va_W).flatten (fun v9 w9 => ∃ r9, u = Sum.inr r9 ∧ v9 = some (.int r9) ∧ w9 = ([ccO g a b y z, stO g a 10 v, cdW g a 10 c] : List va_W).flatten) (fun e9 w9 => ∃ k9, u = Sum.inl k9 ∧ e9 = xcE k9 ∧ w9 = ([ccO g a b y z, stO g a 10 v, cdW g a 10 c] : List va_W).flatten) 1 6 := by
  unfold f_X9_sounding at hf
  refine ConX_of [ccO g a b y z, stO g a 10 v, cdW g a 10 c] [(0, .ref (a 0)), (1, .int x1)] rfl rfl (by decide) (Nat.le_of_ble_eq_true rfl) ?_
  intro pW eW sW mW argsW belowW methW c9 C hnm hr hout
  have C : CX g RX9 cX9_sounding 2 _ pW sW mW argsW methW c9 := C
  refine x_iload_n C dX9_sounding_0 rfl 1 rfl ?_
  obtain ⟨u1, hu1, hf⟩ := x_b hf
  refine x_callS (n := 1) (As := [.int x1]) (rest := []) C (c_X9_isVoice g l x1 hu1) ⟨⟨wd_1057, wd_1333, wd_25⟩, ⟨by decide, by decide, by decide⟩, rfl, rfl, Nat.le_of_ble_eq_true rfl, Nat.le_of_ble_eq_true rfl⟩ wd_1056 [ccO g a b y z, stO g a 10 v, cdW g a 10 c] (x_pickD [0, 1, 2] 3 rfl rfl rfl) rfl rfl (Nat.le_of_ble_eq_true rfl) ⟨Nat.le_of_ble_eq_true rfl, Nat.le_of_ble_eq_true rfl⟩ dX9_sounding_1 (x_goD (wss2 := [ccO g a b y z, stO g a 10 v, cdW g a 10 c]) (stk2 := [.int u1]) rfl rfl ?_)
  refine x_if_ne (tgt := 17) C dX9_sounding_4 (by decide) (fun h2 => ?_) (fun h2 => ?_)
  · have hf := x_f h2 hf
    refine x_aload_n C dX9_sounding_17 rfl 0 rfl ?_
    refine x_get (ci := 10) (v := .ref (a (10 + 0))) (b := ccO g a b y z) C ixX9 rfl 0 (by decide) wd_1000 (fun _ h => h) 0 rfl 0 (ccO_at0 g a b y _) rfl dX9_sounding_18 ?_
    refine x_get (ci := 9) (v := .ref (a (10 + 1))) (b := stO g a 10 v) C ixX8 rfl 0 (by decide) wd_874 (fun _ h => h) 1 rfl 0 (stO_at0 g a 10 _) rfl dX9_sounding_21 ?_
    refine x_iload_n C dX9_sounding_24 rfl 1 rfl ?_
    obtain ⟨u3, hu3, hf⟩ := x_b hf
    refine x_callV (n := 1) (As := [.int x1]) (rest := []) C (c_X1_countLitOf g l a 10 c x1 hu3) ⟨⟨wd_1337, wd_1334, wd_27⟩, ⟨by decide, by decide, by decide⟩, rfl, rfl, Nat.le_of_ble_eq_true rfl, Nat.le_of_ble_eq_true rfl⟩ wd_1335 wd_1336 ⟨0, 4, _, _, rfl, rfl, rfl⟩ [ccO g a b y z, stO g a 10 v] (x_pickD [2, 0, 1] 3 rfl rfl rfl) rfl rfl (Nat.le_of_ble_eq_true rfl) ⟨Nat.le_of_ble_eq_true rfl, Nat.le_of_ble_eq_true rfl⟩ dX9_sounding_25 (x_goD (wss2 := [cdW g a 10 c, ccO g a b y z, stO g a 10 v]) (stk2 := [.int u3]) rfl rfl ?_)
    refine x_perm (wss' := [ccO g a b y z, stO g a 10 v, cdW g a 10 c]) (x_pick [1, 2, 0] 3 rfl rfl rfl) ?_
    refine x_widen (k := 1) (n := 6) (Nat.le_of_ble_eq_true rfl) (Nat.le_of_ble_eq_true rfl) ?_
    refine x_vx ?_
    exact x_iret C hr ⟨u3, by cases hf; rfl, rfl, by cases hf; rfl⟩ dX9_sounding_28
  · have hf := x_t h2 hf
    exact x_throwS C hout hl (by decide) wd_608 wd_45 (CX_str C ("CandleConcert", 162, "there is no such voice", 0) (by decide)) at_164 og_160_164 dX9_sounding_7 dX9_sounding_10 dX9_sounding_11 dX9_sounding_13 dX9_sounding_16 ⟨Nat.le_of_ble_eq_true rfl, Nat.le_of_ble_eq_true rfl, Nat.le_of_ble_eq_true rfl, Nat.le_of_ble_eq_true rfl⟩ ⟨0, by cases hf; rfl, rfl, by cases hf; rfl⟩ (Nat.le_of_ble_eq_true rfl) (Nat.le_of_ble_eq_true rfl)
theorem wd_145 : Cond.methodLink RX9 171 yX8_minutesLeftOf ∈ xTB := xTB_in 145 (by decide +kernel) (by decide +kernel)
theorem dX9_minutesLeft_0 : decode cX9_minutesLeft 0 = .ok (.aload_n 0, 1) := by decide +kernel
theorem dX9_minutesLeft_1 : decode cX9_minutesLeft 1 = .ok (.iload_n 1, 1) := by decide +kernel
theorem dX9_minutesLeft_2 : decode cX9_minutesLeft 2 = .ok (.invokevirtual 134, 3) := by decide +kernel
theorem dX9_minutesLeft_5 : decode cX9_minutesLeft 5 = .ok (.aload_n 0, 1) := by decide +kernel
theorem dX9_minutesLeft_6 : decode cX9_minutesLeft 6 = .ok (.getfield 12, 3) := by decide +kernel
theorem dX9_minutesLeft_9 : decode cX9_minutesLeft 9 = .ok (.iload_n 1, 1) := by decide +kernel
theorem dX9_minutesLeft_10 : decode cX9_minutesLeft 10 = .ok (.invokevirtual 171, 3) := by decide +kernel
theorem dX9_minutesLeft_13 : decode cX9_minutesLeft 13 = .ok (.ireturn, 1) := by decide +kernel
set_option maxHeartbeats 4000000 in
set_option maxRecDepth 100000 in
theorem c_X9_minutesLeft (g : xG) (l : Launch) (hl : l.stackTraces = false) (a : Nat → Nat) (b : Nat → Nat) (y : Nat) (z : CcT) (v : StS) (c : CdT) (x1 : Int32) {u : (Nat ⊕ Int32)} (hf : f_X9_minutesLeft z v c x1 = some u) : ConX g l yX9_minutesLeft cX9_minutesLeft 2 (some .int) ({ frames := 7, cells := 1, slots := 6, locals := 111 } : Room) [.ref (a 0), .int x1] ([ccO g a b y z, stO g a 10 v, cdW g a 10 c] : List va_W).flatten (fun v9 w9 => ∃ r9, u = Sum.inr r9 ∧ v9 = some (.int r9) ∧ w9 = ([ccO g a b y z, stO g a 10 v, cdW g a 10 c] : List va_W).flatten) (fun e9 w9 => ∃ k9, u = Sum.inl k9 ∧ e9 = xcE k9 ∧ w9 = ([ccO g a b y z, stO g a 10 v, cdW g a 10 c] : List va_W).flatten) 1 6 := by
  unfold f_X9_minutesLeft at hf
  refine ConX_of [ccO g a b y z, stO g a 10 v, cdW g a 10 c] [(0, .ref (a 0)), (1, .int x1)] rfl rfl (by decide) (Nat.le_of_ble_eq_true rfl) ?_
  intro pW eW sW mW argsW belowW methW c9 C hnm hr hout
  have C : CX g RX9 cX9_minutesLeft 2 _ pW sW mW argsW methW c9 := C
  refine x_aload_n C dX9_minutesLeft_0 rfl 0 rfl ?_
  refine x_iload_n C dX9_minutesLeft_1 rfl 1 rfl ?_
  obtain ⟨u1, hu1, hf⟩ := x_b hf
  refine x_xcallV (n := 1) (As := [.int x1]) (rest := []) C (c_X9_requireCandle g l hl a b y z v c x1 hu1) ⟨⟨wd_66, wd_62, wd_25⟩, ⟨by decide, by decide, by decide⟩, rfl, rfl, Nat.le_of_ble_eq_true rfl, Nat.le_of_ble_eq_true rfl⟩ wd_64 wd_0 ⟨0, 10, _, _, rfl, rfl, rfl⟩ [] (x_pickD [0, 1, 2] 3 rfl rfl rfl) rfl rfl (Nat.le_of_ble_eq_true rfl) ⟨Nat.le_of_ble_eq_true rfl, Nat.le_of_ble_eq_true rfl⟩ dX9_minutesLeft_2 (fun E9 w9 hX9 => ?_) (fun v9 w9 hQ9 => ?_)
  · obtain ⟨k9, hk9, rfl, rfl⟩ := hX9
    have hf := x_sl hk9 hf
    refine x_goX (wss2 := [ccO g a b y z, stO g a 10 v, cdW g a 10 c]) rfl rfl ?_
    exact x_prop C hout ⟨k9, by cases hf; rfl, rfl, by cases hf; rfl⟩ (Nat.le_of_ble_eq_true rfl) (Nat.le_of_ble_eq_true rfl)
  · obtain ⟨r2, hr9, rfl, rfl⟩ := hQ9
    have hf := x_sr hr9 hf
    refine x_goW (wss2 := [ccO g a b y z, stO g a 10 v, cdW g a 10 c]) (stk2 := []) rfl rfl rfl ?_
    refine x_aload_n C dX9_minutesLeft_5 rfl 0 rfl ?_
    refine x_get (ci := 10) (v := .ref (a (10 + 0))) (b := ccO g a b y z) C ixX9 rfl 0 (by decide) wd_1000 (fun _ h => h) 0 rfl 0 (ccO_at0 g a b y _) rfl dX9_minutesLeft_6 ?_
    refine x_iload_n C dX9_minutesLeft_9 rfl 1 rfl ?_
    obtain ⟨u3, hu3, hf⟩ := x_b hf
    refine x_callV (n := 1) (As := [.int x1]) (rest := []) C (c_X8_minutesLeftOf g l a 10 v c x1 hu3) ⟨⟨wd_148, wd_145, wd_26⟩, ⟨by decide, by decide, by decide⟩, rfl, rfl, Nat.le_of_ble_eq_true rfl, Nat.le_of_ble_eq_true rfl⟩ wd_146 wd_147 ⟨0, 9, _, _, rfl, rfl, rfl⟩ [ccO g a b y z] (x_pickD [1, 2, 0] 3 rfl rfl rfl) rfl rfl (Nat.le_of_ble_eq_true rfl) ⟨Nat.le_of_ble_eq_true rfl, Nat.le_of_ble_eq_true rfl⟩ dX9_minutesLeft_10 (x_goD (wss2 := [stO g a 10 v, cdW g a 10 c, ccO g a b y z]) (stk2 := [.int u3]) rfl rfl ?_)
    refine x_perm (wss' := [ccO g a b y z, stO g a 10 v, cdW g a 10 c]) (x_pick [2, 0, 1] 3 rfl rfl rfl) ?_
    refine x_widen (k := 1) (n := 6) (Nat.le_of_ble_eq_true rfl) (Nat.le_of_ble_eq_true rfl) ?_
    refine x_vx ?_
    exact x_iret C hr ⟨u3, by cases hf; rfl, rfl, by cases hf; rfl⟩ dX9_minutesLeft_13
theorem wd_1324 : Cond.methodLink RX9 174 yX8_minutesOfBurning ∈ xTB := xTB_in 1324 (by decide +kernel) (by decide +kernel)
theorem wd_1325 : Cond.instanceMethod yX8_minutesOfBurning ∈ xTB := xTB_in 1325 (by decide +kernel) (by decide +kernel)
theorem wd_1326 : Cond.selects yX8_minutesOfBurning.cls yX8_minutesOfBurning yX8_minutesOfBurning ∈ xTB := xTB_in 1326 (by decide +kernel) (by decide +kernel)
theorem wd_1327 : Cond.code yX8_minutesOfBurning cX8_minutesOfBurning 4 (some .int) ∈ xTB := xTB_in 1327 (by decide +kernel) (by decide +kernel)
theorem dX9_minutesLeftByBurning_0 : decode cX9_minutesLeftByBurning 0 = .ok (.aload_n 0, 1) := by decide +kernel
theorem dX9_minutesLeftByBurning_1 : decode cX9_minutesLeftByBurning 1 = .ok (.iload_n 1, 1) := by decide +kernel
theorem dX9_minutesLeftByBurning_2 : decode cX9_minutesLeftByBurning 2 = .ok (.invokevirtual 134, 3) := by decide +kernel
theorem dX9_minutesLeftByBurning_5 : decode cX9_minutesLeftByBurning 5 = .ok (.aload_n 0, 1) := by decide +kernel
theorem dX9_minutesLeftByBurning_6 : decode cX9_minutesLeftByBurning 6 = .ok (.getfield 12, 3) := by decide +kernel
theorem dX9_minutesLeftByBurning_9 : decode cX9_minutesLeftByBurning 9 = .ok (.iload_n 1, 1) := by decide +kernel
theorem dX9_minutesLeftByBurning_10 : decode cX9_minutesLeftByBurning 10 = .ok (.invokevirtual 174, 3) := by decide +kernel
theorem dX9_minutesLeftByBurning_13 : decode cX9_minutesLeftByBurning 13 = .ok (.ireturn, 1) := by decide +kernel
set_option maxHeartbeats 4000000 in
set_option maxRecDepth 100000 in
theorem c_X9_minutesLeftByBurning (g : xG) (l : Launch) (hl : l.stackTraces = false) (a : Nat → Nat) (b : Nat → Nat) (y : Nat) (z : CcT) (v : StS) (c : CdT) (x1 : Int32) {u : (Nat ⊕ Int32)} (hf : f_X9_minutesLeftByBurning z v c x1 = some u) : ConX g l yX9_minutesLeftByBurning cX9_minutesLeftByBurning 2 (some .int) ({ frames := 7, cells := 1, slots := 6, locals := 111 } : Room) [.ref (a 0), .int x1] ([ccO g a b y z, stO g a 10 v, cdW g a 10 c] : List va_W).flatten (fun v9 w9 => ∃ r9, u = Sum.inr r9 ∧ v9 = some (.int r9) ∧ w9 = ([ccO g a b y z, stO g a 10 v, cdW g a 10 c] : List va_W).flatten) (fun e9 w9 => ∃ k9, u = Sum.inl k9 ∧ e9 = xcE k9 ∧ w9 = ([ccO g a b y z, stO g a 10 v, cdW g a 10 c] : List va_W).flatten) 1 6 := by
  unfold f_X9_minutesLeftByBurning at hf
  refine ConX_of [ccO g a b y z, stO g a 10 v, cdW g a 10 c] [(0, .ref (a 0)), (1, .int x1)] rfl rfl (by decide) (Nat.le_of_ble_eq_true rfl) ?_
  intro pW eW sW mW argsW belowW methW c9 C hnm hr hout
  have C : CX g RX9 cX9_minutesLeftByBurning 2 _ pW sW mW argsW methW c9 := C
  refine x_aload_n C dX9_minutesLeftByBurning_0 rfl 0 rfl ?_
  refine x_iload_n C dX9_minutesLeftByBurning_1 rfl 1 rfl ?_
  obtain ⟨u1, hu1, hf⟩ := x_b hf
  refine x_xcallV (n := 1) (As := [.int x1]) (rest := []) C (c_X9_requireCandle g l hl a b y z v c x1 hu1) ⟨⟨wd_66, wd_62, wd_25⟩, ⟨by decide, by decide, by decide⟩, rfl, rfl, Nat.le_of_ble_eq_true rfl, Nat.le_of_ble_eq_true rfl⟩ wd_64 wd_0 ⟨0, 10, _, _, rfl, rfl, rfl⟩ [] (x_pickD [0, 1, 2] 3 rfl rfl rfl) rfl rfl (Nat.le_of_ble_eq_true rfl) ⟨Nat.le_of_ble_eq_true rfl, Nat.le_of_ble_eq_true rfl⟩ dX9_minutesLeftByBurning_2 (fun E9 w9 hX9 => ?_) (fun v9 w9 hQ9 => ?_)
  · obtain ⟨k9, hk9, rfl, rfl⟩ := hX9
    have hf := x_sl hk9 hf
    refine x_goX (wss2 := [ccO g a b y z, stO g a 10 v, cdW g a 10 c]) rfl rfl ?_
    exact x_prop C hout ⟨k9, by cases hf; rfl, rfl, by cases hf; rfl⟩ (Nat.le_of_ble_eq_true rfl) (Nat.le_of_ble_eq_true rfl)
  · obtain ⟨r2, hr9, rfl, rfl⟩ := hQ9
    have hf := x_sr hr9 hf
    refine x_goW (wss2 := [ccO g a b y z, stO g a 10 v, cdW g a 10 c]) (stk2 := []) rfl rfl rfl ?_
    refine x_aload_n C dX9_minutesLeftByBurning_5 rfl 0 rfl ?_
    refine x_get (ci := 10) (v := .ref (a (10 + 0))) (b := ccO g a b y z) C ixX9 rfl 0 (by decide) wd_1000 (fun _ h => h) 0 rfl 0 (ccO_at0 g a b y _) rfl dX9_minutesLeftByBurning_6 ?_
    refine x_iload_n C dX9_minutesLeftByBurning_9 rfl 1 rfl ?_
    obtain ⟨u3, hu3, hf⟩ := x_b hf
    refine x_callV (n := 1) (As := [.int x1]) (rest := []) C (c_X8_minutesOfBurning g l a 10 v c x1 hu3) ⟨⟨wd_1327, wd_1324, wd_26⟩, ⟨by decide, by decide, by decide⟩, rfl, rfl, Nat.le_of_ble_eq_true rfl, Nat.le_of_ble_eq_true rfl⟩ wd_1325 wd_1326 ⟨0, 9, _, _, rfl, rfl, rfl⟩ [ccO g a b y z] (x_pickD [1, 2, 0] 3 rfl rfl rfl) rfl rfl (Nat.le_of_ble_eq_true rfl) ⟨Nat.le_of_ble_eq_true rfl, Nat.le_of_ble_eq_true rfl⟩ dX9_minutesLeftByBurning_10 (x_goD (wss2 := [stO g a 10 v, cdW g a 10 c, ccO g a b y z]) (stk2 := [.int u3]) rfl rfl ?_)
    refine x_perm (wss' := [ccO g a b y z, stO g a 10 v, cdW g a 10 c]) (x_pick [2, 0, 1] 3 rfl rfl rfl) ?_
    refine x_widen (k := 1) (n := 6) (Nat.le_of_ble_eq_true rfl) (Nat.le_of_ble_eq_true rfl) ?_
    refine x_vx ?_
    exact x_iret C hr ⟨u3, by cases hf; rfl, rfl, by cases hf; rfl⟩ dX9_minutesLeftByBurning_13
theorem wd_51 : Cond.initialized "java/util/NoSuchElementException" ∈ xTB := xTB_in 51 (by decide +kernel) (by decide +kernel)
theorem wd_743 : Cond.classLink RX9 181 "java/util/NoSuchElementException" ∈ xTB := xTB_in 743 (by decide +kernel) (by decide +kernel)
theorem wd_759 : Cond.methodLink RX9 186 yX1_atRank ∈ xTB := xTB_in 759 (by decide +kernel) (by decide +kernel)
theorem wd_760 : Cond.instanceMethod yX1_atRank ∈ xTB := xTB_in 760 (by decide +kernel) (by decide +kernel)
theorem wd_761 : Cond.selects yX1_atRank.cls yX1_atRank yX1_atRank ∈ xTB := xTB_in 761 (by decide +kernel) (by decide +kernel)
theorem wd_762 : Cond.code yX1_atRank cX1_atRank 3 (some .int) ∈ xTB := xTB_in 762 (by decide +kernel) (by decide +kernel)
theorem dX9_candleByWax_0 : decode cX9_candleByWax 0 = .ok (.aload_n 0, 1) := by decide +kernel
theorem dX9_candleByWax_1 : decode cX9_candleByWax 1 = .ok (.getfield 12, 3) := by decide +kernel
theorem dX9_candleByWax_4 : decode cX9_candleByWax 4 = .ok (.getfield 127, 3) := by decide +kernel
theorem dX9_candleByWax_7 : decode cX9_candleByWax 7 = .ok (.iload_n 1, 1) := by decide +kernel
theorem dX9_candleByWax_8 : decode cX9_candleByWax 8 = .ok (.invokevirtual 177, 3) := by decide +kernel
theorem dX9_candleByWax_11 : decode cX9_candleByWax 11 = .ok (.ifCond .ne 13, 3) := by decide +kernel
theorem dX9_candleByWax_14 : decode cX9_candleByWax 14 = .ok (.new 181, 3) := by decide +kernel
theorem dX9_candleByWax_17 : decode cX9_candleByWax 17 = .ok (.dup, 1) := by decide +kernel
theorem dX9_candleByWax_18 : decode cX9_candleByWax 18 = .ok (.ldc 183, 2) := by decide +kernel
theorem dX9_candleByWax_20 : decode cX9_candleByWax 20 = .ok (.invokespecial 185, 3) := by decide +kernel
theorem dX9_candleByWax_23 : decode cX9_candleByWax 23 = .ok (.athrow, 1) := by decide +kernel
theorem dX9_candleByWax_24 : decode cX9_candleByWax 24 = .ok (.aload_n 0, 1) := by decide +kernel
theorem dX9_candleByWax_25 : decode cX9_candleByWax 25 = .ok (.getfield 12, 3) := by decide +kernel
theorem dX9_candleByWax_28 : decode cX9_candleByWax 28 = .ok (.getfield 127, 3) := by decide +kernel
theorem dX9_candleByWax_31 : decode cX9_candleByWax 31 = .ok (.iload_n 1, 1) := by decide +kernel
theorem dX9_candleByWax_32 : decode cX9_candleByWax 32 = .ok (.invokevirtual 186, 3) := by decide +kernel
theorem dX9_candleByWax_35 : decode cX9_candleByWax 35 = .ok (.ireturn, 1) := by decide +kernel
set_option maxHeartbeats 4000000 in
set_option maxRecDepth 100000 in
theorem c_X9_candleByWax (g : xG) (l : Launch) (hl : l.stackTraces = false) (a : Nat → Nat) (b : Nat → Nat) (y : Nat) (z : CcT) (v : StS) (c : CdT) (x1 : Int32) {u : (Nat ⊕ Int32)} (hf : f_X9_candleByWax z v c x1 = some u) : ConX g l yX9_candleByWax cX9_candleByWax 2 (some .int) ({ frames := 6, cells := 1, slots := 6, locals := 90 } : Room) [.ref (a 0), .int x1] ([ccO g a b y z, stO g a 10 v, cdW g a 10 c] : List va_W).flatten (fun v9 w9 => ∃ r9, u = Sum.inr r9 ∧ v9 = some (.int r9) ∧ w9 = ([ccO g a b y z, stO g a 10 v, cdW g a 10 c] : List va_W).flatten) (fun e9 w9 => ∃ k9, u = Sum.inl k9 ∧ e9 = xcE k9 ∧ w9 = ([ccO g a b y z, stO g a 10 v, cdW g a 10 c] : List va_W).flatten) 1 6 := by
  unfold f_X9_candleByWax at hf
  refine ConX_of [ccO g a b y z, stO g a 10 v, cdW g a 10 c] [(0, .ref (a 0)), (1, .int x1)] rfl rfl (by decide) (Nat.le_of_ble_eq_true rfl) ?_
  intro pW eW sW mW argsW belowW methW c9 C hnm hr hout
  have C : CX g RX9 cX9_candleByWax 2 _ pW sW mW argsW methW c9 := C
  refine x_aload_n C dX9_candleByWax_0 rfl 0 rfl ?_
  refine x_get (ci := 10) (v := .ref (a (10 + 0))) (b := ccO g a b y z) C ixX9 rfl 0 (by decide) wd_1000 (fun _ h => h) 0 rfl 0 (ccO_at0 g a b y _) rfl dX9_candleByWax_1 ?_
  refine x_get (ci := 9) (v := .ref (a (10 + 1))) (b := stO g a 10 v) C ixX8 rfl 0 (by decide) wd_874 (fun _ h => h) 1 rfl 0 (stO_at0 g a 10 _) rfl dX9_candleByWax_4 ?_
  refine x_iload_n C dX9_candleByWax_7 rfl 1 rfl ?_
  obtain ⟨u1, hu1, hf⟩ := x_b hf
  refine x_callV (n := 1) (As := [.int x1]) (rest := []) C (c_X1_has g l a 10 c x1 hu1) ⟨⟨wd_70, wd_67, wd_27⟩, ⟨by decide, by decide, by decide⟩, rfl, rfl, Nat.le_of_ble_eq_true rfl, Nat.le_of_ble_eq_true rfl⟩ wd_68 wd_69 ⟨0, 4, _, _, rfl, rfl, rfl⟩ [ccO g a b y z, stO g a 10 v] (x_pickD [2, 0, 1] 3 rfl rfl rfl) rfl rfl (Nat.le_of_ble_eq_true rfl) ⟨Nat.le_of_ble_eq_true rfl, Nat.le_of_ble_eq_true rfl⟩ dX9_candleByWax_8 (x_goD (wss2 := [cdW g a 10 c, ccO g a b y z, stO g a 10 v]) (stk2 := [.int u1]) rfl rfl ?_)
  refine x_if_ne (tgt := 24) C dX9_candleByWax_11 (by decide) (fun h2 => ?_) (fun h2 => ?_)
  · have hf := x_f h2 hf
    refine x_aload_n C dX9_candleByWax_24 rfl 0 rfl ?_
    refine x_get (ci := 10) (v := .ref (a (10 + 0))) (b := ccO g a b y z) C ixX9 rfl 0 (by decide) wd_1000 (fun _ h => h) 1 rfl 0 (ccO_at0 g a b y _) rfl dX9_candleByWax_25 ?_
    refine x_get (ci := 9) (v := .ref (a (10 + 1))) (b := stO g a 10 v) C ixX8 rfl 0 (by decide) wd_874 (fun _ h => h) 2 rfl 0 (stO_at0 g a 10 _) rfl dX9_candleByWax_28 ?_
    refine x_iload_n C dX9_candleByWax_31 rfl 1 rfl ?_
    obtain ⟨u3, hu3, hf⟩ := x_b hf
    refine x_callV (n := 1) (As := [.int x1]) (rest := []) C (c_X1_atRank g l a 10 c x1 hu3) ⟨⟨wd_762, wd_759, wd_27⟩, ⟨by decide, by decide, by decide⟩, rfl, rfl, Nat.le_of_ble_eq_true rfl, Nat.le_of_ble_eq_true rfl⟩ wd_760 wd_761 ⟨0, 4, _, _, rfl, rfl, rfl⟩ [ccO g a b y z, stO g a 10 v] (x_pickD [0, 1, 2] 3 rfl rfl rfl) rfl rfl (Nat.le_of_ble_eq_true rfl) ⟨Nat.le_of_ble_eq_true rfl, Nat.le_of_ble_eq_true rfl⟩ dX9_candleByWax_32 (x_goD (wss2 := [cdW g a 10 c, ccO g a b y z, stO g a 10 v]) (stk2 := [.int u3]) rfl rfl ?_)
    refine x_perm (wss' := [ccO g a b y z, stO g a 10 v, cdW g a 10 c]) (x_pick [1, 2, 0] 3 rfl rfl rfl) ?_
    refine x_widen (k := 1) (n := 6) (Nat.le_of_ble_eq_true rfl) (Nat.le_of_ble_eq_true rfl) ?_
    refine x_vx ?_
    exact x_iret C hr ⟨u3, by cases hf; rfl, rfl, by cases hf; rfl⟩ dX9_candleByWax_35
  · have hf := x_t h2 hf
    refine x_perm (wss' := [ccO g a b y z, stO g a 10 v, cdW g a 10 c]) (x_pick [1, 2, 0] 3 rfl rfl rfl) ?_
    exact x_throwN C hout hl wd_743 wd_51 (CX_str C ("CandleConcert", 183, "there is no such rank", 11) (by decide)) at_185 og_181_185 dX9_candleByWax_14 dX9_candleByWax_17 dX9_candleByWax_18 dX9_candleByWax_20 dX9_candleByWax_23 ⟨Nat.le_of_ble_eq_true rfl, Nat.le_of_ble_eq_true rfl, Nat.le_of_ble_eq_true rfl, Nat.le_of_ble_eq_true rfl⟩ ⟨4, by cases hf; rfl, rfl, by cases hf; rfl⟩ (Nat.le_of_ble_eq_true rfl) (Nat.le_of_ble_eq_true rfl)
theorem dX9_events_0 : decode cX9_events 0 = .ok (.aload_n 0, 1) := by decide +kernel
theorem dX9_events_1 : decode cX9_events 1 = .ok (.getfield 12, 3) := by decide +kernel
theorem dX9_events_4 : decode cX9_events 4 = .ok (.getfield 101, 3) := by decide +kernel
theorem dX9_events_7 : decode cX9_events 7 = .ok (.getfield 118, 3) := by decide +kernel
theorem dX9_events_10 : decode cX9_events 10 = .ok (.ireturn, 1) := by decide +kernel
set_option maxHeartbeats 4000000 in
set_option maxRecDepth 100000 in
theorem c_X9_events (g : xG) (l : Launch) (a : Nat → Nat) (b : Nat → Nat) (y : Nat) (z : CcT) (v : StS) (e : EvT)  {u : Int32} (hf : f_X9_events z v e = some u) : ConD g l yX9_events cX9_events 1 (some .int) ({ frames := 0, cells := 0, slots := 0, locals := 0 } : Room) [.ref (a 0)] [ccO g a b y z, stO g a 10 v, evW g a 10 e] (some (.int u)) [ccO g a b y z, stO g a 10 v, evW g a 10 e] := by
  unfold f_X9_events at hf
  refine Con_of [ccO g a b y z, stO g a 10 v, evW g a 10 e] [(0, .ref (a 0))] rfl rfl (by decide) (Nat.le_of_ble_eq_true rfl) ?_
  intro pW eW sW mW argsW belowW methW c9 C hnm hr
  have C : CX g RX9 cX9_events 1 _ pW sW mW argsW methW c9 := C
  refine x_aload_n C dX9_events_0 rfl 0 rfl ?_
  refine x_get (ci := 10) (v := .ref (a (10 + 0))) (b := ccO g a b y z) C ixX9 rfl 0 (by decide) wd_1000 (fun _ h => h) 0 rfl 0 (ccO_at0 g a b y _) rfl dX9_events_1 ?_
  refine x_get (ci := 9) (v := .ref (a (10 + 6))) (b := stO g a 10 v) C ixX8 rfl 1 (by decide) wd_876 (fun _ h => h) 1 rfl 0 (stO_at0 g a 10 _) rfl dX9_events_4 ?_
  refine x_get (ci := 6) (v := .int e.2.2.2) (b := evW g a 10 e) C ixX3 rfl 3 (by decide) wd_862 (fun _ h => h) 2 rfl 0 (evW_at0 g a 10 _) rfl dX9_events_7 ?_
  exact x_iret C hr ⟨by cases hf; rfl, by cases hf; rfl⟩ dX9_events_10
theorem wd_854 : Cond.fieldLink RX9 189 "CandleConcert$Events" "minute" "[I" ∈ xTB := xTB_in 854 (by decide +kernel) (by decide +kernel)
theorem dX9_eventMinute_0 : decode cX9_eventMinute 0 = .ok (.aload_n 0, 1) := by decide +kernel
theorem dX9_eventMinute_1 : decode cX9_eventMinute 1 = .ok (.iload_n 1, 1) := by decide +kernel
theorem dX9_eventMinute_2 : decode cX9_eventMinute 2 = .ok (.invokevirtual 111, 3) := by decide +kernel
theorem dX9_eventMinute_5 : decode cX9_eventMinute 5 = .ok (.aload_n 0, 1) := by decide +kernel
theorem dX9_eventMinute_6 : decode cX9_eventMinute 6 = .ok (.getfield 12, 3) := by decide +kernel
theorem dX9_eventMinute_9 : decode cX9_eventMinute 9 = .ok (.getfield 101, 3) := by decide +kernel
theorem dX9_eventMinute_12 : decode cX9_eventMinute 12 = .ok (.getfield 189, 3) := by decide +kernel
theorem dX9_eventMinute_15 : decode cX9_eventMinute 15 = .ok (.iload_n 1, 1) := by decide +kernel
theorem dX9_eventMinute_16 : decode cX9_eventMinute 16 = .ok (.iaload, 1) := by decide +kernel
theorem dX9_eventMinute_17 : decode cX9_eventMinute 17 = .ok (.ireturn, 1) := by decide +kernel
set_option maxHeartbeats 4000000 in
set_option maxRecDepth 100000 in
theorem c_X9_eventMinute (g : xG) (l : Launch) (hl : l.stackTraces = false) (a : Nat → Nat) (b : Nat → Nat) (y : Nat) (z : CcT) (v : StS) (e : EvT) (x1 : Int32) {u : (Nat ⊕ Int32)} (hf : f_X9_eventMinute z v e x1 = some u) : ConX g l yX9_eventMinute cX9_eventMinute 2 (some .int) ({ frames := 7, cells := 1, slots := 6, locals := 111 } : Room) [.ref (a 0), .int x1] ([ccO g a b y z, stO g a 10 v, evW g a 10 e] : List va_W).flatten (fun v9 w9 => ∃ r9, u = Sum.inr r9 ∧ v9 = some (.int r9) ∧ w9 = ([ccO g a b y z, stO g a 10 v, evW g a 10 e] : List va_W).flatten) (fun e9 w9 => ∃ k9, u = Sum.inl k9 ∧ e9 = xcE k9 ∧ w9 = ([ccO g a b y z, stO g a 10 v, evW g a 10 e] : List va_W).flatten) 1 6 := by
  unfold f_X9_eventMinute at hf
  refine ConX_of [ccO g a b y z, stO g a 10 v, evW g a 10 e] [(0, .ref (a 0)), (1, .int x1)] rfl rfl (by decide) (Nat.le_of_ble_eq_true rfl) ?_
  intro pW eW sW mW argsW belowW methW c9 C hnm hr hout
  have C : CX g RX9 cX9_eventMinute 2 _ pW sW mW argsW methW c9 := C
  refine x_aload_n C dX9_eventMinute_0 rfl 0 rfl ?_
  refine x_iload_n C dX9_eventMinute_1 rfl 1 rfl ?_
  obtain ⟨u1, hu1, hf⟩ := x_b hf
  refine x_xcallV (n := 1) (As := [.int x1]) (rest := []) C (c_X9_requireEvent g l hl a b y z v e x1 hu1) ⟨⟨wd_1108, wd_1105, wd_25⟩, ⟨by decide, by decide, by decide⟩, rfl, rfl, Nat.le_of_ble_eq_true rfl, Nat.le_of_ble_eq_true rfl⟩ wd_1107 wd_8 ⟨0, 10, _, _, rfl, rfl, rfl⟩ [] (x_pickD [0, 1, 2] 3 rfl rfl rfl) rfl rfl (Nat.le_of_ble_eq_true rfl) ⟨Nat.le_of_ble_eq_true rfl, Nat.le_of_ble_eq_true rfl⟩ dX9_eventMinute_2 (fun E9 w9 hX9 => ?_) (fun v9 w9 hQ9 => ?_)
  · obtain ⟨k9, hk9, rfl, rfl⟩ := hX9
    have hf := x_sl hk9 hf
    refine x_goX (wss2 := [ccO g a b y z, stO g a 10 v, evW g a 10 e]) rfl rfl ?_
    exact x_prop C hout ⟨k9, by cases hf; rfl, rfl, by cases hf; rfl⟩ (Nat.le_of_ble_eq_true rfl) (Nat.le_of_ble_eq_true rfl)
  · obtain ⟨r2, hr9, rfl, rfl⟩ := hQ9
    have hf := x_sr hr9 hf
    refine x_goW (wss2 := [ccO g a b y z, stO g a 10 v, evW g a 10 e]) (stk2 := []) rfl rfl rfl ?_
    refine x_aload_n C dX9_eventMinute_5 rfl 0 rfl ?_
    refine x_get (ci := 10) (v := .ref (a (10 + 0))) (b := ccO g a b y z) C ixX9 rfl 0 (by decide) wd_1000 (fun _ h => h) 0 rfl 0 (ccO_at0 g a b y _) rfl dX9_eventMinute_6 ?_
    refine x_get (ci := 9) (v := .ref (a (10 + 6))) (b := stO g a 10 v) C ixX8 rfl 1 (by decide) wd_876 (fun _ h => h) 1 rfl 0 (stO_at0 g a 10 _) rfl dX9_eventMinute_9 ?_
    refine x_get (ci := 6) (v := .ref (a (10 + 7))) (b := evW g a 10 e) C ixX3 rfl 0 (by decide) wd_854 (fun _ h => h) 2 rfl 0 (evW_at0 g a 10 _) rfl dX9_eventMinute_12 ?_
    refine x_iload_n C dX9_eventMinute_15 rfl 1 rfl ?_
    obtain ⟨h3, hf⟩ := x_n hf
    refine x_iald (b := evW g a 10 e) C 2 rfl 1 (evW_at1 g a 10 _) h3 dX9_eventMinute_16 ?_
    refine x_widen (k := 1) (n := 6) (Nat.le_of_ble_eq_true rfl) (Nat.le_of_ble_eq_true rfl) ?_
    refine x_vx ?_
    exact x_iret C hr ⟨e.1 x1.toNatClampNeg, by cases hf; rfl, rfl, by cases hf; rfl⟩ dX9_eventMinute_17
theorem wd_857 : Cond.fieldLink RX9 192 "CandleConcert$Events" "candle" "[I" ∈ xTB := xTB_in 857 (by decide +kernel) (by decide +kernel)
theorem dX9_eventCandle_0 : decode cX9_eventCandle 0 = .ok (.aload_n 0, 1) := by decide +kernel
theorem dX9_eventCandle_1 : decode cX9_eventCandle 1 = .ok (.iload_n 1, 1) := by decide +kernel
theorem dX9_eventCandle_2 : decode cX9_eventCandle 2 = .ok (.invokevirtual 111, 3) := by decide +kernel
theorem dX9_eventCandle_5 : decode cX9_eventCandle 5 = .ok (.aload_n 0, 1) := by decide +kernel
theorem dX9_eventCandle_6 : decode cX9_eventCandle 6 = .ok (.getfield 12, 3) := by decide +kernel
theorem dX9_eventCandle_9 : decode cX9_eventCandle 9 = .ok (.getfield 101, 3) := by decide +kernel
theorem dX9_eventCandle_12 : decode cX9_eventCandle 12 = .ok (.getfield 192, 3) := by decide +kernel
theorem dX9_eventCandle_15 : decode cX9_eventCandle 15 = .ok (.iload_n 1, 1) := by decide +kernel
theorem dX9_eventCandle_16 : decode cX9_eventCandle 16 = .ok (.iaload, 1) := by decide +kernel
theorem dX9_eventCandle_17 : decode cX9_eventCandle 17 = .ok (.ireturn, 1) := by decide +kernel
set_option maxHeartbeats 4000000 in
set_option maxRecDepth 100000 in
theorem c_X9_eventCandle (g : xG) (l : Launch) (hl : l.stackTraces = false) (a : Nat → Nat) (b : Nat → Nat) (y : Nat) (z : CcT) (v : StS) (e : EvT) (x1 : Int32) {u : (Nat ⊕ Int32)} (hf : f_X9_eventCandle z v e x1 = some u) : ConX g l yX9_eventCandle cX9_eventCandle 2 (some .int) ({ frames := 7, cells := 1, slots := 6, locals := 111 } : Room) [.ref (a 0), .int x1] ([ccO g a b y z, stO g a 10 v, evW g a 10 e] : List va_W).flatten (fun v9 w9 => ∃ r9, u = Sum.inr r9 ∧ v9 = some (.int r9) ∧ w9 = ([ccO g a b y z, stO g a 10 v, evW g a 10 e] : List va_W).flatten) (fun e9 w9 => ∃ k9, u = Sum.inl k9 ∧ e9 = xcE k9 ∧ w9 = ([ccO g a b y z, stO g a 10 v, evW g a 10 e] : List va_W).flatten) 1 6 := by
  unfold f_X9_eventCandle at hf
  refine ConX_of [ccO g a b y z, stO g a 10 v, evW g a 10 e] [(0, .ref (a 0)), (1, .int x1)] rfl rfl (by decide) (Nat.le_of_ble_eq_true rfl) ?_
  intro pW eW sW mW argsW belowW methW c9 C hnm hr hout
  have C : CX g RX9 cX9_eventCandle 2 _ pW sW mW argsW methW c9 := C
  refine x_aload_n C dX9_eventCandle_0 rfl 0 rfl ?_
  refine x_iload_n C dX9_eventCandle_1 rfl 1 rfl ?_
  obtain ⟨u1, hu1, hf⟩ := x_b hf
  refine x_xcallV (n := 1) (As := [.int x1]) (rest := []) C (c_X9_requireEvent g l hl a b y z v e x1 hu1) ⟨⟨wd_1108, wd_1105, wd_25⟩, ⟨by decide, by decide, by decide⟩, rfl, rfl, Nat.le_of_ble_eq_true rfl, Nat.le_of_ble_eq_true rfl⟩ wd_1107 wd_8 ⟨0, 10, _, _, rfl, rfl, rfl⟩ [] (x_pickD [0, 1, 2] 3 rfl rfl rfl) rfl rfl (Nat.le_of_ble_eq_true rfl) ⟨Nat.le_of_ble_eq_true rfl, Nat.le_of_ble_eq_true rfl⟩ dX9_eventCandle_2 (fun E9 w9 hX9 => ?_) (fun v9 w9 hQ9 => ?_)
  · obtain ⟨k9, hk9, rfl, rfl⟩ := hX9
    have hf := x_sl hk9 hf
    refine x_goX (wss2 := [ccO g a b y z, stO g a 10 v, evW g a 10 e]) rfl rfl ?_
    exact x_prop C hout ⟨k9, by cases hf; rfl, rfl, by cases hf; rfl⟩ (Nat.le_of_ble_eq_true rfl) (Nat.le_of_ble_eq_true rfl)
  · obtain ⟨r2, hr9, rfl, rfl⟩ := hQ9
    have hf := x_sr hr9 hf
    refine x_goW (wss2 := [ccO g a b y z, stO g a 10 v, evW g a 10 e]) (stk2 := []) rfl rfl rfl ?_
    refine x_aload_n C dX9_eventCandle_5 rfl 0 rfl ?_
    refine x_get (ci := 10) (v := .ref (a (10 + 0))) (b := ccO g a b y z) C ixX9 rfl 0 (by decide) wd_1000 (fun _ h => h) 0 rfl 0 (ccO_at0 g a b y _) rfl dX9_eventCandle_6 ?_
    refine x_get (ci := 9) (v := .ref (a (10 + 6))) (b := stO g a 10 v) C ixX8 rfl 1 (by decide) wd_876 (fun _ h => h) 1 rfl 0 (stO_at0 g a 10 _) rfl dX9_eventCandle_9 ?_
    refine x_get (ci := 6) (v := .ref (a (10 + 8))) (b := evW g a 10 e) C ixX3 rfl 1 (by decide) wd_857 (fun _ h => h) 2 rfl 0 (evW_at0 g a 10 _) rfl dX9_eventCandle_12 ?_
    refine x_iload_n C dX9_eventCandle_15 rfl 1 rfl ?_
    obtain ⟨h3, hf⟩ := x_n hf
    refine x_iald (b := evW g a 10 e) C 2 rfl 2 (evW_at2 g a 10 _) h3 dX9_eventCandle_16 ?_
    refine x_widen (k := 1) (n := 6) (Nat.le_of_ble_eq_true rfl) (Nat.le_of_ble_eq_true rfl) ?_
    refine x_vx ?_
    exact x_iret C hr ⟨e.2.1 x1.toNatClampNeg, by cases hf; rfl, rfl, by cases hf; rfl⟩ dX9_eventCandle_17
theorem wd_860 : Cond.fieldLink RX9 195 "CandleConcert$Events" "lighting" "[Z" ∈ xTB := xTB_in 860 (by decide +kernel) (by decide +kernel)
theorem dX9_isLighting_0 : decode cX9_isLighting 0 = .ok (.aload_n 0, 1) := by decide +kernel
theorem dX9_isLighting_1 : decode cX9_isLighting 1 = .ok (.iload_n 1, 1) := by decide +kernel
theorem dX9_isLighting_2 : decode cX9_isLighting 2 = .ok (.invokevirtual 111, 3) := by decide +kernel
theorem dX9_isLighting_5 : decode cX9_isLighting 5 = .ok (.aload_n 0, 1) := by decide +kernel
theorem dX9_isLighting_6 : decode cX9_isLighting 6 = .ok (.getfield 12, 3) := by decide +kernel
theorem dX9_isLighting_9 : decode cX9_isLighting 9 = .ok (.getfield 101, 3) := by decide +kernel
theorem dX9_isLighting_12 : decode cX9_isLighting 12 = .ok (.getfield 195, 3) := by decide +kernel
theorem dX9_isLighting_15 : decode cX9_isLighting 15 = .ok (.iload_n 1, 1) := by decide +kernel
theorem dX9_isLighting_16 : decode cX9_isLighting 16 = .ok (.baload, 1) := by decide +kernel
theorem dX9_isLighting_17 : decode cX9_isLighting 17 = .ok (.ireturn, 1) := by decide +kernel
set_option maxHeartbeats 4000000 in
set_option maxRecDepth 100000 in
theorem c_X9_isLighting (g : xG) (l : Launch) (hl : l.stackTraces = false) (a : Nat → Nat) (b : Nat → Nat) (y : Nat) (z : CcT) (v : StS) (e : EvT) (x1 : Int32) {u : (Nat ⊕ Int32)} (hf : f_X9_isLighting z v e x1 = some u) : ConX g l yX9_isLighting cX9_isLighting 2 (some .boolean) ({ frames := 7, cells := 1, slots := 6, locals := 111 } : Room) [.ref (a 0), .int x1] ([ccO g a b y z, stO g a 10 v, evW g a 10 e] : List va_W).flatten (fun v9 w9 => ∃ r9, u = Sum.inr r9 ∧ v9 = some (.int r9) ∧ w9 = ([ccO g a b y z, stO g a 10 v, evW g a 10 e] : List va_W).flatten) (fun e9 w9 => ∃ k9, u = Sum.inl k9 ∧ e9 = xcE k9 ∧ w9 = ([ccO g a b y z, stO g a 10 v, evW g a 10 e] : List va_W).flatten) 1 6 := by
  unfold f_X9_isLighting at hf
  refine ConX_of [ccO g a b y z, stO g a 10 v, evW g a 10 e] [(0, .ref (a 0)), (1, .int x1)] rfl rfl (by decide) (Nat.le_of_ble_eq_true rfl) ?_
  intro pW eW sW mW argsW belowW methW c9 C hnm hr hout
  have C : CX g RX9 cX9_isLighting 2 _ pW sW mW argsW methW c9 := C
  refine x_aload_n C dX9_isLighting_0 rfl 0 rfl ?_
  refine x_iload_n C dX9_isLighting_1 rfl 1 rfl ?_
  obtain ⟨u1, hu1, hf⟩ := x_b hf
  refine x_xcallV (n := 1) (As := [.int x1]) (rest := []) C (c_X9_requireEvent g l hl a b y z v e x1 hu1) ⟨⟨wd_1108, wd_1105, wd_25⟩, ⟨by decide, by decide, by decide⟩, rfl, rfl, Nat.le_of_ble_eq_true rfl, Nat.le_of_ble_eq_true rfl⟩ wd_1107 wd_8 ⟨0, 10, _, _, rfl, rfl, rfl⟩ [] (x_pickD [0, 1, 2] 3 rfl rfl rfl) rfl rfl (Nat.le_of_ble_eq_true rfl) ⟨Nat.le_of_ble_eq_true rfl, Nat.le_of_ble_eq_true rfl⟩ dX9_isLighting_2 (fun E9 w9 hX9 => ?_) (fun v9 w9 hQ9 => ?_)
  · obtain ⟨k9, hk9, rfl, rfl⟩ := hX9
    have hf := x_sl hk9 hf
    refine x_goX (wss2 := [ccO g a b y z, stO g a 10 v, evW g a 10 e]) rfl rfl ?_
    exact x_prop C hout ⟨k9, by cases hf; rfl, rfl, by cases hf; rfl⟩ (Nat.le_of_ble_eq_true rfl) (Nat.le_of_ble_eq_true rfl)
  · obtain ⟨r2, hr9, rfl, rfl⟩ := hQ9
    have hf := x_sr hr9 hf
    refine x_goW (wss2 := [ccO g a b y z, stO g a 10 v, evW g a 10 e]) (stk2 := []) rfl rfl rfl ?_
    refine x_aload_n C dX9_isLighting_5 rfl 0 rfl ?_
    refine x_get (ci := 10) (v := .ref (a (10 + 0))) (b := ccO g a b y z) C ixX9 rfl 0 (by decide) wd_1000 (fun _ h => h) 0 rfl 0 (ccO_at0 g a b y _) rfl dX9_isLighting_6 ?_
    refine x_get (ci := 9) (v := .ref (a (10 + 6))) (b := stO g a 10 v) C ixX8 rfl 1 (by decide) wd_876 (fun _ h => h) 1 rfl 0 (stO_at0 g a 10 _) rfl dX9_isLighting_9 ?_
    refine x_get (ci := 6) (v := .ref (a (10 + 9))) (b := evW g a 10 e) C ixX3 rfl 2 (by decide) wd_860 (fun _ h => h) 2 rfl 0 (evW_at0 g a 10 _) rfl dX9_isLighting_12 ?_
    refine x_iload_n C dX9_isLighting_15 rfl 1 rfl ?_
    obtain ⟨h3, hf⟩ := x_n hf
    refine x_zald (b := evW g a 10 e) C 2 rfl 3 (evW_at3 g a 10 _) h3 dX9_isLighting_16 ?_
    obtain ⟨h4, hf⟩ := x_y hf
    refine x_widen (k := 1) (n := 6) (Nat.le_of_ble_eq_true rfl) (Nat.le_of_ble_eq_true rfl) ?_
    refine x_vx ?_
    exact x_zret C hr (x_narZ h4).1 ⟨e.2.2.1 x1.toNatClampNeg, by cases hf; rfl, rfl, by cases hf; rfl⟩ dX9_isLighting_17
theorem wd_888 : Cond.fieldLink RX9 198 "CandleConcert$State" "failedEvents" "I" ∈ xTB := xTB_in 888 (by decide +kernel) (by decide +kernel)
theorem dX9_failedEvents_0 : decode cX9_failedEvents 0 = .ok (.aload_n 0, 1) := by decide +kernel
theorem dX9_failedEvents_1 : decode cX9_failedEvents 1 = .ok (.getfield 12, 3) := by decide +kernel
theorem dX9_failedEvents_4 : decode cX9_failedEvents 4 = .ok (.getfield 198, 3) := by decide +kernel
theorem dX9_failedEvents_7 : decode cX9_failedEvents 7 = .ok (.ireturn, 1) := by decide +kernel
set_option maxHeartbeats 4000000 in
set_option maxRecDepth 100000 in
theorem c_X9_failedEvents (g : xG) (l : Launch) (a : Nat → Nat) (b : Nat → Nat) (y : Nat) (z : CcT) (v : StS)  {u : Int32} (hf : f_X9_failedEvents z v = some u) : ConD g l yX9_failedEvents cX9_failedEvents 1 (some .int) ({ frames := 0, cells := 0, slots := 0, locals := 0 } : Room) [.ref (a 0)] [ccO g a b y z, stO g a 10 v] (some (.int u)) [ccO g a b y z, stO g a 10 v] := by
  unfold f_X9_failedEvents at hf
  refine Con_of [ccO g a b y z, stO g a 10 v] [(0, .ref (a 0))] rfl rfl (by decide) (Nat.le_of_ble_eq_true rfl) ?_
  intro pW eW sW mW argsW belowW methW c9 C hnm hr
  have C : CX g RX9 cX9_failedEvents 1 _ pW sW mW argsW methW c9 := C
  refine x_aload_n C dX9_failedEvents_0 rfl 0 rfl ?_
  refine x_get (ci := 10) (v := .ref (a (10 + 0))) (b := ccO g a b y z) C ixX9 rfl 0 (by decide) wd_1000 (fun _ h => h) 0 rfl 0 (ccO_at0 g a b y _) rfl dX9_failedEvents_1 ?_
  refine x_get (ci := 9) (v := .int v.2.2.2.2.2.1) (b := stO g a 10 v) C ixX8 rfl 7 (by decide) wd_888 (fun _ h => h) 1 rfl 0 (stO_at0 g a 10 _) rfl dX9_failedEvents_4 ?_
  exact x_iret C hr ⟨by cases hf; rfl, by cases hf; rfl⟩ dX9_failedEvents_7
theorem wd_882 : Cond.fieldLink RX9 207 "CandleConcert$State" "time" "I" ∈ xTB := xTB_in 882 (by decide +kernel) (by decide +kernel)
theorem dX9_time_0 : decode cX9_time 0 = .ok (.aload_n 0, 1) := by decide +kernel
theorem dX9_time_1 : decode cX9_time 1 = .ok (.getfield 12, 3) := by decide +kernel
theorem dX9_time_4 : decode cX9_time 4 = .ok (.getfield 207, 3) := by decide +kernel
theorem dX9_time_7 : decode cX9_time 7 = .ok (.ireturn, 1) := by decide +kernel
set_option maxHeartbeats 4000000 in
set_option maxRecDepth 100000 in
theorem c_X9_time (g : xG) (l : Launch) (a : Nat → Nat) (b : Nat → Nat) (y : Nat) (z : CcT) (v : StS)  {u : Int32} (hf : f_X9_time z v = some u) : ConD g l yX9_time cX9_time 1 (some .int) ({ frames := 0, cells := 0, slots := 0, locals := 0 } : Room) [.ref (a 0)] [ccO g a b y z, stO g a 10 v] (some (.int u)) [ccO g a b y z, stO g a 10 v] := by
  unfold f_X9_time at hf
  refine Con_of [ccO g a b y z, stO g a 10 v] [(0, .ref (a 0))] rfl rfl (by decide) (Nat.le_of_ble_eq_true rfl) ?_
  intro pW eW sW mW argsW belowW methW c9 C hnm hr
  have C : CX g RX9 cX9_time 1 _ pW sW mW argsW methW c9 := C
  refine x_aload_n C dX9_time_0 rfl 0 rfl ?_
  refine x_get (ci := 10) (v := .ref (a (10 + 0))) (b := ccO g a b y z) C ixX9 rfl 0 (by decide) wd_1000 (fun _ h => h) 0 rfl 0 (ccO_at0 g a b y _) rfl dX9_time_1 ?_
  refine x_get (ci := 9) (v := .int v.2.2.1) (b := stO g a 10 v) C ixX8 rfl 4 (by decide) wd_882 (fun _ h => h) 1 rfl 0 (stO_at0 g a 10 _) rfl dX9_time_4 ?_
  exact x_iret C hr ⟨by cases hf; rfl, by cases hf; rfl⟩ dX9_time_7
theorem wd_878 : Cond.fieldLink RX9 210 "CandleConcert$State" "draught" "I" ∈ xTB := xTB_in 878 (by decide +kernel) (by decide +kernel)
theorem dX9_draught_0 : decode cX9_draught 0 = .ok (.aload_n 0, 1) := by decide +kernel
theorem dX9_draught_1 : decode cX9_draught 1 = .ok (.getfield 12, 3) := by decide +kernel
theorem dX9_draught_4 : decode cX9_draught 4 = .ok (.getfield 210, 3) := by decide +kernel
theorem dX9_draught_7 : decode cX9_draught 7 = .ok (.ireturn, 1) := by decide +kernel
set_option maxHeartbeats 4000000 in
set_option maxRecDepth 100000 in
theorem c_X9_draught (g : xG) (l : Launch) (a : Nat → Nat) (b : Nat → Nat) (y : Nat) (z : CcT) (v : StS)  {u : Int32} (hf : f_X9_draught z v = some u) : ConD g l yX9_draught cX9_draught 1 (some .int) ({ frames := 0, cells := 0, slots := 0, locals := 0 } : Room) [.ref (a 0)] [ccO g a b y z, stO g a 10 v] (some (.int u)) [ccO g a b y z, stO g a 10 v] := by
  unfold f_X9_draught at hf
  refine Con_of [ccO g a b y z, stO g a 10 v] [(0, .ref (a 0))] rfl rfl (by decide) (Nat.le_of_ble_eq_true rfl) ?_
  intro pW eW sW mW argsW belowW methW c9 C hnm hr
  have C : CX g RX9 cX9_draught 1 _ pW sW mW argsW methW c9 := C
  refine x_aload_n C dX9_draught_0 rfl 0 rfl ?_
  refine x_get (ci := 10) (v := .ref (a (10 + 0))) (b := ccO g a b y z) C ixX9 rfl 0 (by decide) wd_1000 (fun _ h => h) 0 rfl 0 (ccO_at0 g a b y _) rfl dX9_draught_1 ?_
  refine x_get (ci := 9) (v := .int v.1) (b := stO g a 10 v) C ixX8 rfl 2 (by decide) wd_878 (fun _ h => h) 1 rfl 0 (stO_at0 g a 10 _) rfl dX9_draught_4 ?_
  exact x_iret C hr ⟨by cases hf; rfl, by cases hf; rfl⟩ dX9_draught_7
theorem wd_880 : Cond.fieldLink RX9 213 "CandleConcert$State" "dish" "I" ∈ xTB := xTB_in 880 (by decide +kernel) (by decide +kernel)
theorem dX9_dish_0 : decode cX9_dish 0 = .ok (.aload_n 0, 1) := by decide +kernel
theorem dX9_dish_1 : decode cX9_dish 1 = .ok (.getfield 12, 3) := by decide +kernel
theorem dX9_dish_4 : decode cX9_dish 4 = .ok (.getfield 213, 3) := by decide +kernel
theorem dX9_dish_7 : decode cX9_dish 7 = .ok (.ireturn, 1) := by decide +kernel
set_option maxHeartbeats 4000000 in
set_option maxRecDepth 100000 in
theorem c_X9_dish (g : xG) (l : Launch) (a : Nat → Nat) (b : Nat → Nat) (y : Nat) (z : CcT) (v : StS)  {u : Int32} (hf : f_X9_dish z v = some u) : ConD g l yX9_dish cX9_dish 1 (some .int) ({ frames := 0, cells := 0, slots := 0, locals := 0 } : Room) [.ref (a 0)] [ccO g a b y z, stO g a 10 v] (some (.int u)) [ccO g a b y z, stO g a 10 v] := by
  unfold f_X9_dish at hf
  refine Con_of [ccO g a b y z, stO g a 10 v] [(0, .ref (a 0))] rfl rfl (by decide) (Nat.le_of_ble_eq_true rfl) ?_
  intro pW eW sW mW argsW belowW methW c9 C hnm hr
  have C : CX g RX9 cX9_dish 1 _ pW sW mW argsW methW c9 := C
  refine x_aload_n C dX9_dish_0 rfl 0 rfl ?_
  refine x_get (ci := 10) (v := .ref (a (10 + 0))) (b := ccO g a b y z) C ixX9 rfl 0 (by decide) wd_1000 (fun _ h => h) 0 rfl 0 (ccO_at0 g a b y _) rfl dX9_dish_1 ?_
  refine x_get (ci := 9) (v := .int v.2.1) (b := stO g a 10 v) C ixX8 rfl 3 (by decide) wd_880 (fun _ h => h) 1 rfl 0 (stO_at0 g a 10 _) rfl dX9_dish_4 ?_
  exact x_iret C hr ⟨by cases hf; rfl, by cases hf; rfl⟩ dX9_dish_7
theorem wd_161 : Cond.methodLink RX9 216 yX8_copyFrom ∈ xTB := xTB_in 161 (by decide +kernel) (by decide +kernel)
theorem wd_173 : Cond.constant RX9 219 1000000 ∈ xTB := xTB_in 173 (by decide +kernel) (by decide +kernel)
theorem wd_174 : Cond.methodLink RX9 220 yX8_isDark ∈ xTB := xTB_in 174 (by decide +kernel) (by decide +kernel)
theorem wd_175 : Cond.instanceMethod yX8_isDark ∈ xTB := xTB_in 175 (by decide +kernel) (by decide +kernel)
theorem wd_176 : Cond.selects yX8_isDark.cls yX8_isDark yX8_isDark ∈ xTB := xTB_in 176 (by decide +kernel) (by decide +kernel)
theorem wd_177 : Cond.code yX8_isDark cX8_isDark 1 (some .boolean) ∈ xTB := xTB_in 177 (by decide +kernel) (by decide +kernel)
theorem wd_182 : Cond.methodLink RX9 224 yX8_passMinute ∈ xTB := xTB_in 182 (by decide +kernel) (by decide +kernel)
theorem wd_1001 : Cond.fieldLink RX9 16 "CandleConcert" "spare" "LCandleConcert$State;" ∈ xTB := xTB_in 1001 (by decide +kernel) (by decide +kernel)
theorem dX9_minutesUntilDark_0 : decode cX9_minutesUntilDark 0 = .ok (.aload_n 0, 1) := by decide +kernel
theorem dX9_minutesUntilDark_1 : decode cX9_minutesUntilDark 1 = .ok (.getfield 16, 3) := by decide +kernel
theorem dX9_minutesUntilDark_4 : decode cX9_minutesUntilDark 4 = .ok (.aload_n 0, 1) := by decide +kernel
theorem dX9_minutesUntilDark_5 : decode cX9_minutesUntilDark 5 = .ok (.getfield 12, 3) := by decide +kernel
theorem dX9_minutesUntilDark_8 : decode cX9_minutesUntilDark 8 = .ok (.invokevirtual 216, 3) := by decide +kernel
theorem dX9_minutesUntilDark_11 : decode cX9_minutesUntilDark 11 = .ok (.iconst 0, 1) := by decide +kernel
theorem dX9_minutesUntilDark_12 : decode cX9_minutesUntilDark 12 = .ok (.istore_n 1, 1) := by decide +kernel
theorem dX9_minutesUntilDark_13 : decode cX9_minutesUntilDark 13 = .ok (.iload_n 1, 1) := by decide +kernel
theorem dX9_minutesUntilDark_14 : decode cX9_minutesUntilDark 14 = .ok (.ldc 219, 2) := by decide +kernel
theorem dX9_minutesUntilDark_16 : decode cX9_minutesUntilDark 16 = .ok (.if_icmp .ge 27, 3) := by decide +kernel
theorem dX9_minutesUntilDark_19 : decode cX9_minutesUntilDark 19 = .ok (.aload_n 0, 1) := by decide +kernel
theorem dX9_minutesUntilDark_20 : decode cX9_minutesUntilDark 20 = .ok (.getfield 16, 3) := by decide +kernel
theorem dX9_minutesUntilDark_23 : decode cX9_minutesUntilDark 23 = .ok (.invokevirtual 220, 3) := by decide +kernel
theorem dX9_minutesUntilDark_26 : decode cX9_minutesUntilDark 26 = .ok (.ifCond .ne 17, 3) := by decide +kernel
theorem dX9_minutesUntilDark_29 : decode cX9_minutesUntilDark 29 = .ok (.aload_n 0, 1) := by decide +kernel
theorem dX9_minutesUntilDark_30 : decode cX9_minutesUntilDark 30 = .ok (.getfield 16, 3) := by decide +kernel
theorem dX9_minutesUntilDark_33 : decode cX9_minutesUntilDark 33 = .ok (.invokevirtual 224, 3) := by decide +kernel
theorem dX9_minutesUntilDark_36 : decode cX9_minutesUntilDark 36 = .ok (.pop, 1) := by decide +kernel
theorem dX9_minutesUntilDark_37 : decode cX9_minutesUntilDark 37 = .ok (.iinc 1 1, 3) := by decide +kernel
theorem dX9_minutesUntilDark_40 : decode cX9_minutesUntilDark 40 = .ok (.goto (-27), 3) := by decide +kernel
theorem dX9_minutesUntilDark_43 : decode cX9_minutesUntilDark 43 = .ok (.aload_n 0, 1) := by decide +kernel
theorem dX9_minutesUntilDark_44 : decode cX9_minutesUntilDark 44 = .ok (.getfield 16, 3) := by decide +kernel
theorem dX9_minutesUntilDark_47 : decode cX9_minutesUntilDark 47 = .ok (.getfield 207, 3) := by decide +kernel
theorem dX9_minutesUntilDark_50 : decode cX9_minutesUntilDark 50 = .ok (.aload_n 0, 1) := by decide +kernel
theorem dX9_minutesUntilDark_51 : decode cX9_minutesUntilDark 51 = .ok (.getfield 12, 3) := by decide +kernel
theorem dX9_minutesUntilDark_54 : decode cX9_minutesUntilDark 54 = .ok (.getfield 207, 3) := by decide +kernel
theorem dX9_minutesUntilDark_57 : decode cX9_minutesUntilDark 57 = .ok (.isub, 1) := by decide +kernel
theorem dX9_minutesUntilDark_58 : decode cX9_minutesUntilDark 58 = .ok (.ireturn, 1) := by decide +kernel
set_option maxHeartbeats 4000000 in
set_option maxRecDepth 100000 in
theorem c_X9_minutesUntilDark (g : xG) (l : Launch) (a : Nat → Nat) (b : Nat → Nat) (y : Nat) (z : CcT) (v : StS) (c : CdT) (e : EvT) (v2 : StS) (c2 : CdT) (e2 : EvT)  {u : Int32 × StS × CdT × EvT} (hf : f_X9_minutesUntilDark z v c e v2 c2 e2 = some u) : ConD g l yX9_minutesUntilDark cX9_minutesUntilDark 2 (some .int) ({ frames := 4, cells := 0, slots := 0, locals := 87 } : Room) [.ref (a 0)] [ccO g a b y z, stO g a 10 v, cdW g a 10 c, evW g a 10 e, stO g a 20 v2, cdW g a 20 c2, evW g a 20 e2] (some (.int u.1)) [ccO g a b y z, stO g a 10 v, cdW g a 10 c, evW g a 10 e, stO g a 20 u.2.1, cdW g a 20 u.2.2.1, evW g a 20 u.2.2.2] := by
  unfold f_X9_minutesUntilDark at hf
  refine Con_of [ccO g a b y z, stO g a 10 v, cdW g a 10 c, evW g a 10 e, stO g a 20 v2, cdW g a 20 c2, evW g a 20 e2] [(0, .ref (a 0))] rfl rfl (by decide) (Nat.le_of_ble_eq_true rfl) ?_
  intro pW eW sW mW argsW belowW methW c9 C hnm hr
  have C : CX g RX9 cX9_minutesUntilDark 2 _ pW sW mW argsW methW c9 := C
  have hL13 : ∀ (nW : Nat) (v2L : StS) (c2L : CdT) (e2L : EvT) (x1 : Int32), f_X9_minutesUntilDark_13 nW z v c e v2L c2L e2L x1 = some u → VW g (va_A ([ccO g a b y z, stO g a 10 v, cdW g a 10 c, evW g a 10 e, stO g a 20 v2, cdW g a 20 c2, evW g a 20 e2] : List va_W).flatten sW.heap.size) 2 pW l eW ({ frames := 4, cells := 0, slots := 0, locals := 87 } : Room) sW mW argsW belowW methW c9 0 0 (MQ belowW (xQc g ([ccO g a b y z, stO g a 10 v, cdW g a 10 c, evW g a 10 e, stO g a 20 v2, cdW g a 20 c2, evW g a 20 e2] : List va_W).flatten sW.heap.size (fun v9 w9 => v9 = some (.int u.1) ∧ w9 = ([ccO g a b y z, stO g a 10 v, cdW g a 10 c, evW g a 10 e, stO g a 20 u.2.1, cdW g a 20 u.2.2.1, evW g a 20 u.2.2.2] : List va_W).flatten)) argsW sW 0 0 (va_A ([ccO g a b y z, stO g a 10 v, cdW g a 10 c, evW g a 10 e, stO g a 20 v2, cdW g a 20 c2, evW g a 20 e2] : List va_W).flatten sW.heap.size)) [ccO g a b y z, stO g a 10 v, cdW g a 10 c, evW g a 10 e, stO g a 20 v2L, cdW g a 20 c2L, evW g a 20 e2L] [(0, .ref (a 0)), (1, .int x1)] 13 [] := by
    intro nW
    induction nW with
    | zero => intro v2L c2L e2L x1 hf; rw [f_X9_minutesUntilDark_13] at hf; cases hf
    | succ nW ih =>
      intro v2L c2L e2L x1 hf
      rw [f_X9_minutesUntilDark_13] at hf
      refine x_iload_n C dX9_minutesUntilDark_13 rfl 1 rfl ?_
      refine x_ldc C wd_173 dX9_minutesUntilDark_14 ?_
      refine x_icmp_ge (tgt := 43) C dX9_minutesUntilDark_16 (by decide) (fun h1 => ?_) (fun h1 => ?_)
      · have hf := x_t h1 hf
        refine x_aload_n C dX9_minutesUntilDark_43 rfl 0 rfl ?_
        refine x_get (ci := 10) (v := .ref (a (20 + 0))) (b := ccO g a b y z) C ixX9 rfl 1 (by decide) wd_1001 (fun _ h => h) 0 rfl 0 (ccO_at0 g a b y _) rfl dX9_minutesUntilDark_44 ?_
        refine x_get (ci := 9) (v := .int v2L.2.2.1) (b := stO g a 20 v2L) C ixX8 rfl 4 (by decide) wd_882 (fun _ h => h) 4 rfl 0 (stO_at0 g a 20 _) rfl dX9_minutesUntilDark_47 ?_
        refine x_aload_n C dX9_minutesUntilDark_50 rfl 0 rfl ?_
        refine x_get (ci := 10) (v := .ref (a (10 + 0))) (b := ccO g a b y z) C ixX9 rfl 0 (by decide) wd_1000 (fun _ h => h) 0 rfl 0 (ccO_at0 g a b y _) rfl dX9_minutesUntilDark_51 ?_
        refine x_get (ci := 9) (v := .int v.2.2.1) (b := stO g a 10 v) C ixX8 rfl 4 (by decide) wd_882 (fun _ h => h) 1 rfl 0 (stO_at0 g a 10 _) rfl dX9_minutesUntilDark_54 ?_
        refine x_isub C dX9_minutesUntilDark_57 ?_
        exact x_iret C hr ⟨by cases hf; rfl, by cases hf; rfl⟩ dX9_minutesUntilDark_58
      · have hf := x_f h1 hf
        refine x_aload_n C dX9_minutesUntilDark_19 rfl 0 rfl ?_
        refine x_get (ci := 10) (v := .ref (a (20 + 0))) (b := ccO g a b y z) C ixX9 rfl 1 (by decide) wd_1001 (fun _ h => h) 0 rfl 0 (ccO_at0 g a b y _) rfl dX9_minutesUntilDark_20 ?_
        obtain ⟨u2, hu2, hf⟩ := x_b hf
        refine x_callV (n := 0) (As := []) (rest := []) C (c_X8_isDark g l a 20 v2L c2L e2L hu2) ⟨⟨wd_177, wd_174, wd_26⟩, ⟨by decide, by decide, by decide⟩, rfl, rfl, Nat.le_of_ble_eq_true rfl, Nat.le_of_ble_eq_true rfl⟩ wd_175 wd_176 ⟨0, 9, _, _, rfl, rfl, rfl⟩ [ccO g a b y z, stO g a 10 v, cdW g a 10 c, evW g a 10 e] (x_pickD [4, 5, 6, 0, 1, 2, 3] 7 rfl rfl rfl) rfl rfl (Nat.le_of_ble_eq_true rfl) ⟨Nat.le_of_ble_eq_true rfl, Nat.le_of_ble_eq_true rfl⟩ dX9_minutesUntilDark_23 (x_goD (wss2 := [stO g a 20 v2L, cdW g a 20 c2L, evW g a 20 e2L, ccO g a b y z, stO g a 10 v, cdW g a 10 c, evW g a 10 e]) (stk2 := [.int u2]) rfl rfl ?_)
        refine x_if_ne (tgt := 43) C dX9_minutesUntilDark_26 (by decide) (fun h3 => ?_) (fun h3 => ?_)
        · have hf := x_f h3 hf
          refine x_aload_n C dX9_minutesUntilDark_43 rfl 0 rfl ?_
          refine x_get (ci := 10) (v := .ref (a (20 + 0))) (b := ccO g a b y z) C ixX9 rfl 1 (by decide) wd_1001 (fun _ h => h) 3 rfl 0 (ccO_at0 g a b y _) rfl dX9_minutesUntilDark_44 ?_
          refine x_get (ci := 9) (v := .int v2L.2.2.1) (b := stO g a 20 v2L) C ixX8 rfl 4 (by decide) wd_882 (fun _ h => h) 0 rfl 0 (stO_at0 g a 20 _) rfl dX9_minutesUntilDark_47 ?_
          refine x_aload_n C dX9_minutesUntilDark_50 rfl 0 rfl ?_
          refine x_get (ci := 10) (v := .ref (a (10 + 0))) (b := ccO g a b y z) C ixX9 rfl 0 (by decide) wd_1000 (fun _ h => h) 3 rfl 0 (ccO_at0 g a b y _) rfl dX9_minutesUntilDark_51 ?_
          refine x_get (ci := 9) (v := .int v.2.2.1) (b := stO g a 10 v) C ixX8 rfl 4 (by decide) wd_882 (fun _ h => h) 4 rfl 0 (stO_at0 g a 10 _) rfl dX9_minutesUntilDark_54 ?_
          refine x_isub C dX9_minutesUntilDark_57 ?_
          refine x_perm (wss' := [ccO g a b y z, stO g a 10 v, cdW g a 10 c, evW g a 10 e, stO g a 20 v2L, cdW g a 20 c2L, evW g a 20 e2L]) (x_pick [3, 4, 5, 6, 0, 1, 2] 7 rfl rfl rfl) ?_
          exact x_iret C hr ⟨by cases hf; rfl, by cases hf; rfl⟩ dX9_minutesUntilDark_58
        · have hf := x_t h3 hf
          refine x_aload_n C dX9_minutesUntilDark_29 rfl 0 rfl ?_
          refine x_get (ci := 10) (v := .ref (a (20 + 0))) (b := ccO g a b y z) C ixX9 rfl 1 (by decide) wd_1001 (fun _ h => h) 3 rfl 0 (ccO_at0 g a b y _) rfl dX9_minutesUntilDark_30 ?_
          obtain ⟨u4, hu4, hf⟩ := x_b hf
          refine x_callV (n := 0) (As := []) (rest := []) C (c_X8_passMinute g l a 20 v2L c2L e2L hu4) ⟨⟨wd_185, wd_182, wd_26⟩, ⟨by decide, by decide, by decide⟩, rfl, rfl, Nat.le_of_ble_eq_true rfl, Nat.le_of_ble_eq_true rfl⟩ wd_183 wd_184 ⟨0, 9, _, _, rfl, rfl, rfl⟩ [ccO g a b y z, stO g a 10 v, cdW g a 10 c, evW g a 10 e] (x_pickD [0, 1, 2, 3, 4, 5, 6] 7 rfl rfl rfl) rfl rfl (Nat.le_of_ble_eq_true rfl) ⟨Nat.le_of_ble_eq_true rfl, Nat.le_of_ble_eq_true rfl⟩ dX9_minutesUntilDark_33 (x_goD (wss2 := [stO g a 20 u4.2.1, cdW g a 20 u4.2.2.1, evW g a 20 u4.2.2.2, ccO g a b y z, stO g a 10 v, cdW g a 10 c, evW g a 10 e]) (stk2 := [.int u4.1]) rfl rfl ?_)
          refine x_pop C dX9_minutesUntilDark_36 rfl ?_
          refine x_iinc (v := x1 + 1) (lv' := [(1, .int (x1 + 1)), (0, .ref (a 0))]) C dX9_minutesUntilDark_37 1 rfl rfl (by decide) rfl ?_
          refine x_goto (tgt := 13) C dX9_minutesUntilDark_40 (by decide) ?_
          refine x_perm (wss' := [ccO g a b y z, stO g a 10 v, cdW g a 10 c, evW g a 10 e, stO g a 20 u4.2.1, cdW g a 20 u4.2.2.1, evW g a 20 u4.2.2.2]) (x_pick [3, 4, 5, 6, 0, 1, 2] 7 rfl rfl rfl) ?_
          refine x_locals (lv' := [(0, .ref (a 0)), (1, .int (x1 + 1))]) [1, 0] rfl ?_
          exact ih u4.2.1 u4.2.2.1 u4.2.2.2 (x1 + 1) hf
  refine x_aload_n C dX9_minutesUntilDark_0 rfl 0 rfl ?_
  refine x_get (ci := 10) (v := .ref (a (20 + 0))) (b := ccO g a b y z) C ixX9 rfl 1 (by decide) wd_1001 (fun _ h => h) 0 rfl 0 (ccO_at0 g a b y _) rfl dX9_minutesUntilDark_1 ?_
  refine x_aload_n C dX9_minutesUntilDark_4 rfl 0 rfl ?_
  refine x_get (ci := 10) (v := .ref (a (10 + 0))) (b := ccO g a b y z) C ixX9 rfl 0 (by decide) wd_1000 (fun _ h => h) 0 rfl 0 (ccO_at0 g a b y _) rfl dX9_minutesUntilDark_5 ?_
  obtain ⟨u1, hu1, hf⟩ := x_b hf
  refine x_callV (n := 1) (As := [.ref (a (10 + 0))]) (rest := []) C (c_X8_copyFrom g l a 20 10 v2 c2 e2 v c e hu1) ⟨⟨wd_164, wd_161, wd_26⟩, ⟨by decide, by decide, by decide⟩, rfl, rfl, Nat.le_of_ble_eq_true rfl, Nat.le_of_ble_eq_true rfl⟩ wd_162 wd_163 ⟨0, 9, _, _, rfl, rfl, rfl⟩ [ccO g a b y z] (x_pickD [4, 5, 6, 1, 2, 3, 0] 7 rfl rfl rfl) rfl rfl (Nat.le_of_ble_eq_true rfl) ⟨Nat.le_of_ble_eq_true rfl, Nat.le_of_ble_eq_true rfl⟩ dX9_minutesUntilDark_8 (x_goD (wss2 := [stO g a 20 u1.1, cdW g a 20 u1.2.1, evW g a 20 u1.2.2, stO g a 10 v, cdW g a 10 c, evW g a 10 e, ccO g a b y z]) (stk2 := []) rfl rfl ?_)
  refine x_iconst (v := 0) C dX9_minutesUntilDark_11 (by decide) ?_
  refine x_istore_n (lv' := [(1, .int (0 : Int32)), (0, .ref (a 0))]) C dX9_minutesUntilDark_12 rfl (by decide) rfl ?_
  refine x_perm (wss' := [ccO g a b y z, stO g a 10 v, cdW g a 10 c, evW g a 10 e, stO g a 20 u1.1, cdW g a 20 u1.2.1, evW g a 20 u1.2.2]) (x_pick [6, 3, 4, 5, 0, 1, 2] 7 rfl rfl rfl) ?_
  refine x_locals (lv' := [(0, .ref (a 0)), (1, .int (0 : Int32))]) [1, 0] rfl ?_
  exact hL13 xFuel u1.1 u1.2.1 u1.2.2 (0 : Int32) hf
theorem wd_1355 : Cond.methodLink RX9 227 yX8_leap ∈ xTB := xTB_in 1355 (by decide +kernel) (by decide +kernel)
theorem wd_1356 : Cond.instanceMethod yX8_leap ∈ xTB := xTB_in 1356 (by decide +kernel) (by decide +kernel)
theorem wd_1357 : Cond.selects yX8_leap.cls yX8_leap yX8_leap ∈ xTB := xTB_in 1357 (by decide +kernel) (by decide +kernel)
theorem wd_1358 : Cond.code yX8_leap cX8_leap 3 none ∈ xTB := xTB_in 1358 (by decide +kernel) (by decide +kernel)
theorem dX9_minutesUntilDarkByLeaps_0 : decode cX9_minutesUntilDarkByLeaps 0 = .ok (.aload_n 0, 1) := by decide +kernel
theorem dX9_minutesUntilDarkByLeaps_1 : decode cX9_minutesUntilDarkByLeaps 1 = .ok (.getfield 16, 3) := by decide +kernel
theorem dX9_minutesUntilDarkByLeaps_4 : decode cX9_minutesUntilDarkByLeaps 4 = .ok (.aload_n 0, 1) := by decide +kernel
theorem dX9_minutesUntilDarkByLeaps_5 : decode cX9_minutesUntilDarkByLeaps 5 = .ok (.getfield 12, 3) := by decide +kernel
theorem dX9_minutesUntilDarkByLeaps_8 : decode cX9_minutesUntilDarkByLeaps 8 = .ok (.invokevirtual 216, 3) := by decide +kernel
theorem dX9_minutesUntilDarkByLeaps_11 : decode cX9_minutesUntilDarkByLeaps 11 = .ok (.iconst 0, 1) := by decide +kernel
theorem dX9_minutesUntilDarkByLeaps_12 : decode cX9_minutesUntilDarkByLeaps 12 = .ok (.istore_n 1, 1) := by decide +kernel
theorem dX9_minutesUntilDarkByLeaps_13 : decode cX9_minutesUntilDarkByLeaps 13 = .ok (.iload_n 1, 1) := by decide +kernel
theorem dX9_minutesUntilDarkByLeaps_14 : decode cX9_minutesUntilDarkByLeaps 14 = .ok (.ldc 219, 2) := by decide +kernel
theorem dX9_minutesUntilDarkByLeaps_16 : decode cX9_minutesUntilDarkByLeaps 16 = .ok (.if_icmp .ge 26, 3) := by decide +kernel
theorem dX9_minutesUntilDarkByLeaps_19 : decode cX9_minutesUntilDarkByLeaps 19 = .ok (.aload_n 0, 1) := by decide +kernel
theorem dX9_minutesUntilDarkByLeaps_20 : decode cX9_minutesUntilDarkByLeaps 20 = .ok (.getfield 16, 3) := by decide +kernel
theorem dX9_minutesUntilDarkByLeaps_23 : decode cX9_minutesUntilDarkByLeaps 23 = .ok (.invokevirtual 220, 3) := by decide +kernel
theorem dX9_minutesUntilDarkByLeaps_26 : decode cX9_minutesUntilDarkByLeaps 26 = .ok (.ifCond .ne 16, 3) := by decide +kernel
theorem dX9_minutesUntilDarkByLeaps_29 : decode cX9_minutesUntilDarkByLeaps 29 = .ok (.aload_n 0, 1) := by decide +kernel
theorem dX9_minutesUntilDarkByLeaps_30 : decode cX9_minutesUntilDarkByLeaps 30 = .ok (.getfield 16, 3) := by decide +kernel
theorem dX9_minutesUntilDarkByLeaps_33 : decode cX9_minutesUntilDarkByLeaps 33 = .ok (.invokevirtual 227, 3) := by decide +kernel
theorem dX9_minutesUntilDarkByLeaps_36 : decode cX9_minutesUntilDarkByLeaps 36 = .ok (.iinc 1 1, 3) := by decide +kernel
theorem dX9_minutesUntilDarkByLeaps_39 : decode cX9_minutesUntilDarkByLeaps 39 = .ok (.goto (-26), 3) := by decide +kernel
theorem dX9_minutesUntilDarkByLeaps_42 : decode cX9_minutesUntilDarkByLeaps 42 = .ok (.aload_n 0, 1) := by decide +kernel
theorem dX9_minutesUntilDarkByLeaps_43 : decode cX9_minutesUntilDarkByLeaps 43 = .ok (.getfield 16, 3) := by decide +kernel
theorem dX9_minutesUntilDarkByLeaps_46 : decode cX9_minutesUntilDarkByLeaps 46 = .ok (.getfield 207, 3) := by decide +kernel
theorem dX9_minutesUntilDarkByLeaps_49 : decode cX9_minutesUntilDarkByLeaps 49 = .ok (.aload_n 0, 1) := by decide +kernel
theorem dX9_minutesUntilDarkByLeaps_50 : decode cX9_minutesUntilDarkByLeaps 50 = .ok (.getfield 12, 3) := by decide +kernel
theorem dX9_minutesUntilDarkByLeaps_53 : decode cX9_minutesUntilDarkByLeaps 53 = .ok (.getfield 207, 3) := by decide +kernel
theorem dX9_minutesUntilDarkByLeaps_56 : decode cX9_minutesUntilDarkByLeaps 56 = .ok (.isub, 1) := by decide +kernel
theorem dX9_minutesUntilDarkByLeaps_57 : decode cX9_minutesUntilDarkByLeaps 57 = .ok (.ireturn, 1) := by decide +kernel
set_option maxHeartbeats 4000000 in
set_option maxRecDepth 100000 in
theorem c_X9_minutesUntilDarkByLeaps (g : xG) (l : Launch) (a : Nat → Nat) (b : Nat → Nat) (y : Nat) (z : CcT) (v : StS) (c : CdT) (e : EvT) (v2 : StS) (c2 : CdT) (e2 : EvT)  {u : Int32 × StS × CdT × EvT} (hf : f_X9_minutesUntilDarkByLeaps z v c e v2 c2 e2 = some u) : ConD g l yX9_minutesUntilDarkByLeaps cX9_minutesUntilDarkByLeaps 2 (some .int) ({ frames := 5, cells := 0, slots := 0, locals := 109 } : Room) [.ref (a 0)] [ccO g a b y z, stO g a 10 v, cdW g a 10 c, evW g a 10 e, stO g a 20 v2, cdW g a 20 c2, evW g a 20 e2] (some (.int u.1)) [ccO g a b y z, stO g a 10 v, cdW g a 10 c, evW g a 10 e, stO g a 20 u.2.1, cdW g a 20 u.2.2.1, evW g a 20 u.2.2.2] := by
  unfold f_X9_minutesUntilDarkByLeaps at hf
  refine Con_of [ccO g a b y z, stO g a 10 v, cdW g a 10 c, evW g a 10 e, stO g a 20 v2, cdW g a 20 c2, evW g a 20 e2] [(0, .ref (a 0))] rfl rfl (by decide) (Nat.le_of_ble_eq_true rfl) ?_
  intro pW eW sW mW argsW belowW methW c9 C hnm hr
  have C : CX g RX9 cX9_minutesUntilDarkByLeaps 2 _ pW sW mW argsW methW c9 := C
  have hL13 : ∀ (nW : Nat) (v2L : StS) (c2L : CdT) (e2L : EvT) (x1 : Int32), f_X9_minutesUntilDarkByLeaps_13 nW z v c e v2L c2L e2L x1 = some u → VW g (va_A ([ccO g a b y z, stO g a 10 v, cdW g a 10 c, evW g a 10 e, stO g a 20 v2, cdW g a 20 c2, evW g a 20 e2] : List va_W).flatten sW.heap.size) 2 pW l eW ({ frames := 5, cells := 0, slots := 0, locals := 109 } : Room) sW mW argsW belowW methW c9 0 0 (MQ belowW (xQc g ([ccO g a b y z, stO g a 10 v, cdW g a 10 c, evW g a 10 e, stO g a 20 v2, cdW g a 20 c2, evW g a 20 e2] : List va_W).flatten sW.heap.size (fun v9 w9 => v9 = some (.int u.1) ∧ w9 = ([ccO g a b y z, stO g a 10 v, cdW g a 10 c, evW g a 10 e, stO g a 20 u.2.1, cdW g a 20 u.2.2.1, evW g a 20 u.2.2.2] : List va_W).flatten)) argsW sW 0 0 (va_A ([ccO g a b y z, stO g a 10 v, cdW g a 10 c, evW g a 10 e, stO g a 20 v2, cdW g a 20 c2, evW g a 20 e2] : List va_W).flatten sW.heap.size)) [ccO g a b y z, stO g a 10 v, cdW g a 10 c, evW g a 10 e, stO g a 20 v2L, cdW g a 20 c2L, evW g a 20 e2L] [(0, .ref (a 0)), (1, .int x1)] 13 [] := by
    intro nW
    induction nW with
    | zero => intro v2L c2L e2L x1 hf; rw [f_X9_minutesUntilDarkByLeaps_13] at hf; cases hf
    | succ nW ih =>
      intro v2L c2L e2L x1 hf
      rw [f_X9_minutesUntilDarkByLeaps_13] at hf
      refine x_iload_n C dX9_minutesUntilDarkByLeaps_13 rfl 1 rfl ?_
      refine x_ldc C wd_173 dX9_minutesUntilDarkByLeaps_14 ?_
      refine x_icmp_ge (tgt := 42) C dX9_minutesUntilDarkByLeaps_16 (by decide) (fun h1 => ?_) (fun h1 => ?_)
      · have hf := x_t h1 hf
        refine x_aload_n C dX9_minutesUntilDarkByLeaps_42 rfl 0 rfl ?_
        refine x_get (ci := 10) (v := .ref (a (20 + 0))) (b := ccO g a b y z) C ixX9 rfl 1 (by decide) wd_1001 (fun _ h => h) 0 rfl 0 (ccO_at0 g a b y _) rfl dX9_minutesUntilDarkByLeaps_43 ?_
        refine x_get (ci := 9) (v := .int v2L.2.2.1) (b := stO g a 20 v2L) C ixX8 rfl 4 (by decide) wd_882 (fun _ h => h) 4 rfl 0 (stO_at0 g a 20 _) rfl dX9_minutesUntilDarkByLeaps_46 ?_
        refine x_aload_n C dX9_minutesUntilDarkByLeaps_49 rfl 0 rfl ?_
        refine x_get (ci := 10) (v := .ref (a (10 + 0))) (b := ccO g a b y z) C ixX9 rfl 0 (by decide) wd_1000 (fun _ h => h) 0 rfl 0 (ccO_at0 g a b y _) rfl dX9_minutesUntilDarkByLeaps_50 ?_
        refine x_get (ci := 9) (v := .int v.2.2.1) (b := stO g a 10 v) C ixX8 rfl 4 (by decide) wd_882 (fun _ h => h) 1 rfl 0 (stO_at0 g a 10 _) rfl dX9_minutesUntilDarkByLeaps_53 ?_
        refine x_isub C dX9_minutesUntilDarkByLeaps_56 ?_
        exact x_iret C hr ⟨by cases hf; rfl, by cases hf; rfl⟩ dX9_minutesUntilDarkByLeaps_57
      · have hf := x_f h1 hf
        refine x_aload_n C dX9_minutesUntilDarkByLeaps_19 rfl 0 rfl ?_
        refine x_get (ci := 10) (v := .ref (a (20 + 0))) (b := ccO g a b y z) C ixX9 rfl 1 (by decide) wd_1001 (fun _ h => h) 0 rfl 0 (ccO_at0 g a b y _) rfl dX9_minutesUntilDarkByLeaps_20 ?_
        obtain ⟨u2, hu2, hf⟩ := x_b hf
        refine x_callV (n := 0) (As := []) (rest := []) C (c_X8_isDark g l a 20 v2L c2L e2L hu2) ⟨⟨wd_177, wd_174, wd_26⟩, ⟨by decide, by decide, by decide⟩, rfl, rfl, Nat.le_of_ble_eq_true rfl, Nat.le_of_ble_eq_true rfl⟩ wd_175 wd_176 ⟨0, 9, _, _, rfl, rfl, rfl⟩ [ccO g a b y z, stO g a 10 v, cdW g a 10 c, evW g a 10 e] (x_pickD [4, 5, 6, 0, 1, 2, 3] 7 rfl rfl rfl) rfl rfl (Nat.le_of_ble_eq_true rfl) ⟨Nat.le_of_ble_eq_true rfl, Nat.le_of_ble_eq_true rfl⟩ dX9_minutesUntilDarkByLeaps_23 (x_goD (wss2 := [stO g a 20 v2L, cdW g a 20 c2L, evW g a 20 e2L, ccO g a b y z, stO g a 10 v, cdW g a 10 c, evW g a 10 e]) (stk2 := [.int u2]) rfl rfl ?_)
        refine x_if_ne (tgt := 42) C dX9_minutesUntilDarkByLeaps_26 (by decide) (fun h3 => ?_) (fun h3 => ?_)
        · have hf := x_f h3 hf
          refine x_aload_n C dX9_minutesUntilDarkByLeaps_42 rfl 0 rfl ?_
          refine x_get (ci := 10) (v := .ref (a (20 + 0))) (b := ccO g a b y z) C ixX9 rfl 1 (by decide) wd_1001 (fun _ h => h) 3 rfl 0 (ccO_at0 g a b y _) rfl dX9_minutesUntilDarkByLeaps_43 ?_
          refine x_get (ci := 9) (v := .int v2L.2.2.1) (b := stO g a 20 v2L) C ixX8 rfl 4 (by decide) wd_882 (fun _ h => h) 0 rfl 0 (stO_at0 g a 20 _) rfl dX9_minutesUntilDarkByLeaps_46 ?_
          refine x_aload_n C dX9_minutesUntilDarkByLeaps_49 rfl 0 rfl ?_
          refine x_get (ci := 10) (v := .ref (a (10 + 0))) (b := ccO g a b y z) C ixX9 rfl 0 (by decide) wd_1000 (fun _ h => h) 3 rfl 0 (ccO_at0 g a b y _) rfl dX9_minutesUntilDarkByLeaps_50 ?_
          refine x_get (ci := 9) (v := .int v.2.2.1) (b := stO g a 10 v) C ixX8 rfl 4 (by decide) wd_882 (fun _ h => h) 4 rfl 0 (stO_at0 g a 10 _) rfl dX9_minutesUntilDarkByLeaps_53 ?_
          refine x_isub C dX9_minutesUntilDarkByLeaps_56 ?_
          refine x_perm (wss' := [ccO g a b y z, stO g a 10 v, cdW g a 10 c, evW g a 10 e, stO g a 20 v2L, cdW g a 20 c2L, evW g a 20 e2L]) (x_pick [3, 4, 5, 6, 0, 1, 2] 7 rfl rfl rfl) ?_
          exact x_iret C hr ⟨by cases hf; rfl, by cases hf; rfl⟩ dX9_minutesUntilDarkByLeaps_57
        · have hf := x_t h3 hf
          refine x_aload_n C dX9_minutesUntilDarkByLeaps_29 rfl 0 rfl ?_
          refine x_get (ci := 10) (v := .ref (a (20 + 0))) (b := ccO g a b y z) C ixX9 rfl 1 (by decide) wd_1001 (fun _ h => h) 3 rfl 0 (ccO_at0 g a b y _) rfl dX9_minutesUntilDarkByLeaps_30 ?_
          obtain ⟨u4, hu4, hf⟩ := x_b hf
          refine x_callV (n := 0) (As := []) (rest := []) C (c_X8_leap g l a 20 v2L c2L e2L hu4) ⟨⟨wd_1358, wd_1355, wd_26⟩, ⟨by decide, by decide, by decide⟩, rfl, rfl, Nat.le_of_ble_eq_true rfl, Nat.le_of_ble_eq_true rfl⟩ wd_1356 wd_1357 ⟨0, 9, _, _, rfl, rfl, rfl⟩ [ccO g a b y z, stO g a 10 v, cdW g a 10 c, evW g a 10 e] (x_pickD [0, 1, 2, 3, 4, 5, 6] 7 rfl rfl rfl) rfl rfl (Nat.le_of_ble_eq_true rfl) ⟨Nat.le_of_ble_eq_true rfl, Nat.le_of_ble_eq_true rfl⟩ dX9_minutesUntilDarkByLeaps_33 (x_goD (wss2 := [stO g a 20 u4.1, cdW g a 20 u4.2.1, evW g a 20 u4.2.2, ccO g a b y z, stO g a 10 v, cdW g a 10 c, evW g a 10 e]) (stk2 := []) rfl rfl ?_)
          refine x_iinc (v := x1 + 1) (lv' := [(1, .int (x1 + 1)), (0, .ref (a 0))]) C dX9_minutesUntilDarkByLeaps_36 1 rfl rfl (by decide) rfl ?_
          refine x_goto (tgt := 13) C dX9_minutesUntilDarkByLeaps_39 (by decide) ?_
          refine x_perm (wss' := [ccO g a b y z, stO g a 10 v, cdW g a 10 c, evW g a 10 e, stO g a 20 u4.1, cdW g a 20 u4.2.1, evW g a 20 u4.2.2]) (x_pick [3, 4, 5, 6, 0, 1, 2] 7 rfl rfl rfl) ?_
          refine x_locals (lv' := [(0, .ref (a 0)), (1, .int (x1 + 1))]) [1, 0] rfl ?_
          exact ih u4.1 u4.2.1 u4.2.2 (x1 + 1) hf
  refine x_aload_n C dX9_minutesUntilDarkByLeaps_0 rfl 0 rfl ?_
  refine x_get (ci := 10) (v := .ref (a (20 + 0))) (b := ccO g a b y z) C ixX9 rfl 1 (by decide) wd_1001 (fun _ h => h) 0 rfl 0 (ccO_at0 g a b y _) rfl dX9_minutesUntilDarkByLeaps_1 ?_
  refine x_aload_n C dX9_minutesUntilDarkByLeaps_4 rfl 0 rfl ?_
  refine x_get (ci := 10) (v := .ref (a (10 + 0))) (b := ccO g a b y z) C ixX9 rfl 0 (by decide) wd_1000 (fun _ h => h) 0 rfl 0 (ccO_at0 g a b y _) rfl dX9_minutesUntilDarkByLeaps_5 ?_
  obtain ⟨u1, hu1, hf⟩ := x_b hf
  refine x_callV (n := 1) (As := [.ref (a (10 + 0))]) (rest := []) C (c_X8_copyFrom g l a 20 10 v2 c2 e2 v c e hu1) ⟨⟨wd_164, wd_161, wd_26⟩, ⟨by decide, by decide, by decide⟩, rfl, rfl, Nat.le_of_ble_eq_true rfl, Nat.le_of_ble_eq_true rfl⟩ wd_162 wd_163 ⟨0, 9, _, _, rfl, rfl, rfl⟩ [ccO g a b y z] (x_pickD [4, 5, 6, 1, 2, 3, 0] 7 rfl rfl rfl) rfl rfl (Nat.le_of_ble_eq_true rfl) ⟨Nat.le_of_ble_eq_true rfl, Nat.le_of_ble_eq_true rfl⟩ dX9_minutesUntilDarkByLeaps_8 (x_goD (wss2 := [stO g a 20 u1.1, cdW g a 20 u1.2.1, evW g a 20 u1.2.2, stO g a 10 v, cdW g a 10 c, evW g a 10 e, ccO g a b y z]) (stk2 := []) rfl rfl ?_)
  refine x_iconst (v := 0) C dX9_minutesUntilDarkByLeaps_11 (by decide) ?_
  refine x_istore_n (lv' := [(1, .int (0 : Int32)), (0, .ref (a 0))]) C dX9_minutesUntilDarkByLeaps_12 rfl (by decide) rfl ?_
  refine x_perm (wss' := [ccO g a b y z, stO g a 10 v, cdW g a 10 c, evW g a 10 e, stO g a 20 u1.1, cdW g a 20 u1.2.1, evW g a 20 u1.2.2]) (x_pick [6, 3, 4, 5, 0, 1, 2] 7 rfl rfl rfl) ?_
  refine x_locals (lv' := [(0, .ref (a 0)), (1, .int (0 : Int32))]) [1, 0] rfl ?_
  exact hL13 xFuel u1.1 u1.2.1 u1.2.2 (0 : Int32) hf
theorem wd_891 : Cond.fieldLink RX9 230 "CandleConcert$State" "lastCandle" "I" ∈ xTB := xTB_in 891 (by decide +kernel) (by decide +kernel)
theorem dX9_lastCandle_0 : decode cX9_lastCandle 0 = .ok (.aload_n 0, 1) := by decide +kernel
theorem dX9_lastCandle_1 : decode cX9_lastCandle 1 = .ok (.getfield 12, 3) := by decide +kernel
theorem dX9_lastCandle_4 : decode cX9_lastCandle 4 = .ok (.getfield 230, 3) := by decide +kernel
theorem dX9_lastCandle_7 : decode cX9_lastCandle 7 = .ok (.iconst (-1), 1) := by decide +kernel
theorem dX9_lastCandle_8 : decode cX9_lastCandle 8 = .ok (.if_icmp .ne 13, 3) := by decide +kernel
theorem dX9_lastCandle_11 : decode cX9_lastCandle 11 = .ok (.new 181, 3) := by decide +kernel
theorem dX9_lastCandle_14 : decode cX9_lastCandle 14 = .ok (.dup, 1) := by decide +kernel
theorem dX9_lastCandle_15 : decode cX9_lastCandle 15 = .ok (.ldc 233, 2) := by decide +kernel
theorem dX9_lastCandle_17 : decode cX9_lastCandle 17 = .ok (.invokespecial 185, 3) := by decide +kernel
theorem dX9_lastCandle_20 : decode cX9_lastCandle 20 = .ok (.athrow, 1) := by decide +kernel
theorem dX9_lastCandle_21 : decode cX9_lastCandle 21 = .ok (.aload_n 0, 1) := by decide +kernel
theorem dX9_lastCandle_22 : decode cX9_lastCandle 22 = .ok (.getfield 12, 3) := by decide +kernel
theorem dX9_lastCandle_25 : decode cX9_lastCandle 25 = .ok (.getfield 230, 3) := by decide +kernel
theorem dX9_lastCandle_28 : decode cX9_lastCandle 28 = .ok (.ireturn, 1) := by decide +kernel
set_option maxHeartbeats 4000000 in
set_option maxRecDepth 100000 in
theorem c_X9_lastCandle (g : xG) (l : Launch) (hl : l.stackTraces = false) (a : Nat → Nat) (b : Nat → Nat) (y : Nat) (z : CcT) (v : StS)  {u : (Nat ⊕ Int32)} (hf : f_X9_lastCandle z v = some u) : ConX g l yX9_lastCandle cX9_lastCandle 1 (some .int) ({ frames := 6, cells := 1, slots := 6, locals := 90 } : Room) [.ref (a 0)] ([ccO g a b y z, stO g a 10 v] : List va_W).flatten (fun v9 w9 => ∃ r9, u = Sum.inr r9 ∧ v9 = some (.int r9) ∧ w9 = ([ccO g a b y z, stO g a 10 v] : List va_W).flatten) (fun e9 w9 => ∃ k9, u = Sum.inl k9 ∧ e9 = xcE k9 ∧ w9 = ([ccO g a b y z, stO g a 10 v] : List va_W).flatten) 1 6 := by
  unfold f_X9_lastCandle at hf
  refine ConX_of [ccO g a b y z, stO g a 10 v] [(0, .ref (a 0))] rfl rfl (by decide) (Nat.le_of_ble_eq_true rfl) ?_
  intro pW eW sW mW argsW belowW methW c9 C hnm hr hout
  have C : CX g RX9 cX9_lastCandle 1 _ pW sW mW argsW methW c9 := C
  refine x_aload_n C dX9_lastCandle_0 rfl 0 rfl ?_
  refine x_get (ci := 10) (v := .ref (a (10 + 0))) (b := ccO g a b y z) C ixX9 rfl 0 (by decide) wd_1000 (fun _ h => h) 0 rfl 0 (ccO_at0 g a b y _) rfl dX9_lastCandle_1 ?_
  refine x_get (ci := 9) (v := .int v.2.2.2.2.2.2.2) (b := stO g a 10 v) C ixX8 rfl 9 (by decide) wd_891 (fun _ h => h) 1 rfl 0 (stO_at0 g a 10 _) rfl dX9_lastCandle_4 ?_
  refine x_iconst (v := (-1)) C dX9_lastCandle_7 (by decide) ?_
  refine x_icmp_ne (tgt := 21) C dX9_lastCandle_8 (by decide) (fun h1 => ?_) (fun h1 => ?_)
  · have hf := x_f h1 hf
    refine x_aload_n C dX9_lastCandle_21 rfl 0 rfl ?_
    refine x_get (ci := 10) (v := .ref (a (10 + 0))) (b := ccO g a b y z) C ixX9 rfl 0 (by decide) wd_1000 (fun _ h => h) 0 rfl 0 (ccO_at0 g a b y _) rfl dX9_lastCandle_22 ?_
    refine x_get (ci := 9) (v := .int v.2.2.2.2.2.2.2) (b := stO g a 10 v) C ixX8 rfl 9 (by decide) wd_891 (fun _ h => h) 1 rfl 0 (stO_at0 g a 10 _) rfl dX9_lastCandle_25 ?_
    refine x_widen (k := 1) (n := 6) (Nat.le_of_ble_eq_true rfl) (Nat.le_of_ble_eq_true rfl) ?_
    refine x_vx ?_
    exact x_iret C hr ⟨v.2.2.2.2.2.2.2, by cases hf; rfl, rfl, by cases hf; rfl⟩ dX9_lastCandle_28
  · have hf := x_t h1 hf
    exact x_throwN C hout hl wd_743 wd_51 (CX_str C ("CandleConcert", 233, "no candle went out", 13) (by decide)) at_185 og_181_185 dX9_lastCandle_11 dX9_lastCandle_14 dX9_lastCandle_15 dX9_lastCandle_17 dX9_lastCandle_20 ⟨Nat.le_of_ble_eq_true rfl, Nat.le_of_ble_eq_true rfl, Nat.le_of_ble_eq_true rfl, Nat.le_of_ble_eq_true rfl⟩ ⟨4, by cases hf; rfl, rfl, by cases hf; rfl⟩ (Nat.le_of_ble_eq_true rfl) (Nat.le_of_ble_eq_true rfl)
theorem wd_1369 : Cond.methodLink RX9 237 yX1_loudest ∈ xTB := xTB_in 1369 (by decide +kernel) (by decide +kernel)
theorem wd_1370 : Cond.instanceMethod yX1_loudest ∈ xTB := xTB_in 1370 (by decide +kernel) (by decide +kernel)
theorem wd_1371 : Cond.selects yX1_loudest.cls yX1_loudest yX1_loudest ∈ xTB := xTB_in 1371 (by decide +kernel) (by decide +kernel)
theorem wd_1372 : Cond.code yX1_loudest cX1_loudest 3 (some .char) ∈ xTB := xTB_in 1372 (by decide +kernel) (by decide +kernel)
theorem dX9_loudestVoice_0 : decode cX9_loudestVoice 0 = .ok (.aload_n 0, 1) := by decide +kernel
theorem dX9_loudestVoice_1 : decode cX9_loudestVoice 1 = .ok (.getfield 12, 3) := by decide +kernel
theorem dX9_loudestVoice_4 : decode cX9_loudestVoice 4 = .ok (.getfield 127, 3) := by decide +kernel
theorem dX9_loudestVoice_7 : decode cX9_loudestVoice 7 = .ok (.invokevirtual 152, 3) := by decide +kernel
theorem dX9_loudestVoice_10 : decode cX9_loudestVoice 10 = .ok (.ifCond .ne 13, 3) := by decide +kernel
theorem dX9_loudestVoice_13 : decode cX9_loudestVoice 13 = .ok (.new 181, 3) := by decide +kernel
theorem dX9_loudestVoice_16 : decode cX9_loudestVoice 16 = .ok (.dup, 1) := by decide +kernel
theorem dX9_loudestVoice_17 : decode cX9_loudestVoice 17 = .ok (.ldc 235, 2) := by decide +kernel
theorem dX9_loudestVoice_19 : decode cX9_loudestVoice 19 = .ok (.invokespecial 185, 3) := by decide +kernel
theorem dX9_loudestVoice_22 : decode cX9_loudestVoice 22 = .ok (.athrow, 1) := by decide +kernel
theorem dX9_loudestVoice_23 : decode cX9_loudestVoice 23 = .ok (.aload_n 0, 1) := by decide +kernel
theorem dX9_loudestVoice_24 : decode cX9_loudestVoice 24 = .ok (.getfield 12, 3) := by decide +kernel
theorem dX9_loudestVoice_27 : decode cX9_loudestVoice 27 = .ok (.getfield 127, 3) := by decide +kernel
theorem dX9_loudestVoice_30 : decode cX9_loudestVoice 30 = .ok (.invokevirtual 237, 3) := by decide +kernel
theorem dX9_loudestVoice_33 : decode cX9_loudestVoice 33 = .ok (.ireturn, 1) := by decide +kernel
set_option maxHeartbeats 4000000 in
set_option maxRecDepth 100000 in
theorem c_X9_loudestVoice (g : xG) (l : Launch) (hl : l.stackTraces = false) (a : Nat → Nat) (b : Nat → Nat) (y : Nat) (z : CcT) (v : StS) (c : CdT)  {u : (Nat ⊕ Int32)} (hf : f_X9_loudestVoice z v c = some u) : ConX g l yX9_loudestVoice cX9_loudestVoice 1 (some .char) ({ frames := 6, cells := 1, slots := 6, locals := 90 } : Room) [.ref (a 0)] ([ccO g a b y z, stO g a 10 v, cdW g a 10 c] : List va_W).flatten (fun v9 w9 => ∃ r9, u = Sum.inr r9 ∧ v9 = some (.int r9) ∧ w9 = ([ccO g a b y z, stO g a 10 v, cdW g a 10 c] : List va_W).flatten) (fun e9 w9 => ∃ k9, u = Sum.inl k9 ∧ e9 = xcE k9 ∧ w9 = ([ccO g a b y z, stO g a 10 v, cdW g a 10 c] : List va_W).flatten) 1 6 := by
  unfold f_X9_loudestVoice at hf
  refine ConX_of [ccO g a b y z, stO g a 10 v, cdW g a 10 c] [(0, .ref (a 0))] rfl rfl (by decide) (Nat.le_of_ble_eq_true rfl) ?_
  intro pW eW sW mW argsW belowW methW c9 C hnm hr hout
  have C : CX g RX9 cX9_loudestVoice 1 _ pW sW mW argsW methW c9 := C
  refine x_aload_n C dX9_loudestVoice_0 rfl 0 rfl ?_
  refine x_get (ci := 10) (v := .ref (a (10 + 0))) (b := ccO g a b y z) C ixX9 rfl 0 (by decide) wd_1000 (fun _ h => h) 0 rfl 0 (ccO_at0 g a b y _) rfl dX9_loudestVoice_1 ?_
  refine x_get (ci := 9) (v := .ref (a (10 + 1))) (b := stO g a 10 v) C ixX8 rfl 0 (by decide) wd_874 (fun _ h => h) 1 rfl 0 (stO_at0 g a 10 _) rfl dX9_loudestVoice_4 ?_
  obtain ⟨u1, hu1, hf⟩ := x_b hf
  refine x_callV (n := 0) (As := []) (rest := []) C (c_X1_countLit g l a 10 c hu1) ⟨⟨wd_181, wd_1350, wd_27⟩, ⟨by decide, by decide, by decide⟩, rfl, rfl, Nat.le_of_ble_eq_true rfl, Nat.le_of_ble_eq_true rfl⟩ wd_179 wd_180 ⟨0, 4, _, _, rfl, rfl, rfl⟩ [ccO g a b y z, stO g a 10 v] (x_pickD [2, 0, 1] 3 rfl rfl rfl) rfl rfl (Nat.le_of_ble_eq_true rfl) ⟨Nat.le_of_ble_eq_true rfl, Nat.le_of_ble_eq_true rfl⟩ dX9_loudestVoice_7 (x_goD (wss2 := [cdW g a 10 c, ccO g a b y z, stO g a 10 v]) (stk2 := [.int u1]) rfl rfl ?_)
  refine x_if_ne (tgt := 23) C dX9_loudestVoice_10 (by decide) (fun h2 => ?_) (fun h2 => ?_)
  · have hf := x_f h2 hf
    refine x_aload_n C dX9_loudestVoice_23 rfl 0 rfl ?_
    refine x_get (ci := 10) (v := .ref (a (10 + 0))) (b := ccO g a b y z) C ixX9 rfl 0 (by decide) wd_1000 (fun _ h => h) 1 rfl 0 (ccO_at0 g a b y _) rfl dX9_loudestVoice_24 ?_
    refine x_get (ci := 9) (v := .ref (a (10 + 1))) (b := stO g a 10 v) C ixX8 rfl 0 (by decide) wd_874 (fun _ h => h) 2 rfl 0 (stO_at0 g a 10 _) rfl dX9_loudestVoice_27 ?_
    obtain ⟨u3, hu3, hf⟩ := x_b hf
    refine x_callV (n := 0) (As := []) (rest := []) C (c_X1_loudest g l a 10 c hu3) ⟨⟨wd_1372, wd_1369, wd_27⟩, ⟨by decide, by decide, by decide⟩, rfl, rfl, Nat.le_of_ble_eq_true rfl, Nat.le_of_ble_eq_true rfl⟩ wd_1370 wd_1371 ⟨0, 4, _, _, rfl, rfl, rfl⟩ [ccO g a b y z, stO g a 10 v] (x_pickD [0, 1, 2] 3 rfl rfl rfl) rfl rfl (Nat.le_of_ble_eq_true rfl) ⟨Nat.le_of_ble_eq_true rfl, Nat.le_of_ble_eq_true rfl⟩ dX9_loudestVoice_30 (x_goD (wss2 := [cdW g a 10 c, ccO g a b y z, stO g a 10 v]) (stk2 := [.int u3]) rfl rfl ?_)
    obtain ⟨h4, hf⟩ := x_y hf
    refine x_perm (wss' := [ccO g a b y z, stO g a 10 v, cdW g a 10 c]) (x_pick [1, 2, 0] 3 rfl rfl rfl) ?_
    refine x_widen (k := 1) (n := 6) (Nat.le_of_ble_eq_true rfl) (Nat.le_of_ble_eq_true rfl) ?_
    refine x_vx ?_
    exact x_zret C hr (x_narC h4).1 ⟨u3, by cases hf; rfl, rfl, by cases hf; rfl⟩ dX9_loudestVoice_33
  · have hf := x_t h2 hf
    refine x_perm (wss' := [ccO g a b y z, stO g a 10 v, cdW g a 10 c]) (x_pick [1, 2, 0] 3 rfl rfl rfl) ?_
    exact x_throwN C hout hl wd_743 wd_51 (CX_str C ("CandleConcert", 235, "no candle is lit", 14) (by decide)) at_185 og_181_185 dX9_loudestVoice_13 dX9_loudestVoice_16 dX9_loudestVoice_17 dX9_loudestVoice_19 dX9_loudestVoice_22 ⟨Nat.le_of_ble_eq_true rfl, Nat.le_of_ble_eq_true rfl, Nat.le_of_ble_eq_true rfl, Nat.le_of_ble_eq_true rfl⟩ ⟨4, by cases hf; rfl, rfl, by cases hf; rfl⟩ (Nat.le_of_ble_eq_true rfl) (Nat.le_of_ble_eq_true rfl)
theorem wd_886 : Cond.fieldLink RX9 241 "CandleConcert$State" "addedWax" "J" ∈ xTB := xTB_in 886 (by decide +kernel) (by decide +kernel)
theorem dX9_addedWax_0 : decode cX9_addedWax 0 = .ok (.aload_n 0, 1) := by decide +kernel
theorem dX9_addedWax_1 : decode cX9_addedWax 1 = .ok (.getfield 12, 3) := by decide +kernel
theorem dX9_addedWax_4 : decode cX9_addedWax 4 = .ok (.getfield 241, 3) := by decide +kernel
theorem dX9_addedWax_7 : decode cX9_addedWax 7 = .ok (.lreturn, 1) := by decide +kernel
set_option maxHeartbeats 4000000 in
set_option maxRecDepth 100000 in
theorem c_X9_addedWax (g : xG) (l : Launch) (a : Nat → Nat) (b : Nat → Nat) (y : Nat) (z : CcT) (v : StS)  {u : Int64} (hf : f_X9_addedWax z v = some u) : ConD g l yX9_addedWax cX9_addedWax 1 (some .long) ({ frames := 0, cells := 0, slots := 0, locals := 0 } : Room) [.ref (a 0)] [ccO g a b y z, stO g a 10 v] (some (.long u)) [ccO g a b y z, stO g a 10 v] := by
  unfold f_X9_addedWax at hf
  refine Con_of [ccO g a b y z, stO g a 10 v] [(0, .ref (a 0))] rfl rfl (by decide) (Nat.le_of_ble_eq_true rfl) ?_
  intro pW eW sW mW argsW belowW methW c9 C hnm hr
  have C : CX g RX9 cX9_addedWax 1 _ pW sW mW argsW methW c9 := C
  refine x_aload_n C dX9_addedWax_0 rfl 0 rfl ?_
  refine x_get (ci := 10) (v := .ref (a (10 + 0))) (b := ccO g a b y z) C ixX9 rfl 0 (by decide) wd_1000 (fun _ h => h) 0 rfl 0 (ccO_at0 g a b y _) rfl dX9_addedWax_1 ?_
  refine x_get (ci := 9) (v := .long v.2.2.2.2.1) (b := stO g a 10 v) C ixX8 rfl 6 (by decide) wd_886 (fun _ h => h) 1 rfl 0 (stO_at0 g a 10 _) rfl dX9_addedWax_4 ?_
  exact x_lret C hr ⟨by cases hf; rfl, by cases hf; rfl⟩ dX9_addedWax_7
theorem wd_884 : Cond.fieldLink RX9 248 "CandleConcert$State" "burnt" "I" ∈ xTB := xTB_in 884 (by decide +kernel) (by decide +kernel)
theorem wd_1342 : Cond.methodLink RX9 245 yX1_sumOfWax ∈ xTB := xTB_in 1342 (by decide +kernel) (by decide +kernel)
theorem wd_1343 : Cond.instanceMethod yX1_sumOfWax ∈ xTB := xTB_in 1343 (by decide +kernel) (by decide +kernel)
theorem wd_1344 : Cond.selects yX1_sumOfWax.cls yX1_sumOfWax yX1_sumOfWax ∈ xTB := xTB_in 1344 (by decide +kernel) (by decide +kernel)
theorem wd_1345 : Cond.code yX1_sumOfWax cX1_sumOfWax 3 (some .int) ∈ xTB := xTB_in 1345 (by decide +kernel) (by decide +kernel)
theorem dX9_addedWaxByParts_0 : decode cX9_addedWaxByParts 0 = .ok (.aload_n 0, 1) := by decide +kernel
theorem dX9_addedWaxByParts_1 : decode cX9_addedWaxByParts 1 = .ok (.getfield 12, 3) := by decide +kernel
theorem dX9_addedWaxByParts_4 : decode cX9_addedWaxByParts 4 = .ok (.getfield 127, 3) := by decide +kernel
theorem dX9_addedWaxByParts_7 : decode cX9_addedWaxByParts 7 = .ok (.invokevirtual 245, 3) := by decide +kernel
theorem dX9_addedWaxByParts_10 : decode cX9_addedWaxByParts 10 = .ok (.aload_n 0, 1) := by decide +kernel
theorem dX9_addedWaxByParts_11 : decode cX9_addedWaxByParts 11 = .ok (.getfield 12, 3) := by decide +kernel
theorem dX9_addedWaxByParts_14 : decode cX9_addedWaxByParts 14 = .ok (.getfield 213, 3) := by decide +kernel
theorem dX9_addedWaxByParts_17 : decode cX9_addedWaxByParts 17 = .ok (.iadd, 1) := by decide +kernel
theorem dX9_addedWaxByParts_18 : decode cX9_addedWaxByParts 18 = .ok (.aload_n 0, 1) := by decide +kernel
theorem dX9_addedWaxByParts_19 : decode cX9_addedWaxByParts 19 = .ok (.getfield 12, 3) := by decide +kernel
theorem dX9_addedWaxByParts_22 : decode cX9_addedWaxByParts 22 = .ok (.getfield 248, 3) := by decide +kernel
theorem dX9_addedWaxByParts_25 : decode cX9_addedWaxByParts 25 = .ok (.iadd, 1) := by decide +kernel
theorem dX9_addedWaxByParts_26 : decode cX9_addedWaxByParts 26 = .ok (.i2l, 1) := by decide +kernel
theorem dX9_addedWaxByParts_27 : decode cX9_addedWaxByParts 27 = .ok (.lreturn, 1) := by decide +kernel
set_option maxHeartbeats 4000000 in
set_option maxRecDepth 100000 in
theorem c_X9_addedWaxByParts (g : xG) (l : Launch) (a : Nat → Nat) (b : Nat → Nat) (y : Nat) (z : CcT) (v : StS) (c : CdT)  {u : Int64} (hf : f_X9_addedWaxByParts z v c = some u) : ConD g l yX9_addedWaxByParts cX9_addedWaxByParts 1 (some .long) ({ frames := 1, cells := 0, slots := 0, locals := 22 } : Room) [.ref (a 0)] [ccO g a b y z, stO g a 10 v, cdW g a 10 c] (some (.long u)) [ccO g a b y z, stO g a 10 v, cdW g a 10 c] := by
  unfold f_X9_addedWaxByParts at hf
  refine Con_of [ccO g a b y z, stO g a 10 v, cdW g a 10 c] [(0, .ref (a 0))] rfl rfl (by decide) (Nat.le_of_ble_eq_true rfl) ?_
  intro pW eW sW mW argsW belowW methW c9 C hnm hr
  have C : CX g RX9 cX9_addedWaxByParts 1 _ pW sW mW argsW methW c9 := C
  refine x_aload_n C dX9_addedWaxByParts_0 rfl 0 rfl ?_
  refine x_get (ci := 10) (v := .ref (a (10 + 0))) (b := ccO g a b y z) C ixX9 rfl 0 (by decide) wd_1000 (fun _ h => h) 0 rfl 0 (ccO_at0 g a b y _) rfl dX9_addedWaxByParts_1 ?_
  refine x_get (ci := 9) (v := .ref (a (10 + 1))) (b := stO g a 10 v) C ixX8 rfl 0 (by decide) wd_874 (fun _ h => h) 1 rfl 0 (stO_at0 g a 10 _) rfl dX9_addedWaxByParts_4 ?_
  obtain ⟨u1, hu1, hf⟩ := x_b hf
  refine x_callV (n := 0) (As := []) (rest := []) C (c_X1_sumOfWax g l a 10 c hu1) ⟨⟨wd_1345, wd_1342, wd_27⟩, ⟨by decide, by decide, by decide⟩, rfl, rfl, Nat.le_of_ble_eq_true rfl, Nat.le_of_ble_eq_true rfl⟩ wd_1343 wd_1344 ⟨0, 4, _, _, rfl, rfl, rfl⟩ [ccO g a b y z, stO g a 10 v] (x_pickD [2, 0, 1] 3 rfl rfl rfl) rfl rfl (Nat.le_of_ble_eq_true rfl) ⟨Nat.le_of_ble_eq_true rfl, Nat.le_of_ble_eq_true rfl⟩ dX9_addedWaxByParts_7 (x_goD (wss2 := [cdW g a 10 c, ccO g a b y z, stO g a 10 v]) (stk2 := [.int u1]) rfl rfl ?_)
  refine x_aload_n C dX9_addedWaxByParts_10 rfl 0 rfl ?_
  refine x_get (ci := 10) (v := .ref (a (10 + 0))) (b := ccO g a b y z) C ixX9 rfl 0 (by decide) wd_1000 (fun _ h => h) 1 rfl 0 (ccO_at0 g a b y _) rfl dX9_addedWaxByParts_11 ?_
  refine x_get (ci := 9) (v := .int v.2.1) (b := stO g a 10 v) C ixX8 rfl 3 (by decide) wd_880 (fun _ h => h) 2 rfl 0 (stO_at0 g a 10 _) rfl dX9_addedWaxByParts_14 ?_
  refine x_iadd C dX9_addedWaxByParts_17 ?_
  refine x_aload_n C dX9_addedWaxByParts_18 rfl 0 rfl ?_
  refine x_get (ci := 10) (v := .ref (a (10 + 0))) (b := ccO g a b y z) C ixX9 rfl 0 (by decide) wd_1000 (fun _ h => h) 1 rfl 0 (ccO_at0 g a b y _) rfl dX9_addedWaxByParts_19 ?_
  refine x_get (ci := 9) (v := .int v.2.2.2.1) (b := stO g a 10 v) C ixX8 rfl 5 (by decide) wd_884 (fun _ h => h) 2 rfl 0 (stO_at0 g a 10 _) rfl dX9_addedWaxByParts_22 ?_
  refine x_iadd C dX9_addedWaxByParts_25 ?_
  refine x_i2l C dX9_addedWaxByParts_26 rfl ?_
  refine x_perm (wss' := [ccO g a b y z, stO g a 10 v, cdW g a 10 c]) (x_pick [1, 2, 0] 3 rfl rfl rfl) ?_
  exact x_lret C hr ⟨by cases hf; rfl, by cases hf; rfl⟩ dX9_addedWaxByParts_27
theorem dX9_burnt_0 : decode cX9_burnt 0 = .ok (.aload_n 0, 1) := by decide +kernel
theorem dX9_burnt_1 : decode cX9_burnt 1 = .ok (.getfield 12, 3) := by decide +kernel
theorem dX9_burnt_4 : decode cX9_burnt 4 = .ok (.getfield 248, 3) := by decide +kernel
theorem dX9_burnt_7 : decode cX9_burnt 7 = .ok (.ireturn, 1) := by decide +kernel
set_option maxHeartbeats 4000000 in
set_option maxRecDepth 100000 in
theorem c_X9_burnt (g : xG) (l : Launch) (a : Nat → Nat) (b : Nat → Nat) (y : Nat) (z : CcT) (v : StS)  {u : Int32} (hf : f_X9_burnt z v = some u) : ConD g l yX9_burnt cX9_burnt 1 (some .int) ({ frames := 0, cells := 0, slots := 0, locals := 0 } : Room) [.ref (a 0)] [ccO g a b y z, stO g a 10 v] (some (.int u)) [ccO g a b y z, stO g a 10 v] := by
  unfold f_X9_burnt at hf
  refine Con_of [ccO g a b y z, stO g a 10 v] [(0, .ref (a 0))] rfl rfl (by decide) (Nat.le_of_ble_eq_true rfl) ?_
  intro pW eW sW mW argsW belowW methW c9 C hnm hr
  have C : CX g RX9 cX9_burnt 1 _ pW sW mW argsW methW c9 := C
  refine x_aload_n C dX9_burnt_0 rfl 0 rfl ?_
  refine x_get (ci := 10) (v := .ref (a (10 + 0))) (b := ccO g a b y z) C ixX9 rfl 0 (by decide) wd_1000 (fun _ h => h) 0 rfl 0 (ccO_at0 g a b y _) rfl dX9_burnt_1 ?_
  refine x_get (ci := 9) (v := .int v.2.2.2.1) (b := stO g a 10 v) C ixX8 rfl 5 (by decide) wd_884 (fun _ h => h) 1 rfl 0 (stO_at0 g a 10 _) rfl dX9_burnt_4 ?_
  exact x_iret C hr ⟨by cases hf; rfl, by cases hf; rfl⟩ dX9_burnt_7
theorem wd_158 : Cond.instanceMethod yX9_minutesUntilDark ∈ xTB := xTB_in 158 (by decide +kernel) (by decide +kernel)
theorem wd_159 : Cond.selects yX9_minutesUntilDark.cls yX9_minutesUntilDark yX9_minutesUntilDark ∈ xTB := xTB_in 159 (by decide +kernel) (by decide +kernel)
theorem wd_160 : Cond.code yX9_minutesUntilDark cX9_minutesUntilDark 2 (some .int) ∈ xTB := xTB_in 160 (by decide +kernel) (by decide +kernel)
theorem wd_1275 : Cond.instanceMethod yX9_addedWax ∈ xTB := xTB_in 1275 (by decide +kernel) (by decide +kernel)
theorem wd_1276 : Cond.selects yX9_addedWax.cls yX9_addedWax yX9_addedWax ∈ xTB := xTB_in 1276 (by decide +kernel) (by decide +kernel)
theorem wd_1277 : Cond.code yX9_addedWax cX9_addedWax 1 (some .long) ∈ xTB := xTB_in 1277 (by decide +kernel) (by decide +kernel)
theorem wd_1339 : Cond.instanceMethod yX9_addedWaxByParts ∈ xTB := xTB_in 1339 (by decide +kernel) (by decide +kernel)
theorem wd_1340 : Cond.selects yX9_addedWaxByParts.cls yX9_addedWaxByParts yX9_addedWaxByParts ∈ xTB := xTB_in 1340 (by decide +kernel) (by decide +kernel)
theorem wd_1341 : Cond.code yX9_addedWaxByParts cX9_addedWaxByParts 1 (some .long) ∈ xTB := xTB_in 1341 (by decide +kernel) (by decide +kernel)
theorem wd_1352 : Cond.instanceMethod yX9_minutesUntilDarkByLeaps ∈ xTB := xTB_in 1352 (by decide +kernel) (by decide +kernel)
theorem wd_1353 : Cond.selects yX9_minutesUntilDarkByLeaps.cls yX9_minutesUntilDarkByLeaps yX9_minutesUntilDarkByLeaps ∈ xTB := xTB_in 1353 (by decide +kernel) (by decide +kernel)
theorem wd_1354 : Cond.code yX9_minutesUntilDarkByLeaps cX9_minutesUntilDarkByLeaps 2 (some .int) ∈ xTB := xTB_in 1354 (by decide +kernel) (by decide +kernel)
theorem wd_1379 : Cond.methodLink RX9 256 yX9_minutesUntilDark ∈ xTB := xTB_in 1379 (by decide +kernel) (by decide +kernel)
theorem wd_1380 : Cond.methodLink RX9 259 yX9_minutesUntilDarkByLeaps ∈ xTB := xTB_in 1380 (by decide +kernel) (by decide +kernel)
theorem wd_1381 : Cond.methodLink RX9 262 yX9_addedWax ∈ xTB := xTB_in 1381 (by decide +kernel) (by decide +kernel)
theorem wd_1382 : Cond.methodLink RX9 265 yX9_addedWaxByParts ∈ xTB := xTB_in 1382 (by decide +kernel) (by decide +kernel)
theorem dX9_isConsistent_0 : decode cX9_isConsistent 0 = .ok (.iconst 0, 1) := by decide +kernel
theorem dX9_isConsistent_1 : decode cX9_isConsistent 1 = .ok (.istore_n 1, 1) := by decide +kernel
theorem dX9_isConsistent_2 : decode cX9_isConsistent 2 = .ok (.iload_n 1, 1) := by decide +kernel
theorem dX9_isConsistent_3 : decode cX9_isConsistent 3 = .ok (.aload_n 0, 1) := by decide +kernel
theorem dX9_isConsistent_4 : decode cX9_isConsistent 4 = .ok (.getfield 12, 3) := by decide +kernel
theorem dX9_isConsistent_7 : decode cX9_isConsistent 7 = .ok (.getfield 127, 3) := by decide +kernel
theorem dX9_isConsistent_10 : decode cX9_isConsistent 10 = .ok (.getfield 131, 3) := by decide +kernel
theorem dX9_isConsistent_13 : decode cX9_isConsistent 13 = .ok (.if_icmp .ge 80, 3) := by decide +kernel
theorem dX9_isConsistent_16 : decode cX9_isConsistent 16 = .ok (.aload_n 0, 1) := by decide +kernel
theorem dX9_isConsistent_17 : decode cX9_isConsistent 17 = .ok (.getfield 12, 3) := by decide +kernel
theorem dX9_isConsistent_20 : decode cX9_isConsistent 20 = .ok (.iload_n 1, 1) := by decide +kernel
theorem dX9_isConsistent_21 : decode cX9_isConsistent 21 = .ok (.invokevirtual 171, 3) := by decide +kernel
theorem dX9_isConsistent_24 : decode cX9_isConsistent 24 = .ok (.aload_n 0, 1) := by decide +kernel
theorem dX9_isConsistent_25 : decode cX9_isConsistent 25 = .ok (.getfield 12, 3) := by decide +kernel
theorem dX9_isConsistent_28 : decode cX9_isConsistent 28 = .ok (.iload_n 1, 1) := by decide +kernel
theorem dX9_isConsistent_29 : decode cX9_isConsistent 29 = .ok (.invokevirtual 174, 3) := by decide +kernel
theorem dX9_isConsistent_32 : decode cX9_isConsistent 32 = .ok (.if_icmp .ne 7, 3) := by decide +kernel
theorem dX9_isConsistent_35 : decode cX9_isConsistent 35 = .ok (.iconst 1, 1) := by decide +kernel
theorem dX9_isConsistent_36 : decode cX9_isConsistent 36 = .ok (.goto 4, 3) := by decide +kernel
theorem dX9_isConsistent_39 : decode cX9_isConsistent 39 = .ok (.iconst 0, 1) := by decide +kernel
theorem dX9_isConsistent_40 : decode cX9_isConsistent 40 = .ok (.istore_n 2, 1) := by decide +kernel
theorem dX9_isConsistent_41 : decode cX9_isConsistent 41 = .ok (.aload_n 0, 1) := by decide +kernel
theorem dX9_isConsistent_42 : decode cX9_isConsistent 42 = .ok (.getfield 12, 3) := by decide +kernel
theorem dX9_isConsistent_45 : decode cX9_isConsistent 45 = .ok (.getfield 127, 3) := by decide +kernel
theorem dX9_isConsistent_48 : decode cX9_isConsistent 48 = .ok (.getfield 148, 3) := by decide +kernel
theorem dX9_isConsistent_51 : decode cX9_isConsistent 51 = .ok (.iload_n 1, 1) := by decide +kernel
theorem dX9_isConsistent_52 : decode cX9_isConsistent 52 = .ok (.baload, 1) := by decide +kernel
theorem dX9_isConsistent_53 : decode cX9_isConsistent 53 = .ok (.ifCond .eq 22, 3) := by decide +kernel
theorem dX9_isConsistent_56 : decode cX9_isConsistent 56 = .ok (.aload_n 0, 1) := by decide +kernel
theorem dX9_isConsistent_57 : decode cX9_isConsistent 57 = .ok (.getfield 12, 3) := by decide +kernel
theorem dX9_isConsistent_60 : decode cX9_isConsistent 60 = .ok (.getfield 127, 3) := by decide +kernel
theorem dX9_isConsistent_63 : decode cX9_isConsistent 63 = .ok (.getfield 141, 3) := by decide +kernel
theorem dX9_isConsistent_66 : decode cX9_isConsistent 66 = .ok (.iload_n 1, 1) := by decide +kernel
theorem dX9_isConsistent_67 : decode cX9_isConsistent 67 = .ok (.iaload, 1) := by decide +kernel
theorem dX9_isConsistent_68 : decode cX9_isConsistent 68 = .ok (.ifCond .ne 7, 3) := by decide +kernel
theorem dX9_isConsistent_71 : decode cX9_isConsistent 71 = .ok (.iconst 1, 1) := by decide +kernel
theorem dX9_isConsistent_72 : decode cX9_isConsistent 72 = .ok (.goto 4, 3) := by decide +kernel
theorem dX9_isConsistent_75 : decode cX9_isConsistent 75 = .ok (.iconst 0, 1) := by decide +kernel
theorem dX9_isConsistent_76 : decode cX9_isConsistent 76 = .ok (.istore_n 3, 1) := by decide +kernel
theorem dX9_isConsistent_77 : decode cX9_isConsistent 77 = .ok (.iload_n 2, 1) := by decide +kernel
theorem dX9_isConsistent_78 : decode cX9_isConsistent 78 = .ok (.ifCond .eq 7, 3) := by decide +kernel
theorem dX9_isConsistent_81 : decode cX9_isConsistent 81 = .ok (.iload_n 3, 1) := by decide +kernel
theorem dX9_isConsistent_82 : decode cX9_isConsistent 82 = .ok (.ifCond .eq 5, 3) := by decide +kernel
theorem dX9_isConsistent_85 : decode cX9_isConsistent 85 = .ok (.iconst 0, 1) := by decide +kernel
theorem dX9_isConsistent_86 : decode cX9_isConsistent 86 = .ok (.ireturn, 1) := by decide +kernel
theorem dX9_isConsistent_87 : decode cX9_isConsistent 87 = .ok (.iinc 1 1, 3) := by decide +kernel
theorem dX9_isConsistent_90 : decode cX9_isConsistent 90 = .ok (.goto (-88), 3) := by decide +kernel
theorem dX9_isConsistent_93 : decode cX9_isConsistent 93 = .ok (.aload_n 0, 1) := by decide +kernel
theorem dX9_isConsistent_94 : decode cX9_isConsistent 94 = .ok (.invokevirtual 256, 3) := by decide +kernel
theorem dX9_isConsistent_97 : decode cX9_isConsistent 97 = .ok (.aload_n 0, 1) := by decide +kernel
theorem dX9_isConsistent_98 : decode cX9_isConsistent 98 = .ok (.invokevirtual 259, 3) := by decide +kernel
theorem dX9_isConsistent_101 : decode cX9_isConsistent 101 = .ok (.if_icmp .ne 19, 3) := by decide +kernel
theorem dX9_isConsistent_104 : decode cX9_isConsistent 104 = .ok (.aload_n 0, 1) := by decide +kernel
theorem dX9_isConsistent_105 : decode cX9_isConsistent 105 = .ok (.invokevirtual 262, 3) := by decide +kernel
theorem dX9_isConsistent_108 : decode cX9_isConsistent 108 = .ok (.aload_n 0, 1) := by decide +kernel
theorem dX9_isConsistent_109 : decode cX9_isConsistent 109 = .ok (.invokevirtual 265, 3) := by decide +kernel
theorem dX9_isConsistent_112 : decode cX9_isConsistent 112 = .ok (.lcmp, 1) := by decide +kernel
theorem dX9_isConsistent_113 : decode cX9_isConsistent 113 = .ok (.ifCond .ne 7, 3) := by decide +kernel
theorem dX9_isConsistent_116 : decode cX9_isConsistent 116 = .ok (.iconst 1, 1) := by decide +kernel
theorem dX9_isConsistent_117 : decode cX9_isConsistent 117 = .ok (.goto 4, 3) := by decide +kernel
theorem dX9_isConsistent_120 : decode cX9_isConsistent 120 = .ok (.iconst 0, 1) := by decide +kernel
theorem dX9_isConsistent_121 : decode cX9_isConsistent 121 = .ok (.ireturn, 1) := by decide +kernel
set_option maxHeartbeats 4000000 in
set_option maxRecDepth 100000 in
theorem c_X9_isConsistent (g : xG) (l : Launch) (a : Nat → Nat) (b : Nat → Nat) (y : Nat) (z : CcT) (v : StS) (c : CdT) (e : EvT) (v2 : StS) (c2 : CdT) (e2 : EvT)  {u : Int32 × StS × CdT × EvT} (hf : f_X9_isConsistent z v c e v2 c2 e2 = some u) : ConD g l yX9_isConsistent cX9_isConsistent 4 (some .boolean) ({ frames := 6, cells := 0, slots := 0, locals := 130 } : Room) [.ref (a 0)] [ccO g a b y z, stO g a 10 v, cdW g a 10 c, evW g a 10 e, stO g a 20 v2, cdW g a 20 c2, evW g a 20 e2] (some (.int u.1)) [ccO g a b y z, stO g a 10 v, cdW g a 10 c, evW g a 10 e, stO g a 20 u.2.1, cdW g a 20 u.2.2.1, evW g a 20 u.2.2.2] := by
  unfold f_X9_isConsistent at hf
  refine Con_of [ccO g a b y z, stO g a 10 v, cdW g a 10 c, evW g a 10 e, stO g a 20 v2, cdW g a 20 c2, evW g a 20 e2] [(0, .ref (a 0))] rfl rfl (by decide) (Nat.le_of_ble_eq_true rfl) ?_
  intro pW eW sW mW argsW belowW methW c9 C hnm hr
  have C : CX g RX9 cX9_isConsistent 4 _ pW sW mW argsW methW c9 := C
  have hL2 : ∀ (nW : Nat) (v2L : StS) (c2L : CdT) (e2L : EvT) (x1 : Int32), f_X9_isConsistent_2 nW z v c e v2L c2L e2L x1 = some u → VW g (va_A ([ccO g a b y z, stO g a 10 v, cdW g a 10 c, evW g a 10 e, stO g a 20 v2, cdW g a 20 c2, evW g a 20 e2] : List va_W).flatten sW.heap.size) 4 pW l eW ({ frames := 6, cells := 0, slots := 0, locals := 130 } : Room) sW mW argsW belowW methW c9 0 0 (MQ belowW (xQc g ([ccO g a b y z, stO g a 10 v, cdW g a 10 c, evW g a 10 e, stO g a 20 v2, cdW g a 20 c2, evW g a 20 e2] : List va_W).flatten sW.heap.size (fun v9 w9 => v9 = some (.int u.1) ∧ w9 = ([ccO g a b y z, stO g a 10 v, cdW g a 10 c, evW g a 10 e, stO g a 20 u.2.1, cdW g a 20 u.2.2.1, evW g a 20 u.2.2.2] : List va_W).flatten)) argsW sW 0 0 (va_A ([ccO g a b y z, stO g a 10 v, cdW g a 10 c, evW g a 10 e, stO g a 20 v2, cdW g a 20 c2, evW g a 20 e2] : List va_W).flatten sW.heap.size)) [ccO g a b y z, stO g a 10 v, cdW g a 10 c, evW g a 10 e, stO g a 20 v2L, cdW g a 20 c2L, evW g a 20 e2L] [(0, .ref (a 0)), (1, .int x1)] 2 [] := by
    intro nW
    induction nW with
    | zero => intro v2L c2L e2L x1 hf; rw [f_X9_isConsistent_2] at hf; cases hf
    | succ nW ih =>
      intro v2L c2L e2L x1 hf
      rw [f_X9_isConsistent_2] at hf
      refine x_iload_n C dX9_isConsistent_2 rfl 1 rfl ?_
      refine x_aload_n C dX9_isConsistent_3 rfl 0 rfl ?_
      refine x_get (ci := 10) (v := .ref (a (10 + 0))) (b := ccO g a b y z) C ixX9 rfl 0 (by decide) wd_1000 (fun _ h => h) 0 rfl 0 (ccO_at0 g a b y _) rfl dX9_isConsistent_4 ?_
      refine x_get (ci := 9) (v := .ref (a (10 + 1))) (b := stO g a 10 v) C ixX8 rfl 0 (by decide) wd_874 (fun _ h => h) 1 rfl 0 (stO_at0 g a 10 _) rfl dX9_isConsistent_7 ?_
      refine x_get (ci := 4) (v := .int c.2.2.2.2) (b := cdW g a 10 c) C ixX1 rfl 4 (by decide) wd_832 (fun _ h => h) 2 rfl 0 (cdW_at0 g a 10 _) rfl dX9_isConsistent_10 ?_
      refine x_icmp_ge (tgt := 93) C dX9_isConsistent_13 (by decide) (fun h1 => ?_) (fun h1 => ?_)
      · have hf := x_t h1 hf
        refine x_aload_n C dX9_isConsistent_93 rfl 0 rfl ?_
        obtain ⟨u2, hu2, hf⟩ := x_b hf
        refine x_callV (n := 0) (As := []) (rest := []) C (c_X9_minutesUntilDark g l a b y z v c e v2L c2L e2L hu2) ⟨⟨wd_160, wd_1379, wd_25⟩, ⟨by decide, by decide, by decide⟩, rfl, rfl, Nat.le_of_ble_eq_true rfl, Nat.le_of_ble_eq_true rfl⟩ wd_158 wd_159 ⟨0, 10, _, _, rfl, rfl, rfl⟩ [] (x_pickD [0, 1, 2, 3, 4, 5, 6] 7 rfl rfl rfl) rfl rfl (Nat.le_of_ble_eq_true rfl) ⟨Nat.le_of_ble_eq_true rfl, Nat.le_of_ble_eq_true rfl⟩ dX9_isConsistent_94 (x_goD (wss2 := [ccO g a b y z, stO g a 10 v, cdW g a 10 c, evW g a 10 e, stO g a 20 u2.2.1, cdW g a 20 u2.2.2.1, evW g a 20 u2.2.2.2]) (stk2 := [.int u2.1]) rfl rfl ?_)
        refine x_aload_n C dX9_isConsistent_97 rfl 0 rfl ?_
        obtain ⟨u3, hu3, hf⟩ := x_b hf
        refine x_callV (n := 0) (As := []) (rest := [.int u2.1]) C (c_X9_minutesUntilDarkByLeaps g l a b y z v c e u2.2.1 u2.2.2.1 u2.2.2.2 hu3) ⟨⟨wd_1354, wd_1380, wd_25⟩, ⟨by decide, by decide, by decide⟩, rfl, rfl, Nat.le_of_ble_eq_true rfl, Nat.le_of_ble_eq_true rfl⟩ wd_1352 wd_1353 ⟨0, 10, _, _, rfl, rfl, rfl⟩ [] (x_pickD [0, 1, 2, 3, 4, 5, 6] 7 rfl rfl rfl) rfl rfl (Nat.le_of_ble_eq_true rfl) ⟨Nat.le_of_ble_eq_true rfl, Nat.le_of_ble_eq_true rfl⟩ dX9_isConsistent_98 (x_goD (wss2 := [ccO g a b y z, stO g a 10 v, cdW g a 10 c, evW g a 10 e, stO g a 20 u3.2.1, cdW g a 20 u3.2.2.1, evW g a 20 u3.2.2.2]) (stk2 := [.int u3.1, .int u2.1]) rfl rfl ?_)
        refine x_icmp_ne (tgt := 120) C dX9_isConsistent_101 (by decide) (fun h4 => ?_) (fun h4 => ?_)
        · have hf := x_f h4 hf
          refine x_iconst (v := 0) C dX9_isConsistent_120 (by decide) ?_
          exact x_zret C hr rfl ⟨by cases hf; rfl, by cases hf; rfl⟩ dX9_isConsistent_121
        · have hf := x_t h4 hf
          refine x_aload_n C dX9_isConsistent_104 rfl 0 rfl ?_
          obtain ⟨u5, hu5, hf⟩ := x_b hf
          refine x_callV (n := 0) (As := []) (rest := []) C (c_X9_addedWax g l a b y z v hu5) ⟨⟨wd_1277, wd_1381, wd_25⟩, ⟨by decide, by decide, by decide⟩, rfl, rfl, Nat.le_of_ble_eq_true rfl, Nat.le_of_ble_eq_true rfl⟩ wd_1275 wd_1276 ⟨0, 10, _, _, rfl, rfl, rfl⟩ [cdW g a 10 c, evW g a 10 e, stO g a 20 u3.2.1, cdW g a 20 u3.2.2.1, evW g a 20 u3.2.2.2] (x_pickD [0, 1, 2, 3, 4, 5, 6] 7 rfl rfl rfl) rfl rfl (Nat.le_of_ble_eq_true rfl) ⟨Nat.le_of_ble_eq_true rfl, Nat.le_of_ble_eq_true rfl⟩ dX9_isConsistent_105 (x_goD (wss2 := [ccO g a b y z, stO g a 10 v, cdW g a 10 c, evW g a 10 e, stO g a 20 u3.2.1, cdW g a 20 u3.2.2.1, evW g a 20 u3.2.2.2]) (stk2 := [.long u5]) rfl rfl ?_)
          refine x_aload_n C dX9_isConsistent_108 rfl 0 rfl ?_
          obtain ⟨u6, hu6, hf⟩ := x_b hf
          refine x_callV (n := 0) (As := []) (rest := [.long u5]) C (c_X9_addedWaxByParts g l a b y z v c hu6) ⟨⟨wd_1341, wd_1382, wd_25⟩, ⟨by decide, by decide, by decide⟩, rfl, rfl, Nat.le_of_ble_eq_true rfl, Nat.le_of_ble_eq_true rfl⟩ wd_1339 wd_1340 ⟨0, 10, _, _, rfl, rfl, rfl⟩ [evW g a 10 e, stO g a 20 u3.2.1, cdW g a 20 u3.2.2.1, evW g a 20 u3.2.2.2] (x_pickD [0, 1, 2, 3, 4, 5, 6] 7 rfl rfl rfl) rfl rfl (Nat.le_of_ble_eq_true rfl) ⟨Nat.le_of_ble_eq_true rfl, Nat.le_of_ble_eq_true rfl⟩ dX9_isConsistent_109 (x_goD (wss2 := [ccO g a b y z, stO g a 10 v, cdW g a 10 c, evW g a 10 e, stO g a 20 u3.2.1, cdW g a 20 u3.2.2.1, evW g a 20 u3.2.2.2]) (stk2 := [.long u6, .long u5]) rfl rfl ?_)
          refine x_lcmp C dX9_isConsistent_112 ?_
          refine x_if_ne (tgt := 120) C dX9_isConsistent_113 (by decide) (fun h7 => ?_) (fun h7 => ?_)
          · have hf := x_f h7 hf
            refine x_iconst (v := 0) C dX9_isConsistent_120 (by decide) ?_
            exact x_zret C hr rfl ⟨by cases hf; rfl, by cases hf; rfl⟩ dX9_isConsistent_121
          · have hf := x_t h7 hf
            refine x_iconst (v := 1) C dX9_isConsistent_116 (by decide) ?_
            refine x_goto (tgt := 121) C dX9_isConsistent_117 (by decide) ?_
            exact x_zret C hr rfl ⟨by cases hf; rfl, by cases hf; rfl⟩ dX9_isConsistent_121
      · have hf := x_f h1 hf
        refine x_aload_n C dX9_isConsistent_16 rfl 0 rfl ?_
        refine x_get (ci := 10) (v := .ref (a (10 + 0))) (b := ccO g a b y z) C ixX9 rfl 0 (by decide) wd_1000 (fun _ h => h) 0 rfl 0 (ccO_at0 g a b y _) rfl dX9_isConsistent_17 ?_
        refine x_iload_n C dX9_isConsistent_20 rfl 1 rfl ?_
        obtain ⟨u8, hu8, hf⟩ := x_b hf
        refine x_callV (n := 1) (As := [.int x1]) (rest := []) C (c_X8_minutesLeftOf g l a 10 v c x1 hu8) ⟨⟨wd_148, wd_145, wd_26⟩, ⟨by decide, by decide, by decide⟩, rfl, rfl, Nat.le_of_ble_eq_true rfl, Nat.le_of_ble_eq_true rfl⟩ wd_146 wd_147 ⟨0, 9, _, _, rfl, rfl, rfl⟩ [ccO g a b y z, evW g a 10 e, stO g a 20 v2L, cdW g a 20 c2L, evW g a 20 e2L] (x_pickD [1, 2, 0, 3, 4, 5, 6] 7 rfl rfl rfl) rfl rfl (Nat.le_of_ble_eq_true rfl) ⟨Nat.le_of_ble_eq_true rfl, Nat.le_of_ble_eq_true rfl⟩ dX9_isConsistent_21 (x_goD (wss2 := [stO g a 10 v, cdW g a 10 c, ccO g a b y z, evW g a 10 e, stO g a 20 v2L, cdW g a 20 c2L, evW g a 20 e2L]) (stk2 := [.int u8]) rfl rfl ?_)
        refine x_aload_n C dX9_isConsistent_24 rfl 0 rfl ?_
        refine x_get (ci := 10) (v := .ref (a (10 + 0))) (b := ccO g a b y z) C ixX9 rfl 0 (by decide) wd_1000 (fun _ h => h) 2 rfl 0 (ccO_at0 g a b y _) rfl dX9_isConsistent_25 ?_
        refine x_iload_n C dX9_isConsistent_28 rfl 1 rfl ?_
        obtain ⟨u9, hu9, hf⟩ := x_b hf
        refine x_callV (n := 1) (As := [.int x1]) (rest := [.int u8]) C (c_X8_minutesOfBurning g l a 10 v c x1 hu9) ⟨⟨wd_1327, wd_1324, wd_26⟩, ⟨by decide, by decide, by decide⟩, rfl, rfl, Nat.le_of_ble_eq_true rfl, Nat.le_of_ble_eq_true rfl⟩ wd_1325 wd_1326 ⟨0, 9, _, _, rfl, rfl, rfl⟩ [ccO g a b y z, evW g a 10 e, stO g a 20 v2L, cdW g a 20 c2L, evW g a 20 e2L] (x_pickD [0, 1, 2, 3, 4, 5, 6] 7 rfl rfl rfl) rfl rfl (Nat.le_of_ble_eq_true rfl) ⟨Nat.le_of_ble_eq_true rfl, Nat.le_of_ble_eq_true rfl⟩ dX9_isConsistent_29 (x_goD (wss2 := [stO g a 10 v, cdW g a 10 c, ccO g a b y z, evW g a 10 e, stO g a 20 v2L, cdW g a 20 c2L, evW g a 20 e2L]) (stk2 := [.int u9, .int u8]) rfl rfl ?_)
        refine x_icmp_ne (tgt := 39) C dX9_isConsistent_32 (by decide) (fun h10 => ?_) (fun h10 => ?_)
        · have hf := x_f h10 hf
          refine x_iconst (v := 0) C dX9_isConsistent_39 (by decide) ?_
          refine x_istore_n (lv' := [(2, .int (0 : Int32)), (0, .ref (a 0)), (1, .int x1)]) C dX9_isConsistent_40 rfl (by decide) rfl ?_
          refine x_aload_n C dX9_isConsistent_41 rfl 1 rfl ?_
          refine x_get (ci := 10) (v := .ref (a (10 + 0))) (b := ccO g a b y z) C ixX9 rfl 0 (by decide) wd_1000 (fun _ h => h) 2 rfl 0 (ccO_at0 g a b y _) rfl dX9_isConsistent_42 ?_
          refine x_get (ci := 9) (v := .ref (a (10 + 1))) (b := stO g a 10 v) C ixX8 rfl 0 (by decide) wd_874 (fun _ h => h) 0 rfl 0 (stO_at0 g a 10 _) rfl dX9_isConsistent_45 ?_
          refine x_get (ci := 4) (v := .ref (a (10 + 5))) (b := cdW g a 10 c) C ixX1 rfl 3 (by decide) wd_829 (fun _ h => h) 1 rfl 0 (cdW_at0 g a 10 _) rfl dX9_isConsistent_48 ?_
          refine x_iload_n C dX9_isConsistent_51 rfl 2 rfl ?_
          obtain ⟨h11, hf⟩ := x_n hf
          refine x_zald (b := cdW g a 10 c) C 1 rfl 4 (cdW_at4 g a 10 _) h11 dX9_isConsistent_52 ?_
          refine x_if_eq (tgt := 75) C dX9_isConsistent_53 (by decide) (fun h12 => ?_) (fun h12 => ?_)
          · have hf := x_t h12 hf
            refine x_iconst (v := 0) C dX9_isConsistent_75 (by decide) ?_
            refine x_istore_n (lv' := [(3, .int (0 : Int32)), (2, .int (0 : Int32)), (0, .ref (a 0)), (1, .int x1)]) C dX9_isConsistent_76 rfl (by decide) rfl ?_
            refine x_iload_n C dX9_isConsistent_77 rfl 1 rfl ?_
            refine x_if_eq (tgt := 85) C dX9_isConsistent_78 (by decide) (fun h13 => ?_) (fun h13 => ?_)
            · have hf := x_t h13 hf
              refine x_iconst (v := 0) C dX9_isConsistent_85 (by decide) ?_
              refine x_perm (wss' := [ccO g a b y z, stO g a 10 v, cdW g a 10 c, evW g a 10 e, stO g a 20 v2L, cdW g a 20 c2L, evW g a 20 e2L]) (x_pick [2, 0, 1, 3, 4, 5, 6] 7 rfl rfl rfl) ?_
              exact x_zret C hr rfl ⟨by cases hf; rfl, by cases hf; rfl⟩ dX9_isConsistent_86
            · have hf := x_f h13 hf
              refine x_iload_n C dX9_isConsistent_81 rfl 0 rfl ?_
              refine x_if_eq (tgt := 87) C dX9_isConsistent_82 (by decide) (fun h14 => ?_) (fun h14 => ?_)
              · have hf := x_t h14 hf
                refine x_iinc (v := x1 + 1) (lv' := [(1, .int (x1 + 1)), (3, .int (0 : Int32)), (2, .int (0 : Int32)), (0, .ref (a 0))]) C dX9_isConsistent_87 3 rfl rfl (by decide) rfl ?_
                refine x_goto (tgt := 2) C dX9_isConsistent_90 (by decide) ?_
                refine x_perm (wss' := [ccO g a b y z, stO g a 10 v, cdW g a 10 c, evW g a 10 e, stO g a 20 v2L, cdW g a 20 c2L, evW g a 20 e2L]) (x_pick [2, 0, 1, 3, 4, 5, 6] 7 rfl rfl rfl) ?_
                refine x_locals (lv' := [(0, .ref (a 0)), (1, .int (x1 + 1))]) [3, 0] rfl ?_
                exact ih v2L c2L e2L (x1 + 1) hf
              · have hf := x_f h14 hf
                refine x_iconst (v := 0) C dX9_isConsistent_85 (by decide) ?_
                refine x_perm (wss' := [ccO g a b y z, stO g a 10 v, cdW g a 10 c, evW g a 10 e, stO g a 20 v2L, cdW g a 20 c2L, evW g a 20 e2L]) (x_pick [2, 0, 1, 3, 4, 5, 6] 7 rfl rfl rfl) ?_
                exact x_zret C hr rfl ⟨by cases hf; rfl, by cases hf; rfl⟩ dX9_isConsistent_86
          · have hf := x_f h12 hf
            refine x_aload_n C dX9_isConsistent_56 rfl 1 rfl ?_
            refine x_get (ci := 10) (v := .ref (a (10 + 0))) (b := ccO g a b y z) C ixX9 rfl 0 (by decide) wd_1000 (fun _ h => h) 2 rfl 0 (ccO_at0 g a b y _) rfl dX9_isConsistent_57 ?_
            refine x_get (ci := 9) (v := .ref (a (10 + 1))) (b := stO g a 10 v) C ixX8 rfl 0 (by decide) wd_874 (fun _ h => h) 0 rfl 0 (stO_at0 g a 10 _) rfl dX9_isConsistent_60 ?_
            refine x_get (ci := 4) (v := .ref (a (10 + 3))) (b := cdW g a 10 c) C ixX1 rfl 1 (by decide) wd_824 (fun _ h => h) 1 rfl 0 (cdW_at0 g a 10 _) rfl dX9_isConsistent_63 ?_
            refine x_iload_n C dX9_isConsistent_66 rfl 2 rfl ?_
            obtain ⟨h15, hf⟩ := x_n hf
            refine x_iald (b := cdW g a 10 c) C 1 rfl 2 (cdW_at2 g a 10 _) h15 dX9_isConsistent_67 ?_
            refine x_if_ne (tgt := 75) C dX9_isConsistent_68 (by decide) (fun h16 => ?_) (fun h16 => ?_)
            · have hf := x_f h16 hf
              refine x_iconst (v := 0) C dX9_isConsistent_75 (by decide) ?_
              refine x_istore_n (lv' := [(3, .int (0 : Int32)), (2, .int (0 : Int32)), (0, .ref (a 0)), (1, .int x1)]) C dX9_isConsistent_76 rfl (by decide) rfl ?_
              refine x_iload_n C dX9_isConsistent_77 rfl 1 rfl ?_
              refine x_if_eq (tgt := 85) C dX9_isConsistent_78 (by decide) (fun h17 => ?_) (fun h17 => ?_)
              · have hf := x_t h17 hf
                refine x_iconst (v := 0) C dX9_isConsistent_85 (by decide) ?_
                refine x_perm (wss' := [ccO g a b y z, stO g a 10 v, cdW g a 10 c, evW g a 10 e, stO g a 20 v2L, cdW g a 20 c2L, evW g a 20 e2L]) (x_pick [2, 0, 1, 3, 4, 5, 6] 7 rfl rfl rfl) ?_
                exact x_zret C hr rfl ⟨by cases hf; rfl, by cases hf; rfl⟩ dX9_isConsistent_86
              · have hf := x_f h17 hf
                refine x_iload_n C dX9_isConsistent_81 rfl 0 rfl ?_
                refine x_if_eq (tgt := 87) C dX9_isConsistent_82 (by decide) (fun h18 => ?_) (fun h18 => ?_)
                · have hf := x_t h18 hf
                  refine x_iinc (v := x1 + 1) (lv' := [(1, .int (x1 + 1)), (3, .int (0 : Int32)), (2, .int (0 : Int32)), (0, .ref (a 0))]) C dX9_isConsistent_87 3 rfl rfl (by decide) rfl ?_
                  refine x_goto (tgt := 2) C dX9_isConsistent_90 (by decide) ?_
                  refine x_perm (wss' := [ccO g a b y z, stO g a 10 v, cdW g a 10 c, evW g a 10 e, stO g a 20 v2L, cdW g a 20 c2L, evW g a 20 e2L]) (x_pick [2, 0, 1, 3, 4, 5, 6] 7 rfl rfl rfl) ?_
                  refine x_locals (lv' := [(0, .ref (a 0)), (1, .int (x1 + 1))]) [3, 0] rfl ?_
                  exact ih v2L c2L e2L (x1 + 1) hf
                · have hf := x_f h18 hf
                  refine x_iconst (v := 0) C dX9_isConsistent_85 (by decide) ?_
                  refine x_perm (wss' := [ccO g a b y z, stO g a 10 v, cdW g a 10 c, evW g a 10 e, stO g a 20 v2L, cdW g a 20 c2L, evW g a 20 e2L]) (x_pick [2, 0, 1, 3, 4, 5, 6] 7 rfl rfl rfl) ?_
                  exact x_zret C hr rfl ⟨by cases hf; rfl, by cases hf; rfl⟩ dX9_isConsistent_86
            · have hf := x_t h16 hf
              refine x_iconst (v := 1) C dX9_isConsistent_71 (by decide) ?_
              refine x_goto (tgt := 76) C dX9_isConsistent_72 (by decide) ?_
              refine x_istore_n (lv' := [(3, .int (1 : Int32)), (2, .int (0 : Int32)), (0, .ref (a 0)), (1, .int x1)]) C dX9_isConsistent_76 rfl (by decide) rfl ?_
              refine x_iload_n C dX9_isConsistent_77 rfl 1 rfl ?_
              refine x_if_eq (tgt := 85) C dX9_isConsistent_78 (by decide) (fun h19 => ?_) (fun h19 => ?_)
              · have hf := x_t h19 hf
                refine x_iconst (v := 0) C dX9_isConsistent_85 (by decide) ?_
                refine x_perm (wss' := [ccO g a b y z, stO g a 10 v, cdW g a 10 c, evW g a 10 e, stO g a 20 v2L, cdW g a 20 c2L, evW g a 20 e2L]) (x_pick [2, 0, 1, 3, 4, 5, 6] 7 rfl rfl rfl) ?_
                exact x_zret C hr rfl ⟨by cases hf; rfl, by cases hf; rfl⟩ dX9_isConsistent_86
              · have hf := x_f h19 hf
                refine x_iload_n C dX9_isConsistent_81 rfl 0 rfl ?_
                refine x_if_eq (tgt := 87) C dX9_isConsistent_82 (by decide) (fun h20 => ?_) (fun h20 => ?_)
                · have hf := x_t h20 hf
                  refine x_iinc (v := x1 + 1) (lv' := [(1, .int (x1 + 1)), (3, .int (1 : Int32)), (2, .int (0 : Int32)), (0, .ref (a 0))]) C dX9_isConsistent_87 3 rfl rfl (by decide) rfl ?_
                  refine x_goto (tgt := 2) C dX9_isConsistent_90 (by decide) ?_
                  refine x_perm (wss' := [ccO g a b y z, stO g a 10 v, cdW g a 10 c, evW g a 10 e, stO g a 20 v2L, cdW g a 20 c2L, evW g a 20 e2L]) (x_pick [2, 0, 1, 3, 4, 5, 6] 7 rfl rfl rfl) ?_
                  refine x_locals (lv' := [(0, .ref (a 0)), (1, .int (x1 + 1))]) [3, 0] rfl ?_
                  exact ih v2L c2L e2L (x1 + 1) hf
                · have hf := x_f h20 hf
                  refine x_iconst (v := 0) C dX9_isConsistent_85 (by decide) ?_
                  refine x_perm (wss' := [ccO g a b y z, stO g a 10 v, cdW g a 10 c, evW g a 10 e, stO g a 20 v2L, cdW g a 20 c2L, evW g a 20 e2L]) (x_pick [2, 0, 1, 3, 4, 5, 6] 7 rfl rfl rfl) ?_
                  exact x_zret C hr rfl ⟨by cases hf; rfl, by cases hf; rfl⟩ dX9_isConsistent_86
        · have hf := x_t h10 hf
          refine x_iconst (v := 1) C dX9_isConsistent_35 (by decide) ?_
          refine x_goto (tgt := 40) C dX9_isConsistent_36 (by decide) ?_
          refine x_istore_n (lv' := [(2, .int (1 : Int32)), (0, .ref (a 0)), (1, .int x1)]) C dX9_isConsistent_40 rfl (by decide) rfl ?_
          refine x_aload_n C dX9_isConsistent_41 rfl 1 rfl ?_
          refine x_get (ci := 10) (v := .ref (a (10 + 0))) (b := ccO g a b y z) C ixX9 rfl 0 (by decide) wd_1000 (fun _ h => h) 2 rfl 0 (ccO_at0 g a b y _) rfl dX9_isConsistent_42 ?_
          refine x_get (ci := 9) (v := .ref (a (10 + 1))) (b := stO g a 10 v) C ixX8 rfl 0 (by decide) wd_874 (fun _ h => h) 0 rfl 0 (stO_at0 g a 10 _) rfl dX9_isConsistent_45 ?_
          refine x_get (ci := 4) (v := .ref (a (10 + 5))) (b := cdW g a 10 c) C ixX1 rfl 3 (by decide) wd_829 (fun _ h => h) 1 rfl 0 (cdW_at0 g a 10 _) rfl dX9_isConsistent_48 ?_
          refine x_iload_n C dX9_isConsistent_51 rfl 2 rfl ?_
          obtain ⟨h21, hf⟩ := x_n hf
          refine x_zald (b := cdW g a 10 c) C 1 rfl 4 (cdW_at4 g a 10 _) h21 dX9_isConsistent_52 ?_
          refine x_if_eq (tgt := 75) C dX9_isConsistent_53 (by decide) (fun h22 => ?_) (fun h22 => ?_)
          · have hf := x_t h22 hf
            refine x_iconst (v := 0) C dX9_isConsistent_75 (by decide) ?_
            refine x_istore_n (lv' := [(3, .int (0 : Int32)), (2, .int (1 : Int32)), (0, .ref (a 0)), (1, .int x1)]) C dX9_isConsistent_76 rfl (by decide) rfl ?_
            refine x_iload_n C dX9_isConsistent_77 rfl 1 rfl ?_
            refine x_if_eq (tgt := 85) C dX9_isConsistent_78 (by decide) (fun h23 => ?_) (fun h23 => ?_)
            · have hf := x_t h23 hf
              refine x_iconst (v := 0) C dX9_isConsistent_85 (by decide) ?_
              refine x_perm (wss' := [ccO g a b y z, stO g a 10 v, cdW g a 10 c, evW g a 10 e, stO g a 20 v2L, cdW g a 20 c2L, evW g a 20 e2L]) (x_pick [2, 0, 1, 3, 4, 5, 6] 7 rfl rfl rfl) ?_
              exact x_zret C hr rfl ⟨by cases hf; rfl, by cases hf; rfl⟩ dX9_isConsistent_86
            · have hf := x_f h23 hf
              refine x_iload_n C dX9_isConsistent_81 rfl 0 rfl ?_
              refine x_if_eq (tgt := 87) C dX9_isConsistent_82 (by decide) (fun h24 => ?_) (fun h24 => ?_)
              · have hf := x_t h24 hf
                refine x_iinc (v := x1 + 1) (lv' := [(1, .int (x1 + 1)), (3, .int (0 : Int32)), (2, .int (1 : Int32)), (0, .ref (a 0))]) C dX9_isConsistent_87 3 rfl rfl (by decide) rfl ?_
                refine x_goto (tgt := 2) C dX9_isConsistent_90 (by decide) ?_
                refine x_perm (wss' := [ccO g a b y z, stO g a 10 v, cdW g a 10 c, evW g a 10 e, stO g a 20 v2L, cdW g a 20 c2L, evW g a 20 e2L]) (x_pick [2, 0, 1, 3, 4, 5, 6] 7 rfl rfl rfl) ?_
                refine x_locals (lv' := [(0, .ref (a 0)), (1, .int (x1 + 1))]) [3, 0] rfl ?_
                exact ih v2L c2L e2L (x1 + 1) hf
              · have hf := x_f h24 hf
                refine x_iconst (v := 0) C dX9_isConsistent_85 (by decide) ?_
                refine x_perm (wss' := [ccO g a b y z, stO g a 10 v, cdW g a 10 c, evW g a 10 e, stO g a 20 v2L, cdW g a 20 c2L, evW g a 20 e2L]) (x_pick [2, 0, 1, 3, 4, 5, 6] 7 rfl rfl rfl) ?_
                exact x_zret C hr rfl ⟨by cases hf; rfl, by cases hf; rfl⟩ dX9_isConsistent_86
          · have hf := x_f h22 hf
            refine x_aload_n C dX9_isConsistent_56 rfl 1 rfl ?_
            refine x_get (ci := 10) (v := .ref (a (10 + 0))) (b := ccO g a b y z) C ixX9 rfl 0 (by decide) wd_1000 (fun _ h => h) 2 rfl 0 (ccO_at0 g a b y _) rfl dX9_isConsistent_57 ?_
            refine x_get (ci := 9) (v := .ref (a (10 + 1))) (b := stO g a 10 v) C ixX8 rfl 0 (by decide) wd_874 (fun _ h => h) 0 rfl 0 (stO_at0 g a 10 _) rfl dX9_isConsistent_60 ?_
            refine x_get (ci := 4) (v := .ref (a (10 + 3))) (b := cdW g a 10 c) C ixX1 rfl 1 (by decide) wd_824 (fun _ h => h) 1 rfl 0 (cdW_at0 g a 10 _) rfl dX9_isConsistent_63 ?_
            refine x_iload_n C dX9_isConsistent_66 rfl 2 rfl ?_
            obtain ⟨h25, hf⟩ := x_n hf
            refine x_iald (b := cdW g a 10 c) C 1 rfl 2 (cdW_at2 g a 10 _) h25 dX9_isConsistent_67 ?_
            refine x_if_ne (tgt := 75) C dX9_isConsistent_68 (by decide) (fun h26 => ?_) (fun h26 => ?_)
            · have hf := x_f h26 hf
              refine x_iconst (v := 0) C dX9_isConsistent_75 (by decide) ?_
              refine x_istore_n (lv' := [(3, .int (0 : Int32)), (2, .int (1 : Int32)), (0, .ref (a 0)), (1, .int x1)]) C dX9_isConsistent_76 rfl (by decide) rfl ?_
              refine x_iload_n C dX9_isConsistent_77 rfl 1 rfl ?_
              refine x_if_eq (tgt := 85) C dX9_isConsistent_78 (by decide) (fun h27 => ?_) (fun h27 => ?_)
              · have hf := x_t h27 hf
                refine x_iconst (v := 0) C dX9_isConsistent_85 (by decide) ?_
                refine x_perm (wss' := [ccO g a b y z, stO g a 10 v, cdW g a 10 c, evW g a 10 e, stO g a 20 v2L, cdW g a 20 c2L, evW g a 20 e2L]) (x_pick [2, 0, 1, 3, 4, 5, 6] 7 rfl rfl rfl) ?_
                exact x_zret C hr rfl ⟨by cases hf; rfl, by cases hf; rfl⟩ dX9_isConsistent_86
              · have hf := x_f h27 hf
                refine x_iload_n C dX9_isConsistent_81 rfl 0 rfl ?_
                refine x_if_eq (tgt := 87) C dX9_isConsistent_82 (by decide) (fun h28 => ?_) (fun h28 => ?_)
                · have hf := x_t h28 hf
                  refine x_iinc (v := x1 + 1) (lv' := [(1, .int (x1 + 1)), (3, .int (0 : Int32)), (2, .int (1 : Int32)), (0, .ref (a 0))]) C dX9_isConsistent_87 3 rfl rfl (by decide) rfl ?_
                  refine x_goto (tgt := 2) C dX9_isConsistent_90 (by decide) ?_
                  refine x_perm (wss' := [ccO g a b y z, stO g a 10 v, cdW g a 10 c, evW g a 10 e, stO g a 20 v2L, cdW g a 20 c2L, evW g a 20 e2L]) (x_pick [2, 0, 1, 3, 4, 5, 6] 7 rfl rfl rfl) ?_
                  refine x_locals (lv' := [(0, .ref (a 0)), (1, .int (x1 + 1))]) [3, 0] rfl ?_
                  exact ih v2L c2L e2L (x1 + 1) hf
                · have hf := x_f h28 hf
                  refine x_iconst (v := 0) C dX9_isConsistent_85 (by decide) ?_
                  refine x_perm (wss' := [ccO g a b y z, stO g a 10 v, cdW g a 10 c, evW g a 10 e, stO g a 20 v2L, cdW g a 20 c2L, evW g a 20 e2L]) (x_pick [2, 0, 1, 3, 4, 5, 6] 7 rfl rfl rfl) ?_
                  exact x_zret C hr rfl ⟨by cases hf; rfl, by cases hf; rfl⟩ dX9_isConsistent_86
            · have hf := x_t h26 hf
              refine x_iconst (v := 1) C dX9_isConsistent_71 (by decide) ?_
              refine x_goto (tgt := 76) C dX9_isConsistent_72 (by decide) ?_
              refine x_istore_n (lv' := [(3, .int (1 : Int32)), (2, .int (1 : Int32)), (0, .ref (a 0)), (1, .int x1)]) C dX9_isConsistent_76 rfl (by decide) rfl ?_
              refine x_iload_n C dX9_isConsistent_77 rfl 1 rfl ?_
              refine x_if_eq (tgt := 85) C dX9_isConsistent_78 (by decide) (fun h29 => ?_) (fun h29 => ?_)
              · have hf := x_t h29 hf
                refine x_iconst (v := 0) C dX9_isConsistent_85 (by decide) ?_
                refine x_perm (wss' := [ccO g a b y z, stO g a 10 v, cdW g a 10 c, evW g a 10 e, stO g a 20 v2L, cdW g a 20 c2L, evW g a 20 e2L]) (x_pick [2, 0, 1, 3, 4, 5, 6] 7 rfl rfl rfl) ?_
                exact x_zret C hr rfl ⟨by cases hf; rfl, by cases hf; rfl⟩ dX9_isConsistent_86
              · have hf := x_f h29 hf
                refine x_iload_n C dX9_isConsistent_81 rfl 0 rfl ?_
                refine x_if_eq (tgt := 87) C dX9_isConsistent_82 (by decide) (fun h30 => ?_) (fun h30 => ?_)
                · have hf := x_t h30 hf
                  refine x_iinc (v := x1 + 1) (lv' := [(1, .int (x1 + 1)), (3, .int (1 : Int32)), (2, .int (1 : Int32)), (0, .ref (a 0))]) C dX9_isConsistent_87 3 rfl rfl (by decide) rfl ?_
                  refine x_goto (tgt := 2) C dX9_isConsistent_90 (by decide) ?_
                  refine x_perm (wss' := [ccO g a b y z, stO g a 10 v, cdW g a 10 c, evW g a 10 e, stO g a 20 v2L, cdW g a 20 c2L, evW g a 20 e2L]) (x_pick [2, 0, 1, 3, 4, 5, 6] 7 rfl rfl rfl) ?_
                  refine x_locals (lv' := [(0, .ref (a 0)), (1, .int (x1 + 1))]) [3, 0] rfl ?_
                  exact ih v2L c2L e2L (x1 + 1) hf
                · have hf := x_f h30 hf
                  refine x_iconst (v := 0) C dX9_isConsistent_85 (by decide) ?_
                  refine x_perm (wss' := [ccO g a b y z, stO g a 10 v, cdW g a 10 c, evW g a 10 e, stO g a 20 v2L, cdW g a 20 c2L, evW g a 20 e2L]) (x_pick [2, 0, 1, 3, 4, 5, 6] 7 rfl rfl rfl) ?_
                  exact x_zret C hr rfl ⟨by cases hf; rfl, by cases hf; rfl⟩ dX9_isConsistent_86
  refine x_iconst (v := 0) C dX9_isConsistent_0 (by decide) ?_
  refine x_istore_n (lv' := [(1, .int (0 : Int32)), (0, .ref (a 0))]) C dX9_isConsistent_1 rfl (by decide) rfl ?_
  refine x_locals (lv' := [(0, .ref (a 0)), (1, .int (0 : Int32))]) [1, 0] rfl ?_
  exact hL2 xFuel v2 c2 e2 (0 : Int32) hf
theorem wd_1004 : Cond.fieldLink RX9 32 "CandleConcert" "program" "LCandleConcert$Program;" ∈ xTB := xTB_in 1004 (by decide +kernel) (by decide +kernel)
theorem wd_1135 : Cond.methodLink RX9 290 yX6_isFull ∈ xTB := xTB_in 1135 (by decide +kernel) (by decide +kernel)
theorem wd_1140 : Cond.methodLink RX9 298 yX6_append ∈ xTB := xTB_in 1140 (by decide +kernel) (by decide +kernel)
theorem wd_1141 : Cond.instanceMethod yX6_append ∈ xTB := xTB_in 1141 (by decide +kernel) (by decide +kernel)
theorem wd_1142 : Cond.selects yX6_append.cls yX6_append yX6_append ∈ xTB := xTB_in 1142 (by decide +kernel) (by decide +kernel)
theorem wd_1143 : Cond.code yX6_append cX6_append 2 (some .int) ∈ xTB := xTB_in 1143 (by decide +kernel) (by decide +kernel)
theorem dX9_type_0 : decode cX9_type 0 = .ok (.aload_n 0, 1) := by decide +kernel
theorem dX9_type_1 : decode cX9_type 1 = .ok (.getfield 32, 3) := by decide +kernel
theorem dX9_type_4 : decode cX9_type 4 = .ok (.invokevirtual 290, 3) := by decide +kernel
theorem dX9_type_7 : decode cX9_type 7 = .ok (.ifCond .eq 14, 3) := by decide +kernel
theorem dX9_type_10 : decode cX9_type 10 = .ok (.new 293, 3) := by decide +kernel
theorem dX9_type_13 : decode cX9_type 13 = .ok (.dup, 1) := by decide +kernel
theorem dX9_type_14 : decode cX9_type 14 = .ok (.ldc_w 295, 3) := by decide +kernel
theorem dX9_type_17 : decode cX9_type 17 = .ok (.invokespecial 297, 3) := by decide +kernel
theorem dX9_type_20 : decode cX9_type 20 = .ok (.athrow, 1) := by decide +kernel
theorem dX9_type_21 : decode cX9_type 21 = .ok (.aload_n 0, 1) := by decide +kernel
theorem dX9_type_22 : decode cX9_type 22 = .ok (.getfield 32, 3) := by decide +kernel
theorem dX9_type_25 : decode cX9_type 25 = .ok (.iload_n 1, 1) := by decide +kernel
theorem dX9_type_26 : decode cX9_type 26 = .ok (.invokevirtual 298, 3) := by decide +kernel
theorem dX9_type_29 : decode cX9_type 29 = .ok (.ireturn, 1) := by decide +kernel
set_option maxHeartbeats 4000000 in
set_option maxRecDepth 100000 in
theorem c_X9_type (g : xG) (l : Launch) (hl : l.stackTraces = false) (a : Nat → Nat) (b : Nat → Nat) (y : Nat) (z : CcT) (q : PrT) (x1 : Int32) {u : (Nat ⊕ Int32) × PrT} (hf : f_X9_type z q x1 = some u) : ConX g l yX9_type cX9_type 2 (some .int) ({ frames := 6, cells := 1, slots := 6, locals := 90 } : Room) [.ref (a 0), .int x1] ([ccO g a b y z, prO g b q] : List va_W).flatten (fun v9 w9 => ∃ r9, u.1 = Sum.inr r9 ∧ v9 = some (.int r9) ∧ w9 = ([ccO g a b y z, prO g b u.2] : List va_W).flatten) (fun e9 w9 => ∃ k9, u.1 = Sum.inl k9 ∧ e9 = xcE k9 ∧ w9 = ([ccO g a b y z, prO g b u.2] : List va_W).flatten) 1 6 := by
  unfold f_X9_type at hf
  refine ConX_of [ccO g a b y z, prO g b q] [(0, .ref (a 0)), (1, .int x1)] rfl rfl (by decide) (Nat.le_of_ble_eq_true rfl) ?_
  intro pW eW sW mW argsW belowW methW c9 C hnm hr hout
  have C : CX g RX9 cX9_type 2 _ pW sW mW argsW methW c9 := C
  refine x_aload_n C dX9_type_0 rfl 0 rfl ?_
  refine x_get (ci := 10) (v := .ref (b 0)) (b := ccO g a b y z) C ixX9 rfl 4 (by decide) wd_1004 (fun _ h => h) 0 rfl 0 (ccO_at0 g a b y _) rfl dX9_type_1 ?_
  obtain ⟨u1, hu1, hf⟩ := x_b hf
  refine x_callV (n := 0) (As := []) (rest := []) C (c_X6_isFull g l b q hu1) ⟨⟨wd_1138, wd_1135, wd_30⟩, ⟨by decide, by decide, by decide⟩, rfl, rfl, Nat.le_of_ble_eq_true rfl, Nat.le_of_ble_eq_true rfl⟩ wd_1136 wd_1137 ⟨0, 8, _, _, rfl, rfl, rfl⟩ [ccO g a b y z] (x_pickD [1, 0] 2 rfl rfl rfl) rfl rfl (Nat.le_of_ble_eq_true rfl) ⟨Nat.le_of_ble_eq_true rfl, Nat.le_of_ble_eq_true rfl⟩ dX9_type_4 (x_goD (wss2 := [prO g b q, ccO g a b y z]) (stk2 := [.int u1]) rfl rfl ?_)
  refine x_if_eq (tgt := 21) C dX9_type_7 (by decide) (fun h2 => ?_) (fun h2 => ?_)
  · have hf := x_t h2 hf
    refine x_aload_n C dX9_type_21 rfl 0 rfl ?_
    refine x_get (ci := 10) (v := .ref (b 0)) (b := ccO g a b y z) C ixX9 rfl 4 (by decide) wd_1004 (fun _ h => h) 1 rfl 0 (ccO_at0 g a b y _) rfl dX9_type_22 ?_
    refine x_iload_n C dX9_type_25 rfl 1 rfl ?_
    obtain ⟨u3, hu3, hf⟩ := x_b hf
    refine x_callV (n := 1) (As := [.int x1]) (rest := []) C (c_X6_append g l b q x1 hu3) ⟨⟨wd_1143, wd_1140, wd_30⟩, ⟨by decide, by decide, by decide⟩, rfl, rfl, Nat.le_of_ble_eq_true rfl, Nat.le_of_ble_eq_true rfl⟩ wd_1141 wd_1142 ⟨0, 8, _, _, rfl, rfl, rfl⟩ [ccO g a b y z] (x_pickD [0, 1] 2 rfl rfl rfl) rfl rfl (Nat.le_of_ble_eq_true rfl) ⟨Nat.le_of_ble_eq_true rfl, Nat.le_of_ble_eq_true rfl⟩ dX9_type_26 (x_goD (wss2 := [prO g b u3.2, ccO g a b y z]) (stk2 := [.int u3.1]) rfl rfl ?_)
    refine x_perm (wss' := [ccO g a b y z, prO g b u3.2]) (x_pick [1, 0] 2 rfl rfl rfl) ?_
    refine x_widen (k := 1) (n := 6) (Nat.le_of_ble_eq_true rfl) (Nat.le_of_ble_eq_true rfl) ?_
    refine x_vx ?_
    exact x_iret C hr ⟨u3.1, by cases hf; rfl, rfl, by cases hf; rfl⟩ dX9_type_29
  · have hf := x_f h2 hf
    refine x_perm (wss' := [ccO g a b y z, prO g b q]) (x_pick [1, 0] 2 rfl rfl rfl) ?_
    exact x_throwSW C hout hl (by decide) wd_612 wd_47 (CX_str C ("CandleConcert", 295, "the program buffer is full", 17) (by decide)) at_297 og_293_297 dX9_type_10 dX9_type_13 dX9_type_14 dX9_type_17 dX9_type_20 ⟨Nat.le_of_ble_eq_true rfl, Nat.le_of_ble_eq_true rfl, Nat.le_of_ble_eq_true rfl, Nat.le_of_ble_eq_true rfl⟩ ⟨1, by cases hf; rfl, rfl, by cases hf; rfl⟩ (Nat.le_of_ble_eq_true rfl) (Nat.le_of_ble_eq_true rfl)
theorem wd_950 : Cond.fieldLink RX9 383 "CandleConcert$Command" "kind" "LCandleConcert$Kind;" ∈ xTB := xTB_in 950 (by decide +kernel) (by decide +kernel)
theorem wd_953 : Cond.fieldLink RX9 404 "CandleConcert$Command" "candle" "I" ∈ xTB := xTB_in 953 (by decide +kernel) (by decide +kernel)
theorem wd_956 : Cond.fieldLink RX9 394 "CandleConcert$Command" "number" "I" ∈ xTB := xTB_in 956 (by decide +kernel) (by decide +kernel)
theorem wd_959 : Cond.fieldLink RX9 397 "CandleConcert$Command" "rate" "I" ∈ xTB := xTB_in 959 (by decide +kernel) (by decide +kernel)
theorem wd_962 : Cond.fieldLink RX9 392 "CandleConcert$Command" "voice" "C" ∈ xTB := xTB_in 962 (by decide +kernel) (by decide +kernel)
theorem wd_1240 : Cond.fieldLink RX9 380 "CandleConcert$1" "$SwitchMap$CandleConcert$Kind" "[I" ∈ xTB := xTB_in 1240 (by decide +kernel) (by decide +kernel)
theorem wd_1245 : Cond.fieldLink RX9 400 "CandleConcert$Refusal" "NOTHING" "LCandleConcert$Refusal;" ∈ xTB := xTB_in 1245 (by decide +kernel) (by decide +kernel)
theorem dX9_isAllowed_0 : decode cX9_isAllowed 0 = .ok (.getstatic 380, 3) := by decide +kernel
theorem dX9_isAllowed_3 : decode cX9_isAllowed 3 = .ok (.aload_n 1, 1) := by decide +kernel
theorem dX9_isAllowed_4 : decode cX9_isAllowed 4 = .ok (.getfield 383, 3) := by decide +kernel
theorem dX9_isAllowed_7 : decode cX9_isAllowed 7 = .ok (.invokevirtual 389, 3) := by decide +kernel
theorem dX9_isAllowed_10 : decode cX9_isAllowed 10 = .ok (.iaload, 1) := by decide +kernel
theorem dX9_isAllowed_11 : decode cX9_isAllowed 11 = .ok (.tableswitch 210 1 7 #[41, 72, 95, 118, 145, 168, 195], 41) := by decide +kernel
theorem dX9_isAllowed_52 : decode cX9_isAllowed 52 = .ok (.aload_n 0, 1) := by decide +kernel
theorem dX9_isAllowed_53 : decode cX9_isAllowed 53 = .ok (.getfield 12, 3) := by decide +kernel
theorem dX9_isAllowed_56 : decode cX9_isAllowed 56 = .ok (.aload_n 1, 1) := by decide +kernel
theorem dX9_isAllowed_57 : decode cX9_isAllowed 57 = .ok (.getfield 392, 3) := by decide +kernel
theorem dX9_isAllowed_60 : decode cX9_isAllowed 60 = .ok (.aload_n 1, 1) := by decide +kernel
theorem dX9_isAllowed_61 : decode cX9_isAllowed 61 = .ok (.getfield 394, 3) := by decide +kernel
theorem dX9_isAllowed_64 : decode cX9_isAllowed 64 = .ok (.aload_n 1, 1) := by decide +kernel
theorem dX9_isAllowed_65 : decode cX9_isAllowed 65 = .ok (.getfield 397, 3) := by decide +kernel
theorem dX9_isAllowed_68 : decode cX9_isAllowed 68 = .ok (.invokevirtual 54, 3) := by decide +kernel
theorem dX9_isAllowed_71 : decode cX9_isAllowed 71 = .ok (.getstatic 400, 3) := by decide +kernel
theorem dX9_isAllowed_74 : decode cX9_isAllowed 74 = .ok (.if_acmp .ne 7, 3) := by decide +kernel
theorem dX9_isAllowed_77 : decode cX9_isAllowed 77 = .ok (.iconst 1, 1) := by decide +kernel
theorem dX9_isAllowed_78 : decode cX9_isAllowed 78 = .ok (.goto 4, 3) := by decide +kernel
theorem dX9_isAllowed_81 : decode cX9_isAllowed 81 = .ok (.iconst 0, 1) := by decide +kernel
theorem dX9_isAllowed_82 : decode cX9_isAllowed 82 = .ok (.ireturn, 1) := by decide +kernel
theorem dX9_isAllowed_83 : decode cX9_isAllowed 83 = .ok (.aload_n 0, 1) := by decide +kernel
theorem dX9_isAllowed_84 : decode cX9_isAllowed 84 = .ok (.getfield 12, 3) := by decide +kernel
theorem dX9_isAllowed_87 : decode cX9_isAllowed 87 = .ok (.aload_n 1, 1) := by decide +kernel
theorem dX9_isAllowed_88 : decode cX9_isAllowed 88 = .ok (.getfield 404, 3) := by decide +kernel
theorem dX9_isAllowed_91 : decode cX9_isAllowed 91 = .ok (.invokevirtual 70, 3) := by decide +kernel
theorem dX9_isAllowed_94 : decode cX9_isAllowed 94 = .ok (.getstatic 400, 3) := by decide +kernel
theorem dX9_isAllowed_97 : decode cX9_isAllowed 97 = .ok (.if_acmp .ne 7, 3) := by decide +kernel
theorem dX9_isAllowed_100 : decode cX9_isAllowed 100 = .ok (.iconst 1, 1) := by decide +kernel
theorem dX9_isAllowed_101 : decode cX9_isAllowed 101 = .ok (.goto 4, 3) := by decide +kernel
theorem dX9_isAllowed_104 : decode cX9_isAllowed 104 = .ok (.iconst 0, 1) := by decide +kernel
theorem dX9_isAllowed_105 : decode cX9_isAllowed 105 = .ok (.ireturn, 1) := by decide +kernel
theorem dX9_isAllowed_106 : decode cX9_isAllowed 106 = .ok (.aload_n 0, 1) := by decide +kernel
theorem dX9_isAllowed_107 : decode cX9_isAllowed 107 = .ok (.getfield 12, 3) := by decide +kernel
theorem dX9_isAllowed_110 : decode cX9_isAllowed 110 = .ok (.aload_n 1, 1) := by decide +kernel
theorem dX9_isAllowed_111 : decode cX9_isAllowed 111 = .ok (.getfield 404, 3) := by decide +kernel
theorem dX9_isAllowed_114 : decode cX9_isAllowed 114 = .ok (.invokevirtual 78, 3) := by decide +kernel
theorem dX9_isAllowed_117 : decode cX9_isAllowed 117 = .ok (.getstatic 400, 3) := by decide +kernel
theorem dX9_isAllowed_120 : decode cX9_isAllowed 120 = .ok (.if_acmp .ne 7, 3) := by decide +kernel
theorem dX9_isAllowed_123 : decode cX9_isAllowed 123 = .ok (.iconst 1, 1) := by decide +kernel
theorem dX9_isAllowed_124 : decode cX9_isAllowed 124 = .ok (.goto 4, 3) := by decide +kernel
theorem dX9_isAllowed_127 : decode cX9_isAllowed 127 = .ok (.iconst 0, 1) := by decide +kernel
theorem dX9_isAllowed_128 : decode cX9_isAllowed 128 = .ok (.ireturn, 1) := by decide +kernel
theorem dX9_isAllowed_129 : decode cX9_isAllowed 129 = .ok (.aload_n 0, 1) := by decide +kernel
theorem dX9_isAllowed_130 : decode cX9_isAllowed 130 = .ok (.getfield 12, 3) := by decide +kernel
theorem dX9_isAllowed_133 : decode cX9_isAllowed 133 = .ok (.aload_n 1, 1) := by decide +kernel
theorem dX9_isAllowed_134 : decode cX9_isAllowed 134 = .ok (.getfield 404, 3) := by decide +kernel
theorem dX9_isAllowed_137 : decode cX9_isAllowed 137 = .ok (.aload_n 1, 1) := by decide +kernel
theorem dX9_isAllowed_138 : decode cX9_isAllowed 138 = .ok (.getfield 394, 3) := by decide +kernel
theorem dX9_isAllowed_141 : decode cX9_isAllowed 141 = .ok (.invokevirtual 84, 3) := by decide +kernel
theorem dX9_isAllowed_144 : decode cX9_isAllowed 144 = .ok (.getstatic 400, 3) := by decide +kernel
theorem dX9_isAllowed_147 : decode cX9_isAllowed 147 = .ok (.if_acmp .ne 7, 3) := by decide +kernel
theorem dX9_isAllowed_150 : decode cX9_isAllowed 150 = .ok (.iconst 1, 1) := by decide +kernel
theorem dX9_isAllowed_151 : decode cX9_isAllowed 151 = .ok (.goto 4, 3) := by decide +kernel
theorem dX9_isAllowed_154 : decode cX9_isAllowed 154 = .ok (.iconst 0, 1) := by decide +kernel
theorem dX9_isAllowed_155 : decode cX9_isAllowed 155 = .ok (.ireturn, 1) := by decide +kernel
theorem dX9_isAllowed_156 : decode cX9_isAllowed 156 = .ok (.aload_n 0, 1) := by decide +kernel
theorem dX9_isAllowed_157 : decode cX9_isAllowed 157 = .ok (.getfield 12, 3) := by decide +kernel
theorem dX9_isAllowed_160 : decode cX9_isAllowed 160 = .ok (.aload_n 1, 1) := by decide +kernel
theorem dX9_isAllowed_161 : decode cX9_isAllowed 161 = .ok (.getfield 394, 3) := by decide +kernel
theorem dX9_isAllowed_164 : decode cX9_isAllowed 164 = .ok (.invokevirtual 92, 3) := by decide +kernel
theorem dX9_isAllowed_167 : decode cX9_isAllowed 167 = .ok (.getstatic 400, 3) := by decide +kernel
theorem dX9_isAllowed_170 : decode cX9_isAllowed 170 = .ok (.if_acmp .ne 7, 3) := by decide +kernel
theorem dX9_isAllowed_173 : decode cX9_isAllowed 173 = .ok (.iconst 1, 1) := by decide +kernel
theorem dX9_isAllowed_174 : decode cX9_isAllowed 174 = .ok (.goto 4, 3) := by decide +kernel
theorem dX9_isAllowed_177 : decode cX9_isAllowed 177 = .ok (.iconst 0, 1) := by decide +kernel
theorem dX9_isAllowed_178 : decode cX9_isAllowed 178 = .ok (.ireturn, 1) := by decide +kernel
theorem dX9_isAllowed_179 : decode cX9_isAllowed 179 = .ok (.aload_n 0, 1) := by decide +kernel
theorem dX9_isAllowed_180 : decode cX9_isAllowed 180 = .ok (.getfield 12, 3) := by decide +kernel
theorem dX9_isAllowed_183 : decode cX9_isAllowed 183 = .ok (.aload_n 1, 1) := by decide +kernel
theorem dX9_isAllowed_184 : decode cX9_isAllowed 184 = .ok (.getfield 394, 3) := by decide +kernel
theorem dX9_isAllowed_187 : decode cX9_isAllowed 187 = .ok (.aload_n 1, 1) := by decide +kernel
theorem dX9_isAllowed_188 : decode cX9_isAllowed 188 = .ok (.getfield 404, 3) := by decide +kernel
theorem dX9_isAllowed_191 : decode cX9_isAllowed 191 = .ok (.invokevirtual 98, 3) := by decide +kernel
theorem dX9_isAllowed_194 : decode cX9_isAllowed 194 = .ok (.getstatic 400, 3) := by decide +kernel
theorem dX9_isAllowed_197 : decode cX9_isAllowed 197 = .ok (.if_acmp .ne 7, 3) := by decide +kernel
theorem dX9_isAllowed_200 : decode cX9_isAllowed 200 = .ok (.iconst 1, 1) := by decide +kernel
theorem dX9_isAllowed_201 : decode cX9_isAllowed 201 = .ok (.goto 4, 3) := by decide +kernel
theorem dX9_isAllowed_204 : decode cX9_isAllowed 204 = .ok (.iconst 0, 1) := by decide +kernel
theorem dX9_isAllowed_205 : decode cX9_isAllowed 205 = .ok (.ireturn, 1) := by decide +kernel
theorem dX9_isAllowed_206 : decode cX9_isAllowed 206 = .ok (.aload_n 0, 1) := by decide +kernel
theorem dX9_isAllowed_207 : decode cX9_isAllowed 207 = .ok (.getfield 12, 3) := by decide +kernel
theorem dX9_isAllowed_210 : decode cX9_isAllowed 210 = .ok (.getfield 101, 3) := by decide +kernel
theorem dX9_isAllowed_213 : decode cX9_isAllowed 213 = .ok (.aload_n 1, 1) := by decide +kernel
theorem dX9_isAllowed_214 : decode cX9_isAllowed 214 = .ok (.getfield 394, 3) := by decide +kernel
theorem dX9_isAllowed_217 : decode cX9_isAllowed 217 = .ok (.invokevirtual 348, 3) := by decide +kernel
theorem dX9_isAllowed_220 : decode cX9_isAllowed 220 = .ok (.ireturn, 1) := by decide +kernel
theorem dX9_isAllowed_221 : decode cX9_isAllowed 221 = .ok (.aload_n 0, 1) := by decide +kernel
theorem dX9_isAllowed_222 : decode cX9_isAllowed 222 = .ok (.getfield 12, 3) := by decide +kernel
theorem dX9_isAllowed_225 : decode cX9_isAllowed 225 = .ok (.aload_n 1, 1) := by decide +kernel
theorem dX9_isAllowed_226 : decode cX9_isAllowed 226 = .ok (.getfield 394, 3) := by decide +kernel
theorem dX9_isAllowed_229 : decode cX9_isAllowed 229 = .ok (.invokevirtual 121, 3) := by decide +kernel
theorem dX9_isAllowed_232 : decode cX9_isAllowed 232 = .ok (.getstatic 400, 3) := by decide +kernel
theorem dX9_isAllowed_235 : decode cX9_isAllowed 235 = .ok (.if_acmp .ne 7, 3) := by decide +kernel
theorem dX9_isAllowed_238 : decode cX9_isAllowed 238 = .ok (.iconst 1, 1) := by decide +kernel
theorem dX9_isAllowed_239 : decode cX9_isAllowed 239 = .ok (.goto 4, 3) := by decide +kernel
theorem dX9_isAllowed_242 : decode cX9_isAllowed 242 = .ok (.iconst 0, 1) := by decide +kernel
theorem dX9_isAllowed_243 : decode cX9_isAllowed 243 = .ok (.ireturn, 1) := by decide +kernel
set_option maxHeartbeats 4000000 in
set_option maxRecDepth 100000 in
theorem c_X9_isAllowed (g : xG) (l : Launch) (a : Nat → Nat) (b : Nat → Nat) (y : Nat) (x : Nat) (z : CcT) (v : StS) (c : CdT) (e : EvT) (w : CmT)  {u : Int32} (hf : f_X9_isAllowed z v c e w = some u) : ConD g l yX9_isAllowed cX9_isAllowed 2 (some .boolean) ({ frames := 2, cells := 0, slots := 0, locals := 44 } : Room) [.ref (a 0), .ref x] [ccO g a b y z, stO g a 10 v, cdW g a 10 c, evW g a 10 e, cmO g x w] (some (.int u)) [ccO g a b y z, stO g a 10 v, cdW g a 10 c, evW g a 10 e, cmO g x w] := by
  unfold f_X9_isAllowed at hf
  refine Con_of [ccO g a b y z, stO g a 10 v, cdW g a 10 c, evW g a 10 e, cmO g x w] [(0, .ref (a 0)), (1, .ref x)] rfl rfl (by decide) (Nat.le_of_ble_eq_true rfl) ?_
  intro pW eW sW mW argsW belowW methW c9 C hnm hr
  have C : CX g RX9 cX9_isAllowed 2 _ pW sW mW argsW methW c9 := C
  refine x_gets (Cn := "CandleConcert$1") (n := "$SwitchMap$CandleConcert$Kind") (d := "[I") C (CX_smK C) wd_1240 (fun _ h => h) dX9_isAllowed_0 ?_
  refine x_aload_n C dX9_isAllowed_3 rfl 1 rfl ?_
  refine x_get (ci := 5) (v := .ref (g.2.2 (200 + w.1))) (b := cmO g x w) C ixX2 rfl 0 (by decide) wd_950 (fun _ h => h) 4 rfl 0 (cmO_at0 g x _) rfl dX9_isAllowed_4 ?_
  obtain ⟨h1, hf⟩ := x_y hf
  refine x_ordK C h1 ⟨Nat.le_of_ble_eq_true rfl, Nat.le_of_ble_eq_true rfl, Nat.le_of_ble_eq_true rfl, Nat.le_of_ble_eq_true rfl⟩ (Nat.le_of_ble_eq_true rfl) dX9_isAllowed_7 ?_
  obtain ⟨h2, hf⟩ := x_n hf
  refine x_sti (f := fun j => smK.getD j 0) C (CX_tsmK C) h2 dX9_isAllowed_10 ?_
  by_cases h3 : (smK.getD (Int32.ofNat w.1).toNatClampNeg 0) = 1
  · have hf := x_t h3 hf
    refine x_tableIn (off := 41) (tgt := 52) C dX9_isAllowed_11 (by rw [h3]; decide) (by rw [h3]; decide) (by rw [h3]; rfl) (by decide) ?_
    refine x_aload_n C dX9_isAllowed_52 rfl 0 rfl ?_
    refine x_get (ci := 10) (v := .ref (a (10 + 0))) (b := ccO g a b y z) C ixX9 rfl 0 (by decide) wd_1000 (fun _ h => h) 0 rfl 0 (ccO_at0 g a b y _) rfl dX9_isAllowed_53 ?_
    refine x_aload_n C dX9_isAllowed_56 rfl 1 rfl ?_
    refine x_get (ci := 5) (v := .int w.2.2.2.2.1) (b := cmO g x w) C ixX2 rfl 4 (by decide) wd_962 (fun _ h => h) 4 rfl 0 (cmO_at0 g x _) rfl dX9_isAllowed_57 ?_
    refine x_aload_n C dX9_isAllowed_60 rfl 1 rfl ?_
    refine x_get (ci := 5) (v := .int w.2.2.1) (b := cmO g x w) C ixX2 rfl 2 (by decide) wd_956 (fun _ h => h) 4 rfl 0 (cmO_at0 g x _) rfl dX9_isAllowed_61 ?_
    refine x_aload_n C dX9_isAllowed_64 rfl 1 rfl ?_
    refine x_get (ci := 5) (v := .int w.2.2.2.1) (b := cmO g x w) C ixX2 rfl 3 (by decide) wd_959 (fun _ h => h) 4 rfl 0 (cmO_at0 g x _) rfl dX9_isAllowed_65 ?_
    obtain ⟨u4, hu4, hf⟩ := x_b hf
    refine x_callV (n := 3) (As := [.int w.2.2.2.2.1, .int w.2.2.1, .int w.2.2.2.1]) (rest := []) C (c_X8_refusalToAdd g l a 10 v c w.2.2.2.2.1 w.2.2.1 w.2.2.2.1 hu4) ⟨⟨wd_1054, wd_1051, wd_26⟩, ⟨by decide, by decide, by decide⟩, rfl, rfl, Nat.le_of_ble_eq_true rfl, Nat.le_of_ble_eq_true rfl⟩ wd_1052 wd_1053 ⟨0, 9, _, _, rfl, rfl, rfl⟩ [ccO g a b y z, evW g a 10 e, cmO g x w] (x_pickD [1, 2, 0, 3, 4] 5 rfl rfl rfl) rfl rfl (Nat.le_of_ble_eq_true rfl) ⟨Nat.le_of_ble_eq_true rfl, Nat.le_of_ble_eq_true rfl⟩ dX9_isAllowed_68 (x_goD (wss2 := [stO g a 10 v, cdW g a 10 c, ccO g a b y z, evW g a 10 e, cmO g x w]) (stk2 := [.ref (g.2.2 (100 + u4))]) rfl rfl ?_)
    refine x_gets (Cn := "CandleConcert$Refusal") (n := "NOTHING") (d := "LCandleConcert$Refusal;") C (CX_enR C 0 (by decide)) wd_1245 (fun _ h => h) dX9_isAllowed_71 ?_
    obtain ⟨h5, hf⟩ := x_y hf
    refine x_acmpR_ne (tgt := 81) C h5 dX9_isAllowed_74 (by decide) (by decide) (fun h6 => ?_) (fun h6 => ?_)
    · have hf := x_f h6 hf
      refine x_iconst (v := 0) C dX9_isAllowed_81 (by decide) ?_
      refine x_perm (wss' := [ccO g a b y z, stO g a 10 v, cdW g a 10 c, evW g a 10 e, cmO g x w]) (x_pick [2, 0, 1, 3, 4] 5 rfl rfl rfl) ?_
      exact x_zret C hr rfl ⟨by cases hf; rfl, by cases hf; rfl⟩ dX9_isAllowed_82
    · have hf := x_t h6 hf
      refine x_iconst (v := 1) C dX9_isAllowed_77 (by decide) ?_
      refine x_goto (tgt := 82) C dX9_isAllowed_78 (by decide) ?_
      refine x_perm (wss' := [ccO g a b y z, stO g a 10 v, cdW g a 10 c, evW g a 10 e, cmO g x w]) (x_pick [2, 0, 1, 3, 4] 5 rfl rfl rfl) ?_
      exact x_zret C hr rfl ⟨by cases hf; rfl, by cases hf; rfl⟩ dX9_isAllowed_82
  · have hf := x_f h3 hf
    by_cases h7 : (smK.getD (Int32.ofNat w.1).toNatClampNeg 0) = 2
    · have hf := x_t h7 hf
      refine x_tableIn (off := 72) (tgt := 83) C dX9_isAllowed_11 (by rw [h7]; decide) (by rw [h7]; decide) (by rw [h7]; rfl) (by decide) ?_
      refine x_aload_n C dX9_isAllowed_83 rfl 0 rfl ?_
      refine x_get (ci := 10) (v := .ref (a (10 + 0))) (b := ccO g a b y z) C ixX9 rfl 0 (by decide) wd_1000 (fun _ h => h) 0 rfl 0 (ccO_at0 g a b y _) rfl dX9_isAllowed_84 ?_
      refine x_aload_n C dX9_isAllowed_87 rfl 1 rfl ?_
      refine x_get (ci := 5) (v := .int w.2.1) (b := cmO g x w) C ixX2 rfl 1 (by decide) wd_953 (fun _ h => h) 4 rfl 0 (cmO_at0 g x _) rfl dX9_isAllowed_88 ?_
      obtain ⟨u8, hu8, hf⟩ := x_b hf
      refine x_callV (n := 1) (As := [.int w.2.1]) (rest := []) C (c_X8_refusalToLight g l a 10 v c w.2.1 hu8) ⟨⟨wd_588, wd_585, wd_26⟩, ⟨by decide, by decide, by decide⟩, rfl, rfl, Nat.le_of_ble_eq_true rfl, Nat.le_of_ble_eq_true rfl⟩ wd_586 wd_587 ⟨0, 9, _, _, rfl, rfl, rfl⟩ [ccO g a b y z, evW g a 10 e, cmO g x w] (x_pickD [1, 2, 0, 3, 4] 5 rfl rfl rfl) rfl rfl (Nat.le_of_ble_eq_true rfl) ⟨Nat.le_of_ble_eq_true rfl, Nat.le_of_ble_eq_true rfl⟩ dX9_isAllowed_91 (x_goD (wss2 := [stO g a 10 v, cdW g a 10 c, ccO g a b y z, evW g a 10 e, cmO g x w]) (stk2 := [.ref (g.2.2 (100 + u8))]) rfl rfl ?_)
      refine x_gets (Cn := "CandleConcert$Refusal") (n := "NOTHING") (d := "LCandleConcert$Refusal;") C (CX_enR C 0 (by decide)) wd_1245 (fun _ h => h) dX9_isAllowed_94 ?_
      obtain ⟨h9, hf⟩ := x_y hf
      refine x_acmpR_ne (tgt := 104) C h9 dX9_isAllowed_97 (by decide) (by decide) (fun h10 => ?_) (fun h10 => ?_)
      · have hf := x_f h10 hf
        refine x_iconst (v := 0) C dX9_isAllowed_104 (by decide) ?_
        refine x_perm (wss' := [ccO g a b y z, stO g a 10 v, cdW g a 10 c, evW g a 10 e, cmO g x w]) (x_pick [2, 0, 1, 3, 4] 5 rfl rfl rfl) ?_
        exact x_zret C hr rfl ⟨by cases hf; rfl, by cases hf; rfl⟩ dX9_isAllowed_105
      · have hf := x_t h10 hf
        refine x_iconst (v := 1) C dX9_isAllowed_100 (by decide) ?_
        refine x_goto (tgt := 105) C dX9_isAllowed_101 (by decide) ?_
        refine x_perm (wss' := [ccO g a b y z, stO g a 10 v, cdW g a 10 c, evW g a 10 e, cmO g x w]) (x_pick [2, 0, 1, 3, 4] 5 rfl rfl rfl) ?_
        exact x_zret C hr rfl ⟨by cases hf; rfl, by cases hf; rfl⟩ dX9_isAllowed_105
    · have hf := x_f h7 hf
      by_cases h11 : (smK.getD (Int32.ofNat w.1).toNatClampNeg 0) = 3
      · have hf := x_t h11 hf
        refine x_tableIn (off := 95) (tgt := 106) C dX9_isAllowed_11 (by rw [h11]; decide) (by rw [h11]; decide) (by rw [h11]; rfl) (by decide) ?_
        refine x_aload_n C dX9_isAllowed_106 rfl 0 rfl ?_
        refine x_get (ci := 10) (v := .ref (a (10 + 0))) (b := ccO g a b y z) C ixX9 rfl 0 (by decide) wd_1000 (fun _ h => h) 0 rfl 0 (ccO_at0 g a b y _) rfl dX9_isAllowed_107 ?_
        refine x_aload_n C dX9_isAllowed_110 rfl 1 rfl ?_
        refine x_get (ci := 5) (v := .int w.2.1) (b := cmO g x w) C ixX2 rfl 1 (by decide) wd_953 (fun _ h => h) 4 rfl 0 (cmO_at0 g x _) rfl dX9_isAllowed_111 ?_
        obtain ⟨u12, hu12, hf⟩ := x_b hf
        refine x_callV (n := 1) (As := [.int w.2.1]) (rest := []) C (c_X8_refusalToSnuff g l a 10 v c w.2.1 hu12) ⟨⟨wd_672, wd_669, wd_26⟩, ⟨by decide, by decide, by decide⟩, rfl, rfl, Nat.le_of_ble_eq_true rfl, Nat.le_of_ble_eq_true rfl⟩ wd_670 wd_671 ⟨0, 9, _, _, rfl, rfl, rfl⟩ [ccO g a b y z, evW g a 10 e, cmO g x w] (x_pickD [1, 2, 0, 3, 4] 5 rfl rfl rfl) rfl rfl (Nat.le_of_ble_eq_true rfl) ⟨Nat.le_of_ble_eq_true rfl, Nat.le_of_ble_eq_true rfl⟩ dX9_isAllowed_114 (x_goD (wss2 := [stO g a 10 v, cdW g a 10 c, ccO g a b y z, evW g a 10 e, cmO g x w]) (stk2 := [.ref (g.2.2 (100 + u12))]) rfl rfl ?_)
        refine x_gets (Cn := "CandleConcert$Refusal") (n := "NOTHING") (d := "LCandleConcert$Refusal;") C (CX_enR C 0 (by decide)) wd_1245 (fun _ h => h) dX9_isAllowed_117 ?_
        obtain ⟨h13, hf⟩ := x_y hf
        refine x_acmpR_ne (tgt := 127) C h13 dX9_isAllowed_120 (by decide) (by decide) (fun h14 => ?_) (fun h14 => ?_)
        · have hf := x_f h14 hf
          refine x_iconst (v := 0) C dX9_isAllowed_127 (by decide) ?_
          refine x_perm (wss' := [ccO g a b y z, stO g a 10 v, cdW g a 10 c, evW g a 10 e, cmO g x w]) (x_pick [2, 0, 1, 3, 4] 5 rfl rfl rfl) ?_
          exact x_zret C hr rfl ⟨by cases hf; rfl, by cases hf; rfl⟩ dX9_isAllowed_128
        · have hf := x_t h14 hf
          refine x_iconst (v := 1) C dX9_isAllowed_123 (by decide) ?_
          refine x_goto (tgt := 128) C dX9_isAllowed_124 (by decide) ?_
          refine x_perm (wss' := [ccO g a b y z, stO g a 10 v, cdW g a 10 c, evW g a 10 e, cmO g x w]) (x_pick [2, 0, 1, 3, 4] 5 rfl rfl rfl) ?_
          exact x_zret C hr rfl ⟨by cases hf; rfl, by cases hf; rfl⟩ dX9_isAllowed_128
      · have hf := x_f h11 hf
        by_cases h15 : (smK.getD (Int32.ofNat w.1).toNatClampNeg 0) = 4
        · have hf := x_t h15 hf
          refine x_tableIn (off := 118) (tgt := 129) C dX9_isAllowed_11 (by rw [h15]; decide) (by rw [h15]; decide) (by rw [h15]; rfl) (by decide) ?_
          refine x_aload_n C dX9_isAllowed_129 rfl 0 rfl ?_
          refine x_get (ci := 10) (v := .ref (a (10 + 0))) (b := ccO g a b y z) C ixX9 rfl 0 (by decide) wd_1000 (fun _ h => h) 0 rfl 0 (ccO_at0 g a b y _) rfl dX9_isAllowed_130 ?_
          refine x_aload_n C dX9_isAllowed_133 rfl 1 rfl ?_
          refine x_get (ci := 5) (v := .int w.2.1) (b := cmO g x w) C ixX2 rfl 1 (by decide) wd_953 (fun _ h => h) 4 rfl 0 (cmO_at0 g x _) rfl dX9_isAllowed_134 ?_
          refine x_aload_n C dX9_isAllowed_137 rfl 1 rfl ?_
          refine x_get (ci := 5) (v := .int w.2.2.1) (b := cmO g x w) C ixX2 rfl 2 (by decide) wd_956 (fun _ h => h) 4 rfl 0 (cmO_at0 g x _) rfl dX9_isAllowed_138 ?_
          obtain ⟨u16, hu16, hf⟩ := x_b hf
          refine x_callV (n := 2) (As := [.int w.2.1, .int w.2.2.1]) (rest := []) C (c_X8_refusalToPour g l a 10 v c w.2.1 w.2.2.1 hu16) ⟨⟨wd_1088, wd_1085, wd_26⟩, ⟨by decide, by decide, by decide⟩, rfl, rfl, Nat.le_of_ble_eq_true rfl, Nat.le_of_ble_eq_true rfl⟩ wd_1086 wd_1087 ⟨0, 9, _, _, rfl, rfl, rfl⟩ [ccO g a b y z, evW g a 10 e, cmO g x w] (x_pickD [1, 2, 0, 3, 4] 5 rfl rfl rfl) rfl rfl (Nat.le_of_ble_eq_true rfl) ⟨Nat.le_of_ble_eq_true rfl, Nat.le_of_ble_eq_true rfl⟩ dX9_isAllowed_141 (x_goD (wss2 := [stO g a 10 v, cdW g a 10 c, ccO g a b y z, evW g a 10 e, cmO g x w]) (stk2 := [.ref (g.2.2 (100 + u16))]) rfl rfl ?_)
          refine x_gets (Cn := "CandleConcert$Refusal") (n := "NOTHING") (d := "LCandleConcert$Refusal;") C (CX_enR C 0 (by decide)) wd_1245 (fun _ h => h) dX9_isAllowed_144 ?_
          obtain ⟨h17, hf⟩ := x_y hf
          refine x_acmpR_ne (tgt := 154) C h17 dX9_isAllowed_147 (by decide) (by decide) (fun h18 => ?_) (fun h18 => ?_)
          · have hf := x_f h18 hf
            refine x_iconst (v := 0) C dX9_isAllowed_154 (by decide) ?_
            refine x_perm (wss' := [ccO g a b y z, stO g a 10 v, cdW g a 10 c, evW g a 10 e, cmO g x w]) (x_pick [2, 0, 1, 3, 4] 5 rfl rfl rfl) ?_
            exact x_zret C hr rfl ⟨by cases hf; rfl, by cases hf; rfl⟩ dX9_isAllowed_155
          · have hf := x_t h18 hf
            refine x_iconst (v := 1) C dX9_isAllowed_150 (by decide) ?_
            refine x_goto (tgt := 155) C dX9_isAllowed_151 (by decide) ?_
            refine x_perm (wss' := [ccO g a b y z, stO g a 10 v, cdW g a 10 c, evW g a 10 e, cmO g x w]) (x_pick [2, 0, 1, 3, 4] 5 rfl rfl rfl) ?_
            exact x_zret C hr rfl ⟨by cases hf; rfl, by cases hf; rfl⟩ dX9_isAllowed_155
        · have hf := x_f h15 hf
          by_cases h19 : (smK.getD (Int32.ofNat w.1).toNatClampNeg 0) = 5
          · have hf := x_t h19 hf
            refine x_tableIn (off := 145) (tgt := 156) C dX9_isAllowed_11 (by rw [h19]; decide) (by rw [h19]; decide) (by rw [h19]; rfl) (by decide) ?_
            refine x_aload_n C dX9_isAllowed_156 rfl 0 rfl ?_
            refine x_get (ci := 10) (v := .ref (a (10 + 0))) (b := ccO g a b y z) C ixX9 rfl 0 (by decide) wd_1000 (fun _ h => h) 0 rfl 0 (ccO_at0 g a b y _) rfl dX9_isAllowed_157 ?_
            refine x_aload_n C dX9_isAllowed_160 rfl 1 rfl ?_
            refine x_get (ci := 5) (v := .int w.2.2.1) (b := cmO g x w) C ixX2 rfl 2 (by decide) wd_956 (fun _ h => h) 4 rfl 0 (cmO_at0 g x _) rfl dX9_isAllowed_161 ?_
            obtain ⟨u20, hu20, hf⟩ := x_b hf
            refine x_callV (n := 1) (As := [.int w.2.2.1]) (rest := []) C (c_X8_refusalToChangeDraught g l a 10 v w.2.2.1 hu20) ⟨⟨wd_690, wd_687, wd_26⟩, ⟨by decide, by decide, by decide⟩, rfl, rfl, Nat.le_of_ble_eq_true rfl, Nat.le_of_ble_eq_true rfl⟩ wd_688 wd_689 ⟨0, 9, _, _, rfl, rfl, rfl⟩ [ccO g a b y z, cdW g a 10 c, evW g a 10 e, cmO g x w] (x_pickD [1, 0, 2, 3, 4] 5 rfl rfl rfl) rfl rfl (Nat.le_of_ble_eq_true rfl) ⟨Nat.le_of_ble_eq_true rfl, Nat.le_of_ble_eq_true rfl⟩ dX9_isAllowed_164 (x_goD (wss2 := [stO g a 10 v, ccO g a b y z, cdW g a 10 c, evW g a 10 e, cmO g x w]) (stk2 := [.ref (g.2.2 (100 + u20))]) rfl rfl ?_)
            refine x_gets (Cn := "CandleConcert$Refusal") (n := "NOTHING") (d := "LCandleConcert$Refusal;") C (CX_enR C 0 (by decide)) wd_1245 (fun _ h => h) dX9_isAllowed_167 ?_
            obtain ⟨h21, hf⟩ := x_y hf
            refine x_acmpR_ne (tgt := 177) C h21 dX9_isAllowed_170 (by decide) (by decide) (fun h22 => ?_) (fun h22 => ?_)
            · have hf := x_f h22 hf
              refine x_iconst (v := 0) C dX9_isAllowed_177 (by decide) ?_
              refine x_perm (wss' := [ccO g a b y z, stO g a 10 v, cdW g a 10 c, evW g a 10 e, cmO g x w]) (x_pick [1, 0, 2, 3, 4] 5 rfl rfl rfl) ?_
              exact x_zret C hr rfl ⟨by cases hf; rfl, by cases hf; rfl⟩ dX9_isAllowed_178
            · have hf := x_t h22 hf
              refine x_iconst (v := 1) C dX9_isAllowed_173 (by decide) ?_
              refine x_goto (tgt := 178) C dX9_isAllowed_174 (by decide) ?_
              refine x_perm (wss' := [ccO g a b y z, stO g a 10 v, cdW g a 10 c, evW g a 10 e, cmO g x w]) (x_pick [1, 0, 2, 3, 4] 5 rfl rfl rfl) ?_
              exact x_zret C hr rfl ⟨by cases hf; rfl, by cases hf; rfl⟩ dX9_isAllowed_178
          · have hf := x_f h19 hf
            by_cases h23 : (smK.getD (Int32.ofNat w.1).toNatClampNeg 0) = 6
            · have hf := x_t h23 hf
              refine x_tableIn (off := 168) (tgt := 179) C dX9_isAllowed_11 (by rw [h23]; decide) (by rw [h23]; decide) (by rw [h23]; rfl) (by decide) ?_
              refine x_aload_n C dX9_isAllowed_179 rfl 0 rfl ?_
              refine x_get (ci := 10) (v := .ref (a (10 + 0))) (b := ccO g a b y z) C ixX9 rfl 0 (by decide) wd_1000 (fun _ h => h) 0 rfl 0 (ccO_at0 g a b y _) rfl dX9_isAllowed_180 ?_
              refine x_aload_n C dX9_isAllowed_183 rfl 1 rfl ?_
              refine x_get (ci := 5) (v := .int w.2.2.1) (b := cmO g x w) C ixX2 rfl 2 (by decide) wd_956 (fun _ h => h) 4 rfl 0 (cmO_at0 g x _) rfl dX9_isAllowed_184 ?_
              refine x_aload_n C dX9_isAllowed_187 rfl 1 rfl ?_
              refine x_get (ci := 5) (v := .int w.2.1) (b := cmO g x w) C ixX2 rfl 1 (by decide) wd_953 (fun _ h => h) 4 rfl 0 (cmO_at0 g x _) rfl dX9_isAllowed_188 ?_
              obtain ⟨u24, hu24, hf⟩ := x_b hf
              refine x_callV (n := 2) (As := [.int w.2.2.1, .int w.2.1]) (rest := []) C (c_X8_refusalToSchedule g l a 10 v c e w.2.2.1 w.2.1 hu24) ⟨⟨wd_707, wd_704, wd_26⟩, ⟨by decide, by decide, by decide⟩, rfl, rfl, Nat.le_of_ble_eq_true rfl, Nat.le_of_ble_eq_true rfl⟩ wd_705 wd_706 ⟨0, 9, _, _, rfl, rfl, rfl⟩ [ccO g a b y z, cmO g x w] (x_pickD [1, 2, 3, 0, 4] 5 rfl rfl rfl) rfl rfl (Nat.le_of_ble_eq_true rfl) ⟨Nat.le_of_ble_eq_true rfl, Nat.le_of_ble_eq_true rfl⟩ dX9_isAllowed_191 (x_goD (wss2 := [stO g a 10 v, cdW g a 10 c, evW g a 10 e, ccO g a b y z, cmO g x w]) (stk2 := [.ref (g.2.2 (100 + u24))]) rfl rfl ?_)
              refine x_gets (Cn := "CandleConcert$Refusal") (n := "NOTHING") (d := "LCandleConcert$Refusal;") C (CX_enR C 0 (by decide)) wd_1245 (fun _ h => h) dX9_isAllowed_194 ?_
              obtain ⟨h25, hf⟩ := x_y hf
              refine x_acmpR_ne (tgt := 204) C h25 dX9_isAllowed_197 (by decide) (by decide) (fun h26 => ?_) (fun h26 => ?_)
              · have hf := x_f h26 hf
                refine x_iconst (v := 0) C dX9_isAllowed_204 (by decide) ?_
                refine x_perm (wss' := [ccO g a b y z, stO g a 10 v, cdW g a 10 c, evW g a 10 e, cmO g x w]) (x_pick [3, 0, 1, 2, 4] 5 rfl rfl rfl) ?_
                exact x_zret C hr rfl ⟨by cases hf; rfl, by cases hf; rfl⟩ dX9_isAllowed_205
              · have hf := x_t h26 hf
                refine x_iconst (v := 1) C dX9_isAllowed_200 (by decide) ?_
                refine x_goto (tgt := 205) C dX9_isAllowed_201 (by decide) ?_
                refine x_perm (wss' := [ccO g a b y z, stO g a 10 v, cdW g a 10 c, evW g a 10 e, cmO g x w]) (x_pick [3, 0, 1, 2, 4] 5 rfl rfl rfl) ?_
                exact x_zret C hr rfl ⟨by cases hf; rfl, by cases hf; rfl⟩ dX9_isAllowed_205
            · have hf := x_f h23 hf
              by_cases h27 : (smK.getD (Int32.ofNat w.1).toNatClampNeg 0) = 7
              · have hf := x_t h27 hf
                refine x_tableIn (off := 195) (tgt := 206) C dX9_isAllowed_11 (by rw [h27]; decide) (by rw [h27]; decide) (by rw [h27]; rfl) (by decide) ?_
                refine x_aload_n C dX9_isAllowed_206 rfl 0 rfl ?_
                refine x_get (ci := 10) (v := .ref (a (10 + 0))) (b := ccO g a b y z) C ixX9 rfl 0 (by decide) wd_1000 (fun _ h => h) 0 rfl 0 (ccO_at0 g a b y _) rfl dX9_isAllowed_207 ?_
                refine x_get (ci := 9) (v := .ref (a (10 + 6))) (b := stO g a 10 v) C ixX8 rfl 1 (by decide) wd_876 (fun _ h => h) 1 rfl 0 (stO_at0 g a 10 _) rfl dX9_isAllowed_210 ?_
                refine x_aload_n C dX9_isAllowed_213 rfl 1 rfl ?_
                refine x_get (ci := 5) (v := .int w.2.2.1) (b := cmO g x w) C ixX2 rfl 2 (by decide) wd_956 (fun _ h => h) 4 rfl 0 (cmO_at0 g x _) rfl dX9_isAllowed_214 ?_
                obtain ⟨u28, hu28, hf⟩ := x_b hf
                refine x_callV (n := 1) (As := [.int w.2.2.1]) (rest := []) C (c_X3_has g l a 10 e w.2.2.1 hu28) ⟨⟨wd_207, wd_1109, wd_28⟩, ⟨by decide, by decide, by decide⟩, rfl, rfl, Nat.le_of_ble_eq_true rfl, Nat.le_of_ble_eq_true rfl⟩ wd_205 wd_206 ⟨0, 6, _, _, rfl, rfl, rfl⟩ [ccO g a b y z, stO g a 10 v, cdW g a 10 c, cmO g x w] (x_pickD [3, 0, 1, 2, 4] 5 rfl rfl rfl) rfl rfl (Nat.le_of_ble_eq_true rfl) ⟨Nat.le_of_ble_eq_true rfl, Nat.le_of_ble_eq_true rfl⟩ dX9_isAllowed_217 (x_goD (wss2 := [evW g a 10 e, ccO g a b y z, stO g a 10 v, cdW g a 10 c, cmO g x w]) (stk2 := [.int u28]) rfl rfl ?_)
                obtain ⟨h29, hf⟩ := x_y hf
                refine x_perm (wss' := [ccO g a b y z, stO g a 10 v, cdW g a 10 c, evW g a 10 e, cmO g x w]) (x_pick [1, 2, 3, 0, 4] 5 rfl rfl rfl) ?_
                exact x_zret C hr (x_narZ h29).1 ⟨by cases hf; rfl, by cases hf; rfl⟩ dX9_isAllowed_220
              · have hf := x_f h27 hf
                refine x_tableOut (tgt := 221) C dX9_isAllowed_11 (by have q0 := lv_neT (a := 1) h3 (by decide); have q1 := lv_neT (a := 2) h7 (by decide); have q2 := lv_neT (a := 3) h11 (by decide); have q3 := lv_neT (a := 4) h15 (by decide); have q4 := lv_neT (a := 5) h19 (by decide); have q5 := lv_neT (a := 6) h23 (by decide); have q6 := lv_neT (a := 7) h27 (by decide); omega) (by decide) ?_
                refine x_aload_n C dX9_isAllowed_221 rfl 0 rfl ?_
                refine x_get (ci := 10) (v := .ref (a (10 + 0))) (b := ccO g a b y z) C ixX9 rfl 0 (by decide) wd_1000 (fun _ h => h) 0 rfl 0 (ccO_at0 g a b y _) rfl dX9_isAllowed_222 ?_
                refine x_aload_n C dX9_isAllowed_225 rfl 1 rfl ?_
                refine x_get (ci := 5) (v := .int w.2.2.1) (b := cmO g x w) C ixX2 rfl 2 (by decide) wd_956 (fun _ h => h) 4 rfl 0 (cmO_at0 g x _) rfl dX9_isAllowed_226 ?_
                obtain ⟨u30, hu30, hf⟩ := x_b hf
                refine x_callV (n := 1) (As := [.int w.2.2.1]) (rest := []) C (c_X8_refusalToPass g l a 10 v w.2.2.1 hu30) ⟨⟨wd_729, wd_726, wd_26⟩, ⟨by decide, by decide, by decide⟩, rfl, rfl, Nat.le_of_ble_eq_true rfl, Nat.le_of_ble_eq_true rfl⟩ wd_727 wd_728 ⟨0, 9, _, _, rfl, rfl, rfl⟩ [ccO g a b y z, cdW g a 10 c, evW g a 10 e, cmO g x w] (x_pickD [1, 0, 2, 3, 4] 5 rfl rfl rfl) rfl rfl (Nat.le_of_ble_eq_true rfl) ⟨Nat.le_of_ble_eq_true rfl, Nat.le_of_ble_eq_true rfl⟩ dX9_isAllowed_229 (x_goD (wss2 := [stO g a 10 v, ccO g a b y z, cdW g a 10 c, evW g a 10 e, cmO g x w]) (stk2 := [.ref (g.2.2 (100 + u30))]) rfl rfl ?_)
                refine x_gets (Cn := "CandleConcert$Refusal") (n := "NOTHING") (d := "LCandleConcert$Refusal;") C (CX_enR C 0 (by decide)) wd_1245 (fun _ h => h) dX9_isAllowed_232 ?_
                obtain ⟨h31, hf⟩ := x_y hf
                refine x_acmpR_ne (tgt := 242) C h31 dX9_isAllowed_235 (by decide) (by decide) (fun h32 => ?_) (fun h32 => ?_)
                · have hf := x_f h32 hf
                  refine x_iconst (v := 0) C dX9_isAllowed_242 (by decide) ?_
                  refine x_perm (wss' := [ccO g a b y z, stO g a 10 v, cdW g a 10 c, evW g a 10 e, cmO g x w]) (x_pick [1, 0, 2, 3, 4] 5 rfl rfl rfl) ?_
                  exact x_zret C hr rfl ⟨by cases hf; rfl, by cases hf; rfl⟩ dX9_isAllowed_243
                · have hf := x_t h32 hf
                  refine x_iconst (v := 1) C dX9_isAllowed_238 (by decide) ?_
                  refine x_goto (tgt := 243) C dX9_isAllowed_239 (by decide) ?_
                  refine x_perm (wss' := [ccO g a b y z, stO g a 10 v, cdW g a 10 c, evW g a 10 e, cmO g x w]) (x_pick [1, 0, 2, 3, 4] 5 rfl rfl rfl) ?_
                  exact x_zret C hr rfl ⟨by cases hf; rfl, by cases hf; rfl⟩ dX9_isAllowed_243
theorem wd_965 : Cond.fieldLink RX9 406 "CandleConcert$Command" "lighting" "Z" ∈ xTB := xTB_in 965 (by decide +kernel) (by decide +kernel)
theorem dX9_execute_0 : decode cX9_execute 0 = .ok (.getstatic 380, 3) := by decide +kernel
theorem dX9_execute_3 : decode cX9_execute 3 = .ok (.aload_n 1, 1) := by decide +kernel
theorem dX9_execute_4 : decode cX9_execute 4 = .ok (.getfield 383, 3) := by decide +kernel
theorem dX9_execute_7 : decode cX9_execute 7 = .ok (.invokevirtual 389, 3) := by decide +kernel
theorem dX9_execute_10 : decode cX9_execute 10 = .ok (.iaload, 1) := by decide +kernel
theorem dX9_execute_11 : decode cX9_execute 11 = .ok (.tableswitch 171 1 7 #[41, 64, 79, 94, 113, 128, 154], 41) := by decide +kernel
theorem dX9_execute_52 : decode cX9_execute 52 = .ok (.aload_n 0, 1) := by decide +kernel
theorem dX9_execute_53 : decode cX9_execute 53 = .ok (.getfield 12, 3) := by decide +kernel
theorem dX9_execute_56 : decode cX9_execute 56 = .ok (.aload_n 1, 1) := by decide +kernel
theorem dX9_execute_57 : decode cX9_execute 57 = .ok (.getfield 392, 3) := by decide +kernel
theorem dX9_execute_60 : decode cX9_execute 60 = .ok (.aload_n 1, 1) := by decide +kernel
theorem dX9_execute_61 : decode cX9_execute 61 = .ok (.getfield 394, 3) := by decide +kernel
theorem dX9_execute_64 : decode cX9_execute 64 = .ok (.aload_n 1, 1) := by decide +kernel
theorem dX9_execute_65 : decode cX9_execute 65 = .ok (.getfield 397, 3) := by decide +kernel
theorem dX9_execute_68 : decode cX9_execute 68 = .ok (.invokevirtual 66, 3) := by decide +kernel
theorem dX9_execute_71 : decode cX9_execute 71 = .ok (.pop, 1) := by decide +kernel
theorem dX9_execute_72 : decode cX9_execute 72 = .ok (.goto 122, 3) := by decide +kernel
theorem dX9_execute_75 : decode cX9_execute 75 = .ok (.aload_n 0, 1) := by decide +kernel
theorem dX9_execute_76 : decode cX9_execute 76 = .ok (.getfield 12, 3) := by decide +kernel
theorem dX9_execute_79 : decode cX9_execute 79 = .ok (.aload_n 1, 1) := by decide +kernel
theorem dX9_execute_80 : decode cX9_execute 80 = .ok (.getfield 404, 3) := by decide +kernel
theorem dX9_execute_83 : decode cX9_execute 83 = .ok (.invokevirtual 74, 3) := by decide +kernel
theorem dX9_execute_86 : decode cX9_execute 86 = .ok (.pop, 1) := by decide +kernel
theorem dX9_execute_87 : decode cX9_execute 87 = .ok (.goto 107, 3) := by decide +kernel
theorem dX9_execute_90 : decode cX9_execute 90 = .ok (.aload_n 0, 1) := by decide +kernel
theorem dX9_execute_91 : decode cX9_execute 91 = .ok (.getfield 12, 3) := by decide +kernel
theorem dX9_execute_94 : decode cX9_execute 94 = .ok (.aload_n 1, 1) := by decide +kernel
theorem dX9_execute_95 : decode cX9_execute 95 = .ok (.getfield 404, 3) := by decide +kernel
theorem dX9_execute_98 : decode cX9_execute 98 = .ok (.invokevirtual 81, 3) := by decide +kernel
theorem dX9_execute_101 : decode cX9_execute 101 = .ok (.pop, 1) := by decide +kernel
theorem dX9_execute_102 : decode cX9_execute 102 = .ok (.goto 92, 3) := by decide +kernel
theorem dX9_execute_105 : decode cX9_execute 105 = .ok (.aload_n 0, 1) := by decide +kernel
theorem dX9_execute_106 : decode cX9_execute 106 = .ok (.getfield 12, 3) := by decide +kernel
theorem dX9_execute_109 : decode cX9_execute 109 = .ok (.aload_n 1, 1) := by decide +kernel
theorem dX9_execute_110 : decode cX9_execute 110 = .ok (.getfield 404, 3) := by decide +kernel
theorem dX9_execute_113 : decode cX9_execute 113 = .ok (.aload_n 1, 1) := by decide +kernel
theorem dX9_execute_114 : decode cX9_execute 114 = .ok (.getfield 394, 3) := by decide +kernel
theorem dX9_execute_117 : decode cX9_execute 117 = .ok (.invokevirtual 88, 3) := by decide +kernel
theorem dX9_execute_120 : decode cX9_execute 120 = .ok (.pop, 1) := by decide +kernel
theorem dX9_execute_121 : decode cX9_execute 121 = .ok (.goto 73, 3) := by decide +kernel
theorem dX9_execute_124 : decode cX9_execute 124 = .ok (.aload_n 0, 1) := by decide +kernel
theorem dX9_execute_125 : decode cX9_execute 125 = .ok (.getfield 12, 3) := by decide +kernel
theorem dX9_execute_128 : decode cX9_execute 128 = .ok (.aload_n 1, 1) := by decide +kernel
theorem dX9_execute_129 : decode cX9_execute 129 = .ok (.getfield 394, 3) := by decide +kernel
theorem dX9_execute_132 : decode cX9_execute 132 = .ok (.invokevirtual 95, 3) := by decide +kernel
theorem dX9_execute_135 : decode cX9_execute 135 = .ok (.pop, 1) := by decide +kernel
theorem dX9_execute_136 : decode cX9_execute 136 = .ok (.goto 58, 3) := by decide +kernel
theorem dX9_execute_139 : decode cX9_execute 139 = .ok (.aload_n 0, 1) := by decide +kernel
theorem dX9_execute_140 : decode cX9_execute 140 = .ok (.getfield 12, 3) := by decide +kernel
theorem dX9_execute_143 : decode cX9_execute 143 = .ok (.getfield 101, 3) := by decide +kernel
theorem dX9_execute_146 : decode cX9_execute 146 = .ok (.aload_n 1, 1) := by decide +kernel
theorem dX9_execute_147 : decode cX9_execute 147 = .ok (.getfield 394, 3) := by decide +kernel
theorem dX9_execute_150 : decode cX9_execute 150 = .ok (.aload_n 1, 1) := by decide +kernel
theorem dX9_execute_151 : decode cX9_execute 151 = .ok (.getfield 404, 3) := by decide +kernel
theorem dX9_execute_154 : decode cX9_execute 154 = .ok (.aload_n 1, 1) := by decide +kernel
theorem dX9_execute_155 : decode cX9_execute 155 = .ok (.getfield 406, 3) := by decide +kernel
theorem dX9_execute_158 : decode cX9_execute 158 = .ok (.invokevirtual 105, 3) := by decide +kernel
theorem dX9_execute_161 : decode cX9_execute 161 = .ok (.pop, 1) := by decide +kernel
theorem dX9_execute_162 : decode cX9_execute 162 = .ok (.goto 32, 3) := by decide +kernel
theorem dX9_execute_165 : decode cX9_execute 165 = .ok (.aload_n 0, 1) := by decide +kernel
theorem dX9_execute_166 : decode cX9_execute 166 = .ok (.getfield 12, 3) := by decide +kernel
theorem dX9_execute_169 : decode cX9_execute 169 = .ok (.getfield 101, 3) := by decide +kernel
theorem dX9_execute_172 : decode cX9_execute 172 = .ok (.aload_n 1, 1) := by decide +kernel
theorem dX9_execute_173 : decode cX9_execute 173 = .ok (.getfield 394, 3) := by decide +kernel
theorem dX9_execute_176 : decode cX9_execute 176 = .ok (.invokevirtual 115, 3) := by decide +kernel
theorem dX9_execute_179 : decode cX9_execute 179 = .ok (.goto 15, 3) := by decide +kernel
theorem dX9_execute_182 : decode cX9_execute 182 = .ok (.aload_n 0, 1) := by decide +kernel
theorem dX9_execute_183 : decode cX9_execute 183 = .ok (.getfield 12, 3) := by decide +kernel
theorem dX9_execute_186 : decode cX9_execute 186 = .ok (.aload_n 1, 1) := by decide +kernel
theorem dX9_execute_187 : decode cX9_execute 187 = .ok (.getfield 394, 3) := by decide +kernel
theorem dX9_execute_190 : decode cX9_execute 190 = .ok (.invokevirtual 124, 3) := by decide +kernel
theorem dX9_execute_193 : decode cX9_execute 193 = .ok (.pop, 1) := by decide +kernel
theorem dX9_execute_194 : decode cX9_execute 194 = .ok (.return_, 1) := by decide +kernel
set_option maxHeartbeats 4000000 in
set_option maxRecDepth 100000 in
theorem c_X9_execute (g : xG) (l : Launch) (a : Nat → Nat) (b : Nat → Nat) (y : Nat) (x : Nat) (z : CcT) (v : StS) (c : CdT) (e : EvT) (w : CmT)  {u : StS × CdT × EvT} (hf : f_X9_execute z v c e w = some u) : ConD g l yX9_execute cX9_execute 2 none ({ frames := 5, cells := 0, slots := 0, locals := 110 } : Room) [.ref (a 0), .ref x] [ccO g a b y z, stO g a 10 v, cdW g a 10 c, evW g a 10 e, cmO g x w] (none) [ccO g a b y z, stO g a 10 u.1, cdW g a 10 u.2.1, evW g a 10 u.2.2, cmO g x w] := by
  unfold f_X9_execute at hf
  refine Con_of [ccO g a b y z, stO g a 10 v, cdW g a 10 c, evW g a 10 e, cmO g x w] [(0, .ref (a 0)), (1, .ref x)] rfl rfl (by decide) (Nat.le_of_ble_eq_true rfl) ?_
  intro pW eW sW mW argsW belowW methW c9 C hnm hr
  have C : CX g RX9 cX9_execute 2 _ pW sW mW argsW methW c9 := C
  refine x_gets (Cn := "CandleConcert$1") (n := "$SwitchMap$CandleConcert$Kind") (d := "[I") C (CX_smK C) wd_1240 (fun _ h => h) dX9_execute_0 ?_
  refine x_aload_n C dX9_execute_3 rfl 1 rfl ?_
  refine x_get (ci := 5) (v := .ref (g.2.2 (200 + w.1))) (b := cmO g x w) C ixX2 rfl 0 (by decide) wd_950 (fun _ h => h) 4 rfl 0 (cmO_at0 g x _) rfl dX9_execute_4 ?_
  obtain ⟨h1, hf⟩ := x_y hf
  refine x_ordK C h1 ⟨Nat.le_of_ble_eq_true rfl, Nat.le_of_ble_eq_true rfl, Nat.le_of_ble_eq_true rfl, Nat.le_of_ble_eq_true rfl⟩ (Nat.le_of_ble_eq_true rfl) dX9_execute_7 ?_
  obtain ⟨h2, hf⟩ := x_n hf
  refine x_sti (f := fun j => smK.getD j 0) C (CX_tsmK C) h2 dX9_execute_10 ?_
  by_cases h3 : (smK.getD (Int32.ofNat w.1).toNatClampNeg 0) = 1
  · have hf := x_t h3 hf
    refine x_tableIn (off := 41) (tgt := 52) C dX9_execute_11 (by rw [h3]; decide) (by rw [h3]; decide) (by rw [h3]; rfl) (by decide) ?_
    refine x_aload_n C dX9_execute_52 rfl 0 rfl ?_
    refine x_get (ci := 10) (v := .ref (a (10 + 0))) (b := ccO g a b y z) C ixX9 rfl 0 (by decide) wd_1000 (fun _ h => h) 0 rfl 0 (ccO_at0 g a b y _) rfl dX9_execute_53 ?_
    refine x_aload_n C dX9_execute_56 rfl 1 rfl ?_
    refine x_get (ci := 5) (v := .int w.2.2.2.2.1) (b := cmO g x w) C ixX2 rfl 4 (by decide) wd_962 (fun _ h => h) 4 rfl 0 (cmO_at0 g x _) rfl dX9_execute_57 ?_
    refine x_aload_n C dX9_execute_60 rfl 1 rfl ?_
    refine x_get (ci := 5) (v := .int w.2.2.1) (b := cmO g x w) C ixX2 rfl 2 (by decide) wd_956 (fun _ h => h) 4 rfl 0 (cmO_at0 g x _) rfl dX9_execute_61 ?_
    refine x_aload_n C dX9_execute_64 rfl 1 rfl ?_
    refine x_get (ci := 5) (v := .int w.2.2.2.1) (b := cmO g x w) C ixX2 rfl 3 (by decide) wd_959 (fun _ h => h) 4 rfl 0 (cmO_at0 g x _) rfl dX9_execute_65 ?_
    obtain ⟨u4, hu4, hf⟩ := x_b hf
    refine x_callV (n := 3) (As := [.int w.2.2.2.2.1, .int w.2.2.1, .int w.2.2.2.1]) (rest := []) C (c_X8_addNewCandle g l a 10 v c w.2.2.2.2.1 w.2.2.1 w.2.2.2.1 hu4) ⟨⟨wd_1067, wd_1064, wd_26⟩, ⟨by decide, by decide, by decide⟩, rfl, rfl, Nat.le_of_ble_eq_true rfl, Nat.le_of_ble_eq_true rfl⟩ wd_1065 wd_1066 ⟨0, 9, _, _, rfl, rfl, rfl⟩ [ccO g a b y z, evW g a 10 e, cmO g x w] (x_pickD [1, 2, 0, 3, 4] 5 rfl rfl rfl) rfl rfl (Nat.le_of_ble_eq_true rfl) ⟨Nat.le_of_ble_eq_true rfl, Nat.le_of_ble_eq_true rfl⟩ dX9_execute_68 (x_goD (wss2 := [stO g a 10 u4.2.1, cdW g a 10 u4.2.2, ccO g a b y z, evW g a 10 e, cmO g x w]) (stk2 := [.int u4.1]) rfl rfl ?_)
    refine x_pop C dX9_execute_71 rfl ?_
    refine x_goto (tgt := 194) C dX9_execute_72 (by decide) ?_
    refine x_perm (wss' := [ccO g a b y z, stO g a 10 u4.2.1, cdW g a 10 u4.2.2, evW g a 10 e, cmO g x w]) (x_pick [2, 0, 1, 3, 4] 5 rfl rfl rfl) ?_
    exact x_vret C hr ⟨by cases hf; rfl, by cases hf; rfl⟩ dX9_execute_194
  · have hf := x_f h3 hf
    by_cases h5 : (smK.getD (Int32.ofNat w.1).toNatClampNeg 0) = 2
    · have hf := x_t h5 hf
      refine x_tableIn (off := 64) (tgt := 75) C dX9_execute_11 (by rw [h5]; decide) (by rw [h5]; decide) (by rw [h5]; rfl) (by decide) ?_
      refine x_aload_n C dX9_execute_75 rfl 0 rfl ?_
      refine x_get (ci := 10) (v := .ref (a (10 + 0))) (b := ccO g a b y z) C ixX9 rfl 0 (by decide) wd_1000 (fun _ h => h) 0 rfl 0 (ccO_at0 g a b y _) rfl dX9_execute_76 ?_
      refine x_aload_n C dX9_execute_79 rfl 1 rfl ?_
      refine x_get (ci := 5) (v := .int w.2.1) (b := cmO g x w) C ixX2 rfl 1 (by decide) wd_953 (fun _ h => h) 4 rfl 0 (cmO_at0 g x _) rfl dX9_execute_80 ?_
      obtain ⟨u6, hu6, hf⟩ := x_b hf
      refine x_callV (n := 1) (As := [.int w.2.1]) (rest := []) C (c_X8_setLit g l a 10 v c w.2.1 hu6) ⟨⟨wd_658, wd_655, wd_26⟩, ⟨by decide, by decide, by decide⟩, rfl, rfl, Nat.le_of_ble_eq_true rfl, Nat.le_of_ble_eq_true rfl⟩ wd_656 wd_657 ⟨0, 9, _, _, rfl, rfl, rfl⟩ [ccO g a b y z, evW g a 10 e, cmO g x w] (x_pickD [1, 2, 0, 3, 4] 5 rfl rfl rfl) rfl rfl (Nat.le_of_ble_eq_true rfl) ⟨Nat.le_of_ble_eq_true rfl, Nat.le_of_ble_eq_true rfl⟩ dX9_execute_83 (x_goD (wss2 := [stO g a 10 v, cdW g a 10 u6.2, ccO g a b y z, evW g a 10 e, cmO g x w]) (stk2 := [.int u6.1]) rfl rfl ?_)
      refine x_pop C dX9_execute_86 rfl ?_
      refine x_goto (tgt := 194) C dX9_execute_87 (by decide) ?_
      refine x_perm (wss' := [ccO g a b y z, stO g a 10 v, cdW g a 10 u6.2, evW g a 10 e, cmO g x w]) (x_pick [2, 0, 1, 3, 4] 5 rfl rfl rfl) ?_
      exact x_vret C hr ⟨by cases hf; rfl, by cases hf; rfl⟩ dX9_execute_194
    · have hf := x_f h5 hf
      by_cases h7 : (smK.getD (Int32.ofNat w.1).toNatClampNeg 0) = 3
      · have hf := x_t h7 hf
        refine x_tableIn (off := 79) (tgt := 90) C dX9_execute_11 (by rw [h7]; decide) (by rw [h7]; decide) (by rw [h7]; rfl) (by decide) ?_
        refine x_aload_n C dX9_execute_90 rfl 0 rfl ?_
        refine x_get (ci := 10) (v := .ref (a (10 + 0))) (b := ccO g a b y z) C ixX9 rfl 0 (by decide) wd_1000 (fun _ h => h) 0 rfl 0 (ccO_at0 g a b y _) rfl dX9_execute_91 ?_
        refine x_aload_n C dX9_execute_94 rfl 1 rfl ?_
        refine x_get (ci := 5) (v := .int w.2.1) (b := cmO g x w) C ixX2 rfl 1 (by decide) wd_953 (fun _ h => h) 4 rfl 0 (cmO_at0 g x _) rfl dX9_execute_95 ?_
        obtain ⟨u8, hu8, hf⟩ := x_b hf
        refine x_callV (n := 1) (As := [.int w.2.1]) (rest := []) C (c_X8_setUnlit g l a 10 v c w.2.1 hu8) ⟨⟨wd_678, wd_675, wd_26⟩, ⟨by decide, by decide, by decide⟩, rfl, rfl, Nat.le_of_ble_eq_true rfl, Nat.le_of_ble_eq_true rfl⟩ wd_676 wd_677 ⟨0, 9, _, _, rfl, rfl, rfl⟩ [ccO g a b y z, evW g a 10 e, cmO g x w] (x_pickD [1, 2, 0, 3, 4] 5 rfl rfl rfl) rfl rfl (Nat.le_of_ble_eq_true rfl) ⟨Nat.le_of_ble_eq_true rfl, Nat.le_of_ble_eq_true rfl⟩ dX9_execute_98 (x_goD (wss2 := [stO g a 10 v, cdW g a 10 u8.2, ccO g a b y z, evW g a 10 e, cmO g x w]) (stk2 := [.int u8.1]) rfl rfl ?_)
        refine x_pop C dX9_execute_101 rfl ?_
        refine x_goto (tgt := 194) C dX9_execute_102 (by decide) ?_
        refine x_perm (wss' := [ccO g a b y z, stO g a 10 v, cdW g a 10 u8.2, evW g a 10 e, cmO g x w]) (x_pick [2, 0, 1, 3, 4] 5 rfl rfl rfl) ?_
        exact x_vret C hr ⟨by cases hf; rfl, by cases hf; rfl⟩ dX9_execute_194
      · have hf := x_f h7 hf
        by_cases h9 : (smK.getD (Int32.ofNat w.1).toNatClampNeg 0) = 4
        · have hf := x_t h9 hf
          refine x_tableIn (off := 94) (tgt := 105) C dX9_execute_11 (by rw [h9]; decide) (by rw [h9]; decide) (by rw [h9]; rfl) (by decide) ?_
          refine x_aload_n C dX9_execute_105 rfl 0 rfl ?_
          refine x_get (ci := 10) (v := .ref (a (10 + 0))) (b := ccO g a b y z) C ixX9 rfl 0 (by decide) wd_1000 (fun _ h => h) 0 rfl 0 (ccO_at0 g a b y _) rfl dX9_execute_106 ?_
          refine x_aload_n C dX9_execute_109 rfl 1 rfl ?_
          refine x_get (ci := 5) (v := .int w.2.1) (b := cmO g x w) C ixX2 rfl 1 (by decide) wd_953 (fun _ h => h) 4 rfl 0 (cmO_at0 g x _) rfl dX9_execute_110 ?_
          refine x_aload_n C dX9_execute_113 rfl 1 rfl ?_
          refine x_get (ci := 5) (v := .int w.2.2.1) (b := cmO g x w) C ixX2 rfl 2 (by decide) wd_956 (fun _ h => h) 4 rfl 0 (cmO_at0 g x _) rfl dX9_execute_114 ?_
          obtain ⟨u10, hu10, hf⟩ := x_b hf
          refine x_callV (n := 2) (As := [.int w.2.1, .int w.2.2.1]) (rest := []) C (c_X8_pourFromDish g l a 10 v c w.2.1 w.2.2.1 hu10) ⟨⟨wd_1096, wd_1093, wd_26⟩, ⟨by decide, by decide, by decide⟩, rfl, rfl, Nat.le_of_ble_eq_true rfl, Nat.le_of_ble_eq_true rfl⟩ wd_1094 wd_1095 ⟨0, 9, _, _, rfl, rfl, rfl⟩ [ccO g a b y z, evW g a 10 e, cmO g x w] (x_pickD [1, 2, 0, 3, 4] 5 rfl rfl rfl) rfl rfl (Nat.le_of_ble_eq_true rfl) ⟨Nat.le_of_ble_eq_true rfl, Nat.le_of_ble_eq_true rfl⟩ dX9_execute_117 (x_goD (wss2 := [stO g a 10 u10.2.1, cdW g a 10 u10.2.2, ccO g a b y z, evW g a 10 e, cmO g x w]) (stk2 := [.int u10.1]) rfl rfl ?_)
          refine x_pop C dX9_execute_120 rfl ?_
          refine x_goto (tgt := 194) C dX9_execute_121 (by decide) ?_
          refine x_perm (wss' := [ccO g a b y z, stO g a 10 u10.2.1, cdW g a 10 u10.2.2, evW g a 10 e, cmO g x w]) (x_pick [2, 0, 1, 3, 4] 5 rfl rfl rfl) ?_
          exact x_vret C hr ⟨by cases hf; rfl, by cases hf; rfl⟩ dX9_execute_194
        · have hf := x_f h9 hf
          by_cases h11 : (smK.getD (Int32.ofNat w.1).toNatClampNeg 0) = 5
          · have hf := x_t h11 hf
            refine x_tableIn (off := 113) (tgt := 124) C dX9_execute_11 (by rw [h11]; decide) (by rw [h11]; decide) (by rw [h11]; rfl) (by decide) ?_
            refine x_aload_n C dX9_execute_124 rfl 0 rfl ?_
            refine x_get (ci := 10) (v := .ref (a (10 + 0))) (b := ccO g a b y z) C ixX9 rfl 0 (by decide) wd_1000 (fun _ h => h) 0 rfl 0 (ccO_at0 g a b y _) rfl dX9_execute_125 ?_
            refine x_aload_n C dX9_execute_128 rfl 1 rfl ?_
            refine x_get (ci := 5) (v := .int w.2.2.1) (b := cmO g x w) C ixX2 rfl 2 (by decide) wd_956 (fun _ h => h) 4 rfl 0 (cmO_at0 g x _) rfl dX9_execute_129 ?_
            obtain ⟨u12, hu12, hf⟩ := x_b hf
            refine x_callV (n := 1) (As := [.int w.2.2.1]) (rest := []) C (c_X8_changeDraught g l a 10 v w.2.2.1 hu12) ⟨⟨wd_696, wd_693, wd_26⟩, ⟨by decide, by decide, by decide⟩, rfl, rfl, Nat.le_of_ble_eq_true rfl, Nat.le_of_ble_eq_true rfl⟩ wd_694 wd_695 ⟨0, 9, _, _, rfl, rfl, rfl⟩ [ccO g a b y z, cdW g a 10 c, evW g a 10 e, cmO g x w] (x_pickD [1, 0, 2, 3, 4] 5 rfl rfl rfl) rfl rfl (Nat.le_of_ble_eq_true rfl) ⟨Nat.le_of_ble_eq_true rfl, Nat.le_of_ble_eq_true rfl⟩ dX9_execute_132 (x_goD (wss2 := [stO g a 10 u12.2, ccO g a b y z, cdW g a 10 c, evW g a 10 e, cmO g x w]) (stk2 := [.int u12.1]) rfl rfl ?_)
            refine x_pop C dX9_execute_135 rfl ?_
            refine x_goto (tgt := 194) C dX9_execute_136 (by decide) ?_
            refine x_perm (wss' := [ccO g a b y z, stO g a 10 u12.2, cdW g a 10 c, evW g a 10 e, cmO g x w]) (x_pick [1, 0, 2, 3, 4] 5 rfl rfl rfl) ?_
            exact x_vret C hr ⟨by cases hf; rfl, by cases hf; rfl⟩ dX9_execute_194
          · have hf := x_f h11 hf
            by_cases h13 : (smK.getD (Int32.ofNat w.1).toNatClampNeg 0) = 6
            · have hf := x_t h13 hf
              refine x_tableIn (off := 128) (tgt := 139) C dX9_execute_11 (by rw [h13]; decide) (by rw [h13]; decide) (by rw [h13]; rfl) (by decide) ?_
              refine x_aload_n C dX9_execute_139 rfl 0 rfl ?_
              refine x_get (ci := 10) (v := .ref (a (10 + 0))) (b := ccO g a b y z) C ixX9 rfl 0 (by decide) wd_1000 (fun _ h => h) 0 rfl 0 (ccO_at0 g a b y _) rfl dX9_execute_140 ?_
              refine x_get (ci := 9) (v := .ref (a (10 + 6))) (b := stO g a 10 v) C ixX8 rfl 1 (by decide) wd_876 (fun _ h => h) 1 rfl 0 (stO_at0 g a 10 _) rfl dX9_execute_143 ?_
              refine x_aload_n C dX9_execute_146 rfl 1 rfl ?_
              refine x_get (ci := 5) (v := .int w.2.2.1) (b := cmO g x w) C ixX2 rfl 2 (by decide) wd_956 (fun _ h => h) 4 rfl 0 (cmO_at0 g x _) rfl dX9_execute_147 ?_
              refine x_aload_n C dX9_execute_150 rfl 1 rfl ?_
              refine x_get (ci := 5) (v := .int w.2.1) (b := cmO g x w) C ixX2 rfl 1 (by decide) wd_953 (fun _ h => h) 4 rfl 0 (cmO_at0 g x _) rfl dX9_execute_151 ?_
              refine x_aload_n C dX9_execute_154 rfl 1 rfl ?_
              refine x_get (ci := 5) (v := .int w.2.2.2.2.2) (b := cmO g x w) C ixX2 rfl 5 (by decide) wd_965 (fun _ h => h) 4 rfl 0 (cmO_at0 g x _) rfl dX9_execute_155 ?_
              obtain ⟨u14, hu14, hf⟩ := x_b hf
              refine x_callV (n := 3) (As := [.int w.2.2.1, .int w.2.1, .int w.2.2.2.2.2]) (rest := []) C (c_X3_insert g l a 10 e w.2.2.1 w.2.1 w.2.2.2.2.2 hu14) ⟨⟨wd_717, wd_714, wd_28⟩, ⟨by decide, by decide, by decide⟩, rfl, rfl, Nat.le_of_ble_eq_true rfl, Nat.le_of_ble_eq_true rfl⟩ wd_715 wd_716 ⟨0, 6, _, _, rfl, rfl, rfl⟩ [ccO g a b y z, stO g a 10 v, cdW g a 10 c, cmO g x w] (x_pickD [3, 0, 1, 2, 4] 5 rfl rfl rfl) rfl rfl (Nat.le_of_ble_eq_true rfl) ⟨Nat.le_of_ble_eq_true rfl, Nat.le_of_ble_eq_true rfl⟩ dX9_execute_158 (x_goD (wss2 := [evW g a 10 u14.2, ccO g a b y z, stO g a 10 v, cdW g a 10 c, cmO g x w]) (stk2 := [.int u14.1]) rfl rfl ?_)
              refine x_pop C dX9_execute_161 rfl ?_
              refine x_goto (tgt := 194) C dX9_execute_162 (by decide) ?_
              refine x_perm (wss' := [ccO g a b y z, stO g a 10 v, cdW g a 10 c, evW g a 10 u14.2, cmO g x w]) (x_pick [1, 2, 3, 0, 4] 5 rfl rfl rfl) ?_
              exact x_vret C hr ⟨by cases hf; rfl, by cases hf; rfl⟩ dX9_execute_194
            · have hf := x_f h13 hf
              by_cases h15 : (smK.getD (Int32.ofNat w.1).toNatClampNeg 0) = 7
              · have hf := x_t h15 hf
                refine x_tableIn (off := 154) (tgt := 165) C dX9_execute_11 (by rw [h15]; decide) (by rw [h15]; decide) (by rw [h15]; rfl) (by decide) ?_
                refine x_aload_n C dX9_execute_165 rfl 0 rfl ?_
                refine x_get (ci := 10) (v := .ref (a (10 + 0))) (b := ccO g a b y z) C ixX9 rfl 0 (by decide) wd_1000 (fun _ h => h) 0 rfl 0 (ccO_at0 g a b y _) rfl dX9_execute_166 ?_
                refine x_get (ci := 9) (v := .ref (a (10 + 6))) (b := stO g a 10 v) C ixX8 rfl 1 (by decide) wd_876 (fun _ h => h) 1 rfl 0 (stO_at0 g a 10 _) rfl dX9_execute_169 ?_
                refine x_aload_n C dX9_execute_172 rfl 1 rfl ?_
                refine x_get (ci := 5) (v := .int w.2.2.1) (b := cmO g x w) C ixX2 rfl 2 (by decide) wd_956 (fun _ h => h) 4 rfl 0 (cmO_at0 g x _) rfl dX9_execute_173 ?_
                obtain ⟨u16, hu16, hf⟩ := x_b hf
                refine x_callV (n := 1) (As := [.int w.2.2.1]) (rest := []) C (c_X3_remove g l a 10 e w.2.2.1 hu16) ⟨⟨wd_203, wd_1111, wd_28⟩, ⟨by decide, by decide, by decide⟩, rfl, rfl, Nat.le_of_ble_eq_true rfl, Nat.le_of_ble_eq_true rfl⟩ wd_201 wd_202 ⟨0, 6, _, _, rfl, rfl, rfl⟩ [ccO g a b y z, stO g a 10 v, cdW g a 10 c, cmO g x w] (x_pickD [3, 0, 1, 2, 4] 5 rfl rfl rfl) rfl rfl (Nat.le_of_ble_eq_true rfl) ⟨Nat.le_of_ble_eq_true rfl, Nat.le_of_ble_eq_true rfl⟩ dX9_execute_176 (x_goD (wss2 := [evW g a 10 u16, ccO g a b y z, stO g a 10 v, cdW g a 10 c, cmO g x w]) (stk2 := []) rfl rfl ?_)
                refine x_goto (tgt := 194) C dX9_execute_179 (by decide) ?_
                refine x_perm (wss' := [ccO g a b y z, stO g a 10 v, cdW g a 10 c, evW g a 10 u16, cmO g x w]) (x_pick [1, 2, 3, 0, 4] 5 rfl rfl rfl) ?_
                exact x_vret C hr ⟨by cases hf; rfl, by cases hf; rfl⟩ dX9_execute_194
              · have hf := x_f h15 hf
                refine x_tableOut (tgt := 182) C dX9_execute_11 (by have q0 := lv_neT (a := 1) h3 (by decide); have q1 := lv_neT (a := 2) h5 (by decide); have q2 := lv_neT (a := 3) h7 (by decide); have q3 := lv_neT (a := 4) h9 (by decide); have q4 := lv_neT (a := 5) h11 (by decide); have q5 := lv_neT (a := 6) h13 (by decide); have q6 := lv_neT (a := 7) h15 (by decide); omega) (by decide) ?_
                refine x_aload_n C dX9_execute_182 rfl 0 rfl ?_
                refine x_get (ci := 10) (v := .ref (a (10 + 0))) (b := ccO g a b y z) C ixX9 rfl 0 (by decide) wd_1000 (fun _ h => h) 0 rfl 0 (ccO_at0 g a b y _) rfl dX9_execute_183 ?_
                refine x_aload_n C dX9_execute_186 rfl 1 rfl ?_
                refine x_get (ci := 5) (v := .int w.2.2.1) (b := cmO g x w) C ixX2 rfl 2 (by decide) wd_956 (fun _ h => h) 4 rfl 0 (cmO_at0 g x _) rfl dX9_execute_187 ?_
                obtain ⟨u17, hu17, hf⟩ := x_b hf
                refine x_callV (n := 1) (As := [.int w.2.2.1]) (rest := []) C (c_X8_passMinutes g l a 10 v c e w.2.2.1 hu17) ⟨⟨wd_733, wd_730, wd_26⟩, ⟨by decide, by decide, by decide⟩, rfl, rfl, Nat.le_of_ble_eq_true rfl, Nat.le_of_ble_eq_true rfl⟩ wd_731 wd_732 ⟨0, 9, _, _, rfl, rfl, rfl⟩ [ccO g a b y z, cmO g x w] (x_pickD [1, 2, 3, 0, 4] 5 rfl rfl rfl) rfl rfl (Nat.le_of_ble_eq_true rfl) ⟨Nat.le_of_ble_eq_true rfl, Nat.le_of_ble_eq_true rfl⟩ dX9_execute_190 (x_goD (wss2 := [stO g a 10 u17.2.1, cdW g a 10 u17.2.2.1, evW g a 10 u17.2.2.2, ccO g a b y z, cmO g x w]) (stk2 := [.int u17.1]) rfl rfl ?_)
                refine x_pop C dX9_execute_193 rfl ?_
                refine x_perm (wss' := [ccO g a b y z, stO g a 10 u17.2.1, cdW g a 10 u17.2.2.1, evW g a 10 u17.2.2.2, cmO g x w]) (x_pick [3, 0, 1, 2, 4] 5 rfl rfl rfl) ?_
                exact x_vret C hr ⟨by cases hf; rfl, by cases hf; rfl⟩ dX9_execute_194
theorem wd_21 : Cond.selects yX9_isAllowed.cls yX9_isAllowed yX9_isAllowed ∈ xTB := xTB_in 21 (by decide +kernel) (by decide +kernel)
theorem wd_22 : Cond.selects yX9_execute.cls yX9_execute yX9_execute ∈ xTB := xTB_in 22 (by decide +kernel) (by decide +kernel)
theorem wd_981 : Cond.fieldLink RX9 314 "CandleConcert$Program" "commands" "[LCandleConcert$Command;" ∈ xTB := xTB_in 981 (by decide +kernel) (by decide +kernel)
theorem wd_984 : Cond.fieldLink RX9 311 "CandleConcert$Program" "commandCount" "I" ∈ xTB := xTB_in 984 (by decide +kernel) (by decide +kernel)
theorem wd_986 : Cond.fieldLink RX9 306 "CandleConcert$Program" "position" "I" ∈ xTB := xTB_in 986 (by decide +kernel) (by decide +kernel)
theorem wd_1007 : Cond.fieldLink RX9 47 "CandleConcert" "errorPosition" "I" ∈ xTB := xTB_in 1007 (by decide +kernel) (by decide +kernel)
theorem wd_1008 : Cond.fieldLink RX9 51 "CandleConcert" "failedCommand" "I" ∈ xTB := xTB_in 1008 (by decide +kernel) (by decide +kernel)
theorem wd_1153 : Cond.methodLink RX9 300 yX6_parse ∈ xTB := xTB_in 1153 (by decide +kernel) (by decide +kernel)
theorem wd_1154 : Cond.instanceMethod yX6_parse ∈ xTB := xTB_in 1154 (by decide +kernel) (by decide +kernel)
theorem wd_1155 : Cond.selects yX6_parse.cls yX6_parse yX6_parse ∈ xTB := xTB_in 1155 (by decide +kernel) (by decide +kernel)
theorem wd_1156 : Cond.code yX6_parse cX6_parse 2 (some .boolean) ∈ xTB := xTB_in 1156 (by decide +kernel) (by decide +kernel)
theorem wd_1231 : Cond.methodLink RX9 303 yX6_clear ∈ xTB := xTB_in 1231 (by decide +kernel) (by decide +kernel)
theorem wd_1232 : Cond.instanceMethod yX6_clear ∈ xTB := xTB_in 1232 (by decide +kernel) (by decide +kernel)
theorem wd_1233 : Cond.selects yX6_clear.cls yX6_clear yX6_clear ∈ xTB := xTB_in 1233 (by decide +kernel) (by decide +kernel)
theorem wd_1234 : Cond.code yX6_clear cX6_clear 1 none ∈ xTB := xTB_in 1234 (by decide +kernel) (by decide +kernel)
theorem wd_1236 : Cond.methodLink RX9 318 yX9_isAllowed ∈ xTB := xTB_in 1236 (by decide +kernel) (by decide +kernel)
theorem wd_1238 : Cond.instanceMethod yX9_isAllowed ∈ xTB := xTB_in 1238 (by decide +kernel) (by decide +kernel)
theorem wd_1239 : Cond.code yX9_isAllowed cX9_isAllowed 2 (some .boolean) ∈ xTB := xTB_in 1239 (by decide +kernel) (by decide +kernel)
theorem wd_1247 : Cond.methodLink RX9 327 yX9_execute ∈ xTB := xTB_in 1247 (by decide +kernel) (by decide +kernel)
theorem wd_1249 : Cond.instanceMethod yX9_execute ∈ xTB := xTB_in 1249 (by decide +kernel) (by decide +kernel)
theorem wd_1250 : Cond.code yX9_execute cX9_execute 2 none ∈ xTB := xTB_in 1250 (by decide +kernel) (by decide +kernel)
theorem dX9_run_0 : decode cX9_run 0 = .ok (.aload_n 0, 1) := by decide +kernel
theorem dX9_run_1 : decode cX9_run 1 = .ok (.getfield 32, 3) := by decide +kernel
theorem dX9_run_4 : decode cX9_run 4 = .ok (.invokevirtual 300, 3) := by decide +kernel
theorem dX9_run_7 : decode cX9_run 7 = .ok (.istore_n 1, 1) := by decide +kernel
theorem dX9_run_8 : decode cX9_run 8 = .ok (.aload_n 0, 1) := by decide +kernel
theorem dX9_run_9 : decode cX9_run 9 = .ok (.getfield 32, 3) := by decide +kernel
theorem dX9_run_12 : decode cX9_run 12 = .ok (.invokevirtual 303, 3) := by decide +kernel
theorem dX9_run_15 : decode cX9_run 15 = .ok (.iload_n 1, 1) := by decide +kernel
theorem dX9_run_16 : decode cX9_run 16 = .ok (.ifCond .ne 25, 3) := by decide +kernel
theorem dX9_run_19 : decode cX9_run 19 = .ok (.aload_n 0, 1) := by decide +kernel
theorem dX9_run_20 : decode cX9_run 20 = .ok (.aload_n 0, 1) := by decide +kernel
theorem dX9_run_21 : decode cX9_run 21 = .ok (.getfield 32, 3) := by decide +kernel
theorem dX9_run_24 : decode cX9_run 24 = .ok (.getfield 306, 3) := by decide +kernel
theorem dX9_run_27 : decode cX9_run 27 = .ok (.putfield 47, 3) := by decide +kernel
theorem dX9_run_30 : decode cX9_run 30 = .ok (.new 160, 3) := by decide +kernel
theorem dX9_run_33 : decode cX9_run 33 = .ok (.dup, 1) := by decide +kernel
theorem dX9_run_34 : decode cX9_run 34 = .ok (.ldc_w 309, 3) := by decide +kernel
theorem dX9_run_37 : decode cX9_run 37 = .ok (.invokespecial 164, 3) := by decide +kernel
theorem dX9_run_40 : decode cX9_run 40 = .ok (.athrow, 1) := by decide +kernel
theorem dX9_run_41 : decode cX9_run 41 = .ok (.aload_n 0, 1) := by decide +kernel
theorem dX9_run_42 : decode cX9_run 42 = .ok (.getfield 16, 3) := by decide +kernel
theorem dX9_run_45 : decode cX9_run 45 = .ok (.aload_n 0, 1) := by decide +kernel
theorem dX9_run_46 : decode cX9_run 46 = .ok (.getfield 12, 3) := by decide +kernel
theorem dX9_run_49 : decode cX9_run 49 = .ok (.invokevirtual 216, 3) := by decide +kernel
theorem dX9_run_52 : decode cX9_run 52 = .ok (.iconst 0, 1) := by decide +kernel
theorem dX9_run_53 : decode cX9_run 53 = .ok (.istore_n 2, 1) := by decide +kernel
theorem dX9_run_54 : decode cX9_run 54 = .ok (.iload_n 2, 1) := by decide +kernel
theorem dX9_run_55 : decode cX9_run 55 = .ok (.aload_n 0, 1) := by decide +kernel
theorem dX9_run_56 : decode cX9_run 56 = .ok (.getfield 32, 3) := by decide +kernel
theorem dX9_run_59 : decode cX9_run 59 = .ok (.getfield 311, 3) := by decide +kernel
theorem dX9_run_62 : decode cX9_run 62 = .ok (.if_icmp .ge 65, 3) := by decide +kernel
theorem dX9_run_65 : decode cX9_run 65 = .ok (.aload_n 0, 1) := by decide +kernel
theorem dX9_run_66 : decode cX9_run 66 = .ok (.aload_n 0, 1) := by decide +kernel
theorem dX9_run_67 : decode cX9_run 67 = .ok (.getfield 32, 3) := by decide +kernel
theorem dX9_run_70 : decode cX9_run 70 = .ok (.getfield 314, 3) := by decide +kernel
theorem dX9_run_73 : decode cX9_run 73 = .ok (.iload_n 2, 1) := by decide +kernel
theorem dX9_run_74 : decode cX9_run 74 = .ok (.aaload, 1) := by decide +kernel
theorem dX9_run_75 : decode cX9_run 75 = .ok (.invokevirtual 318, 3) := by decide +kernel
theorem dX9_run_78 : decode cX9_run 78 = .ok (.ifCond .ne 30, 3) := by decide +kernel
theorem dX9_run_81 : decode cX9_run 81 = .ok (.aload_n 0, 1) := by decide +kernel
theorem dX9_run_82 : decode cX9_run 82 = .ok (.getfield 12, 3) := by decide +kernel
theorem dX9_run_85 : decode cX9_run 85 = .ok (.aload_n 0, 1) := by decide +kernel
theorem dX9_run_86 : decode cX9_run 86 = .ok (.getfield 16, 3) := by decide +kernel
theorem dX9_run_89 : decode cX9_run 89 = .ok (.invokevirtual 216, 3) := by decide +kernel
theorem dX9_run_92 : decode cX9_run 92 = .ok (.aload_n 0, 1) := by decide +kernel
theorem dX9_run_93 : decode cX9_run 93 = .ok (.iload_n 2, 1) := by decide +kernel
theorem dX9_run_94 : decode cX9_run 94 = .ok (.putfield 51, 3) := by decide +kernel
theorem dX9_run_97 : decode cX9_run 97 = .ok (.new 322, 3) := by decide +kernel
theorem dX9_run_100 : decode cX9_run 100 = .ok (.dup, 1) := by decide +kernel
theorem dX9_run_101 : decode cX9_run 101 = .ok (.ldc_w 324, 3) := by decide +kernel
theorem dX9_run_104 : decode cX9_run 104 = .ok (.invokespecial 326, 3) := by decide +kernel
theorem dX9_run_107 : decode cX9_run 107 = .ok (.athrow, 1) := by decide +kernel
theorem dX9_run_108 : decode cX9_run 108 = .ok (.aload_n 0, 1) := by decide +kernel
theorem dX9_run_109 : decode cX9_run 109 = .ok (.aload_n 0, 1) := by decide +kernel
theorem dX9_run_110 : decode cX9_run 110 = .ok (.getfield 32, 3) := by decide +kernel
theorem dX9_run_113 : decode cX9_run 113 = .ok (.getfield 314, 3) := by decide +kernel
theorem dX9_run_116 : decode cX9_run 116 = .ok (.iload_n 2, 1) := by decide +kernel
theorem dX9_run_117 : decode cX9_run 117 = .ok (.aaload, 1) := by decide +kernel
theorem dX9_run_118 : decode cX9_run 118 = .ok (.invokevirtual 327, 3) := by decide +kernel
theorem dX9_run_121 : decode cX9_run 121 = .ok (.iinc 2 1, 3) := by decide +kernel
theorem dX9_run_124 : decode cX9_run 124 = .ok (.goto (-70), 3) := by decide +kernel
theorem dX9_run_127 : decode cX9_run 127 = .ok (.aload_n 0, 1) := by decide +kernel
theorem dX9_run_128 : decode cX9_run 128 = .ok (.getfield 25, 3) := by decide +kernel
theorem dX9_run_131 : decode cX9_run 131 = .ok (.aload_n 0, 1) := by decide +kernel
theorem dX9_run_132 : decode cX9_run 132 = .ok (.getfield 16, 3) := by decide +kernel
theorem dX9_run_135 : decode cX9_run 135 = .ok (.invokevirtual 62, 3) := by decide +kernel
theorem dX9_run_138 : decode cX9_run 138 = .ok (.aload_n 0, 1) := by decide +kernel
theorem dX9_run_139 : decode cX9_run 139 = .ok (.getfield 32, 3) := by decide +kernel
theorem dX9_run_142 : decode cX9_run 142 = .ok (.getfield 311, 3) := by decide +kernel
theorem dX9_run_145 : decode cX9_run 145 = .ok (.ireturn, 1) := by decide +kernel
set_option maxHeartbeats 4000000 in
set_option maxRecDepth 100000 in
theorem c_X9_run (g : xG) (l : Launch) (hl : l.stackTraces = false) (a : Nat → Nat) (b : Nat → Nat) (y : Nat) (z : CcT) (v : StS) (c : CdT) (e : EvT) (v2 : StS) (c2 : CdT) (e2 : EvT) (h : HiT) (t : Unit) (vs : (Nat → StS)) (cs : (Nat → CdT)) (es : (Nat → EvT)) (q : PrT) (t2 : Unit) (ws : (Nat → CmT))  {u : (Nat ⊕ Int32) × CcT × StS × CdT × EvT × StS × CdT × EvT × HiT × (Nat → StS) × (Nat → CdT) × (Nat → EvT) × PrT × (Nat → CmT)} (hf : f_X9_run z v c e v2 c2 e2 h t vs cs es q t2 ws = some u) : ConX g l yX9_run cX9_run 3 (some .int) ({ frames := 8, cells := 1, slots := 6, locals := 170 } : Room) [.ref (a 0)] ([ccO g a b y z, stO g a 10 v, cdW g a 10 c, evW g a 10 e, stO g a 20 v2, cdW g a 20 c2, evW g a 20 e2, hiO g a h, hrW g a t, stF g a vs, cdF g a cs, evF g a es, prO g b q, caW g b t2, cmF g b ws] : List va_W).flatten (fun v9 w9 => ∃ r9, u.1 = Sum.inr r9 ∧ v9 = some (.int r9) ∧ w9 = ([ccO g a b y u.2.1, stO g a 10 u.2.2.1, cdW g a 10 u.2.2.2.1, evW g a 10 u.2.2.2.2.1, stO g a 20 u.2.2.2.2.2.1, cdW g a 20 u.2.2.2.2.2.2.1, evW g a 20 u.2.2.2.2.2.2.2.1, hiO g a u.2.2.2.2.2.2.2.2.1, hrW g a t, stF g a u.2.2.2.2.2.2.2.2.2.1, cdF g a u.2.2.2.2.2.2.2.2.2.2.1, evF g a u.2.2.2.2.2.2.2.2.2.2.2.1, prO g b u.2.2.2.2.2.2.2.2.2.2.2.2.1, caW g b t2, cmF g b u.2.2.2.2.2.2.2.2.2.2.2.2.2] : List va_W).flatten) (fun e9 w9 => ∃ k9, u.1 = Sum.inl k9 ∧ e9 = xcE k9 ∧ w9 = ([ccO g a b y u.2.1, stO g a 10 u.2.2.1, cdW g a 10 u.2.2.2.1, evW g a 10 u.2.2.2.2.1, stO g a 20 u.2.2.2.2.2.1, cdW g a 20 u.2.2.2.2.2.2.1, evW g a 20 u.2.2.2.2.2.2.2.1, hiO g a u.2.2.2.2.2.2.2.2.1, hrW g a t, stF g a u.2.2.2.2.2.2.2.2.2.1, cdF g a u.2.2.2.2.2.2.2.2.2.2.1, evF g a u.2.2.2.2.2.2.2.2.2.2.2.1, prO g b u.2.2.2.2.2.2.2.2.2.2.2.2.1, caW g b t2, cmF g b u.2.2.2.2.2.2.2.2.2.2.2.2.2] : List va_W).flatten) 1 6 := by
  unfold f_X9_run at hf
  refine ConX_of [ccO g a b y z, stO g a 10 v, cdW g a 10 c, evW g a 10 e, stO g a 20 v2, cdW g a 20 c2, evW g a 20 e2, hiO g a h, hrW g a t, stF g a vs, cdF g a cs, evF g a es, prO g b q, caW g b t2, cmF g b ws] [(0, .ref (a 0))] rfl rfl (by decide) (Nat.le_of_ble_eq_true rfl) ?_
  intro pW eW sW mW argsW belowW methW c9 C hnm hr hout
  have C : CX g RX9 cX9_run 3 _ pW sW mW argsW methW c9 := C
  have hL54 : ∀ (nW : Nat) (zL : CcT) (vL : StS) (cL : CdT) (eL : EvT) (v2L : StS) (c2L : CdT) (e2L : EvT) (hL : HiT) (vsL : (Nat → StS)) (csL : (Nat → CdT)) (esL : (Nat → EvT)) (qL : PrT) (wsL : (Nat → CmT)) (x2 : Int32), f_X9_run_54 nW zL vL cL eL v2L c2L e2L hL t vsL csL esL qL t2 wsL x2 = some u → VW g (va_A ([ccO g a b y z, stO g a 10 v, cdW g a 10 c, evW g a 10 e, stO g a 20 v2, cdW g a 20 c2, evW g a 20 e2, hiO g a h, hrW g a t, stF g a vs, cdF g a cs, evF g a es, prO g b q, caW g b t2, cmF g b ws] : List va_W).flatten sW.heap.size) 3 pW l eW ({ frames := 8, cells := 1, slots := 6, locals := 170 } : Room) sW mW argsW belowW methW c9 0 0 (vx_MQ belowW (xQc g ([ccO g a b y z, stO g a 10 v, cdW g a 10 c, evW g a 10 e, stO g a 20 v2, cdW g a 20 c2, evW g a 20 e2, hiO g a h, hrW g a t, stF g a vs, cdF g a cs, evF g a es, prO g b q, caW g b t2, cmF g b ws] : List va_W).flatten sW.heap.size (fun v9 w9 => ∃ r9, u.1 = Sum.inr r9 ∧ v9 = some (.int r9) ∧ w9 = ([ccO g a b y u.2.1, stO g a 10 u.2.2.1, cdW g a 10 u.2.2.2.1, evW g a 10 u.2.2.2.2.1, stO g a 20 u.2.2.2.2.2.1, cdW g a 20 u.2.2.2.2.2.2.1, evW g a 20 u.2.2.2.2.2.2.2.1, hiO g a u.2.2.2.2.2.2.2.2.1, hrW g a t, stF g a u.2.2.2.2.2.2.2.2.2.1, cdF g a u.2.2.2.2.2.2.2.2.2.2.1, evF g a u.2.2.2.2.2.2.2.2.2.2.2.1, prO g b u.2.2.2.2.2.2.2.2.2.2.2.2.1, caW g b t2, cmF g b u.2.2.2.2.2.2.2.2.2.2.2.2.2] : List va_W).flatten)) (xXc g ([ccO g a b y z, stO g a 10 v, cdW g a 10 c, evW g a 10 e, stO g a 20 v2, cdW g a 20 c2, evW g a 20 e2, hiO g a h, hrW g a t, stF g a vs, cdF g a cs, evF g a es, prO g b q, caW g b t2, cmF g b ws] : List va_W).flatten sW.heap.size (fun e9 w9 => ∃ k9, u.1 = Sum.inl k9 ∧ e9 = xcE k9 ∧ w9 = ([ccO g a b y u.2.1, stO g a 10 u.2.2.1, cdW g a 10 u.2.2.2.1, evW g a 10 u.2.2.2.2.1, stO g a 20 u.2.2.2.2.2.1, cdW g a 20 u.2.2.2.2.2.2.1, evW g a 20 u.2.2.2.2.2.2.2.1, hiO g a u.2.2.2.2.2.2.2.2.1, hrW g a t, stF g a u.2.2.2.2.2.2.2.2.2.1, cdF g a u.2.2.2.2.2.2.2.2.2.2.1, evF g a u.2.2.2.2.2.2.2.2.2.2.2.1, prO g b u.2.2.2.2.2.2.2.2.2.2.2.2.1, caW g b t2, cmF g b u.2.2.2.2.2.2.2.2.2.2.2.2.2] : List va_W).flatten)) argsW sW 1 6 (va_A ([ccO g a b y z, stO g a 10 v, cdW g a 10 c, evW g a 10 e, stO g a 20 v2, cdW g a 20 c2, evW g a 20 e2, hiO g a h, hrW g a t, stF g a vs, cdF g a cs, evF g a es, prO g b q, caW g b t2, cmF g b ws] : List va_W).flatten sW.heap.size)) [ccO g a b y zL, stO g a 10 vL, cdW g a 10 cL, evW g a 10 eL, stO g a 20 v2L, cdW g a 20 c2L, evW g a 20 e2L, hiO g a hL, hrW g a t, stF g a vsL, cdF g a csL, evF g a esL, prO g b qL, caW g b t2, cmF g b wsL] [(0, .ref (a 0)), (2, .int x2)] 54 [] := by
    intro nW
    induction nW with
    | zero => intro zL vL cL eL v2L c2L e2L hL vsL csL esL qL wsL x2 hf; rw [f_X9_run_54] at hf; cases hf
    | succ nW ih =>
      intro zL vL cL eL v2L c2L e2L hL vsL csL esL qL wsL x2 hf
      rw [f_X9_run_54] at hf
      refine x_iload_n C dX9_run_54 rfl 1 rfl ?_
      refine x_aload_n C dX9_run_55 rfl 0 rfl ?_
      refine x_get (ci := 10) (v := .ref (b 0)) (b := ccO g a b y zL) C ixX9 rfl 4 (by decide) wd_1004 (fun _ h => h) 0 rfl 0 (ccO_at0 g a b y _) rfl dX9_run_56 ?_
      refine x_get (ci := 8) (v := .int qL.2.2.1) (b := prO g b qL) C ixX6 rfl 3 (by decide) wd_984 (fun _ h => h) 12 rfl 0 (prO_at0 g b _) rfl dX9_run_59 ?_
      refine x_icmp_ge (tgt := 127) C dX9_run_62 (by decide) (fun h1 => ?_) (fun h1 => ?_)
      · have hf := x_t h1 hf
        refine x_aload_n C dX9_run_127 rfl 0 rfl ?_
        refine x_get (ci := 10) (v := .ref (a 90)) (b := ccO g a b y zL) C ixX9 rfl 3 (by decide) wd_1003 (fun _ h => h) 0 rfl 0 (ccO_at0 g a b y _) rfl dX9_run_128 ?_
        refine x_aload_n C dX9_run_131 rfl 0 rfl ?_
        refine x_get (ci := 10) (v := .ref (a (20 + 0))) (b := ccO g a b y zL) C ixX9 rfl 1 (by decide) wd_1001 (fun _ h => h) 0 rfl 0 (ccO_at0 g a b y _) rfl dX9_run_132 ?_
        obtain ⟨u2, hu2, hf⟩ := x_b hf
        refine x_callV (n := 1) (As := [.ref (a (20 + 0))]) (rest := []) C (c_X4_remember g l a 20 hL t vsL csL esL v2L c2L e2L hu2) ⟨⟨wd_652, wd_649, wd_29⟩, ⟨by decide, by decide, by decide⟩, rfl, rfl, Nat.le_of_ble_eq_true rfl, Nat.le_of_ble_eq_true rfl⟩ wd_650 wd_651 ⟨0, 7, _, _, rfl, rfl, rfl⟩ [ccO g a b y zL, stO g a 10 vL, cdW g a 10 cL, evW g a 10 eL, prO g b qL, caW g b t2, cmF g b wsL] (x_pickD [7, 8, 9, 10, 11, 4, 5, 6, 0, 1, 2, 3, 12, 13, 14] 15 rfl rfl rfl) rfl rfl (Nat.le_of_ble_eq_true rfl) ⟨Nat.le_of_ble_eq_true rfl, Nat.le_of_ble_eq_true rfl⟩ dX9_run_135 (x_goD (wss2 := [hiO g a u2.1, hrW g a t, stF g a u2.2.1, cdF g a u2.2.2.1, evF g a u2.2.2.2, stO g a 20 v2L, cdW g a 20 c2L, evW g a 20 e2L, ccO g a b y zL, stO g a 10 vL, cdW g a 10 cL, evW g a 10 eL, prO g b qL, caW g b t2, cmF g b wsL]) (stk2 := []) rfl rfl ?_)
        refine x_aload_n C dX9_run_138 rfl 0 rfl ?_
        refine x_get (ci := 10) (v := .ref (b 0)) (b := ccO g a b y zL) C ixX9 rfl 4 (by decide) wd_1004 (fun _ h => h) 8 rfl 0 (ccO_at0 g a b y _) rfl dX9_run_139 ?_
        refine x_get (ci := 8) (v := .int qL.2.2.1) (b := prO g b qL) C ixX6 rfl 3 (by decide) wd_984 (fun _ h => h) 12 rfl 0 (prO_at0 g b _) rfl dX9_run_142 ?_
        refine x_perm (wss' := [ccO g a b y zL, stO g a 10 vL, cdW g a 10 cL, evW g a 10 eL, stO g a 20 v2L, cdW g a 20 c2L, evW g a 20 e2L, hiO g a u2.1, hrW g a t, stF g a u2.2.1, cdF g a u2.2.2.1, evF g a u2.2.2.2, prO g b qL, caW g b t2, cmF g b wsL]) (x_pick [8, 9, 10, 11, 5, 6, 7, 0, 1, 2, 3, 4, 12, 13, 14] 15 rfl rfl rfl) ?_
        refine x_widen (k := 1) (n := 6) (Nat.le_of_ble_eq_true rfl) (Nat.le_of_ble_eq_true rfl) ?_
        refine x_vx ?_
        exact x_iret C hr ⟨qL.2.2.1, by cases hf; rfl, rfl, by cases hf; rfl⟩ dX9_run_145
      · have hf := x_f h1 hf
        refine x_aload_n C dX9_run_65 rfl 0 rfl ?_
        refine x_aload_n C dX9_run_66 rfl 0 rfl ?_
        refine x_get (ci := 10) (v := .ref (b 0)) (b := ccO g a b y zL) C ixX9 rfl 4 (by decide) wd_1004 (fun _ h => h) 0 rfl 0 (ccO_at0 g a b y _) rfl dX9_run_67 ?_
        refine x_get (ci := 8) (v := .ref (b 2)) (b := prO g b qL) C ixX6 rfl 1 (by decide) wd_981 (fun _ h => h) 12 rfl 0 (prO_at0 g b _) rfl dX9_run_70 ?_
        refine x_iload_n C dX9_run_73 rfl 1 rfl ?_
        obtain ⟨h3, hf⟩ := x_n hf
        refine x_aald (Cn := "CandleConcert$Command") (v := .ref (b (10 + x2.toNatClampNeg))) (b := caW g b t2) C 5 rfl 13 rfl 0 (caW_at0 g b _) h3 rfl dX9_run_74 ?_
        refine x_perm (wss' := [cmF g b wsL, ccO g a b y zL, stO g a 10 vL, cdW g a 10 cL, evW g a 10 eL, stO g a 20 v2L, cdW g a 20 c2L, evW g a 20 e2L, hiO g a hL, hrW g a t, stF g a vsL, cdF g a csL, evF g a esL, prO g b qL, caW g b t2]) (x_pick [14, 0, 1, 2, 3, 4, 5, 6, 7, 8, 9, 10, 11, 12, 13] 15 rfl rfl rfl) ?_
        refine x_perm (wss' := [cmO g (b (10 + x2.toNatClampNeg)) (wsL x2.toNatClampNeg), cmR g b x2.toNatClampNeg wsL, ccO g a b y zL, stO g a 10 vL, cdW g a 10 cL, evW g a 10 eL, stO g a 20 v2L, cdW g a 20 c2L, evW g a 20 e2L, hiO g a hL, hrW g a t, stF g a vsL, cdF g a csL, evF g a esL, prO g b qL, caW g b t2]) (cmF_split (x_lt h3)) ?_
        obtain ⟨u4, hu4, hf⟩ := x_b hf
        refine x_callV (n := 1) (As := [.ref (b (10 + x2.toNatClampNeg))]) (rest := []) C (c_X9_isAllowed g l a b y (b (10 + x2.toNatClampNeg)) zL vL cL eL (wsL x2.toNatClampNeg) hu4) ⟨⟨wd_1239, wd_1236, wd_25⟩, ⟨by decide, by decide, by decide⟩, rfl, rfl, Nat.le_of_ble_eq_true rfl, Nat.le_of_ble_eq_true rfl⟩ wd_1238 wd_21 ⟨0, 10, _, _, rfl, rfl, rfl⟩ [cmR g b x2.toNatClampNeg wsL, stO g a 20 v2L, cdW g a 20 c2L, evW g a 20 e2L, hiO g a hL, hrW g a t, stF g a vsL, cdF g a csL, evF g a esL, prO g b qL, caW g b t2] (x_pickD [2, 3, 4, 5, 0, 1, 6, 7, 8, 9, 10, 11, 12, 13, 14, 15] 16 rfl rfl rfl) rfl rfl (Nat.le_of_ble_eq_true rfl) ⟨Nat.le_of_ble_eq_true rfl, Nat.le_of_ble_eq_true rfl⟩ dX9_run_75 (x_goD (wss2 := [ccO g a b y zL, stO g a 10 vL, cdW g a 10 cL, evW g a 10 eL, cmO g (b (10 + x2.toNatClampNeg)) (wsL x2.toNatClampNeg), cmR g b x2.toNatClampNeg wsL, stO g a 20 v2L, cdW g a 20 c2L, evW g a 20 e2L, hiO g a hL, hrW g a t, stF g a vsL, cdF g a csL, evF g a esL, prO g b qL, caW g b t2]) (stk2 := [.int u4]) rfl rfl ?_)
        refine x_if_ne (tgt := 108) C dX9_run_78 (by decide) (fun h5 => ?_) (fun h5 => ?_)
        · have hf := x_f h5 hf
          refine x_aload_n C dX9_run_108 rfl 0 rfl ?_
          refine x_aload_n C dX9_run_109 rfl 0 rfl ?_
          refine x_get (ci := 10) (v := .ref (b 0)) (b := ccO g a b y zL) C ixX9 rfl 4 (by decide) wd_1004 (fun _ h => h) 0 rfl 0 (ccO_at0 g a b y _) rfl dX9_run_110 ?_
          refine x_get (ci := 8) (v := .ref (b 2)) (b := prO g b qL) C ixX6 rfl 1 (by decide) wd_981 (fun _ h => h) 14 rfl 0 (prO_at0 g b _) rfl dX9_run_113 ?_
          refine x_iload_n C dX9_run_116 rfl 1 rfl ?_
          obtain ⟨h6, hf⟩ := x_n hf
          refine x_aald (Cn := "CandleConcert$Command") (v := .ref (b (10 + x2.toNatClampNeg))) (b := caW g b t2) C 5 rfl 15 rfl 0 (caW_at0 g b _) h6 rfl dX9_run_117 ?_
          obtain ⟨u7, hu7, hf⟩ := x_b hf
          refine x_callV (n := 1) (As := [.ref (b (10 + x2.toNatClampNeg))]) (rest := []) C (c_X9_execute g l a b y (b (10 + x2.toNatClampNeg)) zL vL cL eL (wsL x2.toNatClampNeg) hu7) ⟨⟨wd_1250, wd_1247, wd_25⟩, ⟨by decide, by decide, by decide⟩, rfl, rfl, Nat.le_of_ble_eq_true rfl, Nat.le_of_ble_eq_true rfl⟩ wd_1249 wd_22 ⟨0, 10, _, _, rfl, rfl, rfl⟩ [cmR g b x2.toNatClampNeg wsL, stO g a 20 v2L, cdW g a 20 c2L, evW g a 20 e2L, hiO g a hL, hrW g a t, stF g a vsL, cdF g a csL, evF g a esL, prO g b qL, caW g b t2] (x_pickD [0, 1, 2, 3, 4, 5, 6, 7, 8, 9, 10, 11, 12, 13, 14, 15] 16 rfl rfl rfl) rfl rfl (Nat.le_of_ble_eq_true rfl) ⟨Nat.le_of_ble_eq_true rfl, Nat.le_of_ble_eq_true rfl⟩ dX9_run_118 (x_goD (wss2 := [ccO g a b y zL, stO g a 10 u7.1, cdW g a 10 u7.2.1, evW g a 10 u7.2.2, cmO g (b (10 + x2.toNatClampNeg)) (wsL x2.toNatClampNeg), cmR g b x2.toNatClampNeg wsL, stO g a 20 v2L, cdW g a 20 c2L, evW g a 20 e2L, hiO g a hL, hrW g a t, stF g a vsL, cdF g a csL, evF g a esL, prO g b qL, caW g b t2]) (stk2 := []) rfl rfl ?_)
          refine x_iinc (v := x2 + 1) (lv' := [(2, .int (x2 + 1)), (0, .ref (a 0))]) C dX9_run_121 1 rfl rfl (by decide) rfl ?_
          refine x_goto (tgt := 54) C dX9_run_124 (by decide) ?_
          refine x_perm (wss' := [cmO g (b (10 + x2.toNatClampNeg)) (wsL x2.toNatClampNeg), cmR g b x2.toNatClampNeg wsL, ccO g a b y zL, stO g a 10 u7.1, cdW g a 10 u7.2.1, evW g a 10 u7.2.2, stO g a 20 v2L, cdW g a 20 c2L, evW g a 20 e2L, hiO g a hL, hrW g a t, stF g a vsL, cdF g a csL, evF g a esL, prO g b qL, caW g b t2]) (x_pick [4, 5, 0, 1, 2, 3, 6, 7, 8, 9, 10, 11, 12, 13, 14, 15] 16 rfl rfl rfl) ?_
          refine x_perm (wss' := [cmF g b wsL, ccO g a b y zL, stO g a 10 u7.1, cdW g a 10 u7.2.1, evW g a 10 u7.2.2, stO g a 20 v2L, cdW g a 20 c2L, evW g a 20 e2L, hiO g a hL, hrW g a t, stF g a vsL, cdF g a csL, evF g a esL, prO g b qL, caW g b t2]) (cmF_back (x_lt h3)) ?_
          refine x_perm (wss' := [ccO g a b y zL, stO g a 10 u7.1, cdW g a 10 u7.2.1, evW g a 10 u7.2.2, stO g a 20 v2L, cdW g a 20 c2L, evW g a 20 e2L, hiO g a hL, hrW g a t, stF g a vsL, cdF g a csL, evF g a esL, prO g b qL, caW g b t2, cmF g b wsL]) (x_pick [1, 2, 3, 4, 5, 6, 7, 8, 9, 10, 11, 12, 13, 14, 0] 15 rfl rfl rfl) ?_
          refine x_locals (lv' := [(0, .ref (a 0)), (2, .int (x2 + 1))]) [1, 0] rfl ?_
          exact ih zL u7.1 u7.2.1 u7.2.2 v2L c2L e2L hL vsL csL esL qL wsL (x2 + 1) hf
        · have hf := x_t h5 hf
          refine x_aload_n C dX9_run_81 rfl 0 rfl ?_
          refine x_get (ci := 10) (v := .ref (a (10 + 0))) (b := ccO g a b y zL) C ixX9 rfl 0 (by decide) wd_1000 (fun _ h => h) 0 rfl 0 (ccO_at0 g a b y _) rfl dX9_run_82 ?_
          refine x_aload_n C dX9_run_85 rfl 0 rfl ?_
          refine x_get (ci := 10) (v := .ref (a (20 + 0))) (b := ccO g a b y zL) C ixX9 rfl 1 (by decide) wd_1001 (fun _ h => h) 0 rfl 0 (ccO_at0 g a b y _) rfl dX9_run_86 ?_
          obtain ⟨u8, hu8, hf⟩ := x_b hf
          refine x_callV (n := 1) (As := [.ref (a (20 + 0))]) (rest := []) C (c_X8_copyFrom g l a 10 20 vL cL eL v2L c2L e2L hu8) ⟨⟨wd_164, wd_161, wd_26⟩, ⟨by decide, by decide, by decide⟩, rfl, rfl, Nat.le_of_ble_eq_true rfl, Nat.le_of_ble_eq_true rfl⟩ wd_162 wd_163 ⟨0, 9, _, _, rfl, rfl, rfl⟩ [ccO g a b y zL, cmO g (b (10 + x2.toNatClampNeg)) (wsL x2.toNatClampNeg), cmR g b x2.toNatClampNeg wsL, hiO g a hL, hrW g a t, stF g a vsL, cdF g a csL, evF g a esL, prO g b qL, caW g b t2] (x_pickD [1, 2, 3, 6, 7, 8, 0, 4, 5, 9, 10, 11, 12, 13, 14, 15] 16 rfl rfl rfl) rfl rfl (Nat.le_of_ble_eq_true rfl) ⟨Nat.le_of_ble_eq_true rfl, Nat.le_of_ble_eq_true rfl⟩ dX9_run_89 (x_goD (wss2 := [stO g a 10 u8.1, cdW g a 10 u8.2.1, evW g a 10 u8.2.2, stO g a 20 v2L, cdW g a 20 c2L, evW g a 20 e2L, ccO g a b y zL, cmO g (b (10 + x2.toNatClampNeg)) (wsL x2.toNatClampNeg), cmR g b x2.toNatClampNeg wsL, hiO g a hL, hrW g a t, stF g a vsL, cdF g a csL, evF g a esL, prO g b qL, caW g b t2]) (stk2 := []) rfl rfl ?_)
          refine x_aload_n C dX9_run_92 rfl 0 rfl ?_
          refine x_iload_n C dX9_run_93 rfl 1 rfl ?_
          refine x_put (ci := 10) (ty := .int) (v := .int x2) (b := ccO g a b y zL) (b' := ccO g a b y (zL.1, zL.2.1, x2)) (wss' := [stO g a 10 u8.1, cdW g a 10 u8.2.1, evW g a 10 u8.2.2, stO g a 20 v2L, cdW g a 20 c2L, evW g a 20 e2L, ccO g a b y (zL.1, zL.2.1, x2), cmO g (b (10 + x2.toNatClampNeg)) (wsL x2.toNatClampNeg), cmR g b x2.toNatClampNeg wsL, hiO g a hL, hrW g a t, stF g a vsL, cdF g a csL, evF g a esL, prO g b qL, caW g b t2]) C ixX9 tyX9 tyX9_ok nmX9 rfl 8 (by decide) wd_1008 (fun _ h => h) rfl (tyX9_ok 8 (by decide)) rfl rfl 6 rfl 0 (ccO_at0 g a b y _) (Nat.le_of_ble_eq_true rfl) rfl rfl dX9_run_94 ?_
          refine x_perm (wss' := [cmO g (b (10 + x2.toNatClampNeg)) (wsL x2.toNatClampNeg), cmR g b x2.toNatClampNeg wsL, stO g a 10 u8.1, cdW g a 10 u8.2.1, evW g a 10 u8.2.2, stO g a 20 v2L, cdW g a 20 c2L, evW g a 20 e2L, ccO g a b y (zL.1, zL.2.1, x2), hiO g a hL, hrW g a t, stF g a vsL, cdF g a csL, evF g a esL, prO g b qL, caW g b t2]) (x_pick [7, 8, 0, 1, 2, 3, 4, 5, 6, 9, 10, 11, 12, 13, 14, 15] 16 rfl rfl rfl) ?_
          refine x_perm (wss' := [cmF g b wsL, stO g a 10 u8.1, cdW g a 10 u8.2.1, evW g a 10 u8.2.2, stO g a 20 v2L, cdW g a 20 c2L, evW g a 20 e2L, ccO g a b y (zL.1, zL.2.1, x2), hiO g a hL, hrW g a t, stF g a vsL, cdF g a csL, evF g a esL, prO g b qL, caW g b t2]) (cmF_back (x_lt h3)) ?_
          refine x_perm (wss' := [ccO g a b y (zL.1, zL.2.1, x2), stO g a 10 u8.1, cdW g a 10 u8.2.1, evW g a 10 u8.2.2, stO g a 20 v2L, cdW g a 20 c2L, evW g a 20 e2L, hiO g a hL, hrW g a t, stF g a vsL, cdF g a csL, evF g a esL, prO g b qL, caW g b t2, cmF g b wsL]) (x_pick [7, 1, 2, 3, 4, 5, 6, 8, 9, 10, 11, 12, 13, 14, 0] 15 rfl rfl rfl) ?_
          exact x_throwSW C hout hl (by decide) wd_632 wd_48 (CX_str C ("CandleConcert", 324, "a command failed", 27) (by decide)) at_326 og_322_326 dX9_run_97 dX9_run_100 dX9_run_101 dX9_run_104 dX9_run_107 ⟨Nat.le_of_ble_eq_true rfl, Nat.le_of_ble_eq_true rfl, Nat.le_of_ble_eq_true rfl, Nat.le_of_ble_eq_true rfl⟩ ⟨3, by cases hf; rfl, rfl, by cases hf; rfl⟩ (Nat.le_of_ble_eq_true rfl) (Nat.le_of_ble_eq_true rfl)
  refine x_aload_n C dX9_run_0 rfl 0 rfl ?_
  refine x_get (ci := 10) (v := .ref (b 0)) (b := ccO g a b y z) C ixX9 rfl 4 (by decide) wd_1004 (fun _ h => h) 0 rfl 0 (ccO_at0 g a b y _) rfl dX9_run_1 ?_
  obtain ⟨u1, hu1, hf⟩ := x_b hf
  refine x_callV (n := 0) (As := []) (rest := []) C (c_X6_parse g l b q t2 ws hu1) ⟨⟨wd_1156, wd_1153, wd_30⟩, ⟨by decide, by decide, by decide⟩, rfl, rfl, Nat.le_of_ble_eq_true rfl, Nat.le_of_ble_eq_true rfl⟩ wd_1154 wd_1155 ⟨0, 8, _, _, rfl, rfl, rfl⟩ [ccO g a b y z, stO g a 10 v, cdW g a 10 c, evW g a 10 e, stO g a 20 v2, cdW g a 20 c2, evW g a 20 e2, hiO g a h, hrW g a t, stF g a vs, cdF g a cs, evF g a es] (x_pickD [12, 13, 14, 0, 1, 2, 3, 4, 5, 6, 7, 8, 9, 10, 11] 15 rfl rfl rfl) rfl rfl (Nat.le_of_ble_eq_true rfl) ⟨Nat.le_of_ble_eq_true rfl, Nat.le_of_ble_eq_true rfl⟩ dX9_run_4 (x_goD (wss2 := [prO g b u1.2.1, caW g b t2, cmF g b u1.2.2, ccO g a b y z, stO g a 10 v, cdW g a 10 c, evW g a 10 e, stO g a 20 v2, cdW g a 20 c2, evW g a 20 e2, hiO g a h, hrW g a t, stF g a vs, cdF g a cs, evF g a es]) (stk2 := [.int u1.1]) rfl rfl ?_)
  refine x_istore_n (lv' := [(1, .int u1.1), (0, .ref (a 0))]) C dX9_run_7 rfl (by decide) rfl ?_
  refine x_aload_n C dX9_run_8 rfl 1 rfl ?_
  refine x_get (ci := 10) (v := .ref (b 0)) (b := ccO g a b y z) C ixX9 rfl 4 (by decide) wd_1004 (fun _ h => h) 3 rfl 0 (ccO_at0 g a b y _) rfl dX9_run_9 ?_
  obtain ⟨u2, hu2, hf⟩ := x_b hf
  refine x_callV (n := 0) (As := []) (rest := []) C (c_X6_clear g l b u1.2.1 hu2) ⟨⟨wd_1234, wd_1231, wd_30⟩, ⟨by decide, by decide, by decide⟩, rfl, rfl, Nat.le_of_ble_eq_true rfl, Nat.le_of_ble_eq_true rfl⟩ wd_1232 wd_1233 ⟨0, 8, _, _, rfl, rfl, rfl⟩ [caW g b t2, cmF g b u1.2.2, ccO g a b y z, stO g a 10 v, cdW g a 10 c, evW g a 10 e, stO g a 20 v2, cdW g a 20 c2, evW g a 20 e2, hiO g a h, hrW g a t, stF g a vs, cdF g a cs, evF g a es] (x_pickD [0, 1, 2, 3, 4, 5, 6, 7, 8, 9, 10, 11, 12, 13, 14] 15 rfl rfl rfl) rfl rfl (Nat.le_of_ble_eq_true rfl) ⟨Nat.le_of_ble_eq_true rfl, Nat.le_of_ble_eq_true rfl⟩ dX9_run_12 (x_goD (wss2 := [prO g b u2, caW g b t2, cmF g b u1.2.2, ccO g a b y z, stO g a 10 v, cdW g a 10 c, evW g a 10 e, stO g a 20 v2, cdW g a 20 c2, evW g a 20 e2, hiO g a h, hrW g a t, stF g a vs, cdF g a cs, evF g a es]) (stk2 := []) rfl rfl ?_)
  refine x_iload_n C dX9_run_15 rfl 0 rfl ?_
  refine x_if_ne (tgt := 41) C dX9_run_16 (by decide) (fun h3 => ?_) (fun h3 => ?_)
  · have hf := x_f h3 hf
    refine x_aload_n C dX9_run_41 rfl 1 rfl ?_
    refine x_get (ci := 10) (v := .ref (a (20 + 0))) (b := ccO g a b y z) C ixX9 rfl 1 (by decide) wd_1001 (fun _ h => h) 3 rfl 0 (ccO_at0 g a b y _) rfl dX9_run_42 ?_
    refine x_aload_n C dX9_run_45 rfl 1 rfl ?_
    refine x_get (ci := 10) (v := .ref (a (10 + 0))) (b := ccO g a b y z) C ixX9 rfl 0 (by decide) wd_1000 (fun _ h => h) 3 rfl 0 (ccO_at0 g a b y _) rfl dX9_run_46 ?_
    obtain ⟨u4, hu4, hf⟩ := x_b hf
    refine x_callV (n := 1) (As := [.ref (a (10 + 0))]) (rest := []) C (c_X8_copyFrom g l a 20 10 v2 c2 e2 v c e hu4) ⟨⟨wd_164, wd_161, wd_26⟩, ⟨by decide, by decide, by decide⟩, rfl, rfl, Nat.le_of_ble_eq_true rfl, Nat.le_of_ble_eq_true rfl⟩ wd_162 wd_163 ⟨0, 9, _, _, rfl, rfl, rfl⟩ [prO g b u2, caW g b t2, cmF g b u1.2.2, ccO g a b y z, hiO g a h, hrW g a t, stF g a vs, cdF g a cs, evF g a es] (x_pickD [7, 8, 9, 4, 5, 6, 0, 1, 2, 3, 10, 11, 12, 13, 14] 15 rfl rfl rfl) rfl rfl (Nat.le_of_ble_eq_true rfl) ⟨Nat.le_of_ble_eq_true rfl, Nat.le_of_ble_eq_true rfl⟩ dX9_run_49 (x_goD (wss2 := [stO g a 20 u4.1, cdW g a 20 u4.2.1, evW g a 20 u4.2.2, stO g a 10 v, cdW g a 10 c, evW g a 10 e, prO g b u2, caW g b t2, cmF g b u1.2.2, ccO g a b y z, hiO g a h, hrW g a t, stF g a vs, cdF g a cs, evF g a es]) (stk2 := []) rfl rfl ?_)
    refine x_iconst (v := 0) C dX9_run_52 (by decide) ?_
    refine x_istore_n (lv' := [(2, .int (0 : Int32)), (1, .int u1.1), (0, .ref (a 0))]) C dX9_run_53 rfl (by decide) rfl ?_
    refine x_perm (wss' := [ccO g a b y z, stO g a 10 v, cdW g a 10 c, evW g a 10 e, stO g a 20 u4.1, cdW g a 20 u4.2.1, evW g a 20 u4.2.2, hiO g a h, hrW g a t, stF g a vs, cdF g a cs, evF g a es, prO g b u2, caW g b t2, cmF g b u1.2.2]) (x_pick [9, 3, 4, 5, 0, 1, 2, 10, 11, 12, 13, 14, 6, 7, 8] 15 rfl rfl rfl) ?_
    refine x_locals (lv' := [(0, .ref (a 0)), (2, .int (0 : Int32))]) [2, 0] rfl ?_
    exact hL54 xFuel z v c e u4.1 u4.2.1 u4.2.2 h vs cs es u2 u1.2.2 (0 : Int32) hf
  · have hf := x_t h3 hf
    refine x_aload_n C dX9_run_19 rfl 1 rfl ?_
    refine x_aload_n C dX9_run_20 rfl 1 rfl ?_
    refine x_get (ci := 10) (v := .ref (b 0)) (b := ccO g a b y z) C ixX9 rfl 4 (by decide) wd_1004 (fun _ h => h) 3 rfl 0 (ccO_at0 g a b y _) rfl dX9_run_21 ?_
    refine x_get (ci := 8) (v := .int u2.2.2.2) (b := prO g b u2) C ixX6 rfl 4 (by decide) wd_986 (fun _ h => h) 0 rfl 0 (prO_at0 g b _) rfl dX9_run_24 ?_
    refine x_put (ci := 10) (ty := .int) (v := .int u2.2.2.2) (b := ccO g a b y z) (b' := ccO g a b y (z.1, u2.2.2.2, z.2.2)) (wss' := [prO g b u2, caW g b t2, cmF g b u1.2.2, ccO g a b y (z.1, u2.2.2.2, z.2.2), stO g a 10 v, cdW g a 10 c, evW g a 10 e, stO g a 20 v2, cdW g a 20 c2, evW g a 20 e2, hiO g a h, hrW g a t, stF g a vs, cdF g a cs, evF g a es]) C ixX9 tyX9 tyX9_ok nmX9 rfl 7 (by decide) wd_1007 (fun _ h => h) rfl (tyX9_ok 7 (by decide)) rfl rfl 3 rfl 0 (ccO_at0 g a b y _) (Nat.le_of_ble_eq_true rfl) rfl rfl dX9_run_27 ?_
    refine x_perm (wss' := [ccO g a b y (z.1, u2.2.2.2, z.2.2), stO g a 10 v, cdW g a 10 c, evW g a 10 e, stO g a 20 v2, cdW g a 20 c2, evW g a 20 e2, hiO g a h, hrW g a t, stF g a vs, cdF g a cs, evF g a es, prO g b u2, caW g b t2, cmF g b u1.2.2]) (x_pick [3, 4, 5, 6, 7, 8, 9, 10, 11, 12, 13, 14, 0, 1, 2] 15 rfl rfl rfl) ?_
    exact x_throwSW C hout hl (by decide) wd_608 wd_45 (CX_str C ("CandleConcert", 309, "the text is not a program", 26) (by decide)) at_164 og_160_164 dX9_run_30 dX9_run_33 dX9_run_34 dX9_run_37 dX9_run_40 ⟨Nat.le_of_ble_eq_true rfl, Nat.le_of_ble_eq_true rfl, Nat.le_of_ble_eq_true rfl, Nat.le_of_ble_eq_true rfl⟩ ⟨0, by cases hf; rfl, rfl, by cases hf; rfl⟩ (Nat.le_of_ble_eq_true rfl) (Nat.le_of_ble_eq_true rfl)
theorem wd_776 : Cond.methodLink RX9 338 yX4_takeBack ∈ xTB := xTB_in 776 (by decide +kernel) (by decide +kernel)
theorem wd_777 : Cond.instanceMethod yX4_takeBack ∈ xTB := xTB_in 777 (by decide +kernel) (by decide +kernel)
theorem wd_778 : Cond.selects yX4_takeBack.cls yX4_takeBack yX4_takeBack ∈ xTB := xTB_in 778 (by decide +kernel) (by decide +kernel)
theorem wd_779 : Cond.code yX4_takeBack cX4_takeBack 2 none ∈ xTB := xTB_in 779 (by decide +kernel) (by decide +kernel)
theorem wd_925 : Cond.fieldLink RX9 335 "CandleConcert$History" "count" "I" ∈ xTB := xTB_in 925 (by decide +kernel) (by decide +kernel)
theorem dX9_undo_0 : decode cX9_undo 0 = .ok (.aload_n 0, 1) := by decide +kernel
theorem dX9_undo_1 : decode cX9_undo 1 = .ok (.getfield 25, 3) := by decide +kernel
theorem dX9_undo_4 : decode cX9_undo 4 = .ok (.getfield 335, 3) := by decide +kernel
theorem dX9_undo_7 : decode cX9_undo 7 = .ok (.ifCond .ne 14, 3) := by decide +kernel
theorem dX9_undo_10 : decode cX9_undo 10 = .ok (.new 293, 3) := by decide +kernel
theorem dX9_undo_13 : decode cX9_undo 13 = .ok (.dup, 1) := by decide +kernel
theorem dX9_undo_14 : decode cX9_undo 14 = .ok (.ldc_w 336, 3) := by decide +kernel
theorem dX9_undo_17 : decode cX9_undo 17 = .ok (.invokespecial 297, 3) := by decide +kernel
theorem dX9_undo_20 : decode cX9_undo 20 = .ok (.athrow, 1) := by decide +kernel
theorem dX9_undo_21 : decode cX9_undo 21 = .ok (.aload_n 0, 1) := by decide +kernel
theorem dX9_undo_22 : decode cX9_undo 22 = .ok (.getfield 25, 3) := by decide +kernel
theorem dX9_undo_25 : decode cX9_undo 25 = .ok (.aload_n 0, 1) := by decide +kernel
theorem dX9_undo_26 : decode cX9_undo 26 = .ok (.getfield 12, 3) := by decide +kernel
theorem dX9_undo_29 : decode cX9_undo 29 = .ok (.invokevirtual 338, 3) := by decide +kernel
theorem dX9_undo_32 : decode cX9_undo 32 = .ok (.aload_n 0, 1) := by decide +kernel
theorem dX9_undo_33 : decode cX9_undo 33 = .ok (.getfield 25, 3) := by decide +kernel
theorem dX9_undo_36 : decode cX9_undo 36 = .ok (.getfield 335, 3) := by decide +kernel
theorem dX9_undo_39 : decode cX9_undo 39 = .ok (.ireturn, 1) := by decide +kernel
set_option maxHeartbeats 4000000 in
set_option maxRecDepth 100000 in
theorem c_X9_undo (g : xG) (l : Launch) (hl : l.stackTraces = false) (a : Nat → Nat) (b : Nat → Nat) (y : Nat) (z : CcT) (v : StS) (c : CdT) (e : EvT) (h : HiT) (t : Unit) (vs : (Nat → StS)) (cs : (Nat → CdT)) (es : (Nat → EvT))  {u : (Nat ⊕ Int32) × StS × CdT × EvT × HiT} (hf : f_X9_undo z v c e h t vs cs es = some u) : ConX g l yX9_undo cX9_undo 1 (some .int) ({ frames := 6, cells := 1, slots := 6, locals := 90 } : Room) [.ref (a 0)] ([ccO g a b y z, stO g a 10 v, cdW g a 10 c, evW g a 10 e, hiO g a h, hrW g a t, stF g a vs, cdF g a cs, evF g a es] : List va_W).flatten (fun v9 w9 => ∃ r9, u.1 = Sum.inr r9 ∧ v9 = some (.int r9) ∧ w9 = ([ccO g a b y z, stO g a 10 u.2.1, cdW g a 10 u.2.2.1, evW g a 10 u.2.2.2.1, hiO g a u.2.2.2.2, hrW g a t, stF g a vs, cdF g a cs, evF g a es] : List va_W).flatten) (fun e9 w9 => ∃ k9, u.1 = Sum.inl k9 ∧ e9 = xcE k9 ∧ w9 = ([ccO g a b y z, stO g a 10 u.2.1, cdW g a 10 u.2.2.1, evW g a 10 u.2.2.2.1, hiO g a u.2.2.2.2, hrW g a t, stF g a vs, cdF g a cs, evF g a es] : List va_W).flatten) 1 6 := by
  unfold f_X9_undo at hf
  refine ConX_of [ccO g a b y z, stO g a 10 v, cdW g a 10 c, evW g a 10 e, hiO g a h, hrW g a t, stF g a vs, cdF g a cs, evF g a es] [(0, .ref (a 0))] rfl rfl (by decide) (Nat.le_of_ble_eq_true rfl) ?_
  intro pW eW sW mW argsW belowW methW c9 C hnm hr hout
  have C : CX g RX9 cX9_undo 1 _ pW sW mW argsW methW c9 := C
  refine x_aload_n C dX9_undo_0 rfl 0 rfl ?_
  refine x_get (ci := 10) (v := .ref (a 90)) (b := ccO g a b y z) C ixX9 rfl 3 (by decide) wd_1003 (fun _ h => h) 0 rfl 0 (ccO_at0 g a b y _) rfl dX9_undo_1 ?_
  refine x_get (ci := 7) (v := .int h.2) (b := hiO g a h) C ixX4 rfl 2 (by decide) wd_925 (fun _ h => h) 4 rfl 0 (hiO_at0 g a _) rfl dX9_undo_4 ?_
  refine x_if_ne (tgt := 21) C dX9_undo_7 (by decide) (fun h1 => ?_) (fun h1 => ?_)
  · have hf := x_f h1 hf
    refine x_aload_n C dX9_undo_21 rfl 0 rfl ?_
    refine x_get (ci := 10) (v := .ref (a 90)) (b := ccO g a b y z) C ixX9 rfl 3 (by decide) wd_1003 (fun _ h => h) 0 rfl 0 (ccO_at0 g a b y _) rfl dX9_undo_22 ?_
    refine x_aload_n C dX9_undo_25 rfl 0 rfl ?_
    refine x_get (ci := 10) (v := .ref (a (10 + 0))) (b := ccO g a b y z) C ixX9 rfl 0 (by decide) wd_1000 (fun _ h => h) 0 rfl 0 (ccO_at0 g a b y _) rfl dX9_undo_26 ?_
    obtain ⟨u2, hu2, hf⟩ := x_b hf
    refine x_callV (n := 1) (As := [.ref (a (10 + 0))]) (rest := []) C (c_X4_takeBack g l a 10 h t vs cs es v c e hu2) ⟨⟨wd_779, wd_776, wd_29⟩, ⟨by decide, by decide, by decide⟩, rfl, rfl, Nat.le_of_ble_eq_true rfl, Nat.le_of_ble_eq_true rfl⟩ wd_777 wd_778 ⟨0, 7, _, _, rfl, rfl, rfl⟩ [ccO g a b y z] (x_pickD [4, 5, 6, 7, 8, 1, 2, 3, 0] 9 rfl rfl rfl) rfl rfl (Nat.le_of_ble_eq_true rfl) ⟨Nat.le_of_ble_eq_true rfl, Nat.le_of_ble_eq_true rfl⟩ dX9_undo_29 (x_goD (wss2 := [hiO g a u2.1, hrW g a t, stF g a vs, cdF g a cs, evF g a es, stO g a 10 u2.2.1, cdW g a 10 u2.2.2.1, evW g a 10 u2.2.2.2, ccO g a b y z]) (stk2 := []) rfl rfl ?_)
    refine x_aload_n C dX9_undo_32 rfl 0 rfl ?_
    refine x_get (ci := 10) (v := .ref (a 90)) (b := ccO g a b y z) C ixX9 rfl 3 (by decide) wd_1003 (fun _ h => h) 8 rfl 0 (ccO_at0 g a b y _) rfl dX9_undo_33 ?_
    refine x_get (ci := 7) (v := .int u2.1.2) (b := hiO g a u2.1) C ixX4 rfl 2 (by decide) wd_925 (fun _ h => h) 0 rfl 0 (hiO_at0 g a _) rfl dX9_undo_36 ?_
    refine x_perm (wss' := [ccO g a b y z, stO g a 10 u2.2.1, cdW g a 10 u2.2.2.1, evW g a 10 u2.2.2.2, hiO g a u2.1, hrW g a t, stF g a vs, cdF g a cs, evF g a es]) (x_pick [8, 5, 6, 7, 0, 1, 2, 3, 4] 9 rfl rfl rfl) ?_
    refine x_widen (k := 1) (n := 6) (Nat.le_of_ble_eq_true rfl) (Nat.le_of_ble_eq_true rfl) ?_
    refine x_vx ?_
    exact x_iret C hr ⟨u2.1.2, by cases hf; rfl, rfl, by cases hf; rfl⟩ dX9_undo_39
  · have hf := x_t h1 hf
    exact x_throwSW C hout hl (by decide) wd_612 wd_47 (CX_str C ("CandleConcert", 336, "no change can be undone", 30) (by decide)) at_297 og_293_297 dX9_undo_10 dX9_undo_13 dX9_undo_14 dX9_undo_17 dX9_undo_20 ⟨Nat.le_of_ble_eq_true rfl, Nat.le_of_ble_eq_true rfl, Nat.le_of_ble_eq_true rfl, Nat.le_of_ble_eq_true rfl⟩ ⟨1, by cases hf; rfl, rfl, by cases hf; rfl⟩ (Nat.le_of_ble_eq_true rfl) (Nat.le_of_ble_eq_true rfl)
theorem wd_1002 : Cond.fieldLink RX9 19 "CandleConcert" "saved" "LCandleConcert$State;" ∈ xTB := xTB_in 1002 (by decide +kernel) (by decide +kernel)
theorem wd_1006 : Cond.fieldLink RX9 43 "CandleConcert" "hasSaved" "Z" ∈ xTB := xTB_in 1006 (by decide +kernel) (by decide +kernel)
theorem dX9_save_0 : decode cX9_save 0 = .ok (.aload_n 0, 1) := by decide +kernel
theorem dX9_save_1 : decode cX9_save 1 = .ok (.getfield 19, 3) := by decide +kernel
theorem dX9_save_4 : decode cX9_save 4 = .ok (.aload_n 0, 1) := by decide +kernel
theorem dX9_save_5 : decode cX9_save 5 = .ok (.getfield 12, 3) := by decide +kernel
theorem dX9_save_8 : decode cX9_save 8 = .ok (.invokevirtual 216, 3) := by decide +kernel
theorem dX9_save_11 : decode cX9_save 11 = .ok (.aload_n 0, 1) := by decide +kernel
theorem dX9_save_12 : decode cX9_save 12 = .ok (.iconst 1, 1) := by decide +kernel
theorem dX9_save_13 : decode cX9_save 13 = .ok (.putfield 43, 3) := by decide +kernel
theorem dX9_save_16 : decode cX9_save 16 = .ok (.aload_n 0, 1) := by decide +kernel
theorem dX9_save_17 : decode cX9_save 17 = .ok (.getfield 12, 3) := by decide +kernel
theorem dX9_save_20 : decode cX9_save 20 = .ok (.getfield 127, 3) := by decide +kernel
theorem dX9_save_23 : decode cX9_save 23 = .ok (.getfield 131, 3) := by decide +kernel
theorem dX9_save_26 : decode cX9_save 26 = .ok (.ireturn, 1) := by decide +kernel
set_option maxHeartbeats 4000000 in
set_option maxRecDepth 100000 in
theorem c_X9_save (g : xG) (l : Launch) (a : Nat → Nat) (b : Nat → Nat) (y : Nat) (z : CcT) (v : StS) (c : CdT) (e : EvT) (v3 : StS) (c3 : CdT) (e3 : EvT)  {u : Int32 × CcT × StS × CdT × EvT} (hf : f_X9_save z v c e v3 c3 e3 = some u) : ConD g l yX9_save cX9_save 1 (some .int) ({ frames := 2, cells := 0, slots := 0, locals := 43 } : Room) [.ref (a 0)] [ccO g a b y z, stO g a 10 v, cdW g a 10 c, evW g a 10 e, stO g a 30 v3, cdW g a 30 c3, evW g a 30 e3] (some (.int u.1)) [ccO g a b y u.2.1, stO g a 10 v, cdW g a 10 c, evW g a 10 e, stO g a 30 u.2.2.1, cdW g a 30 u.2.2.2.1, evW g a 30 u.2.2.2.2] := by
  unfold f_X9_save at hf
  refine Con_of [ccO g a b y z, stO g a 10 v, cdW g a 10 c, evW g a 10 e, stO g a 30 v3, cdW g a 30 c3, evW g a 30 e3] [(0, .ref (a 0))] rfl rfl (by decide) (Nat.le_of_ble_eq_true rfl) ?_
  intro pW eW sW mW argsW belowW methW c9 C hnm hr
  have C : CX g RX9 cX9_save 1 _ pW sW mW argsW methW c9 := C
  refine x_aload_n C dX9_save_0 rfl 0 rfl ?_
  refine x_get (ci := 10) (v := .ref (a (30 + 0))) (b := ccO g a b y z) C ixX9 rfl 2 (by decide) wd_1002 (fun _ h => h) 0 rfl 0 (ccO_at0 g a b y _) rfl dX9_save_1 ?_
  refine x_aload_n C dX9_save_4 rfl 0 rfl ?_
  refine x_get (ci := 10) (v := .ref (a (10 + 0))) (b := ccO g a b y z) C ixX9 rfl 0 (by decide) wd_1000 (fun _ h => h) 0 rfl 0 (ccO_at0 g a b y _) rfl dX9_save_5 ?_
  obtain ⟨u1, hu1, hf⟩ := x_b hf
  refine x_callV (n := 1) (As := [.ref (a (10 + 0))]) (rest := []) C (c_X8_copyFrom g l a 30 10 v3 c3 e3 v c e hu1) ⟨⟨wd_164, wd_161, wd_26⟩, ⟨by decide, by decide, by decide⟩, rfl, rfl, Nat.le_of_ble_eq_true rfl, Nat.le_of_ble_eq_true rfl⟩ wd_162 wd_163 ⟨0, 9, _, _, rfl, rfl, rfl⟩ [ccO g a b y z] (x_pickD [4, 5, 6, 1, 2, 3, 0] 7 rfl rfl rfl) rfl rfl (Nat.le_of_ble_eq_true rfl) ⟨Nat.le_of_ble_eq_true rfl, Nat.le_of_ble_eq_true rfl⟩ dX9_save_8 (x_goD (wss2 := [stO g a 30 u1.1, cdW g a 30 u1.2.1, evW g a 30 u1.2.2, stO g a 10 v, cdW g a 10 c, evW g a 10 e, ccO g a b y z]) (stk2 := []) rfl rfl ?_)
  refine x_aload_n C dX9_save_11 rfl 0 rfl ?_
  refine x_iconst (v := 1) C dX9_save_12 (by decide) ?_
  refine x_put (ci := 10) (ty := .boolean) (v := .int (1 : Int32)) (b := ccO g a b y z) (b' := ccO g a b y ((1 : Int32), z.2.1, z.2.2)) (wss' := [stO g a 30 u1.1, cdW g a 30 u1.2.1, evW g a 30 u1.2.2, stO g a 10 v, cdW g a 10 c, evW g a 10 e, ccO g a b y ((1 : Int32), z.2.1, z.2.2)]) C ixX9 tyX9 tyX9_ok nmX9 rfl 6 (by decide) wd_1006 (fun _ h => h) rfl (tyX9_ok 6 (by decide)) rfl rfl 6 rfl 0 (ccO_at0 g a b y _) (Nat.le_of_ble_eq_true rfl) rfl rfl dX9_save_13 ?_
  refine x_aload_n C dX9_save_16 rfl 0 rfl ?_
  refine x_get (ci := 10) (v := .ref (a (10 + 0))) (b := ccO g a b y ((1 : Int32), z.2.1, z.2.2)) C ixX9 rfl 0 (by decide) wd_1000 (fun _ h => h) 6 rfl 0 (ccO_at0 g a b y _) rfl dX9_save_17 ?_
  refine x_get (ci := 9) (v := .ref (a (10 + 1))) (b := stO g a 10 v) C ixX8 rfl 0 (by decide) wd_874 (fun _ h => h) 3 rfl 0 (stO_at0 g a 10 _) rfl dX9_save_20 ?_
  refine x_get (ci := 4) (v := .int c.2.2.2.2) (b := cdW g a 10 c) C ixX1 rfl 4 (by decide) wd_832 (fun _ h => h) 4 rfl 0 (cdW_at0 g a 10 _) rfl dX9_save_23 ?_
  refine x_perm (wss' := [ccO g a b y ((1 : Int32), z.2.1, z.2.2), stO g a 10 v, cdW g a 10 c, evW g a 10 e, stO g a 30 u1.1, cdW g a 30 u1.2.1, evW g a 30 u1.2.2]) (x_pick [6, 3, 4, 5, 0, 1, 2] 7 rfl rfl rfl) ?_
  exact x_iret C hr ⟨by cases hf; rfl, by cases hf; rfl⟩ dX9_save_26
theorem wd_788 : Cond.methodLink RX9 343 yX4_forget ∈ xTB := xTB_in 788 (by decide +kernel) (by decide +kernel)
theorem wd_789 : Cond.instanceMethod yX4_forget ∈ xTB := xTB_in 789 (by decide +kernel) (by decide +kernel)
theorem wd_790 : Cond.selects yX4_forget.cls yX4_forget yX4_forget ∈ xTB := xTB_in 790 (by decide +kernel) (by decide +kernel)
theorem wd_791 : Cond.code yX4_forget cX4_forget 1 none ∈ xTB := xTB_in 791 (by decide +kernel) (by decide +kernel)
theorem dX9_restore_0 : decode cX9_restore 0 = .ok (.aload_n 0, 1) := by decide +kernel
theorem dX9_restore_1 : decode cX9_restore 1 = .ok (.getfield 43, 3) := by decide +kernel
theorem dX9_restore_4 : decode cX9_restore 4 = .ok (.ifCond .ne 14, 3) := by decide +kernel
theorem dX9_restore_7 : decode cX9_restore 7 = .ok (.new 293, 3) := by decide +kernel
theorem dX9_restore_10 : decode cX9_restore 10 = .ok (.dup, 1) := by decide +kernel
theorem dX9_restore_11 : decode cX9_restore 11 = .ok (.ldc_w 341, 3) := by decide +kernel
theorem dX9_restore_14 : decode cX9_restore 14 = .ok (.invokespecial 297, 3) := by decide +kernel
theorem dX9_restore_17 : decode cX9_restore 17 = .ok (.athrow, 1) := by decide +kernel
theorem dX9_restore_18 : decode cX9_restore 18 = .ok (.aload_n 0, 1) := by decide +kernel
theorem dX9_restore_19 : decode cX9_restore 19 = .ok (.getfield 12, 3) := by decide +kernel
theorem dX9_restore_22 : decode cX9_restore 22 = .ok (.aload_n 0, 1) := by decide +kernel
theorem dX9_restore_23 : decode cX9_restore 23 = .ok (.getfield 19, 3) := by decide +kernel
theorem dX9_restore_26 : decode cX9_restore 26 = .ok (.invokevirtual 216, 3) := by decide +kernel
theorem dX9_restore_29 : decode cX9_restore 29 = .ok (.aload_n 0, 1) := by decide +kernel
theorem dX9_restore_30 : decode cX9_restore 30 = .ok (.getfield 25, 3) := by decide +kernel
theorem dX9_restore_33 : decode cX9_restore 33 = .ok (.invokevirtual 343, 3) := by decide +kernel
theorem dX9_restore_36 : decode cX9_restore 36 = .ok (.aload_n 0, 1) := by decide +kernel
theorem dX9_restore_37 : decode cX9_restore 37 = .ok (.getfield 12, 3) := by decide +kernel
theorem dX9_restore_40 : decode cX9_restore 40 = .ok (.getfield 127, 3) := by decide +kernel
theorem dX9_restore_43 : decode cX9_restore 43 = .ok (.getfield 131, 3) := by decide +kernel
theorem dX9_restore_46 : decode cX9_restore 46 = .ok (.ireturn, 1) := by decide +kernel
set_option maxHeartbeats 4000000 in
set_option maxRecDepth 100000 in
theorem c_X9_restore (g : xG) (l : Launch) (hl : l.stackTraces = false) (a : Nat → Nat) (b : Nat → Nat) (y : Nat) (z : CcT) (v : StS) (c : CdT) (e : EvT) (v3 : StS) (c3 : CdT) (e3 : EvT) (h : HiT)  {u : (Nat ⊕ Int32) × StS × CdT × EvT × HiT} (hf : f_X9_restore z v c e v3 c3 e3 h = some u) : ConX g l yX9_restore cX9_restore 1 (some .int) ({ frames := 6, cells := 1, slots := 6, locals := 90 } : Room) [.ref (a 0)] ([ccO g a b y z, stO g a 10 v, cdW g a 10 c, evW g a 10 e, stO g a 30 v3, cdW g a 30 c3, evW g a 30 e3, hiO g a h] : List va_W).flatten (fun v9 w9 => ∃ r9, u.1 = Sum.inr r9 ∧ v9 = some (.int r9) ∧ w9 = ([ccO g a b y z, stO g a 10 u.2.1, cdW g a 10 u.2.2.1, evW g a 10 u.2.2.2.1, stO g a 30 v3, cdW g a 30 c3, evW g a 30 e3, hiO g a u.2.2.2.2] : List va_W).flatten) (fun e9 w9 => ∃ k9, u.1 = Sum.inl k9 ∧ e9 = xcE k9 ∧ w9 = ([ccO g a b y z, stO g a 10 u.2.1, cdW g a 10 u.2.2.1, evW g a 10 u.2.2.2.1, stO g a 30 v3, cdW g a 30 c3, evW g a 30 e3, hiO g a u.2.2.2.2] : List va_W).flatten) 1 6 := by
  unfold f_X9_restore at hf
  refine ConX_of [ccO g a b y z, stO g a 10 v, cdW g a 10 c, evW g a 10 e, stO g a 30 v3, cdW g a 30 c3, evW g a 30 e3, hiO g a h] [(0, .ref (a 0))] rfl rfl (by decide) (Nat.le_of_ble_eq_true rfl) ?_
  intro pW eW sW mW argsW belowW methW c9 C hnm hr hout
  have C : CX g RX9 cX9_restore 1 _ pW sW mW argsW methW c9 := C
  refine x_aload_n C dX9_restore_0 rfl 0 rfl ?_
  refine x_get (ci := 10) (v := .int z.1) (b := ccO g a b y z) C ixX9 rfl 6 (by decide) wd_1006 (fun _ h => h) 0 rfl 0 (ccO_at0 g a b y _) rfl dX9_restore_1 ?_
  refine x_if_ne (tgt := 18) C dX9_restore_4 (by decide) (fun h1 => ?_) (fun h1 => ?_)
  · have hf := x_f h1 hf
    refine x_aload_n C dX9_restore_18 rfl 0 rfl ?_
    refine x_get (ci := 10) (v := .ref (a (10 + 0))) (b := ccO g a b y z) C ixX9 rfl 0 (by decide) wd_1000 (fun _ h => h) 0 rfl 0 (ccO_at0 g a b y _) rfl dX9_restore_19 ?_
    refine x_aload_n C dX9_restore_22 rfl 0 rfl ?_
    refine x_get (ci := 10) (v := .ref (a (30 + 0))) (b := ccO g a b y z) C ixX9 rfl 2 (by decide) wd_1002 (fun _ h => h) 0 rfl 0 (ccO_at0 g a b y _) rfl dX9_restore_23 ?_
    obtain ⟨u2, hu2, hf⟩ := x_b hf
    refine x_callV (n := 1) (As := [.ref (a (30 + 0))]) (rest := []) C (c_X8_copyFrom g l a 10 30 v c e v3 c3 e3 hu2) ⟨⟨wd_164, wd_161, wd_26⟩, ⟨by decide, by decide, by decide⟩, rfl, rfl, Nat.le_of_ble_eq_true rfl, Nat.le_of_ble_eq_true rfl⟩ wd_162 wd_163 ⟨0, 9, _, _, rfl, rfl, rfl⟩ [ccO g a b y z, hiO g a h] (x_pickD [1, 2, 3, 4, 5, 6, 0, 7] 8 rfl rfl rfl) rfl rfl (Nat.le_of_ble_eq_true rfl) ⟨Nat.le_of_ble_eq_true rfl, Nat.le_of_ble_eq_true rfl⟩ dX9_restore_26 (x_goD (wss2 := [stO g a 10 u2.1, cdW g a 10 u2.2.1, evW g a 10 u2.2.2, stO g a 30 v3, cdW g a 30 c3, evW g a 30 e3, ccO g a b y z, hiO g a h]) (stk2 := []) rfl rfl ?_)
    refine x_aload_n C dX9_restore_29 rfl 0 rfl ?_
    refine x_get (ci := 10) (v := .ref (a 90)) (b := ccO g a b y z) C ixX9 rfl 3 (by decide) wd_1003 (fun _ h => h) 6 rfl 0 (ccO_at0 g a b y _) rfl dX9_restore_30 ?_
    obtain ⟨u3, hu3, hf⟩ := x_b hf
    refine x_callV (n := 0) (As := []) (rest := []) C (c_X4_forget g l a h hu3) ⟨⟨wd_791, wd_788, wd_29⟩, ⟨by decide, by decide, by decide⟩, rfl, rfl, Nat.le_of_ble_eq_true rfl, Nat.le_of_ble_eq_true rfl⟩ wd_789 wd_790 ⟨0, 7, _, _, rfl, rfl, rfl⟩ [stO g a 10 u2.1, cdW g a 10 u2.2.1, evW g a 10 u2.2.2, stO g a 30 v3, cdW g a 30 c3, evW g a 30 e3, ccO g a b y z] (x_pickD [7, 0, 1, 2, 3, 4, 5, 6] 8 rfl rfl rfl) rfl rfl (Nat.le_of_ble_eq_true rfl) ⟨Nat.le_of_ble_eq_true rfl, Nat.le_of_ble_eq_true rfl⟩ dX9_restore_33 (x_goD (wss2 := [hiO g a u3, stO g a 10 u2.1, cdW g a 10 u2.2.1, evW g a 10 u2.2.2, stO g a 30 v3, cdW g a 30 c3, evW g a 30 e3, ccO g a b y z]) (stk2 := []) rfl rfl ?_)
    refine x_aload_n C dX9_restore_36 rfl 0 rfl ?_
    refine x_get (ci := 10) (v := .ref (a (10 + 0))) (b := ccO g a b y z) C ixX9 rfl 0 (by decide) wd_1000 (fun _ h => h) 7 rfl 0 (ccO_at0 g a b y _) rfl dX9_restore_37 ?_
    refine x_get (ci := 9) (v := .ref (a (10 + 1))) (b := stO g a 10 u2.1) C ixX8 rfl 0 (by decide) wd_874 (fun _ h => h) 1 rfl 0 (stO_at0 g a 10 _) rfl dX9_restore_40 ?_
    refine x_get (ci := 4) (v := .int u2.2.1.2.2.2.2) (b := cdW g a 10 u2.2.1) C ixX1 rfl 4 (by decide) wd_832 (fun _ h => h) 2 rfl 0 (cdW_at0 g a 10 _) rfl dX9_restore_43 ?_
    refine x_perm (wss' := [ccO g a b y z, stO g a 10 u2.1, cdW g a 10 u2.2.1, evW g a 10 u2.2.2, stO g a 30 v3, cdW g a 30 c3, evW g a 30 e3, hiO g a u3]) (x_pick [7, 1, 2, 3, 4, 5, 6, 0] 8 rfl rfl rfl) ?_
    refine x_widen (k := 1) (n := 6) (Nat.le_of_ble_eq_true rfl) (Nat.le_of_ble_eq_true rfl) ?_
    refine x_vx ?_
    exact x_iret C hr ⟨u2.2.1.2.2.2.2, by cases hf; rfl, rfl, by cases hf; rfl⟩ dX9_restore_46
  · have hf := x_t h1 hf
    exact x_throwSW C hout hl (by decide) wd_612 wd_47 (CX_str C ("CandleConcert", 341, "no state was saved", 31) (by decide)) at_297 og_293_297 dX9_restore_7 dX9_restore_10 dX9_restore_11 dX9_restore_14 dX9_restore_17 ⟨Nat.le_of_ble_eq_true rfl, Nat.le_of_ble_eq_true rfl, Nat.le_of_ble_eq_true rfl, Nat.le_of_ble_eq_true rfl⟩ ⟨1, by cases hf; rfl, rfl, by cases hf; rfl⟩ (Nat.le_of_ble_eq_true rfl) (Nat.le_of_ble_eq_true rfl)
