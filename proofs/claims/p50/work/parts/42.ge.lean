/-! WHAT HOLDS AT THE START, continued: statics and tables -/
abbrev lw_G1 : List Cond := flatC (Jvm.Cond.and given_1 narrow_1)
theorem lw_nc : nwX.all (fun q => decide (Cond.not (.castable q.1 q.2) ∈ lw_G1)) = true := by decide +kernel
theorem lw_hA {s : State} : ∀ a : Nat, a < s.heap.size → ¬ va_A [] s.heap.size a := by
  rintro a ha (h | h)
  · simp at h
  · exact Nat.not_lt.mpr h ha
theorem lw_TZ {s : State} {A : Array Value} (hts : ∀ w ∈ lw_tbl, w.before A s = true) (hs : ∀ w ∈ lw_G1, w.before A s = true) : TZ (va_A [] s.heap.size) s s.heap :=
  ⟨vx_Zqof (hts _ (by decide +kernel)) (hts _ (by decide +kernel)) (hs _ (by decide +kernel)) lw_hA, vx_Zqof (hts _ (by decide +kernel)) (hts _ (by decide +kernel)) (hs _ (by decide +kernel)) lw_hA⟩
theorem lw_FM {s : State} {A : Array Value} (hts : ∀ w ∈ lw_tbl, w.before A s = true) (hs : ∀ w ∈ lw_G1, w.before A s = true) : va_Zq "jdk/internal/util/Preconditions" "SIOOBE_FORMATTER" "Ljava/util/function/BiFunction;" (va_A [] s.heap.size) s s.heap :=
  va_Zqof (hts _ (by decide +kernel)) (hts _ (by decide +kernel)) (hs _ (by decide +kernel)) lw_hA
theorem lw_tab {s : State} {A : Array Value} (hts : ∀ w ∈ lw_tbl, w.before A s = true) (hs : ∀ w ∈ lw_G1, w.before A s = true) (C n d : String) (ty : FieldType) (N : Nat) (tb : List Int32) (hN : N < 2 ^ 31) (hl : decide (Cond.laysStatic C n d ∈ lw_tbl) = true) (hi : decide (Cond.initialized C ∈ lw_tbl) = true) (ha : decide (Cond.arrayOf (.static C n d) ty ∈ lw_G1) = true) (hn : decide (Cond.eq (.length (.static C n d)) (.int (Int32.ofNat N)) ∈ lw_G1) = true)
    (k : Nat) (he : decide ((lw_G1.drop k).take N = (List.range N).map fun j => Cond.eq (.elem (.static C n d) (.int (Int32.ofNat j))) (.int (tb.getD j 0))) = true) : ∃ t : Nat, va_Z C n d (.ref t) (va_A [] s.heap.size) s s.heap ∧ va_T ty t N (fun j => .int (tb.getD j 0)) (va_A [] s.heap.size) s s.heap := by
  have m : ∀ j, j < N → Cond.eq (.elem (.static C n d) (.int (Int32.ofNat j))) (.int (tb.getD j 0)) ∈ lw_G1 := by
    intro j hj
    have h1 : Cond.eq (.elem (.static C n d) (.int (Int32.ofNat j))) (.int (tb.getD j 0)) ∈ (List.range N).map fun j => Cond.eq (.elem (.static C n d) (.int (Int32.ofNat j))) (.int (tb.getD j 0)) := List.mem_map.mpr ⟨j, List.mem_range.mpr hj, rfl⟩
    rw [← of_decide_eq_true he] at h1
    exact List.mem_of_mem_drop (List.mem_of_mem_take h1)
  obtain ⟨t, h1, h2⟩ := va_Tof (tm := .static C n d) (f := fun j => .int (tb.getD j 0)) hN (hs _ (of_decide_eq_true ha)) (va_eqt (hs _ (of_decide_eq_true hn))) (fun j hj => va_eqt (hs _ (m j hj))) lw_hA
  exact ⟨t, va_Zref (hts _ (of_decide_eq_true hl)) (hts _ (of_decide_eq_true hi)) h1 lw_hA, h2⟩
section TB
variable {s : State} {A : Array Value}
theorem lw_vo (hts : ∀ w ∈ lw_tbl, w.before A s = true) (hs : ∀ w ∈ lw_G1, w.before A s = true) : ∃ t : Nat, va_Z "CandleConcert" "VOICES" "[C" (.ref t) (va_A [] s.heap.size) s s.heap ∧ va_T .char t 4 (fun j => .int (voT.getD j 0)) (va_A [] s.heap.size) s s.heap :=
  lw_tab hts hs _ _ _ _ _ _ (by decide) (by decide +kernel) (by decide +kernel) (by decide +kernel) (by decide +kernel) 278 (by decide +kernel)
theorem lw_smR (hts : ∀ w ∈ lw_tbl, w.before A s = true) (hs : ∀ w ∈ lw_G1, w.before A s = true) : ∃ t : Nat, va_Z "CandleConcert$1" "$SwitchMap$CandleConcert$Refusal" "[I" (.ref t) (va_A [] s.heap.size) s s.heap ∧ va_T .int t 11 (fun j => .int (smR.getD j 0)) (va_A [] s.heap.size) s s.heap :=
  lw_tab hts hs _ _ _ _ _ _ (by decide) (by decide +kernel) (by decide +kernel) (by decide +kernel) (by decide +kernel) 234 (by decide +kernel)
theorem lw_smK (hts : ∀ w ∈ lw_tbl, w.before A s = true) (hs : ∀ w ∈ lw_G1, w.before A s = true) : ∃ t : Nat, va_Z "CandleConcert$1" "$SwitchMap$CandleConcert$Kind" "[I" (.ref t) (va_A [] s.heap.size) s s.heap ∧ va_T .int t 8 (fun j => .int (smK.getD j 0)) (va_A [] s.heap.size) s s.heap :=
  lw_tab hts hs _ _ _ _ _ _ (by decide) (by decide +kernel) (by decide +kernel) (by decide +kernel) (by decide +kernel) 450 (by decide +kernel)
theorem lw_dt (hts : ∀ w ∈ lw_tbl, w.before A s = true) (hs : ∀ w ∈ lw_G1, w.before A s = true) : ∃ t : Nat, va_Z "java/lang/Integer" "DigitTens" "[B" (.ref t) (va_A [] s.heap.size) s s.heap ∧ va_T .byte t 100 (fun j => .int (dgT.getD j 0)) (va_A [] s.heap.size) s s.heap :=
  lw_tab hts hs _ _ _ _ _ _ (by decide) (by decide +kernel) (by decide +kernel) (by decide +kernel) (by decide +kernel) 117 (by decide +kernel)
theorem lw_do (hts : ∀ w ∈ lw_tbl, w.before A s = true) (hs : ∀ w ∈ lw_G1, w.before A s = true) : ∃ t : Nat, va_Z "java/lang/Integer" "DigitOnes" "[B" (.ref t) (va_A [] s.heap.size) s s.heap ∧ va_T .byte t 100 (fun j => .int (dgO.getD j 0)) (va_A [] s.heap.size) s s.heap :=
  lw_tab hts hs _ _ _ _ _ _ (by decide) (by decide +kernel) (by decide +kernel) (by decide +kernel) (by decide +kernel) 14 (by decide +kernel)
theorem lw_csq (hts : ∀ w ∈ lw_tbl, w.before A s = true) (hs : ∀ w ∈ lw_G1, w.before A s = true) : va_Z "java/lang/String" "COMPACT_STRINGS" "Z" (.int 1) (va_A [] s.heap.size) s s.heap :=
  va_Zof (hts _ (by decide +kernel)) (hts _ (by decide +kernel)) (va_eqt (hs _ (by decide +kernel))) lw_hA
end TB
