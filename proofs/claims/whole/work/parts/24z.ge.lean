/-! WHAT HOLDS AT THE START OF CLASSES, STATICS, CONSTANTS: GE -/
theorem lw_nilP {g : va_G} {H : Heap} : va_P g vwCl [] H := fun k q h => by simp at h
theorem lw_nilD {A : Nat → Prop} : va_D A [] := ⟨fun i j p q h => by simp at h, fun k q h => by simp at h⟩
theorem lw_in {s : State} {A : Array Value} (hts : ∀ w ∈ lw_tbl, w.before A s = true) {C : String} {T : u_T} {N n : Nat} (h : (u_ws C T N).all (fun w => decide (w ∈ lw_tbl)) = true) (hi : decide (Cond.instantiable C n ∈ lw_tbl) = true) {c : Nat} (hc : vwCl[c]? = some (C, T, N)) :
    ∃ (cC : ClassId) (iS : Nat → Nat), ∀ q : vw_C, vwCl[c]? = some q → u_Kn s q.1 q.2.1 q.2.2 cC iS := by
  obtain ⟨cC, iS, hk⟩ := u_known hts (fun w hw => of_decide_eq_true (List.all_eq_true.mp h w hw)) (hts _ (of_decide_eq_true hi))
  refine ⟨cC, iS, fun q hq => ?_⟩
  rw [hc] at hq
  cases hq
  exact hk
theorem lw_K {s : State} {A : Array Value} (hts : ∀ w ∈ lw_tbl, w.before A s = true) : ∃ (D : va_G) (ac : Nat → ClassId), va_K D vwCl (xTys ac) s := by
  have h1 : ∀ c : Nat, ∃ (cC : ClassId) (iS : Nat → Nat), ∀ q : vw_C, vwCl[c]? = some q → u_Kn s q.1 q.2.1 q.2.2 cC iS := by
    intro c
    by_cases hc : c < 12
    · have h9 : c = 0 ∨ c = 1 ∨ c = 2 ∨ c = 3 ∨ c = 4 ∨ c = 5 ∨ c = 6 ∨ c = 7 ∨ c = 8 ∨ c = 9 ∨ c = 10 ∨ c = 11 := by omega
      rcases h9 with rfl | rfl | rfl | rfl | rfl | rfl | rfl | rfl | rfl | rfl | rfl | rfl
      · exact lw_in hts (n := 4) (by decide +kernel) (by decide +kernel) rfl
      · exact lw_in hts (n := 4) (by decide +kernel) (by decide +kernel) rfl
      · exact lw_in hts (n := 6) (by decide +kernel) (by decide +kernel) rfl
      · exact lw_in hts (n := 6) (by decide +kernel) (by decide +kernel) rfl
      · exact lw_in hts (n := 5) (by decide +kernel) (by decide +kernel) rfl
      · exact lw_in hts (n := 6) (by decide +kernel) (by decide +kernel) rfl
      · exact lw_in hts (n := 4) (by decide +kernel) (by decide +kernel) rfl
      · exact lw_in hts (n := 3) (by decide +kernel) (by decide +kernel) rfl
      · exact lw_in hts (n := 5) (by decide +kernel) (by decide +kernel) rfl
      · exact lw_in hts (n := 10) (by decide +kernel) (by decide +kernel) rfl
      · exact lw_in hts (n := 9) (by decide +kernel) (by decide +kernel) rfl
      · exact lw_in hts (n := 18) (by decide +kernel) (by decide +kernel) rfl
    · refine ⟨0, fun _ => 0, fun q hq => ?_⟩
      have h2 : c < 12 := (List.getElem?_eq_some_iff.mp hq).1
      exact absurd h2 hc
  have h2 : ∀ k : Nat, ∃ cA : ClassId, ∀ ty : FieldType, ((xTys fun _ => 0).map Prod.snd)[k]? = some ty → ArrOfT s cA ty ∧ va_RA s cA ty := by
    intro k
    have pr : ∀ ty : FieldType, decide (Cond.arrayClass ty ∈ lw_tbl) = true → (∀ cA, va_RA s cA ty = (s.vm.findClass ("[" ++ ty.toString) = some cA)) → ∃ cA : ClassId, ArrOfT s cA ty ∧ va_RA s cA ty := by
      intro ty hd he
      obtain ⟨cA, kA, comp, q1, q2, q3⟩ := Cond.arrayClass_spec (hts _ (of_decide_eq_true hd))
      exact ⟨cA, fun n z => ⟨fun k h => (by cases h), kA, q2, comp, q3⟩, by rw [he]; exact q1⟩
    have ob : ∀ n : String, decide (Cond.arrayOver (.object n) ∈ lw_tbl) = true → ∃ cA : ClassId, ArrOfT s cA (.object n) ∧ va_RA s cA (.object n) := by
      intro n hd
      obtain ⟨comp, cA, kA, q1, q2, q3, q4, q5⟩ := Cond.arrayOver_spec (hts _ (of_decide_eq_true hd))
      exact ⟨cA, fun n z => ⟨fun k h => (by cases h), kA, q3, comp, q4⟩, kA, comp, q3, q4, q1, q5⟩
    have fin : ∀ ty, ((xTys fun _ => 0).map Prod.snd)[k]? = some ty → (∃ cA : ClassId, ArrOfT s cA ty ∧ va_RA s cA ty) → ∃ cA : ClassId, ∀ ty : FieldType, ((xTys fun _ => 0).map Prod.snd)[k]? = some ty → ArrOfT s cA ty ∧ va_RA s cA ty := by
      rintro ty h ⟨cA, q⟩
      refine ⟨cA, fun ty' h' => ?_⟩
      rw [h] at h'
      cases h'
      exact q
    by_cases hk : k < 8
    · have h9 : k = 0 ∨ k = 1 ∨ k = 2 ∨ k = 3 ∨ k = 4 ∨ k = 5 ∨ k = 6 ∨ k = 7 := by omega
      rcases h9 with rfl | rfl | rfl | rfl | rfl | rfl | rfl | rfl
      · exact fin _ rfl (pr .char (by decide +kernel) (fun _ => rfl))
      · exact fin _ rfl (pr .int (by decide +kernel) (fun _ => rfl))
      · exact fin _ rfl (pr .boolean (by decide +kernel) (fun _ => rfl))
      · exact fin _ rfl (pr .byte (by decide +kernel) (fun _ => rfl))
      · exact fin _ rfl (ob "CandleConcert$State" (by decide +kernel))
      · exact fin _ rfl (ob "CandleConcert$Command" (by decide +kernel))
      · exact fin _ rfl (pr .long (by decide +kernel) (fun _ => rfl))
      · exact fin _ rfl (pr .double (by decide +kernel) (fun _ => rfl))
    · refine ⟨0, fun ty h => ?_⟩
      have h3 : k < 8 := (List.getElem?_eq_some_iff.mp h).1
      exact absurd h3 hk
  refine ⟨(fun c => Classical.choose (h1 c), fun c => Classical.choose (Classical.choose_spec (h1 c))), fun k => Classical.choose (h2 k), fun c q hq => Classical.choose_spec (Classical.choose_spec (h1 c)) q hq, fun k q hq => ?_⟩
  have h3 : k < 8 := (List.getElem?_eq_some_iff.mp hq).1
  have h4 : ∀ ac : Nat → ClassId, ∀ k, k < 8 → (xTys ac)[k]? = some (ac k, ((xTys fun _ => 0).map Prod.snd).getD k .int) := by
    intro ac k hk
    have h9 : k = 0 ∨ k = 1 ∨ k = 2 ∨ k = 3 ∨ k = 4 ∨ k = 5 ∨ k = 6 ∨ k = 7 := by omega
    rcases h9 with rfl | rfl | rfl | rfl | rfl | rfl | rfl | rfl <;> rfl
  rw [h4 _ k h3] at hq
  cases hq
  refine Classical.choose_spec (h2 k) _ ?_
  have h9 : k = 0 ∨ k = 1 ∨ k = 2 ∨ k = 3 ∨ k = 4 ∨ k = 5 ∨ k = 6 ∨ k = 7 := by omega
  rcases h9 with rfl | rfl | rfl | rfl | rfl | rfl | rfl | rfl <;> rfl
theorem lw_NW {s : State} {A : Array Value} (hts : ∀ w ∈ lw_tbl, w.before A s = true) (hnc : ∀ q ∈ nwX, (Cond.not (.castable q.1 q.2)).before A s = true) : NW s := by
  have m : ∀ w, decide (w ∈ lw_tbl) = true → w.before A s = true := fun w h => hts w (of_decide_eq_true h)
  have a1 : nwF.all (fun q => decide (Cond.fieldLinkNest q.1 q.2.1 q.2.2.1 q.2.2.2.1 q.2.2.2.2.1 q.2.2.2.2.2 ∈ lw_tbl)) = true := by decide +kernel
  have a2 : nwM.all (fun q => decide (Cond.methodLinkNest q.1 q.2.1 q.2.2.1 q.2.2.2 ∈ lw_tbl)) = true := by decide +kernel
  have a3 : nwD.all (fun y => decide (Cond.declares y ∈ lw_tbl)) = true := by decide +kernel
  have a4 : nwC.all (fun E => decide (Cond.castable E E ∈ lw_tbl)) = true := by decide +kernel
  have a5 : nwS.all (fun y => decide (Cond.instantiable "java/lang/StringBuilder" 4 ∈ lw_tbl) && decide (Cond.privateMethod y ∈ lw_tbl) && decide (Cond.instanceMethod y ∈ lw_tbl) && decide (Cond.sameMethod y.cls y.cls y.name y.desc ∈ lw_tbl) && decide (y.cls ≠ "java/lang/invoke/MethodHandle" ∧ y.cls ≠ "java/lang/invoke/VarHandle")) = true := by decide +kernel
  refine ⟨fun q hq => va_Nw.of rfl (m _ (List.all_eq_true.mp a1 q hq)), fun q hq => va_Nw.of rfl (m _ (List.all_eq_true.mp a2 q hq)), fun y hy => va_Nw.of rfl (m _ (List.all_eq_true.mp a3 y hy)), fun E hE => va_Nw.of rfl (m _ (List.all_eq_true.mp a4 E hE)), fun q hq => va_Nc.of (hnc q hq), va_AO.of (m _ (by decide +kernel)), va_AO.of (m _ (by decide +kernel)), fun y hy => va_Nw.of (A := A) rfl ?_⟩
  have h := List.all_eq_true.mp a5 y hy
  simp only [Bool.and_eq_true] at h
  exact x_selP (of_decide_eq_true h.2) (m _ h.1.1.1.1) (m _ h.1.1.1.2) (m _ h.1.1.2) (m _ h.1.2)
abbrev lw_G1 : List Cond := flatC (Jvm.Cond.and given_1 narrow_1)
theorem lw_nc : nwX.all (fun q => decide (Cond.not (.castable q.1 q.2) ∈ lw_G1)) = true := by decide +kernel
theorem lw_hA {s : State} : ∀ a : Nat, a < s.heap.size → ¬ va_A [] s.heap.size a := by
  rintro a ha (h | h)
  · simp at h
  · exact Nat.not_lt.mpr h ha
theorem lw_TZ {s : State} {A : Array Value} (hts : ∀ w ∈ lw_tbl, w.before A s = true) (hs : ∀ w ∈ lw_G1, w.before A s = true) : TZ (va_A [] s.heap.size) s s.heap :=
  ⟨vx_Zqof (hts _ (by decide +kernel)) (hts _ (by decide +kernel)) (hs _ (by decide +kernel)) lw_hA, vx_Zqof (hts _ (by decide +kernel)) (hts _ (by decide +kernel)) (hs _ (by decide +kernel)) lw_hA⟩
theorem lw_FM {s : State} {A : Array Value} (hts : ∀ w ∈ lw_tbl, w.before A s = true) (hs : ∀ w ∈ lw_G1, w.before A s = true) : va_Zq "jdk/internal/util/Preconditions" "SIOOBE_FORMATTER" "Ljava/util/function/BiFunction;" (va_A [] s.heap.size) s s.heap :=
  va_Zqof (hts _ (by decide +kernel)) (hts _ (by decide +kernel)) (hs _ (by decide +kernel)) lw_hA
theorem lw_tab {s : State} {A : Array Value} (hts : ∀ w ∈ lw_tbl, w.before A s = true) (hs : ∀ w ∈ lw_G1, w.before A s = true) (C n d : String) (ty : FieldType) (N : Nat) (tb : List Int32) (hN : N < 2 ^ 31) (hl : decide (Cond.laysStatic C n d ∈ lw_tbl) = true) (hi : decide (Cond.initialized C ∈ lw_tbl) = true) (ha : decide (Cond.arrayOf (.static C n d) ty ∈ lw_G1) = true) (hn : decide (Cond.eq (.length (.static C n d)) (.int (Int32.ofNat N)) ∈ lw_G1) = true)
    (he : (List.range N).all (fun j => decide (Cond.eq (.elem (.static C n d) (.int (Int32.ofNat j))) (.int (tb.getD j 0)) ∈ lw_G1)) = true) : ∃ t : Nat, va_Z C n d (.ref t) (va_A [] s.heap.size) s s.heap ∧ va_T ty t N (fun j => .int (tb.getD j 0)) (va_A [] s.heap.size) s s.heap := by
  obtain ⟨t, h1, h2⟩ := va_Tof (tm := .static C n d) (f := fun j => .int (tb.getD j 0)) hN (hs _ (of_decide_eq_true ha)) (va_eqt (hs _ (of_decide_eq_true hn))) (fun j hj => va_eqt (hs _ (of_decide_eq_true (List.all_eq_true.mp he j (List.mem_range.mpr hj))))) lw_hA
  exact ⟨t, va_Zref (hts _ (of_decide_eq_true hl)) (hts _ (of_decide_eq_true hi)) h1 lw_hA, h2⟩
section TB
variable {s : State} {A : Array Value}
theorem lw_vo (hts : ∀ w ∈ lw_tbl, w.before A s = true) (hs : ∀ w ∈ lw_G1, w.before A s = true) : ∃ t : Nat, va_Z "CandleConcert" "VOICES" "[C" (.ref t) (va_A [] s.heap.size) s s.heap ∧ va_T .char t 4 (fun j => .int (voT.getD j 0)) (va_A [] s.heap.size) s s.heap :=
  lw_tab hts hs _ _ _ _ _ _ (by decide) (by decide +kernel) (by decide +kernel) (by decide +kernel) (by decide +kernel) (by decide +kernel)
theorem lw_smR (hts : ∀ w ∈ lw_tbl, w.before A s = true) (hs : ∀ w ∈ lw_G1, w.before A s = true) : ∃ t : Nat, va_Z "CandleConcert$1" "$SwitchMap$CandleConcert$Refusal" "[I" (.ref t) (va_A [] s.heap.size) s s.heap ∧ va_T .int t 11 (fun j => .int (smR.getD j 0)) (va_A [] s.heap.size) s s.heap :=
  lw_tab hts hs _ _ _ _ _ _ (by decide) (by decide +kernel) (by decide +kernel) (by decide +kernel) (by decide +kernel) (by decide +kernel)
theorem lw_smK (hts : ∀ w ∈ lw_tbl, w.before A s = true) (hs : ∀ w ∈ lw_G1, w.before A s = true) : ∃ t : Nat, va_Z "CandleConcert$1" "$SwitchMap$CandleConcert$Kind" "[I" (.ref t) (va_A [] s.heap.size) s s.heap ∧ va_T .int t 8 (fun j => .int (smK.getD j 0)) (va_A [] s.heap.size) s s.heap :=
  lw_tab hts hs _ _ _ _ _ _ (by decide) (by decide +kernel) (by decide +kernel) (by decide +kernel) (by decide +kernel) (by decide +kernel)
theorem lw_dt (hts : ∀ w ∈ lw_tbl, w.before A s = true) (hs : ∀ w ∈ lw_G1, w.before A s = true) : ∃ t : Nat, va_Z "java/lang/Integer" "DigitTens" "[B" (.ref t) (va_A [] s.heap.size) s s.heap ∧ va_T .byte t 100 (fun j => .int (dgT.getD j 0)) (va_A [] s.heap.size) s s.heap :=
  lw_tab hts hs _ _ _ _ _ _ (by decide) (by decide +kernel) (by decide +kernel) (by decide +kernel) (by decide +kernel) (by decide +kernel)
theorem lw_do (hts : ∀ w ∈ lw_tbl, w.before A s = true) (hs : ∀ w ∈ lw_G1, w.before A s = true) : ∃ t : Nat, va_Z "java/lang/Integer" "DigitOnes" "[B" (.ref t) (va_A [] s.heap.size) s s.heap ∧ va_T .byte t 100 (fun j => .int (dgO.getD j 0)) (va_A [] s.heap.size) s s.heap :=
  lw_tab hts hs _ _ _ _ _ _ (by decide) (by decide +kernel) (by decide +kernel) (by decide +kernel) (by decide +kernel) (by decide +kernel)
theorem lw_csq (hts : ∀ w ∈ lw_tbl, w.before A s = true) (hs : ∀ w ∈ lw_G1, w.before A s = true) : va_Z "java/lang/String" "COMPACT_STRINGS" "Z" (.int 1) (va_A [] s.heap.size) s s.heap :=
  va_Zof (hts _ (by decide +kernel)) (hts _ (by decide +kernel)) (va_eqt (hs _ (by decide +kernel))) lw_hA
end TB
