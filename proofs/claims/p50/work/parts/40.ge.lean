/-! WHAT HOLDS AT THE START OF CLASSES, STATICS, CONSTANTS: GE -/
theorem lw_nilP {g : va_G} {H : Heap} : va_P g vwCl [] H := fun k q h => by simp at h
theorem lw_nilD {A : Nat → Prop} : va_D A [] := ⟨fun i j p q h => by simp at h, fun k q h => by simp at h⟩
theorem lw_in {s : State} {A : Array Value} (hts : ∀ w ∈ lw_tbl, w.before A s = true) {C : String} {T : u_T} {N n : Nat} (h : (u_ws C T N).all (fun w => decide (w ∈ lw_tbl)) = true) (hi : decide (Cond.instantiable C n ∈ lw_tbl) = true) {c : Nat} (hc : vwCl[c]? = some (C, T, N)) :
    ∃ (cC : ClassId) (iS : Nat → Nat), ∀ q : vw_C, vwCl[c]? = some q → u_Kn s q.1 q.2.1 q.2.2 cC iS := by
  obtain ⟨cC, iS, hk⟩ := u_known hts (fun w hw => of_decide_eq_true (List.all_eq_true.mp h w hw)) (hts _ (of_decide_eq_true hi))
  refine ⟨cC, iS, fun q hq => ?_⟩
  rw [hc] at hq
  cases hq
  exact hk
theorem lw_K {s : State} {A : Array Value} (hts : ∀ w ∈ lw_tbl, w.before A s = true) : ∃ (D : va_G) (ac : Nat → ClassId), va_K D vwCl (xTys ac) s := by
  have h1 : ∀ c : Nat, ∃ (cC : ClassId) (iS : Nat → Nat), ∀ q : vw_C, vwCl[c]? = some q → u_Kn s q.1 q.2.1 q.2.2 cC iS := by
    intro c
    by_cases hc : c < 11
    · have h9 : c = 0 ∨ c = 1 ∨ c = 2 ∨ c = 3 ∨ c = 4 ∨ c = 5 ∨ c = 6 ∨ c = 7 ∨ c = 8 ∨ c = 9 ∨ c = 10 := by omega
      rcases h9 with rfl | rfl | rfl | rfl | rfl | rfl | rfl | rfl | rfl | rfl | rfl
      · exact lw_in hts (n := 4) (by decide +kernel) (by decide +kernel) rfl
      · exact lw_in hts (n := 4) (by decide +kernel) (by decide +kernel) rfl
      · exact lw_in hts (n := 6) (by decide +kernel) (by decide +kernel) rfl
      · exact lw_in hts (n := 6) (by decide +kernel) (by decide +kernel) rfl
      · exact lw_in hts (n := 5) (by decide +kernel) (by decide +kernel) rfl
      · exact lw_in hts (n := 6) (by decide +kernel) (by decide +kernel) rfl
      · exact lw_in hts (n := 4) (by decide +kernel) (by decide +kernel) rfl
      · exact lw_in hts (n := 3) (by decide +kernel) (by decide +kernel) rfl
      · exact lw_in hts (n := 5) (by decide +kernel) (by decide +kernel) rfl
      · exact lw_in hts (n := 10) (by decide +kernel) (by decide +kernel) rfl
      · exact lw_in hts (n := 9) (by decide +kernel) (by decide +kernel) rfl
    · refine ⟨0, fun _ => 0, fun q hq => ?_⟩
      have h2 : c < 11 := (List.getElem?_eq_some_iff.mp hq).1
      exact absurd h2 hc
  have h2 : ∀ k : Nat, ∃ cA : ClassId, ∀ ty : FieldType, ((xTys fun _ => 0).map Prod.snd)[k]? = some ty → ArrOfT s cA ty ∧ va_RA s cA ty := by
    intro k
    have pr : ∀ ty : FieldType, decide (Cond.arrayClass ty ∈ lw_tbl) = true → (∀ cA, va_RA s cA ty = (s.vm.findClass ("[" ++ ty.toString) = some cA)) → ∃ cA : ClassId, ArrOfT s cA ty ∧ va_RA s cA ty := by
      intro ty hd he
      obtain ⟨cA, kA, comp, q1, q2, q3⟩ := Cond.arrayClass_spec (hts _ (of_decide_eq_true hd))
      exact ⟨cA, fun n z => ⟨fun k h => (by cases h), kA, q2, comp, q3⟩, by rw [he]; exact q1⟩
    have ob : ∀ n : String, decide (Cond.arrayOver (.object n) ∈ lw_tbl) = true → ∃ cA : ClassId, ArrOfT s cA (.object n) ∧ va_RA s cA (.object n) := by
      intro n hd
      obtain ⟨comp, cA, kA, q1, q2, q3, q4, q5⟩ := Cond.arrayOver_spec (hts _ (of_decide_eq_true hd))
      exact ⟨cA, fun n z => ⟨fun k h => (by cases h), kA, q3, comp, q4⟩, kA, comp, q3, q4, q1, q5⟩
    have fin : ∀ ty, ((xTys fun _ => 0).map Prod.snd)[k]? = some ty → (∃ cA : ClassId, ArrOfT s cA ty ∧ va_RA s cA ty) → ∃ cA : ClassId, ∀ ty : FieldType, ((xTys fun _ => 0).map Prod.snd)[k]? = some ty → ArrOfT s cA ty ∧ va_RA s cA ty := by
      rintro ty h ⟨cA, q⟩
      refine ⟨cA, fun ty' h' => ?_⟩
      rw [h] at h'
      cases h'
      exact q
    by_cases hk : k < 6
    · have h9 : k = 0 ∨ k = 1 ∨ k = 2 ∨ k = 3 ∨ k = 4 ∨ k = 5 := by omega
      rcases h9 with rfl | rfl | rfl | rfl | rfl | rfl
      · exact fin _ rfl (pr .char (by decide +kernel) (fun _ => rfl))
      · exact fin _ rfl (pr .int (by decide +kernel) (fun _ => rfl))
      · exact fin _ rfl (pr .boolean (by decide +kernel) (fun _ => rfl))
      · exact fin _ rfl (pr .byte (by decide +kernel) (fun _ => rfl))
      · exact fin _ rfl (ob "CandleConcert$State" (by decide +kernel))
      · exact fin _ rfl (ob "CandleConcert$Command" (by decide +kernel))
    · refine ⟨0, fun ty h => ?_⟩
      have h3 : k < 6 := (List.getElem?_eq_some_iff.mp h).1
      exact absurd h3 hk
  refine ⟨(fun c => Classical.choose (h1 c), fun c => Classical.choose (Classical.choose_spec (h1 c))), fun k => Classical.choose (h2 k), fun c q hq => Classical.choose_spec (Classical.choose_spec (h1 c)) q hq, fun k q hq => ?_⟩
  have h3 : k < 6 := (List.getElem?_eq_some_iff.mp hq).1
  have h4 : ∀ ac : Nat → ClassId, ∀ k, k < 6 → (xTys ac)[k]? = some (ac k, ((xTys fun _ => 0).map Prod.snd).getD k .int) := by
    intro ac k hk
    have h9 : k = 0 ∨ k = 1 ∨ k = 2 ∨ k = 3 ∨ k = 4 ∨ k = 5 := by omega
    rcases h9 with rfl | rfl | rfl | rfl | rfl | rfl <;> rfl
  rw [h4 _ k h3] at hq
  cases hq
  refine Classical.choose_spec (h2 k) _ ?_
  have h9 : k = 0 ∨ k = 1 ∨ k = 2 ∨ k = 3 ∨ k = 4 ∨ k = 5 := by omega
  rcases h9 with rfl | rfl | rfl | rfl | rfl | rfl <;> rfl
