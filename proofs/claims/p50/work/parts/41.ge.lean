/-! WHAT HOLDS AT THE START, continued: NW -/
theorem lw_NW {s : State} {A : Array Value} (hts : ∀ w ∈ lw_tbl, w.before A s = true) (hnc : ∀ q ∈ nwX, (Cond.not (.castable q.1 q.2)).before A s = true) : NW s := by
  have m : ∀ w, decide (w ∈ lw_tbl) = true → w.before A s = true := fun w h => hts w (of_decide_eq_true h)
  have a1 : nwF.all (fun q => decide (Cond.fieldLinkNest q.1 q.2.1 q.2.2.1 q.2.2.2.1 q.2.2.2.2.1 q.2.2.2.2.2 ∈ lw_tbl)) = true := by decide +kernel
  have a2 : nwM.all (fun q => decide (Cond.methodLinkNest q.1 q.2.1 q.2.2.1 q.2.2.2 ∈ lw_tbl)) = true := by decide +kernel
  have a3 : nwD.all (fun y => decide (Cond.declares y ∈ lw_tbl)) = true := by decide +kernel
  have a4 : nwC.all (fun E => decide (Cond.castable E E ∈ lw_tbl)) = true := by decide +kernel
  have a5 : nwS.all (fun y => decide (Cond.instantiable "java/lang/StringBuilder" 4 ∈ lw_tbl) && decide (Cond.privateMethod y ∈ lw_tbl) && decide (Cond.instanceMethod y ∈ lw_tbl) && decide (Cond.sameMethod y.cls y.cls y.name y.desc ∈ lw_tbl) && decide (y.cls ≠ "java/lang/invoke/MethodHandle" ∧ y.cls ≠ "java/lang/invoke/VarHandle")) = true := by decide +kernel
  refine ⟨fun q hq => va_Nw.of rfl (m _ (List.all_eq_true.mp a1 q hq)), fun q hq => va_Nw.of rfl (m _ (List.all_eq_true.mp a2 q hq)), fun y hy => va_Nw.of rfl (m _ (List.all_eq_true.mp a3 y hy)), fun E hE => va_Nw.of rfl (m _ (List.all_eq_true.mp a4 E hE)), fun q hq => va_Nc.of (hnc q hq), va_AO.of (m _ (by decide +kernel)), va_AO.of (m _ (by decide +kernel)), fun y hy => va_Nw.of (A := A) rfl ?_⟩
  have h := List.all_eq_true.mp a5 y hy
  simp only [Bool.and_eq_true] at h
  exact x_selP (of_decide_eq_true h.2) (m _ h.1.1.1.1) (m _ h.1.1.1.2) (m _ h.1.1.2) (m _ h.1.2)
