/-! WHAT HOLDS AT THE START, continued: enum constants and String constants; GE itself -/
def lw_isD : Cond → Bool
  | .not (.eq (.static _ _ _) (.static _ _ _)) => true
  | _ => false
def lw_pairs : List (Nat × Nat) := [(18, 1), (18, 2), (1, 2), (18, 4), (1, 4), (2, 4), (18, 0), (1, 0), (2, 0), (4, 0), (18, 3), (1, 3), (2, 3), (4, 3), (0, 3), (18, 5), (1, 5), (2, 5), (4, 5), (0, 5), (3, 5), (18, 9), (1, 9), (2, 9), (4, 9), (0, 9), (3, 9), (5, 9), (18, 6), (1, 6), (2, 6), (4, 6), (0, 6), (3, 6), (5, 6), (9, 6), (18, 7), (1, 7), (2, 7), (4, 7), (0, 7), (3, 7), (5, 7), (9, 7), (6, 7), (18, 10), (1, 10), (2, 10), (4, 10), (0, 10), (3, 10), (5, 10), (9, 10), (6, 10), (7, 10), (18, 8), (1, 8), (2, 8), (4, 8), (0, 8), (3, 8), (5, 8), (9, 8), (6, 8), (7, 8), (10, 8), (18, 11), (1, 11), (2, 11), (4, 11), (0, 11), (3, 11), (5, 11), (9, 11), (6, 11), (7, 11), (10, 11), (8, 11), (18, 12), (1, 12), (2, 12), (4, 12), (0, 12), (3, 12), (5, 12), (9, 12), (6, 12), (7, 12), (10, 12), (8, 12), (11, 12), (18, 13), (1, 13), (2, 13), (4, 13), (0, 13), (3, 13), (5, 13), (9, 13), (6, 13), (7, 13), (10, 13), (8, 13), (11, 13), (12, 13), (18, 14), (1, 14), (2, 14), (4, 14), (0, 14), (3, 14), (5, 14), (9, 14), (6, 14), (7, 14), (10, 14), (8, 14), (11, 14), (12, 14), (13, 14), (18, 16), (1, 16), (2, 16), (4, 16), (0, 16), (3, 16), (5, 16), (9, 16), (6, 16), (7, 16), (10, 16), (8, 16), (11, 16), (12, 16), (13, 16), (14, 16), (18, 15), (1, 15), (2, 15), (4, 15), (0, 15), (3, 15), (5, 15), (9, 15), (6, 15), (7, 15), (10, 15), (8, 15), (11, 15), (12, 15), (13, 15), (14, 15), (16, 15), (18, 17), (1, 17), (2, 17), (4, 17), (0, 17), (3, 17), (5, 17), (9, 17), (6, 17), (7, 17), (10, 17), (8, 17), (11, 17), (12, 17), (13, 17), (14, 17), (16, 17), (15, 17)]
def lw_et (i : Nat) : Term := if i < 11 then .static "CandleConcert$Refusal" (nmR.getD i "") "LCandleConcert$Refusal;" else .static "CandleConcert$Kind" (nmK.getD (i - 11) "") "LCandleConcert$Kind;"
theorem lw_PL : lw_G1.filter lw_isD = lw_pairs.map (fun q => Cond.not (.eq (lw_et q.1) (lw_et q.2))) := by decide +kernel
theorem lw_pr {s : State} {A : Array Value} (hs : ∀ w ∈ lw_G1, w.before A s = true) {i j : Nat} (h : (i, j) ∈ lw_pairs) : (Cond.not (.eq (lw_et i) (lw_et j))).before A s = true := by
  have h1 : Cond.not (.eq (lw_et i) (lw_et j)) ∈ lw_G1.filter lw_isD := by
    rw [lw_PL]
    exact List.mem_map.mpr ⟨(i, j), h, rfl⟩
  exact hs _ (List.mem_filter.mp h1).1
theorem lw_dR : (List.range 11).all (fun i => (List.range 11).all fun j => decide (i = j) || decide ((i, j) ∈ lw_pairs) || decide ((j, i) ∈ lw_pairs)) = true := by decide +kernel
theorem lw_dK : (List.range 8).all (fun i => (List.range 8).all fun j => decide (i = j) || decide ((11 + i, 11 + j) ∈ lw_pairs) || decide ((11 + j, 11 + i) ∈ lw_pairs)) = true := by decide +kernel
theorem lw_exR : (List.range 11).all (fun i => decide (Cond.exactly (.static "CandleConcert$Refusal" (nmR.getD i "") "LCandleConcert$Refusal;") "CandleConcert$Refusal" ∈ lw_G1)) = true := by decide +kernel
theorem lw_exK : (List.range 8).all (fun i => decide (Cond.exactly (.static "CandleConcert$Kind" (nmK.getD i "") "LCandleConcert$Kind;") "CandleConcert$Kind" ∈ lw_G1)) = true := by decide +kernel
theorem lw_foR : (xF 11).all (fun q => (List.range 11).all fun i => decide (Cond.eq (.field (.static "CandleConcert$Refusal" (nmR.getD i "") "LCandleConcert$Refusal;") q.1 q.2.1 q.2.2.1) (.int (q.2.2.2.getD i 0)) ∈ lw_G1)) = true := by decide +kernel
theorem lw_foK : (xF 8).all (fun q => (List.range 8).all fun i => decide (Cond.eq (.field (.static "CandleConcert$Kind" (nmK.getD i "") "LCandleConcert$Kind;") q.1 q.2.1 q.2.2.1) (.int (q.2.2.2.getD i 0)) ∈ lw_G1)) = true := by decide +kernel
theorem lw_laR : (List.range 11).all (fun i => decide (Cond.laysStatic "CandleConcert$Refusal" (nmR.getD i "") "LCandleConcert$Refusal;" ∈ lw_tbl)) = true := by decide +kernel
theorem lw_laK : (List.range 8).all (fun i => decide (Cond.laysStatic "CandleConcert$Kind" (nmK.getD i "") "LCandleConcert$Kind;" ∈ lw_tbl)) = true := by decide +kernel
theorem lw_all {n : Nat} {p : Nat → Prop} [DecidablePred p] (h : (List.range n).all (fun i => decide (p i)) = true) {i : Nat} (hi : i < n) : p i := of_decide_eq_true (List.all_eq_true.mp h i (List.mem_range.mpr hi))
section EN
variable {s : State} {A : Array Value}
theorem lw_enR (hts : ∀ w ∈ lw_tbl, w.before A s = true) (hs : ∀ w ∈ lw_G1, w.before A s = true) : ∃ ad : Nat → Nat, va_En "CandleConcert$Refusal" "LCandleConcert$Refusal;" nmR (xF 11) ad (va_A [] s.heap.size) s s.heap := by
  have e : ∀ i, i < 11 → lw_et i = .static "CandleConcert$Refusal" (nmR.getD i "") "LCandleConcert$Refusal;" := fun i hi => if_pos hi
  refine va_Enof (args := A) (fun i hi => hts _ (lw_all lw_laR hi)) (hts _ (by decide +kernel)) (fun i hi => hs _ (lw_all lw_exR hi)) (fun q hq i hi => hs _ (of_decide_eq_true (List.all_eq_true.mp (List.all_eq_true.mp lw_foR q hq) i (List.mem_range.mpr hi)))) (fun i j hi hj hij => ?_) lw_hA
  have h := List.all_eq_true.mp (List.all_eq_true.mp lw_dR i (List.mem_range.mpr hi)) j (List.mem_range.mpr hj)
  simp only [Bool.or_eq_true, decide_eq_true_eq] at h
  rw [← e i hi, ← e j hj]
  rcases h with (h | h) | h
  · exact absurd h hij
  · exact Or.inl (lw_pr hs h)
  · exact Or.inr (lw_pr hs h)
theorem lw_enK (hts : ∀ w ∈ lw_tbl, w.before A s = true) (hs : ∀ w ∈ lw_G1, w.before A s = true) : ∃ ad : Nat → Nat, va_En "CandleConcert$Kind" "LCandleConcert$Kind;" nmK (xF 8) ad (va_A [] s.heap.size) s s.heap := by
  have e : ∀ i, lw_et (11 + i) = .static "CandleConcert$Kind" (nmK.getD i "") "LCandleConcert$Kind;" := by
    intro i
    unfold lw_et
    rw [if_neg (by omega), Nat.add_sub_cancel_left]
  refine va_Enof (args := A) (fun i hi => hts _ (lw_all lw_laK hi)) (hts _ (by decide +kernel)) (fun i hi => hs _ (lw_all lw_exK hi)) (fun q hq i hi => hs _ (of_decide_eq_true (List.all_eq_true.mp (List.all_eq_true.mp lw_foK q hq) i (List.mem_range.mpr hi)))) (fun i j hi hj hij => ?_) lw_hA
  have h := List.all_eq_true.mp (List.all_eq_true.mp lw_dK i (List.mem_range.mpr hi)) j (List.mem_range.mpr hj)
  simp only [Bool.or_eq_true, decide_eq_true_eq] at h
  rw [← e i, ← e j]
  rcases h with (h | h) | h
  · exact absurd h hij
  · exact Or.inl (lw_pr hs h)
  · exact Or.inr (lw_pr hs h)
end EN
def lw_st (i : Nat) : Term := .string (stRef.getD i ("", 0, "", 0)).1 (stRef.getD i ("", 0, "", 0)).2.1
def lw_sc (i : Nat) : List Cond := Cond.exactly (lw_st i) "java/lang/String" :: Cond.eq (.field (lw_st i) "java/lang/String" "coder" "B") (.int 0) :: Cond.arrayOf (.field (lw_st i) "java/lang/String" "value" "[B") .byte :: Cond.eq (.length (.field (lw_st i) "java/lang/String" "value" "[B")) (.int (Int32.ofNat (stLen.getD i 0))) ::
  (List.range (stLen.getD i 0)).map fun j => Cond.eq (.elem (.field (lw_st i) "java/lang/String" "value" "[B") (.int (Int32.ofNat j))) (.int ((stByt.getD i []).getD j 0))
def lw_off : List Nat := [713, 739, 767, 794, 818, 839, 864, 904, 931, 956, 982, 1008, 1033, 1056, 1078, 1098, 1122, 1159, 1189, 1199, 1208, 1217, 1224, 1232, 1241, 1248, 1255, 1284, 1304, 1348, 1382, 1409]
theorem lw_SC : (List.range 32).all (fun i => decide ((lw_G1.drop (lw_off.getD i 0)).take (4 + stLen.getD i 0) = lw_sc i)) = true := by decide +kernel
theorem lw_scG {i : Nat} (hi : i < 32) {w : Cond} (hw : w ∈ lw_sc i) : w ∈ lw_G1 := by
  rw [← lw_all lw_SC hi] at hw
  exact List.mem_of_mem_drop (List.mem_of_mem_take hw)
theorem lw_sl : (List.range 32).all (fun i => decide (stLen.getD i 0 < 2 ^ 31)) = true := by decide +kernel
section ST
variable {s : State} {A : Array Value}
theorem lw_s1 (hs : ∀ w ∈ lw_G1, w.before A s = true) (i : Nat) : ∃ q : Nat × Nat, i < 32 → (lw_st i).eval A s none [] s = some (.ref q.1) ∧ va_O "java/lang/String" q.1 (va_A [] s.heap.size) s s.heap ∧ va_OF "java/lang/String" "coder" "B" (.int 0) q.1 (va_A [] s.heap.size) s s.heap ∧ va_OF "java/lang/String" "value" "[B" (.ref q.2) q.1 (va_A [] s.heap.size) s s.heap ∧
    va_T .byte q.2 (stLen.getD i 0) (fun j => .int ((stByt.getD i []).getD j 0)) (va_A [] s.heap.size) s s.heap := by
  by_cases hi : i < 32
  · have m : ∀ w ∈ lw_sc i, w.before A s = true := fun w hw => hs w (lw_scG hi hw)
    have z : ∀ {k : Nat}, k < 1 → k = 0 := fun h => by omega
    obtain ⟨adK, adV, hS, he⟩ := vk_Sof (args := A) (s := s) (N := 1) (tm := fun _ => lw_st i) (len := [stLen.getD i 0]) (byt := [stByt.getD i []]) (A := va_A [] s.heap.size)
      (fun k hk => by cases z hk; exact lw_all lw_sl hi)
      (fun k hk => m _ (List.mem_cons_self ..))
      (fun k hk => m _ (List.mem_cons_of_mem _ (List.mem_cons_self ..)))
      (fun k hk => m _ (List.mem_cons_of_mem _ (List.mem_cons_of_mem _ (List.mem_cons_self ..))))
      (fun k hk => by cases z hk; exact m _ (List.mem_cons_of_mem _ (List.mem_cons_of_mem _ (List.mem_cons_of_mem _ (List.mem_cons_self ..)))))
      (fun k hk j hj => by
        cases z hk
        exact m _ (List.mem_cons_of_mem _ (List.mem_cons_of_mem _ (List.mem_cons_of_mem _ (List.mem_cons_of_mem _ (List.mem_map.mpr ⟨j, List.mem_range.mpr hj, rfl⟩))))))
      (fun k j hk hj hkj => absurd ((z hk).trans (z hj).symm) hkj) lw_hA
    exact ⟨(adK 0, adV 0), fun _ => ⟨he 0 (by decide), hS.1 0 (by decide)⟩⟩
  · exact ⟨(0, 0), fun h => absurd h hi⟩
theorem lw_fx {o n d : String} {v v' : Value} {t : Nat} {X : Nat → Prop} {U : State} {H : Heap} (h : va_OF o n d v t X U H) (h' : va_OF o n d v' t X U H) : v = v' := by
  obtain ⟨cf, k, i, f, cell, a1, a2, a3, a4, a5, a6⟩ := h
  obtain ⟨cf', k', i', f', cell', b1, b2, b3, b4, b5, b6⟩ := h'
  rw [a1] at b1
  cases b1
  rw [a3] at b3
  cases b3
  rw [a5] at b5
  cases b5
  rfl
theorem lw_tx {ty : FieldType} {t N N' : Nat} {f f' : Nat → Value} {X : Nat → Prop} {U : State} {H : Heap} (hN : N < 2147483648) (hN' : N' < 2147483648) (h : va_T ty t N f X U H) (h' : va_T ty t N' f' X U H) : N = N' ∧ ∀ j, j < N → f j = f' j := by
  obtain ⟨cell, a1, a2, a3, a4, a5, a6, a7⟩ := h
  obtain ⟨cell', b1, b2, b3, b4, b5, b6, b7⟩ := h'
  rw [a1] at b1
  cases b1
  have hn : N = N' := by
    rw [a5] at b5
    have := congrArg Int32.toNatClampNeg b5
    rwa [zt_cl hN, zt_cl hN'] at this
  subst hn
  refine ⟨rfl, fun j hj => ?_⟩
  have h1 := a6 j hj
  rw [b6 j hj] at h1
  exact (Option.some.inj h1).symm
theorem lw_sd : (List.range 32).all (fun i => (List.range 32).all fun j => decide (i = j) || decide (stLen.getD i 0 ≠ stLen.getD j 0) || (List.range (stLen.getD i 0)).any fun k => decide ((stByt.getD i []).getD k 0 ≠ (stByt.getD j []).getD k 0)) = true := by decide +kernel
theorem lw_vkS (hs : ∀ w ∈ lw_G1, w.before A s = true) : ∃ adK adV : Nat → Nat, vk_S 32 stLen stByt adK adV (va_A [] s.heap.size) s s.heap ∧ ∀ i : Nat, i < 32 → (lw_st i).eval A s none [] s = some (.ref (adK i)) := by
  obtain ⟨ad, had⟩ := Classical.axiomOfChoice (lw_s1 hs)
  refine ⟨fun i => (ad i).1, fun i => (ad i).2, ⟨fun i hi => (had i hi).2, fun i j hi hj e => ?_⟩, fun i hi => (had i hi).1⟩
  have h1 := (had i hi).2.2.2.1
  have h2 := (had j hj).2.2.2.1
  have e' : (ad i).1 = (ad j).1 := e
  rw [e'] at h1
  have e2 : (ad i).2 = (ad j).2 := by
    exact Value.ref.inj (lw_fx h1 h2)
  have h3 := (had i hi).2.2.2.2
  rw [e2] at h3
  have hli : stLen.getD i 0 < 2 ^ 31 := lw_all lw_sl hi
  have hlj : stLen.getD j 0 < 2 ^ 31 := lw_all lw_sl hj
  obtain ⟨h4, h5⟩ := lw_tx (by omega) (by omega) h3 (had j hj).2.2.2.2
  have h := List.all_eq_true.mp (List.all_eq_true.mp lw_sd i (List.mem_range.mpr hi)) j (List.mem_range.mpr hj)
  simp only [Bool.or_eq_true, decide_eq_true_eq] at h
  rcases h with (h | h) | h
  · exact h
  · exact absurd h4 h
  · obtain ⟨k, hk, hd⟩ := List.any_eq_true.mp h
    have h6 := h5 k (List.mem_range.mp hk)
    exact absurd (Value.int.inj h6) (of_decide_eq_true hd)
def lw_sq : List (Nat × Nat) := [(18, 32), (19, 33), (20, 34), (21, 35), (22, 36), (23, 37), (24, 38), (25, 39)]
theorem lw_sqG : lw_sq.all (fun q => decide (Cond.eq (lw_st q.1) (lw_st q.2) ∈ lw_G1)) = true := by decide +kernel
theorem lw_sqC : (List.range 40).all (fun i => decide (i < 32 ∨ (i - 14, i) ∈ lw_sq)) = true := by decide +kernel
theorem lw_sqW : (List.range 40).all (fun i => decide ((stRef.getD i ("", 0, "", 0)).2.2.2 = if i < 32 then i else i - 14)) = true := by decide +kernel
theorem lw_sqT : (List.range 40).all (fun i => decide (Cond.stringRef (stRef.getD i ("", 0, "", 0)).1 (stRef.getD i ("", 0, "", 0)).2.1 (stRef.getD i ("", 0, "", 0)).2.2.1 ∈ lw_tbl)) = true := by decide +kernel
theorem lw_vkR (hts : ∀ w ∈ lw_tbl, w.before A s = true) (hs : ∀ w ∈ lw_G1, w.before A s = true) {adK : Nat → Nat} (he : ∀ i : Nat, i < 32 → (lw_st i).eval A s none [] s = some (.ref (adK i))) (q : String × Nat × String × Nat) (hq : q ∈ stRef) : q.2.2.2 < 32 ∧ vk_R q.1 q.2.1 q.2.2.1 (adK q.2.2.2) s := by
  obtain ⟨i, hi, e⟩ := List.mem_iff_getElem.mp hq
  have hi' : i < 40 := hi
  have eq : stRef.getD i ("", 0, "", 0) = q := by
    have h9 : stRef[i]? = some q := by rw [List.getElem?_eq_getElem hi, e]
    exact congrArg (fun o => Option.getD o ("", 0, "", 0)) h9
  have h1 := lw_all lw_sqT hi'
  have h2 := lw_all lw_sqW hi'
  have h3 := lw_all lw_sqC hi'
  rw [eq] at h1 h2
  have ev : (lw_st i).eval A s none [] s = some (.ref (adK q.2.2.2)) := by
    by_cases h : i < 32
    · rw [h2, if_pos h]
      exact he i h
    · rw [h2, if_neg h]
      have h4 := of_decide_eq_true (List.all_eq_true.mp lw_sqG _ (h3.resolve_left h))
      exact va_eqR (hs _ h4) (he (i - 14) (by omega))
  refine ⟨?_, vk_R.of (A := A) (hts _ h1) ?_⟩
  · rw [h2]
    split <;> omega
  · unfold lw_st at ev
    rw [eq] at ev
    exact ev
end ST
def lw_rr (t0 t1 t2 t3 t4 t5 : Nat) (a b c d : Nat → Nat) (n : Nat) : Nat := if n < 100 then (match n with
  | 0 => t0
  | 1 => t1
  | 2 => t2
  | 3 => t3
  | 4 => t4
  | _ => t5) else if n < 200 then a (n - 100) else if n < 300 then b (n - 200) else if n < 400 then c (n - 300) else d (n - 400)
section RR
variable {t0 t1 t2 t3 t4 t5 : Nat} {a b c d : Nat → Nat} {i : Nat}
theorem lw_rr1 (h : i < 100) : lw_rr t0 t1 t2 t3 t4 t5 a b c d (100 + i) = a i := by
  unfold lw_rr
  rw [if_neg (by omega), if_pos (by omega), Nat.add_sub_cancel_left]
theorem lw_rr2 (h : i < 100) : lw_rr t0 t1 t2 t3 t4 t5 a b c d (200 + i) = b i := by
  unfold lw_rr
  rw [if_neg (by omega), if_neg (by omega), if_pos (by omega), Nat.add_sub_cancel_left]
theorem lw_rr3 (h : i < 100) : lw_rr t0 t1 t2 t3 t4 t5 a b c d (300 + i) = c i := by
  unfold lw_rr
  rw [if_neg (by omega), if_neg (by omega), if_neg (by omega), if_pos (by omega), Nat.add_sub_cancel_left]
theorem lw_rr4 : lw_rr t0 t1 t2 t3 t4 t5 a b c d (400 + i) = d i := by
  unfold lw_rr
  rw [if_neg (by omega), if_neg (by omega), if_neg (by omega), if_neg (by omega), Nat.add_sub_cancel_left]
end RR
theorem lw_cgE {E d : String} {nm : List String} {F : List (String × String × String × List Int32)} {ad ad' : Nat → Nat} {X : Nat → Prop} {U : State} {H : Heap} (e : ∀ i, i < nm.length → ad' i = ad i) (h : va_En E d nm F ad X U H) : va_En E d nm F ad' X U H :=
  ⟨fun i hi => by rw [e i hi]; exact h.1 i hi, fun i j hi hj q => h.2 i j hi hj (by rw [← e i hi, ← e j hj]; exact q)⟩
theorem lw_cgS {N : Nat} {len : List Nat} {byt : List (List Int32)} {adK adV adK' adV' : Nat → Nat} {X : Nat → Prop} {U : State} {H : Heap} (e : ∀ i, i < N → adK' i = adK i) (e' : ∀ i, i < N → adV' i = adV i) (h : vk_S N len byt adK adV X U H) : vk_S N len byt adK' adV' X U H :=
  ⟨fun i hi => by rw [e i hi, e' i hi]; exact h.1 i hi, fun i j hi hj q => h.2 i j hi hj (by rw [← e i hi, ← e j hj]; exact q)⟩
theorem lw_GE {s : State} {b : Nat} (hts : ∀ w ∈ lw_tbl, w.before #[Value.ref b] s = true) (hgv : (Jvm.Cond.and given_1 narrow_1).before #[Value.ref b] s = true) : ∃ g : xG, GE g (va_A [] s.heap.size) s s.heap := by
  have hs : ∀ w ∈ lw_G1, w.before #[Value.ref b] s = true := fun w hw => flat_of_before _ hgv w hw
  have hnc : ∀ q ∈ nwX, (Cond.not (.castable q.1 q.2)).before #[Value.ref b] s = true := fun q hq => hs _ (of_decide_eq_true (List.all_eq_true.mp lw_nc q hq))
  obtain ⟨D, ac, hK⟩ := lw_K hts
  obtain ⟨t0, z0⟩ := lw_vo hts hs
  obtain ⟨t1, z1⟩ := lw_smR hts hs
  obtain ⟨t2, z2⟩ := lw_smK hts hs
  obtain ⟨t3, z3⟩ := lw_dt hts hs
  obtain ⟨t4, z4⟩ := lw_do hts hs
  obtain ⟨t5, z5⟩ : ∃ n : Nat, va_Z "jdk/internal/util/Preconditions" "SIOOBE_FORMATTER" "Ljava/util/function/BiFunction;" (va_rf (if n = 0 then none else some (n - 1))) (va_A [] s.heap.size) s s.heap := by
    rcases lw_FM hts hs with h | ⟨t, h⟩
    · refine ⟨0, ?_⟩
      rw [if_pos rfl]
      exact h
    · refine ⟨t + 1, ?_⟩
      rw [if_neg (Nat.succ_ne_zero t), Nat.add_sub_cancel]
      exact h
  obtain ⟨adR, hR⟩ := lw_enR hts hs
  obtain ⟨adE, hE⟩ := lw_enK hts hs
  obtain ⟨sK, sV, hS, he⟩ := lw_vkS hs
  refine ⟨(D, ac, lw_rr t0 t1 t2 t3 t4 t5 adR adE sK sV), ⟨hK, z0, z1, z2, lw_cgE (fun i hi => lw_rr1 (Nat.lt_trans hi (by decide))) hR, lw_cgE (fun i hi => lw_rr2 (Nat.lt_trans hi (by decide))) hE, lw_cgS (fun i hi => lw_rr3 (Nat.lt_trans hi (by decide))) (fun i hi => lw_rr4) hS, fun q hq => ?_, lw_csq hts hs, z3, z4⟩, lw_NW hts hnc, lw_TZ hts hs, z5⟩
  obtain ⟨h1, h2⟩ := lw_vkR hts hs he q hq
  have e : lw_rr t0 t1 t2 t3 t4 t5 adR adE sK sV (300 + q.2.2.2) = sK q.2.2.2 := lw_rr3 (Nat.lt_trans h1 (by decide))
  show vk_R q.1 q.2.1 q.2.2.1 (lw_rr t0 t1 t2 t3 t4 t5 adR adE sK sV (300 + q.2.2.2)) s
  rw [e]
  exact h2
