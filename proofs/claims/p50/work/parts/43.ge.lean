/-! WHAT HOLDS AT THE START, continued: enum constants and String constants; GE itself -/
def lw_isD : Cond → Bool
  | .not (.eq (.static _ _ _) (.static _ _ _)) => true
  | _ => false
def lw_pairs : List (Nat × Nat) := [(3, 5), (3, 9), (5, 9), (3, 0), (5, 0), (9, 0), (3, 6), (5, 6), (9, 6), (0, 6), (3, 2), (5, 2), (9, 2), (0, 2), (6, 2), (3, 8), (5, 8), (9, 8), (0, 8), (6, 8), (2, 8), (3, 18), (5, 18), (9, 18), (0, 18), (6, 18), (2, 18), (8, 18), (3, 1), (5, 1), (9, 1), (0, 1), (6, 1), (2, 1), (8, 1), (18, 1), (3, 4), (5, 4), (9, 4), (0, 4), (6, 4), (2, 4), (8, 4), (18, 4), (1, 4), (3, 7), (5, 7), (9, 7), (0, 7), (6, 7), (2, 7), (8, 7), (18, 7), (1, 7), (4, 7), (3, 10), (5, 10), (9, 10), (0, 10), (6, 10), (2, 10), (8, 10), (18, 10), (1, 10), (4, 10), (7, 10), (3, 11), (5, 11), (9, 11), (0, 11), (6, 11), (2, 11), (8, 11), (18, 11), (1, 11), (4, 11), (7, 11), (10, 11), (3, 12), (5, 12), (9, 12), (0, 12), (6, 12), (2, 12), (8, 12), (18, 12), (1, 12), (4, 12), (7, 12), (10, 12), (11, 12), (3, 13), (5, 13), (9, 13), (0, 13), (6, 13), (2, 13), (8, 13), (18, 13), (1, 13), (4, 13), (7, 13), (10, 13), (11, 13), (12, 13), (3, 14), (5, 14), (9, 14), (0, 14), (6, 14), (2, 14), (8, 14), (18, 14), (1, 14), (4, 14), (7, 14), (10, 14), (11, 14), (12, 14), (13, 14), (3, 16), (5, 16), (9, 16), (0, 16), (6, 16), (2, 16), (8, 16), (18, 16), (1, 16), (4, 16), (7, 16), (10, 16), (11, 16), (12, 16), (13, 16), (14, 16), (3, 15), (5, 15), (9, 15), (0, 15), (6, 15), (2, 15), (8, 15), (18, 15), (1, 15), (4, 15), (7, 15), (10, 15), (11, 15), (12, 15), (13, 15), (14, 15), (16, 15), (3, 17), (5, 17), (9, 17), (0, 17), (6, 17), (2, 17), (8, 17), (18, 17), (1, 17), (4, 17), (7, 17), (10, 17), (11, 17), (12, 17), (13, 17), (14, 17), (16, 17), (15, 17)]
def lw_et (i : Nat) : Term := if i < 11 then .static "CandleConcert$Refusal" (nmR.getD i "") "LCandleConcert$Refusal;" else .static "CandleConcert$Kind" (nmK.getD (i - 11) "") "LCandleConcert$Kind;"
theorem lw_PL : lw_G1.filter lw_isD = lw_pairs.map (fun q => Cond.not (.eq (lw_et q.1) (lw_et q.2))) := by decide +kernel
theorem lw_pr {s : State} {A : Array Value} (hs : ∀ w ∈ lw_G1, w.before A s = true) {i j : Nat} (h : (i, j) ∈ lw_pairs) : (Cond.not (.eq (lw_et i) (lw_et j))).before A s = true := by
  have h1 : Cond.not (.eq (lw_et i) (lw_et j)) ∈ lw_G1.filter lw_isD := by
    rw [lw_PL]
    exact List.mem_map.mpr ⟨(i, j), h, rfl⟩
  exact hs _ (List.mem_filter.mp h1).1
theorem lw_dR : (List.range 11).all (fun i => (List.range 11).all fun j => decide (i = j) || decide ((i, j) ∈ lw_pairs) || decide ((j, i) ∈ lw_pairs)) = true := by decide +kernel
theorem lw_dK : (List.range 8).all (fun i => (List.range 8).all fun j => decide (i = j) || decide ((11 + i, 11 + j) ∈ lw_pairs) || decide ((11 + j, 11 + i) ∈ lw_pairs)) = true := by decide +kernel
theorem lw_exR : (List.range 11).all (fun i => decide (Cond.exactly (.static "CandleConcert$Refusal" (nmR.getD i "") "LCandleConcert$Refusal;") "CandleConcert$Refusal" ∈ lw_G1)) = true := by decide +kernel
theorem lw_exK : (List.range 8).all (fun i => decide (Cond.exactly (.static "CandleConcert$Kind" (nmK.getD i "") "LCandleConcert$Kind;") "CandleConcert$Kind" ∈ lw_G1)) = true := by decide +kernel
theorem lw_foR : (xF 11).all (fun q => (List.range 11).all fun i => decide (Cond.eq (.field (.static "CandleConcert$Refusal" (nmR.getD i "") "LCandleConcert$Refusal;") q.1 q.2.1 q.2.2.1) (.int (q.2.2.2.getD i 0)) ∈ lw_G1)) = true := by decide +kernel
theorem lw_foK : (xF 8).all (fun q => (List.range 8).all fun i => decide (Cond.eq (.field (.static "CandleConcert$Kind" (nmK.getD i "") "LCandleConcert$Kind;") q.1 q.2.1 q.2.2.1) (.int (q.2.2.2.getD i 0)) ∈ lw_G1)) = true := by decide +kernel
theorem lw_laR : (List.range 11).all (fun i => decide (Cond.laysStatic "CandleConcert$Refusal" (nmR.getD i "") "LCandleConcert$Refusal;" ∈ lw_tbl)) = true := by decide +kernel
theorem lw_laK : (List.range 8).all (fun i => decide (Cond.laysStatic "CandleConcert$Kind" (nmK.getD i "") "LCandleConcert$Kind;" ∈ lw_tbl)) = true := by decide +kernel
theorem lw_all {n : Nat} {p : Nat → Prop} [DecidablePred p] (h : (List.range n).all (fun i => decide (p i)) = true) {i : Nat} (hi : i < n) : p i := of_decide_eq_true (List.all_eq_true.mp h i (List.mem_range.mpr hi))
section EN
variable {s : State} {A : Array Value}
theorem lw_enR (hts : ∀ w ∈ lw_tbl, w.before A s = true) (hs : ∀ w ∈ lw_G1, w.before A s = true) : ∃ ad : Nat → Nat, va_En "CandleConcert$Refusal" "LCandleConcert$Refusal;" nmR (xF 11) ad (va_A [] s.heap.size) s s.heap := by
  have e : ∀ i, i < 11 → lw_et i = .static "CandleConcert$Refusal" (nmR.getD i "") "LCandleConcert$Refusal;" := fun i hi => if_pos hi
  refine va_Enof (args := A) (fun i hi => hts _ (lw_all lw_laR hi)) (hts _ (by decide +kernel)) (fun i hi => hs _ (lw_all lw_exR hi)) (fun q hq i hi => hs _ (of_decide_eq_true (List.all_eq_true.mp (List.all_eq_true.mp lw_foR q hq) i (List.mem_range.mpr hi)))) (fun i j hi hj hij => ?_) lw_hA
  have h := List.all_eq_true.mp (List.all_eq_true.mp lw_dR i (List.mem_range.mpr hi)) j (List.mem_range.mpr hj)
  simp only [Bool.or_eq_true, decide_eq_true_eq] at h
  rw [← e i hi, ← e j hj]
  rcases h with (h | h) | h
  · exact absurd h hij
  · exact Or.inl (lw_pr hs h)
  · exact Or.inr (lw_pr hs h)
theorem lw_enK (hts : ∀ w ∈ lw_tbl, w.before A s = true) (hs : ∀ w ∈ lw_G1, w.before A s = true) : ∃ ad : Nat → Nat, va_En "CandleConcert$Kind" "LCandleConcert$Kind;" nmK (xF 8) ad (va_A [] s.heap.size) s s.heap := by
  have e : ∀ i, lw_et (11 + i) = .static "CandleConcert$Kind" (nmK.getD i "") "LCandleConcert$Kind;" := by
    intro i
    unfold lw_et
    rw [if_neg (by omega), Nat.add_sub_cancel_left]
  refine va_Enof (args := A) (fun i hi => hts _ (lw_all lw_laK hi)) (hts _ (by decide +kernel)) (fun i hi => hs _ (lw_all lw_exK hi)) (fun q hq i hi => hs _ (of_decide_eq_true (List.all_eq_true.mp (List.all_eq_true.mp lw_foK q hq) i (List.mem_range.mpr hi)))) (fun i j hi hj hij => ?_) lw_hA
  have h := List.all_eq_true.mp (List.all_eq_true.mp lw_dK i (List.mem_range.mpr hi)) j (List.mem_range.mpr hj)
  simp only [Bool.or_eq_true, decide_eq_true_eq] at h
  rw [← e i, ← e j]
  rcases h with (h | h) | h
  · exact absurd h hij
  · exact Or.inl (lw_pr hs h)
  · exact Or.inr (lw_pr hs h)
end EN
def lw_iv : List Nat := [1, 2, 0, 3, 4, 5, 6, 7, 8, 9, 15, 10, 13, 37, 38, 14, 16, 26, 27, 28, 29, 30, 31, 32, 33, 34, 35, 36, 17, 18, 11, 12, 19, 20, 21, 22, 23, 24, 25]
def lw_st (k : Nat) : Term := .string (stRef.getD (lw_iv.getD k 0) ("", 0, "", 0)).1 (stRef.getD (lw_iv.getD k 0) ("", 0, "", 0)).2.1
def lw_sc (i : Nat) : List Cond := Cond.exactly (lw_st i) "java/lang/String" :: Cond.eq (.field (lw_st i) "java/lang/String" "coder" "B") (.int 0) :: Cond.arrayOf (.field (lw_st i) "java/lang/String" "value" "[B") .byte :: Cond.eq (.length (.field (lw_st i) "java/lang/String" "value" "[B")) (.int (Int32.ofNat (stLen.getD i 0))) ::
  (List.range (stLen.getD i 0)).map fun j => Cond.eq (.elem (.field (lw_st i) "java/lang/String" "value" "[B") (.int (Int32.ofNat j))) (.int ((stByt.getD i []).getD j 0))
def lw_off : List Nat := [707, 733, 577, 761, 785, 806, 831, 871, 898, 923, 1040, 949, 1023, 1308, 1330, 1031, 1066, 1163, 1193, 1203, 1212, 1221, 1228, 1236, 1245, 1252, 1259, 1288, 1075, 1086, 974, 1001, 1097, 1110, 1120, 1126, 1136, 1148, 1154]
theorem lw_SC : (List.range 39).all (fun i => decide ((lw_G1.drop (lw_off.getD i 0)).take (4 + stLen.getD i 0) = lw_sc i)) = true := by decide +kernel
theorem lw_scG {i : Nat} (hi : i < 39) {w : Cond} (hw : w ∈ lw_sc i) : w ∈ lw_G1 := by
  rw [← lw_all lw_SC hi] at hw
  exact List.mem_of_mem_drop (List.mem_of_mem_take hw)
theorem lw_sl : (List.range 39).all (fun i => decide (stLen.getD i 0 < 2 ^ 31)) = true := by decide +kernel
section ST
variable {s : State} {A : Array Value}
theorem lw_s1 (hs : ∀ w ∈ lw_G1, w.before A s = true) (i : Nat) : ∃ q : Nat × Nat, i < 39 → (lw_st i).eval A s none [] s = some (.ref q.1) ∧ va_O "java/lang/String" q.1 (va_A [] s.heap.size) s s.heap ∧ va_OF "java/lang/String" "coder" "B" (.int 0) q.1 (va_A [] s.heap.size) s s.heap ∧ va_OF "java/lang/String" "value" "[B" (.ref q.2) q.1 (va_A [] s.heap.size) s s.heap ∧
    va_T .byte q.2 (stLen.getD i 0) (fun j => .int ((stByt.getD i []).getD j 0)) (va_A [] s.heap.size) s s.heap := by
  by_cases hi : i < 39
  · have m : ∀ w ∈ lw_sc i, w.before A s = true := fun w hw => hs w (lw_scG hi hw)
    have z : ∀ {k : Nat}, k < 1 → k = 0 := fun h => by omega
    obtain ⟨adK, adV, hS, he⟩ := vk_Sof (args := A) (s := s) (N := 1) (tm := fun _ => lw_st i) (len := [stLen.getD i 0]) (byt := [stByt.getD i []]) (A := va_A [] s.heap.size)
      (fun k hk => by cases z hk; exact lw_all lw_sl hi)
      (fun k hk => m _ (List.mem_cons_self ..))
      (fun k hk => m _ (List.mem_cons_of_mem _ (List.mem_cons_self ..)))
      (fun k hk => m _ (List.mem_cons_of_mem _ (List.mem_cons_of_mem _ (List.mem_cons_self ..))))
      (fun k hk => by cases z hk; exact m _ (List.mem_cons_of_mem _ (List.mem_cons_of_mem _ (List.mem_cons_of_mem _ (List.mem_cons_self ..)))))
      (fun k hk j hj => by
        cases z hk
        exact m _ (List.mem_cons_of_mem _ (List.mem_cons_of_mem _ (List.mem_cons_of_mem _ (List.mem_cons_of_mem _ (List.mem_map.mpr ⟨j, List.mem_range.mpr hj, rfl⟩))))))
      (fun k j hk hj hkj => absurd ((z hk).trans (z hj).symm) hkj) lw_hA
    exact ⟨(adK 0, adV 0), fun _ => ⟨he 0 (by decide), hS.1 0 (by decide)⟩⟩
  · exact ⟨(0, 0), fun h => absurd h hi⟩
theorem lw_fx {o n d : String} {v v' : Value} {t : Nat} {X : Nat → Prop} {U : State} {H : Heap} (h : va_OF o n d v t X U H) (h' : va_OF o n d v' t X U H) : v = v' := by
  obtain ⟨cf, k, i, f, cell, a1, a2, a3, a4, a5, a6⟩ := h
  obtain ⟨cf', k', i', f', cell', b1, b2, b3, b4, b5, b6⟩ := h'
  rw [a1] at b1
  cases b1
  rw [a3] at b3
  cases b3
  rw [a5] at b5
  cases b5
  rfl
theorem lw_tx {ty : FieldType} {t N N' : Nat} {f f' : Nat → Value} {X : Nat → Prop} {U : State} {H : Heap} (hN : N < 2147483648) (hN' : N' < 2147483648) (h : va_T ty t N f X U H) (h' : va_T ty t N' f' X U H) : N = N' ∧ ∀ j, j < N → f j = f' j := by
  obtain ⟨cell, a1, a2, a3, a4, a5, a6, a7⟩ := h
  obtain ⟨cell', b1, b2, b3, b4, b5, b6, b7⟩ := h'
  rw [a1] at b1
  cases b1
  have hn : N = N' := by
    rw [a5] at b5
    have := congrArg Int32.toNatClampNeg b5
    rwa [zt_cl hN, zt_cl hN'] at this
  subst hn
  refine ⟨rfl, fun j hj => ?_⟩
  have h1 := a6 j hj
  rw [b6 j hj] at h1
  exact (Option.some.inj h1).symm
theorem lw_sd : (List.range 39).all (fun i => (List.range 39).all fun j => decide (i = j) || decide (stLen.getD i 0 ≠ stLen.getD j 0) || (List.range (stLen.getD i 0)).any fun k => decide ((stByt.getD i []).getD k 0 ≠ (stByt.getD j []).getD k 0)) = true := by decide +kernel
theorem lw_vkS (hs : ∀ w ∈ lw_G1, w.before A s = true) : ∃ adK adV : Nat → Nat, vk_S 39 stLen stByt adK adV (va_A [] s.heap.size) s s.heap ∧ ∀ i : Nat, i < 39 → (lw_st i).eval A s none [] s = some (.ref (adK i)) := by
  obtain ⟨ad, had⟩ := Classical.axiomOfChoice (lw_s1 hs)
  refine ⟨fun i => (ad i).1, fun i => (ad i).2, ⟨fun i hi => (had i hi).2, fun i j hi hj e => ?_⟩, fun i hi => (had i hi).1⟩
  have h1 := (had i hi).2.2.2.1
  have h2 := (had j hj).2.2.2.1
  have e' : (ad i).1 = (ad j).1 := e
  rw [e'] at h1
  have e2 : (ad i).2 = (ad j).2 := by
    exact Value.ref.inj (lw_fx h1 h2)
  have h3 := (had i hi).2.2.2.2
  rw [e2] at h3
  have hli : stLen.getD i 0 < 2 ^ 31 := lw_all lw_sl hi
  have hlj : stLen.getD j 0 < 2 ^ 31 := lw_all lw_sl hj
  obtain ⟨h4, h5⟩ := lw_tx (by omega) (by omega) h3 (had j hj).2.2.2.2
  have h := List.all_eq_true.mp (List.all_eq_true.mp lw_sd i (List.mem_range.mpr hi)) j (List.mem_range.mpr hj)
  simp only [Bool.or_eq_true, decide_eq_true_eq] at h
  rcases h with (h | h) | h
  · exact h
  · exact absurd h4 h
  · obtain ⟨k, hk, hd⟩ := List.any_eq_true.mp h
    have h6 := h5 k (List.mem_range.mp hk)
    exact absurd (Value.int.inj h6) (of_decide_eq_true hd)
theorem lw_sqW : (List.range 39).all (fun i => decide ((stRef.getD i ("", 0, "", 0)).2.2.2 < 39 ∧ lw_iv.getD (stRef.getD i ("", 0, "", 0)).2.2.2 0 = i)) = true := by decide +kernel
theorem lw_sqT : (List.range 39).all (fun i => decide (Cond.stringRef (stRef.getD i ("", 0, "", 0)).1 (stRef.getD i ("", 0, "", 0)).2.1 (stRef.getD i ("", 0, "", 0)).2.2.1 ∈ lw_tbl)) = true := by decide +kernel
theorem lw_vkR (hts : ∀ w ∈ lw_tbl, w.before A s = true) {adK : Nat → Nat} (he : ∀ i : Nat, i < 39 → (lw_st i).eval A s none [] s = some (.ref (adK i))) (q : String × Nat × String × Nat) (hq : q ∈ stRef) : q.2.2.2 < 39 ∧ vk_R q.1 q.2.1 q.2.2.1 (adK q.2.2.2) s := by
  obtain ⟨i, hi, e⟩ := List.mem_iff_getElem.mp hq
  have hi' : i < 39 := hi
  have eq : stRef.getD i ("", 0, "", 0) = q := by
    have h9 : stRef[i]? = some q := by rw [List.getElem?_eq_getElem hi, e]
    exact congrArg (fun o => Option.getD o ("", 0, "", 0)) h9
  have h1 := lw_all lw_sqT hi'
  have h2 := lw_all lw_sqW hi'
  rw [eq] at h1 h2
  have ev := he q.2.2.2 h2.1
  refine ⟨h2.1, vk_R.of (A := A) (hts _ h1) ?_⟩
  unfold lw_st at ev
  rw [h2.2, eq] at ev
  exact ev
end ST
def lw_rr (t0 t1 t2 t3 t4 t5 t6 t7 : Nat) (a b c d e : Nat → Nat) (n : Nat) : Nat := if n < 100 then (match n with
  | 0 => t0
  | 1 => t1
  | 2 => t2
  | 3 => t3
  | 4 => t4
  | 5 => t5
  | 6 => t6
  | _ => t7) else if n < 200 then a (n - 100) else if n < 300 then b (n - 200) else if n < 400 then c (n - 300) else if n < 1000 then d (n - 400) else e (n - 1000)
section RR
variable {t0 t1 t2 t3 t4 t5 t6 t7 : Nat} {a b c d e : Nat → Nat} {i : Nat}
theorem lw_rr1 (h : i < 100) : lw_rr t0 t1 t2 t3 t4 t5 t6 t7 a b c d e (100 + i) = a i := by
  unfold lw_rr
  rw [if_neg (by omega), if_pos (by omega), Nat.add_sub_cancel_left]
theorem lw_rr2 (h : i < 100) : lw_rr t0 t1 t2 t3 t4 t5 t6 t7 a b c d e (200 + i) = b i := by
  unfold lw_rr
  rw [if_neg (by omega), if_neg (by omega), if_pos (by omega), Nat.add_sub_cancel_left]
theorem lw_rr3 (h : i < 100) : lw_rr t0 t1 t2 t3 t4 t5 t6 t7 a b c d e (300 + i) = c i := by
  unfold lw_rr
  rw [if_neg (by omega), if_neg (by omega), if_neg (by omega), if_pos (by omega), Nat.add_sub_cancel_left]
theorem lw_rr4 (h : i < 100) : lw_rr t0 t1 t2 t3 t4 t5 t6 t7 a b c d e (400 + i) = d i := by
  unfold lw_rr
  rw [if_neg (by omega), if_neg (by omega), if_neg (by omega), if_neg (by omega), if_pos (by omega), Nat.add_sub_cancel_left]
theorem lw_rr5 : lw_rr t0 t1 t2 t3 t4 t5 t6 t7 a b c d e (1000 + i) = e i := by
  unfold lw_rr
  rw [if_neg (by omega), if_neg (by omega), if_neg (by omega), if_neg (by omega), if_neg (by omega), Nat.add_sub_cancel_left]
end RR
/-- an int out of its word as a number -/
theorem lw_word (x : Int32) : Int32.ofNat x.toUInt32.toNat = x := by
  have h : UInt32.ofNat x.toUInt32.toNat = x.toUInt32 := UInt32.ofNat_toNat
  show Int32.ofUInt32 (UInt32.ofNat x.toUInt32.toNat) = x
  rw [h]
theorem lw_script {b L : Nat} {xs : Nat → Int32} {s : State} (hX : va_X b L xs s s.heap) (hbl : b < s.heap.size) : va_T .int b L (fun j => .int (xs j)) (va_A [] s.heap.size) s s.heap := by
  obtain ⟨scr, h1, h2, h3, h4, h5⟩ := hX
  exact ⟨scr, h1, h2, h3, by omega, by rw [h4], h5, lw_hA b hbl⟩
theorem lw_cgE {E d : String} {nm : List String} {F : List (String × String × String × List Int32)} {ad ad' : Nat → Nat} {X : Nat → Prop} {U : State} {H : Heap} (e : ∀ i, i < nm.length → ad' i = ad i) (h : va_En E d nm F ad X U H) : va_En E d nm F ad' X U H :=
  ⟨fun i hi => by rw [e i hi]; exact h.1 i hi, fun i j hi hj q => h.2 i j hi hj (by rw [← e i hi, ← e j hj]; exact q)⟩
theorem lw_cgS {N : Nat} {len : List Nat} {byt : List (List Int32)} {adK adV adK' adV' : Nat → Nat} {X : Nat → Prop} {U : State} {H : Heap} (e : ∀ i, i < N → adK' i = adK i) (e' : ∀ i, i < N → adV' i = adV i) (h : vk_S N len byt adK adV X U H) : vk_S N len byt adK' adV' X U H :=
  ⟨fun i hi => by rw [e i hi, e' i hi]; exact h.1 i hi, fun i j hi hj q => h.2 i j hi hj (by rw [← e i hi, ← e j hj]; exact q)⟩
theorem lw_GE {s : State} {b L : Nat} {xs : Nat → Int32} (hts : ∀ w ∈ lw_tbl, w.before #[Value.ref b] s = true) (hX : va_X b L xs s s.heap) (hbl : b < s.heap.size) (hgv : (Jvm.Cond.and given_1 narrow_1).before #[Value.ref b] s = true) : ∃ g : xG, GE g (va_A [] s.heap.size) s s.heap ∧ b = g.2.2 6 ∧ L = g.2.2 7 ∧ xs = xsG g := by
  have hs : ∀ w ∈ lw_G1, w.before #[Value.ref b] s = true := fun w hw => flat_of_before _ hgv w hw
  have hnc : ∀ q ∈ nwX, (Cond.not (.castable q.1 q.2)).before #[Value.ref b] s = true := fun q hq => hs _ (of_decide_eq_true (List.all_eq_true.mp lw_nc q hq))
  obtain ⟨D, ac, hK⟩ := lw_K hts
  obtain ⟨t0, z0⟩ := lw_vo hts hs
  obtain ⟨t1, z1⟩ := lw_smR hts hs
  obtain ⟨t2, z2⟩ := lw_smK hts hs
  obtain ⟨t3, z3⟩ := lw_dt hts hs
  obtain ⟨t4, z4⟩ := lw_do hts hs
  obtain ⟨t5, z5⟩ : ∃ n : Nat, va_Z "jdk/internal/util/Preconditions" "SIOOBE_FORMATTER" "Ljava/util/function/BiFunction;" (va_rf (if n = 0 then none else some (n - 1))) (va_A [] s.heap.size) s s.heap := by
    rcases lw_FM hts hs with h | ⟨t, h⟩
    · refine ⟨0, ?_⟩
      rw [if_pos rfl]
      exact h
    · refine ⟨t + 1, ?_⟩
      rw [if_neg (Nat.succ_ne_zero t), Nat.add_sub_cancel]
      exact h
  obtain ⟨adR, hR⟩ := lw_enR hts hs
  obtain ⟨adE, hE⟩ := lw_enK hts hs
  obtain ⟨sK, sV, hS, he⟩ := lw_vkS hs
  obtain ⟨rr, rfl, rfl, rfl, rfl, rfl, rfl, e6, e7, k1, k2, k3, k4, k5⟩ : ∃ rr : Nat → Nat, rr 0 = t0 ∧ rr 1 = t1 ∧ rr 2 = t2 ∧ rr 3 = t3 ∧ rr 4 = t4 ∧ rr 5 = t5 ∧ rr 6 = b ∧ rr 7 = L ∧ (∀ i, i < 100 → rr (100 + i) = adR i) ∧ (∀ i, i < 100 → rr (200 + i) = adE i) ∧ (∀ i, i < 100 → rr (300 + i) = sK i) ∧ (∀ i, i < 100 → rr (400 + i) = sV i) ∧ ∀ j, xs j = Int32.ofNat (rr (1000 + j)) :=
    ⟨lw_rr t0 t1 t2 t3 t4 t5 b L adR adE sK sV (fun j => (xs j).toUInt32.toNat), rfl, rfl, rfl, rfl, rfl, rfl, rfl, rfl, fun i h => lw_rr1 h, fun i h => lw_rr2 h, fun i h => lw_rr3 h, fun i h => lw_rr4 h, fun j => by rw [lw_rr5, lw_word]⟩
  have hT : va_T .int (rr 6) (rr 7) (fun j => .int (Int32.ofNat (rr (1000 + j)))) (va_A [] s.heap.size) s s.heap := by
    have h := lw_script hX hbl
    rw [show (fun j => Value.int (xs j)) = fun j => Value.int (Int32.ofNat (rr (1000 + j))) from funext fun j => by rw [← k5 j]] at h
    rw [e6, e7]
    exact h
  have hR' : va_En "CandleConcert$Refusal" "LCandleConcert$Refusal;" nmR (xF 11) (fun i => rr (100 + i)) (va_A [] s.heap.size) s s.heap := lw_cgE (fun i hi => k1 i (Nat.lt_trans hi (by decide))) hR
  have hE' : va_En "CandleConcert$Kind" "LCandleConcert$Kind;" nmK (xF 8) (fun i => rr (200 + i)) (va_A [] s.heap.size) s s.heap := lw_cgE (fun i hi => k2 i (Nat.lt_trans hi (by decide))) hE
  have hS' : vk_S 39 stLen stByt (fun i => rr (300 + i)) (fun i => rr (400 + i)) (va_A [] s.heap.size) s s.heap := lw_cgS (fun i hi => k3 i (Nat.lt_trans hi (by decide))) (fun i hi => k4 i (Nat.lt_trans hi (by decide))) hS
  have hr' : ∀ q ∈ stRef, vk_R q.1 q.2.1 q.2.2.1 (rr (300 + q.2.2.2)) s := fun q hq => by
    obtain ⟨h1, h2⟩ := lw_vkR hts he q hq
    rw [k3 q.2.2.2 (Nat.lt_trans h1 (by decide))]
    exact h2
  exact ⟨(D, ac, rr), ⟨⟨hK, z0, z1, z2, hR', hE', hS', hr', lw_csq hts hs, z3, z4⟩, lw_NW hts hnc, lw_TZ hts hs, z5, hT, va_Nw.of rfl (hts _ (by decide +kernel))⟩, e6.symm, e7.symm, funext k5⟩
