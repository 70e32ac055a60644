/-! CALLS OF INHERITED METHODS, Enum.ordinal -/
section XU
variable {p : Program} {l : Launch} {e : Env} {R : Room} {s : State} {m : MethodId} {args : Array Value} {below : List Frame} {meth : Method} {c : Code} {cells slots : Nat} {Q : State → Prop}
variable {g : xG} {A : Nat → Prop} {nL : Nat} {cc : ByteArray} {own : String} {wss wss' : List va_W} {lv lv' : List (Nat × Value)} {pc : Nat} {st : List Value}
def xCU (R : Room) (own Cn owner : String) (index : Nat) (x y : MethodName) (bytes : ByteArray) (maxL : Nat) (ret : Option FieldType) (rm : Room) (mc ms n : Nat) : Prop :=
  (Cond.code y bytes maxL ret ∈ xTB ∧ Cond.methodLink own index x ∈ xTB ∧ Cond.sameMethod x.cls owner x.name x.desc ∈ xTB ∧ Cond.selects Cn x y ∈ xTB ∧ Cond.instanceMethod y ∈ xTB ∧ Cond.initialized y.cls ∈ xTB) ∧ y = ⟨owner, x.name, x.desc⟩ ∧ (owner ≠ "java/lang/invoke/MethodHandle" ∧ owner ≠ "java/lang/invoke/VarHandle" ∧ (parseMethodDescriptor x.desc).map (fun d => d.parameters.length) = some n) ∧ rm.cells = mc ∧ rm.slots = ms ∧ rm.frames + 1 ≤ R.frames ∧ 8 + (maxL + 11) + rm.locals ≤ R.locals
theorem xCU_of {Cn owner : String} {index : Nat} {x y : MethodName} {bytes : ByteArray} {maxL : Nat} {ret : Option FieldType} {rm : Room} {mc ms n : Nat} (C : CX g own cc nL A p s m args meth c) (h : xCU R own Cn owner index x y bytes maxL ret rm mc ms n) : va_CU R s args own Cn owner index x y bytes maxL ret (Cond.code y bytes maxL ret :: xTB) rm mc ms n := by
  obtain ⟨⟨w1, w2, w3, w4, w5, w6⟩, hy, hd, hc, hs, hf, hl⟩ := h
  refine va_cwU n C.2.2.2.2.1 (xTB_G ?_) rfl hc hs hy hd ⟨hf, hl⟩
  intro w hw
  simp only [va_wsU, List.mem_append, List.mem_cons, List.not_mem_nil, or_false] at hw
  rcases hw with (rfl | rfl | rfl | rfl | rfl) | rfl | hw
  · exact w2
  · exact w3
  · exact w4
  · exact w5
  · exact w6
  · exact w1
  · exact hw
theorem x_callU (C : CX g own cc nL A p s m args meth c) {Cn owner : String} {x y : MethodName} {bytes : ByteArray} {maxL index n mc ms : Nat} {ret : Option FieldType} {rm : Room} {b : Nat} {As rest stk : List Value} {w0 : va_W} {Qr : Option Value → va_W → Prop} (hM : Con g l y bytes maxL ret rm (.ref b :: As) w0 Qr mc ms) (hcb : xCU R own Cn owner index x y bytes maxL ret rm mc ms n)
    (recv : ∀ (H : Heap) (locs : List Loc), va_P g.1 vwCl w0 H → va_S A s.heap H locs → ∃ cell : Cell, H[b]? = some cell ∧ cell.vm.isStatics = false ∧ s.vm.findClass Cn = some cell.cls) (wr : List va_W) (hperm : wss.flatten.Perm (w0 ++ wr.flatten)) (hn : As.length = n) (hstk : stk = As.reverse ++ .ref b :: rest) (hst : (rest.map fun v => v.category).sum ≤ 8) (hf : cells + mc ≤ R.cells ∧ slots + ms ≤ R.slots) (hd : decode cc pc = .ok (.invokevirtual index, 3))
    (kk : ∀ (v : Option Value) (w1 : va_W), Qr v w1 → VW g A nL p l e R s m args below meth c (cells + mc) (slots + ms) Q (w1 :: wr) lv (pc + 3) (v.toList ++ rest)) : VW g A nL p l e R s m args below meth c cells slots Q wss lv pc stk := by
  intro H locs ls hP hD hS hl
  have hP := va_P_perm hperm hP
  have hD := va_D_perm hperm hD
  subst hstk
  exact x_after hP hD hS C.2.2.2.2.2.2.1 hl (va_runU (nL := nL) (Ts := xTB) (C := Cn) ⟨C.1, C.2.1, C.2.2.1, C.2.2.2.1, C.2.2.2.2.1⟩ (hM H.size) (xCU_of C hcb) ⟨xPc_blind, recv H locs (va_P_left hP) hS, x_pre C hP hD hS⟩ rfl hn hl.1 rfl (lv_room hst) hd hf) (fun v w1 hQ H1 locs1 hP1 hD1 hS1 => kk v w1 hQ H1 locs1 ls hP1 hD1 hS1 hl)
def xCS (R : Room) (own : String) (index : Nat) (y : MethodName) (bytes : ByteArray) (maxL : Nat) (ret : Option FieldType) (rm : Room) (mc ms n : Nat) : Prop :=
  (Cond.code y bytes maxL ret ∈ xTB ∧ Cond.methodLink own index y ∈ xTB ∧ Cond.sameMethod y.cls y.cls y.name y.desc ∈ xTB ∧ Cond.superclass own y.cls ∈ xTB ∧ Cond.instanceMethod y ∈ xTB ∧ Cond.initialized y.cls ∈ xTB) ∧ (y.name ≠ "<init>" ∧ (parseMethodDescriptor y.desc).map (fun d => d.parameters.length) = some n) ∧ rm.cells = mc ∧ rm.slots = ms ∧ rm.frames + 1 ≤ R.frames ∧ 8 + (maxL + 11) + rm.locals ≤ R.locals
theorem xCS_of {index : Nat} {y : MethodName} {bytes : ByteArray} {maxL : Nat} {ret : Option FieldType} {rm : Room} {mc ms n : Nat} (C : CX g own cc nL A p s m args meth c) (h : xCS R own index y bytes maxL ret rm mc ms n) : va_CS R s args own index y bytes maxL ret (Cond.code y bytes maxL ret :: xTB) rm mc ms n := by
  obtain ⟨⟨w1, w2, w3, w4, w5, w6⟩, hd, hc, hs, hf, hl⟩ := h
  refine va_cwSU n C.2.2.2.2.1 (xTB_G ?_) rfl hc hs hd ⟨hf, hl⟩
  intro w hw
  simp only [va_wsSU, List.mem_append, List.mem_cons, List.not_mem_nil, or_false] at hw
  rcases hw with (rfl | rfl | rfl | rfl | rfl) | rfl | hw
  · exact w2
  · exact w3
  · exact w4
  · exact w5
  · exact w6
  · exact w1
  · exact hw
/-- super.m(): the receiver is an object of class ci of vwCl -/
theorem x_callSU (C : CX g own cc nL A p s m args meth c) {y : MethodName} {bytes : ByteArray} {maxL index n mc ms : Nat} {ret : Option FieldType} {rm : Room} {b : Nat} {As rest stk : List Value} {w0 : va_W} {Qr : Option Value → va_W → Prop} (hM : Con g l y bytes maxL ret rm (.ref b :: As) w0 Qr mc ms) (hcb : xCS R own index y bytes maxL ret rm mc ms n)
    (recv : ∃ (q0 ci : Nat) (q : vw_C) (fs : List Value), vwCl[ci]? = some q ∧ w0[q0]? = some (b, .inr (ci, fs))) (wr : List va_W) (hperm : wss.flatten.Perm (w0 ++ wr.flatten)) (hn : As.length = n) (hstk : stk = As.reverse ++ .ref b :: rest) (hst : (rest.map fun v => v.category).sum ≤ 8) (hf : cells + mc ≤ R.cells ∧ slots + ms ≤ R.slots) (hd : decode cc pc = .ok (.invokespecial index, 3))
    (kk : ∀ (v : Option Value) (w1 : va_W), Qr v w1 → VW g A nL p l e R s m args below meth c (cells + mc) (slots + ms) Q (w1 :: wr) lv (pc + 3) (v.toList ++ rest)) : VW g A nL p l e R s m args below meth c cells slots Q wss lv pc stk := by
  intro H locs ls hP hD hS hl
  have hP := va_P_perm hperm hP
  have hD := va_D_perm hperm hD
  subst hstk
  obtain ⟨q0, ci, q, fs, h1, h3⟩ := recv
  exact x_after hP hD hS C.2.2.2.2.2.2.1 hl (va_runSU (nL := nL) (Ts := xTB) (C := q.1) (C.2.2.2.2.2.1.1.1.1 ci q h1).2 ⟨C.1, C.2.1, C.2.2.1, C.2.2.2.1, C.2.2.2.2.1⟩ (hM H.size) (xCS_of C hcb) ⟨xPc_blind, va_recv C.2.2.2.2.2.1.1.1 (va_P_left hP) h1 h3, x_pre C hP hD hS⟩ rfl hn hl.1 rfl (lv_room hst) hd hf) (fun v w1 hQ H1 locs1 hP1 hD1 hS1 => kk v w1 hQ H1 locs1 ls hP1 hD1 hS1 hl)
/-- a field of an object that stands outside the world -/
theorem x_getOF (C : CX g own cc nL A p s m args meth c) {o n d ref : String} {v : Value} {t index : Nat} (hF : va_OF o n d v t A s s.heap) (hlink : Cond.fieldLink own index ref n d ∈ xTB) (hsame : ∀ x, s.fieldFound? o n d = some x → s.fieldFound? ref n d = some x) (hd : decode cc pc = .ok (.getfield index, 3)) (kk : VW g A nL p l e R s m args below meth c cells slots Q wss lv (pc + 3) (v :: st)) : VW g A nL p l e R s m args below meth c cells slots Q wss lv pc (.ref t :: st) := by
  intro H locs ls hP hD hS hl
  obtain ⟨cf, k, fi, f, cell, h1, h2, h3, h4, h5, h6⟩ := hF.kept hS.2.1
  exact W.getf C.1 C.2.1 C.2.2.2.1 (C.2.2.2.2.1 _ hlink) (hsame _ h1) h2 h3 h4 h5 rfl rfl hd (kk H locs ls hP hD hS hl)
theorem CX_so (C : CX g own cc nL A p s m args meth c) {w : Nat} (hw : w < 39) : va_O "java/lang/String" (g.2.2 (300 + w)) A s s.heap ∧ va_OF "java/lang/String" "coder" "B" (.int 0) (g.2.2 (300 + w)) A s s.heap ∧ va_OF "java/lang/String" "value" "[B" (.ref (g.2.2 (400 + w))) (g.2.2 (300 + w)) A s s.heap := ⟨((C.2.2.2.2.2.1.1.2.2.2.2.2.2.1).1 w hw).1, ((C.2.2.2.2.2.1.1.2.2.2.2.2.2.1).1 w hw).2.1, ((C.2.2.2.2.2.1.1.2.2.2.2.2.2.1).1 w hw).2.2.1⟩
/-- a method of a String constant -/
theorem x_callVR (C : CX g own cc nL A p s m args meth c) {y : MethodName} {bytes : ByteArray} {maxL index n mc ms : Nat} {ret : Option FieldType} {rm : Room} {b : Nat} {As rest stk : List Value} {w0 : va_W} {Qr : Option Value → va_W → Prop} (hM : Con g l y bytes maxL ret rm (.ref b :: As) w0 Qr mc ms) (hcb : xCB R own index y bytes maxL ret rm mc ms n) (hin : Cond.instanceMethod y ∈ xTB) (hsel : Cond.selects y.cls y y ∈ xTB)
    (recv : va_O y.cls b A s s.heap) (wr : List va_W) (hperm : wss.flatten.Perm (w0 ++ wr.flatten)) (hn : As.length = n) (hstk : stk = As.reverse ++ .ref b :: rest) (hst : (rest.map fun v => v.category).sum ≤ 8) (hf : cells + mc ≤ R.cells ∧ slots + ms ≤ R.slots) (hd : decode cc pc = .ok (.invokevirtual index, 3))
    (kk : ∀ (v : Option Value) (w1 : va_W), Qr v w1 → VW g A nL p l e R s m args below meth c (cells + mc) (slots + ms) Q (w1 :: wr) lv (pc + 3) (v.toList ++ rest)) : VW g A nL p l e R s m args below meth c cells slots Q wss lv pc stk := by
  intro H locs ls hP hD hS hl
  have hP := va_P_perm hperm hP
  have hD := va_D_perm hperm hD
  subst hstk
  refine x_after hP hD hS C.2.2.2.2.2.2.1 hl (va_runV (nL := nL) (Ts := xTB) (C := y.cls) ⟨C.1, C.2.1, C.2.2.1, C.2.2.2.1, C.2.2.2.2.1⟩ (hM H.size) ⟨xCB_of C hcb, C.2.2.2.2.1 _ hin, C.2.2.2.2.1 _ hsel⟩ ⟨xPc_blind, ?_, x_pre C hP hD hS⟩ rfl hn hl.1 rfl (lv_room hst) hd hf) (fun v w1 hQ H1 locs1 hP1 hD1 hS1 => kk v w1 hQ H1 locs1 ls hP1 hD1 hS1 hl)
  obtain ⟨cell, h1, h2, h3, -⟩ := recv.kept hS.2.1
  exact ⟨cell, h1, h2, h3⟩
end XU
theorem wd_32 : Cond.initialized yJx29ce0_ordinal_8abf5.cls ∈ xTB := xTB_in 32 (by decide +kernel) (by decide +kernel)
theorem wd_602 : Cond.methodLink "CandleConcert" 359 ⟨"CandleConcert$Refusal", "ordinal", "()I"⟩ ∈ xTB := xTB_in 602 (by decide +kernel) (by decide +kernel)
theorem wd_603 : Cond.sameMethod "CandleConcert$Refusal" "java/lang/Enum" "ordinal" "()I" ∈ xTB := xTB_in 603 (by decide +kernel) (by decide +kernel)
theorem wd_605 : Cond.selects "CandleConcert$Refusal" ⟨"CandleConcert$Refusal", "ordinal", "()I"⟩ yJx29ce0_ordinal_8abf5 ∈ xTB := xTB_in 605 (by decide +kernel) (by decide +kernel)
theorem wd_606 : Cond.instanceMethod yJx29ce0_ordinal_8abf5 ∈ xTB := xTB_in 606 (by decide +kernel) (by decide +kernel)
theorem wd_607 : Cond.code yJx29ce0_ordinal_8abf5 cJx29ce0_ordinal_8abf5 1 (some .int) ∈ xTB := xTB_in 607 (by decide +kernel) (by decide +kernel)
theorem wd_1242 : Cond.methodLink "CandleConcert" 389 ⟨"CandleConcert$Kind", "ordinal", "()I"⟩ ∈ xTB := xTB_in 1242 (by decide +kernel) (by decide +kernel)
theorem wd_1243 : Cond.sameMethod "CandleConcert$Kind" "java/lang/Enum" "ordinal" "()I" ∈ xTB := xTB_in 1243 (by decide +kernel) (by decide +kernel)
theorem wd_1244 : Cond.selects "CandleConcert$Kind" ⟨"CandleConcert$Kind", "ordinal", "()I"⟩ yJx29ce0_ordinal_8abf5 ∈ xTB := xTB_in 1244 (by decide +kernel) (by decide +kernel)
theorem wd_1417 : Cond.fieldLink RJx29ce0 7 "java/lang/Enum" "ordinal" "I" ∈ xTB := xTB_in 1417 (by decide +kernel) (by decide +kernel)
theorem dJx29ce0_ordinal_8abf5_0 : decode cJx29ce0_ordinal_8abf5 0 = .ok (.aload_n 0, 1) := by decide +kernel
theorem dJx29ce0_ordinal_8abf5_1 : decode cJx29ce0_ordinal_8abf5 1 = .ok (.getfield 7, 3) := by decide +kernel
theorem dJx29ce0_ordinal_8abf5_4 : decode cJx29ce0_ordinal_8abf5 4 = .ok (.ireturn, 1) := by decide +kernel
theorem or_tabR : ∀ k, k < 11 → ((List.range 11).map Int32.ofNat).getD k 0 = Int32.ofNat k := by decide
theorem c_ordR (g : xG) (l : Launch) (k : Nat) (hk : k < 11) : ConD g l yJx29ce0_ordinal_8abf5 cJx29ce0_ordinal_8abf5 1 (some .int) ({ frames := 0, cells := 0, slots := 0, locals := 0 } : Room) [.ref (g.2.2 (100 + k))] [] (some (.int (Int32.ofNat k))) [] := by
  refine Con_of [] [(0, .ref (g.2.2 (100 + k)))] rfl rfl (by decide) (Nat.le_of_ble_eq_true rfl) ?_
  intro pW eW sW mW argsW belowW methW c9 C hnm hr
  have C : CX g RJx29ce0 cJx29ce0_ordinal_8abf5 1 _ pW sW mW argsW methW c9 := C
  refine x_aload_n C dJx29ce0_ordinal_8abf5_0 rfl 0 rfl ?_
  intro H locs ls hP hD hS hl
  have hE := C.2.2.2.2.2.1.1.2.2.2.2.1
  refine va_getE (q := ("java/lang/Enum", "ordinal", "I", (List.range 11).map Int32.ofNat)) C.1 C.2.1 hE (i := k) hk hS C.2.2.2.1 (by simp [xF]) (C.2.2.2.2.1 _ wd_1417) (fun _ h => h) dJx29ce0_ordinal_8abf5_1 ?_
  refine (?_ : VW g _ 1 pW l eW _ sW mW argsW belowW methW c9 0 0 _ [] [(0, .ref (g.2.2 (100 + k)))] 4 [.int (((List.range 11).map Int32.ofNat).getD k 0)]) H locs ls hP hD hS hl
  rw [or_tabR k hk]
  exact x_iret C hr ⟨rfl, rfl⟩ dJx29ce0_ordinal_8abf5_4
theorem or_tabK : ∀ k, k < 8 → ((List.range 8).map Int32.ofNat).getD k 0 = Int32.ofNat k := by decide
theorem c_ordK (g : xG) (l : Launch) (k : Nat) (hk : k < 8) : ConD g l yJx29ce0_ordinal_8abf5 cJx29ce0_ordinal_8abf5 1 (some .int) ({ frames := 0, cells := 0, slots := 0, locals := 0 } : Room) [.ref (g.2.2 (200 + k))] [] (some (.int (Int32.ofNat k))) [] := by
  refine Con_of [] [(0, .ref (g.2.2 (200 + k)))] rfl rfl (by decide) (Nat.le_of_ble_eq_true rfl) ?_
  intro pW eW sW mW argsW belowW methW c9 C hnm hr
  have C : CX g RJx29ce0 cJx29ce0_ordinal_8abf5 1 _ pW sW mW argsW methW c9 := C
  refine x_aload_n C dJx29ce0_ordinal_8abf5_0 rfl 0 rfl ?_
  intro H locs ls hP hD hS hl
  have hE := C.2.2.2.2.2.1.1.2.2.2.2.2.1
  refine va_getE (q := ("java/lang/Enum", "ordinal", "I", (List.range 8).map Int32.ofNat)) C.1 C.2.1 hE (i := k) hk hS C.2.2.2.1 (by simp [xF]) (C.2.2.2.2.1 _ wd_1417) (fun _ h => h) dJx29ce0_ordinal_8abf5_1 ?_
  refine (?_ : VW g _ 1 pW l eW _ sW mW argsW belowW methW c9 0 0 _ [] [(0, .ref (g.2.2 (200 + k)))] 4 [.int (((List.range 8).map Int32.ofNat).getD k 0)]) H locs ls hP hD hS hl
  rw [or_tabK k hk]
  exact x_iret C hr ⟨rfl, rfl⟩ dJx29ce0_ordinal_8abf5_4
theorem x_ordR {p : Program} {l : Launch} {e : Env} {R : Room} {s : State} {m : MethodId} {args : Array Value} {below : List Frame} {meth : Method} {c : Code} {cells slots : Nat} {Q : State → Prop} {g : xG} {A : Nat → Prop} {nL : Nat} {cc : ByteArray} {wss : List va_W} {lv : List (Nat × Value)} {pc : Nat} {st : List Value} (C : CX g "CandleConcert" cc nL A p s m args meth c) {k : Nat} (hk : k < 11) (hR : 1 ≤ R.frames ∧ 20 ≤ R.locals ∧ cells ≤ R.cells ∧ slots ≤ R.slots) (hst : (st.map fun v => v.category).sum ≤ 8) (hd : decode cc pc = .ok (.invokevirtual 359, 3)) (kk : VW g A nL p l e R s m args below meth c cells slots Q wss lv (pc + 3) (.int (Int32.ofNat k) :: st)) : VW g A nL p l e R s m args below meth c cells slots Q wss lv pc (.ref (g.2.2 (100 + k)) :: st) := by
  refine x_callU (x := ⟨"CandleConcert$Refusal", "ordinal", "()I"⟩) (n := 0) (As := []) (rest := st) (Cn := "CandleConcert$Refusal") (owner := "java/lang/Enum") C (c_ordR g l k hk) ⟨⟨wd_607, wd_602, wd_603, wd_605, wd_606, wd_32⟩, rfl, ⟨by decide, by decide, by decide⟩, rfl, rfl, hR.1, hR.2.1⟩ (fun H locs hP hS => va_recvE (ad := fun i => g.2.2 (100 + i)) (i := k) (C.2.2.2.2.2.1.1.2.2.2.2.1) hk hS) wss (by simp) rfl rfl hst ⟨hR.2.2.1, hR.2.2.2⟩ hd ?_
  rintro v w1 ⟨rfl, rfl⟩
  exact x_same (by simp) kk
theorem x_ordK {p : Program} {l : Launch} {e : Env} {R : Room} {s : State} {m : MethodId} {args : Array Value} {below : List Frame} {meth : Method} {c : Code} {cells slots : Nat} {Q : State → Prop} {g : xG} {A : Nat → Prop} {nL : Nat} {cc : ByteArray} {wss : List va_W} {lv : List (Nat × Value)} {pc : Nat} {st : List Value} (C : CX g "CandleConcert" cc nL A p s m args meth c) {k : Nat} (hk : k < 8) (hR : 1 ≤ R.frames ∧ 20 ≤ R.locals ∧ cells ≤ R.cells ∧ slots ≤ R.slots) (hst : (st.map fun v => v.category).sum ≤ 8) (hd : decode cc pc = .ok (.invokevirtual 389, 3)) (kk : VW g A nL p l e R s m args below meth c cells slots Q wss lv (pc + 3) (.int (Int32.ofNat k) :: st)) : VW g A nL p l e R s m args below meth c cells slots Q wss lv pc (.ref (g.2.2 (200 + k)) :: st) := by
  refine x_callU (x := ⟨"CandleConcert$Kind", "ordinal", "()I"⟩) (n := 0) (As := []) (rest := st) (Cn := "CandleConcert$Kind") (owner := "java/lang/Enum") C (c_ordK g l k hk) ⟨⟨wd_607, wd_1242, wd_1243, wd_1244, wd_606, wd_32⟩, rfl, ⟨by decide, by decide, by decide⟩, rfl, rfl, hR.1, hR.2.1⟩ (fun H locs hP hS => va_recvE (ad := fun i => g.2.2 (200 + i)) (i := k) (C.2.2.2.2.2.1.1.2.2.2.2.2.1) hk hS) wss (by simp) rfl rfl hst ⟨hR.2.2.1, hR.2.2.2⟩ hd ?_
  rintro v w1 ⟨rfl, rfl⟩
  exact x_same (by simp) kk
