/-! CONTRACTS OVER PICTURES, returns and calls -/
/-- picks by places: a permutation of the blobs -/
theorem x_pick {wss ws2 : List va_W} (is : List Nat) (n : Nat) (hn : wss.length = n) (hp : is.isPerm (List.range n) = true) (hs : is.map (fun i => wss[i]?) = ws2.map some) : wss.flatten.Perm ws2.flatten := by
  subst hn
  have h1 := List.isPerm_iff.mp hp
  have h2 : (List.range wss.length).map (fun i => wss[i]?) = wss.map some := by
    apply List.ext_getElem?
    intro i
    rw [List.getElem?_map, List.getElem?_map]
    by_cases hi : i < wss.length
    · rw [List.getElem?_range hi, List.getElem?_eq_getElem hi]
      simp [hi]
    · rw [List.getElem?_eq_none (by simpa using hi), List.getElem?_eq_none (Nat.not_lt.mp hi)]
      rfl
  have h3 : (ws2.map some).Perm (wss.map some) := by
    rw [← hs, ← h2]
    exact h1.map _
  have h4 := h3.filterMap id
  rw [List.filterMap_map, List.filterMap_map] at h4
  have h5 : ∀ l : List va_W, l.filterMap (id ∘ some) = l := fun l => by simp
  rw [h5, h5] at h4
  exact h4.symm.flatten
/-- what a method needs at its start, and what it leaves -/
def xPc (g : xG) (av : List Value) (w0 : va_W) (sz : Nat) : Array Value → State → Prop := va_Pc av (fun U => U.heap.size = sz ∧ va_P g.1 vwCl w0 U.heap ∧ va_D (fun _ => True) w0 ∧ GE g (va_A w0 sz) U U.heap)
def xQc (g : xG) (w0 : va_W) (sz : Nat) (Qr : Option Value → va_W → Prop) : Array Value → State → Outcome → State → Prop := fun _ st oc t => (∃ (v : Option Value) (w1 : va_W), oc = .returned v ∧ Qr v w1 ∧ va_P g.1 vwCl w1 t.heap ∧ va_D (va_A w0 sz) w1) ∧ va_F (va_A w0 sz) st t
def Con (g : xG) (l : Launch) (y : MethodName) (cc : ByteArray) (maxL : Nat) (ret : Option FieldType) (rm : Room) (av : List Value) (w0 : va_W) (Qr : Option Value → va_W → Prop) (mc ms : Nat) : Prop :=
  ∀ sz : Nat, Met l y (Cond.code y cc maxL ret :: xTB) rm (xPc g av w0 sz) (xQc g w0 sz Qr) mc ms (va_A w0 sz)
/-- a method without new cells, of one answer -/
abbrev ConD (g : xG) (l : Launch) (y : MethodName) (cc : ByteArray) (maxL : Nat) (ret : Option FieldType) (rm : Room) (av : List Value) (w0 : List va_W) (rv : Option Value) (w1 : List va_W) : Prop :=
  Con g l y cc maxL ret rm av w0.flatten (fun v w => v = rv ∧ w = w1.flatten) 0 0
theorem xPc_blind {g : xG} {av : List Value} {w0 : va_W} {sz : Nat} : FrameBlind (xPc g av w0 sz) := fun a U g9 mk q => by
  obtain ⟨q0, q1, qP, qD, qG⟩ := q
  exact ⟨q0, q1, qP, qD, GE_vm (u := U) (U := U.calling g9 mk a) rfl qG⟩
section XC
variable {p : Program} {l : Launch} {e : Env} {R : Room} {s : State} {m : MethodId} {args : Array Value} {below : List Frame} {meth : Method} {c : Code} {cells slots : Nat} {Q : State → Prop}
variable {g : xG} {A : Nat → Prop} {nL : Nat} {cc : ByteArray} {own : String} {wss wss' : List va_W} {lv lv' : List (Nat × Value)} {pc : Nat} {st : List Value}
theorem Con_of {y : MethodName} {maxL : Nat} {ret : Option FieldType} {rm : Room} {av : List Value} {w0 : va_W} {Qr : Option Value → va_W → Prop} {mc ms : Nat} (w0s : List va_W) (lv0 : List (Nat × Value)) (hw0 : w0s.flatten = w0) (hlv : lv_args 0 av = lv0) (hy : plainName y.cls = true) (hlen : (lg_sl av).length ≤ maxL)
    (body : ∀ (p : Program) (e : Env) (s : State) (m : MethodId) (args : Array Value) (below : List Frame) (meth : Method) (c : Code), CX g y.cls cc maxL (va_A w0 s.heap.size) p s m args meth c → meth.name = y.name → meth.sig.returnType = ret →
      VW g (va_A w0 s.heap.size) maxL p l e rm s m args below meth c 0 0 (MQ below (xQc g w0 s.heap.size Qr) args s mc ms (va_A w0 s.heap.size)) w0s lv0 0 []) : Con g l y cc maxL ret rm av w0 Qr mc ms := by
  intro sz
  subst hw0
  subst hlv
  refine Met.ofW (cc := cc) (maxL := maxL) (ret := ret) hy rfl ?_
  intro p e s m args below meth c s₁ B hml hv
  obtain ⟨rfl, hsz, hP, hD0, hG⟩ := hv
  subst hsz
  have hts := atoms_spec (ws := Cond.code y cc maxL ret :: xTB) B.pre
  have hl := lv_entry av (n := maxL) hlen
  rw [lg_entry_eq]
  exact body p e s m _ below meth c ⟨B.exec, B.bytes, hml, findClass_of_methodNamed B.named, fun w hw => hts w (List.mem_cons_of_mem _ hw), hG, fun q hq => Or.inr hq, B.notSynchronized⟩ (name_of_methodNamed B.named B.method).1 B.returns s.heap [] _ hP hD0.self va_S.rf hl
/-- the ends -/
theorem x_iret {w0 : va_W} {Qr : Option Value → va_W → Prop} (C : CX g own cc nL (va_A w0 s.heap.size) p s m args meth c) (hr : meth.sig.returnType = some .int) {v : Int32} (hq : Qr (some (.int v)) wss.flatten) (hd : decode cc pc = .ok (.ireturn, 1)) :
    VW g (va_A w0 s.heap.size) nL p l e R s m args below meth c cells slots (MQ below (xQc g w0 s.heap.size Qr) args s cells slots (va_A w0 s.heap.size)) wss lv pc [.int v] := fun H locs ls hP hD hS hl =>
  W.iret C.1 C.2.1 hr (fun t ht hW => ⟨⟨_, _, rfl, hq, by rw [ht]; exact hP, hD⟩, hS.F ht⟩) hS.2.2 hd C.2.2.2.2.2.2.2
theorem x_zret {w0 : va_W} {Qr : Option Value → va_W → Prop} (C : CX g own cc nL (va_A w0 s.heap.size) p s m args meth c) {ty : FieldType} (hr : meth.sig.returnType = some ty) {v : Int32} (hn : narrow ty (.int v) = .int v) (hq : Qr (some (.int v)) wss.flatten) (hd : decode cc pc = .ok (.ireturn, 1)) :
    VW g (va_A w0 s.heap.size) nL p l e R s m args below meth c cells slots (MQ below (xQc g w0 s.heap.size Qr) args s cells slots (va_A w0 s.heap.size)) wss lv pc [.int v] := fun H locs ls hP hD hS hl =>
  W.zret C.1 C.2.1 hr hn (fun t ht hW => ⟨⟨_, _, rfl, hq, by rw [ht]; exact hP, hD⟩, hS.F ht⟩) hS.2.2 hd C.2.2.2.2.2.2.2
theorem x_lret {w0 : va_W} {Qr : Option Value → va_W → Prop} (C : CX g own cc nL (va_A w0 s.heap.size) p s m args meth c) (hr : meth.sig.returnType = some .long) {v : Int64} (hq : Qr (some (.long v)) wss.flatten) (hd : decode cc pc = .ok (.lreturn, 1)) :
    VW g (va_A w0 s.heap.size) nL p l e R s m args below meth c cells slots (MQ below (xQc g w0 s.heap.size Qr) args s cells slots (va_A w0 s.heap.size)) wss lv pc [.long v] := fun H locs ls hP hD hS hl =>
  W.lret C.1 C.2.1 hr (fun t ht hW => ⟨⟨_, _, rfl, hq, by rw [ht]; exact hP, hD⟩, hS.F ht⟩) hS.2.2 hd C.2.2.2.2.2.2.2
theorem x_dret {w0 : va_W} {Qr : Option Value → va_W → Prop} (C : CX g own cc nL (va_A w0 s.heap.size) p s m args meth c) (hr : meth.sig.returnType = some .double) {v : UInt64} (hq : Qr (some (.double v)) wss.flatten) (hd : decode cc pc = .ok (.dreturn, 1)) :
    VW g (va_A w0 s.heap.size) nL p l e R s m args below meth c cells slots (MQ below (xQc g w0 s.heap.size Qr) args s cells slots (va_A w0 s.heap.size)) wss lv pc [.double v] := fun H locs ls hP hD hS hl =>
  W.dret C.1 C.2.1 hr (fun t ht hW => ⟨⟨_, _, rfl, hq, by rw [ht]; exact hP, hD⟩, hS.F ht⟩) hS.2.2 hd C.2.2.2.2.2.2.2
theorem x_fret {w0 : va_W} {Qr : Option Value → va_W → Prop} (C : CX g own cc nL (va_A w0 s.heap.size) p s m args meth c) (hr : meth.sig.returnType = some .float) {v : UInt32} (hq : Qr (some (.float v)) wss.flatten) (hd : decode cc pc = .ok (.freturn, 1)) :
    VW g (va_A w0 s.heap.size) nL p l e R s m args below meth c cells slots (MQ below (xQc g w0 s.heap.size Qr) args s cells slots (va_A w0 s.heap.size)) wss lv pc [.float v] := fun H locs ls hP hD hS hl =>
  W.fret C.1 C.2.1 hr (fun t ht hW => ⟨⟨_, _, rfl, hq, by rw [ht]; exact hP, hD⟩, hS.F ht⟩) hS.2.2 hd C.2.2.2.2.2.2.2
theorem x_vret {w0 : va_W} {Qr : Option Value → va_W → Prop} (C : CX g own cc nL (va_A w0 s.heap.size) p s m args meth c) (hr : meth.sig.returnType = none) (hq : Qr none wss.flatten) (hd : decode cc pc = .ok (.return_, 1)) :
    VW g (va_A w0 s.heap.size) nL p l e R s m args below meth c cells slots (MQ below (xQc g w0 s.heap.size Qr) args s cells slots (va_A w0 s.heap.size)) wss lv pc [] := fun H locs ls hP hD hS hl =>
  W.vret C.1 C.2.1 hr (fun t ht hW => ⟨⟨_, _, rfl, hq, by rw [ht]; exact hP, hD⟩, hS.F ht⟩) hS.2.2 hd C.2.2.2.2.2.2.2
theorem x_aret {w0 : va_W} {Qr : Option Value → va_W → Prop} (C : CX g own cc nL (va_A w0 s.heap.size) p s m args meth c) {rt : FieldType} (hr : meth.sig.returnType = some rt) (hrt : (∃ n, rt = .object n) ∨ ∃ t, rt = .array t) {a : Nat} (hq : Qr (some (.ref a)) wss.flatten) (hd : decode cc pc = .ok (.areturn, 1)) :
    VW g (va_A w0 s.heap.size) nL p l e R s m args below meth c cells slots (MQ below (xQc g w0 s.heap.size Qr) args s cells slots (va_A w0 s.heap.size)) wss lv pc [.ref a] := fun H locs ls hP hD hS hl =>
  W.aret C.1 C.2.1 hr hrt (Or.inr ⟨a, rfl⟩) (fun t ht hW => ⟨⟨_, _, rfl, hq, by rw [ht]; exact hP, hD⟩, hS.F ht⟩) hS.2.2 hd C.2.2.2.2.2.2.2
/-- what a call's words are, for every kind of call -/
def xCB (R : Room) (own : String) (index : Nat) (y : MethodName) (bytes : ByteArray) (maxL : Nat) (ret : Option FieldType) (rm : Room) (mc ms n : Nat) : Prop :=
  (Cond.code y bytes maxL ret ∈ xTB ∧ Cond.methodLink own index y ∈ xTB ∧ Cond.initialized y.cls ∈ xTB) ∧ (y.cls ≠ "java/lang/invoke/MethodHandle" ∧ y.cls ≠ "java/lang/invoke/VarHandle" ∧ (parseMethodDescriptor y.desc).map (fun d => d.parameters.length) = some n) ∧ rm.cells = mc ∧ rm.slots = ms ∧ rm.frames + 1 ≤ R.frames ∧ 8 + (maxL + 11) + rm.locals ≤ R.locals
theorem xCB_of {index : Nat} {y : MethodName} {bytes : ByteArray} {maxL : Nat} {ret : Option FieldType} {rm : Room} {mc ms n : Nat} (C : CX g own cc nL A p s m args meth c) (h : xCB R own index y bytes maxL ret rm mc ms n) : CallB R s args own index y bytes maxL ret (Cond.code y bytes maxL ret :: xTB) rm mc ms n :=
  callB_of n C.2.2.2.2.1 (xTB_G (List.forall_mem_cons.mpr ⟨h.1.1, fun _ h => h⟩)) rfl h.2.2.1 h.2.2.2.1 (C.2.2.2.2.1 _ h.1.2.2) (C.2.2.2.2.1 _ h.1.2.1) h.2.1 h.2.2.2.2
/-- behind any run of a callee -/
theorem x_after {H : Heap} {locs : List Loc} {ls : Array Slot} {stk rest : List Value} {w0 wr : va_W} {av : Array Value} {Qr : Option Value → va_W → Prop} {mc ms : Nat} (hP : va_P g.1 vwCl (w0 ++ wr) H) (hD : va_D A (w0 ++ wr)) (hS : va_S A s.heap H locs) (hA : ∀ q, s.heap.size ≤ q → A q) (hl : lv_has ls nL lv)
    (run : va_Run p l e R s m args below meth c H locs cells slots mc ms (F0 m pc ls stk) rest (xQc g w0 H.size Qr av) (va_A w0 H.size))
    (kk : ∀ (v : Option Value) (w1 : va_W), Qr v w1 → ∀ (H1 : Heap) (locs1 : List Loc), va_P g.1 vwCl (w1 ++ wr) H1 → va_D A (w1 ++ wr) → va_S A s.heap H1 locs1 → W p l e R s m args below meth c H1 locs1 (cells + mc) (slots + ms) Q (F0 m (pc + 3) ls (v.toList ++ rest))) :
    W p l e R s m args below meth c H locs cells slots Q (F0 m pc ls stk) := by
  have hF := x_freeA hD hS hA
  intro T hT X
  obtain ⟨v, st₀, t, T', L, h0, X', hL, e1, e2, ⟨⟨v', w1, hv, hQ, hP1, hD1⟩, hz, hk⟩, stp⟩ := run T hT X
  cases hv
  rw [h0] at hz hk
  obtain ⟨hPj, hDj⟩ := x_join hP hD (H1 := t.heap) hk hF hP1 hD1
  obtain ⟨t2, a1, b1⟩ := kk v w1 hQ T'.heap (locs ++ L) (by rw [e1]; exact hPj) hDj
    ⟨Nat.le_trans hS.1 (by rw [e1]; exact hz), fun q h1 h2 => by rw [e1, hk q (Nat.lt_of_lt_of_le h1 hS.1) (fun z => h2 (hF q z))]; exact hS.2.1 q h1 h2, fun q hq => by
      rcases List.mem_append.mp hq with h | h
      · exact hS.2.2 q h
      · exact hF _ (hL q h)⟩ T' rfl X'
  exact ⟨t2, stp t2 a1, b1⟩
/-- the callee's start holds -/
theorem x_pre {H : Heap} {locs : List Loc} {w0 wr : va_W} {av : List Value} (C : CX g own cc nL A p s m args meth c) (hP : va_P g.1 vwCl (w0 ++ wr) H) (hD : va_D A (w0 ++ wr)) (hS : va_S A s.heap H locs) : ∀ U : State, U.heap = H → s.WarmedH U.vm → xPc g av w0 H.size av.toArray U := by
  intro U hU hW
  subst hU
  exact ⟨rfl, rfl, va_P_left hP, (va_D_left hD).weaken (fun _ _ _ _ => trivial), GE_warm hW (GE_narrow (x_freeA hD hS C.2.2.2.2.2.2.1) (GE_kept hS.2.1 C.2.2.2.2.2.1))⟩
theorem x_callV (C : CX g own cc nL A p s m args meth c) {y : MethodName} {bytes : ByteArray} {maxL index n mc ms : Nat} {ret : Option FieldType} {rm : Room} {b : Nat} {As rest stk : List Value} {w0 : va_W} {Qr : Option Value → va_W → Prop} (hM : Con g l y bytes maxL ret rm (.ref b :: As) w0 Qr mc ms) (hcb : xCB R own index y bytes maxL ret rm mc ms n) (hin : Cond.instanceMethod y ∈ xTB) (hsel : Cond.selects y.cls y y ∈ xTB)
    (recv : ∃ (q0 ci : Nat) (q : vw_C) (fs : List Value), vwCl[ci]? = some q ∧ q.1 = y.cls ∧ w0[q0]? = some (b, .inr (ci, fs))) (wr : List va_W) (hperm : wss.flatten.Perm (w0 ++ wr.flatten)) (hn : As.length = n) (hstk : stk = As.reverse ++ .ref b :: rest) (hst : (rest.map fun v => v.category).sum ≤ 8) (hf : cells + mc ≤ R.cells ∧ slots + ms ≤ R.slots) (hd : decode cc pc = .ok (.invokevirtual index, 3))
    (kk : ∀ (v : Option Value) (w1 : va_W), Qr v w1 → VW g A nL p l e R s m args below meth c (cells + mc) (slots + ms) Q (w1 :: wr) lv (pc + 3) (v.toList ++ rest)) : VW g A nL p l e R s m args below meth c cells slots Q wss lv pc stk := by
  intro H locs ls hP hD hS hl
  have hP := va_P_perm hperm hP
  have hD := va_D_perm hperm hD
  subst hstk
  refine x_after hP hD hS C.2.2.2.2.2.2.1 hl (va_runV (nL := nL) (Ts := xTB) (C := y.cls) ⟨C.1, C.2.1, C.2.2.1, C.2.2.2.1, C.2.2.2.2.1⟩ (hM H.size) ⟨xCB_of C hcb, C.2.2.2.2.1 _ hin, C.2.2.2.2.1 _ hsel⟩ ⟨xPc_blind, ?_, x_pre C hP hD hS⟩ rfl hn hl.1 rfl (lv_room hst) hd hf) (fun v w1 hQ H1 locs1 hP1 hD1 hS1 => kk v w1 hQ H1 locs1 ls hP1 hD1 hS1 hl)
  obtain ⟨q0, ci, q, fs, h1, h2, h3⟩ := recv
  rw [← h2]
  exact va_recv C.2.2.2.2.2.1.1.1 (va_P_left hP) h1 h3
theorem x_callS (C : CX g own cc nL A p s m args meth c) {y : MethodName} {bytes : ByteArray} {maxL index n mc ms : Nat} {ret : Option FieldType} {rm : Room} {As rest stk : List Value} {w0 : va_W} {Qr : Option Value → va_W → Prop} (hM : Con g l y bytes maxL ret rm As w0 Qr mc ms) (hcb : xCB R own index y bytes maxL ret rm mc ms n) (hin : Cond.static y ∈ xTB)
    (wr : List va_W) (hperm : wss.flatten.Perm (w0 ++ wr.flatten)) (hn : As.length = n) (hstk : stk = As.reverse ++ rest) (hst : (rest.map fun v => v.category).sum ≤ 8) (hf : cells + mc ≤ R.cells ∧ slots + ms ≤ R.slots) (hd : decode cc pc = .ok (.invokestatic index, 3))
    (kk : ∀ (v : Option Value) (w1 : va_W), Qr v w1 → VW g A nL p l e R s m args below meth c (cells + mc) (slots + ms) Q (w1 :: wr) lv (pc + 3) (v.toList ++ rest)) : VW g A nL p l e R s m args below meth c cells slots Q wss lv pc stk := by
  intro H locs ls hP hD hS hl
  have hP := va_P_perm hperm hP
  have hD := va_D_perm hperm hD
  subst hstk
  exact x_after hP hD hS C.2.2.2.2.2.2.1 hl (va_runS (nL := nL) (Ts := xTB) ⟨C.1, C.2.1, C.2.2.1, C.2.2.2.1, C.2.2.2.2.1⟩ (hM H.size) ⟨xCB_of C hcb, C.2.2.2.2.1 _ hin⟩ ⟨xPc_blind, x_pre C hP hD hS⟩ rfl hn hl.1 rfl (lv_room hst) hd hf) (fun v w1 hQ H1 locs1 hP1 hD1 hS1 => kk v w1 hQ H1 locs1 ls hP1 hD1 hS1 hl)
theorem x_callI (C : CX g own cc nL A p s m args meth c) {y : MethodName} {bytes : ByteArray} {maxL index n mc ms : Nat} {rm : Room} {b : Nat} {As rest stk : List Value} {w0 : va_W} {Qr : Option Value → va_W → Prop} (hM : Con g l y bytes maxL none rm (.ref b :: As) w0 Qr mc ms) (hcb : xCB R own index y bytes maxL none rm mc ms n) (hin : Cond.instanceMethod y ∈ xTB) (hy : y.name = "<init>")
    (wr : List va_W) (hperm : wss.flatten.Perm (w0 ++ wr.flatten)) (hn : As.length = n) (hstk : stk = As.reverse ++ .ref b :: rest) (hst : (rest.map fun v => v.category).sum ≤ 8) (hf : cells + mc ≤ R.cells ∧ slots + ms ≤ R.slots) (hd : decode cc pc = .ok (.invokespecial index, 3))
    (kk : ∀ (v : Option Value) (w1 : va_W), Qr v w1 → VW g A nL p l e R s m args below meth c (cells + mc) (slots + ms) Q (w1 :: wr) lv (pc + 3) (v.toList ++ rest)) : VW g A nL p l e R s m args below meth c cells slots Q wss lv pc stk := by
  intro H locs ls hP hD hS hl
  have hP := va_P_perm hperm hP
  have hD := va_D_perm hperm hD
  subst hstk
  exact x_after hP hD hS C.2.2.2.2.2.2.1 hl (va_runI (nL := nL) (Ts := xTB) ⟨C.1, C.2.1, C.2.2.1, C.2.2.2.1, C.2.2.2.2.1⟩ (hM H.size) ⟨xCB_of C hcb, hy, C.2.2.2.2.1 _ hin⟩ ⟨xPc_blind, x_pre C hP hD hS⟩ rfl hn hl.1 rfl (lv_room hst) hd hf) (fun v w1 hQ H1 locs1 hP1 hD1 hS1 => kk v w1 hQ H1 locs1 ls hP1 hD1 hS1 hl)
/-- calls of methods without new cells, of one answer: the world goes on in blobs -/
theorem x_goD {w1s wr wss2 : List va_W} {rv : Option Value} {rest stk2 : List Value} {pc' : Nat} (hw : w1s ++ wr = wss2) (hs : rv.toList ++ rest = stk2) (kk : VW g A nL p l e R s m args below meth c cells slots Q wss2 lv pc' stk2) : ∀ (v : Option Value) (w1 : va_W), (v = rv ∧ w1 = w1s.flatten) → VW g A nL p l e R s m args below meth c (cells + 0) (slots + 0) Q (w1 :: wr) lv pc' (v.toList ++ rest) := by
  rintro v w1 ⟨rfl, rfl⟩
  subst hw
  subst hs
  exact x_same (by rw [List.flatten_cons, List.flatten_append]) kk
/-- a boolean, a char that may stand in a field or be an answer -/
theorem x_narZ {x : Int32} (h : x = 0 ∨ x = 1) : narrow .boolean (.int x) = .int x ∧ fits .boolean (.int x) = true := by
  rcases h with rfl | rfl <;> exact ⟨rfl, rfl⟩
theorem x_narC {x : Int32} (h : ¬ x < 0 ∧ x ≤ 65535) : narrow .char (.int x) = .int x ∧ fits .char (.int x) = true := by
  obtain ⟨j, hj, rfl⟩ := nI_of2 (M := 65535) (n := 65535) (by decide) h.1 h.2
  exact pk_charN (by omega)
theorem x_y {α : Type} {c : Prop} [Decidable c] {b : Option α} {r : α} (h : (if c then b else none) = some r) : c ∧ b = some r := by
  by_cases hc : c
  · rw [if_pos hc] at h; exact ⟨hc, h⟩
  · rw [if_neg hc] at h; cases h
theorem x_pickD {w0s wr : List va_W} (is : List Nat) (n : Nat) (hn : wss.length = n) (hp : is.isPerm (List.range n) = true) (hs : is.map (fun i => wss[i]?) = (w0s ++ wr).map some) : wss.flatten.Perm (w0s.flatten ++ wr.flatten) := by
  rw [← List.flatten_append]
  exact x_pick is n hn hp hs
theorem x_min (C : CX g own cc nL A p s m args meth c) {index : Nat} {x y : Int32} {rest : List Value} (hlink : Cond.methodLink own index Lib.Math.min.name ∈ xTB) (hstat : Cond.static Lib.Math.min.name ∈ xTB) (hini : Cond.initialized "java/lang/Math" ∈ xTB) (hcode : Cond.code Lib.Math.min.name Lib.Math.min.code 2 (some .int) ∈ xTB) (hR : 1 ≤ R.frames ∧ (rest.map fun v => v.category).sum + 13 ≤ R.locals) (hf : cells ≤ R.cells ∧ slots ≤ R.slots) (hd : decode cc pc = .ok (.invokestatic index, 3)) (kk : VW g A nL p l e R s m args below meth c cells slots Q wss lv (pc + 3) (.int (jmin x y) :: rest)) : VW g A nL p l e R s m args below meth c cells slots Q wss lv pc (.int y :: .int x :: rest) :=
  fun H locs ls hP hD hS hl => va_mmin C.1 C.2.1 (C.2.2.1.trans hl.1.symm) C.2.2.2.1 (C.2.2.2.2.1 _ hlink) (C.2.2.2.2.1 _ hstat) (C.2.2.2.2.1 _ hini) (C.2.2.2.2.1 _ hcode) hR.1 hR.2 hf.1 hf.2 hd (kk H locs ls hP hD hS hl)
end XC
section XD
variable {p : Program} {l : Launch} {e : Env} {R : Room} {s : State} {m : MethodId} {args : Array Value} {below : List Frame} {meth : Method} {c : Code} {cells slots : Nat} {Q : State → Prop}
variable {g : xG} {A : Nat → Prop} {nL : Nat} {cc : ByteArray} {own : String} {wss wss' : List va_W} {lv lv' : List (Nat × Value)} {pc : Nat} {st : List Value}
/-- what is known of statics, read off CX -/
theorem CX_enR (C : CX g own cc nL A p s m args meth c) (k : Nat) (hk : k < 11) : va_Z "CandleConcert$Refusal" (nmR.getD k "") "LCandleConcert$Refusal;" (.ref (g.2.2 (100 + k))) A s s.heap := (C.2.2.2.2.2.1.1.2.2.2.2.1.1 k hk).1
theorem CX_enK (C : CX g own cc nL A p s m args meth c) (k : Nat) (hk : k < 8) : va_Z "CandleConcert$Kind" (nmK.getD k "") "LCandleConcert$Kind;" (.ref (g.2.2 (200 + k))) A s s.heap := (C.2.2.2.2.2.1.1.2.2.2.2.2.1.1 k hk).1
theorem CX_vo (C : CX g own cc nL A p s m args meth c) : va_Z "CandleConcert" "VOICES" "[C" (.ref (g.2.2 0)) A s s.heap := C.2.2.2.2.2.1.1.2.1.1
theorem CX_smR (C : CX g own cc nL A p s m args meth c) : va_Z "CandleConcert$1" "$SwitchMap$CandleConcert$Refusal" "[I" (.ref (g.2.2 1)) A s s.heap := C.2.2.2.2.2.1.1.2.2.1.1
theorem CX_smK (C : CX g own cc nL A p s m args meth c) : va_Z "CandleConcert$1" "$SwitchMap$CandleConcert$Kind" "[I" (.ref (g.2.2 2)) A s s.heap := C.2.2.2.2.2.1.1.2.2.2.1.1
theorem CX_cs (C : CX g own cc nL A p s m args meth c) : va_Z "java/lang/String" "COMPACT_STRINGS" "Z" (.int 1) A s s.heap := C.2.2.2.2.2.1.1.2.2.2.2.2.2.2.2.1
theorem CX_dt (C : CX g own cc nL A p s m args meth c) : va_Z "java/lang/Integer" "DigitTens" "[B" (.ref (g.2.2 3)) A s s.heap := C.2.2.2.2.2.1.1.2.2.2.2.2.2.2.2.2.1.1
theorem CX_do (C : CX g own cc nL A p s m args meth c) : va_Z "java/lang/Integer" "DigitOnes" "[B" (.ref (g.2.2 4)) A s s.heap := C.2.2.2.2.2.1.1.2.2.2.2.2.2.2.2.2.2.1
theorem CX_str (C : CX g own cc nL A p s m args meth c) (q : String × Nat × String × Nat) (hq : q ∈ stRef) : vk_R q.1 q.2.1 q.2.2.1 (g.2.2 (300 + q.2.2.2)) s := C.2.2.2.2.2.1.1.2.2.2.2.2.2.2.1 q hq
theorem CX_fm (C : CX g own cc nL A p s m args meth c) : va_Z "jdk/internal/util/Preconditions" "SIOOBE_FORMATTER" "Ljava/util/function/BiFunction;" (va_rf (xfm g)) A s s.heap := C.2.2.2.2.2.1.2.2.2.1
theorem CX_apR (C : CX g own cc nL A p s m args meth c) {i j : Nat} (hi : i < 11) (hj : j < 11) : g.2.2 (100 + i) = g.2.2 (100 + j) ↔ i = j := ⟨C.2.2.2.2.2.1.1.2.2.2.2.1.2 i j hi hj, fun h => by rw [h]⟩
theorem CX_apK (C : CX g own cc nL A p s m args meth c) {i j : Nat} (hi : i < 8) (hj : j < 8) : g.2.2 (200 + i) = g.2.2 (200 + j) ↔ i = j := ⟨C.2.2.2.2.2.1.1.2.2.2.2.2.1.2 i j hi hj, fun h => by rw [h]⟩
theorem x_acmpR_eq (C : CX g own cc nL A p s m args meth c) {x y : Nat} {off : Int} {tgt : Nat} (hx : x < 11) (hd : decode cc pc = .ok (.if_acmp .eq off, 3)) (hy : y < 11) (ht : (pc : Int) + off = (tgt : Int)) (k1 : x = y → VW g A nL p l e R s m args below meth c cells slots Q wss lv tgt st) (k2 : ¬ x = y → VW g A nL p l e R s m args below meth c cells slots Q wss lv (pc + 3) st) : VW g A nL p l e R s m args below meth c cells slots Q wss lv pc (.ref (g.2.2 (100 + y)) :: .ref (g.2.2 (100 + x)) :: st) :=
  x_acmp_eq C hd ht (fun q => k1 ((CX_apR C hx hy).mp q)) (fun q => k2 (fun z => q ((CX_apR C hx hy).mpr z)))
theorem x_acmpR_ne (C : CX g own cc nL A p s m args meth c) {x y : Nat} {off : Int} {tgt : Nat} (hx : x < 11) (hd : decode cc pc = .ok (.if_acmp .ne off, 3)) (hy : y < 11) (ht : (pc : Int) + off = (tgt : Int)) (k1 : ¬ x = y → VW g A nL p l e R s m args below meth c cells slots Q wss lv tgt st) (k2 : x = y → VW g A nL p l e R s m args below meth c cells slots Q wss lv (pc + 3) st) : VW g A nL p l e R s m args below meth c cells slots Q wss lv pc (.ref (g.2.2 (100 + y)) :: .ref (g.2.2 (100 + x)) :: st) :=
  x_acmp_ne C hd ht (fun q => k1 (fun z => q ((CX_apR C hx hy).mpr z))) (fun q => k2 ((CX_apR C hx hy).mp q))
theorem x_lcmp (C : CX g own cc nL A p s m args meth c) {x y : Int64} (hd : decode cc pc = .ok (.lcmp, 1)) (k : VW g A nL p l e R s m args below meth c cells slots Q wss lv (pc + 1) (.int (lg_cmp x y) :: st)) : VW g A nL p l e R s m args below meth c cells slots Q wss lv pc (.long y :: .long x :: st) :=
  fun H locs ls hP hD hS hl => W.lcmp C.1 C.2.1 hd (k H locs ls hP hD hS hl)
theorem x_dconst0 (C : CX g own cc nL A p s m args meth c) (hd : decode cc pc = .ok (.dconst 0, 1)) (k : VW g A nL p l e R s m args below meth c cells slots Q wss lv (pc + 1) (.double FP.dconst0 :: st)) : VW g A nL p l e R s m args below meth c cells slots Q wss lv pc st :=
  fun H locs ls hP hD hS hl => lv_dconst0 C.1 C.2.1 hd (k H locs ls hP hD hS hl)
theorem x_fconst0 (C : CX g own cc nL A p s m args meth c) (hd : decode cc pc = .ok (.fconst 0, 1)) (k : VW g A nL p l e R s m args below meth c cells slots Q wss lv (pc + 1) (.float FP.fconst0 :: st)) : VW g A nL p l e R s m args below meth c cells slots Q wss lv pc st :=
  fun H locs ls hP hD hS hl => lv_fconst0 C.1 C.2.1 hd (k H locs ls hP hD hS hl)
/-- static tables -/
theorem x_sti (C : CX g own cc nL A p s m args meth c) {t N : Nat} {f : Nat → Int32} (hT : va_T .int t N (fun j => .int (f j)) A s s.heap) {i : Int32} (hin : ¬ (i < 0 ∨ N ≤ i.toNatClampNeg)) (hd : decode cc pc = .ok (.iaload, 1)) (kk : VW g A nL p l e R s m args below meth c cells slots Q wss lv (pc + 1) (.int (f i.toNatClampNeg) :: st)) : VW g A nL p l e R s m args below meth c cells slots Q wss lv pc (.int i :: .ref t :: st) :=
  fun H locs ls hP hD hS hl => va_ti C.1 C.2.1 hT hS hin rfl hd (kk H locs ls hP hD hS hl)
theorem x_stc (C : CX g own cc nL A p s m args meth c) {t N : Nat} {f : Nat → Int32} (hT : va_T .char t N (fun j => .int (f j)) A s s.heap) {i : Int32} (hin : ¬ (i < 0 ∨ N ≤ i.toNatClampNeg)) (hd : decode cc pc = .ok (.caload, 1)) (kk : VW g A nL p l e R s m args below meth c cells slots Q wss lv (pc + 1) (.int (f i.toNatClampNeg) :: st)) : VW g A nL p l e R s m args below meth c cells slots Q wss lv pc (.int i :: .ref t :: st) :=
  fun H locs ls hP hD hS hl => va_tc C.1 C.2.1 hT hS hin rfl hd (kk H locs ls hP hD hS hl)
theorem x_stb (C : CX g own cc nL A p s m args meth c) {t N : Nat} {f : Nat → Int32} (hT : va_T .byte t N (fun j => .int (f j)) A s s.heap) {i : Int32} (hin : ¬ (i < 0 ∨ N ≤ i.toNatClampNeg)) (hd : decode cc pc = .ok (.baload, 1)) (kk : VW g A nL p l e R s m args below meth c cells slots Q wss lv (pc + 1) (.int (f i.toNatClampNeg) :: st)) : VW g A nL p l e R s m args below meth c cells slots Q wss lv pc (.int i :: .ref t :: st) :=
  fun H locs ls hP hD hS hl => va_tb C.1 C.2.1 hT hS hin rfl hd (kk H locs ls hP hD hS hl)
theorem x_stn (C : CX g own cc nL A p s m args meth c) {ty : FieldType} {t N : Nat} {f : Nat → Value} (hT : va_T ty t N f A s s.heap) {v : Int32} (hv : Int32.ofNat N = v) (hd : decode cc pc = .ok (.arraylength, 1)) (kk : VW g A nL p l e R s m args below meth c cells slots Q wss lv (pc + 1) (.int v :: st)) : VW g A nL p l e R s m args below meth c cells slots Q wss lv pc (.ref t :: st) :=
  fun H locs ls hP hD hS hl => va_tlen C.1 C.2.1 hT hS hv hd (kk H locs ls hP hD hS hl)
theorem CX_tvo (C : CX g own cc nL A p s m args meth c) : va_T .char (g.2.2 0) 4 (fun j => .int (voT.getD j 0)) A s s.heap := C.2.2.2.2.2.1.1.2.1.2
theorem CX_tsmR (C : CX g own cc nL A p s m args meth c) : va_T .int (g.2.2 1) 11 (fun j => .int (smR.getD j 0)) A s s.heap := C.2.2.2.2.2.1.1.2.2.1.2
theorem CX_tsmK (C : CX g own cc nL A p s m args meth c) : va_T .int (g.2.2 2) 8 (fun j => .int (smK.getD j 0)) A s s.heap := C.2.2.2.2.2.1.1.2.2.2.1.2
theorem CX_tdt (C : CX g own cc nL A p s m args meth c) : va_T .byte (g.2.2 3) 100 (fun j => .int (dgT.getD j 0)) A s s.heap := C.2.2.2.2.2.1.1.2.2.2.2.2.2.2.2.2.1.2
theorem CX_tdo (C : CX g own cc nL A p s m args meth c) : va_T .byte (g.2.2 4) 100 (fun j => .int (dgO.getD j 0)) A s s.heap := C.2.2.2.2.2.1.1.2.2.2.2.2.2.2.2.2.2.2
theorem CX_sv (C : CX g own cc nL A p s m args meth c) {w : Nat} (hw : w < 39) : va_T .byte (g.2.2 (400 + w)) (stLen.getD w 0) (fun j => .int ((stByt.getD w []).getD j 0)) A s s.heap := (C.2.2.2.2.2.1.1.2.2.2.2.2.2.1.1 w hw).2.2.2
/-- a static whose link is by the nest -/
theorem x_getsN (C : CX g own cc nL A p s m args meth c) {Cn n d ref host : String} {v : Value} {index : Nat} (hZ : va_Z Cn n d v A s s.heap) (hlink : (own, index, ref, n, d, host) ∈ nwF) (hsame : ∀ x, s.fieldFound? Cn n d = some x → s.fieldFound? ref n d = some x) (hd : decode cc pc = .ok (.getstatic index, 3)) (kk : VW g A nL p l e R s m args below meth c cells slots Q wss lv (pc + 3) (v :: st)) : VW g A nL p l e R s m args below meth c cells slots Q wss lv pc st :=
  fun H locs ls hP hD hS hl => va_getsN C.1 C.2.1 hZ hS C.2.2.2.1 (va_Nw.use rfl (C.2.2.2.2.2.1.2.1.1 _ hlink)) hsame hd (kk H locs ls hP hD hS hl)
/-- calls by the nest -/
def xCN (R : Room) (own : String) (index : Nat) (y : MethodName) (host : String) (bytes : ByteArray) (maxL : Nat) (ret : Option FieldType) (rm : Room) (mc ms n : Nat) : Prop :=
  (Cond.code y bytes maxL ret ∈ xTB ∧ (own, index, y, host) ∈ nwM ∧ Cond.initialized y.cls ∈ xTB) ∧ (y.cls ≠ "java/lang/invoke/MethodHandle" ∧ y.cls ≠ "java/lang/invoke/VarHandle" ∧ (parseMethodDescriptor y.desc).map (fun d => d.parameters.length) = some n) ∧ rm.cells = mc ∧ rm.slots = ms ∧ rm.frames + 1 ≤ R.frames ∧ 8 + (maxL + 11) + rm.locals ≤ R.locals
theorem xCN_of {index : Nat} {y : MethodName} {host : String} {bytes : ByteArray} {maxL : Nat} {ret : Option FieldType} {rm : Room} {mc ms n : Nat} (C : CX g own cc nL A p s m args meth c) (h : xCN R own index y host bytes maxL ret rm mc ms n) : va_CN R s args own index y host bytes maxL ret (Cond.code y bytes maxL ret :: xTB) rm mc ms n := by
  have hG : GoodIn xTB (Cond.code y bytes maxL ret :: xTB) := xTB_G (List.forall_mem_cons.mpr ⟨h.1.1, fun _ h => h⟩)
  refine ⟨⟨h.2.2.1, h.2.2.2.1, h.2.2.2.2.1, h.2.2.2.2.2, pay_in C.2.2.2.2.1 hG, List.mem_cons_self⟩, C.2.2.2.2.1 _ h.1.1, C.2.2.2.2.1 _ h.1.2.2, ⟨h.2.1.1, h.2.1.2.1⟩, fun sig hs => ?_, va_Nw.use rfl (C.2.2.2.2.2.1.2.1.2.1 _ h.1.2.1)⟩
  have h2 := h.2.1.2.2
  rw [hs] at h2
  exact (Option.some.inj h2).symm
theorem x_callSN (C : CX g own cc nL A p s m args meth c) {y : MethodName} {host : String} {bytes : ByteArray} {maxL index n mc ms : Nat} {ret : Option FieldType} {rm : Room} {As rest stk : List Value} {w0 : va_W} {Qr : Option Value → va_W → Prop} (hM : Con g l y bytes maxL ret rm As w0 Qr mc ms) (hcb : xCN R own index y host bytes maxL ret rm mc ms n) (hin : Cond.static y ∈ xTB)
    (wr : List va_W) (hperm : wss.flatten.Perm (w0 ++ wr.flatten)) (hn : As.length = n) (hstk : stk = As.reverse ++ rest) (hst : (rest.map fun v => v.category).sum ≤ 8) (hf : cells + mc ≤ R.cells ∧ slots + ms ≤ R.slots) (hd : decode cc pc = .ok (.invokestatic index, 3))
    (kk : ∀ (v : Option Value) (w1 : va_W), Qr v w1 → VW g A nL p l e R s m args below meth c (cells + mc) (slots + ms) Q (w1 :: wr) lv (pc + 3) (v.toList ++ rest)) : VW g A nL p l e R s m args below meth c cells slots Q wss lv pc stk := by
  intro H locs ls hP hD hS hl
  have hP := va_P_perm hperm hP
  have hD := va_D_perm hperm hD
  subst hstk
  exact x_after hP hD hS C.2.2.2.2.2.2.1 hl (va_runSN (nL := nL) (Ts := xTB) ⟨C.1, C.2.1, C.2.2.1, C.2.2.2.1, C.2.2.2.2.1⟩ (hM H.size) ⟨xCN_of C hcb, C.2.2.2.2.1 _ hin, trivial⟩ ⟨xPc_blind, x_pre C hP hD hS⟩ rfl hn hl.1 rfl (lv_room hst) hd hf) (fun v w1 hQ H1 locs1 hP1 hD1 hS1 => kk v w1 hQ H1 locs1 ls hP1 hD1 hS1 hl)
theorem x_callIN (C : CX g own cc nL A p s m args meth c) {y : MethodName} {host : String} {bytes : ByteArray} {maxL index n mc ms : Nat} {rm : Room} {b : Nat} {As rest stk : List Value} {w0 : va_W} {Qr : Option Value → va_W → Prop} (hM : Con g l y bytes maxL none rm (.ref b :: As) w0 Qr mc ms) (hcb : xCN R own index y host bytes maxL none rm mc ms n) (hin : Cond.instanceMethod y ∈ xTB) (hy : y.name = "<init>")
    (wr : List va_W) (hperm : wss.flatten.Perm (w0 ++ wr.flatten)) (hn : As.length = n) (hstk : stk = As.reverse ++ .ref b :: rest) (hst : (rest.map fun v => v.category).sum ≤ 8) (hf : cells + mc ≤ R.cells ∧ slots + ms ≤ R.slots) (hd : decode cc pc = .ok (.invokespecial index, 3))
    (kk : ∀ (v : Option Value) (w1 : va_W), Qr v w1 → VW g A nL p l e R s m args below meth c (cells + mc) (slots + ms) Q (w1 :: wr) lv (pc + 3) (v.toList ++ rest)) : VW g A nL p l e R s m args below meth c cells slots Q wss lv pc stk := by
  intro H locs ls hP hD hS hl
  have hP := va_P_perm hperm hP
  have hD := va_D_perm hperm hD
  subst hstk
  exact x_after hP hD hS C.2.2.2.2.2.2.1 hl (va_runIN (nL := nL) (Ts := xTB) ⟨C.1, C.2.1, C.2.2.1, C.2.2.2.1, C.2.2.2.2.1⟩ (hM H.size) ⟨xCN_of C hcb, hy, C.2.2.2.2.1 _ hin⟩ ⟨xPc_blind, x_pre C hP hD hS⟩ rfl hn hl.1 rfl (lv_room hst) hd hf) (fun v w1 hQ H1 locs1 hP1 hD1 hS1 => kk v w1 hQ H1 locs1 ls hP1 hD1 hS1 hl)
/-- the script's array -/
theorem CX_sc (C : CX g own cc nL A p s m args meth c) : va_T .int (g.2.2 6) (g.2.2 7) (fun j => .int (xsG g j)) A s s.heap := C.2.2.2.2.2.1.2.2.2.2.1
theorem x_sld (C : CX g own cc nL A p s m args meth c) {L : Nat} {xs : Nat → Int32} (hL : L = g.2.2 7) (hx : xs = xsG g) {i : Int32} (hin : ¬ (i < 0 ∨ L ≤ i.toNatClampNeg)) (hd : decode cc pc = .ok (.iaload, 1)) (kk : VW g A nL p l e R s m args below meth c cells slots Q wss lv (pc + 1) (.int (xs i.toNatClampNeg) :: st)) : VW g A nL p l e R s m args below meth c cells slots Q wss lv pc (.int i :: .ref (g.2.2 6) :: st) := by
  subst hL
  subst hx
  exact x_sti C (CX_sc C) hin hd kk
theorem x_slen (C : CX g own cc nL A p s m args meth c) {L : Nat} (hL : L = g.2.2 7) (hd : decode cc pc = .ok (.arraylength, 1)) (kk : VW g A nL p l e R s m args below meth c cells slots Q wss lv (pc + 1) (.int (Int32.ofNat L) :: st)) : VW g A nL p l e R s m args below meth c cells slots Q wss lv pc (.ref (g.2.2 6) :: st) := by
  subst hL
  exact x_stn C (CX_sc C) rfl hd kk
theorem x_ixor (C : CX g own cc nL A p s m args meth c) {x y : Int32} (hd : decode cc pc = .ok (.ixor, 1)) (k : VW g A nL p l e R s m args below meth c cells slots Q wss lv (pc + 1) (.int (x ^^^ y) :: st)) : VW g A nL p l e R s m args below meth c cells slots Q wss lv pc (.int y :: .int x :: st) :=
  fun H locs ls hP hD hS hl => lv_ixor C.1 C.2.1 hd (k H locs ls hP hD hS hl)
end XD
