/-! METHODS THAT CATCH: contracts of codes with a table of handlers, the catch, the call -/
def ConH (g : xG) (l : Launch) (y : MethodName) (cc : ByteArray) (maxL : Nat) (ret : Option FieldType) (hh : List (Nat × Nat × Nat × Nat)) (rm : Room) (av : List Value) (w0 : va_W) (Qr : Option Value → va_W → Prop) (mc ms : Nat) : Prop :=
  ∀ sz : Nat, vx_Met l y (Cond.codeWith y cc maxL ret hh :: xTB) rm (xPc g av w0 sz) (xQc g w0 sz Qr) (fun _ _ _ => False) mc ms (va_A w0 sz)
section XH
variable {p : Program} {l : Launch} {e : Env} {R : Room} {s : State} {m : MethodId} {args : Array Value} {below : List Frame} {meth : Method} {c : Code} {cells slots : Nat} {Q : State → Prop}
variable {g : xG} {A : Nat → Prop} {nL : Nat} {cc : ByteArray} {own : String} {wss wss' : List va_W} {lv lv' : List (Nat × Value)} {pc : Nat} {st : List Value}
theorem ConH_of {y : MethodName} {maxL : Nat} {ret : Option FieldType} {hh : List (Nat × Nat × Nat × Nat)} {rm : Room} {av : List Value} {w0 : va_W} {Qr : Option Value → va_W → Prop} {mc ms : Nat} (w0s : List va_W) (lv0 : List (Nat × Value)) (hw0 : w0s.flatten = w0) (hlv : lv_args 0 av = lv0) (hy : plainName y.cls = true) (hlen : (lg_sl av).length ≤ maxL)
    (body : ∀ (p : Program) (e : Env) (s : State) (m : MethodId) (args : Array Value) (below : List Frame) (meth : Method) (c : Code), CX g y.cls cc maxL (va_A w0 s.heap.size) p s m args meth c → meth.sig.returnType = ret → (c.exceptionTable.toList.map fun h => (h.startPc, h.endPc, h.handlerPc, h.catchType)) = hh →
      VW g (va_A w0 s.heap.size) maxL p l e rm s m args below meth c 0 0 (vx_MQ below (xQc g w0 s.heap.size Qr) (fun _ _ _ => False) args s mc ms (va_A w0 s.heap.size)) w0s lv0 0 []) : ConH g l y cc maxL ret hh rm av w0 Qr mc ms := by
  intro sz
  subst hw0
  subst hlv
  refine vx_ofWH (cc := cc) (maxL := maxL) (ret := ret) (hh := hh) hy rfl ?_
  intro p e s m args below meth c s₁ B hml hv
  obtain ⟨rfl, hsz, hP, hD0, hG⟩ := hv
  subst hsz
  have hts := atoms_spec (ws := Cond.codeWith y cc maxL ret hh :: xTB) B.pre
  have hl := lv_entry av (n := maxL) hlen
  have ht : (c.exceptionTable.toList.map fun h => (h.startPc, h.endPc, h.handlerPc, h.catchType)) = hh := by
    obtain ⟨m9, meth9, c9, hn9, h1, h2, -, -, h5, -⟩ := Cond.codeWith_spec (hts _ List.mem_cons_self)
    cases B.named.symm.trans hn9
    cases Option.some.inj (h1.symm.trans B.method)
    cases Option.some.inj (h2.symm.trans (Stand.of_body B).code)
    exact h5
  rw [lg_entry_eq]
  exact body p e s m _ below meth c ⟨B.exec, B.bytes, hml, findClass_of_methodNamed B.named, fun w hw => hts w (List.mem_cons_of_mem _ hw), hG, fun q hq => Or.inr hq, B.notSynchronized⟩ B.returns ht s.heap [] _ hP hD0.self va_S.rf hl
/-- caught by row k of the table; E is the very class that it names -/
theorem x_catch (C : CX g own cc nL A p s m args meth c) {hh : List (Nat × Nat × Nat × Nat)} (hT : (c.exceptionTable.toList.map fun h => (h.startPc, h.endPc, h.handlerPc, h.catchType)) = hh) {E : String} (k : Nat) {a b t ct : Nat} (hk : hh[k]? = some (a, b, t, ct)) (ha : a ≤ pc ∧ pc < b) (h0 : ct ≠ 0) (hlink : Cond.classLink own ct E ∈ xTB) (hE : E ∈ nwC)
    (hpass : ∀ x ∈ hh.take k, ∃ nm : String, x.2.2.2 ≠ 0 ∧ Cond.classLink own x.2.2.2 nm ∈ xTB ∧ (E, nm) ∈ nwX) (kk : ∀ q : Nat, VW g A nL p l e R s m args below meth c cells slots Q wss lv t [.ref q]) : VX g A nL p l e R s m args below meth c cells slots Q E wss lv pc st := by
  intro H locs ls q ce hP hD hS hl hcell hv hcl
  subst hT
  rw [List.getElem?_map] at hk
  obtain ⟨x, hx, hxe⟩ := Option.map_eq_some_iff.mp hk
  obtain ⟨hlt, hget⟩ := List.getElem?_eq_some_iff.mp hx
  simp only [Prod.mk.injEq] at hxe
  obtain ⟨rfl, rfl, rfl, rfl⟩ := hxe
  refine vx_catch (name := E) (E := E) C.2.2.2.1 (c.exceptionTable.toList.take k) x (c.exceptionTable.toList.drop (k + 1)) ?_ (fun z hz => ?_) ?_ h0 (C.2.2.2.2.1 _ hlink) (va_Nw.use rfl (C.2.2.2.2.2.1.2.1.2.2.2.1 E hE)) hcell hv hcl (kk q H locs ls hP hD hS hl)
  · rw [← hget, List.getElem_cons_drop, List.take_append_drop]
  · obtain ⟨nm, q1, q2, q3⟩ := hpass (z.startPc, z.endPc, z.handlerPc, z.catchType) (by rw [← List.map_take]; exact List.mem_map_of_mem hz)
    exact Or.inr ⟨q1, nm, C.2.2.2.2.1 _ q2, C.2.2.2.2.2.1.2.1.2.2.2.2.1 (E, nm) q3⟩
  · unfold covers
    simp [ha.1, ha.2]
def xCH (R : Room) (own : String) (index : Nat) (y : MethodName) (bytes : ByteArray) (maxL : Nat) (ret : Option FieldType) (hh : List (Nat × Nat × Nat × Nat)) (rm : Room) (mc ms n : Nat) : Prop :=
  (Cond.codeWith y bytes maxL ret hh ∈ xTB ∧ Cond.methodLink own index y ∈ xTB ∧ Cond.initialized y.cls ∈ xTB) ∧ (y.cls ≠ "java/lang/invoke/MethodHandle" ∧ y.cls ≠ "java/lang/invoke/VarHandle" ∧ (parseMethodDescriptor y.desc).map (fun d => d.parameters.length) = some n) ∧ rm.cells = mc ∧ rm.slots = ms ∧ rm.frames + 1 ≤ R.frames ∧ 8 + (maxL + 11) + rm.locals ≤ R.locals
theorem xCH_of {index : Nat} {y : MethodName} {bytes : ByteArray} {maxL : Nat} {ret : Option FieldType} {hh : List (Nat × Nat × Nat × Nat)} {rm : Room} {mc ms n : Nat} (C : CX g own cc nL A p s m args meth c) (h : xCH R own index y bytes maxL ret hh rm mc ms n) (hin : Cond.static y ∈ xTB) : vx_CSW R s args own index y bytes maxL ret hh (Cond.codeWith y bytes maxL ret hh :: xTB) rm mc ms n := by
  obtain ⟨⟨w1, w2, w3⟩, hd, hc, hs, hf, hl⟩ := h
  refine vx_cwSW n C.2.2.2.2.1 (xTB_G ?_) rfl hc hs hd ⟨hf, hl⟩
  intro w hw
  simp only [va_wsS, List.mem_append, List.mem_cons, List.not_mem_nil, or_false] at hw
  rcases hw with (rfl | rfl | rfl) | rfl | hw
  · exact w2
  · exact hin
  · exact w3
  · exact w1
  · exact hw
theorem x_hcallS (C : CX g own cc nL A p s m args meth c) {y : MethodName} {bytes : ByteArray} {maxL index n mc ms : Nat} {ret : Option FieldType} {hh : List (Nat × Nat × Nat × Nat)} {rm : Room} {As rest stk : List Value} {w0 : va_W} {Qr : Option Value → va_W → Prop} (hM : ConH g l y bytes maxL ret hh rm As w0 Qr mc ms) (hcb : xCH R own index y bytes maxL ret hh rm mc ms n) (hin : Cond.static y ∈ xTB)
    (wr : List va_W) (hperm : wss.flatten.Perm (w0 ++ wr.flatten)) (hn : As.length = n) (hstk : stk = As.reverse ++ rest) (hst : (rest.map fun v => v.category).sum ≤ 8) (hf : cells + mc ≤ R.cells ∧ slots + ms ≤ R.slots) (hd : decode cc pc = .ok (.invokestatic index, 3))
    (kk : ∀ (v : Option Value) (w1 : va_W), Qr v w1 → VW g A nL p l e R s m args below meth c (cells + mc) (slots + ms) Q (w1 :: wr) lv (pc + 3) (v.toList ++ rest)) : VW g A nL p l e R s m args below meth c cells slots Q wss lv pc stk := by
  intro H locs ls hP hD hS hl
  have hP := va_P_perm hperm hP
  have hD := va_D_perm hperm hD
  subst hstk
  have run := vx_runSX (e := e) (below := below) (meth := meth) (R := R) (cells := cells) (slots := slots) (locs := locs) (nL := nL) (Ts := xTB) ⟨C.1, C.2.1, C.2.2.1, C.2.2.2.1, C.2.2.2.2.1⟩ (hM H.size) (xCH_of C hcb hin) ⟨xPc_blind, x_pre C hP hD hS⟩ (g := F0 m pc ls (As.reverse ++ rest)) rfl hn hl.1 rfl (lv_room hst) hd hf
  have hF := x_freeA hD hS C.2.2.2.2.2.2.1
  intro T hTh X
  rcases run T hTh X with ⟨v, st₀, t, T', L, h0, X', hL, e1, e2, ⟨⟨v', w1, hv, hQ, hP1, hD1⟩, hz, hk⟩, stp⟩ | ⟨q, st₀, t, T', L, E, ce, h0, X', hL, e1, e2, hfalse, -⟩
  · cases hv
    rw [h0] at hz hk
    obtain ⟨hPj, hDj⟩ := x_join hP hD (H1 := t.heap) hk hF hP1 hD1
    obtain ⟨t2, a1, b1⟩ := kk v w1 hQ T'.heap (locs ++ L) ls (by rw [e1]; exact hPj) hDj
      ⟨Nat.le_trans hS.1 (by rw [e1]; exact hz), fun q h1 h2 => by rw [e1, hk q (Nat.lt_of_lt_of_le h1 hS.1) (fun z => h2 (hF q z))]; exact hS.2.1 q h1 h2, fun q hq => by
        rcases List.mem_append.mp hq with h | h
        · exact hS.2.2 q h
        · exact hF _ (hL q h)⟩ hl T' rfl X'
    exact ⟨t2, stp t2 a1, b1⟩
  · exact hfalse.elim
end XH
