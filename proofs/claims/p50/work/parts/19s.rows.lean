/-! ROWS for texts: shifts, null tests, ldc_w, arraycopy out of a table, clone of bytes, what a builder's append does */ -/
section XT
variable {p : Program} {l : Launch} {e : Env} {R : Room} {s : State} {m : MethodId} {args : Array Value} {below : List Frame} {meth : Method} {c : Code} {cells slots : Nat} {Q : State → Prop}
variable {g : xG} {A : Nat → Prop} {nL : Nat} {cc : ByteArray} {own : String} {wss wss' : List va_W} {lv lv' : List (Nat × Value)} {pc : Nat} {st : List Value}
theorem x_iushr (C : CX g own cc nL A p s m args meth c) {x y : Int32} (hd : decode cc pc = .ok (.iushr, 1)) (k : VW g A nL p l e R s m args below meth c cells slots Q wss lv (pc + 1) (.int (x.toUInt32 >>> (y.toUInt32 &&& Int32.toUInt32 31)).toInt32 :: st)) : VW g A nL p l e R s m args below meth c cells slots Q wss lv pc (.int y :: .int x :: st) :=
  fun H locs ls hP hD hS hl => lv_iushr C.1 C.2.1 hd rfl (k H locs ls hP hD hS hl)
theorem x_l2i (C : CX g own cc nL A p s m args meth c) {x : Int64} (hd : decode cc pc = .ok (.l2i, 1)) (k : VW g A nL p l e R s m args below meth c cells slots Q wss lv (pc + 1) (.int x.toInt32 :: st)) : VW g A nL p l e R s m args below meth c cells slots Q wss lv pc (.long x :: st) :=
  fun H locs ls hP hD hS hl => lv_l2i C.1 C.2.1 hd rfl (k H locs ls hP hD hS hl)
theorem x_ifnonnull (C : CX g own cc nL A p s m args meth c) {x : Nat} {off : Int} {tgt : Nat} (hd : decode cc pc = .ok (.ifnonnull off, 3)) (ht : (pc : Int) + off = (tgt : Int)) (k : VW g A nL p l e R s m args below meth c cells slots Q wss lv tgt st) : VW g A nL p l e R s m args below meth c cells slots Q wss lv pc (.ref x :: st) :=
  fun H locs ls hP hD hS hl => lv_ifnonnull C.1 C.2.1 hd ht (k H locs ls hP hD hS hl)
theorem x_ifnull (C : CX g own cc nL A p s m args meth c) {x : Nat} {off : Int} (hd : decode cc pc = .ok (.ifnull off, 3)) (k : VW g A nL p l e R s m args below meth c cells slots Q wss lv (pc + 3) st) : VW g A nL p l e R s m args below meth c cells slots Q wss lv pc (.ref x :: st) :=
  fun H locs ls hP hD hS hl => lv_ifnull C.1 C.2.1 hd (k H locs ls hP hD hS hl)
theorem x_null (C : CX g own cc nL A p s m args meth c) (hd : decode cc pc = .ok (.aconst_null, 1)) (k : VW g A nL p l e R s m args below meth c cells slots Q wss lv (pc + 1) (.null :: st)) : VW g A nL p l e R s m args below meth c cells slots Q wss lv pc st :=
  fun H locs ls hP hD hS hl => lv_null C.1 C.2.1 hd (k H locs ls hP hD hS hl)
theorem x_ldcw (C : CX g own cc nL A p s m args meth c) {index : Nat} {v : Int32} (hw : Cond.constant own index v ∈ xTB) (hd : decode cc pc = .ok (.ldc_w index, 3)) (kk : VW g A nL p l e R s m args below meth c cells slots Q wss lv (pc + 3) (.int v :: st)) : VW g A nL p l e R s m args below meth c cells slots Q wss lv pc st :=
  fun H locs ls hP hD hS hl => lv_ldcw C.1 C.2.1 C.2.2.2.1 (C.2.2.2.2.1 _ hw) hd (kk H locs ls hP hD hS hl)
theorem x_toInt {z : Int32} (h : ¬ z < 0) : z.toInt = (z.toNatClampNeg : Int) := by
  have h0 : (0 : Int) ≤ z.toInt := by
    have := Int32.not_lt.mp h
    simpa using Int32.le_iff_toInt_le.mp this
  show z.toInt = ((z.toInt.toNat : Nat) : Int)
  omega
/-- bytes of a table (of a String constant) into an array of the world -/
theorem x_copyT (C : CX g own cc nL A p s m args meth c) {index : Nat} (hlink : Cond.methodLink own index arraycopyName ∈ xTB) (hnat : Cond.native arraycopyName ∈ xTB) (hstat : Cond.static arraycopyName ∈ xTB) (hini : Cond.initialized "java/lang/System" ∈ xTB) (t0 : Nat) (ht : (xTys g.2.1)[t0]? = some (g.2.1 t0, .byte))
    {a0 n0 : Nat} {f0 : Nat → Int32} (hT : va_T .byte a0 n0 (fun j => .int (f0 j)) A s s.heap) (bi : Nat) {b : va_W} (hb : wss[bi]? = some b) (j : Nat) {a n1 : Nat} {f1 : Nat → Int32} (he : b[j]? = some (a, .inl (g.2.1 t0, n1, .inl f1)))
    {sp dp n : Int32} (h1 : ¬ sp < 0) (h2 : ¬ dp < 0) (h3 : ¬ n < 0) (h4 : sp.toNatClampNeg + n.toNatClampNeg ≤ n0) (h5 : dp.toNatClampNeg + n.toNatClampNeg ≤ n1) (hfit : ∀ i, i < n.toNatClampNeg → fits .byte (.int (f0 (sp.toNatClampNeg + i))) = true)
    (hR : 1 ≤ R.frames ∧ (st.map fun v => v.category).sum + (nativeFrameWords "java/lang/System" "arraycopy" 5 + 11) ≤ R.locals) {b' : va_W} (hb' : b.set j (a, .inl (g.2.1 t0, n1, .inl (va_cpy f0 f1 sp.toNatClampNeg dp.toNatClampNeg n.toNatClampNeg))) = b') (hw : wss.set bi b' = wss') (hd : decode cc pc = .ok (.invokestatic index, 3))
    (kk : VW g A nL p l e R s m args below meth c cells slots Q wss' lv (pc + 3) st) : VW g A nL p l e R s m args below meth c cells slots Q wss lv pc (.int n :: .int dp :: .ref a :: .int sp :: .ref a0 :: st) := by
  intro H locs ls hP hD hS hl T hT0 X
  obtain ⟨q1, e1, e2⟩ := x_flat hb he
  obtain ⟨cell, k1, ⟨ks, k0, hk0, cm0, hkk0⟩, k3, k4, -, k6, k7⟩ := hT
  have hK := C.2.2.2.2.2.1.1.1
  obtain ⟨-, kB, hkB, cmB, hkkB⟩ := (hK.2 t0 _ ht).1 n1 (fun j => .int (f1 j))
  have hsrc : H[a0]? = some cell := (hS.2.1 a0 (Array.getElem?_eq_some_iff.mp k1).1 k7).trans k1
  have hdst : H[a]? = some (vp_cell (g.2.1 t0) (n1, .inl f1)) := hP q1 _ e1
  have hal : a < H.size := (Array.getElem?_eq_some_iff.mp hdst).1
  obtain ⟨vm', X', step⟩ := X.arraycopy C.1 C.2.2.2.1 (C.2.2.2.2.1 _ hlink) (C.2.2.2.2.1 _ hnat) (C.2.2.2.2.1 _ hstat) (C.2.2.2.2.1 _ hini) (src := a0) (dst := a) (cs := cell) (cd := vp_cell (g.2.1 t0) (n1, .inl f1)) (srcPos := sp) (destPos := dp) (n := n) (by rw [hT0]; exact hsrc) (by rw [hT0]; exact hdst)
    ks (fun _ h => by cases h) k3 (fun h => by cases h) hk0 hkB hkk0 hkkB (by simp [refKind]) h1 h2 h3 (by rw [x_toInt h1, x_toInt h3]; omega) (by rw [x_toInt h2, x_toInt h3]; show ¬ _ > ((arrV (g.2.1 t0) n1 (fun j => .int (f1 j))).slots.size : Int); rw [arrV_size]; omega)
    (fun vm₁ _ i hi => by
      have e : cell.slots.getD (sp.toNatClampNeg + i) .null = .int (f0 (sp.toNatClampNeg + i)) := by
        rw [Array.getD_eq_getD_getElem?, k6 _ (by omega)]
        rfl
      rw [e]
      exact ⟨hfit i hi, trivial⟩)
    (g := F0 m pc ls (.int n :: .int dp :: .ref a :: .int sp :: .ref a0 :: st)) rfl (by rw [C.2.2.1]; exact hl.1) (rest := st) rfl (by rw [C.2.1]; exact hd) hR.1 (by show 2 * 0 + _ + _ ≤ _; omega)
  rw [show copied cell (vp_cell (g.2.1 t0) (n1, .inl f1)) sp dp n = vp_cell (g.2.1 t0) (n1, .inl (va_cpy f0 f1 sp.toNatClampNeg dp.toNatClampNeg n.toNatClampNeg)) from va_copiedX (fun z => .int z) cell (g.2.1 t0) f0 f1 k6 h4] at X' step
  generalize hY : (vp_cell (g.2.1 t0) (n1, .inl (va_cpy f0 f1 sp.toNatClampNeg dp.toNatClampNeg n.toNatClampNeg))) = Y at X' step
  have o1 : ∀ q : Nat, q ≠ a → (H.setIfInBounds a Y)[q]? = H[q]? := fun q hq => by simp [Array.getElem?_setIfInBounds, Ne.symm hq]
  have o2 : (H.setIfInBounds a Y)[a]? = some Y := by simp [Array.getElem?_setIfInBounds, hal]
  have hP1 := hP.set hD e1 (e := .inl (g.2.1 t0, n1, .inl (va_cpy f0 f1 sp.toNatClampNeg dp.toNatClampNeg n.toNatClampNeg))) (H1 := H.setIfInBounds a Y) (show (H.setIfInBounds a Y)[a]? = some (vp_cell (g.2.1 t0) (n1, .inl (va_cpy f0 f1 sp.toNatClampNeg dp.toNatClampNeg n.toNatClampNeg))) by rw [o2, hY]) o1
  have hD1 := hD.set (e := .inl (g.2.1 t0, n1, .inl (va_cpy f0 f1 sp.toNatClampNeg dp.toNatClampNeg n.toNatClampNeg))) e1
  rw [e2, hb', hw] at hP1 hD1
  have hheap : ((T.setVm vm').setCell a Y).heap = H.setIfInBounds a Y := by rw [← hT0]; rfl
  obtain ⟨t, a1, b1⟩ := kk _ _ ls hP1 hD1 ⟨by simp; exact hS.1, fun q g1 g2 => by
      rw [o1 q (fun z => g2 (by rw [z]; exact hD.2 q1 _ e1))]
      exact hS.2.1 q g1 g2, fun q hq => by
      rcases List.mem_append.mp hq with h | h
      · exact hS.2.2 q h
      · obtain ⟨z, -, hz⟩ := List.mem_map.mp h
        rw [← hz]
        exact hD.2 q1 _ e1⟩ hl _ hheap X'
  exact ⟨t, step t a1, b1⟩
/-- bytes cloned, and told to be bytes again -/
theorem x_clone (C : CX g own cc nL A p s m args meth c) {index : Nat} (hlink : Cond.methodLink own index ⟨"[B", "clone", "()Ljava/lang/Object;"⟩ ∈ xTB) (hsame : Cond.sameMethod "[B" "java/lang/Object" "clone" "()Ljava/lang/Object;" ∈ xTB) (hnat : Cond.native ⟨"java/lang/Object", "clone", "()Ljava/lang/Object;"⟩ ∈ xTB) (hinst : Cond.instanceMethod ⟨"java/lang/Object", "clone", "()Ljava/lang/Object;"⟩ ∈ xTB)
    (hsel : Cond.selects "[B" ⟨"[B", "clone", "()Ljava/lang/Object;"⟩ ⟨"java/lang/Object", "clone", "()Ljava/lang/Object;"⟩ ∈ xTB) (bi : Nat) {b : va_W} (hb : wss[bi]? = some b) (j : Nat) {a n : Nat} {f : Nat → Int32} (he : b[j]? = some (a, .inl (g.2.1 3, n, .inl f))) (hfit : ∀ i, i < n → fits .byte (.int (f i)) = true)
    (hR : 1 ≤ R.frames ∧ (st.map fun v => v.category).sum + 14 ≤ R.locals) (hcells : cells + 1 ≤ R.cells) (hslots : slots + n ≤ R.slots) (hd : decode cc pc = .ok (.invokevirtual index, 3))
    (kk : ∀ q : Nat, VW g A nL p l e R s m args below meth c (cells + 1) (slots + n) Q (wss ++ [[(q, .inl (g.2.1 3, n, .inl f))]]) lv (pc + 3) (.ref q :: st)) : VW g A nL p l e R s m args below meth c cells slots Q wss lv pc (.ref a :: st) := by
  intro H locs ls hP hD hS hl
  obtain ⟨q0, h1, -⟩ := x_flat hb he
  have hK := C.2.2.2.2.2.1.1.1
  have hnm : s.vm.findClass "[B" = some (g.2.1 3) := (hK.2 3 _ rfl).2
  refine va_clone C.1 C.2.1 (C.2.2.1.trans hl.1.symm) C.2.2.2.1 (C.2.2.2.2.1 _ hlink) (C.2.2.2.2.1 _ hsame) (C.2.2.2.2.1 _ hnat) (C.2.2.2.2.1 _ hinst) (C.2.2.2.2.1 _ hsel) C.2.2.2.2.2.1.2.2.2.2.2 hK hP hD hS C.2.2.2.2.2.2.1 q0 3 h1 rfl hnm (va_fit hfit) hR.1 hR.2 hcells hslots hd (fun q H1 hK1 hP1 hD1 hS1 => ?_)
  rw [x_flat1] at hP1 hD1
  exact kk q H1 locs ls hP1 hD1 hS1 hl
theorem x_castB (C : CX g own cc nL A p s m args meth c) {index : Nat} (hlink : Cond.classLink own index "[B" ∈ xTB) (bi : Nat) {b : va_W} (hb : wss[bi]? = some b) (j : Nat) {a n : Nat} {f : Nat → Int32} (he : b[j]? = some (a, .inl (g.2.1 3, n, .inl f))) (hd : decode cc pc = .ok (.checkcast index, 3))
    (kk : VW g A nL p l e R s m args below meth c cells slots Q wss lv (pc + 3) (.ref a :: st)) : VW g A nL p l e R s m args below meth c cells slots Q wss lv pc (.ref a :: st) := by
  intro H locs ls hP hD hS hl
  obtain ⟨q0, h1, -⟩ := x_flat hb he
  exact va_castA C.1 C.2.1 C.2.2.2.1 (C.2.2.2.2.1 _ hlink) hP q0 h1 (C.2.2.2.2.2.1.1.1.2 3 _ rfl).2 hd (kk H locs ls hP hD hS hl)
/-- an overriding method: the reference names another method's code, that is not run -/
def xCO (R : Room) (own Cn owner : String) (index : Nat) (x y : MethodName) (bytes : ByteArray) (maxL : Nat) (ret : Option FieldType) (rm : Room) (mc ms n : Nat) : Prop :=
  (Cond.code y bytes maxL ret ∈ xTB ∧ Cond.methodLink own index x ∈ xTB ∧ Cond.sameMethod x.cls owner x.name x.desc ∈ xTB ∧ Cond.instanceMethod ⟨owner, x.name, x.desc⟩ ∈ xTB ∧ Cond.selects Cn x y ∈ xTB ∧ Cond.instanceMethod y ∈ xTB ∧ Cond.initialized y.cls ∈ xTB ∧ ∃ (b0 : ByteArray) (m0 : Nat) (r0 : Option FieldType), Cond.code ⟨owner, x.name, x.desc⟩ b0 m0 r0 ∈ xTB) ∧ (owner ≠ "java/lang/invoke/MethodHandle" ∧ owner ≠ "java/lang/invoke/VarHandle" ∧ (parseMethodDescriptor x.desc).map (fun d => d.parameters.length) = some n) ∧ rm.cells = mc ∧ rm.slots = ms ∧ rm.frames + 1 ≤ R.frames ∧ 8 + (maxL + 11) + rm.locals ≤ R.locals
theorem xCO_of {Cn owner : String} {index : Nat} {x y : MethodName} {bytes : ByteArray} {maxL : Nat} {ret : Option FieldType} {rm : Room} {mc ms n : Nat} (C : CX g own cc nL A p s m args meth c) (h : xCO R own Cn owner index x y bytes maxL ret rm mc ms n) : va_CU R s args own Cn owner index x y bytes maxL ret (Cond.code y bytes maxL ret :: xTB) rm mc ms n := by
  obtain ⟨⟨w1, w2, w3, w4, w5, w6, w7, b0, m0, r0, w8⟩, hd, hc, hs, hf, hl⟩ := h
  refine va_cwO n C.2.2.2.2.1 (xTB_G ?_) rfl hc hs w8 hd ⟨hf, hl⟩
  intro w hw
  simp only [va_wsO, List.mem_append, List.mem_cons, List.not_mem_nil, or_false] at hw
  rcases hw with (rfl | rfl | rfl | rfl | rfl | rfl) | rfl | hw
  · exact w2
  · exact w3
  · exact w4
  · exact w5
  · exact w6
  · exact w7
  · exact w1
  · exact hw
theorem x_callOW (C : CX g own cc nL A p s m args meth c) {Cn owner : String} {x y : MethodName} {bytes : ByteArray} {maxL index n mc ms : Nat} {ret : Option FieldType} {rm : Room} {b : Nat} {As rest stk : List Value} {w0 : va_W} {Qr : Option Value → va_W → Prop} (hM : Con g l y bytes maxL ret rm (.ref b :: As) w0 Qr mc ms) (hcb : xCO R own Cn owner index x y bytes maxL ret rm mc ms n)
    (recv : ∃ (q0 ci : Nat) (q : vw_C) (fs : List Value), vwCl[ci]? = some q ∧ w0[q0]? = some (b, .inr (ci, fs)) ∧ q.1 = Cn) (wr : List va_W) (hperm : wss.flatten.Perm (w0 ++ wr.flatten)) (hn : As.length = n) (hstk : stk = As.reverse ++ .ref b :: rest) (hst : (rest.map fun v => v.category).sum ≤ 8) (hf : cells + mc ≤ R.cells ∧ slots + ms ≤ R.slots) (hd : decode cc pc = .ok (.invokevirtual index, 3))
    (kk : ∀ (v : Option Value) (w1 : va_W), Qr v w1 → VW g A nL p l e R s m args below meth c (cells + mc) (slots + ms) Q (w1 :: wr) lv (pc + 3) (v.toList ++ rest)) : VW g A nL p l e R s m args below meth c cells slots Q wss lv pc stk := by
  intro H locs ls hP hD hS hl
  have hP := va_P_perm hperm hP
  have hD := va_D_perm hperm hD
  subst hstk
  obtain ⟨q0, ci, q, fs, h1, h3, rfl⟩ := recv
  exact x_after hP hD hS C.2.2.2.2.2.2.1 hl (va_runU (nL := nL) (Ts := xTB) (C := q.1) ⟨C.1, C.2.1, C.2.2.1, C.2.2.2.1, C.2.2.2.2.1⟩ (hM H.size) (xCO_of C hcb) ⟨xPc_blind, va_recv C.2.2.2.2.2.1.1.1 (va_P_left hP) h1 h3, x_pre C hP hD hS⟩ rfl hn hl.1 rfl (lv_room hst) hd hf) (fun v w1 hQ H1 locs1 hP1 hD1 hS1 => kk v w1 hQ H1 locs1 ls hP1 hD1 hS1 hl)
end XT
