/-! NEW CELLS: new, newarray, anewarray, aastore, Object's constructor, arraycopy -/
section XZ
variable {p : Program} {l : Launch} {e : Env} {R : Room} {s : State} {m : MethodId} {args : Array Value} {below : List Frame} {meth : Method} {c : Code} {cells slots : Nat} {Q : State → Prop}
variable {g : xG} {A : Nat → Prop} {nL : Nat} {cc : ByteArray} {own : String} {wss wss' : List va_W} {lv lv' : List (Nat × Value)} {pc : Nat} {st : List Value}
theorem x_flat1 {x : Nat × va_E} : wss.flatten ++ [x] = (wss ++ [[x]]).flatten := by simp
theorem x_newa (C : CX g own cc nL A p s m args meth c) {atype : ArrayType} (t0 : Nat) (ht : (xTys g.2.1)[t0]? = some (g.2.1 t0, newarray.typeOf atype)) (harr : Cond.arrayClass (newarray.typeOf atype) ∈ xTB) {n : Int32} {N : Nat} {a0 : vp_A} (ha : ∀ cA : ClassId, vp_cell cA a0 = arrV cA N (fun _ => defaultValue (newarray.typeOf atype)))
    (hn : ¬ n < 0) (hN : n.toNatClampNeg = N) (hbytes : N * componentBytes (newarray.typeOf atype) ≤ 536870912) (hcells : cells + 1 ≤ R.cells) (hslots : slots + N ≤ R.slots) (hd : decode cc pc = .ok (.newarray atype, 2))
    (kk : ∀ q : Nat, VW g A nL p l e R s m args below meth c (cells + 1) (slots + N) Q (wss ++ [[(q, .inl (g.2.1 t0, a0))]]) lv (pc + 2) (.ref q :: st)) : VW g A nL p l e R s m args below meth c cells slots Q wss lv pc (.int n :: st) := by
  intro H locs ls hP hD hS hl
  have hK := C.2.2.2.2.2.1.1.1
  refine va_newa C.1 C.2.1 (C.2.2.2.2.1 _ harr) rfl hK hP hD hS C.2.2.2.2.2.2.1 ha hn hN hbytes hcells hslots hd (fun q cA H1 hK1 hP1 hD1 hS1 => ?_)
  have e1 : cA = g.2.1 t0 := by
    have h1 := (hK.2 t0 _ ht).2
    have h2 := (hK1.2 (xTys g.2.1).length (cA, newarray.typeOf atype) (by rw [List.getElem?_append_right (Nat.le_refl _), Nat.sub_self]; rfl)).2
    cases atype <;> exact Option.some.inj (Eq.trans (Eq.symm h2) h1)
  subst e1
  rw [x_flat1] at hP1 hD1
  exact kk q H1 locs ls hP1 hD1 hS1 hl
theorem x_new (C : CX g own cc nL A p s m args meth c) {Cn : String} {T : u_T} {N ci index : Nat} (hin : ∀ w ∈ u_ws Cn T N, w ∈ xTB) (ty0 : Nat → FieldType) (hty : ∀ k, k < N → parseFieldDescriptor (T k).2.2.1 = some (ty0 k)) (hc : vwCl[ci]? = some (Cn, T, N)) (hcl : Cond.classLink own index Cn ∈ xTB) (hinst : Cond.instantiable Cn N ∈ xTB) (hini : Cond.initialized Cn ∈ xTB)
    {fs : List Value} (hfs : ∀ j, j < N → defaultValue (ty0 j) = vp_V fs j) (hcells : cells + 1 ≤ R.cells) (hslots : slots + N ≤ R.slots) (hd : decode cc pc = .ok (.new index, 3))
    (kk : ∀ q : Nat, VW g A nL p l e R s m args below meth c (cells + 1) (slots + N) Q (wss ++ [[(q, .inr (ci, fs))]]) lv (pc + 3) (.ref q :: st)) : VW g A nL p l e R s m args below meth c cells slots Q wss lv pc st := by
  intro H locs ls hP hD hS hl
  refine va_new C.1 C.2.1 C.2.2.2.2.1 hin ty0 hty C.2.2.2.1 (C.2.2.2.2.1 _ hcl) (C.2.2.2.2.1 _ hinst) (C.2.2.2.2.1 _ hini) C.2.2.2.2.2.1.1.1 hP hD hS C.2.2.2.2.2.2.1 hc hfs hcells hslots hd (fun q H1 hP1 hD1 hS1 => ?_)
  rw [x_flat1] at hP1 hD1
  exact kk q H1 locs ls hP1 hD1 hS1 hl
theorem x_newq (C : CX g own cc nL A p s m args meth c) {Cn : String} {index : Nat} (t0 : Nat) (ht : (xTys g.2.1)[t0]? = some (g.2.1 t0, .object Cn)) (hcl : Cond.classLink own index Cn ∈ xTB) (hover : va_AO Cn s) {n : Int32} {N : Nat} (hn : ¬ n < 0) (hN : n.toNatClampNeg = N) (hbytes : N * 4 ≤ 536870912) (hcells : cells + 1 ≤ R.cells) (hslots : slots + N ≤ R.slots) (hd : decode cc pc = .ok (.anewarray index, 3))
    (kk : ∀ q : Nat, VW g A nL p l e R s m args below meth c (cells + 1) (slots + N) Q (wss ++ [[(q, .inl (g.2.1 t0, N, .inr (.inr (.inr (.inr (fun _ => none))))))]]) lv (pc + 3) (.ref q :: st)) : VW g A nL p l e R s m args below meth c cells slots Q wss lv pc (.int n :: st) := by
  intro H locs ls hP hD hS hl
  have hK := C.2.2.2.2.2.1.1.1
  refine va_newq C.1 C.2.1 C.2.2.2.1 (C.2.2.2.2.1 _ hcl) hover hK hP hD hS C.2.2.2.2.2.2.1 hn hN hbytes hcells hslots hd (fun q cA H1 hK1 hP1 hD1 hS1 => ?_)
  have e1 : cA = g.2.1 t0 := by
    obtain ⟨k1, c1, -, -, -, h1⟩ := (hK.2 t0 _ ht).2
    obtain ⟨k2, c2, -, -, -, h2⟩ := (hK1.2 (xTys g.2.1).length (cA, .object Cn) (by rw [List.getElem?_append_right (Nat.le_refl _), Nat.sub_self]; rfl)).2
    exact Option.some.inj (h2.symm.trans h1)
  subst e1
  rw [x_flat1] at hP1 hD1
  exact kk q H1 locs ls hP1 hD1 hS1 hl
/-- a reference into an array of references -/
theorem x_aast (C : CX g own cc nL A p s m args meth c) (t0 : Nat) {Cn : String} {T : u_T} {N ci : Nat} (ht : (xTys g.2.1)[t0]? = some (g.2.1 t0, .object Cn)) (hc : vwCl[ci]? = some (Cn, T, N)) (bi : Nat) {b : va_W} (hb : wss[bi]? = some b) (j : Nat) {a n : Nat} {f : Nat → Option Nat} (he : b[j]? = some (a, .inl (g.2.1 t0, n, .inr (.inr (.inr (.inr f))))))
    (bk : Nat) {bv : va_W} (hbv : wss[bk]? = some bv) (jv : Nat) {v : Nat} {vs : List Value} (hev : bv[jv]? = some (v, .inr (ci, vs))) {i : Int32} (hin : ¬ (i < 0 ∨ n ≤ i.toNatClampNeg)) {b' : va_W} (hb' : b.set j (a, .inl (g.2.1 t0, n, .inr (.inr (.inr (.inr (va_up f i.toNatClampNeg (some v))))))) = b') (hw : wss.set bi b' = wss') (hd : decode cc pc = .ok (.aastore, 1))
    (kk : VW g A nL p l e R s m args below meth c cells slots Q wss' lv (pc + 1) st) : VW g A nL p l e R s m args below meth c cells slots Q wss lv pc (.ref v :: .int i :: .ref a :: st) := by
  intro H locs ls hP hD hS hl
  obtain ⟨q0, h1, h2⟩ := x_flat hb he
  obtain ⟨qk, h3, -⟩ := x_flat hbv hev
  refine va_astq C.1 C.2.1 C.2.2.2.2.2.1.1.1 hP hD hS q0 t0 qk ci h1 ht h3 hc hin hd (fun H1 locs1 hP1 hD1 hS1 => ?_)
  rw [h2, hb', hw] at hP1 hD1
  exact kk H1 locs1 ls hP1 hD1 hS1 hl
theorem x_max (C : CX g own cc nL A p s m args meth c) {index : Nat} {x y : Int32} {rest : List Value} (hlink : Cond.methodLink own index Lib.Math.max.name ∈ xTB) (hstat : Cond.static Lib.Math.max.name ∈ xTB) (hini : Cond.initialized "java/lang/Math" ∈ xTB) (hcode : Cond.code Lib.Math.max.name Lib.Math.max.code 2 (some .int) ∈ xTB) (hR : 1 ≤ R.frames ∧ (rest.map fun v => v.category).sum + 13 ≤ R.locals) (hf : cells ≤ R.cells ∧ slots ≤ R.slots) (hd : decode cc pc = .ok (.invokestatic index, 3)) (kk : VW g A nL p l e R s m args below meth c cells slots Q wss lv (pc + 3) (.int (jmax x y) :: rest)) : VW g A nL p l e R s m args below meth c cells slots Q wss lv pc (.int y :: .int x :: rest) :=
  fun H locs ls hP hD hS hl => va_mmax C.1 C.2.1 (C.2.2.1.trans hl.1.symm) C.2.2.2.1 (C.2.2.2.2.1 _ hlink) (C.2.2.2.2.1 _ hstat) (C.2.2.2.2.1 _ hini) (C.2.2.2.2.1 _ hcode) hR.1 hR.2 hf.1 hf.2 hd (kk H locs ls hP hD hS hl)
theorem x_objInit (C : CX g own cc nL A p s m args meth c) {index a : Nat} (hlink : Cond.methodLink own index Lib.objectInit ∈ xTB) (hinst : Cond.instanceMethod Lib.objectInit ∈ xTB) (hcode : Cond.code Lib.objectInit ⟨#[0xb1]⟩ 1 none ∈ xTB) (hR : 1 ≤ R.frames ∧ (st.map fun v => v.category).sum + 12 ≤ R.locals) (hd : decode cc pc = .ok (.invokespecial index, 3))
    (kk : VW g A nL p l e R s m args below meth c cells slots Q wss lv (pc + 3) st) : VW g A nL p l e R s m args below meth c cells slots Q wss lv pc (.ref a :: st) := by
  intro H locs ls hP hD hS hl
  refine W.objInit C.1 C.2.1 C.2.2.2.1 (C.2.2.2.2.1 _ hlink) (C.2.2.2.2.1 _ hinst) (C.2.2.2.2.1 _ hcode) rfl (hl.1.trans C.2.2.1.symm) rfl hd hR.1 ?_ (kk H locs ls hP hD hS hl)
  show 2 * 0 + _ + 12 ≤ R.locals
  omega
theorem x_copyi (C : CX g own cc nL A p s m args meth c) {index : Nat} (hlink : Cond.methodLink own index arraycopyName ∈ xTB) (hnat : Cond.native arraycopyName ∈ xTB) (hstat : Cond.static arraycopyName ∈ xTB) (hini : Cond.initialized "java/lang/System" ∈ xTB) (t0 : Nat) {ty : FieldType} (ht : (xTys g.2.1)[t0]? = some (g.2.1 t0, ty)) (hprim : refKind ty = false)
    (bi : Nat) {b : va_W} (hb : wss[bi]? = some b) (j : Nat) {a n1 : Nat} {f1 : Nat → Int32} (he : b[j]? = some (a, .inl (g.2.1 t0, n1, .inl f1))) (bk : Nat) {bs : va_W} (hbs : wss[bk]? = some bs) (js : Nat) {a0 n0 : Nat} {f0 : Nat → Int32} (hes : bs[js]? = some (a0, .inl (g.2.1 t0, n0, .inl f0)))
    {sp dp n : Int32} (h1 : ¬ sp < 0) (h2 : ¬ dp < 0) (h3 : ¬ n < 0) (h4 : sp.toNatClampNeg + n.toNatClampNeg ≤ n0) (h5 : dp.toNatClampNeg + n.toNatClampNeg ≤ n1) (hfit : ∀ i, i < n.toNatClampNeg → fits ty (.int (f0 (sp.toNatClampNeg + i))) = true)
    (hR : 1 ≤ R.frames ∧ (st.map fun v => v.category).sum + (nativeFrameWords "java/lang/System" "arraycopy" 5 + 11) ≤ R.locals) {b' : va_W} (hb' : b.set j (a, .inl (g.2.1 t0, n1, .inl (va_cpy f0 f1 sp.toNatClampNeg dp.toNatClampNeg n.toNatClampNeg))) = b') (hw : wss.set bi b' = wss') (hd : decode cc pc = .ok (.invokestatic index, 3))
    (kk : VW g A nL p l e R s m args below meth c cells slots Q wss' lv (pc + 3) st) : VW g A nL p l e R s m args below meth c cells slots Q wss lv pc (.int n :: .int dp :: .ref a :: .int sp :: .ref a0 :: st) := by
  intro H locs ls hP hD hS hl
  obtain ⟨q1, e1, e2⟩ := x_flat hb he
  obtain ⟨q0, e3, -⟩ := x_flat hbs hes
  refine va_copyi C.1 C.2.1 (C.2.2.1.trans hl.1.symm) C.2.2.2.1 (C.2.2.2.2.1 _ hlink) (C.2.2.2.2.1 _ hnat) (C.2.2.2.2.1 _ hstat) (C.2.2.2.2.1 _ hini) C.2.2.2.2.2.1.1.1 hP hD hS q0 q1 t0 t0 e3 e1 ht ht hprim h1 h2 h3 h4 h5 hfit hR.1 hR.2 hd (fun H1 locs1 hP1 hD1 hS1 => ?_)
  rw [e2, hb', hw] at hP1 hD1
  exact kk H1 locs1 ls hP1 hD1 hS1 hl
end XZ
theorem x_selP {Cn : String} {y : MethodName} {s : State} {args : Array Value} {n : Nat} (hy : y.cls ≠ "java/lang/invoke/MethodHandle" ∧ y.cls ≠ "java/lang/invoke/VarHandle")
    (hins : (Cond.instantiable Cn n).before args s = true) (hpriv : (Cond.privateMethod y).before args s = true) (hinst : (Cond.instanceMethod y).before args s = true) (hsame : (Cond.sameMethod y.cls y.cls y.name y.desc).before args s = true) :
    (Cond.selects Cn y y).before args s = true := by
  obtain ⟨c, k, hc, hk, -, hniab, -, -⟩ := Cond.instantiable_spec hins
  have hni : k.isInterface = false := (Bool.or_eq_false_iff.mp hniab).1
  obtain ⟨mk, methM, hnamed, hmethM, -, -⟩ := Cond.instanceMethod_spec hinst
  have hfound : s.methodFound? y.cls y.name y.desc = some mk := State.methodFound?_of_named hnamed hy
  have hsel : selectMethod {} s.vm c mk = .method mk := selectMethod_private hmethM (Cond.privateMethod_at hpriv mk methM hnamed hmethM)
  obtain ⟨k2, hk2, hi2⟩ := (Cond.sameMethod_spec (findClass_of_methodNamed hnamed) hfound hsame).2
  simp only [Cond.before, Cond.holds, Cond.value, hc, hfound, hnamed, hsel, hk, hk2]
  simp
  exact hi2
section XP
variable {p : Program} {l : Launch} {e : Env} {R : Room} {s : State} {m : MethodId} {args : Array Value} {below : List Frame} {meth : Method} {c : Code} {cells slots : Nat} {Q : State → Prop}
variable {g : xG} {A : Nat → Prop} {nL : Nat} {cc : ByteArray} {own : String} {wss wss' : List va_W} {lv lv' : List (Nat × Value)} {pc : Nat} {st : List Value}
/-- a private method of a superclass -/
def xCP (R : Room) (own Cn : String) (index : Nat) (y : MethodName) (bytes : ByteArray) (maxL : Nat) (ret : Option FieldType) (rm : Room) (mc ms n : Nat) : Prop :=
  (Cond.code y bytes maxL ret ∈ xTB ∧ Cond.methodLink own index y ∈ xTB ∧ Cond.sameMethod y.cls y.cls y.name y.desc ∈ xTB ∧ (Cn = "java/lang/StringBuilder" ∧ y ∈ nwS) ∧ Cond.instanceMethod y ∈ xTB ∧ Cond.initialized y.cls ∈ xTB) ∧ (y.cls ≠ "java/lang/invoke/MethodHandle" ∧ y.cls ≠ "java/lang/invoke/VarHandle" ∧ (parseMethodDescriptor y.desc).map (fun d => d.parameters.length) = some n) ∧ rm.cells = mc ∧ rm.slots = ms ∧ rm.frames + 1 ≤ R.frames ∧ 8 + (maxL + 11) + rm.locals ≤ R.locals
theorem xCP_ht {Cn : String} {index : Nat} {y : MethodName} {bytes : ByteArray} {maxL : Nat} {ret : Option FieldType} {rm : Room} {mc ms n : Nat} (C : CX g own cc nL A p s m args meth c) (h : xCP R own Cn index y bytes maxL ret rm mc ms n) : ∀ w ∈ Cond.selects Cn y y :: xTB, w.before args s = true := by
  obtain ⟨⟨w1, w2, w3, ⟨rfl, w4⟩, w6, w7⟩, hd, -⟩ := h
  intro w hw
  rcases List.mem_cons.mp hw with rfl | hw
  · exact va_Nw.use rfl (C.2.2.2.2.2.1.2.1.2.2.2.2.2.2.2 y w4)
  · exact C.2.2.2.2.1 w hw
theorem xCP_of {Cn : String} {index : Nat} {y : MethodName} {bytes : ByteArray} {maxL : Nat} {ret : Option FieldType} {rm : Room} {mc ms n : Nat} (C : CX g own cc nL A p s m args meth c) (h : xCP R own Cn index y bytes maxL ret rm mc ms n) : va_CU R s args own Cn y.cls index y y bytes maxL ret (Cond.code y bytes maxL ret :: xTB) rm mc ms n := by
  have ht := xCP_ht C h
  obtain ⟨⟨w1, w2, w3, w4, w6, w7⟩, hd, hc, hs, hf, hl⟩ := h
  refine va_cwU n ht ?_ rfl hc hs rfl hd ⟨hf, hl⟩
  have up : ∀ w, w ∈ xTB → w ∈ Cond.selects Cn y y :: xTB ∧ _ := fun w hw => ⟨List.mem_cons_of_mem _ hw, good_of_word (xTB_good hw)⟩
  intro w hw
  simp only [va_wsU, List.mem_append, List.mem_cons, List.not_mem_nil, or_false] at hw
  rcases hw with (rfl | rfl | rfl | rfl | rfl) | rfl | hw
  · exact up _ w2
  · exact up _ w3
  · exact ⟨List.mem_cons_self, good_of_word rfl⟩
  · exact up _ w6
  · exact up _ w7
  · exact up _ w1
  · exact up _ hw
theorem x_dropE (wr : List va_W) (h : wss.flatten.Perm (wss'.flatten ++ wr.flatten)) (k : VW g A nL p l e R s m args below meth c cells slots Q wss' lv pc st) : VW g A nL p l e R s m args below meth c cells slots Q wss lv pc st :=
  fun H locs ls hP hD hS hl => k H locs ls (va_P_left (va_P_perm h hP)) (va_D_left (va_D_perm h hD)) hS hl
theorem x_callUP (C : CX g own cc nL A p s m args meth c) {Cn : String} {y : MethodName} {bytes : ByteArray} {maxL index n mc ms : Nat} {ret : Option FieldType} {rm : Room} {b : Nat} {As rest stk : List Value} {w0 : va_W} {Qr : Option Value → va_W → Prop} (hM : Con g l y bytes maxL ret rm (.ref b :: As) w0 Qr mc ms) (hcb : xCP R own Cn index y bytes maxL ret rm mc ms n)
    (recv : ∃ (q0 ci : Nat) (q : vw_C) (fs : List Value), vwCl[ci]? = some q ∧ w0[q0]? = some (b, .inr (ci, fs)) ∧ q.1 = Cn) (wr : List va_W) (hperm : wss.flatten.Perm (w0 ++ wr.flatten)) (hn : As.length = n) (hstk : stk = As.reverse ++ .ref b :: rest) (hst : (rest.map fun v => v.category).sum ≤ 8) (hf : cells + mc ≤ R.cells ∧ slots + ms ≤ R.slots) (hd : decode cc pc = .ok (.invokevirtual index, 3))
    (kk : ∀ (v : Option Value) (w1 : va_W), Qr v w1 → VW g A nL p l e R s m args below meth c (cells + mc) (slots + ms) Q (w1 :: wr) lv (pc + 3) (v.toList ++ rest)) : VW g A nL p l e R s m args below meth c cells slots Q wss lv pc stk := by
  intro H locs ls hP hD hS hl
  have hP := va_P_perm hperm hP
  have hD := va_D_perm hperm hD
  subst hstk
  obtain ⟨q0, ci, q, fs, h1, h3, rfl⟩ := recv
  exact x_after hP hD hS C.2.2.2.2.2.2.1 hl (va_runU (nL := nL) (Ts := Cond.selects q.1 y y :: xTB) (C := q.1) ⟨C.1, C.2.1, C.2.2.1, C.2.2.2.1, xCP_ht C hcb⟩ (hM H.size) (xCP_of C hcb) ⟨xPc_blind, va_recv C.2.2.2.2.2.1.1.1 (va_P_left hP) h1 h3, x_pre C hP hD hS⟩ rfl hn hl.1 rfl (lv_room hst) hd hf) (fun v w1 hQ H1 locs1 hP1 hD1 hS1 => kk v w1 hQ H1 locs1 ls hP1 hD1 hS1 hl)
/-- an inherited method, the receiver an object of the world -/
theorem x_callUW (C : CX g own cc nL A p s m args meth c) {Cn owner : String} {x y : MethodName} {bytes : ByteArray} {maxL index n mc ms : Nat} {ret : Option FieldType} {rm : Room} {b : Nat} {As rest stk : List Value} {w0 : va_W} {Qr : Option Value → va_W → Prop} (hM : Con g l y bytes maxL ret rm (.ref b :: As) w0 Qr mc ms) (hcb : xCU R own Cn owner index x y bytes maxL ret rm mc ms n)
    (recv : ∃ (q0 ci : Nat) (q : vw_C) (fs : List Value), vwCl[ci]? = some q ∧ w0[q0]? = some (b, .inr (ci, fs)) ∧ q.1 = Cn) (wr : List va_W) (hperm : wss.flatten.Perm (w0 ++ wr.flatten)) (hn : As.length = n) (hstk : stk = As.reverse ++ .ref b :: rest) (hst : (rest.map fun v => v.category).sum ≤ 8) (hf : cells + mc ≤ R.cells ∧ slots + ms ≤ R.slots) (hd : decode cc pc = .ok (.invokevirtual index, 3))
    (kk : ∀ (v : Option Value) (w1 : va_W), Qr v w1 → VW g A nL p l e R s m args below meth c (cells + mc) (slots + ms) Q (w1 :: wr) lv (pc + 3) (v.toList ++ rest)) : VW g A nL p l e R s m args below meth c cells slots Q wss lv pc stk :=
  x_callU C hM hcb (fun H locs hP hS => by
    obtain ⟨q0, ci, q, fs, h1, h3, rfl⟩ := recv
    exact va_recv C.2.2.2.2.2.1.1.1 hP h1 h3) wr hperm hn hstk hst hf hd kk
end XP
