/-! METHODS THAT RETURN OR THROW; families of blobs -/
def xXc (g : xG) (w0 : va_W) (sz : Nat) (Xr : String → va_W → Prop) : String → State → State → Prop := fun E st t => (∃ w1 : va_W, Xr E w1 ∧ va_P g.1 vwCl w1 t.heap ∧ va_D (va_A w0 sz) w1) ∧ va_F (va_A w0 sz) st t
def ConX (g : xG) (l : Launch) (y : MethodName) (cc : ByteArray) (maxL : Nat) (ret : Option FieldType) (rm : Room) (av : List Value) (w0 : va_W) (Qr : Option Value → va_W → Prop) (Xr : String → va_W → Prop) (mc ms : Nat) : Prop :=
  ∀ sz : Nat, vx_Met l y (Cond.code y cc maxL ret :: xTB) rm (xPc g av w0 sz) (xQc g w0 sz Qr) (xXc g w0 sz Xr) mc ms (va_A w0 sz)
/-- the exceptions' names by their numbers -/
def xcE (k : Nat) : String := nwC.getD k ""
def nwAll : List Cond := nwD.map Cond.declares ++ nwC.map (fun E => Cond.castable E E)
section XX
variable {p : Program} {l : Launch} {e : Env} {R : Room} {s : State} {m : MethodId} {args : Array Value} {below : List Frame} {meth : Method} {c : Code} {cells slots : Nat} {Q : State → Prop}
variable {g : xG} {A : Nat → Prop} {nL : Nat} {cc : ByteArray} {own : String} {wss wss' : List va_W} {lv lv' : List (Nat × Value)} {pc : Nat} {st : List Value}
theorem ConX_of {y : MethodName} {maxL : Nat} {ret : Option FieldType} {rm : Room} {av : List Value} {w0 : va_W} {Qr : Option Value → va_W → Prop} {Xr : String → va_W → Prop} {mc ms : Nat} (w0s : List va_W) (lv0 : List (Nat × Value)) (hw0 : w0s.flatten = w0) (hlv : lv_args 0 av = lv0) (hy : plainName y.cls = true) (hlen : (lg_sl av).length ≤ maxL)
    (body : ∀ (p : Program) (e : Env) (s : State) (m : MethodId) (args : Array Value) (below : List Frame) (meth : Method) (c : Code), CX g y.cls cc maxL (va_A w0 s.heap.size) p s m args meth c → meth.name = y.name → meth.sig.returnType = ret → (∀ x ∈ c.exceptionTable.toList, False) →
      VW g (va_A w0 s.heap.size) maxL p l e rm s m args below meth c 0 0 (vx_MQ below (xQc g w0 s.heap.size Qr) (xXc g w0 s.heap.size Xr) args s mc ms (va_A w0 s.heap.size)) w0s lv0 0 []) : ConX g l y cc maxL ret rm av w0 Qr Xr mc ms := by
  intro sz
  subst hw0
  subst hlv
  refine vx_ofW (cc := cc) (maxL := maxL) (ret := ret) hy rfl ?_
  intro p e s m args below meth c s₁ B hml ht hv
  obtain ⟨rfl, hsz, hP, hD0, hG⟩ := hv
  subst hsz
  have hts := atoms_spec (ws := Cond.code y cc maxL ret :: xTB) B.pre
  have hl := lv_entry av (n := maxL) hlen
  rw [lg_entry_eq]
  exact body p e s m _ below meth c ⟨B.exec, B.bytes, hml, findClass_of_methodNamed B.named, fun w hw => hts w (List.mem_cons_of_mem _ hw), hG, fun q hq => Or.inr hq, B.notSynchronized⟩ (name_of_methodNamed B.named B.method).1 B.returns ht s.heap [] _ hP hD0.self va_S.rf hl
/-- an ordinary end of such a method -/
theorem x_vx {Qc : Array Value → State → Outcome → State → Prop} {XC : String → State → State → Prop} {mc ms : Nat} {free : Addr → Prop} (k : VW g A nL p l e R s m args below meth c cells slots (MQ below Qc args s mc ms free) wss lv pc st) : VW g A nL p l e R s m args below meth c cells slots (vx_MQ below Qc XC args s mc ms free) wss lv pc st :=
  fun H locs ls hP hD hS hl => vx_ret (k H locs ls hP hD hS hl)
/-- with an exception of class E thrown -/
def VX (g : xG) (A : Nat → Prop) (nL : Nat) (p : Program) (l : Launch) (e : Env) (R : Room) (s : State) (m : MethodId) (args : Array Value) (below : List Frame) (meth : Method) (c : Code) (cells slots : Nat) (Q : State → Prop) (E : String) (wss : List va_W) (lv : List (Nat × Value)) (pc : Nat) (st : List Value) : Prop :=
  ∀ (H : Heap) (locs : List Loc) (ls : Array Slot) (q : Addr) (ce : Cell), va_P g.1 vwCl wss.flatten H → va_D A wss.flatten → va_S A s.heap H locs → lv_has ls nL lv → H[q]? = some ce → ce.vm = .none → s.vm.findClass E = some ce.cls → vx_W p l e R s m args below meth c H locs cells slots Q (F0 m pc ls st) q
theorem x_prop {w0 : va_W} {Qc : Array Value → State → Outcome → State → Prop} {Xr : String → va_W → Prop} {mc ms : Nat} {E : String} (C : CX g own cc nL (va_A w0 s.heap.size) p s m args meth c) (hout : ∀ x ∈ c.exceptionTable.toList, False) (hX : Xr E wss.flatten) (hc : cells ≤ mc) (hs : slots ≤ ms) :
    VX g (va_A w0 s.heap.size) nL p l e R s m args below meth c cells slots (vx_MQ below Qc (xXc g w0 s.heap.size Xr) args s mc ms (va_A w0 s.heap.size)) E wss lv pc st :=
  fun H locs ls q ce hP hD hS hl hcell hv hcl => vx_out (fun x hx => (hout x hx).elim) C.2.2.2.2.2.2.2 hcell hv hcl (fun t ht hW => ⟨⟨_, hX, by rw [ht]; exact hP, hD⟩, hS.F ht⟩) hS.2.2 hc hs
/-- what a thrower's words are -/
theorem x_atS {ic : Nat} {cls : String} {names : List String} (C : CX g own cc nL A p s m args meth c) (h : (vx_atS own ic cls names).all (fun w => (decide (w ∈ lw_tbl) && goodWord w) || decide (w ∈ nwAll)) = true) : ∀ w ∈ vx_atS own ic cls names, w.before args s = true := by
  intro w hw
  have h1 := List.all_eq_true.mp h w hw
  simp only [Bool.or_eq_true, Bool.and_eq_true, decide_eq_true_eq] at h1
  rcases h1 with h1 | h1
  · exact C.2.2.2.2.1 _ (List.mem_filter.mpr ⟨h1.1, h1.2⟩)
  · rcases List.mem_append.mp h1 with h2 | h2
    · obtain ⟨y, hy, rfl⟩ := List.mem_map.mp h2
      exact va_Nw.use rfl (C.2.2.2.2.2.1.2.1.2.2.1 y hy)
    · obtain ⟨E, hE, rfl⟩ := List.mem_map.mp h2
      exact va_Nw.use rfl (C.2.2.2.2.2.1.2.1.2.2.2.1 E hE)
theorem x_throwS {w0 : va_W} {Qc : Array Value → State → Outcome → State → Prop} {Xr : String → va_W → Prop} {mc ms : Nat} (C : CX g own cc nL (va_A w0 s.heap.size) p s m args meth c) (hout : ∀ x ∈ c.exceptionTable.toList, False) (hl : l.stackTraces = false) {cls text : String} {ik is ic sa : Nat} (hcls : Bundle.fit cls = true)
    (hk : Cond.classLink own ik cls ∈ xTB) (hini : Cond.initialized cls ∈ xTB) (hstr : vk_R own is text sa s) (hat : (vx_atS own ic cls ["java/lang/RuntimeException", "java/lang/Exception"]).all (fun w => (decide (w ∈ lw_tbl) && goodWord w) || decide (w ∈ nwAll)) = true) (hgood : ∀ w ∈ Cond.classLink own ik cls :: Cond.initialized cls :: vx_atS own ic cls ["java/lang/RuntimeException", "java/lang/Exception"], vx_ot w = true)
    (d0 : decode cc pc = .ok (.new ik, 3)) (d3 : decode cc (pc + 3) = .ok (.dup, 1)) (d4 : decode cc (pc + 4) = .ok (.ldc is, 2)) (d6 : decode cc (pc + 6) = .ok (.invokespecial ic, 3)) (d9 : decode cc (pc + 9) = .ok (.athrow, 1))
    (hR : 5 < R.frames ∧ (st.map fun v => v.category).sum + 82 ≤ R.locals ∧ cells + 1 ≤ R.cells ∧ slots + 6 ≤ R.slots) (hX : Xr cls wss.flatten) (hc : cells + 1 ≤ mc) (hs : slots + 6 ≤ ms) :
    VW g (va_A w0 s.heap.size) nL p l e R s m args below meth c cells slots (vx_MQ below Qc (xXc g w0 s.heap.size Xr) args s mc ms (va_A w0 s.heap.size)) wss lv pc st :=
  fun H locs ls hP hD hS hlv => vx_throwS (names := ["java/lang/RuntimeException", "java/lang/Exception"]) C.1 C.2.1 hl C.2.2.2.1 hcls (by decide) (C.2.2.2.2.1 _ hk) (C.2.2.2.2.1 _ hini) hstr (x_atS C hat) hgood C.2.2.2.2.2.1.2.2.1.1 C.2.2.2.2.2.1.2.2.1.2 hS (hlv.1.trans C.2.2.1.symm) d0 d3 d4 d6 d9 (fun x hx => (hout x hx).elim) hR.1 hR.2.1 hR.2.2.1 hR.2.2.2 C.2.2.2.2.2.2.2
    (fun t hA h1 h2 => ⟨⟨_, hX, hP.kept (fun k q hq => h2 q.1 ((hP k q hq).lt)), hD⟩, Nat.le_trans hS.1 h1, fun q q1 q2 => (h2 q (Nat.lt_of_lt_of_le q1 hS.1)).trans (hS.2.1 q q1 q2)⟩) hS.2.2 hc hs
theorem x_throwSW {w0 : va_W} {Qc : Array Value → State → Outcome → State → Prop} {Xr : String → va_W → Prop} {mc ms : Nat} (C : CX g own cc nL (va_A w0 s.heap.size) p s m args meth c) (hout : ∀ x ∈ c.exceptionTable.toList, False) (hl : l.stackTraces = false) {cls text : String} {ik is ic sa : Nat} (hcls : Bundle.fit cls = true)
    (hk : Cond.classLink own ik cls ∈ xTB) (hini : Cond.initialized cls ∈ xTB) (hstr : vk_R own is text sa s) (hat : (vx_atS own ic cls ["java/lang/RuntimeException", "java/lang/Exception"]).all (fun w => (decide (w ∈ lw_tbl) && goodWord w) || decide (w ∈ nwAll)) = true) (hgood : ∀ w ∈ Cond.classLink own ik cls :: Cond.initialized cls :: vx_atS own ic cls ["java/lang/RuntimeException", "java/lang/Exception"], vx_ot w = true)
    (d0 : decode cc pc = .ok (.new ik, 3)) (d3 : decode cc (pc + 3) = .ok (.dup, 1)) (d4 : decode cc (pc + 4) = .ok (.ldc_w is, 3)) (d7 : decode cc (pc + 7) = .ok (.invokespecial ic, 3)) (d10 : decode cc (pc + 10) = .ok (.athrow, 1))
    (hR : 5 < R.frames ∧ (st.map fun v => v.category).sum + 82 ≤ R.locals ∧ cells + 1 ≤ R.cells ∧ slots + 6 ≤ R.slots) (hX : Xr cls wss.flatten) (hc : cells + 1 ≤ mc) (hs : slots + 6 ≤ ms) :
    VW g (va_A w0 s.heap.size) nL p l e R s m args below meth c cells slots (vx_MQ below Qc (xXc g w0 s.heap.size Xr) args s mc ms (va_A w0 s.heap.size)) wss lv pc st :=
  fun H locs ls hP hD hS hlv => vx_throwSW (names := ["java/lang/RuntimeException", "java/lang/Exception"]) C.1 C.2.1 hl C.2.2.2.1 hcls (by decide) (C.2.2.2.2.1 _ hk) (C.2.2.2.2.1 _ hini) hstr (x_atS C hat) hgood C.2.2.2.2.2.1.2.2.1.1 C.2.2.2.2.2.1.2.2.1.2 hS (hlv.1.trans C.2.2.1.symm) d0 d3 d4 d7 d10 (fun x hx => (hout x hx).elim) hR.1 hR.2.1 hR.2.2.1 hR.2.2.2 C.2.2.2.2.2.2.2
    (fun t hA h1 h2 => ⟨⟨_, hX, hP.kept (fun k q hq => h2 q.1 ((hP k q hq).lt)), hD⟩, Nat.le_trans hS.1 h1, fun q q1 q2 => (h2 q (Nat.lt_of_lt_of_le q1 hS.1)).trans (hS.2.1 q q1 q2)⟩) hS.2.2 hc hs
/-- behind a run of a callee that may throw -/
theorem x_afterX {H : Heap} {locs : List Loc} {ls : Array Slot} {stk rest : List Value} {w0 wr : va_W} {av : Array Value} {Qr : Option Value → va_W → Prop} {Xr : String → va_W → Prop} {mc ms : Nat} (hP : va_P g.1 vwCl (w0 ++ wr) H) (hD : va_D A (w0 ++ wr)) (hS : va_S A s.heap H locs) (hA : ∀ q, s.heap.size ≤ q → A q) (hl : lv_has ls nL lv)
    (run : vx_Run p l e R s m args below meth c H locs cells slots mc ms (F0 m pc ls stk) rest (xQc g w0 H.size Qr av) (xXc g w0 H.size Xr) (va_A w0 H.size))
    (kx : ∀ (E : String) (w1 : va_W), Xr E w1 → ∀ (H1 : Heap) (locs1 : List Loc) (q : Addr) (ce : Cell), va_P g.1 vwCl (w1 ++ wr) H1 → va_D A (w1 ++ wr) → va_S A s.heap H1 locs1 → H1[q]? = some ce → ce.vm = .none → s.vm.findClass E = some ce.cls → vx_W p l e R s m args below meth c H1 locs1 (cells + mc) (slots + ms) Q (F0 m pc ls rest) q)
    (kk : ∀ (v : Option Value) (w1 : va_W), Qr v w1 → ∀ (H1 : Heap) (locs1 : List Loc), va_P g.1 vwCl (w1 ++ wr) H1 → va_D A (w1 ++ wr) → va_S A s.heap H1 locs1 → W p l e R s m args below meth c H1 locs1 (cells + mc) (slots + ms) Q (F0 m (pc + 3) ls (v.toList ++ rest))) :
    W p l e R s m args below meth c H locs cells slots Q (F0 m pc ls stk) := by
  have hF := x_freeA hD hS hA
  intro T hT X
  rcases run T hT X with ⟨v, st₀, t, T', L, h0, X', hL, e1, e2, ⟨⟨v', w1, hv, hQ, hP1, hD1⟩, hz, hk⟩, stp⟩ | ⟨q, st₀, t, T', L, E, ce, h0, X', hL, e1, e2, ⟨⟨w1, hQ, hP1, hD1⟩, hz, hk⟩, hce, hcv, hcl, stp⟩
  · cases hv
    rw [h0] at hz hk
    obtain ⟨hPj, hDj⟩ := x_join hP hD (H1 := t.heap) hk hF hP1 hD1
    obtain ⟨t2, a1, b1⟩ := kk v w1 hQ T'.heap (locs ++ L) (by rw [e1]; exact hPj) hDj
      ⟨Nat.le_trans hS.1 (by rw [e1]; exact hz), fun q h1 h2 => by rw [e1, hk q (Nat.lt_of_lt_of_le h1 hS.1) (fun z => h2 (hF q z))]; exact hS.2.1 q h1 h2, fun q hq => by
        rcases List.mem_append.mp hq with h | h
        · exact hS.2.2 q h
        · exact hF _ (hL q h)⟩ T' rfl X'
    exact ⟨t2, stp t2 a1, b1⟩
  · rw [h0] at hz hk
    obtain ⟨hPj, hDj⟩ := x_join hP hD (H1 := t.heap) hk hF hP1 hD1
    obtain ⟨t2, a1, b1⟩ := kx E w1 hQ T'.heap (locs ++ L) q ce (by rw [e1]; exact hPj) hDj
      ⟨Nat.le_trans hS.1 (by rw [e1]; exact hz), fun q h1 h2 => by rw [e1, hk q (Nat.lt_of_lt_of_le h1 hS.1) (fun z => h2 (hF q z))]; exact hS.2.1 q h1 h2, fun q hq => by
        rcases List.mem_append.mp hq with h | h
        · exact hS.2.2 q h
        · exact hF _ (hL q h)⟩ (by rw [e1]; exact hce) hcv hcl T' rfl X'
    exact ⟨t2, stp.trans a1, b1⟩
theorem x_xcallV (C : CX g own cc nL A p s m args meth c) {y : MethodName} {bytes : ByteArray} {maxL index n mc ms : Nat} {ret : Option FieldType} {rm : Room} {b : Nat} {As rest stk : List Value} {w0 : va_W} {Qr : Option Value → va_W → Prop} {Xr : String → va_W → Prop} (hM : ConX g l y bytes maxL ret rm (.ref b :: As) w0 Qr Xr mc ms) (hcb : xCB R own index y bytes maxL ret rm mc ms n) (hin : Cond.instanceMethod y ∈ xTB) (hsel : Cond.selects y.cls y y ∈ xTB)
    (recv : ∃ (q0 ci : Nat) (q : vw_C) (fs : List Value), vwCl[ci]? = some q ∧ q.1 = y.cls ∧ w0[q0]? = some (b, .inr (ci, fs))) (wr : List va_W) (hperm : wss.flatten.Perm (w0 ++ wr.flatten)) (hn : As.length = n) (hstk : stk = As.reverse ++ .ref b :: rest) (hst : (rest.map fun v => v.category).sum ≤ 8) (hf : cells + mc ≤ R.cells ∧ slots + ms ≤ R.slots) (hd : decode cc pc = .ok (.invokevirtual index, 3))
    (kx : ∀ (E : String) (w1 : va_W), Xr E w1 → VX g A nL p l e R s m args below meth c (cells + mc) (slots + ms) Q E (w1 :: wr) lv pc rest)
    (kk : ∀ (v : Option Value) (w1 : va_W), Qr v w1 → VW g A nL p l e R s m args below meth c (cells + mc) (slots + ms) Q (w1 :: wr) lv (pc + 3) (v.toList ++ rest)) : VW g A nL p l e R s m args below meth c cells slots Q wss lv pc stk := by
  intro H locs ls hP hD hS hl
  have hP := va_P_perm hperm hP
  have hD := va_D_perm hperm hD
  subst hstk
  refine x_afterX hP hD hS C.2.2.2.2.2.2.1 hl (vx_runV (nL := nL) (Ts := xTB) (C := y.cls) ⟨C.1, C.2.1, C.2.2.1, C.2.2.2.1, C.2.2.2.2.1⟩ (hM H.size) ⟨xCB_of C hcb, C.2.2.2.2.1 _ hin, C.2.2.2.2.1 _ hsel⟩ ⟨xPc_blind, ?_, x_pre C hP hD hS⟩ rfl hn hl.1 rfl (lv_room hst) hd hf) (fun E w1 hQ H1 locs1 q ce hP1 hD1 hS1 h1 h2 h3 => kx E w1 hQ H1 locs1 ls q ce hP1 hD1 hS1 hl h1 h2 h3) (fun v w1 hQ H1 locs1 hP1 hD1 hS1 => kk v w1 hQ H1 locs1 ls hP1 hD1 hS1 hl)
  obtain ⟨q0, ci, q, fs, h1, h2, h3⟩ := recv
  rw [← h2]
  exact va_recv C.2.2.2.2.2.1.1.1 (va_P_left hP) h1 h3
theorem x_xcallS (C : CX g own cc nL A p s m args meth c) {y : MethodName} {bytes : ByteArray} {maxL index n mc ms : Nat} {ret : Option FieldType} {rm : Room} {As rest stk : List Value} {w0 : va_W} {Qr : Option Value → va_W → Prop} {Xr : String → va_W → Prop} (hM : ConX g l y bytes maxL ret rm As w0 Qr Xr mc ms) (hcb : xCB R own index y bytes maxL ret rm mc ms n) (hin : Cond.static y ∈ xTB)
    (wr : List va_W) (hperm : wss.flatten.Perm (w0 ++ wr.flatten)) (hn : As.length = n) (hstk : stk = As.reverse ++ rest) (hst : (rest.map fun v => v.category).sum ≤ 8) (hf : cells + mc ≤ R.cells ∧ slots + ms ≤ R.slots) (hd : decode cc pc = .ok (.invokestatic index, 3))
    (kx : ∀ (E : String) (w1 : va_W), Xr E w1 → VX g A nL p l e R s m args below meth c (cells + mc) (slots + ms) Q E (w1 :: wr) lv pc rest)
    (kk : ∀ (v : Option Value) (w1 : va_W), Qr v w1 → VW g A nL p l e R s m args below meth c (cells + mc) (slots + ms) Q (w1 :: wr) lv (pc + 3) (v.toList ++ rest)) : VW g A nL p l e R s m args below meth c cells slots Q wss lv pc stk := by
  intro H locs ls hP hD hS hl
  have hP := va_P_perm hperm hP
  have hD := va_D_perm hperm hD
  subst hstk
  exact x_afterX hP hD hS C.2.2.2.2.2.2.1 hl (vx_runS (nL := nL) (Ts := xTB) ⟨C.1, C.2.1, C.2.2.1, C.2.2.2.1, C.2.2.2.2.1⟩ (hM H.size) ⟨xCB_of C hcb, C.2.2.2.2.1 _ hin⟩ ⟨xPc_blind, x_pre C hP hD hS⟩ rfl hn hl.1 rfl (lv_room hst) hd hf) (fun E w1 hQ H1 locs1 q ce hP1 hD1 hS1 h1 h2 h3 => kx E w1 hQ H1 locs1 ls q ce hP1 hD1 hS1 hl h1 h2 h3) (fun v w1 hQ H1 locs1 hP1 hD1 hS1 => kk v w1 hQ H1 locs1 ls hP1 hD1 hS1 hl)
/-- the world behind a call, in blobs -/
theorem x_goX {E : String} {w1s wr wss2 : List va_W} {w1 : va_W} {rest : List Value} (h1 : w1 = w1s.flatten) (hw : w1s ++ wr = wss2) (k : VX g A nL p l e R s m args below meth c cells slots Q E wss2 lv pc rest) : VX g A nL p l e R s m args below meth c cells slots Q E (w1 :: wr) lv pc rest := by
  subst h1
  subst hw
  intro H locs ls q ce hP hD
  rw [List.flatten_cons, ← List.flatten_append] at hP hD
  exact k H locs ls q ce hP hD
theorem x_goW {w1s wr wss2 : List va_W} {w1 : va_W} {v : Option Value} {rest stk2 : List Value} (h1 : w1 = w1s.flatten) (hw : w1s ++ wr = wss2) (hs : v.toList ++ rest = stk2) (k : VW g A nL p l e R s m args below meth c cells slots Q wss2 lv pc stk2) : VW g A nL p l e R s m args below meth c cells slots Q (w1 :: wr) lv pc (v.toList ++ rest) := by
  subst h1
  subst hw
  subst hs
  exact x_same (by rw [List.flatten_cons, List.flatten_append]) k
theorem x_permX {E : String} (h : wss.flatten.Perm wss'.flatten) (k : VX g A nL p l e R s m args below meth c cells slots Q E wss' lv pc st) : VX g A nL p l e R s m args below meth c cells slots Q E wss lv pc st :=
  fun H locs ls q ce hP hD => k H locs ls q ce (va_P_perm h hP) (va_D_perm h hD)
end XX
theorem x_sr {α β γ : Type} {fa : α → Option γ} {fb : β → Option γ} {x : α ⊕ β} {r : β} {u : γ} (hx : x = Sum.inr r) (h : Sum.elim fa fb x = some u) : fb r = some u := by rw [hx] at h; exact h
theorem x_sl {α β γ : Type} {fa : α → Option γ} {fb : β → Option γ} {x : α ⊕ β} {r : α} {u : γ} (hx : x = Sum.inl r) (h : Sum.elim fa fb x = some u) : fa r = some u := by rw [hx] at h; exact h
theorem x_lt {P : Prop} {n k : Nat} (h : ¬ (P ∨ n ≤ k)) : k < n := Nat.not_le.mp fun q => h (Or.inr q)
/-- a family of blobs: one of them apart, and back -/
def famW (fam : Nat → va_W) (n : Nat) : va_W := (List.range n).flatMap fam
def famR (fam : Nat → va_W) (n i : Nat) : va_W := ((List.range n).filter (fun j => j != i)).flatMap fam
theorem fam_cong {f f' : Nat → va_W} : ∀ {l : List Nat}, (∀ j ∈ l, f j = f' j) → l.flatMap f = l.flatMap f'
  | [], _ => rfl
  | a :: l, h => by rw [List.flatMap_cons, List.flatMap_cons, h a List.mem_cons_self, fam_cong (fun j hj => h j (List.mem_cons_of_mem _ hj))]
theorem famR_congr {fam fam' : Nat → va_W} {n i : Nat} (h : ∀ j, j ≠ i → fam j = fam' j) : famR fam n i = famR fam' n i := by
  unfold famR
  refine fam_cong (fun j hj => ?_)
  exact h j (by simpa using (List.mem_filter.mp hj).2)
theorem famW_split {fam : Nat → va_W} : ∀ {n i : Nat}, i < n → (famW fam n).Perm (fam i ++ famR fam n i) := by
  intro n
  induction n with
  | zero => intro i hi; omega
  | succ n ih =>
    intro i hi
    unfold famW famR
    rw [List.range_succ, List.flatMap_append, List.filter_append, List.flatMap_append]
    by_cases e : i = n
    · subst e
      have h1 : (List.range i).filter (fun j => j != i) = List.range i := by
        apply List.filter_eq_self.mpr
        intro j hj
        have := List.mem_range.mp hj
        simp; omega
      rw [h1]
      have h2 : [i].filter (fun j => j != i) = [] := by simp
      rw [h2, List.flatMap_nil, List.append_nil, List.flatMap_cons, List.flatMap_nil, List.append_nil]
      exact List.perm_append_comm
    · have h2 : [n].filter (fun j => j != i) = [n] := by
        apply List.filter_eq_self.mpr
        intro j hj
        have := List.mem_singleton.mp hj
        simp; omega
      rw [h2]
      have := ih (i := i) (by omega)
      unfold famW famR at this
      rw [← List.append_assoc]
      exact this.append_right _
theorem x_fsplit {fam : Nat → va_W} {n i : Nat} {r : List va_W} (h : i < n) : ((famW fam n :: r).flatten).Perm ((fam i :: famR fam n i :: r).flatten) := by
  rw [List.flatten_cons, List.flatten_cons, List.flatten_cons, ← List.append_assoc]
  exact (famW_split h).append_right _
theorem x_fjoin {fam fam' : Nat → va_W} {b : va_W} {n i : Nat} {r : List va_W} (h : i < n) (hb : fam' i = b) (hr : ∀ j, j ≠ i → fam j = fam' j) : ((b :: famR fam n i :: r).flatten).Perm ((famW fam' n :: r).flatten) := by
  subst hb
  rw [famR_congr hr]
  exact (x_fsplit h).symm
