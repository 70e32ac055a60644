/-! THE WALK OVER PICTURES: the world is a list of blobs (lists of cells); VW says that the machine, standing so, comes to Q -/
theorem va_P_mem {D : va_G} {cl : List vw_C} {ws : va_W} {H : Heap} : va_P D cl ws H ↔ ∀ q ∈ ws, va_at D cl q H := by
  constructor
  · intro h q hq
    obtain ⟨i, hi⟩ := List.getElem?_of_mem hq
    exact h i q hi
  · intro h k q hk
    exact h q (List.mem_of_getElem? hk)
theorem va_D_mem {A : Nat → Prop} {ws : va_W} : va_D A ws ↔ (ws.map (fun q => q.1)).Nodup ∧ ∀ q ∈ ws, A q.1 := by
  constructor
  · intro h
    refine ⟨?_, fun q hq => ?_⟩
    · rw [List.Nodup, List.pairwise_iff_getElem]
      intro i j hi hj hij e
      rw [List.length_map] at hi hj
      have e1 : ws[i]? = some ws[i] := List.getElem?_eq_getElem hi
      have e2 : ws[j]? = some ws[j] := List.getElem?_eq_getElem hj
      have e3 : (ws[i]).1 = (ws[j]).1 := by simpa using e
      have := h.1 i j _ _ e1 e2 e3
      omega
    · obtain ⟨i, hi⟩ := List.getElem?_of_mem hq
      exact h.2 i q hi
  · intro h
    refine ⟨fun i j p q hp hq e => ?_, fun k q hk => h.2 q (List.mem_of_getElem? hk)⟩
    obtain ⟨hi, ep⟩ := List.getElem?_eq_some_iff.mp hp
    obtain ⟨hj, eq⟩ := List.getElem?_eq_some_iff.mp hq
    have hn := h.1
    rw [List.Nodup, List.pairwise_iff_getElem] at hn
    have hi' : i < (ws.map (fun q => q.1)).length := by rw [List.length_map]; exact hi
    have hj' : j < (ws.map (fun q => q.1)).length := by rw [List.length_map]; exact hj
    rcases Nat.lt_trichotomy i j with x | x | x
    · exact absurd (by rw [List.getElem_map, List.getElem_map, ep, eq]; exact e) (hn i j hi' hj' x)
    · exact x
    · exact absurd (by rw [List.getElem_map, List.getElem_map, ep, eq]; exact e.symm) (hn j i hj' hi' x)
theorem va_P_perm {D : va_G} {cl : List vw_C} {ws ws' : va_W} {H : Heap} (h : ws.Perm ws') (hP : va_P D cl ws H) : va_P D cl ws' H := va_P_mem.mpr fun q hq => va_P_mem.mp hP q (h.mem_iff.mpr hq)
theorem va_D_perm {A : Nat → Prop} {ws ws' : va_W} (h : ws.Perm ws') (hD : va_D A ws) : va_D A ws' := by
  rw [va_D_mem] at hD ⊢
  exact ⟨(h.map _).nodup_iff.mp hD.1, fun q hq => hD.2 q (h.mem_iff.mpr hq)⟩
theorem va_P_left {D : va_G} {cl : List vw_C} {a b : va_W} {H : Heap} (hP : va_P D cl (a ++ b) H) : va_P D cl a H := va_P_mem.mpr fun q hq => va_P_mem.mp hP q (List.mem_append_left _ hq)
theorem va_P_right {D : va_G} {cl : List vw_C} {a b : va_W} {H : Heap} (hP : va_P D cl (a ++ b) H) : va_P D cl b H := va_P_mem.mpr fun q hq => va_P_mem.mp hP q (List.mem_append_right _ hq)
theorem va_D_left {A : Nat → Prop} {a b : va_W} (hD : va_D A (a ++ b)) : va_D A a := by
  rw [va_D_mem] at hD ⊢
  rw [List.map_append] at hD
  exact ⟨(List.nodup_append.mp hD.1).1, fun q hq => hD.2 q (List.mem_append_left _ hq)⟩
/-- behind a call: what came back and the rest, which is unchanged -/
theorem x_join {A0 : Nat → Prop} {D : va_G} {cl : List vw_C} {wc wr w1 : va_W} {H H1 : Heap} (hP : va_P D cl (wc ++ wr) H) (hD : va_D A0 (wc ++ wr)) (hk : ∀ q : Nat, q < H.size → ¬ va_A wc H.size q → H1[q]? = H[q]?) (hF : ∀ q, va_A wc H.size q → A0 q) (hP1 : va_P D cl w1 H1) (hD1 : va_D (va_A wc H.size) w1) : va_P D cl (w1 ++ wr) H1 ∧ va_D A0 (w1 ++ wr) := by
  have hr : ∀ q ∈ wr, q.1 < H.size ∧ ¬ va_A wc H.size q.1 := by
    intro q hq
    have hl := (va_P_mem.mp hP q (List.mem_append_right _ hq)).lt
    refine ⟨hl, fun h => ?_⟩
    rcases h with ⟨k, e, h⟩ | h
    · have h1 := (va_D_mem.mp hD).1
      rw [List.map_append, List.nodup_append] at h1
      exact h1.2.2 q.1 (List.mem_map.mpr ⟨(q.1, e), List.mem_of_getElem? h, rfl⟩) q.1 (List.mem_map.mpr ⟨q, hq, rfl⟩) rfl
    · omega
  refine ⟨va_P_mem.mpr fun q hq => ?_, va_D_mem.mpr ⟨?_, fun q hq => ?_⟩⟩
  · rcases List.mem_append.mp hq with h | h
    · exact va_P_mem.mp hP1 q h
    · exact (va_P_mem.mp hP q (List.mem_append_right _ h)).kept (hk q.1 (hr q h).1 (hr q h).2)
  · rw [List.map_append, List.nodup_append]
    refine ⟨(va_D_mem.mp hD1).1, ?_, ?_⟩
    · have h1 := (va_D_mem.mp hD).1
      rw [List.map_append, List.nodup_append] at h1
      exact h1.2.1
    · intro x hx y hy e
      obtain ⟨q, hq, rfl⟩ := List.mem_map.mp hx
      obtain ⟨z, hz, rfl⟩ := List.mem_map.mp hy
      exact (hr z hz).2 (by rw [← e]; exact (va_D_mem.mp hD1).2 q hq)
  · rcases List.mem_append.mp hq with h | h
    · exact hF _ ((va_D_mem.mp hD1).2 q h)
    · exact (va_D_mem.mp hD).2 q (List.mem_append_right _ h)
theorem x_freeA {A0 : Nat → Prop} {wc wr : va_W} {H0 H : Heap} {locs : List Loc} (hD : va_D A0 (wc ++ wr)) (hS : va_S A0 H0 H locs) (hA : ∀ q, H0.size ≤ q → A0 q) : ∀ q, va_A wc H.size q → A0 q := by
  intro q h
  rcases h with ⟨k, e, h⟩ | h
  · exact (va_D_mem.mp hD).2 (q, e) (List.mem_append_left _ (List.mem_of_getElem? h))
  · exact hA q (Nat.le_trans hS.1 h)
theorem va_A_lt {D : va_G} {cl : List vw_C} {wc : va_W} {H : Heap} {sz : Nat} (hP : va_P D cl wc H) {q : Nat} (hq : q < H.size) (hs : sz = H.size) (h : va_A wc sz q) : ∃ e, (q, e) ∈ wc := by
  rcases h with ⟨k, e, h⟩ | h
  · exact ⟨e, List.mem_of_getElem? h⟩
  · omega
/-- the place of a blob's cell in the flat list -/
theorem x_flat {α : Type} : ∀ {wss : List (List α)} {bi : Nat} {b : List α} (_ : wss[bi]? = some b) {j : Nat} {x : α} (_ : b[j]? = some x), ∃ q0 : Nat, wss.flatten[q0]? = some x ∧ ∀ e : α, wss.flatten.set q0 e = (wss.set bi (b.set j e)).flatten
  | [], bi, b, hb, j, x, hx => by simp at hb
  | w :: wss, 0, b, hb, j, x, hx => by
    have hb' : w = b := by simpa using hb
    subst hb'
    have hj := (List.getElem?_eq_some_iff.mp hx).1
    refine ⟨j, by rw [List.flatten_cons, List.getElem?_append_left hj]; exact hx, fun e => ?_⟩
    rw [List.flatten_cons, List.set_append_left _ _ hj, List.set_cons_zero, List.flatten_cons]
  | w :: wss, bi + 1, b, hb, j, x, hx => by
    have hb' : wss[bi]? = some b := by simpa using hb
    obtain ⟨q0, h1, h2⟩ := x_flat hb' hx
    refine ⟨w.length + q0, by rw [List.flatten_cons, List.getElem?_append_right (by omega)]; simpa using h1, fun e => ?_⟩
    rw [List.flatten_cons, List.set_append_right _ _ (by omega), List.set_cons_succ, List.flatten_cons]
    rw [show w.length + q0 - w.length = q0 by omega, h2 e]
/-- branches of a function that may stop -/
theorem x_t {α : Type} {c : Prop} [Decidable c] {a b : Option α} {r : α} (hc : c) (h : (if c then a else b) = some r) : a = some r := by rw [if_pos hc] at h; exact h
theorem x_f {α : Type} {c : Prop} [Decidable c] {a b : Option α} {r : α} (hc : ¬ c) (h : (if c then a else b) = some r) : b = some r := by rw [if_neg hc] at h; exact h
theorem x_n {α : Type} {c : Prop} [Decidable c] {b : Option α} {r : α} (h : (if c then none else b) = some r) : ¬ c ∧ b = some r := by
  by_cases hc : c
  · rw [if_pos hc] at h; cases h
  · rw [if_neg hc] at h; exact ⟨hc, h⟩
theorem x_b {α β : Type} {m : Option α} {k : α → Option β} {r : β} (h : m.bind k = some r) : ∃ u, m = some u ∧ k u = some r := by
  cases m with
  | none => cases h
  | some u => exact ⟨u, rfl, h⟩
section XW
variable {p : Program} {l : Launch} {e : Env} {R : Room} {s : State} {m : MethodId} {args : Array Value} {below : List Frame} {meth : Method} {c : Code} {cells slots : Nat} {Q : State → Prop}
variable {g : xG} {A : Nat → Prop} {nL : Nat} {cc : ByteArray} {own : String} {wss wss' : List va_W} {lv lv' : List (Nat × Value)} {pc : Nat} {st : List Value}
/-- what holds all through a method's body -/
def CX (g : xG) (own : String) (cc : ByteArray) (nL : Nat) (A : Nat → Prop) (p : Program) (s : State) (m : MethodId) (args : Array Value) (meth : Method) (c : Code) : Prop :=
  p.tables.exec = Jvm.exec ∧ c.code = cc ∧ c.maxLocals = nL ∧ s.vm.findClass own = some m.cls ∧ (∀ w ∈ xTB, w.before args s = true) ∧ GE g A s s.heap ∧ (∀ q, s.heap.size ≤ q → A q) ∧ meth.locks = false
def VW (g : xG) (A : Nat → Prop) (nL : Nat) (p : Program) (l : Launch) (e : Env) (R : Room) (s : State) (m : MethodId) (args : Array Value) (below : List Frame) (meth : Method) (c : Code) (cells slots : Nat) (Q : State → Prop) (wss : List va_W) (lv : List (Nat × Value)) (pc : Nat) (st : List Value) : Prop :=
  ∀ (H : Heap) (locs : List Loc) (ls : Array Slot), va_P g.1 vwCl wss.flatten H → va_D A wss.flatten → va_S A s.heap H locs → lv_has ls nL lv → W p l e R s m args below meth c H locs cells slots Q (F0 m pc ls st)
theorem x_perm (h : wss.flatten.Perm wss'.flatten) (k : VW g A nL p l e R s m args below meth c cells slots Q wss' lv pc st) : VW g A nL p l e R s m args below meth c cells slots Q wss lv pc st :=
  fun H locs ls hP hD hS hl => k H locs ls (va_P_perm h hP) (va_D_perm h hD) hS hl
theorem x_same (h : wss.flatten = wss'.flatten) (k : VW g A nL p l e R s m args below meth c cells slots Q wss' lv pc st) : VW g A nL p l e R s m args below meth c cells slots Q wss lv pc st :=
  x_perm (by rw [h]) k
theorem x_locals (ks : List Nat) (h : lv_pick lv ks = lv') (k : VW g A nL p l e R s m args below meth c cells slots Q wss lv' pc st) : VW g A nL p l e R s m args below meth c cells slots Q wss lv pc st :=
  fun H locs ls hP hD hS hl => k H locs ls hP hD hS (lv_sub hl ks h)
theorem x_widen {k n : Nat} (h1 : cells ≤ k) (h2 : slots ≤ n) (kk : VW g A nL p l e R s m args below meth c k n Q wss lv pc st) : VW g A nL p l e R s m args below meth c cells slots Q wss lv pc st :=
  fun H locs ls hP hD hS hl => W.widen h1 h2 (kk H locs ls hP hD hS hl)
theorem x_iconst (C : CX g own cc nL A p s m args meth c) {n : Int} {v : Int32} (hd : decode cc pc = .ok (.iconst n, 1)) (hv : Int32.ofInt n = v) (k : VW g A nL p l e R s m args below meth c cells slots Q wss lv (pc + 1) (.int v :: st)) : VW g A nL p l e R s m args below meth c cells slots Q wss lv pc st :=
  fun H locs ls hP hD hS hl => lv_iconst C.1 C.2.1 hd hv (k H locs ls hP hD hS hl)
theorem x_bipush (C : CX g own cc nL A p s m args meth c) {n : Int} {v : Int32} (hd : decode cc pc = .ok (.bipush n, 2)) (hv : (Int8.ofInt n).toInt32 = v) (k : VW g A nL p l e R s m args below meth c cells slots Q wss lv (pc + 2) (.int v :: st)) : VW g A nL p l e R s m args below meth c cells slots Q wss lv pc st :=
  fun H locs ls hP hD hS hl => lv_bipush C.1 C.2.1 hd hv (k H locs ls hP hD hS hl)
theorem x_sipush (C : CX g own cc nL A p s m args meth c) {n : Int} {v : Int32} (hd : decode cc pc = .ok (.sipush n, 3)) (hv : (Int16.ofInt n).toInt32 = v) (k : VW g A nL p l e R s m args below meth c cells slots Q wss lv (pc + 3) (.int v :: st)) : VW g A nL p l e R s m args below meth c cells slots Q wss lv pc st :=
  fun H locs ls hP hD hS hl => lv_sipush C.1 C.2.1 hd hv (k H locs ls hP hD hS hl)
theorem x_lconst (C : CX g own cc nL A p s m args meth c) {n : Fin 2} {v : Int64} (hd : decode cc pc = .ok (.lconst n, 1)) (hv : Int64.ofNat (n : Nat) = v) (k : VW g A nL p l e R s m args below meth c cells slots Q wss lv (pc + 1) (.long v :: st)) : VW g A nL p l e R s m args below meth c cells slots Q wss lv pc st :=
  fun H locs ls hP hD hS hl => lv_lconst C.1 C.2.1 hd hv (k H locs ls hP hD hS hl)
theorem x_iload_n (C : CX g own cc nL A p s m args meth c) {k : Fin 4} {i : Nat} {x : Int32} (hd : decode cc pc = .ok (.iload_n k, 1)) (hi : (k : Nat) = i) (n : Nat) (hl : lv[n]? = some (i, .int x)) (kk : VW g A nL p l e R s m args below meth c cells slots Q wss lv (pc + 1) (.int x :: st)) : VW g A nL p l e R s m args below meth c cells slots Q wss lv pc st :=
  fun H locs ls hP hD hS h => lv_iload_n C.1 C.2.1 hd hi (lv_at h n hl) (kk H locs ls hP hD hS h)
theorem x_iload (C : CX g own cc nL A p s m args meth c) {i : Nat} {x : Int32} (hd : decode cc pc = .ok (.iload i, 2)) (n : Nat) (hl : lv[n]? = some (i, .int x)) (kk : VW g A nL p l e R s m args below meth c cells slots Q wss lv (pc + 2) (.int x :: st)) : VW g A nL p l e R s m args below meth c cells slots Q wss lv pc st :=
  fun H locs ls hP hD hS h => lv_iload C.1 C.2.1 hd (lv_at h n hl) (kk H locs ls hP hD hS h)
theorem x_lload_n (C : CX g own cc nL A p s m args meth c) {k : Fin 4} {i : Nat} {x : Int64} (hd : decode cc pc = .ok (.lload_n k, 1)) (hi : (k : Nat) = i) (n : Nat) (hl : lv[n]? = some (i, .long x)) (kk : VW g A nL p l e R s m args below meth c cells slots Q wss lv (pc + 1) (.long x :: st)) : VW g A nL p l e R s m args below meth c cells slots Q wss lv pc st :=
  fun H locs ls hP hD hS h => lv_lload_n C.1 C.2.1 hd hi (lv_at h n hl) (kk H locs ls hP hD hS h)
theorem x_lload (C : CX g own cc nL A p s m args meth c) {i : Nat} {x : Int64} (hd : decode cc pc = .ok (.lload i, 2)) (n : Nat) (hl : lv[n]? = some (i, .long x)) (kk : VW g A nL p l e R s m args below meth c cells slots Q wss lv (pc + 2) (.long x :: st)) : VW g A nL p l e R s m args below meth c cells slots Q wss lv pc st :=
  fun H locs ls hP hD hS h => lv_lload C.1 C.2.1 hd (lv_at h n hl) (kk H locs ls hP hD hS h)
theorem x_dload_n (C : CX g own cc nL A p s m args meth c) {k : Fin 4} {i : Nat} {x : UInt64} (hd : decode cc pc = .ok (.dload_n k, 1)) (hi : (k : Nat) = i) (n : Nat) (hl : lv[n]? = some (i, .double x)) (kk : VW g A nL p l e R s m args below meth c cells slots Q wss lv (pc + 1) (.double x :: st)) : VW g A nL p l e R s m args below meth c cells slots Q wss lv pc st :=
  fun H locs ls hP hD hS h => lv_dload_n C.1 C.2.1 hd hi (lv_at h n hl) (kk H locs ls hP hD hS h)
theorem x_dload (C : CX g own cc nL A p s m args meth c) {i : Nat} {x : UInt64} (hd : decode cc pc = .ok (.dload i, 2)) (n : Nat) (hl : lv[n]? = some (i, .double x)) (kk : VW g A nL p l e R s m args below meth c cells slots Q wss lv (pc + 2) (.double x :: st)) : VW g A nL p l e R s m args below meth c cells slots Q wss lv pc st :=
  fun H locs ls hP hD hS h => lv_dload C.1 C.2.1 hd (lv_at h n hl) (kk H locs ls hP hD hS h)
theorem x_fload_n (C : CX g own cc nL A p s m args meth c) {k : Fin 4} {i : Nat} {x : UInt32} (hd : decode cc pc = .ok (.fload_n k, 1)) (hi : (k : Nat) = i) (n : Nat) (hl : lv[n]? = some (i, .float x)) (kk : VW g A nL p l e R s m args below meth c cells slots Q wss lv (pc + 1) (.float x :: st)) : VW g A nL p l e R s m args below meth c cells slots Q wss lv pc st :=
  fun H locs ls hP hD hS h => lv_fload_n C.1 C.2.1 hd hi (lv_at h n hl) (kk H locs ls hP hD hS h)
theorem x_fload (C : CX g own cc nL A p s m args meth c) {i : Nat} {x : UInt32} (hd : decode cc pc = .ok (.fload i, 2)) (n : Nat) (hl : lv[n]? = some (i, .float x)) (kk : VW g A nL p l e R s m args below meth c cells slots Q wss lv (pc + 2) (.float x :: st)) : VW g A nL p l e R s m args below meth c cells slots Q wss lv pc st :=
  fun H locs ls hP hD hS h => lv_fload C.1 C.2.1 hd (lv_at h n hl) (kk H locs ls hP hD hS h)
theorem x_aload_n (C : CX g own cc nL A p s m args meth c) {k : Fin 4} {i : Nat} {x : Nat} (hd : decode cc pc = .ok (.aload_n k, 1)) (hi : (k : Nat) = i) (n : Nat) (hl : lv[n]? = some (i, .ref x)) (kk : VW g A nL p l e R s m args below meth c cells slots Q wss lv (pc + 1) (.ref x :: st)) : VW g A nL p l e R s m args below meth c cells slots Q wss lv pc st :=
  fun H locs ls hP hD hS h => lv_aload_n C.1 C.2.1 hd hi (lv_at h n hl) (kk H locs ls hP hD hS h)
theorem x_aload (C : CX g own cc nL A p s m args meth c) {i : Nat} {x : Nat} (hd : decode cc pc = .ok (.aload i, 2)) (n : Nat) (hl : lv[n]? = some (i, .ref x)) (kk : VW g A nL p l e R s m args below meth c cells slots Q wss lv (pc + 2) (.ref x :: st)) : VW g A nL p l e R s m args below meth c cells slots Q wss lv pc st :=
  fun H locs ls hP hD hS h => lv_aload C.1 C.2.1 hd (lv_at h n hl) (kk H locs ls hP hD hS h)
theorem x_istore_n (C : CX g own cc nL A p s m args meth c) {k : Fin 4} {i : Nat} {x : Int32} (hd : decode cc pc = .ok (.istore_n k, 1)) (hi : (k : Nat) = i) (hn : i < nL) (hl : (i, Value.int x) :: lv.filter (fun q => !(q.1 == i) && !(q.1 + 1 == i && q.2.category == 2)) = lv') (kk : VW g A nL p l e R s m args below meth c cells slots Q wss lv' (pc + 1) st) : VW g A nL p l e R s m args below meth c cells slots Q wss lv pc (.int x :: st) :=
  fun H locs ls hP hD hS h => lv_istore_n C.1 C.2.1 hd hi h hn hl (fun ls h => kk H locs ls hP hD hS h)
theorem x_istore (C : CX g own cc nL A p s m args meth c) {i : Nat} {x : Int32} (hd : decode cc pc = .ok (.istore i, 2)) (hn : i < nL) (hl : (i, Value.int x) :: lv.filter (fun q => !(q.1 == i) && !(q.1 + 1 == i && q.2.category == 2)) = lv') (kk : VW g A nL p l e R s m args below meth c cells slots Q wss lv' (pc + 2) st) : VW g A nL p l e R s m args below meth c cells slots Q wss lv pc (.int x :: st) :=
  fun H locs ls hP hD hS h => lv_istore C.1 C.2.1 hd h hn hl (fun ls h => kk H locs ls hP hD hS h)
theorem x_lstore_n (C : CX g own cc nL A p s m args meth c) {k : Fin 4} {i : Nat} {x : Int64} (hd : decode cc pc = .ok (.lstore_n k, 1)) (hi : (k : Nat) = i) (hn : i + 1 < nL) (hl : (i, Value.long x) :: lv.filter (fun q => !(q.1 == i) && (!(q.1 == i + 1) && !(q.1 + 1 == i && q.2.category == 2))) = lv') (kk : VW g A nL p l e R s m args below meth c cells slots Q wss lv' (pc + 1) st) : VW g A nL p l e R s m args below meth c cells slots Q wss lv pc (.long x :: st) :=
  fun H locs ls hP hD hS h => lv_lstore_n C.1 C.2.1 hd hi h hn hl (fun ls h => kk H locs ls hP hD hS h)
theorem x_lstore (C : CX g own cc nL A p s m args meth c) {i : Nat} {x : Int64} (hd : decode cc pc = .ok (.lstore i, 2)) (hn : i + 1 < nL) (hl : (i, Value.long x) :: lv.filter (fun q => !(q.1 == i) && (!(q.1 == i + 1) && !(q.1 + 1 == i && q.2.category == 2))) = lv') (kk : VW g A nL p l e R s m args below meth c cells slots Q wss lv' (pc + 2) st) : VW g A nL p l e R s m args below meth c cells slots Q wss lv pc (.long x :: st) :=
  fun H locs ls hP hD hS h => lv_lstore C.1 C.2.1 hd h hn hl (fun ls h => kk H locs ls hP hD hS h)
theorem x_dstore_n (C : CX g own cc nL A p s m args meth c) {k : Fin 4} {i : Nat} {x : UInt64} (hd : decode cc pc = .ok (.dstore_n k, 1)) (hi : (k : Nat) = i) (hn : i + 1 < nL) (hl : (i, Value.double x) :: lv.filter (fun q => !(q.1 == i) && (!(q.1 == i + 1) && !(q.1 + 1 == i && q.2.category == 2))) = lv') (kk : VW g A nL p l e R s m args below meth c cells slots Q wss lv' (pc + 1) st) : VW g A nL p l e R s m args below meth c cells slots Q wss lv pc (.double x :: st) :=
  fun H locs ls hP hD hS h => lv_dstore_n C.1 C.2.1 hd hi h hn hl (fun ls h => kk H locs ls hP hD hS h)
theorem x_dstore (C : CX g own cc nL A p s m args meth c) {i : Nat} {x : UInt64} (hd : decode cc pc = .ok (.dstore i, 2)) (hn : i + 1 < nL) (hl : (i, Value.double x) :: lv.filter (fun q => !(q.1 == i) && (!(q.1 == i + 1) && !(q.1 + 1 == i && q.2.category == 2))) = lv') (kk : VW g A nL p l e R s m args below meth c cells slots Q wss lv' (pc + 2) st) : VW g A nL p l e R s m args below meth c cells slots Q wss lv pc (.double x :: st) :=
  fun H locs ls hP hD hS h => lv_dstore C.1 C.2.1 hd h hn hl (fun ls h => kk H locs ls hP hD hS h)
theorem x_fstore_n (C : CX g own cc nL A p s m args meth c) {k : Fin 4} {i : Nat} {x : UInt32} (hd : decode cc pc = .ok (.fstore_n k, 1)) (hi : (k : Nat) = i) (hn : i < nL) (hl : (i, Value.float x) :: lv.filter (fun q => !(q.1 == i) && !(q.1 + 1 == i && q.2.category == 2)) = lv') (kk : VW g A nL p l e R s m args below meth c cells slots Q wss lv' (pc + 1) st) : VW g A nL p l e R s m args below meth c cells slots Q wss lv pc (.float x :: st) :=
  fun H locs ls hP hD hS h => lv_fstore_n C.1 C.2.1 hd hi h hn hl (fun ls h => kk H locs ls hP hD hS h)
theorem x_fstore (C : CX g own cc nL A p s m args meth c) {i : Nat} {x : UInt32} (hd : decode cc pc = .ok (.fstore i, 2)) (hn : i < nL) (hl : (i, Value.float x) :: lv.filter (fun q => !(q.1 == i) && !(q.1 + 1 == i && q.2.category == 2)) = lv') (kk : VW g A nL p l e R s m args below meth c cells slots Q wss lv' (pc + 2) st) : VW g A nL p l e R s m args below meth c cells slots Q wss lv pc (.float x :: st) :=
  fun H locs ls hP hD hS h => lv_fstore C.1 C.2.1 hd h hn hl (fun ls h => kk H locs ls hP hD hS h)
theorem x_astore_n (C : CX g own cc nL A p s m args meth c) {k : Fin 4} {i : Nat} {x : Nat} (hd : decode cc pc = .ok (.astore_n k, 1)) (hi : (k : Nat) = i) (hn : i < nL) (hl : (i, Value.ref x) :: lv.filter (fun q => !(q.1 == i) && !(q.1 + 1 == i && q.2.category == 2)) = lv') (kk : VW g A nL p l e R s m args below meth c cells slots Q wss lv' (pc + 1) st) : VW g A nL p l e R s m args below meth c cells slots Q wss lv pc (.ref x :: st) :=
  fun H locs ls hP hD hS h => lv_astore_n C.1 C.2.1 hd hi h hn hl (fun ls h => kk H locs ls hP hD hS h)
theorem x_astore (C : CX g own cc nL A p s m args meth c) {i : Nat} {x : Nat} (hd : decode cc pc = .ok (.astore i, 2)) (hn : i < nL) (hl : (i, Value.ref x) :: lv.filter (fun q => !(q.1 == i) && !(q.1 + 1 == i && q.2.category == 2)) = lv') (kk : VW g A nL p l e R s m args below meth c cells slots Q wss lv' (pc + 2) st) : VW g A nL p l e R s m args below meth c cells slots Q wss lv pc (.ref x :: st) :=
  fun H locs ls hP hD hS h => lv_astore C.1 C.2.1 hd h hn hl (fun ls h => kk H locs ls hP hD hS h)
theorem x_iinc (C : CX g own cc nL A p s m args meth c) {i : Nat} {n : Int} {x v : Int32} (hd : decode cc pc = .ok (.iinc i n, 3)) (k : Nat) (hk : lv[k]? = some (i, .int x)) (hv : x + Int32.ofInt n = v) (hn : i < nL) (hl : (i, Value.int v) :: lv.filter (fun q => !(q.1 == i) && !(q.1 + 1 == i && q.2.category == 2)) = lv') (kk : VW g A nL p l e R s m args below meth c cells slots Q wss lv' (pc + 3) st) : VW g A nL p l e R s m args below meth c cells slots Q wss lv pc st :=
  fun H locs ls hP hD hS h => lv_iinc C.1 C.2.1 hd h hk hv hn hl (fun ls h => kk H locs ls hP hD hS h)
theorem x_iadd (C : CX g own cc nL A p s m args meth c) {x y : Int32} (hd : decode cc pc = .ok (.iadd, 1)) (k : VW g A nL p l e R s m args below meth c cells slots Q wss lv (pc + 1) (.int (x + y) :: st)) : VW g A nL p l e R s m args below meth c cells slots Q wss lv pc (.int y :: .int x :: st) :=
  fun H locs ls hP hD hS hl => lv_iadd C.1 C.2.1 hd (k H locs ls hP hD hS hl)
theorem x_isub (C : CX g own cc nL A p s m args meth c) {x y : Int32} (hd : decode cc pc = .ok (.isub, 1)) (k : VW g A nL p l e R s m args below meth c cells slots Q wss lv (pc + 1) (.int (x - y) :: st)) : VW g A nL p l e R s m args below meth c cells slots Q wss lv pc (.int y :: .int x :: st) :=
  fun H locs ls hP hD hS hl => lv_isub C.1 C.2.1 hd (k H locs ls hP hD hS hl)
theorem x_imul (C : CX g own cc nL A p s m args meth c) {x y : Int32} (hd : decode cc pc = .ok (.imul, 1)) (k : VW g A nL p l e R s m args below meth c cells slots Q wss lv (pc + 1) (.int (x * y) :: st)) : VW g A nL p l e R s m args below meth c cells slots Q wss lv pc (.int y :: .int x :: st) :=
  fun H locs ls hP hD hS hl => lv_imul C.1 C.2.1 hd (k H locs ls hP hD hS hl)
theorem x_iand (C : CX g own cc nL A p s m args meth c) {x y : Int32} (hd : decode cc pc = .ok (.iand, 1)) (k : VW g A nL p l e R s m args below meth c cells slots Q wss lv (pc + 1) (.int (x &&& y) :: st)) : VW g A nL p l e R s m args below meth c cells slots Q wss lv pc (.int y :: .int x :: st) :=
  fun H locs ls hP hD hS hl => lv_iand C.1 C.2.1 hd (k H locs ls hP hD hS hl)
theorem x_ior (C : CX g own cc nL A p s m args meth c) {x y : Int32} (hd : decode cc pc = .ok (.ior, 1)) (k : VW g A nL p l e R s m args below meth c cells slots Q wss lv (pc + 1) (.int (x ||| y) :: st)) : VW g A nL p l e R s m args below meth c cells slots Q wss lv pc (.int y :: .int x :: st) :=
  fun H locs ls hP hD hS hl => lv_ior C.1 C.2.1 hd (k H locs ls hP hD hS hl)
theorem x_idiv (C : CX g own cc nL A p s m args meth c) {x y : Int32} (hd : decode cc pc = .ok (.idiv, 1)) (hne : ¬ y = 0) (k : VW g A nL p l e R s m args below meth c cells slots Q wss lv (pc + 1) (.int (x / y) :: st)) : VW g A nL p l e R s m args below meth c cells slots Q wss lv pc (.int y :: .int x :: st) :=
  fun H locs ls hP hD hS hl => lv_idiv C.1 C.2.1 hd hne (k H locs ls hP hD hS hl)
theorem x_irem (C : CX g own cc nL A p s m args meth c) {x y : Int32} (hd : decode cc pc = .ok (.irem, 1)) (hne : ¬ y = 0) (k : VW g A nL p l e R s m args below meth c cells slots Q wss lv (pc + 1) (.int (x - x / y * y) :: st)) : VW g A nL p l e R s m args below meth c cells slots Q wss lv pc (.int y :: .int x :: st) :=
  fun H locs ls hP hD hS hl => lv_irem C.1 C.2.1 hd hne (k H locs ls hP hD hS hl)
theorem x_ineg (C : CX g own cc nL A p s m args meth c) {x : Int32} (hd : decode cc pc = .ok (.ineg, 1)) (k : VW g A nL p l e R s m args below meth c cells slots Q wss lv (pc + 1) (.int (-x) :: st)) : VW g A nL p l e R s m args below meth c cells slots Q wss lv pc (.int x :: st) :=
  fun H locs ls hP hD hS hl => lv_ineg C.1 C.2.1 hd (k H locs ls hP hD hS hl)
theorem x_ladd (C : CX g own cc nL A p s m args meth c) {x y : Int64} (hd : decode cc pc = .ok (.ladd, 1)) (k : VW g A nL p l e R s m args below meth c cells slots Q wss lv (pc + 1) (.long (x + y) :: st)) : VW g A nL p l e R s m args below meth c cells slots Q wss lv pc (.long y :: .long x :: st) :=
  fun H locs ls hP hD hS hl => lv_ladd C.1 C.2.1 hd (k H locs ls hP hD hS hl)
theorem x_lsub (C : CX g own cc nL A p s m args meth c) {x y : Int64} (hd : decode cc pc = .ok (.lsub, 1)) (k : VW g A nL p l e R s m args below meth c cells slots Q wss lv (pc + 1) (.long (x - y) :: st)) : VW g A nL p l e R s m args below meth c cells slots Q wss lv pc (.long y :: .long x :: st) :=
  fun H locs ls hP hD hS hl => lv_lsub C.1 C.2.1 hd (k H locs ls hP hD hS hl)
theorem x_i2l (C : CX g own cc nL A p s m args meth c) {x : Int32} {v : Int64} (hd : decode cc pc = .ok (.i2l, 1)) (hv : x.toInt64 = v) (k : VW g A nL p l e R s m args below meth c cells slots Q wss lv (pc + 1) (.long v :: st)) : VW g A nL p l e R s m args below meth c cells slots Q wss lv pc (.int x :: st) :=
  fun H locs ls hP hD hS hl => lv_i2l C.1 C.2.1 hd hv (k H locs ls hP hD hS hl)
theorem x_i2c (C : CX g own cc nL A p s m args meth c) {x v : Int32} (hd : decode cc pc = .ok (.i2c, 1)) (hv : (x.toUInt32 % 65536).toInt32 = v) (k : VW g A nL p l e R s m args below meth c cells slots Q wss lv (pc + 1) (.int v :: st)) : VW g A nL p l e R s m args below meth c cells slots Q wss lv pc (.int x :: st) :=
  fun H locs ls hP hD hS hl => lv_i2c C.1 C.2.1 hd hv (k H locs ls hP hD hS hl)
theorem x_i2b (C : CX g own cc nL A p s m args meth c) {x v : Int32} (hd : decode cc pc = .ok (.i2b, 1)) (hv : x.toInt8.toInt32 = v) (k : VW g A nL p l e R s m args below meth c cells slots Q wss lv (pc + 1) (.int v :: st)) : VW g A nL p l e R s m args below meth c cells slots Q wss lv pc (.int x :: st) :=
  fun H locs ls hP hD hS hl => lv_i2b C.1 C.2.1 hd hv (k H locs ls hP hD hS hl)
theorem x_i2d (C : CX g own cc nL A p s m args meth c) {x : Int32} (hd : decode cc pc = .ok (.i2d, 1)) (k : VW g A nL p l e R s m args below meth c cells slots Q wss lv (pc + 1) (.double (FP.i2d x) :: st)) : VW g A nL p l e R s m args below meth c cells slots Q wss lv pc (.int x :: st) :=
  fun H locs ls hP hD hS hl => lv_i2d C.1 C.2.1 hd (k H locs ls hP hD hS hl)
theorem x_i2f (C : CX g own cc nL A p s m args meth c) {x : Int32} (hd : decode cc pc = .ok (.i2f, 1)) (k : VW g A nL p l e R s m args below meth c cells slots Q wss lv (pc + 1) (.float (FP.i2f x) :: st)) : VW g A nL p l e R s m args below meth c cells slots Q wss lv pc (.int x :: st) :=
  fun H locs ls hP hD hS hl => lv_i2f C.1 C.2.1 hd (k H locs ls hP hD hS hl)
theorem x_ddiv (C : CX g own cc nL A p s m args meth c) {x y : UInt64} (hd : decode cc pc = .ok (.ddiv, 1)) (hne : vf_n64 (FP.ddiv x y)) (k : VW g A nL p l e R s m args below meth c cells slots Q wss lv (pc + 1) (.double (FP.ddiv x y) :: st)) : VW g A nL p l e R s m args below meth c cells slots Q wss lv pc (.double y :: .double x :: st) :=
  fun H locs ls hP hD hS hl => lv_ddiv C.1 C.2.1 hd hne (k H locs ls hP hD hS hl)
theorem x_fdiv (C : CX g own cc nL A p s m args meth c) {x y : UInt32} (hd : decode cc pc = .ok (.fdiv, 1)) (hne : vf_n32 (FP.fdiv x y)) (k : VW g A nL p l e R s m args below meth c cells slots Q wss lv (pc + 1) (.float (FP.fdiv x y) :: st)) : VW g A nL p l e R s m args below meth c cells slots Q wss lv pc (.float y :: .float x :: st) :=
  fun H locs ls hP hD hS hl => lv_fdiv C.1 C.2.1 hd hne (k H locs ls hP hD hS hl)
theorem x_f2d (C : CX g own cc nL A p s m args meth c) {x : UInt32} (hd : decode cc pc = .ok (.f2d, 1)) (hne : vf_n64 (FP.f2d x)) (k : VW g A nL p l e R s m args below meth c cells slots Q wss lv (pc + 1) (.double (FP.f2d x) :: st)) : VW g A nL p l e R s m args below meth c cells slots Q wss lv pc (.float x :: st) :=
  fun H locs ls hP hD hS hl => lv_f2d C.1 C.2.1 hd hne (k H locs ls hP hD hS hl)
theorem x_dup (C : CX g own cc nL A p s m args meth c) {va : Value} (hd : decode cc pc = .ok (.dup, 1)) (hva : va.category = 1) (k : VW g A nL p l e R s m args below meth c cells slots Q wss lv (pc + 1) (va :: va :: st)) : VW g A nL p l e R s m args below meth c cells slots Q wss lv pc (va :: st) :=
  fun H locs ls hP hD hS hl => lv_dup C.1 C.2.1 hd hva (k H locs ls hP hD hS hl)
theorem x_pop (C : CX g own cc nL A p s m args meth c) {va : Value} (hd : decode cc pc = .ok (.pop, 1)) (hva : va.category = 1) (k : VW g A nL p l e R s m args below meth c cells slots Q wss lv (pc + 1) (st)) : VW g A nL p l e R s m args below meth c cells slots Q wss lv pc (va :: st) :=
  fun H locs ls hP hD hS hl => lv_pop C.1 C.2.1 hd hva (k H locs ls hP hD hS hl)
theorem x_dup_x1 (C : CX g own cc nL A p s m args meth c) {va vb : Value} (hd : decode cc pc = .ok (.dup_x1, 1)) (hva : va.category = 1) (hvb : vb.category = 1) (k : VW g A nL p l e R s m args below meth c cells slots Q wss lv (pc + 1) (va :: vb :: va :: st)) : VW g A nL p l e R s m args below meth c cells slots Q wss lv pc (va :: vb :: st) :=
  fun H locs ls hP hD hS hl => lv_dup_x1 C.1 C.2.1 hd hva hvb (k H locs ls hP hD hS hl)
theorem x_dup2_11 (C : CX g own cc nL A p s m args meth c) {va vb : Value} (hd : decode cc pc = .ok (.dup2, 1)) (hva : va.category = 1) (hvb : vb.category = 1) (k : VW g A nL p l e R s m args below meth c cells slots Q wss lv (pc + 1) (va :: vb :: va :: vb :: st)) : VW g A nL p l e R s m args below meth c cells slots Q wss lv pc (va :: vb :: st) :=
  fun H locs ls hP hD hS hl => lv_dup2_11 C.1 C.2.1 hd hva hvb (k H locs ls hP hD hS hl)
theorem x_ishr (C : CX g own cc nL A p s m args meth c) {x y : Int32} (hd : decode cc pc = .ok (.ishr, 1)) (k : VW g A nL p l e R s m args below meth c cells slots Q wss lv (pc + 1) (.int (x >>> (y &&& 31)) :: st)) : VW g A nL p l e R s m args below meth c cells slots Q wss lv pc (.int y :: .int x :: st) :=
  fun H locs ls hP hD hS hl => lv_ishr C.1 C.2.1 hd (k H locs ls hP hD hS hl)
theorem x_ishl (C : CX g own cc nL A p s m args meth c) {x y : Int32} (hd : decode cc pc = .ok (.ishl, 1)) (k : VW g A nL p l e R s m args below meth c cells slots Q wss lv (pc + 1) (.int (x <<< (y &&& 31)) :: st)) : VW g A nL p l e R s m args below meth c cells slots Q wss lv pc (.int y :: .int x :: st) :=
  fun H locs ls hP hD hS hl => lv_ishl C.1 C.2.1 hd (k H locs ls hP hD hS hl)
theorem x_goto (C : CX g own cc nL A p s m args meth c) {off : Int} {tgt : Nat} (hd : decode cc pc = .ok (.goto off, 3)) (ht : (pc : Int) + off = (tgt : Int)) (k : VW g A nL p l e R s m args below meth c cells slots Q wss lv tgt st) : VW g A nL p l e R s m args below meth c cells slots Q wss lv pc st :=
  fun H locs ls hP hD hS hl => lv_goto C.1 C.2.1 hd ht (k H locs ls hP hD hS hl)
theorem x_if_eq (C : CX g own cc nL A p s m args meth c) {x : Int32} {off : Int} {tgt : Nat} (hd : decode cc pc = .ok (.ifCond .eq off, 3)) (ht : (pc : Int) + off = (tgt : Int)) (k1 : x = 0 → VW g A nL p l e R s m args below meth c cells slots Q wss lv tgt st) (k2 : ¬ (x = 0) → VW g A nL p l e R s m args below meth c cells slots Q wss lv (pc + 3) st) : VW g A nL p l e R s m args below meth c cells slots Q wss lv pc (.int x :: st) :=
  fun H locs ls hP hD hS hl => lv_if_eq C.1 C.2.1 hd ht (fun q => k1 q H locs ls hP hD hS hl) (fun q => k2 q H locs ls hP hD hS hl)
theorem x_icmp_eq (C : CX g own cc nL A p s m args meth c) {x y : Int32} {off : Int} {tgt : Nat} (hd : decode cc pc = .ok (.if_icmp .eq off, 3)) (ht : (pc : Int) + off = (tgt : Int)) (k1 : x = y → VW g A nL p l e R s m args below meth c cells slots Q wss lv tgt st) (k2 : ¬ (x = y) → VW g A nL p l e R s m args below meth c cells slots Q wss lv (pc + 3) st) : VW g A nL p l e R s m args below meth c cells slots Q wss lv pc (.int y :: .int x :: st) :=
  fun H locs ls hP hD hS hl => lv_icmp_eq C.1 C.2.1 hd ht (fun q => k1 q H locs ls hP hD hS hl) (fun q => k2 q H locs ls hP hD hS hl)
theorem x_if_ne (C : CX g own cc nL A p s m args meth c) {x : Int32} {off : Int} {tgt : Nat} (hd : decode cc pc = .ok (.ifCond .ne off, 3)) (ht : (pc : Int) + off = (tgt : Int)) (k1 : ¬ x = 0 → VW g A nL p l e R s m args below meth c cells slots Q wss lv tgt st) (k2 : x = 0 → VW g A nL p l e R s m args below meth c cells slots Q wss lv (pc + 3) st) : VW g A nL p l e R s m args below meth c cells slots Q wss lv pc (.int x :: st) :=
  fun H locs ls hP hD hS hl => lv_if_ne C.1 C.2.1 hd ht (fun q => k1 q H locs ls hP hD hS hl) (fun q => k2 q H locs ls hP hD hS hl)
theorem x_icmp_ne (C : CX g own cc nL A p s m args meth c) {x y : Int32} {off : Int} {tgt : Nat} (hd : decode cc pc = .ok (.if_icmp .ne off, 3)) (ht : (pc : Int) + off = (tgt : Int)) (k1 : ¬ x = y → VW g A nL p l e R s m args below meth c cells slots Q wss lv tgt st) (k2 : x = y → VW g A nL p l e R s m args below meth c cells slots Q wss lv (pc + 3) st) : VW g A nL p l e R s m args below meth c cells slots Q wss lv pc (.int y :: .int x :: st) :=
  fun H locs ls hP hD hS hl => lv_icmp_ne C.1 C.2.1 hd ht (fun q => k1 q H locs ls hP hD hS hl) (fun q => k2 q H locs ls hP hD hS hl)
theorem x_if_lt (C : CX g own cc nL A p s m args meth c) {x : Int32} {off : Int} {tgt : Nat} (hd : decode cc pc = .ok (.ifCond .lt off, 3)) (ht : (pc : Int) + off = (tgt : Int)) (k1 : x < 0 → VW g A nL p l e R s m args below meth c cells slots Q wss lv tgt st) (k2 : ¬ (x < 0) → VW g A nL p l e R s m args below meth c cells slots Q wss lv (pc + 3) st) : VW g A nL p l e R s m args below meth c cells slots Q wss lv pc (.int x :: st) :=
  fun H locs ls hP hD hS hl => lv_if_lt C.1 C.2.1 hd ht (fun q => k1 q H locs ls hP hD hS hl) (fun q => k2 q H locs ls hP hD hS hl)
theorem x_icmp_lt (C : CX g own cc nL A p s m args meth c) {x y : Int32} {off : Int} {tgt : Nat} (hd : decode cc pc = .ok (.if_icmp .lt off, 3)) (ht : (pc : Int) + off = (tgt : Int)) (k1 : x < y → VW g A nL p l e R s m args below meth c cells slots Q wss lv tgt st) (k2 : ¬ (x < y) → VW g A nL p l e R s m args below meth c cells slots Q wss lv (pc + 3) st) : VW g A nL p l e R s m args below meth c cells slots Q wss lv pc (.int y :: .int x :: st) :=
  fun H locs ls hP hD hS hl => lv_icmp_lt C.1 C.2.1 hd ht (fun q => k1 q H locs ls hP hD hS hl) (fun q => k2 q H locs ls hP hD hS hl)
theorem x_if_ge (C : CX g own cc nL A p s m args meth c) {x : Int32} {off : Int} {tgt : Nat} (hd : decode cc pc = .ok (.ifCond .ge off, 3)) (ht : (pc : Int) + off = (tgt : Int)) (k1 : 0 ≤ x → VW g A nL p l e R s m args below meth c cells slots Q wss lv tgt st) (k2 : ¬ (0 ≤ x) → VW g A nL p l e R s m args below meth c cells slots Q wss lv (pc + 3) st) : VW g A nL p l e R s m args below meth c cells slots Q wss lv pc (.int x :: st) :=
  fun H locs ls hP hD hS hl => lv_if_ge C.1 C.2.1 hd ht (fun q => k1 q H locs ls hP hD hS hl) (fun q => k2 q H locs ls hP hD hS hl)
theorem x_icmp_ge (C : CX g own cc nL A p s m args meth c) {x y : Int32} {off : Int} {tgt : Nat} (hd : decode cc pc = .ok (.if_icmp .ge off, 3)) (ht : (pc : Int) + off = (tgt : Int)) (k1 : y ≤ x → VW g A nL p l e R s m args below meth c cells slots Q wss lv tgt st) (k2 : ¬ (y ≤ x) → VW g A nL p l e R s m args below meth c cells slots Q wss lv (pc + 3) st) : VW g A nL p l e R s m args below meth c cells slots Q wss lv pc (.int y :: .int x :: st) :=
  fun H locs ls hP hD hS hl => lv_icmp_ge C.1 C.2.1 hd ht (fun q => k1 q H locs ls hP hD hS hl) (fun q => k2 q H locs ls hP hD hS hl)
theorem x_if_gt (C : CX g own cc nL A p s m args meth c) {x : Int32} {off : Int} {tgt : Nat} (hd : decode cc pc = .ok (.ifCond .gt off, 3)) (ht : (pc : Int) + off = (tgt : Int)) (k1 : 0 < x → VW g A nL p l e R s m args below meth c cells slots Q wss lv tgt st) (k2 : ¬ (0 < x) → VW g A nL p l e R s m args below meth c cells slots Q wss lv (pc + 3) st) : VW g A nL p l e R s m args below meth c cells slots Q wss lv pc (.int x :: st) :=
  fun H locs ls hP hD hS hl => lv_if_gt C.1 C.2.1 hd ht (fun q => k1 q H locs ls hP hD hS hl) (fun q => k2 q H locs ls hP hD hS hl)
theorem x_icmp_gt (C : CX g own cc nL A p s m args meth c) {x y : Int32} {off : Int} {tgt : Nat} (hd : decode cc pc = .ok (.if_icmp .gt off, 3)) (ht : (pc : Int) + off = (tgt : Int)) (k1 : y < x → VW g A nL p l e R s m args below meth c cells slots Q wss lv tgt st) (k2 : ¬ (y < x) → VW g A nL p l e R s m args below meth c cells slots Q wss lv (pc + 3) st) : VW g A nL p l e R s m args below meth c cells slots Q wss lv pc (.int y :: .int x :: st) :=
  fun H locs ls hP hD hS hl => lv_icmp_gt C.1 C.2.1 hd ht (fun q => k1 q H locs ls hP hD hS hl) (fun q => k2 q H locs ls hP hD hS hl)
theorem x_if_le (C : CX g own cc nL A p s m args meth c) {x : Int32} {off : Int} {tgt : Nat} (hd : decode cc pc = .ok (.ifCond .le off, 3)) (ht : (pc : Int) + off = (tgt : Int)) (k1 : x ≤ 0 → VW g A nL p l e R s m args below meth c cells slots Q wss lv tgt st) (k2 : ¬ (x ≤ 0) → VW g A nL p l e R s m args below meth c cells slots Q wss lv (pc + 3) st) : VW g A nL p l e R s m args below meth c cells slots Q wss lv pc (.int x :: st) :=
  fun H locs ls hP hD hS hl => lv_if_le C.1 C.2.1 hd ht (fun q => k1 q H locs ls hP hD hS hl) (fun q => k2 q H locs ls hP hD hS hl)
theorem x_icmp_le (C : CX g own cc nL A p s m args meth c) {x y : Int32} {off : Int} {tgt : Nat} (hd : decode cc pc = .ok (.if_icmp .le off, 3)) (ht : (pc : Int) + off = (tgt : Int)) (k1 : x ≤ y → VW g A nL p l e R s m args below meth c cells slots Q wss lv tgt st) (k2 : ¬ (x ≤ y) → VW g A nL p l e R s m args below meth c cells slots Q wss lv (pc + 3) st) : VW g A nL p l e R s m args below meth c cells slots Q wss lv pc (.int y :: .int x :: st) :=
  fun H locs ls hP hD hS hl => lv_icmp_le C.1 C.2.1 hd ht (fun q => k1 q H locs ls hP hD hS hl) (fun q => k2 q H locs ls hP hD hS hl)
theorem x_lookup (C : CX g own cc nL A p s m args meth c) {dflt : Int} {ps : Array (Int × Int)} {len : Nat} {x : Int32} {off : Int} {tgt : Nat} (hd : decode cc pc = .ok (.lookupswitch dflt ps, len)) (hp : (ps.toList.zip (ps.toList.drop 1)).all (fun (a, next) => a.1 < next.1) = true) (ho : Op.lookupswitch.offset ps.toList dflt x.toInt = off) (ht : (pc : Int) + off = (tgt : Int)) (k : VW g A nL p l e R s m args below meth c cells slots Q wss lv tgt st) : VW g A nL p l e R s m args below meth c cells slots Q wss lv pc (.int x :: st) :=
  fun H locs ls hP hD hS hl => lv_lookup C.1 C.2.1 hd hp ho ht (k H locs ls hP hD hS hl)
theorem x_tableOut (C : CX g own cc nL A p s m args meth c) {dflt lo hi : Int} {offs : Array Int} {len : Nat} {x : Int32} {tgt : Nat} (hd : decode cc pc = .ok (.tableswitch dflt lo hi offs, len)) (h : x.toInt < lo ∨ hi < x.toInt) (ht : (pc : Int) + dflt = (tgt : Int)) (k : VW g A nL p l e R s m args below meth c cells slots Q wss lv tgt st) : VW g A nL p l e R s m args below meth c cells slots Q wss lv pc (.int x :: st) :=
  fun H locs ls hP hD hS hl => lv_tableOut C.1 C.2.1 hd h ht (k H locs ls hP hD hS hl)
theorem x_tableIn (C : CX g own cc nL A p s m args meth c) {dflt lo hi : Int} {offs : Array Int} {len : Nat} {x : Int32} {off : Int} {tgt : Nat} (hd : decode cc pc = .ok (.tableswitch dflt lo hi offs, len)) (h1 : ¬ x.toInt < lo) (h2 : ¬ hi < x.toInt) (ho : offs[(x.toInt - lo).toNat]? = some off) (ht : (pc : Int) + off = (tgt : Int)) (k : VW g A nL p l e R s m args below meth c cells slots Q wss lv tgt st) : VW g A nL p l e R s m args below meth c cells slots Q wss lv pc (.int x :: st) :=
  fun H locs ls hP hD hS hl => lv_tableIn C.1 C.2.1 hd h1 h2 ho ht (k H locs ls hP hD hS hl)
theorem x_acmp_eq (C : CX g own cc nL A p s m args meth c) {x y : Nat} {off : Int} {tgt : Nat} (hd : decode cc pc = .ok (.if_acmp .eq off, 3)) (ht : (pc : Int) + off = (tgt : Int)) (k1 : x = y → VW g A nL p l e R s m args below meth c cells slots Q wss lv tgt st) (k2 : ¬ x = y → VW g A nL p l e R s m args below meth c cells slots Q wss lv (pc + 3) st) : VW g A nL p l e R s m args below meth c cells slots Q wss lv pc (.ref y :: .ref x :: st) :=
  fun H locs ls hP hD hS hl => lv_acmp_eq (rx := some x) (ry := some y) C.1 C.2.1 hd ht (fun q => k1 (Option.some.inj q) H locs ls hP hD hS hl) (fun q => k2 (fun z => q (congrArg some z)) H locs ls hP hD hS hl)
theorem x_acmp_ne (C : CX g own cc nL A p s m args meth c) {x y : Nat} {off : Int} {tgt : Nat} (hd : decode cc pc = .ok (.if_acmp .ne off, 3)) (ht : (pc : Int) + off = (tgt : Int)) (k1 : ¬ x = y → VW g A nL p l e R s m args below meth c cells slots Q wss lv tgt st) (k2 : x = y → VW g A nL p l e R s m args below meth c cells slots Q wss lv (pc + 3) st) : VW g A nL p l e R s m args below meth c cells slots Q wss lv pc (.ref y :: .ref x :: st) :=
  fun H locs ls hP hD hS hl => lv_acmp_ne (rx := some x) (ry := some y) C.1 C.2.1 hd ht (fun q => k1 (fun z => q (congrArg some z)) H locs ls hP hD hS hl) (fun q => k2 (Option.some.inj q) H locs ls hP hD hS hl)
/-- a field is read: cell j of blob bi, class ci of vwCl, place k -/
theorem x_get (C : CX g own cc nL A p s m args meth c) {ref Cn : String} {T : u_T} {N ci index : Nat} (hin : ∀ w ∈ u_ws Cn T N, w ∈ xTB) (hc : vwCl[ci]? = some (Cn, T, N)) (k : Nat) (hk : k < N) (hlink : Cond.fieldLink own index ref (T k).2.1 (T k).2.2.1 ∈ xTB) (hsame : ∀ x, s.fieldFound? (T k).1 (T k).2.1 (T k).2.2.1 = some x → s.fieldFound? ref (T k).2.1 (T k).2.2.1 = some x) (bi : Nat) {b : va_W} (hb : wss[bi]? = some b) (j : Nat) {a : Nat} {fs : List Value} (he : b[j]? = some (a, .inr (ci, fs))) {v : Value} (hv : fs[k]? = some v) (hd : decode cc pc = .ok (.getfield index, 3)) (kk : VW g A nL p l e R s m args below meth c cells slots Q wss lv (pc + 3) (v :: st)) : VW g A nL p l e R s m args below meth c cells slots Q wss lv pc (.ref a :: st) := by
  intro H locs ls hP hD hS hl
  obtain ⟨q0, h1, -⟩ := x_flat hb he
  exact va_get C.1 C.2.1 C.2.2.2.2.1 hin C.2.2.2.1 C.2.2.2.2.2.1.1.1 hP q0 h1 hc k hk (C.2.2.2.2.1 _ hlink) hsame hv hd (kk H locs ls hP hD hS hl)
theorem x_put (C : CX g own cc nL A p s m args meth c) {ref Cn : String} {T : u_T} {N ci index : Nat} (hin : ∀ w ∈ u_ws Cn T N, w ∈ xTB) (ty0 : Nat → FieldType) (hty : ∀ k, k < N → parseFieldDescriptor (T k).2.2.1 = some (ty0 k)) (hnm : ∀ a, a < N → ∀ b, b < N → a ≠ b → (T a).2.1 ≠ (T b).2.1) (hc : vwCl[ci]? = some (Cn, T, N)) (k : Nat) (hk : k < N) (hlink : Cond.fieldLink own index ref (T k).2.1 (T k).2.2.1 ∈ xTB) (hsame : ∀ x, s.fieldFound? (T k).1 (T k).2.1 (T k).2.2.1 = some x → s.fieldFound? ref (T k).2.1 (T k).2.2.1 = some x) (hfin : (T k).2.2.2 = false) {ty : FieldType} {v : Value} (hdsc : parseFieldDescriptor (T k).2.2.1 = some ty) (hn : narrow ty v = v) (hfit : fits ty v = true) (bi : Nat) {b : va_W} (hb : wss[bi]? = some b) (j : Nat) {a : Nat} {fs : List Value} (he : b[j]? = some (a, .inr (ci, fs))) (hlen : k < fs.length) {b' : va_W} (hb' : b.set j (a, .inr (ci, fs.set k v)) = b') (hw : wss.set bi b' = wss') (hd : decode cc pc = .ok (.putfield index, 3)) (kk : VW g A nL p l e R s m args below meth c cells slots Q wss' lv (pc + 3) st) : VW g A nL p l e R s m args below meth c cells slots Q wss lv pc (v :: .ref a :: st) := by
  intro H locs ls hP hD hS hl
  obtain ⟨q0, h1, h2⟩ := x_flat hb he
  refine va_put C.1 C.2.1 C.2.2.2.2.1 hin ty0 hty hnm C.2.2.2.1 C.2.2.2.2.2.1.1.1 hP hD hS q0 h1 hc k hk (C.2.2.2.2.1 _ hlink) hsame hfin hdsc hn hfit hlen hd (fun H1 locs1 hP1 hD1 hS1 => ?_)
  rw [h2, hb', hw] at hP1 hD1
  exact kk H1 locs1 ls hP1 hD1 hS1 hl
/-- a final field, in a constructor -/
theorem x_putF (C : CX g own cc nL A p s m args meth c) (hinit : meth.name = "<init>") {ref : String} {T : u_T} {N ci index : Nat} (hin : ∀ w ∈ u_ws own T N, w ∈ xTB) (ty0 : Nat → FieldType) (hty : ∀ k, k < N → parseFieldDescriptor (T k).2.2.1 = some (ty0 k)) (hnm : ∀ a, a < N → ∀ b, b < N → a ≠ b → (T a).2.1 ≠ (T b).2.1) (hc : vwCl[ci]? = some (own, T, N)) (k : Nat) (hk : k < N) (hlink : Cond.fieldLink own index ref (T k).2.1 (T k).2.2.1 ∈ xTB) (hsame : ∀ x, s.fieldFound? (T k).1 (T k).2.1 (T k).2.2.1 = some x → s.fieldFound? ref (T k).2.1 (T k).2.2.1 = some x) (hfin : (T k).2.2.2 = true) (hC : (T k).1 = own) {ty : FieldType} {v : Value} (hdsc : parseFieldDescriptor (T k).2.2.1 = some ty) (hn : narrow ty v = v) (hfit : fits ty v = true) (bi : Nat) {b : va_W} (hb : wss[bi]? = some b) (j : Nat) {a : Nat} {fs : List Value} (he : b[j]? = some (a, .inr (ci, fs))) (hlen : k < fs.length) {b' : va_W} (hb' : b.set j (a, .inr (ci, fs.set k v)) = b') (hw : wss.set bi b' = wss') (hd : decode cc pc = .ok (.putfield index, 3)) (kk : VW g A nL p l e R s m args below meth c cells slots Q wss' lv (pc + 3) st) : VW g A nL p l e R s m args below meth c cells slots Q wss lv pc (v :: .ref a :: st) := by
  intro H locs ls hP hD hS hl
  obtain ⟨q0, h1, h2⟩ := x_flat hb he
  refine va_putF C.1 C.2.1 C.2.2.2.2.1 hin ty0 hty hnm C.2.2.2.1 C.2.2.2.2.2.1.1.1 hP hD hS q0 h1 hc k hk (C.2.2.2.2.1 _ hlink) hsame hfin hinit hC hdsc hn hfit hlen hd (fun H1 locs1 hP1 hD1 hS1 => ?_)
  rw [h2, hb', hw] at hP1 hD1
  exact kk H1 locs1 ls hP1 hD1 hS1 hl
theorem x_iald (C : CX g own cc nL A p s m args meth c) (bi : Nat) {b : va_W} (hb : wss[bi]? = some b) (j : Nat) {a n : Nat} {f : Nat → Int32} (he : b[j]? = some (a, .inl (g.2.1 1, n, .inl f))) {i : Int32} (hin : ¬ (i < 0 ∨ n ≤ i.toNatClampNeg)) (hd : decode cc pc = .ok (.iaload, 1)) (kk : VW g A nL p l e R s m args below meth c cells slots Q wss lv (pc + 1) (.int (f i.toNatClampNeg) :: st)) : VW g A nL p l e R s m args below meth c cells slots Q wss lv pc (.int i :: .ref a :: st) := by
  intro H locs ls hP hD hS hl
  obtain ⟨q0, h1, -⟩ := x_flat hb he
  exact va_iald C.1 C.2.1 C.2.2.2.2.2.1.1.1 hP q0 1 h1 rfl hin hd (kk H locs ls hP hD hS hl)
theorem x_zald (C : CX g own cc nL A p s m args meth c) (bi : Nat) {b : va_W} (hb : wss[bi]? = some b) (j : Nat) {a n : Nat} {f : Nat → Int32} (he : b[j]? = some (a, .inl (g.2.1 2, n, .inl f))) {i : Int32} (hin : ¬ (i < 0 ∨ n ≤ i.toNatClampNeg)) (hd : decode cc pc = .ok (.baload, 1)) (kk : VW g A nL p l e R s m args below meth c cells slots Q wss lv (pc + 1) (.int (f i.toNatClampNeg) :: st)) : VW g A nL p l e R s m args below meth c cells slots Q wss lv pc (.int i :: .ref a :: st) := by
  intro H locs ls hP hD hS hl
  obtain ⟨q0, h1, -⟩ := x_flat hb he
  exact va_zald C.1 C.2.1 C.2.2.2.2.2.1.1.1 hP q0 2 h1 rfl hin hd (kk H locs ls hP hD hS hl)
theorem x_cald (C : CX g own cc nL A p s m args meth c) (bi : Nat) {b : va_W} (hb : wss[bi]? = some b) (j : Nat) {a n : Nat} {f : Nat → Int32} (he : b[j]? = some (a, .inl (g.2.1 0, n, .inl f))) {i : Int32} (hin : ¬ (i < 0 ∨ n ≤ i.toNatClampNeg)) (hd : decode cc pc = .ok (.caload, 1)) (kk : VW g A nL p l e R s m args below meth c cells slots Q wss lv (pc + 1) (.int (f i.toNatClampNeg) :: st)) : VW g A nL p l e R s m args below meth c cells slots Q wss lv pc (.int i :: .ref a :: st) := by
  intro H locs ls hP hD hS hl
  obtain ⟨q0, h1, -⟩ := x_flat hb he
  exact va_cald C.1 C.2.1 C.2.2.2.2.2.1.1.1 hP q0 0 h1 rfl hin hd (kk H locs ls hP hD hS hl)
theorem x_bald (C : CX g own cc nL A p s m args meth c) (bi : Nat) {b : va_W} (hb : wss[bi]? = some b) (j : Nat) {a n : Nat} {f : Nat → Int32} (he : b[j]? = some (a, .inl (g.2.1 3, n, .inl f))) {i : Int32} (hin : ¬ (i < 0 ∨ n ≤ i.toNatClampNeg)) (hd : decode cc pc = .ok (.baload, 1)) (kk : VW g A nL p l e R s m args below meth c cells slots Q wss lv (pc + 1) (.int (f i.toNatClampNeg) :: st)) : VW g A nL p l e R s m args below meth c cells slots Q wss lv pc (.int i :: .ref a :: st) := by
  intro H locs ls hP hD hS hl
  obtain ⟨q0, h1, -⟩ := x_flat hb he
  exact va_bald C.1 C.2.1 C.2.2.2.2.2.1.1.1 hP q0 3 h1 rfl hin hd (kk H locs ls hP hD hS hl)
theorem x_iast (C : CX g own cc nL A p s m args meth c) (bi : Nat) {b : va_W} (hb : wss[bi]? = some b) (j : Nat) {a n : Nat} {f : Nat → Int32} (he : b[j]? = some (a, .inl (g.2.1 1, n, .inl f))) {i x : Int32} (hin : ¬ (i < 0 ∨ n ≤ i.toNatClampNeg)) {b' : va_W} (hb' : b.set j (a, .inl (g.2.1 1, n, .inl (upd f i.toNatClampNeg x))) = b') (hw : wss.set bi b' = wss') (hd : decode cc pc = .ok (.iastore, 1)) (kk : VW g A nL p l e R s m args below meth c cells slots Q wss' lv (pc + 1) st) : VW g A nL p l e R s m args below meth c cells slots Q wss lv pc (.int x :: .int i :: .ref a :: st) := by
  intro H locs ls hP hD hS hl
  obtain ⟨q0, h1, h2⟩ := x_flat hb he
  refine va_iast C.1 C.2.1 C.2.2.2.2.2.1.1.1 hP hD hS q0 1 h1 rfl hin hd (fun H1 locs1 hP1 hD1 hS1 => ?_)
  rw [h2, hb', hw] at hP1 hD1
  exact kk H1 locs1 ls hP1 hD1 hS1 hl
theorem x_zast (C : CX g own cc nL A p s m args meth c) (bi : Nat) {b : va_W} (hb : wss[bi]? = some b) (j : Nat) {a n : Nat} {f : Nat → Int32} (he : b[j]? = some (a, .inl (g.2.1 2, n, .inl f))) {i x : Int32} (hin : ¬ (i < 0 ∨ n ≤ i.toNatClampNeg)) {b' : va_W} (hb' : b.set j (a, .inl (g.2.1 2, n, .inl (upd f i.toNatClampNeg (vp_nar .boolean x)))) = b') (hw : wss.set bi b' = wss') (hd : decode cc pc = .ok (.bastore, 1)) (kk : VW g A nL p l e R s m args below meth c cells slots Q wss' lv (pc + 1) st) : VW g A nL p l e R s m args below meth c cells slots Q wss lv pc (.int x :: .int i :: .ref a :: st) := by
  intro H locs ls hP hD hS hl
  obtain ⟨q0, h1, h2⟩ := x_flat hb he
  refine va_zast C.1 C.2.1 C.2.2.2.2.2.1.1.1 hP hD hS q0 2 h1 rfl hin hd (fun H1 locs1 hP1 hD1 hS1 => ?_)
  rw [h2, hb', hw] at hP1 hD1
  exact kk H1 locs1 ls hP1 hD1 hS1 hl
theorem x_cast (C : CX g own cc nL A p s m args meth c) (bi : Nat) {b : va_W} (hb : wss[bi]? = some b) (j : Nat) {a n : Nat} {f : Nat → Int32} (he : b[j]? = some (a, .inl (g.2.1 0, n, .inl f))) {i x : Int32} (hin : ¬ (i < 0 ∨ n ≤ i.toNatClampNeg)) {b' : va_W} (hb' : b.set j (a, .inl (g.2.1 0, n, .inl (upd f i.toNatClampNeg (vp_nar .char x)))) = b') (hw : wss.set bi b' = wss') (hd : decode cc pc = .ok (.castore, 1)) (kk : VW g A nL p l e R s m args below meth c cells slots Q wss' lv (pc + 1) st) : VW g A nL p l e R s m args below meth c cells slots Q wss lv pc (.int x :: .int i :: .ref a :: st) := by
  intro H locs ls hP hD hS hl
  obtain ⟨q0, h1, h2⟩ := x_flat hb he
  refine va_cast C.1 C.2.1 C.2.2.2.2.2.1.1.1 hP hD hS q0 0 h1 rfl hin hd (fun H1 locs1 hP1 hD1 hS1 => ?_)
  rw [h2, hb', hw] at hP1 hD1
  exact kk H1 locs1 ls hP1 hD1 hS1 hl
theorem x_bast (C : CX g own cc nL A p s m args meth c) (bi : Nat) {b : va_W} (hb : wss[bi]? = some b) (j : Nat) {a n : Nat} {f : Nat → Int32} (he : b[j]? = some (a, .inl (g.2.1 3, n, .inl f))) {i x : Int32} (hin : ¬ (i < 0 ∨ n ≤ i.toNatClampNeg)) {b' : va_W} (hb' : b.set j (a, .inl (g.2.1 3, n, .inl (upd f i.toNatClampNeg (vp_nar .byte x)))) = b') (hw : wss.set bi b' = wss') (hd : decode cc pc = .ok (.bastore, 1)) (kk : VW g A nL p l e R s m args below meth c cells slots Q wss' lv (pc + 1) st) : VW g A nL p l e R s m args below meth c cells slots Q wss lv pc (.int x :: .int i :: .ref a :: st) := by
  intro H locs ls hP hD hS hl
  obtain ⟨q0, h1, h2⟩ := x_flat hb he
  refine va_bast C.1 C.2.1 C.2.2.2.2.2.1.1.1 hP hD hS q0 3 h1 rfl hin hd (fun H1 locs1 hP1 hD1 hS1 => ?_)
  rw [h2, hb', hw] at hP1 hD1
  exact kk H1 locs1 ls hP1 hD1 hS1 hl
theorem x_aald (C : CX g own cc nL A p s m args meth c) (t0 : Nat) {Cn : String} (ht : (xTys g.2.1)[t0]? = some (g.2.1 t0, .object Cn)) (bi : Nat) {b : va_W} (hb : wss[bi]? = some b) (j : Nat) {a n : Nat} {f : Nat → Option Nat} (he : b[j]? = some (a, .inl (g.2.1 t0, n, .inr (.inr (.inr (.inr f)))))) {i : Int32} (hin : ¬ (i < 0 ∨ n ≤ i.toNatClampNeg)) {v : Value} (hv : va_rf (f i.toNatClampNeg) = v) (hd : decode cc pc = .ok (.aaload, 1)) (kk : VW g A nL p l e R s m args below meth c cells slots Q wss lv (pc + 1) (v :: st)) : VW g A nL p l e R s m args below meth c cells slots Q wss lv pc (.int i :: .ref a :: st) := by
  intro H locs ls hP hD hS hl
  obtain ⟨q0, h1, -⟩ := x_flat hb he
  subst hv
  exact va_aldq C.1 C.2.1 C.2.2.2.2.2.1.1.1 hP q0 t0 h1 ht hin hd (kk H locs ls hP hD hS hl)
theorem x_alen (C : CX g own cc nL A p s m args meth c) (t0 : Nat) {ty : FieldType} (ht : (xTys g.2.1)[t0]? = some (g.2.1 t0, ty)) (bi : Nat) {b : va_W} (hb : wss[bi]? = some b) (j : Nat) {a : Nat} {x : vp_A} (he : b[j]? = some (a, .inl (g.2.1 t0, x))) {v : Int32} (hv : Int32.ofNat x.1 = v) (hd : decode cc pc = .ok (.arraylength, 1)) (kk : VW g A nL p l e R s m args below meth c cells slots Q wss lv (pc + 1) (.int v :: st)) : VW g A nL p l e R s m args below meth c cells slots Q wss lv pc (.ref a :: st) := by
  intro H locs ls hP hD hS hl
  obtain ⟨q0, h1, -⟩ := x_flat hb he
  exact va_alen C.1 C.2.1 C.2.2.2.2.2.1.1.1 hP q0 t0 h1 ht hv hd (kk H locs ls hP hD hS hl)
/-- a static is read -/
theorem x_gets (C : CX g own cc nL A p s m args meth c) {Cn n d ref : String} {v : Value} {index : Nat} (hZ : va_Z Cn n d v A s s.heap) (hlink : Cond.fieldLink own index ref n d ∈ xTB) (hsame : ∀ x, s.fieldFound? Cn n d = some x → s.fieldFound? ref n d = some x) (hd : decode cc pc = .ok (.getstatic index, 3)) (kk : VW g A nL p l e R s m args below meth c cells slots Q wss lv (pc + 3) (v :: st)) : VW g A nL p l e R s m args below meth c cells slots Q wss lv pc st :=
  fun H locs ls hP hD hS hl => va_gets C.1 C.2.1 hZ hS C.2.2.2.1 (C.2.2.2.2.1 _ hlink) hsame hd (kk H locs ls hP hD hS hl)
theorem x_ldcS (C : CX g own cc nL A p s m args meth c) {tx : String} {index q : Nat} (hZ : vk_R own index tx q s) (hd : decode cc pc = .ok (.ldc index, 2)) (kk : VW g A nL p l e R s m args below meth c cells slots Q wss lv (pc + 2) (.ref q :: st)) : VW g A nL p l e R s m args below meth c cells slots Q wss lv pc st :=
  fun H locs ls hP hD hS hl => va_ldcS C.1 C.2.1 C.2.2.2.1 hZ hd (kk H locs ls hP hD hS hl)
theorem x_ldc (C : CX g own cc nL A p s m args meth c) {index : Nat} {v : Int32} (hw : Cond.constant own index v ∈ xTB) (hd : decode cc pc = .ok (.ldc index, 2)) (kk : VW g A nL p l e R s m args below meth c cells slots Q wss lv (pc + 2) (.int v :: st)) : VW g A nL p l e R s m args below meth c cells slots Q wss lv pc st :=
  fun H locs ls hP hD hS hl => lv_ldc C.1 C.2.1 C.2.2.2.1 (C.2.2.2.2.1 _ hw) hd (kk H locs ls hP hD hS hl)
end XW
