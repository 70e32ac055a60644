/-! throw new NoSuchElementException(text): its constructor's link to RuntimeException's stands at 13, not at 7 -/
def nsE : String := "java/util/NoSuchElementException"
abbrev nsC : ByteArray := prog_41_method_4_code
theorem ns_0 : decode nsC 0 = .ok (.aload_n 0, 1) := by decide +kernel
theorem ns_1 : decode nsC 1 = .ok (.aload_n 1, 1) := by decide +kernel
theorem ns_2 : decode nsC 2 = .ok (.invokespecial 13, 3) := by decide +kernel
theorem ns_5 : decode nsC 5 = .ok (.return_, 1) := by decide +kernel
/-- the words of such a throw -/
def nsAll (own : String) (ic : Nat) : List Cond :=
  Bundle.throwableAtoms ++ Bundle.throwableSAtoms ++ (Bundle.passSAtoms nsE "java/lang/RuntimeException" 13 nsC ++ Bundle.chainSAtoms "java/lang/RuntimeException" ["java/lang/Exception"]) ++
  [.methodLink own ic (Bundle.initS nsE), .instantiable nsE 6, .castable nsE nsE, .selects nsE Bundle.tFill0 Bundle.tFill0, .selects nsE Bundle.tFill Bundle.tFill,
   .isRef (.static Bundle.tN "UNASSIGNED_STACK" Bundle.steD), .isRef (.static Bundle.tN "SUPPRESSED_SENTINEL" Bundle.listD)]
def nsAt (own : String) (ic : Nat) : List Cond := (nsAll own ic).filter vx_no
section XN
variable {p : Program} {l : Launch} {e : Env} {R : Room} {s : State} {m : MethodId} {args : Array Value} {below : List Frame} {meth : Method} {c : Code} {cells slots : Nat} {Q : State → Prop}
variable {g : xG} {A : Nat → Prop} {nL : Nat} {cc : ByteArray} {own : String} {wss wss' : List va_W} {lv lv' : List (Nat × Value)} {pc : Nat} {st : List Value}
theorem x_throwN {w0 : va_W} {Qc : Array Value → State → Outcome → State → Prop} {Xr : String → va_W → Prop} {mc ms : Nat} (C : CX g own cc nL (va_A w0 s.heap.size) p s m args meth c) (hout : ∀ x ∈ c.exceptionTable.toList, False) (hl : l.stackTraces = false) {text : String} {ik is ic sa : Nat}
    (hk : Cond.classLink own ik nsE ∈ xTB) (hini : Cond.initialized nsE ∈ xTB) (hstr : vk_R own is text sa s) (hat : (nsAt own ic).all (fun w => (decide (w ∈ lw_tbl) && goodWord w) || decide (w ∈ nwAll)) = true) (hgood : ∀ w ∈ Cond.classLink own ik nsE :: Cond.initialized nsE :: nsAt own ic, vx_ot w = true)
    (d0 : decode cc pc = .ok (.new ik, 3)) (d3 : decode cc (pc + 3) = .ok (.dup, 1)) (d4 : decode cc (pc + 4) = .ok (.ldc is, 2)) (d6 : decode cc (pc + 6) = .ok (.invokespecial ic, 3)) (d9 : decode cc (pc + 9) = .ok (.athrow, 1))
    (hR : 5 < R.frames ∧ (st.map fun v => v.category).sum + 82 ≤ R.locals ∧ cells + 1 ≤ R.cells ∧ slots + 6 ≤ R.slots) (hX : Xr nsE wss.flatten) (hc : cells + 1 ≤ mc) (hs : slots + 6 ≤ ms) :
    VW g (va_A w0 s.heap.size) nL p l e R s m args below meth c cells slots (vx_MQ below Qc (xXc g w0 s.heap.size Xr) args s mc ms (va_A w0 s.heap.size)) wss lv pc st := by
  sorry
theorem x_throwNW {w0 : va_W} {Qc : Array Value → State → Outcome → State → Prop} {Xr : String → va_W → Prop} {mc ms : Nat} (C : CX g own cc nL (va_A w0 s.heap.size) p s m args meth c) (hout : ∀ x ∈ c.exceptionTable.toList, False) (hl : l.stackTraces = false) {text : String} {ik is ic sa : Nat}
    (hk : Cond.classLink own ik nsE ∈ xTB) (hini : Cond.initialized nsE ∈ xTB) (hstr : vk_R own is text sa s) (hat : (nsAt own ic).all (fun w => (decide (w ∈ lw_tbl) && goodWord w) || decide (w ∈ nwAll)) = true) (hgood : ∀ w ∈ Cond.classLink own ik nsE :: Cond.initialized nsE :: nsAt own ic, vx_ot w = true)
    (d0 : decode cc pc = .ok (.new ik, 3)) (d3 : decode cc (pc + 3) = .ok (.dup, 1)) (d4 : decode cc (pc + 4) = .ok (.ldc_w is, 3)) (d7 : decode cc (pc + 7) = .ok (.invokespecial ic, 3)) (d10 : decode cc (pc + 10) = .ok (.athrow, 1))
    (hR : 5 < R.frames ∧ (st.map fun v => v.category).sum + 82 ≤ R.locals ∧ cells + 1 ≤ R.cells ∧ slots + 6 ≤ R.slots) (hX : Xr nsE wss.flatten) (hc : cells + 1 ≤ mc) (hs : slots + 6 ≤ ms) :
    VW g (va_A w0 s.heap.size) nL p l e R s m args below meth c cells slots (vx_MQ below Qc (xXc g w0 s.heap.size Xr) args s mc ms (va_A w0 s.heap.size)) wss lv pc st := by
  sorry
end XN
