/-! THE SCRIPT'S ARRAY, comparisons of doubles and floats -/
section XS
variable {p : Program} {l : Launch} {e : Env} {R : Room} {s : State} {m : MethodId} {args : Array Value} {below : List Frame} {meth : Method} {c : Code} {cells slots : Nat} {Q : State → Prop}
variable {g : xG} {A : Nat → Prop} {nL : Nat} {cc : ByteArray} {own : String} {wss wss' : List va_W} {lv lv' : List (Nat × Value)} {pc : Nat} {st : List Value}
theorem x_sld (C : CX g own cc nL A p s m args meth c) {sb L : Nat} {xs : Nat → Int32} (hX : va_X sb L xs s s.heap) (hbl : sb < s.heap.size) (hbA : ¬ A sb) {i : Int32} (hin : ¬ (i < 0 ∨ L ≤ i.toNatClampNeg)) (hd : decode cc pc = .ok (.iaload, 1))
    (kk : VW g A nL p l e R s m args below meth c cells slots Q wss lv (pc + 1) (.int (xs i.toNatClampNeg) :: st)) : VW g A nL p l e R s m args below meth c cells slots Q wss lv pc (.int i :: .ref sb :: st) :=
  fun H locs ls hP hD hS hl => va_sld C.1 C.2.1 hX hbl hbA hS hin hd (kk H locs ls hP hD hS hl)
theorem x_slen (C : CX g own cc nL A p s m args meth c) {sb L : Nat} {xs : Nat → Int32} (hX : va_X sb L xs s s.heap) (hbl : sb < s.heap.size) (hbA : ¬ A sb) (hd : decode cc pc = .ok (.arraylength, 1))
    (kk : VW g A nL p l e R s m args below meth c cells slots Q wss lv (pc + 1) (.int (Int32.ofNat L) :: st)) : VW g A nL p l e R s m args below meth c cells slots Q wss lv pc (.ref sb :: st) :=
  fun H locs ls hP hD hS hl => va_slen C.1 C.2.1 hX hbl hbA hS hd (kk H locs ls hP hD hS hl)
theorem x_dcmp (C : CX g own cc nL A p s m args meth c) {x y : UInt64} {op : CmpOp} (hd : decode cc pc = .ok (.dcmp op, 1)) (kk : VW g A nL p l e R s m args below meth c cells slots Q wss lv (pc + 1) (.int (Op.cmpValue (FP.dcmp x y) op) :: st)) : VW g A nL p l e R s m args below meth c cells slots Q wss lv pc (.double y :: .double x :: st) :=
  fun H locs ls hP hD hS hl => lv_dcmp C.1 C.2.1 hd (kk H locs ls hP hD hS hl)
theorem x_fcmp (C : CX g own cc nL A p s m args meth c) {x y : UInt32} {op : CmpOp} (hd : decode cc pc = .ok (.fcmp op, 1)) (kk : VW g A nL p l e R s m args below meth c cells slots Q wss lv (pc + 1) (.int (Op.cmpValue (FP.fcmp x y) op) :: st)) : VW g A nL p l e R s m args below meth c cells slots Q wss lv pc (.float y :: .float x :: st) :=
  fun H locs ls hP hD hS hl => lv_fcmp C.1 C.2.1 hd (kk H locs ls hP hD hS hl)
end XS
