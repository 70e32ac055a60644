/-! THE LAW'S LOOP, by program (wip/whole/build_loop.py) -/
section XM
variable {pW : Program} {l : Launch} {eW : Env} {sW : State} {mW : MethodId} {argsW : Array Value} {belowW : List Frame} {methW : Method} {c9 : Code} {Q : State → Prop}
variable {g : xG} {A : Nat → Prop} {sb L : Nat} {xs : Nat → Int32}
set_option maxHeartbeats 4000000 in
set_option maxRecDepth 100000 in
theorem c_law_step {cells slots : Nat} (a : Nat → Nat) (b : Nat → Nat) (y : Nat) (zz : Nat) (n : Nat) (d : Nat → Nat) (w : Nat) (w2 : Nat) (C : CX g RL cL_law 9 A pW sW mW argsW methW c9) (hl : l.stackTraces = false) (hX : va_X sb L xs sW sW.heap) (hbl : sb < sW.heap.size) (hbA : ¬ A sb) (hc : cells + 292 ≤ room_1.cells) (hs : slots + 5516 ≤ room_1.slots) (z : CcT) (v : StS) (c : CdT) (e : EvT) (v2 : StS) (c2 : CdT) (e2 : EvT) (v3 : StS) (c3 : CdT) (e3 : EvT) (h : HiT) (t : Unit) (vs : (Nat → StS)) (cs : (Nat → CdT)) (es : (Nat → EvT)) (q : PrT) (t2 : Unit) (ws : (Nat → CmT)) (k : SbT) (f : (Nat → Int32)) (m : MdT) (r1 : (Nat → Int32)) (r2 : (Nat → Int32)) (r3 : (Nat → Int32)) (r4 : (Nat → Int32)) (r5 : (Nat → Int32)) (r6 : (Nat → Int32)) (r7 : (Nat → Int32)) (r8 : (Nat → Int32)) (lo : (Nat → Int64)) (dd : (Nat → UInt64)) (i : Int32) {u : LwT} (hi : ¬ (Int32.ofNat L) - (4 : Int32) < i) (hf : f_law_step n L xs z v c e v2 c2 e2 v3 c3 e3 h t vs cs es q t2 ws k f m r1 r2 r3 r4 r5 r6 r7 r8 lo dd i = some u)
    (kk : ∀ zz' : Nat, VW g A 9 pW l eW room_1 sW mW argsW belowW methW c9 (cells + 292) (slots + 5516) Q [ccO g a b y u.1, stO g a 10 u.2.1, cdW g a 10 u.2.2.1, evW g a 10 u.2.2.2.1, stO g a 20 u.2.2.2.2.1, cdW g a 20 u.2.2.2.2.2.1, evW g a 20 u.2.2.2.2.2.2.1, stO g a 30 u.2.2.2.2.2.2.2.1, cdW g a 30 u.2.2.2.2.2.2.2.2.1, evW g a 30 u.2.2.2.2.2.2.2.2.2.1, hiO g a u.2.2.2.2.2.2.2.2.2.2.1, hrW g a u.2.2.2.2.2.2.2.2.2.2.2.1, stF g a u.2.2.2.2.2.2.2.2.2.2.2.2.1, cdF g a u.2.2.2.2.2.2.2.2.2.2.2.2.2.1, evF g a u.2.2.2.2.2.2.2.2.2.2.2.2.2.2.1, prO g b u.2.2.2.2.2.2.2.2.2.2.2.2.2.2.2.1, caW g b u.2.2.2.2.2.2.2.2.2.2.2.2.2.2.2.2.1, cmF g b u.2.2.2.2.2.2.2.2.2.2.2.2.2.2.2.2.2.1, sbO g y zz' u.2.2.2.2.2.2.2.2.2.2.2.2.2.2.2.2.2.2.1, baW g zz' u.2.2.2.2.2.2.2.2.2.2.2.2.2.2.2.2.2.2.2.2.2.2.2.2.2.2.2.2.2.2.2 u.2.2.2.2.2.2.2.2.2.2.2.2.2.2.2.2.2.2.2.1, mdO g d u.2.2.2.2.2.2.2.2.2.2.2.2.2.2.2.2.2.2.2.2.1, iaW g (d 1) 110 u.2.2.2.2.2.2.2.2.2.2.2.2.2.2.2.2.2.2.2.2.2.1, iaW g (d 2) 110 u.2.2.2.2.2.2.2.2.2.2.2.2.2.2.2.2.2.2.2.2.2.2.1, iaW g (d 3) 110 u.2.2.2.2.2.2.2.2.2.2.2.2.2.2.2.2.2.2.2.2.2.2.2.1, iaW g (d 4) 110 u.2.2.2.2.2.2.2.2.2.2.2.2.2.2.2.2.2.2.2.2.2.2.2.2.1, iaW g (d 5) 880 u.2.2.2.2.2.2.2.2.2.2.2.2.2.2.2.2.2.2.2.2.2.2.2.2.2.1, iaW g (d 6) 200 u.2.2.2.2.2.2.2.2.2.2.2.2.2.2.2.2.2.2.2.2.2.2.2.2.2.2.1, iaW g (d 7) 60 u.2.2.2.2.2.2.2.2.2.2.2.2.2.2.2.2.2.2.2.2.2.2.2.2.2.2.2.1, iaW g (d 8) 124 u.2.2.2.2.2.2.2.2.2.2.2.2.2.2.2.2.2.2.2.2.2.2.2.2.2.2.2.2.1, loW g w u.2.2.2.2.2.2.2.2.2.2.2.2.2.2.2.2.2.2.2.2.2.2.2.2.2.2.2.2.2.1, doW g w2 u.2.2.2.2.2.2.2.2.2.2.2.2.2.2.2.2.2.2.2.2.2.2.2.2.2.2.2.2.2.2.1] [(0, .ref sb), (1, .ref (a 0)), (2, .ref (d 0)), (3, .ref w), (4, .ref w2), (5, .int i)] 2256 []) : VW g A 9 pW l eW room_1 sW mW argsW belowW methW c9 cells slots Q [ccO g a b y z, stO g a 10 v, cdW g a 10 c, evW g a 10 e, stO g a 20 v2, cdW g a 20 c2, evW g a 20 e2, stO g a 30 v3, cdW g a 30 c3, evW g a 30 e3, hiO g a h, hrW g a t, stF g a vs, cdF g a cs, evF g a es, prO g b q, caW g b t2, cmF g b ws, sbO g y zz k, baW g zz n f, mdO g d m, iaW g (d 1) 110 r1, iaW g (d 2) 110 r2, iaW g (d 3) 110 r3, iaW g (d 4) 110 r4, iaW g (d 5) 880 r5, iaW g (d 6) 200 r6, iaW g (d 7) 60 r7, iaW g (d 8) 124 r8, loW g w lo, doW g w2 dd] [(0, .ref sb), (1, .ref (a 0)), (2, .ref (d 0)), (3, .ref w), (4, .ref w2), (5, .int i)] 28 [] := by
  unfold f_law_step at hf
  obtain ⟨h1, hf⟩ := x_n hf
  refine x_iload C dL_law_28 5 rfl ?_
  refine x_aload_n C dL_law_30 rfl 0 rfl ?_
  refine x_slen C hX hbl hbA dL_law_31 ?_
  refine x_iconst (v := 4) C dL_law_32 (by decide) ?_
  refine x_isub C dL_law_33 ?_
  refine x_icmp_gt (tgt := 2262) C dL_law_34 (by decide) (fun h => absurd h hi) (fun _ => ?_)
  refine x_aload_n C dL_law_37 rfl 0 rfl ?_
  refine x_iload C dL_law_38 5 rfl ?_
  refine x_sld C hX hbl hbA h1 dL_law_40 ?_
  refine x_bipush (v := 63) C dL_law_41 (by decide) ?_
  refine x_iand C dL_law_43 ?_
  by_cases q0 : (xs i.toNatClampNeg &&& (63 : Int32)) = 0
  · have hf := x_t q0 hf
    refine x_tableIn (off := 204) (tgt := 248) C dL_law_44 (by rw [q0]; decide) (by rw [q0]; decide) (by rw [q0]; rfl) (by decide) ?_
    exact c_law_248 a b y zz n d w w2 C hl hX hbl hbA hc hs z v c e v2 c2 e2 v3 c3 e3 h t vs cs es q t2 ws k f m r1 r2 r3 r4 r5 r6 r7 r8 lo dd i hf kk
  have hf := x_f q0 hf
  by_cases q1 : (xs i.toNatClampNeg &&& (63 : Int32)) = 1
  · have hf := x_t q1 hf
    refine x_tableIn (off := 286) (tgt := 330) C dL_law_44 (by rw [q1]; decide) (by rw [q1]; decide) (by rw [q1]; rfl) (by decide) ?_
    exact c_law_330 a b y zz n d w w2 C hl hX hbl hbA hc hs z v c e v2 c2 e2 v3 c3 e3 h t vs cs es q t2 ws k f m r1 r2 r3 r4 r5 r6 r7 r8 lo dd i hf kk
  have hf := x_f q1 hf
  by_cases q2 : (xs i.toNatClampNeg &&& (63 : Int32)) = 2
  · have hf := x_t q2 hf
    refine x_tableIn (off := 342) (tgt := 386) C dL_law_44 (by rw [q2]; decide) (by rw [q2]; decide) (by rw [q2]; rfl) (by decide) ?_
    exact c_law_386 a b y zz n d w w2 C hl hX hbl hbA hc hs z v c e v2 c2 e2 v3 c3 e3 h t vs cs es q t2 ws k f m r1 r2 r3 r4 r5 r6 r7 r8 lo dd i hf kk
  have hf := x_f q2 hf
  by_cases q3 : (xs i.toNatClampNeg &&& (63 : Int32)) = 3
  · have hf := x_t q3 hf
    refine x_tableIn (off := 398) (tgt := 442) C dL_law_44 (by rw [q3]; decide) (by rw [q3]; decide) (by rw [q3]; rfl) (by decide) ?_
    exact c_law_442 a b y zz n d w w2 C hl hX hbl hbA hc hs z v c e v2 c2 e2 v3 c3 e3 h t vs cs es q t2 ws k f m r1 r2 r3 r4 r5 r6 r7 r8 lo dd i hf kk
  have hf := x_f q3 hf
  by_cases q4 : (xs i.toNatClampNeg &&& (63 : Int32)) = 4
  · have hf := x_t q4 hf
    refine x_tableIn (off := 466) (tgt := 510) C dL_law_44 (by rw [q4]; decide) (by rw [q4]; decide) (by rw [q4]; rfl) (by decide) ?_
    exact c_law_510 a b y zz n d w w2 C hl hX hbl hbA hc hs z v c e v2 c2 e2 v3 c3 e3 h t vs cs es q t2 ws k f m r1 r2 r3 r4 r5 r6 r7 r8 lo dd i hf kk
  have hf := x_f q4 hf
  by_cases q5 : (xs i.toNatClampNeg &&& (63 : Int32)) = 5
  · have hf := x_t q5 hf
    refine x_tableIn (off := 522) (tgt := 566) C dL_law_44 (by rw [q5]; decide) (by rw [q5]; decide) (by rw [q5]; rfl) (by decide) ?_
    exact c_law_566 a b y zz n d w w2 C hl hX hbl hbA hc hs z v c e v2 c2 e2 v3 c3 e3 h t vs cs es q t2 ws k f m r1 r2 r3 r4 r5 r6 r7 r8 lo dd i hf kk
  have hf := x_f q5 hf
  by_cases q6 : (xs i.toNatClampNeg &&& (63 : Int32)) = 6
  · have hf := x_t q6 hf
    refine x_tableIn (off := 618) (tgt := 662) C dL_law_44 (by rw [q6]; decide) (by rw [q6]; decide) (by rw [q6]; rfl) (by decide) ?_
    exact c_law_662 a b y zz n d w w2 C hl hX hbl hbA hc hs z v c e v2 c2 e2 v3 c3 e3 h t vs cs es q t2 ws k f m r1 r2 r3 r4 r5 r6 r7 r8 lo dd i hf kk
  have hf := x_f q6 hf
  by_cases q7 : (xs i.toNatClampNeg &&& (63 : Int32)) = 7
  · have hf := x_t q7 hf
    refine x_tableIn (off := 674) (tgt := 718) C dL_law_44 (by rw [q7]; decide) (by rw [q7]; decide) (by rw [q7]; rfl) (by decide) ?_
    exact c_law_718 a b y zz n d w w2 C hl hX hbl hbA hc hs z v c e v2 c2 e2 v3 c3 e3 h t vs cs es q t2 ws k f m r1 r2 r3 r4 r5 r6 r7 r8 lo dd i hf kk
  have hf := x_f q7 hf
  by_cases q8 : (xs i.toNatClampNeg &&& (63 : Int32)) = 8
  · have hf := x_t q8 hf
    refine x_tableIn (off := 730) (tgt := 774) C dL_law_44 (by rw [q8]; decide) (by rw [q8]; decide) (by rw [q8]; rfl) (by decide) ?_
    exact c_law_774 a b y zz n d w w2 C hl hX hbl hbA hc hs z v c e v2 c2 e2 v3 c3 e3 h t vs cs es q t2 ws k f m r1 r2 r3 r4 r5 r6 r7 r8 lo dd i hf kk
  have hf := x_f q8 hf
  by_cases q9 : (xs i.toNatClampNeg &&& (63 : Int32)) = 9
  · have hf := x_t q9 hf
    refine x_tableIn (off := 743) (tgt := 787) C dL_law_44 (by rw [q9]; decide) (by rw [q9]; decide) (by rw [q9]; rfl) (by decide) ?_
    exact c_law_787 a b y zz n d w w2 C hl hX hbl hbA hc hs z v c e v2 c2 e2 v3 c3 e3 h t vs cs es q t2 ws k f m r1 r2 r3 r4 r5 r6 r7 r8 lo dd i hf kk
  have hf := x_f q9 hf
  by_cases q10 : (xs i.toNatClampNeg &&& (63 : Int32)) = 10
  · have hf := x_t q10 hf
    refine x_tableIn (off := 799) (tgt := 843) C dL_law_44 (by rw [q10]; decide) (by rw [q10]; decide) (by rw [q10]; rfl) (by decide) ?_
    exact c_law_843 a b y zz n d w w2 C hl hX hbl hbA hc hs z v c e v2 c2 e2 v3 c3 e3 h t vs cs es q t2 ws k f m r1 r2 r3 r4 r5 r6 r7 r8 lo dd i hf kk
  have hf := x_f q10 hf
  by_cases q11 : (xs i.toNatClampNeg &&& (63 : Int32)) = 11
  · have hf := x_t q11 hf
    refine x_tableIn (off := 855) (tgt := 899) C dL_law_44 (by rw [q11]; decide) (by rw [q11]; decide) (by rw [q11]; rfl) (by decide) ?_
    exact c_law_899 a b y zz n d w w2 C hl hX hbl hbA hc hs z v c e v2 c2 e2 v3 c3 e3 h t vs cs es q t2 ws k f m r1 r2 r3 r4 r5 r6 r7 r8 lo dd i hf kk
  have hf := x_f q11 hf
  by_cases q12 : (xs i.toNatClampNeg &&& (63 : Int32)) = 12
  · have hf := x_t q12 hf
    refine x_tableIn (off := 911) (tgt := 955) C dL_law_44 (by rw [q12]; decide) (by rw [q12]; decide) (by rw [q12]; rfl) (by decide) ?_
    exact c_law_955 a b y zz n d w w2 C hl hX hbl hbA hc hs z v c e v2 c2 e2 v3 c3 e3 h t vs cs es q t2 ws k f m r1 r2 r3 r4 r5 r6 r7 r8 lo dd i hf kk
  have hf := x_f q12 hf
  by_cases q13 : (xs i.toNatClampNeg &&& (63 : Int32)) = 13
  · have hf := x_t q13 hf
    refine x_tableIn (off := 974) (tgt := 1018) C dL_law_44 (by rw [q13]; decide) (by rw [q13]; decide) (by rw [q13]; rfl) (by decide) ?_
    exact c_law_1018 a b y zz n d w w2 C hl hX hbl hbA hc hs z v c e v2 c2 e2 v3 c3 e3 h t vs cs es q t2 ws k f m r1 r2 r3 r4 r5 r6 r7 r8 lo dd i hf kk
  have hf := x_f q13 hf
  by_cases q14 : (xs i.toNatClampNeg &&& (63 : Int32)) = 14
  · have hf := x_t q14 hf
    refine x_tableIn (off := 987) (tgt := 1031) C dL_law_44 (by rw [q14]; decide) (by rw [q14]; decide) (by rw [q14]; rfl) (by decide) ?_
    exact c_law_1031 a b y zz n d w w2 C hl hX hbl hbA hc hs z v c e v2 c2 e2 v3 c3 e3 h t vs cs es q t2 ws k f m r1 r2 r3 r4 r5 r6 r7 r8 lo dd i hf kk
  have hf := x_f q14 hf
  by_cases q15 : (xs i.toNatClampNeg &&& (63 : Int32)) = 15
  · have hf := x_t q15 hf
    refine x_tableIn (off := 1045) (tgt := 1089) C dL_law_44 (by rw [q15]; decide) (by rw [q15]; decide) (by rw [q15]; rfl) (by decide) ?_
    exact c_law_1089 a b y zz n d w w2 C hl hX hbl hbA hc hs z v c e v2 c2 e2 v3 c3 e3 h t vs cs es q t2 ws k f m r1 r2 r3 r4 r5 r6 r7 r8 lo dd i hf kk
  have hf := x_f q15 hf
  by_cases q16 : (xs i.toNatClampNeg &&& (63 : Int32)) = 16
  · have hf := x_t q16 hf
    refine x_tableIn (off := 1101) (tgt := 1145) C dL_law_44 (by rw [q16]; decide) (by rw [q16]; decide) (by rw [q16]; rfl) (by decide) ?_
    exact c_law_1145 a b y zz n d w w2 C hl hX hbl hbA hc hs z v c e v2 c2 e2 v3 c3 e3 h t vs cs es q t2 ws k f m r1 r2 r3 r4 r5 r6 r7 r8 lo dd i hf kk
  have hf := x_f q16 hf
  by_cases q17 : (xs i.toNatClampNeg &&& (63 : Int32)) = 17
  · have hf := x_t q17 hf
    refine x_tableIn (off := 1157) (tgt := 1201) C dL_law_44 (by rw [q17]; decide) (by rw [q17]; decide) (by rw [q17]; rfl) (by decide) ?_
    exact c_law_1201 a b y zz n d w w2 C hl hX hbl hbA hc hs z v c e v2 c2 e2 v3 c3 e3 h t vs cs es q t2 ws k f m r1 r2 r3 r4 r5 r6 r7 r8 lo dd i hf kk
  have hf := x_f q17 hf
  by_cases q18 : (xs i.toNatClampNeg &&& (63 : Int32)) = 18
  · have hf := x_t q18 hf
    refine x_tableIn (off := 1213) (tgt := 1257) C dL_law_44 (by rw [q18]; decide) (by rw [q18]; decide) (by rw [q18]; rfl) (by decide) ?_
    exact c_law_1257 a b y zz n d w w2 C hl hX hbl hbA hc hs z v c e v2 c2 e2 v3 c3 e3 h t vs cs es q t2 ws k f m r1 r2 r3 r4 r5 r6 r7 r8 lo dd i hf kk
  have hf := x_f q18 hf
  by_cases q19 : (xs i.toNatClampNeg &&& (63 : Int32)) = 19
  · have hf := x_t q19 hf
    refine x_tableIn (off := 1226) (tgt := 1270) C dL_law_44 (by rw [q19]; decide) (by rw [q19]; decide) (by rw [q19]; rfl) (by decide) ?_
    exact c_law_1270 a b y zz n d w w2 C hl hX hbl hbA hc hs z v c e v2 c2 e2 v3 c3 e3 h t vs cs es q t2 ws k f m r1 r2 r3 r4 r5 r6 r7 r8 lo dd i hf kk
  have hf := x_f q19 hf
  by_cases q20 : (xs i.toNatClampNeg &&& (63 : Int32)) = 20
  · have hf := x_t q20 hf
    refine x_tableIn (off := 1282) (tgt := 1326) C dL_law_44 (by rw [q20]; decide) (by rw [q20]; decide) (by rw [q20]; rfl) (by decide) ?_
    exact c_law_1326 a b y zz n d w w2 C hl hX hbl hbA hc hs z v c e v2 c2 e2 v3 c3 e3 h t vs cs es q t2 ws k f m r1 r2 r3 r4 r5 r6 r7 r8 lo dd i hf kk
  have hf := x_f q20 hf
  by_cases q21 : (xs i.toNatClampNeg &&& (63 : Int32)) = 21
  · have hf := x_t q21 hf
    refine x_tableIn (off := 1338) (tgt := 1382) C dL_law_44 (by rw [q21]; decide) (by rw [q21]; decide) (by rw [q21]; rfl) (by decide) ?_
    exact c_law_1382 a b y zz n d w w2 C hl hX hbl hbA hc hs z v c e v2 c2 e2 v3 c3 e3 h t vs cs es q t2 ws k f m r1 r2 r3 r4 r5 r6 r7 r8 lo dd i hf kk
  have hf := x_f q21 hf
  by_cases q22 : (xs i.toNatClampNeg &&& (63 : Int32)) = 22
  · have hf := x_t q22 hf
    refine x_tableIn (off := 1401) (tgt := 1445) C dL_law_44 (by rw [q22]; decide) (by rw [q22]; decide) (by rw [q22]; rfl) (by decide) ?_
    exact c_law_1445 a b y zz n d w w2 C hl hX hbl hbA hc hs z v c e v2 c2 e2 v3 c3 e3 h t vs cs es q t2 ws k f m r1 r2 r3 r4 r5 r6 r7 r8 lo dd i hf kk
  have hf := x_f q22 hf
  by_cases q23 : (xs i.toNatClampNeg &&& (63 : Int32)) = 23
  · have hf := x_t q23 hf
    refine x_tableIn (off := 1414) (tgt := 1458) C dL_law_44 (by rw [q23]; decide) (by rw [q23]; decide) (by rw [q23]; rfl) (by decide) ?_
    exact c_law_1458 a b y zz n d w w2 C hl hX hbl hbA hc hs z v c e v2 c2 e2 v3 c3 e3 h t vs cs es q t2 ws k f m r1 r2 r3 r4 r5 r6 r7 r8 lo dd i hf kk
  have hf := x_f q23 hf
  by_cases q24 : (xs i.toNatClampNeg &&& (63 : Int32)) = 24
  · have hf := x_t q24 hf
    refine x_tableIn (off := 1458) (tgt := 1502) C dL_law_44 (by rw [q24]; decide) (by rw [q24]; decide) (by rw [q24]; rfl) (by decide) ?_
    exact c_law_1502 a b y zz n d w w2 C hl hX hbl hbA hc hs z v c e v2 c2 e2 v3 c3 e3 h t vs cs es q t2 ws k f m r1 r2 r3 r4 r5 r6 r7 r8 lo dd i hf kk
  have hf := x_f q24 hf
  by_cases q25 : (xs i.toNatClampNeg &&& (63 : Int32)) = 25
  · have hf := x_t q25 hf
    refine x_tableIn (off := 1471) (tgt := 1515) C dL_law_44 (by rw [q25]; decide) (by rw [q25]; decide) (by rw [q25]; rfl) (by decide) ?_
    exact c_law_1515 a b y zz n d w w2 C hl hX hbl hbA hc hs z v c e v2 c2 e2 v3 c3 e3 h t vs cs es q t2 ws k f m r1 r2 r3 r4 r5 r6 r7 r8 lo dd i hf kk
  have hf := x_f q25 hf
  by_cases q26 : (xs i.toNatClampNeg &&& (63 : Int32)) = 26
  · have hf := x_t q26 hf
    refine x_tableIn (off := 1484) (tgt := 1528) C dL_law_44 (by rw [q26]; decide) (by rw [q26]; decide) (by rw [q26]; rfl) (by decide) ?_
    exact c_law_1528 a b y zz n d w w2 C hl hX hbl hbA hc hs z v c e v2 c2 e2 v3 c3 e3 h t vs cs es q t2 ws k f m r1 r2 r3 r4 r5 r6 r7 r8 lo dd i hf kk
  have hf := x_f q26 hf
  by_cases q27 : (xs i.toNatClampNeg &&& (63 : Int32)) = 27
  · have hf := x_t q27 hf
    refine x_tableIn (off := 1497) (tgt := 1541) C dL_law_44 (by rw [q27]; decide) (by rw [q27]; decide) (by rw [q27]; rfl) (by decide) ?_
    exact c_law_1541 a b y zz n d w w2 C hl hX hbl hbA hc hs z v c e v2 c2 e2 v3 c3 e3 h t vs cs es q t2 ws k f m r1 r2 r3 r4 r5 r6 r7 r8 lo dd i hf kk
  have hf := x_f q27 hf
  by_cases q28 : (xs i.toNatClampNeg &&& (63 : Int32)) = 28
  · have hf := x_t q28 hf
    refine x_tableIn (off := 1510) (tgt := 1554) C dL_law_44 (by rw [q28]; decide) (by rw [q28]; decide) (by rw [q28]; rfl) (by decide) ?_
    exact c_law_1554 a b y zz n d w w2 C hl hX hbl hbA hc hs z v c e v2 c2 e2 v3 c3 e3 h t vs cs es q t2 ws k f m r1 r2 r3 r4 r5 r6 r7 r8 lo dd i hf kk
  have hf := x_f q28 hf
  by_cases q29 : (xs i.toNatClampNeg &&& (63 : Int32)) = 29
  · have hf := x_t q29 hf
    refine x_tableIn (off := 1523) (tgt := 1567) C dL_law_44 (by rw [q29]; decide) (by rw [q29]; decide) (by rw [q29]; rfl) (by decide) ?_
    exact c_law_1567 a b y zz n d w w2 C hl hX hbl hbA hc hs z v c e v2 c2 e2 v3 c3 e3 h t vs cs es q t2 ws k f m r1 r2 r3 r4 r5 r6 r7 r8 lo dd i hf kk
  have hf := x_f q29 hf
  by_cases q30 : (xs i.toNatClampNeg &&& (63 : Int32)) = 30
  · have hf := x_t q30 hf
    refine x_tableIn (off := 1567) (tgt := 1611) C dL_law_44 (by rw [q30]; decide) (by rw [q30]; decide) (by rw [q30]; rfl) (by decide) ?_
    exact c_law_1611 a b y zz n d w w2 C hl hX hbl hbA hc hs z v c e v2 c2 e2 v3 c3 e3 h t vs cs es q t2 ws k f m r1 r2 r3 r4 r5 r6 r7 r8 lo dd i hf kk
  have hf := x_f q30 hf
  by_cases q31 : (xs i.toNatClampNeg &&& (63 : Int32)) = 31
  · have hf := x_t q31 hf
    refine x_tableIn (off := 1611) (tgt := 1655) C dL_law_44 (by rw [q31]; decide) (by rw [q31]; decide) (by rw [q31]; rfl) (by decide) ?_
    exact c_law_1655 a b y zz n d w w2 C hl hX hbl hbA hc hs z v c e v2 c2 e2 v3 c3 e3 h t vs cs es q t2 ws k f m r1 r2 r3 r4 r5 r6 r7 r8 lo dd i hf kk
  have hf := x_f q31 hf
  by_cases q32 : (xs i.toNatClampNeg &&& (63 : Int32)) = 32
  · have hf := x_t q32 hf
    refine x_tableIn (off := 1625) (tgt := 1669) C dL_law_44 (by rw [q32]; decide) (by rw [q32]; decide) (by rw [q32]; rfl) (by decide) ?_
    exact c_law_1669 a b y zz n d w w2 C hl hX hbl hbA hc hs z v c e v2 c2 e2 v3 c3 e3 h t vs cs es q t2 ws k f m r1 r2 r3 r4 r5 r6 r7 r8 lo dd i hf kk
  have hf := x_f q32 hf
  by_cases q33 : (xs i.toNatClampNeg &&& (63 : Int32)) = 33
  · have hf := x_t q33 hf
    refine x_tableIn (off := 1639) (tgt := 1683) C dL_law_44 (by rw [q33]; decide) (by rw [q33]; decide) (by rw [q33]; rfl) (by decide) ?_
    exact c_law_1683 a b y zz n d w w2 C hl hX hbl hbA hc hs z v c e v2 c2 e2 v3 c3 e3 h t vs cs es q t2 ws k f m r1 r2 r3 r4 r5 r6 r7 r8 lo dd i hf kk
  have hf := x_f q33 hf
  by_cases q34 : (xs i.toNatClampNeg &&& (63 : Int32)) = 34
  · have hf := x_t q34 hf
    refine x_tableIn (off := 1652) (tgt := 1696) C dL_law_44 (by rw [q34]; decide) (by rw [q34]; decide) (by rw [q34]; rfl) (by decide) ?_
    exact c_law_1696 a b y zz n d w w2 C hl hX hbl hbA hc hs z v c e v2 c2 e2 v3 c3 e3 h t vs cs es q t2 ws k f m r1 r2 r3 r4 r5 r6 r7 r8 lo dd i hf kk
  have hf := x_f q34 hf
  by_cases q35 : (xs i.toNatClampNeg &&& (63 : Int32)) = 35
  · have hf := x_t q35 hf
    refine x_tableIn (off := 1717) (tgt := 1761) C dL_law_44 (by rw [q35]; decide) (by rw [q35]; decide) (by rw [q35]; rfl) (by decide) ?_
    exact c_law_1761 a b y zz n d w w2 C hl hX hbl hbA hc hs z v c e v2 c2 e2 v3 c3 e3 h t vs cs es q t2 ws k f m r1 r2 r3 r4 r5 r6 r7 r8 lo dd i hf kk
  have hf := x_f q35 hf
  by_cases q36 : (xs i.toNatClampNeg &&& (63 : Int32)) = 36
  · have hf := x_t q36 hf
    refine x_tableIn (off := 1783) (tgt := 1827) C dL_law_44 (by rw [q36]; decide) (by rw [q36]; decide) (by rw [q36]; rfl) (by decide) ?_
    exact c_law_1827 a b y zz n d w w2 C hl hX hbl hbA hc hs z v c e v2 c2 e2 v3 c3 e3 h t vs cs es q t2 ws k f m r1 r2 r3 r4 r5 r6 r7 r8 lo dd i hf kk
  have hf := x_f q36 hf
  by_cases q37 : (xs i.toNatClampNeg &&& (63 : Int32)) = 37
  · have hf := x_t q37 hf
    refine x_tableIn (off := 1796) (tgt := 1840) C dL_law_44 (by rw [q37]; decide) (by rw [q37]; decide) (by rw [q37]; rfl) (by decide) ?_
    exact c_law_1840 a b y zz n d w w2 C hl hX hbl hbA hc hs z v c e v2 c2 e2 v3 c3 e3 h t vs cs es q t2 ws k f m r1 r2 r3 r4 r5 r6 r7 r8 lo dd i hf kk
  have hf := x_f q37 hf
  by_cases q38 : (xs i.toNatClampNeg &&& (63 : Int32)) = 38
  · have hf := x_t q38 hf
    refine x_tableIn (off := 1852) (tgt := 1896) C dL_law_44 (by rw [q38]; decide) (by rw [q38]; decide) (by rw [q38]; rfl) (by decide) ?_
    exact c_law_1896 a b y zz n d w w2 C hl hX hbl hbA hc hs z v c e v2 c2 e2 v3 c3 e3 h t vs cs es q t2 ws k f m r1 r2 r3 r4 r5 r6 r7 r8 lo dd i hf kk
  have hf := x_f q38 hf
  by_cases q39 : (xs i.toNatClampNeg &&& (63 : Int32)) = 39
  · have hf := x_t q39 hf
    refine x_tableIn (off := 1865) (tgt := 1909) C dL_law_44 (by rw [q39]; decide) (by rw [q39]; decide) (by rw [q39]; rfl) (by decide) ?_
    exact c_law_1909 a b y zz n d w w2 C hl hX hbl hbA hc hs z v c e v2 c2 e2 v3 c3 e3 h t vs cs es q t2 ws k f m r1 r2 r3 r4 r5 r6 r7 r8 lo dd i hf kk
  have hf := x_f q39 hf
  by_cases q40 : (xs i.toNatClampNeg &&& (63 : Int32)) = 40
  · have hf := x_t q40 hf
    refine x_tableIn (off := 1921) (tgt := 1965) C dL_law_44 (by rw [q40]; decide) (by rw [q40]; decide) (by rw [q40]; rfl) (by decide) ?_
    exact c_law_1965 a b y zz n d w w2 C hl hX hbl hbA hc hs z v c e v2 c2 e2 v3 c3 e3 h t vs cs es q t2 ws k f m r1 r2 r3 r4 r5 r6 r7 r8 lo dd i hf kk
  have hf := x_f q40 hf
  by_cases q41 : (xs i.toNatClampNeg &&& (63 : Int32)) = 41
  · have hf := x_t q41 hf
    refine x_tableIn (off := 1979) (tgt := 2023) C dL_law_44 (by rw [q41]; decide) (by rw [q41]; decide) (by rw [q41]; rfl) (by decide) ?_
    exact c_law_2023 a b y zz n d w w2 C hl hX hbl hbA hc hs z v c e v2 c2 e2 v3 c3 e3 h t vs cs es q t2 ws k f m r1 r2 r3 r4 r5 r6 r7 r8 lo dd i hf kk
  have hf := x_f q41 hf
  by_cases q42 : (xs i.toNatClampNeg &&& (63 : Int32)) = 42
  · have hf := x_t q42 hf
    refine x_tableIn (off := 2023) (tgt := 2067) C dL_law_44 (by rw [q42]; decide) (by rw [q42]; decide) (by rw [q42]; rfl) (by decide) ?_
    exact c_law_2067 a b y zz n d w w2 C hl hX hbl hbA hc hs z v c e v2 c2 e2 v3 c3 e3 h t vs cs es q t2 ws k f m r1 r2 r3 r4 r5 r6 r7 r8 lo dd i hf kk
  have hf := x_f q42 hf
  by_cases q43 : (xs i.toNatClampNeg &&& (63 : Int32)) = 43
  · have hf := x_t q43 hf
    refine x_tableIn (off := 2067) (tgt := 2111) C dL_law_44 (by rw [q43]; decide) (by rw [q43]; decide) (by rw [q43]; rfl) (by decide) ?_
    exact c_law_2111 a b y zz n d w w2 C hl hX hbl hbA hc hs z v c e v2 c2 e2 v3 c3 e3 h t vs cs es q t2 ws k f m r1 r2 r3 r4 r5 r6 r7 r8 lo dd i hf kk
  have hf := x_f q43 hf
  by_cases q44 : (xs i.toNatClampNeg &&& (63 : Int32)) = 44
  · have hf := x_t q44 hf
    refine x_tableIn (off := 2111) (tgt := 2155) C dL_law_44 (by rw [q44]; decide) (by rw [q44]; decide) (by rw [q44]; rfl) (by decide) ?_
    exact c_law_2155 a b y zz n d w w2 C hl hX hbl hbA hc hs z v c e v2 c2 e2 v3 c3 e3 h t vs cs es q t2 ws k f m r1 r2 r3 r4 r5 r6 r7 r8 lo dd i hf kk
  have hf := x_f q44 hf
  by_cases q45 : (xs i.toNatClampNeg &&& (63 : Int32)) = 45
  · have hf := x_t q45 hf
    refine x_tableIn (off := 2155) (tgt := 2199) C dL_law_44 (by rw [q45]; decide) (by rw [q45]; decide) (by rw [q45]; rfl) (by decide) ?_
    exact c_law_2199 a b y zz n d w w2 C hl hX hbl hbA hc hs z v c e v2 c2 e2 v3 c3 e3 h t vs cs es q t2 ws k f m r1 r2 r3 r4 r5 r6 r7 r8 lo dd i hf kk
  have hf := x_f q45 hf
  by_cases q46 : (xs i.toNatClampNeg &&& (63 : Int32)) = 46
  · have hf := x_t q46 hf
    refine x_tableIn (off := 2168) (tgt := 2212) C dL_law_44 (by rw [q46]; decide) (by rw [q46]; decide) (by rw [q46]; rfl) (by decide) ?_
    exact c_law_2212 a b y zz n d w w2 C hl hX hbl hbA hc hs z v c e v2 c2 e2 v3 c3 e3 h t vs cs es q t2 ws k f m r1 r2 r3 r4 r5 r6 r7 r8 lo dd i hf kk
  have hf := x_f q46 hf
  obtain rfl := Option.some.inj hf
  refine x_tableOut (tgt := 2256) C dL_law_44 (by have w0 := lv_neT (a := 0) q0 (by decide); have w1 := lv_neT (a := 1) q1 (by decide); have w2 := lv_neT (a := 2) q2 (by decide); have w3 := lv_neT (a := 3) q3 (by decide); have w4 := lv_neT (a := 4) q4 (by decide); have w5 := lv_neT (a := 5) q5 (by decide); have w6 := lv_neT (a := 6) q6 (by decide); have w7 := lv_neT (a := 7) q7 (by decide); have w8 := lv_neT (a := 8) q8 (by decide); have w9 := lv_neT (a := 9) q9 (by decide); have w10 := lv_neT (a := 10) q10 (by decide); have w11 := lv_neT (a := 11) q11 (by decide); have w12 := lv_neT (a := 12) q12 (by decide); have w13 := lv_neT (a := 13) q13 (by decide); have w14 := lv_neT (a := 14) q14 (by decide); have w15 := lv_neT (a := 15) q15 (by decide); have w16 := lv_neT (a := 16) q16 (by decide); have w17 := lv_neT (a := 17) q17 (by decide); have w18 := lv_neT (a := 18) q18 (by decide); have w19 := lv_neT (a := 19) q19 (by decide); have w20 := lv_neT (a := 20) q20 (by decide); have w21 := lv_neT (a := 21) q21 (by decide); have w22 := lv_neT (a := 22) q22 (by decide); have w23 := lv_neT (a := 23) q23 (by decide); have w24 := lv_neT (a := 24) q24 (by decide); have w25 := lv_neT (a := 25) q25 (by decide); have w26 := lv_neT (a := 26) q26 (by decide); have w27 := lv_neT (a := 27) q27 (by decide); have w28 := lv_neT (a := 28) q28 (by decide); have w29 := lv_neT (a := 29) q29 (by decide); have w30 := lv_neT (a := 30) q30 (by decide); have w31 := lv_neT (a := 31) q31 (by decide); have w32 := lv_neT (a := 32) q32 (by decide); have w33 := lv_neT (a := 33) q33 (by decide); have w34 := lv_neT (a := 34) q34 (by decide); have w35 := lv_neT (a := 35) q35 (by decide); have w36 := lv_neT (a := 36) q36 (by decide); have w37 := lv_neT (a := 37) q37 (by decide); have w38 := lv_neT (a := 38) q38 (by decide); have w39 := lv_neT (a := 39) q39 (by decide); have w40 := lv_neT (a := 40) q40 (by decide); have w41 := lv_neT (a := 41) q41 (by decide); have w42 := lv_neT (a := 42) q42 (by decide); have w43 := lv_neT (a := 43) q43 (by decide); have w44 := lv_neT (a := 44) q44 (by decide); have w45 := lv_neT (a := 45) q45 (by decide); have w46 := lv_neT (a := 46) q46 (by decide); omega) (by decide) ?_
  exact x_widen (by omega) (by omega) (kk zz)
set_option maxHeartbeats 4000000 in
set_option maxRecDepth 100000 in
theorem c_law_loop (a b : Nat → Nat) (y : Nat) (d : Nat → Nat) (w w2 : Nat) (C : CX g RL cL_law 9 A pW sW mW argsW methW c9) (hl : l.stackTraces = false) (hX : va_X sb L xs sW sW.heap) (hbl : sb < sW.heap.size) (hbA : ¬ A sb)
    (kend : ∀ (cells slots : Nat) (wss : List va_W) (lv : List (Nat × Value)), cells ≤ room_1.cells → slots ≤ room_1.slots → VW g A 9 pW l eW room_1 sW mW argsW belowW methW c9 cells slots Q wss lv 2262 []) :
    ∀ (k9 : Nat) (u : LwT) (i : Int32) (zz cells slots : Nat), f_law_loop L xs k9 u i = some () → cells + 292 * k9 ≤ room_1.cells → slots + 5516 * k9 ≤ room_1.slots → VW g A 9 pW l eW room_1 sW mW argsW belowW methW c9 cells slots Q [ccO g a b y u.1, stO g a 10 u.2.1, cdW g a 10 u.2.2.1, evW g a 10 u.2.2.2.1, stO g a 20 u.2.2.2.2.1, cdW g a 20 u.2.2.2.2.2.1, evW g a 20 u.2.2.2.2.2.2.1, stO g a 30 u.2.2.2.2.2.2.2.1, cdW g a 30 u.2.2.2.2.2.2.2.2.1, evW g a 30 u.2.2.2.2.2.2.2.2.2.1, hiO g a u.2.2.2.2.2.2.2.2.2.2.1, hrW g a u.2.2.2.2.2.2.2.2.2.2.2.1, stF g a u.2.2.2.2.2.2.2.2.2.2.2.2.1, cdF g a u.2.2.2.2.2.2.2.2.2.2.2.2.2.1, evF g a u.2.2.2.2.2.2.2.2.2.2.2.2.2.2.1, prO g b u.2.2.2.2.2.2.2.2.2.2.2.2.2.2.2.1, caW g b u.2.2.2.2.2.2.2.2.2.2.2.2.2.2.2.2.1, cmF g b u.2.2.2.2.2.2.2.2.2.2.2.2.2.2.2.2.2.1, sbO g y zz u.2.2.2.2.2.2.2.2.2.2.2.2.2.2.2.2.2.2.1, baW g zz u.2.2.2.2.2.2.2.2.2.2.2.2.2.2.2.2.2.2.2.2.2.2.2.2.2.2.2.2.2.2.2 u.2.2.2.2.2.2.2.2.2.2.2.2.2.2.2.2.2.2.2.1, mdO g d u.2.2.2.2.2.2.2.2.2.2.2.2.2.2.2.2.2.2.2.2.1, iaW g (d 1) 110 u.2.2.2.2.2.2.2.2.2.2.2.2.2.2.2.2.2.2.2.2.2.1, iaW g (d 2) 110 u.2.2.2.2.2.2.2.2.2.2.2.2.2.2.2.2.2.2.2.2.2.2.1, iaW g (d 3) 110 u.2.2.2.2.2.2.2.2.2.2.2.2.2.2.2.2.2.2.2.2.2.2.2.1, iaW g (d 4) 110 u.2.2.2.2.2.2.2.2.2.2.2.2.2.2.2.2.2.2.2.2.2.2.2.2.1, iaW g (d 5) 880 u.2.2.2.2.2.2.2.2.2.2.2.2.2.2.2.2.2.2.2.2.2.2.2.2.2.1, iaW g (d 6) 200 u.2.2.2.2.2.2.2.2.2.2.2.2.2.2.2.2.2.2.2.2.2.2.2.2.2.2.1, iaW g (d 7) 60 u.2.2.2.2.2.2.2.2.2.2.2.2.2.2.2.2.2.2.2.2.2.2.2.2.2.2.2.1, iaW g (d 8) 124 u.2.2.2.2.2.2.2.2.2.2.2.2.2.2.2.2.2.2.2.2.2.2.2.2.2.2.2.2.1, loW g w u.2.2.2.2.2.2.2.2.2.2.2.2.2.2.2.2.2.2.2.2.2.2.2.2.2.2.2.2.2.1, doW g w2 u.2.2.2.2.2.2.2.2.2.2.2.2.2.2.2.2.2.2.2.2.2.2.2.2.2.2.2.2.2.2.1] [(0, .ref sb), (1, .ref (a 0)), (2, .ref (d 0)), (3, .ref w), (4, .ref w2), (5, .int i)] 28 [] := by
  intro k9
  induction k9 with
  | zero => intro u i zz cells slots hf; rw [f_law_loop] at hf; cases hf
  | succ k9 ih =>
    intro u i zz cells slots hf hc hs
    rw [f_law_loop] at hf
    by_cases hi : (Int32.ofNat L) - (4 : Int32) < i
    · refine x_iload C dL_law_28 5 rfl ?_
      refine x_aload_n C dL_law_30 rfl 0 rfl ?_
      refine x_slen C hX hbl hbA dL_law_31 ?_
      refine x_iconst (v := 4) C dL_law_32 (by decide) ?_
      refine x_isub C dL_law_33 ?_
      exact x_icmp_gt (tgt := 2262) C dL_law_34 (by decide) (fun _ => kend _ _ _ _ (by omega) (by omega)) (fun h => absurd hi h)
    · have hf := x_f hi hf
      obtain ⟨u9, hu9, hf⟩ := x_b hf
      refine c_law_step a b y zz (u.2.2.2.2.2.2.2.2.2.2.2.2.2.2.2.2.2.2.2.2.2.2.2.2.2.2.2.2.2.2.2) d w w2 C hl hX hbl hbA (by omega) (by omega) (u.1) (u.2.1) (u.2.2.1) (u.2.2.2.1) (u.2.2.2.2.1) (u.2.2.2.2.2.1) (u.2.2.2.2.2.2.1) (u.2.2.2.2.2.2.2.1) (u.2.2.2.2.2.2.2.2.1) (u.2.2.2.2.2.2.2.2.2.1) (u.2.2.2.2.2.2.2.2.2.2.1) (u.2.2.2.2.2.2.2.2.2.2.2.1) (u.2.2.2.2.2.2.2.2.2.2.2.2.1) (u.2.2.2.2.2.2.2.2.2.2.2.2.2.1) (u.2.2.2.2.2.2.2.2.2.2.2.2.2.2.1) (u.2.2.2.2.2.2.2.2.2.2.2.2.2.2.2.1) (u.2.2.2.2.2.2.2.2.2.2.2.2.2.2.2.2.1) (u.2.2.2.2.2.2.2.2.2.2.2.2.2.2.2.2.2.1) (u.2.2.2.2.2.2.2.2.2.2.2.2.2.2.2.2.2.2.1) (u.2.2.2.2.2.2.2.2.2.2.2.2.2.2.2.2.2.2.2.1) (u.2.2.2.2.2.2.2.2.2.2.2.2.2.2.2.2.2.2.2.2.1) (u.2.2.2.2.2.2.2.2.2.2.2.2.2.2.2.2.2.2.2.2.2.1) (u.2.2.2.2.2.2.2.2.2.2.2.2.2.2.2.2.2.2.2.2.2.2.1) (u.2.2.2.2.2.2.2.2.2.2.2.2.2.2.2.2.2.2.2.2.2.2.2.1) (u.2.2.2.2.2.2.2.2.2.2.2.2.2.2.2.2.2.2.2.2.2.2.2.2.1) (u.2.2.2.2.2.2.2.2.2.2.2.2.2.2.2.2.2.2.2.2.2.2.2.2.2.1) (u.2.2.2.2.2.2.2.2.2.2.2.2.2.2.2.2.2.2.2.2.2.2.2.2.2.2.1) (u.2.2.2.2.2.2.2.2.2.2.2.2.2.2.2.2.2.2.2.2.2.2.2.2.2.2.2.1) (u.2.2.2.2.2.2.2.2.2.2.2.2.2.2.2.2.2.2.2.2.2.2.2.2.2.2.2.2.1) (u.2.2.2.2.2.2.2.2.2.2.2.2.2.2.2.2.2.2.2.2.2.2.2.2.2.2.2.2.2.1) (u.2.2.2.2.2.2.2.2.2.2.2.2.2.2.2.2.2.2.2.2.2.2.2.2.2.2.2.2.2.2.1) i hi hu9 (fun z9 => ?_)
      refine x_iinc (v := i + 4) (lv' := [(5, .int (i + 4)), (0, .ref sb), (1, .ref (a 0)), (2, .ref (d 0)), (3, .ref w), (4, .ref w2)]) C dL_law_2256 5 rfl rfl (by decide) rfl ?_
      refine x_goto (tgt := 28) C dL_law_2259 (by decide) ?_
      refine x_locals (lv' := [(0, .ref sb), (1, .ref (a 0)), (2, .ref (d 0)), (3, .ref w), (4, .ref w2), (5, .int (i + 4))]) [1, 2, 3, 4, 5, 0] rfl ?_
      exact ih u9 (i + 4) z9 (cells + 292) (slots + 5516) hf (by omega) (by omega)
end XM
