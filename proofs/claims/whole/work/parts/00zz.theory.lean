/-! THE THEORY, 26: the law's loop -/
section LP
variable {J : Int} {L p : Nat} {xs : Nat → Int32} {z : CcT} {v : StS} {c : CdT} {e : EvT} {v2 : StS} {c2 : CdT} {e2 : EvT} {v3 : StS} {c3 : CdT} {e3 : EvT} {h : HiT} {t : Unit} {vs : Nat → StS} {cs : Nat → CdT} {es : Nat → EvT} {q : PrT} {t2 : Unit} {ws : Nat → CmT} {k : SbT} {f : Nat → Int32} {m : MdT} {r1 : Nat → Int32} {r2 : Nat → Int32} {r3 : Nat → Int32} {r4 : Nat → Int32} {r5 : Nat → Int32} {r6 : Nat → Int32} {r7 : Nat → Int32} {r8 : Nat → Int32} {lo : Nat → Int64} {dd : Nat → UInt64} {n : Nat}
set_option maxRecDepth 4096 in
theorem zc_step (I : zI J z v c e v3 c3 e3 h vs cs es q k f m r1 r4 r5 r6 r7 n) (hJ : J + 5000 < 9000000) (hp : p + 3 < L) (hL : L ≤ 2048) : ∃ u, f_law_step n L xs z v c e v2 c2 e2 v3 c3 e3 h t vs cs es q t2 ws k f m r1 r2 r3 r4 r5 r6 r7 r8 lo dd (Int32.ofNat p) = some u ∧ zIu (J + 4000) u := by
  unfold f_law_step
  rw [zt_gi (by omega) (by omega), zt_cl (by omega)]
  generalize xs p &&& 63 = y
  by_cases h0 : y = 0
  · rw [if_pos h0]; exact zc_248 I hJ hp hL
  rw [if_neg h0]
  by_cases h1 : y = 1
  · rw [if_pos h1]; exact zc_330 I hJ hp hL
  rw [if_neg h1]
  by_cases h2 : y = 2
  · rw [if_pos h2]; exact zc_386 I hJ hp hL
  rw [if_neg h2]
  by_cases h3 : y = 3
  · rw [if_pos h3]; exact zc_442 I hJ hp hL
  rw [if_neg h3]
  by_cases h4 : y = 4
  · rw [if_pos h4]; exact zc_510 I hJ hp hL
  rw [if_neg h4]
  by_cases h5 : y = 5
  · rw [if_pos h5]; exact zc_566 I hJ hp hL
  rw [if_neg h5]
  by_cases h6 : y = 6
  · rw [if_pos h6]; exact zc_662 I hJ hp hL
  rw [if_neg h6]
  by_cases h7 : y = 7
  · rw [if_pos h7]; exact zc_718 I hJ hp hL
  rw [if_neg h7]
  by_cases h8 : y = 8
  · rw [if_pos h8]; exact zc_774 I hJ hp hL
  rw [if_neg h8]
  by_cases h9 : y = 9
  · rw [if_pos h9]; exact zc_787 I hJ hp hL
  rw [if_neg h9]
  by_cases h10 : y = 10
  · rw [if_pos h10]; exact zc_843 I hJ hp hL
  rw [if_neg h10]
  by_cases h11 : y = 11
  · rw [if_pos h11]; exact zc_899 I hJ hp hL
  rw [if_neg h11]
  by_cases h12 : y = 12
  · rw [if_pos h12]; exact zc_955 I hJ hp hL
  rw [if_neg h12]
  by_cases h13 : y = 13
  · rw [if_pos h13]; exact zc_1018 I hJ hp hL
  rw [if_neg h13]
  by_cases h14 : y = 14
  · rw [if_pos h14]; exact zc_1031 I hJ hp hL
  rw [if_neg h14]
  by_cases h15 : y = 15
  · rw [if_pos h15]; exact zc_1089 I hJ hp hL
  rw [if_neg h15]
  by_cases h16 : y = 16
  · rw [if_pos h16]; exact zc_1145 I hJ hp hL
  rw [if_neg h16]
  by_cases h17 : y = 17
  · rw [if_pos h17]; exact zc_1201 I hJ hp hL
  rw [if_neg h17]
  by_cases h18 : y = 18
  · rw [if_pos h18]; exact zc_1257 I hJ hp hL
  rw [if_neg h18]
  by_cases h19 : y = 19
  · rw [if_pos h19]; exact zc_1270 I hJ hp hL
  rw [if_neg h19]
  by_cases h20 : y = 20
  · rw [if_pos h20]; exact zc_1326 I hJ hp hL
  rw [if_neg h20]
  by_cases h21 : y = 21
  · rw [if_pos h21]; exact zc_1382 I hJ hp hL
  rw [if_neg h21]
  by_cases h22 : y = 22
  · rw [if_pos h22]; exact zc_1445 I hJ hp hL
  rw [if_neg h22]
  by_cases h23 : y = 23
  · rw [if_pos h23]; exact zc_1458 I hJ hp hL
  rw [if_neg h23]
  by_cases h24 : y = 24
  · rw [if_pos h24]; exact zc_1502 I hJ hp hL
  rw [if_neg h24]
  by_cases h25 : y = 25
  · rw [if_pos h25]; exact zc_1515 I hJ hp hL
  rw [if_neg h25]
  by_cases h26 : y = 26
  · rw [if_pos h26]; exact zc_1528 I hJ hp hL
  rw [if_neg h26]
  by_cases h27 : y = 27
  · rw [if_pos h27]; exact zc_1541 I hJ hp hL
  rw [if_neg h27]
  by_cases h28 : y = 28
  · rw [if_pos h28]; exact zc_1554 I hJ hp hL
  rw [if_neg h28]
  by_cases h29 : y = 29
  · rw [if_pos h29]; exact zc_1567 I hJ hp hL
  rw [if_neg h29]
  by_cases h30 : y = 30
  · rw [if_pos h30]; exact zc_1611 I hJ hp hL
  rw [if_neg h30]
  by_cases h31 : y = 31
  · rw [if_pos h31]; exact zc_1655 I hJ hp hL
  rw [if_neg h31]
  by_cases h32 : y = 32
  · rw [if_pos h32]; exact zc_1669 I hJ hp hL
  rw [if_neg h32]
  by_cases h33 : y = 33
  · rw [if_pos h33]; exact zc_1683 I hJ hp hL
  rw [if_neg h33]
  by_cases h34 : y = 34
  · rw [if_pos h34]; exact zc_1696 I hJ hp hL
  rw [if_neg h34]
  by_cases h35 : y = 35
  · rw [if_pos h35]; exact zc_1761 I hJ hp hL
  rw [if_neg h35]
  by_cases h36 : y = 36
  · rw [if_pos h36]; exact zc_1827 I hJ hp hL
  rw [if_neg h36]
  by_cases h37 : y = 37
  · rw [if_pos h37]; exact zc_1840 I hJ hp hL
  rw [if_neg h37]
  by_cases h38 : y = 38
  · rw [if_pos h38]; exact zc_1896 I hJ hp hL
  rw [if_neg h38]
  by_cases h39 : y = 39
  · rw [if_pos h39]; exact zc_1909 I hJ hp hL
  rw [if_neg h39]
  by_cases h40 : y = 40
  · rw [if_pos h40]; exact zc_1965 I hJ hp hL
  rw [if_neg h40]
  by_cases h41 : y = 41
  · rw [if_pos h41]; exact zc_2023 I hJ hp hL
  rw [if_neg h41]
  by_cases h42 : y = 42
  · rw [if_pos h42]; exact zc_2067 I hJ hp hL
  rw [if_neg h42]
  by_cases h43 : y = 43
  · rw [if_pos h43]; exact zc_2111 I hJ hp hL
  rw [if_neg h43]
  by_cases h44 : y = 44
  · rw [if_pos h44]; exact zc_2155 I hJ hp hL
  rw [if_neg h44]
  by_cases h45 : y = 45
  · rw [if_pos h45]; exact zc_2199 I hJ hp hL
  rw [if_neg h45]
  by_cases h46 : y = 46
  · rw [if_pos h46]; exact zc_2212 I hJ hp hL
  rw [if_neg h46]
  obtain ⟨i1, i2, ⟨i3, i4⟩, i5, i6, i7⟩ := I
  exact ⟨_, rfl, zSt_mono (by omega) i1, zH_mono (by omega) i2, ⟨i3, fun g => zSt_mono (by omega) (i4 g)⟩, i5, i6, i7⟩
end LP
theorem zc_loop {L : Nat} (hL : L ≤ 2048) (xs : Nat → Int32) : ∀ (k j : Nat) (u : LwT), k + j = 513 → j ≤ 512 → zIu (4000 * j) u → f_law_loop L xs k u (Int32.ofNat (4 * j)) = some () := by
  intro k
  induction k with
  | zero => intro j u h1 h2; omega
  | succ k ih =>
    intro j u h1 h2 hI
    rw [f_law_loop]
    have e4 : (4 : Int32).toInt = 4 := rfl
    have ed : (Int32.ofNat L - 4).toInt = (L : Int) - 4 := by
      rw [zt_tsub (by rw [zt_ti (by omega), e4]; omega) (by rw [zt_ti (by omega), e4]; omega), zt_ti (by omega), e4]
    by_cases g : L < 4 * j + 4
    · rw [if_pos]
      rw [Int32.lt_iff_toInt_lt, ed, zt_ti (by omega)]
      omega
    · rw [if_neg]
      · obtain ⟨u', g1, g2⟩ := zc_step (L := L) (xs := xs) (p := 4 * j) (v2 := u.2.2.2.2.1) (c2 := u.2.2.2.2.2.1) (e2 := u.2.2.2.2.2.2.1) (t := u.2.2.2.2.2.2.2.2.2.2.2.1) (t2 := (u.2.2.2.2.2.2.2.2.2.2.2.2.2.2.2.2.1)) (ws := (u.2.2.2.2.2.2.2.2.2.2.2.2.2.2.2.2.2.1)) (r2 := (u.2.2.2.2.2.2.2.2.2.2.2.2.2.2.2.2.2.2.2.2.2.2.1)) (r3 := (u.2.2.2.2.2.2.2.2.2.2.2.2.2.2.2.2.2.2.2.2.2.2.2.1)) (r8 := (u.2.2.2.2.2.2.2.2.2.2.2.2.2.2.2.2.2.2.2.2.2.2.2.2.2.2.2.2.1)) (lo := (u.2.2.2.2.2.2.2.2.2.2.2.2.2.2.2.2.2.2.2.2.2.2.2.2.2.2.2.2.2.1)) (dd := (u.2.2.2.2.2.2.2.2.2.2.2.2.2.2.2.2.2.2.2.2.2.2.2.2.2.2.2.2.2.2.1)) hI (by omega) (by omega) hL
        rw [g1, Option.bind_some]
        have e5 : Int32.ofNat (4 * j) + 4 = Int32.ofNat (4 * (j + 1)) := zt_add _ 4
        rw [e5]
        refine ih (j + 1) u' (by omega) (by omega) ?_
        rw [show (4000 * ((j + 1 : Nat) : Int)) = 4000 * j + 4000 by omega]
        exact g2
      · rw [Int32.lt_iff_toInt_lt, ed, zt_ti (by omega)]
        omega
theorem zc_start : zIu 0 lw_u0 := by
  refine ⟨⟨0, 0, 0, Int.le_refl _, ⟨⟨rfl, by omega, fun i hi => absurd hi (by omega)⟩, ⟨rfl, fun i hi => absurd hi (by omega)⟩, ⟨rfl, by omega, fun i hi => absurd hi (by omega), fun i hi => absurd hi (by omega)⟩, ⟨rfl, fun i hi => absurd hi (by omega)⟩, ⟨rfl, by omega, by decide, by decide, by decide⟩, ⟨rfl, rfl, rfl, rfl, Or.inr rfl, rfl, rfl, rfl⟩⟩, ⟨rfl, by decide, by decide, fun i _ _ => rfl⟩⟩, ⟨0, 0, by omega, by omega, rfl, rfl, rfl, fun j hj => absurd hj (by omega)⟩, ⟨rfl, fun h => absurd rfl h⟩, ⟨rfl, rfl, Or.inl rfl, Or.inl rfl⟩, ⟨0, rfl, rfl, by omega, fun i hi => absurd hi (by omega)⟩, ⟨0, rfl, rfl, by omega, by omega, Or.inl rfl, fun i hi => absurd hi (by omega), fun i _ => zt_fits (x := 0) (by decide)⟩⟩
/-- every script is gone through, and every answer is the reference's -/
theorem lw_theory {L : Nat} (hL : L ≤ 2048) (xs : Nat → Int32) : f_law_loop L xs 513 lw_u0 0 = some () :=
  zc_loop hL xs 513 0 lw_u0 (by omega) (by omega) zc_start
