/-! P50, 5: isWell holds of a state that is well -/
section YW
variable {n k : Nat} {T : Int} {z : CcT} {v : StS} {c : CdT} {e : EvT} {s : Nat → Int32}
theorem yo_dark (z : CcT) (h : zS n k T v c e s) (hT : T + 2000 < 2147480000) : ∃ N : Nat, N ≤ 1998 ∧ (N = 0 ↔ k = 0 ∧ ∀ i, i < n → c.2.2.2.1 i = 0) ∧ (∀ (v2 : StS) (c2 : CdT) (e2 : EvT), ∃ (v' : StS) (c' : CdT) (e' : EvT), f_X9_minutesUntilDark z v c e v2 c2 e2 = some (Int32.ofNat N, v', c', e')) ∧ ∀ (v2 : StS) (c2 : CdT) (e2 : EvT), ∃ (v' : StS) (c' : CdT) (e' : EvT), f_X9_minutesUntilDarkByLeaps z v c e v2 c2 e2 = some (Int32.ofNat N, v', c', e') := by
  obtain ⟨N, hN, hd⟩ := zt_ends h hT
  have hcp := fun (v2 : StS) (c2 : CdT) (e2 : EvT) => zt_copy v2 c2 e2 h.1 h.2.2.1 h.2.2.2.2.1
  have key : ∀ (c' : CdT) (e' : EvT), zCE n c c' → zEE k e e' → zpDk n (zpQ v c') N (zCan n k v c' e') := fun c' e' k2 k3 => by
    have hs := zt_sc h k2 k3 (fun x _ => rfl)
    have g := zt_can h
    have hp' : zPR n (zCan n k v c e) v c' e' := by
      refine ⟨g.1, k3.1.trans g.2.1, g.2.2.1, fun i hi => ?_, fun j hj => ?_⟩
      · obtain ⟨q1, q2, q3, q4⟩ := k2.2 i hi
        rw [q2, q4]; exact g.2.2.2.1 i hi
      · obtain ⟨q1, q2, q3⟩ := k3.2 j hj
        rw [q1, q2, q3]; exact g.2.2.2.2 j hj
    exact zt_dkq N k T v c' e' s _ _ _ _ hs (by omega) (fun i hi => by unfold zpQ; rw [(k2.2 i hi).2.2.1]) rfl hp' (zt_can hs) hd
  refine ⟨N, hN, ?_, fun v2 c2 e2 => ?_, fun v2 c2 e2 => ?_⟩
  · have g := zt_darkP h (zt_can h)
    cases N with
    | zero => exact ⟨fun _ => g.mp hd, fun _ => rfl⟩
    | succ N => exact ⟨fun q => absurd q (by omega), fun q => absurd (g.mpr q) hd.1⟩
  · obtain ⟨c', e', k1, k2, k3⟩ := hcp v2 c2 e2
    have hs := zt_sc h k2 k3 (fun x _ => rfl)
    obtain ⟨v1, c1, e1, an, s1, z1, z2, z3⟩ := zt_untilL (z := z) (v := v) (c := c) (e := e) h.2.2.2.2.1.1 N xFuel xFuel 0 k T v c' e' s s (0, 0, 0, 0, 0, 0, 0, 0, 0, 0) _ _ hs (by omega) (by omega) (by unfold xFuel; omega) (by unfold xFuel; omega) (by omega) rfl (zt_can hs) (key c' e' k2 k3)
    rw [Nat.zero_add] at z1
    refine ⟨v1, c1, e1, ?_⟩
    unfold f_X9_minutesUntilDark
    rw [k1, Option.bind_some]
    exact z1
  · obtain ⟨c', e', k1, k2, k3⟩ := hcp v2 c2 e2
    have hs := zt_sc h k2 k3 (fun x _ => rfl)
    obtain ⟨v1, c1, e1, z1⟩ := zt_leapL (z := z) (v := v) (c := c) (e := e) h.2.2.2.2.1.1 N N xFuel 0 0 k T v c' e' s (Nat.le_refl _) hs (by omega) (by omega) (by unfold xFuel; omega) (by omega) (by omega) (key c' e' k2 k3)
    rw [Nat.zero_add] at z1
    refine ⟨v1, c1, e1, ?_⟩
    unfold f_X9_minutesUntilDarkByLeaps
    rw [k1, Option.bind_some]
    exact z1
theorem yv_left {i M : Nat} (hc : zCW n c) (hi : i < n) (g : f_X8_minutesLeftOf v c (Int32.ofNat i) = some (Int32.ofNat M)) : f_X9_minutesLeft z v c (Int32.ofNat i) = some (Sum.inr (Int32.ofNat M)) := by
  unfold f_X9_minutesLeft
  rw [yr_req hc hi, Option.bind_some]
  simp only [Sum.elim_inr]
  rw [g, Option.bind_some]
theorem yv_burning {i M : Nat} (hc : zCW n c) (hi : i < n) (g : f_X8_minutesOfBurning v c (Int32.ofNat i) = some (Int32.ofNat M)) : f_X9_minutesLeftByBurning z v c (Int32.ofNat i) = some (Sum.inr (Int32.ofNat M)) := by
  unfold f_X9_minutesLeftByBurning
  rw [yr_req hc hi, Option.bind_some]
  simp only [Sum.elim_inr]
  rw [g, Option.bind_some]
/-- a quotient rounded up -/
theorem yt_ceil {w q : Nat} (hq : 1 ≤ q) : w ≤ (w + q - 1) / q * q ∧ (w + q - 1) / q * q < w + q := by
  have h1 := Nat.div_add_mod (w + q - 1) q
  have h2 := Nat.mod_lt (w + q - 1) hq
  rw [Nat.mul_comm] at h1
  omega
theorem yt_mul {M q : Nat} (hM : M ≤ 999) (hq : q ≤ 12) : M * q ≤ 11988 := by
  have h := Nat.mul_le_mul hM hq
  omega
/-- both tests of a candle's minutes -/
theorem yt_tests {w q : Nat} (hq : 1 ≤ q) (hq2 : q ≤ 12) (hw : w ≤ 999) : ¬ Int32.ofNat ((w + q - 1) / q) * Int32.ofNat q < Int32.ofNat w ∧ (Int32.ofNat ((w + q - 1) / q) - 1) * Int32.ofNat q < Int32.ofNat w := by
  obtain ⟨c1, c2⟩ := yt_ceil (w := w) hq
  have hM : (w + q - 1) / q ≤ 999 := by
    rcases Nat.lt_or_ge 999 ((w + q - 1) / q) with g | g
    · have h3 : 1000 * q ≤ (w + q - 1) / q * q := Nat.mul_le_mul_right q g
      omega
    · exact g
  have hMq := yt_mul hM hq2
  generalize (w + q - 1) / q = M at *
  constructor
  · rw [zt_mul, zt_lt (by omega) (by omega)]
    omega
  · have e1 : (Int32.ofNat M - 1).toInt = (M : Int) - 1 := by
      have e9 : (1 : Int32).toInt = 1 := rfl
      rw [zt_tsub (by rw [zt_ti (by omega), e9]; omega) (by rw [zt_ti (by omega), e9]; omega), zt_ti (by omega), e9]
    have e2 : ((M : Int) - 1) * (q : Int) = ((M * q : Nat) : Int) - q := by
      rw [Int.sub_mul, Int.one_mul, Int.natCast_mul]
    rw [Int32.lt_iff_toInt_lt, zt_tmul (by rw [e1, zt_ti (by omega), e2]; omega) (by rw [e1, zt_ti (by omega), e2]; omega), e1, zt_ti (by omega), zt_ti (by omega), e2]
    omega
theorem yw_19 (hc : zCW n c) (hv : zVW T v) (v2 : StS) (c2 : CdT) (e2 : EvT) (A x4 : Int32) (hA : -10000 ≤ A.toInt ∧ A.toInt ≤ 10000) : ∀ (r F i : Nat), i + r = n → r < F → f_Q_isWell_19 F z v c e v2 c2 e2 (A + zt_sum c.2.1 i).toInt64 (zt_sum c.2.2.2.1 i) x4 (Int32.ofNat i) = f_Q_isWell_167 32 z v c e v2 c2 e2 (A + zt_sum c.2.1 n).toInt64 (zt_sum c.2.2.2.1 n) x4 0 := by
  have hn := hc.2.1
  intro r
  induction r with
  | zero =>
    intro F i hi hF
    obtain ⟨F, rfl⟩ : ∃ F', F = F' + 1 := ⟨F - 1, by omega⟩
    obtain rfl : i = n := by omega
    rw [f_Q_isWell_19, show f_X9_candles z v c = some c.2.2.2.2 from rfl, Option.bind_some, hc.1, if_pos ((zt_le (by omega) (by omega)).mpr (Nat.le_refl _))]
  | succ r ih =>
    intro F i hi hF
    obtain ⟨F, rfl⟩ : ∃ F', F = F' + 1 := ⟨F - 1, by omega⟩
    have hin : i < n := by omega
    obtain ⟨q, w, b1, b2, b3, b4, b5, b6, b7⟩ := zt_mLeft hin hc hv
    obtain ⟨t1, t2⟩ := yt_tests (w := w) b2 b3 b5
    have hw := (hc.2.2 i hin).2.1
    have hA1 : ¬ c.2.1 i < 0 := by rw [Int32.lt_iff_toInt_lt, zt_i0]; omega
    have hA2 : ¬ (999 : Int32) < c.2.1 i := by
      rw [Int32.lt_iff_toInt_lt]
      have : (999 : Int32).toInt = 999 := rfl
      omega
    have hs := zt_sum_le (f := c.2.1) (b := 999) (by omega) (n := i) (by omega) (fun j hj => (hc.2.2 j (by omega)).2.1)
    have hs2 : (zt_sum c.2.1 i).toInt ≤ 9990 := by omega
    have hAs : (A + zt_sum c.2.1 i).toInt = A.toInt + (zt_sum c.2.1 i).toInt := zt_tadd (by omega) (by omega)
    have ew : (A + zt_sum c.2.1 i).toInt64 + (c.2.1 i).toInt64 = (A + zt_sum c.2.1 (i + 1)).toInt64 := by
      rw [zt_64 (by omega) (by omega), Int32.add_assoc]
      rfl
    have t1' : ¬ Int32.ofNat ((w + q - 1) / q) * (c.2.2.1 i + v.1) < c.2.1 i := by rw [b1, b4]; exact t1
    have t2' : (Int32.ofNat ((w + q - 1) / q) - 1) * (c.2.2.1 i + v.1) < c.2.1 i := by rw [b1, b4]; exact t2
    have hi2 := ih F (i + 1) (by omega) (by omega)
    rw [f_Q_isWell_19, show f_X9_candles z v c = some c.2.2.2.2 from rfl, Option.bind_some, hc.1, if_neg (fun q => absurd ((zt_le (by omega) (by omega)).mp q) (by omega))]
    simp only [yv_left (z := z) hc hin b6, yv_burning (z := z) hc hin b7, yv_wax hc hin, yv_cons hc hin, yv_lit hc hin, Option.bind_some, Sum.elim_inr, hA1, hA2, t1', t2', if_false, if_true, zt_succ, ew]
    rcases (hc.2.2 i hin).2.2.2 with hl | ⟨hl, hl2⟩
    · have el : zt_sum c.2.2.2.1 i + 0 = zt_sum c.2.2.2.1 (i + 1) := by
        rw [zt_sum, hl]
      simp only [hl, if_true, el]
      exact hi2
    · have el : zt_sum c.2.2.2.1 i + 1 = zt_sum c.2.2.2.1 (i + 1) := by
        rw [zt_sum, hl]
      simp only [hl, hl2, if_neg zt_10, if_false, el]
      exact hi2
/-- the four voices -/
theorem yt_chr : ∀ j : Nat, j < 4 → f_J0_charAt_5068e 12 (Int32.ofNat j) = some (voT.getD j 0) ∧ zVo (voT.getD j 0) := by
  intro j hj
  have h9 : j = 0 ∨ j = 1 ∨ j = 2 ∨ j = 3 := by omega
  rcases h9 with rfl | rfl | rfl | rfl
  · exact ⟨by decide +kernel, Or.inl rfl⟩
  · exact ⟨by decide +kernel, Or.inr (Or.inl rfl)⟩
  · exact ⟨by decide +kernel, Or.inr (Or.inr (Or.inl rfl))⟩
  · exact ⟨by decide +kernel, Or.inr (Or.inr (Or.inr rfl))⟩
theorem yv_sound {x : Int32} (hc : zCW n c) (hx : zVo x) : f_X9_sounding z v c x = some (Sum.inr (zt_sum (zVs c x) n)) := by
  unfold f_X9_sounding
  rw [((zt_isVoice x).1 hx).1, Option.bind_some, if_neg zt_10, zt_cntOf x hc, Option.bind_some]
theorem yt_four {c : CdT} : ∀ {n : Nat}, (∀ i, i < n → c.1 i = 115 ∨ c.1 i = 97 ∨ c.1 i = 116 ∨ c.1 i = 98) → 0 + zt_sum (zVs c 115) n + zt_sum (zVs c 97) n + zt_sum (zVs c 116) n + zt_sum (zVs c 98) n = zt_sum c.2.2.2.1 n
  | 0, _ => rfl
  | n + 1, h => by
    have ih := yt_four (c := c) (n := n) (fun i hi => h i (by omega))
    simp only [zt_sum]
    have hx := h n (by omega)
    unfold zVs at *
    rcases hx with q | q | q | q <;> simp only [q] <;> rw [← ih] <;> simp only [show ((115 : Int32) = 97) = False from by decide, show ((115 : Int32) = 116) = False from by decide, show ((115 : Int32) = 98) = False from by decide, show ((97 : Int32) = 115) = False from by decide, show ((97 : Int32) = 116) = False from by decide, show ((97 : Int32) = 98) = False from by decide, show ((116 : Int32) = 115) = False from by decide, show ((116 : Int32) = 97) = False from by decide, show ((116 : Int32) = 98) = False from by decide, show ((98 : Int32) = 115) = False from by decide, show ((98 : Int32) = 97) = False from by decide, show ((98 : Int32) = 116) = False from by decide, if_true, if_false] <;> grind
theorem yw_167 (hc : zCW n c) (v2 : StS) (c2 : CdT) (e2 : EvT) (x1 : Int64) (x3 : Int32) : f_Q_isWell_167 32 z v c e v2 c2 e2 x1 x3 0 0 = f_Q_isWell_198 32 z v c e v2 c2 e2 x1 x3 (zt_sum c.2.2.2.1 n) 0 := by
  have st : ∀ (F j : Nat) (x4 : Int32), j < 4 → f_Q_isWell_167 (F + 1) z v c e v2 c2 e2 x1 x3 x4 (Int32.ofNat j) = f_Q_isWell_167 F z v c e v2 c2 e2 x1 x3 (x4 + zt_sum (zVs c (voT.getD j 0)) n) (Int32.ofNat (j + 1)) := fun F j x4 hj => by
    obtain ⟨g1, g2⟩ := yt_chr j hj
    rw [f_Q_isWell_167, if_neg (show ¬ (4 : Int32) ≤ Int32.ofNat j from fun q => absurd ((zt_le (a := 4) (by omega) (by omega)).mp q) (by omega)), g1, Option.bind_some, if_pos (by decide), yv_sound hc g2]
    simp only [Option.bind_some, Sum.elim_inr, zt_succ]
  have e0 : (0 : Int32) = Int32.ofNat 0 := rfl
  have h0 := st 31 0 0 (by omega)
  have h1 := st 30 1 (0 + zt_sum (zVs c (voT.getD 0 0)) n) (by omega)
  have h2 := st 29 2 (0 + zt_sum (zVs c (voT.getD 0 0)) n + zt_sum (zVs c (voT.getD 1 0)) n) (by omega)
  have h3 := st 28 3 (0 + zt_sum (zVs c (voT.getD 0 0)) n + zt_sum (zVs c (voT.getD 1 0)) n + zt_sum (zVs c (voT.getD 2 0)) n) (by omega)
  have h4 : f_Q_isWell_167 28 z v c e v2 c2 e2 x1 x3 (0 + zt_sum (zVs c (voT.getD 0 0)) n + zt_sum (zVs c (voT.getD 1 0)) n + zt_sum (zVs c (voT.getD 2 0)) n + zt_sum (zVs c (voT.getD 3 0)) n) (Int32.ofNat 4) = f_Q_isWell_198 32 z v c e v2 c2 e2 x1 x3 (zt_sum c.2.2.2.1 n) 0 := by
    rw [f_Q_isWell_167, if_pos (by decide)]
    have e9 : 0 + zt_sum (zVs c (voT.getD 0 0)) n + zt_sum (zVs c (voT.getD 1 0)) n + zt_sum (zVs c (voT.getD 2 0)) n + zt_sum (zVs c (voT.getD 3 0)) n = zt_sum c.2.2.2.1 n := yt_four (fun i hi => (hc.2.2 i hi).1)
    rw [e9]
  exact h0.trans (h1.trans (h2.trans (h3.trans h4)))
/-- the loudest voice sounds from a quarter of what is lit at least -/
theorem yt_loud (hc : zCW n c) : zVo (zLd c n (zLd c n (zLd c n 115 97) 116) 98) ∧ ¬ zt_sum (zVs c (zLd c n (zLd c n (zLd c n 115 97) 116) 98)) n * 4 < zt_sum c.2.2.2.1 n := by
  have hn := hc.2.1
  have hb : ∀ x : Int32, 0 ≤ (zt_sum (zVs c x) n).toInt ∧ (zt_sum (zVs c x) n).toInt ≤ 10 := fun x => by
    have h := zt_sum_le (f := zVs c x) (b := 1) (by omega) (n := n) (by omega) (fun i hi => by
      unfold zVs
      split
      · rcases yv_lit01 hc hi with q | q <;> rw [q] <;> decide
      · decide)
    omega
  have hge : ∀ x y : Int32, (zt_sum (zVs c x) n).toInt ≤ (zt_sum (zVs c (zLd c n x y)) n).toInt ∧ (zt_sum (zVs c y) n).toInt ≤ (zt_sum (zVs c (zLd c n x y)) n).toInt := fun x y => by
    unfold zLd
    by_cases q : zt_sum (zVs c y) n ≤ zt_sum (zVs c x) n
    · rw [if_pos q]
      exact ⟨Int.le_refl _, Int32.le_iff_toInt_le.mp q⟩
    · rw [if_neg q]
      have := Int32.not_le.mp q
      rw [Int32.lt_iff_toInt_lt] at this
      exact ⟨by omega, Int.le_refl _⟩
  refine ⟨zt_ldv (zt_ldv (zt_ldv (Or.inl rfl) (Or.inr (Or.inl rfl))) (Or.inr (Or.inr (Or.inl rfl)))) (Or.inr (Or.inr (Or.inr rfl))), ?_⟩
  have g1 := hge 115 97
  have g2 := hge (zLd c n 115 97) 116
  have g3 := hge (zLd c n (zLd c n 115 97) 116) 98
  have b0 := hb (zLd c n (zLd c n (zLd c n 115 97) 116) 98)
  have b1 := hb 115
  have b2 := hb 97
  have b3 := hb 116
  have b4 := hb 98
  have e4 := yt_four (c := c) (n := n) (fun i hi => (hc.2.2 i hi).1)
  have e9 : (4 : Int32).toInt = 4 := rfl
  have s1 : ((0 : Int32) + zt_sum (zVs c 115) n).toInt = (zt_sum (zVs c 115) n).toInt := by rw [Int32.zero_add]
  have s2 : ((0 : Int32) + zt_sum (zVs c 115) n + zt_sum (zVs c 97) n).toInt = (zt_sum (zVs c 115) n).toInt + (zt_sum (zVs c 97) n).toInt := by rw [zt_tadd (by omega) (by omega), s1]
  have s3 : ((0 : Int32) + zt_sum (zVs c 115) n + zt_sum (zVs c 97) n + zt_sum (zVs c 116) n).toInt = (zt_sum (zVs c 115) n).toInt + (zt_sum (zVs c 97) n).toInt + (zt_sum (zVs c 116) n).toInt := by rw [zt_tadd (by omega) (by omega), s2]
  have s4 : (zt_sum c.2.2.2.1 n).toInt = (zt_sum (zVs c 115) n).toInt + (zt_sum (zVs c 97) n).toInt + (zt_sum (zVs c 116) n).toInt + (zt_sum (zVs c 98) n).toInt := by rw [← e4, zt_tadd (by omega) (by omega), s3]
  rw [Int32.lt_iff_toInt_lt, zt_tmul (by rw [e9]; omega) (by rw [e9]; omega), e9, s4]
  omega
theorem yv_loud (hc : zCW n c) (h0 : ¬ zt_sum c.2.2.2.1 n = 0) : f_X9_loudestVoice z v c = some (Sum.inr (zLd c n (zLd c n (zLd c n 115 97) 116) 98)) := by
  unfold f_X9_loudestVoice
  rw [zt_countLit hc, Option.bind_some, if_neg h0, zt_loudest hc, Option.bind_some, if_pos (zt_ch (zt_vchar (yt_loud hc).1))]
theorem yw_198 (h : zS n k T v c e s) (hT : T + 2000 < 2147480000) (ha : zA n v c s) (v2 : StS) (c2 : CdT) (e2 : EvT) : ∀ (r F j : Nat), j + r = k → r < F → ∃ (v' : StS) (c' : CdT) (e' : EvT), f_Q_isWell_198 F z v c e v2 c2 e2 v.2.2.2.2.1 (zt_sum c.2.2.2.1 n) (zt_sum c.2.2.2.1 n) (Int32.ofNat j) = some (1, v', c', e') := by
  have hn := h.1.2.1
  have he := h.2.2.1
  have hk := he.2.1
  intro r
  induction r with
  | zero =>
    intro F j hj hF
    obtain ⟨F, rfl⟩ : ∃ F', F = F' + 1 := ⟨F - 1, by omega⟩
    obtain rfl : j = k := by omega
    obtain ⟨N, hN, hN0, d1, d2⟩ := yo_dark z h hT
    obtain ⟨v3, c3, e3, g1⟩ := d1 v2 c2 e2
    obtain ⟨v4, c4, e4, g2⟩ := d2 v3 c3 e3
    obtain ⟨v5, c5, e5, g3, -⟩ := zo_cons (z := z) (0, 0, 0, 0, 0, 0, 0, 0, 0, 0) v4 c4 e4 h hT ha
    obtain ⟨l1, l2⟩ := yt_loud h.1
    have hz := zt_sum_zero (f := c.2.2.2.1) (n := n) (by omega) (fun i hi => yv_lit01 h.1 hi)
    have gp : f_X9_addedWaxByParts z v c = some v.2.2.2.2.1 := (zq_byParts (m := (0, 0, 0, 0, 0, 0, 0, 0, 0, 0)) h ha).1
    have gl : f_X9_litCandles z v c = some (zt_sum c.2.2.2.1 n) := by
      unfold f_X9_litCandles
      rw [zt_countLit h.1, Option.bind_some]
    refine ⟨v5, c5, e5, ?_⟩
    rw [f_Q_isWell_198, show f_X9_events z v e = some e.2.2.2 from rfl, Option.bind_some, he.1, if_pos ((zt_le (by omega) (by omega)).mpr (Nat.le_refl _)), g1]
    simp only [Option.bind_some, show f_X9_addedWax z v = some v.2.2.2.2.1 from rfl, zt_cmp, gp, gl, g2, if_true]
    have eN : (Int32.ofNat N = 0) ↔ N = 0 := zt_eq (b := 0) (by omega) (by omega)
    have ek : (Int32.ofNat j = 0) ↔ j = 0 := zt_eq (b := 0) (by omega) (by omega)
    by_cases q : N = 0
    · obtain ⟨q1, q2⟩ := hN0.mp q
      have q3 := hz.mpr q2
      simp only [eN.mpr q, q3, ek.mpr q1, if_true, g3, Option.bind_some, if_neg zt_10]
    · rw [if_neg (fun g => q (eN.mp g))]
      by_cases q3 : zt_sum c.2.2.2.1 n = 0
      · have q1 : ¬ j = 0 := fun g => q (hN0.mpr ⟨g, hz.mp q3⟩)
        simp only [q3, if_true, if_neg (fun g => q1 (ek.mp g)), g3, Option.bind_some, if_neg zt_10]
      · simp only [if_neg q3, if_true, yv_loud h.1 q3, yv_sound h.1 l1, Option.bind_some, Sum.elim_inr, if_neg l2, g3, if_neg zt_10]
  | succ r ih =>
    intro F j hj hF
    obtain ⟨F, rfl⟩ : ∃ F', F = F' + 1 := ⟨F - 1, by omega⟩
    have hjk : j < k := by omega
    obtain ⟨v', c', e', hi⟩ := ih F (j + 1) (by omega) (by omega)
    refine ⟨v', c', e', ?_⟩
    obtain ⟨⟨i, hi1, hi2⟩, -, m1, m2⟩ := he.2.2.1 j hjk
    have ht : v.2.2.1.toInt = T := h.2.2.2.2.1.1
    have c1 : ¬ e.1 j ≤ v.2.2.1 := by rw [Int32.le_iff_toInt_le]; omega
    have c2 : e.2.1 j < c.2.2.2.2 := by rw [hi2, h.1.1]; exact (zt_lt (by omega) (by omega)).mpr hi1
    rw [f_Q_isWell_198, show f_X9_events z v e = some e.2.2.2 from rfl, Option.bind_some, he.1, if_neg (fun q => absurd ((zt_le (by omega) (by omega)).mp q) (by omega))]
    simp only [yv_em he hjk, yv_ec he hjk, show f_X9_time z v = some v.2.2.1 from rfl, show f_X9_candles z v c = some c.2.2.2.2 from rfl, Option.bind_some, Sum.elim_inr, if_neg c1, c2, if_true, zt_succ]
    by_cases q : Int32.ofNat j ≤ 0
    · rw [if_pos q]
      exact hi
    · rw [if_neg q]
      have h0 : 0 < j := by
        rcases Nat.eq_zero_or_pos j with rfl | g
        · exact absurd (by decide) q
        · exact g
      have hso := he.2.2.2 (j - 1) (by omega)
      rw [Nat.sub_add_cancel h0] at hso
      have c3 : ¬ e.1 j < e.1 (j - 1) := by rw [Int32.lt_iff_toInt_lt]; omega
      rw [zt_pred h0]
      simp only [yv_em (z := z) (v := v) he (show j - 1 < k by omega), Option.bind_some, Sum.elim_inr, if_neg c3]
      exact hi
theorem yw_isWell {J : Int} (z : CcT) (h : zSt J v c e s) (hJ : J + 2000 < 2147480000) (v2 : StS) (c2 : CdT) (e2 : EvT) : ∃ (v' : StS) (c' : CdT) (e' : EvT), f_Q_isWell z v c e v2 c2 e2 = some (1, v', c', e') := by
  obtain ⟨n, k, T, hT, h, ha⟩ := h
  have hn := h.1.2.1
  have hk := h.2.2.1.2.1
  obtain ⟨q1, q2, q3, q4, q5⟩ := yb_acc h ha
  have e8 : v.2.1 + v.2.2.2.1 + zt_sum c.2.1 n = s 8 := by
    rw [ha.1]
    grind
  have h8 : v.2.2.2.2.1 = (s 8).toInt64 := h.2.2.2.2.2.2.2.2.2.2.2.1
  have a1 := yw_19 (z := z) (e := e) h.1 h.2.2.2.2.1 v2 c2 e2 (v.2.1 + v.2.2.2.1) 0 (by omega) n 32 0 (by omega) (by omega)
  obtain ⟨v', c', e', a2⟩ := yw_198 (z := z) h (by omega) ha v2 c2 e2 k 32 0 (by omega) (by omega)
  refine ⟨v', c', e', ?_⟩
  unfold f_Q_isWell
  rw [show f_X9_dish z v = some v.2.1 from rfl, Option.bind_some, show f_X9_burnt z v = some v.2.2.2.1 from rfl, Option.bind_some]
  have e0 : (v.2.1 + v.2.2.2.1).toInt64 = (v.2.1 + v.2.2.2.1 + zt_sum c.2.1 0).toInt64 := by
    rw [zt_sum, Int32.add_zero]
  rw [e0]
  refine a1.trans ?_
  rw [yw_167 h.1, e8, ← h8]
  exact a2
end YW
