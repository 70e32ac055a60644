/-! THE THEORY, 9: a minute -/
theorem zt_carry {n i : Nat} {T : Int} {v : StS} {c : CdT} {s : Nat → Int32} {m : MdT} {li : Int32} (hi : i < n) (hl : li = 0 ∨ li = 1) (hc : zCW n c) (hr : zCR n c s) (hw : zVW T v) (hv : zVR v s) :
    ∃ (v' : StS) (c' : CdT) (s' : Nat → Int32), f_X8_carryOut v c (Int32.ofNat i) li = some (v', c') ∧ f_X10_carriesOut m s (Int32.ofNat i) li = some s' ∧ zCW n c' ∧ zCR n c' s' ∧ zVW T v' ∧ zVR v' s' ∧ (v'.1 = v.1 ∧ v'.2.1 = v.2.1 ∧ v'.2.2.1 = v.2.2.1 ∧ v'.2.2.2.1 = v.2.2.2.1 ∧ v'.2.2.2.2.1 = v.2.2.2.2.1) ∧ c'.2.1 = c.2.1 ∧ c'.2.2.1 = c.2.2.1 ∧ (∀ j, j ≠ i → c'.2.2.2.1 j = c.2.2.2.1 j) ∧ (c'.2.2.2.1 i ≠ 0 ↔ (li ≠ 0 ∧ (c.2.2.2.1 i ≠ 0 ∨ c.2.1 i ≠ 0))) ∧ ∀ x, x ≠ 5 → x ≠ 6 → x ≠ 13 + 4 * i → s' x = s x := by
  have hn := hc.2.1
  have hq := hc.2.2 i hi
  have hm := hr.2 i hi
  have rcf : ∀ r : Int32, 0 ≤ r.toInt ∧ r.toInt ≤ 65535 → f_X8_recordFailure v r = some (v.1, v.2.1, v.2.2.1, v.2.2.2.1, v.2.2.2.2.1, v.2.2.2.2.2.1 + 1, r, v.2.2.2.2.2.2.2) := fun r h => by
    unfold f_X8_recordFailure
    rw [if_pos (zt_ch h)]
  have fai : ∀ r : Int32, f_X10_fails m s r = some (upd (upd s 5 (v.2.2.2.2.2.1 + 1)) 6 r) := fun r => by
    unfold f_X10_fails
    rw [zt_G5, zt_G5, zt_G6, zt_n5, zt_n6, hv.2.2.2.1]
  have gW : ∀ r : Int32, 0 ≤ r.toInt ∧ r.toInt ≤ 65535 → zVW T (v.1, v.2.1, v.2.2.1, v.2.2.2.1, v.2.2.2.2.1, v.2.2.2.2.2.1 + 1, r, v.2.2.2.2.2.2.2) := fun r h => ⟨hw.1, hw.2.1, hw.2.2.1, h, hw.2.2.2.2⟩
  have gR : ∀ (r : Int32) (t : Nat → Int32), (∀ x, x < 10 → x ≠ 5 → x ≠ 6 → t x = s x) → t 5 = v.2.2.2.2.2.1 + 1 → t 6 = r → zVR (v.1, v.2.1, v.2.2.1, v.2.2.2.1, v.2.2.2.2.1, v.2.2.2.2.2.1 + 1, r, v.2.2.2.2.2.2.2) t := fun r t h h5 h6 => by
    unfold zVR at *
    rw [h 0 (by omega) (by omega) (by omega), h 1 (by omega) (by omega) (by omega), h 2 (by omega) (by omega) (by omega), h 7 (by omega) (by omega) (by omega), h 8 (by omega) (by omega) (by omega), h 9 (by omega) (by omega) (by omega)]
    exact ⟨hv.1, hv.2.1, hv.2.2.1, h5, Or.inl h6, hv.2.2.2.2.2⟩
  unfold f_X8_carryOut f_X10_carriesOut
  rw [zt_hasY hc hi, Option.bind_some, if_neg zt_10]
  rcases hl with rfl | rfl
  · rw [if_pos rfl, if_pos rfl, zt_of3 (by omega), Option.bind_some, hm.2.2.2]
    unfold f_X8_carryOut_37 f_X8_carryOut_62
    rw [if_pos rfl, if_pos rfl, zt_gi (by omega) (by omega), zt_cl (by omega), zt_gj (by omega) (by omega)]
    by_cases q1 : c.2.2.2.1 i = 0
    · rw [if_pos q1, if_pos q1, rcf _ (by decide), Option.bind_some, fai, Option.bind_some, zt_set3 (by omega), Option.bind_some]
      refine ⟨_, _, _, rfl, rfl, hc, ⟨?_, fun j hj => ?_⟩, gW _ (by decide), gR _ _ (fun x h1 h2 h3 => ?_) ?_ ?_, ⟨rfl, rfl, rfl, rfl, rfl⟩, rfl, rfl, fun _ _ => rfl, ?_, fun x h1 h2 h3 => ?_⟩
      · simp (disch := omega) only [upd, if_neg, if_pos, if_true, if_false, ↓reduceIte]
        exact hr.1
      · have q := hr.2 j hj
        by_cases hji : j = i
        · subst hji
          simp (disch := omega) only [upd, if_neg, if_pos, if_true, if_false, ↓reduceIte]
          exact ⟨q.1, q.2.1, q.2.2.1, q1.symm⟩
        · simp (disch := omega) only [upd, if_neg, if_pos, if_true, if_false, ↓reduceIte]
          exact q
      · simp (disch := omega) only [upd, if_neg, if_pos, if_true, if_false, ↓reduceIte]
      · simp (disch := omega) only [upd, if_neg, if_pos, if_true, if_false, ↓reduceIte]
      · simp (disch := omega) only [upd, if_neg, if_pos, if_true, if_false, ↓reduceIte]
      · rw [q1]; simp
      · simp (disch := omega) only [upd, if_neg, if_pos, if_true, if_false, ↓reduceIte]
    · rw [if_neg q1, if_neg q1, zt_set3 (by omega), Option.bind_some]
      have h1 := zt_c1 (s' := upd s (13 + 4 * i) 0) (w := c.2.1 i) (l := 0) hc hr hi hq.2.1 (Or.inl rfl) (by simp (disch := omega) only [upd, if_neg, if_pos, if_true, if_false, ↓reduceIte]) (by simp (disch := omega) only [upd, if_neg, if_pos, if_true, if_false, ↓reduceIte]; exact hm.2.1) (by simp (disch := omega) only [upd, if_neg, if_pos, if_true, if_false, ↓reduceIte]) (fun y h1 h2 h3 h4 => by simp (disch := omega) only [upd, if_neg, if_pos, if_true, if_false, ↓reduceIte])
      rw [zt_upd_same] at h1
      refine ⟨v, _, _, rfl, rfl, h1.1, h1.2, hw, ?_, ⟨rfl, rfl, rfl, rfl, rfl⟩, rfl, rfl, fun j hj => ?_, ?_, fun x h1 h2 h3 => ?_⟩
      · unfold zVR at *
        simp (disch := omega) only [upd, if_neg, if_pos, if_true, if_false, ↓reduceIte]
        exact hv
      · show upd c.2.2.2.1 i 0 j = _
        rw [zt_updN hj]
      · show upd c.2.2.2.1 i 0 i ≠ 0 ↔ _
        rw [zt_updS]; simp
      · simp (disch := omega) only [upd, if_neg, if_pos, if_true, if_false, ↓reduceIte]
  · rw [if_neg zt_10, if_neg zt_10, zt_of3 (by omega), Option.bind_some, hm.2.2.2, zt_gi (by omega) (by omega), zt_cl (by omega)]
    by_cases q1 : c.2.2.2.1 i = 0
    · rw [if_pos q1, q1, if_neg (show ¬ (0 : Int32) = 1 by decide), zt_of1 (by omega), Option.bind_some, hm.2.1]
      unfold f_X8_carryOut_37
      rw [if_neg zt_10, zt_gi (by omega) (by omega), zt_cl (by omega)]
      by_cases q2 : c.2.1 i = 0
      · rw [if_pos q2, if_pos q2, rcf _ (by decide), Option.bind_some, fai, Option.bind_some]
        refine ⟨_, _, _, rfl, rfl, hc, ⟨?_, fun j hj => ?_⟩, gW _ (by decide), gR _ _ (fun x h1 h2 h3 => ?_) ?_ ?_, ⟨rfl, rfl, rfl, rfl, rfl⟩, rfl, rfl, fun _ _ => rfl, ?_, fun x h1 h2 h3 => ?_⟩
        · simp (disch := omega) only [upd, if_neg, if_pos, if_true, if_false, ↓reduceIte]
          exact hr.1
        · have q := hr.2 j hj
          simp (disch := omega) only [upd, if_neg, if_pos, if_true, if_false, ↓reduceIte]
          exact q
        · simp (disch := omega) only [upd, if_neg, if_pos, if_true, if_false, ↓reduceIte]
        · simp (disch := omega) only [upd, if_neg, if_pos, if_true, if_false, ↓reduceIte]
        · simp (disch := omega) only [upd, if_neg, if_pos, if_true, if_false, ↓reduceIte]
        · rw [q1, q2]; simp
        · simp (disch := omega) only [upd, if_neg, if_pos, if_true, if_false, ↓reduceIte]
      · rw [if_neg q2, if_neg q2, zt_set3 (by omega), Option.bind_some]
        unfold f_X8_carryOut_62
        rw [if_neg zt_10, zt_gi (by omega) (by omega), zt_cl (by omega), zt_bool (Or.inr rfl)]
        have h1 := zt_c1 (s' := upd s (13 + 4 * i) 1) (w := c.2.1 i) (l := 1) hc hr hi hq.2.1 (Or.inr ⟨rfl, q2⟩) (by simp (disch := omega) only [upd, if_neg, if_pos, if_true, if_false, ↓reduceIte]) (by simp (disch := omega) only [upd, if_neg, if_pos, if_true, if_false, ↓reduceIte]; exact hm.2.1) (by simp (disch := omega) only [upd, if_neg, if_pos, if_true, if_false, ↓reduceIte]) (fun y h1 h2 h3 h4 => by simp (disch := omega) only [upd, if_neg, if_pos, if_true, if_false, ↓reduceIte])
        rw [zt_upd_same] at h1
        refine ⟨v, _, _, rfl, rfl, h1.1, h1.2, hw, ?_, ⟨rfl, rfl, rfl, rfl, rfl⟩, rfl, rfl, fun j hj => ?_, ?_, fun x h1 h2 h3 => ?_⟩
        · unfold zVR at *
          simp (disch := omega) only [upd, if_neg, if_pos, if_true, if_false, ↓reduceIte]
          exact hv
        · show upd c.2.2.2.1 i 1 j = _
          rw [zt_updN hj]
        · show upd c.2.2.2.1 i 1 i ≠ 0 ↔ _
          rw [zt_updS]; simp [q2]
        · simp (disch := omega) only [upd, if_neg, if_pos, if_true, if_false, ↓reduceIte]
    · have q2 := (hq.2.2.2.resolve_left q1).1
      rw [if_neg q1, q2, if_pos rfl, rcf _ (by decide), Option.bind_some, fai, Option.bind_some]
      refine ⟨_, _, _, rfl, rfl, hc, ⟨?_, fun j hj => ?_⟩, gW _ (by decide), gR _ _ (fun x h1 h2 h3 => ?_) ?_ ?_, ⟨rfl, rfl, rfl, rfl, rfl⟩, rfl, rfl, fun _ _ => rfl, ?_, fun x h1 h2 h3 => ?_⟩
      · simp (disch := omega) only [upd, if_neg, if_pos, if_true, if_false, ↓reduceIte]
        exact hr.1
      · have q := hr.2 j hj
        simp (disch := omega) only [upd, if_neg, if_pos, if_true, if_false, ↓reduceIte]
        exact q
      · simp (disch := omega) only [upd, if_neg, if_pos, if_true, if_false, ↓reduceIte]
      · simp (disch := omega) only [upd, if_neg, if_pos, if_true, if_false, ↓reduceIte]
      · simp (disch := omega) only [upd, if_neg, if_pos, if_true, if_false, ↓reduceIte]
      · simp [q1]
      · simp (disch := omega) only [upd, if_neg, if_pos, if_true, if_false, ↓reduceIte]
/-- what a candle keeps that burns a minute -/
def zpB (w q : Int) : Int := if w ≤ q then 0 else w - q
theorem zt_burn {n i : Nat} {T : Int} {v : StS} {c : CdT} {s : Nat → Int32} {m : MdT} (hi : i < n) (h0 : c.2.2.2.1 i ≠ 0) (hc : zCW n c) (hr : zCR n c s) (hw : zVW T v) (hv : zVR v s) :
    ∃ (d : Int32) (v' : StS) (c' : CdT) (s' : Nat → Int32), f_X8_burn v c (Int32.ofNat i) = some (d, v', c') ∧ f_X10_burnsDown m s (Int32.ofNat i) = some (d, s') ∧ zCW n c' ∧ zCR n c' s' ∧ zVW T v' ∧ zVR v' s' ∧ (v'.1 = v.1 ∧ v'.2.2.1 = v.2.2.1 ∧ v'.2.2.2.2.1 = v.2.2.2.2.1) ∧ c'.2.2.1 = c.2.2.1 ∧ zt_sum c'.2.1 n + v'.2.1 + v'.2.2.2.1 = zt_sum c.2.1 n + v.2.1 + v.2.2.2.1 ∧ (∀ j, j ≠ i → c'.2.1 j = c.2.1 j ∧ c'.2.2.2.1 j = c.2.2.2.1 j) ∧ (c'.2.1 i).toInt = zpB (c.2.1 i).toInt (c.2.2.1 i + v.1).toInt ∧ (c'.2.2.2.1 i ≠ 0 ↔ c'.2.1 i ≠ 0) ∧ ∀ x, x ≠ 2 → x ≠ 7 → x ≠ 9 → x ≠ 11 + 4 * i → x ≠ 13 + 4 * i → s' x = s x := by
  have hn := hc.2.1
  have hq := hc.2.2 i hi
  have hm := hr.2 i hi
  obtain ⟨q, w, e1, b1, b2, e2, b3⟩ := zt_q hi hc hw
  have hl1 := (hq.2.2.2.resolve_left h0).1
  -- the two ways to the least are one
  have eM : f_X10_burnsDown m s (Int32.ofNat i) = f_X10_burnsDown_28 m s (Int32.ofNat i) (Int32.ofNat (min w q)) := by
    unfold f_X10_burnsDown
    rw [zt_burns hi hn hr hv.2.1, Option.bind_some, zt_of1 (by omega), Option.bind_some, Option.bind_some, Option.bind_some, hm.2.1, e1, e2]
    by_cases h : w ≤ q
    · rw [if_pos ((zt_le (by omega) (by omega)).mpr h), Nat.min_eq_left h]
    · rw [if_neg (fun p => h ((zt_le (by omega) (by omega)).mp p)), Nat.min_eq_right (by omega)]
  -- with the drip y
  have key : ∀ y : Int32, ∃ (v' : StS) (c' : CdT) (s' : Nat → Int32), f_X8_burn_28 v c (Int32.ofNat i) (Int32.ofNat (min w q)) y = some (Int32.ofNat (min w q), v', c') ∧ f_X10_burnsDown_39 m s (Int32.ofNat i) (Int32.ofNat (min w q)) y = some (Int32.ofNat (min w q), s') ∧ zCW n c' ∧ zCR n c' s' ∧ zVW T v' ∧ zVR v' s' ∧ (v'.1 = v.1 ∧ v'.2.2.1 = v.2.2.1 ∧ v'.2.2.2.2.1 = v.2.2.2.2.1) ∧ c'.2.2.1 = c.2.2.1 ∧ zt_sum c'.2.1 n + v'.2.1 + v'.2.2.2.1 = zt_sum c.2.1 n + v.2.1 + v.2.2.2.1 ∧ (∀ j, j ≠ i → c'.2.1 j = c.2.1 j ∧ c'.2.2.2.1 j = c.2.2.2.1 j) ∧ (c'.2.1 i).toInt = zpB (c.2.1 i).toInt (c.2.2.1 i + v.1).toInt ∧ (c'.2.2.2.1 i ≠ 0 ↔ c'.2.1 i ≠ 0) ∧ ∀ x, x ≠ 2 → x ≠ 7 → x ≠ 9 → x ≠ 11 + 4 * i → x ≠ 13 + 4 * i → s' x = s x := by
    intro y
    have mle := Nat.min_le_left w q
    have ew : Int32.ofNat w - Int32.ofNat (min w q) = Int32.ofNat (w - min w q) := zt_sub mle
    have tw : (Int32.ofNat (w - min w q)).toInt = ((w - min w q : Nat) : Int) := zt_ti (by omega)
    have eB : (Int32.ofNat (w - min w q)).toInt = zpB (c.2.1 i).toInt (c.2.2.1 i + v.1).toInt := by
      rw [tw, e1, e2, zt_ti (by omega), zt_ti (by omega)]
      unfold zpB
      by_cases h : w ≤ q
      · rw [if_pos (by omega), Nat.min_eq_left h]; omega
      · rw [if_neg (by omega), Nat.min_eq_right (by omega)]; omega
    have eS : ∀ D B : Int32, D + B = v.2.1 + v.2.2.2.1 + Int32.ofNat (min w q) → zt_sum (upd c.2.1 i (Int32.ofNat (w - min w q))) n + D + B = zt_sum c.2.1 n + v.2.1 + v.2.2.2.1 := by
      intro D B hD
      rw [zt_sum_upd hi, Int32.add_assoc, hD, e2, ← ew]
      have e0 : Int32.ofNat w - Int32.ofNat (min w q) - Int32.ofNat w + Int32.ofNat (min w q) = 0 := by
        rw [Int32.sub_eq_add_neg, Int32.sub_eq_add_neg]
        have a1 : Int32.ofNat w + -Int32.ofNat w = 0 := by rw [← Int32.sub_eq_add_neg, Int32.sub_self]
        have a2 : -Int32.ofNat (min w q) + Int32.ofNat (min w q) = 0 := by rw [Int32.add_comm, ← Int32.sub_eq_add_neg, Int32.sub_self]
        have a3 : Int32.ofNat w + -Int32.ofNat (min w q) + -Int32.ofNat w + Int32.ofNat (min w q) = (Int32.ofNat w + -Int32.ofNat w) + (-Int32.ofNat (min w q) + Int32.ofNat (min w q)) := by ac_rfl
        rw [a3, a1, a2]; rfl
      have a4 : zt_sum c.2.1 n + (Int32.ofNat w - Int32.ofNat (min w q) - Int32.ofNat w) + (v.2.1 + v.2.2.2.1 + Int32.ofNat (min w q)) = zt_sum c.2.1 n + v.2.1 + v.2.2.2.1 + (Int32.ofNat w - Int32.ofNat (min w q) - Int32.ofNat w + Int32.ofNat (min w q)) := by ac_rfl
      rw [a4, e0, Int32.add_zero]
    have eD : v.2.1 + y + (v.2.2.2.1 + (Int32.ofNat (min w q) - y)) = v.2.1 + v.2.2.2.1 + Int32.ofNat (min w q) := by
      have a1 : y + (Int32.ofNat (min w q) - y) = Int32.ofNat (min w q) := by rw [Int32.add_comm, Int32.sub_add_cancel]
      have a2 : v.2.1 + y + (v.2.2.2.1 + (Int32.ofNat (min w q) - y)) = v.2.1 + v.2.2.2.1 + (y + (Int32.ofNat (min w q) - y)) := by ac_rfl
      rw [a2, a1]
    unfold f_X8_burn_28 f_X10_burnsDown_39
    rw [zt_of1 (by omega), Option.bind_some, hm.2.1, zt_set1 (by omega), Option.bind_some, zt_G2, zt_G2, zt_G9, zt_G9, zt_n2, zt_n9, zt_of1 (by omega), Option.bind_some, zt_gi (by omega) (by omega), zt_cl (by omega), zt_gj (by omega) (by omega), zt_gj (by omega) (by omega), zt_gj (by omega) (by omega), zt_updS, e2, ew]
    rw [zt_updN (f := upd _ _ _) (show 11 + 4 * i ≠ 9 by omega), zt_updN (show 11 + 4 * i ≠ 2 by omega), zt_updS]
    have r2 : upd s (11 + 4 * i) (Int32.ofNat (w - min w q)) 2 = v.2.1 := by rw [zt_updN (by omega)]; exact hv.2.2.1
    have r9 : ∀ z, upd (upd s (11 + 4 * i) (Int32.ofNat (w - min w q))) 2 z 9 = v.2.2.2.1 := fun z => by
      rw [zt_updN (by omega), zt_updN (by omega)]; exact hv.2.2.2.2.2.2.2
    rw [r2, r9]
    by_cases hz : Int32.ofNat (w - min w q) = 0
    · rw [if_pos hz, if_pos hz, zt_set3 (by omega), Option.bind_some, zt_G7, zt_n7, zt_succ]
      have h1 := zt_c1 (s' := upd (upd (upd (upd (upd s (11 + 4 * i) (Int32.ofNat (w - min w q))) 2 (v.2.1 + y)) 9 (v.2.2.2.1 + (Int32.ofNat (min w q) - y))) (13 + 4 * i) 0) 7 (Int32.ofNat (i + 1))) (w := Int32.ofNat (w - min w q)) (l := 0) hc hr hi (by omega) (Or.inl rfl) (by simp (disch := omega) only [upd, if_neg, if_pos, if_true, if_false, ↓reduceIte]) (by simp (disch := omega) only [upd, if_neg, if_pos, if_true, if_false, ↓reduceIte]) (by simp (disch := omega) only [upd, if_neg, if_pos, if_true, if_false, ↓reduceIte]) (fun y h1 h2 h3 h4 => by simp (disch := omega) only [upd, if_neg, if_pos, if_true, if_false, ↓reduceIte])
      refine ⟨_, _, _, rfl, rfl, h1.1, h1.2, ⟨hw.1, hw.2.1, hw.2.2.1, hw.2.2.2.1, ?_⟩, ?_, ⟨rfl, rfl, rfl⟩, rfl, eS _ _ eD, fun j hj => ⟨zt_updN hj, zt_updN hj⟩, ?_, ?_, fun x h1 h2 h3 h4 h5 => ?_⟩
      · show -1 ≤ (Int32.ofNat i).toInt ∧ (Int32.ofNat i).toInt ≤ 9
        rw [zt_ti (by omega)]; omega
      · unfold zVR at *
        simp (disch := omega) only [upd, if_neg, if_pos, if_true, if_false, ↓reduceIte]
        exact ⟨hv.1, hv.2.1, trivial, hv.2.2.2.1, hv.2.2.2.2.1, (zt_succ i).symm, hv.2.2.2.2.2.2.1, trivial⟩
      · show (upd c.2.1 i _ i).toInt = _
        rw [zt_updS, ← e2]; exact eB
      · show upd c.2.2.2.1 i _ i ≠ 0 ↔ upd c.2.1 i _ i ≠ 0
        rw [zt_updS, zt_updS, hz]
        rfl
      · simp (disch := omega) only [upd, if_neg, if_pos, if_true, if_false, ↓reduceIte]
    · rw [if_neg hz, if_neg hz]
      have h1 := zt_c1 (s' := upd (upd (upd s (11 + 4 * i) (Int32.ofNat (w - min w q))) 2 (v.2.1 + y)) 9 (v.2.2.2.1 + (Int32.ofNat (min w q) - y))) (w := Int32.ofNat (w - min w q)) (l := c.2.2.2.1 i) hc hr hi (by omega) (Or.inr ⟨hl1, hz⟩) (by simp (disch := omega) only [upd, if_neg, if_pos, if_true, if_false, ↓reduceIte]) (by simp (disch := omega) only [upd, if_neg, if_pos, if_true, if_false, ↓reduceIte]) (by simp (disch := omega) only [upd, if_neg, if_pos, if_true, if_false, ↓reduceIte]; exact hm.2.2.2) (fun y h1 h2 h3 h4 => by simp (disch := omega) only [upd, if_neg, if_pos, if_true, if_false, ↓reduceIte])
      rw [zt_upd_same (f := c.2.2.2.1)] at h1
      refine ⟨_, _, _, rfl, rfl, h1.1, h1.2, ⟨hw.1, hw.2.1, hw.2.2.1, hw.2.2.2⟩, ?_, ⟨rfl, rfl, rfl⟩, rfl, eS _ _ eD, fun j hj => ⟨zt_updN hj, rfl⟩, ?_, ?_, fun x h1 h2 h3 h4 h5 => ?_⟩
      · unfold zVR at *
        simp (disch := omega) only [upd, if_neg, if_pos, if_true, if_false, ↓reduceIte]
        exact ⟨hv.1, hv.2.1, trivial, hv.2.2.2.1, hv.2.2.2.2.1, hv.2.2.2.2.2.1, hv.2.2.2.2.2.2.1, trivial⟩
      · show (upd c.2.1 i _ i).toInt = _
        rw [zt_updS, ← e2]; exact eB
      · show c.2.2.2.1 i ≠ 0 ↔ upd c.2.1 i _ i ≠ 0
        rw [zt_updS]
        exact ⟨fun _ => hz, fun _ => h0⟩
      · simp (disch := omega) only [upd, if_neg, if_pos, if_true, if_false, ↓reduceIte]
  have eC : f_X8_burn v c (Int32.ofNat i) = if Int32.ofNat (min w q) < 5 then f_X8_burn_28 v c (Int32.ofNat i) (Int32.ofNat (min w q)) 0 else f_X8_burn_28 v c (Int32.ofNat i) (Int32.ofNat (min w q)) 1 := by
    unfold f_X8_burn
    rw [zt_gi (by omega) (by omega), zt_cons (by omega), Option.bind_some, zt_cl (by omega), e1, e2, zt_jmin (by omega) (by omega)]
  rw [eM, eC]
  unfold f_X10_burnsDown_28
  by_cases h5 : Int32.ofNat (min w q) < 5
  · rw [if_pos h5, if_pos h5]
    obtain ⟨v', c', s', z⟩ := key 0
    exact ⟨_, v', c', s', z⟩
  · rw [if_neg h5, if_neg h5]
    obtain ⟨v', c', s', z⟩ := key 1
    exact ⟨_, v', c', s', z⟩
