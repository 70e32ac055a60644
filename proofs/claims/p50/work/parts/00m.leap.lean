/-! THE THEORY, 12: minutes until dark, by minutes and by leaps -/
def zEnc (n k : Nat) (v : StS) (c : CdT) (e : EvT) (A : Int32) : Nat → Int32 := fun x =>
  if x < 10 then (if x = 0 then v.2.2.1 else if x = 1 then v.1 else if x = 2 then v.2.1 else if x = 3 then Int32.ofNat n else if x = 4 then Int32.ofNat k else if x = 5 then v.2.2.2.2.2.1 else if x = 6 then v.2.2.2.2.2.2.1 else if x = 7 then v.2.2.2.2.2.2.2 + 1 else if x = 8 then A else v.2.2.2.1)
  else if x < 50 then (if (x - 10) % 4 = 0 then c.1 ((x - 10) / 4) else if (x - 10) % 4 = 1 then c.2.1 ((x - 10) / 4) else if (x - 10) % 4 = 2 then c.2.2.1 ((x - 10) / 4) else c.2.2.2.1 ((x - 10) / 4))
  else (if (x - 50) % 3 = 0 then e.1 ((x - 50) / 3) else if (x - 50) % 3 = 1 then e.2.1 ((x - 50) / 3) else e.2.2.1 ((x - 50) / 3))
theorem zt_enc {n k : Nat} {T : Int} {v : StS} {c : CdT} {e : EvT} {A : Int32} (hc : zCW n c) (he : zEW n k T e) (hw : zVW T v) (hA : v.2.2.2.2.1 = A.toInt64) : zS n k T v c e (zEnc n k v c e A) := by
  have hn := hc.2.1
  have hk := he.2.1
  refine ⟨hc, ⟨rfl, fun i hi => ?_⟩, he, ⟨rfl, fun j hj => ?_⟩, hw, ⟨rfl, rfl, rfl, rfl, Or.inl rfl, rfl, hA, rfl⟩⟩
  · unfold zEnc
    simp (disch := omega) only [if_neg, if_pos]
    rw [show (10 + 4 * i - 10) / 4 = i by omega, show (11 + 4 * i - 10) / 4 = i by omega, show (12 + 4 * i - 10) / 4 = i by omega, show (13 + 4 * i - 10) / 4 = i by omega]
    refine ⟨?_, ?_, ?_, ?_⟩ <;> trivial
  · unfold zEnc
    simp (disch := omega) only [if_neg, if_pos]
    rw [show (50 + 3 * j - 50) / 3 = j by omega, show (51 + 3 * j - 50) / 3 = j by omega, show (52 + 3 * j - 50) / 3 = j by omega]
    refine ⟨?_, ?_, ?_⟩ <;> trivial
/-- the picture after j quiet minutes -/
def zpAt (q : Nat → Int) (p : zPS) (j : Nat) : zPS := (p.1 + j, p.2.1, fun i => if p.2.2.2.1 i then p.2.2.1 i - j * q i else p.2.2.1 i, p.2.2.2.1, p.2.2.2.2)
theorem zpAt_step {q : Nat → Int} {p : zPS} {M j : Nat} (hj : j + 1 < M) (hE : 0 < p.2.1 → p.1 + M ≤ p.2.2.2.2.1 0) (hl : ∀ i, p.2.2.2.1 i = true → 1 ≤ q i ∧ ((M : Int) - 1) * q i < p.2.2.1 i) : zpStep q (zpAt q p j) = zpAt q p (j + 1) := by
  have e0 : zpDue ((zpAt q p j).1 + 1) (zpAt q p j).2.2.1 (zpAt q p j).2.1 (zpAt q p j).2.2.2.1 (zpAt q p j).2.2.2.2.1 (zpAt q p j).2.2.2.2.2.1 (zpAt q p j).2.2.2.2.2.2 = (p.2.1, p.2.2.2.1, p.2.2.2.2) := by
    refine zpDue_not _ _ _ _ _ _ _ (fun g => ?_)
    have h1 := hE g
    show p.2.2.2.2.1 0 ≠ p.1 + j + 1
    omega
  have hw : ∀ i, p.2.2.2.1 i = true → zpB (p.2.2.1 i - j * q i) (q i) = p.2.2.1 i - (j + 1 : Nat) * q i ∧ 0 < p.2.2.1 i - (j + 1 : Nat) * q i := fun i hi => by
    obtain ⟨h1, h2⟩ := hl i hi
    have h3 : ((j + 1 : Nat) : Int) * q i ≤ ((M : Int) - 1) * q i := Int.mul_le_mul_of_nonneg_right (by omega) (by omega)
    have h4 : ((j + 1 : Nat) : Int) * q i = j * q i + q i := by rw [Int.natCast_add, Int.add_mul]; simp
    unfold zpB
    rw [if_neg (by omega)]
    omega
  unfold zpStep zpBn
  rw [e0]
  unfold zpAt
  refine Prod.ext ?_ (Prod.ext rfl (Prod.ext ?_ (Prod.ext ?_ rfl)))
  · show p.1 + j + 1 = p.1 + (j + 1 : Nat)
    omega
  · funext i
    show (if p.2.2.2.1 i = true then zpB (if p.2.2.2.1 i = true then p.2.2.1 i - j * q i else p.2.2.1 i) (q i) else (if p.2.2.2.1 i = true then p.2.2.1 i - j * q i else p.2.2.1 i)) = if p.2.2.2.1 i = true then p.2.2.1 i - (j + 1 : Nat) * q i else p.2.2.1 i
    by_cases hi : p.2.2.2.1 i = true
    · rw [if_pos hi, if_pos hi, if_pos hi, (hw i hi).1]
    · rw [if_neg hi, if_neg hi, if_neg hi]
  · funext i
    show (p.2.2.2.1 i && decide (zpB (if p.2.2.2.1 i = true then p.2.2.1 i - j * q i else p.2.2.1 i) (q i) ≠ 0)) = p.2.2.2.1 i
    cases hi : p.2.2.2.1 i with
    | false => rfl
    | true =>
      simp only [if_true, Bool.true_and, decide_eq_true_eq]
      have := hw i hi
      omega
theorem zt_quiet {n : Nat} {q : Nat → Int} {p : zPS} {M N : Nat} (hE : 0 < p.2.1 → p.1 + M ≤ p.2.2.2.2.1 0) (hl : ∀ i, p.2.2.2.1 i = true → 1 ≤ q i ∧ ((M : Int) - 1) * q i < p.2.2.1 i) (hnd : ¬ zpDark n p) (hd : zpDk n q N p) : ∀ j, j < M → j < N ∧ zpDk n q (N - j) (zpAt q p j)
  | 0, _ => by
    have e : zpAt q p 0 = p := by
      unfold zpAt
      refine Prod.ext ?_ (Prod.ext rfl (Prod.ext ?_ rfl))
      · show p.1 + (0 : Nat) = p.1
        omega
      · funext i
        show (if p.2.2.2.1 i = true then p.2.2.1 i - (0 : Nat) * q i else p.2.2.1 i) = p.2.2.1 i
        simp
    rw [e, Nat.sub_zero]
    refine ⟨?_, hd⟩
    cases N with
    | zero => exact absurd hd hnd
    | succ N => omega
  | j + 1, hj => by
    obtain ⟨h1, h2⟩ := zt_quiet hE hl hnd hd j (by omega)
    obtain ⟨N', hN⟩ : ∃ N', N - j = N' + 1 := ⟨N - j - 1, by omega⟩
    rw [hN] at h2
    have h3 := h2.2
    rw [zpAt_step hj hE hl] at h3
    have h4 : N - (j + 1) = N' := by omega
    rw [h4]
    refine ⟨?_, h3⟩
    cases N' with
    | zero => exact absurd (show zpDark n p from h3) hnd
    | succ N' => omega
section UD
variable {n k : Nat} {T : Int} {v : StS} {c : CdT} {e : EvT} {s : Nat → Int32}
theorem zt_isDark (h : zS n k T v c e s) : f_X8_isDark v c e = some (if k = 0 ∧ ∀ i, i < n → c.2.2.2.1 i = 0 then 1 else 0) := by
  have hn := h.1.2.1
  have hk := h.2.2.1.2.1
  have hz := zt_sum_zero (f := c.2.2.2.1) (n := n) (by omega) (fun i hi => (h.1.2.2 i hi).2.2.2.imp_right And.left)
  unfold f_X8_isDark
  rw [zt_countLit h.1, Option.bind_some, h.2.2.1.1]
  by_cases q1 : zt_sum c.2.2.2.1 n = 0
  · rw [if_pos q1]
    by_cases q2 : k = 0
    · rw [if_pos (by rw [q2]; rfl), if_pos ⟨q2, hz.mp q1⟩]
    · rw [if_neg (zt_nz (by omega) (by omega)), if_neg (fun q => q2 q.1)]
  · rw [if_neg q1, if_neg (fun q => q1 (hz.mpr q.2))]
/-- the next happening -/
theorem zt_next {q : Nat → Nat} (hc : zCW n c) (hv : zVW T v) : ∀ (r F i a : Nat), i + r = n → r < F → 1 ≤ a → a ≤ 1000000 → ∃ M : Nat, f_X8_minutesToNextHappening_32 F v c e (Int32.ofNat a) (Int32.ofNat i) = some (Int32.ofNat M) ∧ 1 ≤ M ∧ M ≤ a ∧ ∀ j, i ≤ j → j < n → c.2.2.2.1 j ≠ 0 → ((M : Int) - 1) * (c.2.2.1 j + v.1).toInt < (c.2.1 j).toInt
  | 0, F + 1, i, a, h, hF, h1, h2 => by
    have hn := hc.2.1
    have : i = n := by omega
    subst this
    exact ⟨a, by rw [f_X8_minutesToNextHappening_32, hc.1, if_pos ((zt_le (by omega) (by omega)).mpr (Nat.le_refl _))], h1, Nat.le_refl _, fun j h3 h4 => absurd h3 (by omega)⟩
  | r + 1, F + 1, i, a, h, hF, h1, h2 => by
    have hn := hc.2.1
    rw [f_X8_minutesToNextHappening_32, hc.1, if_neg (fun q => absurd ((zt_le (by omega) (by omega)).mp q) (by omega)), zt_gi (by omega) (by omega), zt_cl (by omega), zt_succ]
    by_cases hl : c.2.2.2.1 i = 0
    · rw [if_pos hl]
      obtain ⟨M, m1, m2, m3, m4⟩ := zt_next (q := q) hc hv r F (i + 1) a (by omega) (by omega) h1 h2
      refine ⟨M, m1, m2, m3, fun j h3 h4 h5 => ?_⟩
      by_cases hj : j = i
      · subst hj; exact absurd hl h5
      · exact m4 j (by omega) h4 h5
    · rw [if_neg hl]
      obtain ⟨q', w, e1, b1, b2, e2, b3, e3, -⟩ := zt_mLeft (i := i) (by omega) hc hv
      have hw0 : 1 ≤ w := by
        have := ((hc.2.2 i (by omega)).2.2.2.resolve_left hl).2
        rw [e2] at this
        by_cases g : w = 0
        · subst g; exact absurd rfl this
        · omega
      have hd : (w + q' - 1) / q' ≤ w + q' - 1 := Nat.div_le_self _ _
      have hd1 : 1 ≤ (w + q' - 1) / q' := by
        rw [zt_ceil b1 hw0]; exact Nat.le_add_left 1 _
      rw [e3, Option.bind_some, zt_jmin (by omega) (by omega)]
      obtain ⟨M, m1, m2, m3, m4⟩ := zt_next (q := q) hc hv r F (i + 1) (min a ((w + q' - 1) / q')) (by omega) (by omega) (Nat.le_min.mpr ⟨h1, hd1⟩) (Nat.le_trans (Nat.min_le_left _ _) h2)
      refine ⟨M, m1, m2, Nat.le_trans m3 (Nat.min_le_left _ _), fun j h3 h4 h5 => ?_⟩
      by_cases hj : j = i
      · subst hj
        rw [e1, e2, zt_ti (by omega), zt_ti (by omega)]
        have g1 : M ≤ (w + q' - 1) / q' := Nat.le_trans m3 (Nat.min_le_right _ _)
        have g2 : M * q' ≤ w + q' - 1 := (Nat.le_div_iff_mul_le (by omega)).mp g1
        have g3 : ((M * q' : Nat) : Int) ≤ ((w + q' - 1 : Nat) : Int) := Int.ofNat_le.mpr g2
        rw [Int.natCast_mul] at g3
        rw [Int.sub_mul]
        omega
      · exact m4 j (by omega) h4 h5
theorem zt_nextH (h : zS n k T v c e s) : ∃ M : Nat, f_X8_minutesToNextHappening v c e = some (Int32.ofNat M) ∧ 1 ≤ M ∧ (0 < k → T + M ≤ (e.1 0).toInt) ∧ M ≤ 1000000 ∧ ∀ j, j < n → c.2.2.2.1 j ≠ 0 → ((M : Int) - 1) * (c.2.2.1 j + v.1).toInt < (c.2.1 j).toInt := by
  obtain ⟨hc, -, he, -, hv, -⟩ := h
  have hn := hc.2.1
  have hk := he.2.1
  unfold f_X8_minutesToNextHappening f_X8_minutesToNextHappening_29
  rw [he.1]
  by_cases k0 : k = 0
  · subst k0
    obtain ⟨M, m1, m2, m3, m4⟩ := zt_next (e := e) (q := fun _ => 0) hc hv n xFuel 0 1000000 (by omega) (by unfold xFuel; omega) (by omega) (by omega)
    refine ⟨M, ?_, m2, fun g => absurd g (by omega), m3, fun j hj => m4 j (by omega) hj⟩
    rw [if_pos (show Int32.ofNat 0 ≤ 0 by decide)]
    exact m1
  · have h0 := (he.2.2.1 0 (by omega)).2.2
    have t0 := hv.1
    have ed : (e.1 0 - v.2.2.1).toInt = (e.1 0).toInt - T := by rw [zt_tsub (by omega) (by omega)]; omega
    have en : e.1 0 - v.2.2.1 = Int32.ofNat ((e.1 0).toInt - T).toNat := by
      rw [← ed]; exact zt_nat (by omega)
    obtain ⟨M, m1, m2, m3, m4⟩ := zt_next (e := e) (q := fun _ => 0) hc hv n xFuel 0 ((e.1 0).toInt - T).toNat (by omega) (by unfold xFuel; omega) (by omega) (by omega)
    refine ⟨M, ?_, m2, fun _ => by omega, by omega, fun j hj => m4 j (by omega) hj⟩
    rw [if_neg (zt_np (by omega) (by omega)), if_neg (by decide), zt_n0, en]
    exact m1
/-- the leap over the quiet minutes -/
theorem zt_leap {M : Nat} (hc : zCW n c) (hv : zVW T v) (hM : 1 ≤ M ∧ M ≤ 1000000) (hl : ∀ j, j < n → c.2.2.2.1 j ≠ 0 → ((M : Int) - 1) * (c.2.2.1 j + v.1).toInt < (c.2.1 j).toInt) (u : StS) (hu : u.1 = v.1) : ∀ (r F i : Nat) (d : CdT), i + r = n → r < F → (d.1 = c.1 ∧ d.2.2.1 = c.2.2.1 ∧ d.2.2.2 = c.2.2.2) → (∀ j, j < i → (d.2.1 j).toInt = if c.2.2.2.1 j = 0 then (c.2.1 j).toInt else (c.2.1 j).toInt - ((M : Int) - 1) * (c.2.2.1 j + v.1).toInt) → (∀ j, i ≤ j → d.2.1 j = c.2.1 j) →
    ∃ d' : CdT, f_X8_leap_19 F u d e (Int32.ofNat (M - 1)) (Int32.ofNat i) = (f_X8_passMinute u d' e).bind (fun u2 => some (u2.2.1, u2.2.2.1, u2.2.2.2)) ∧ (d'.1 = c.1 ∧ d'.2.2.1 = c.2.2.1 ∧ d'.2.2.2 = c.2.2.2) ∧ ∀ j, j < n → (d'.2.1 j).toInt = if c.2.2.2.1 j = 0 then (c.2.1 j).toInt else (c.2.1 j).toInt - ((M : Int) - 1) * (c.2.2.1 j + v.1).toInt
  | 0, F + 1, i, d, h, hF, h1, h2, h3 => by
    have hn := hc.2.1
    have : i = n := by omega
    subst this
    refine ⟨d, ?_, h1, h2⟩
    rw [f_X8_leap_19, h1.2.2, hc.1, if_pos ((zt_le (by omega) (by omega)).mpr (Nat.le_refl _))]
  | r + 1, F + 1, i, d, h, hF, h1, h2, h3 => by
    have hn := hc.2.1
    rw [f_X8_leap_19, h1.2.2, hc.1, if_neg (fun q => absurd ((zt_le (by omega) (by omega)).mp q) (by omega)), zt_gi (by omega) (by omega), zt_cl (by omega), zt_succ]
    by_cases hz : c.2.2.2.1 i = 0
    · rw [if_pos hz]
      refine zt_leap hc hv hM hl u hu r F (i + 1) d (by omega) (by omega) h1 (fun j hj => ?_) (fun j hj => h3 j (by omega))
      by_cases hji : j = i
      · subst hji
        rw [if_pos hz, h3 j (Nat.le_refl _)]
      · exact h2 j (by omega)
    · rw [if_neg hz, zt_gj (by omega) (by omega), zt_cons (by omega), Option.bind_some, zt_gj (by omega) (by omega), h3 i (Nat.le_refl _), h1.2.1, hu]
      have g1 := hl i (by omega) hz
      have g2 := (hc.2.2 i (by omega)).2.1
      obtain ⟨q', w, e1, b1, b2, e2, b3⟩ := zt_q (i := i) (by omega) hc hv
      have g3 : (c.2.2.1 i + v.1).toInt = q' := by rw [e1, zt_ti (by omega)]
      have g4 : 0 ≤ ((M : Int) - 1) * (c.2.2.1 i + v.1).toInt := Int.mul_nonneg (by omega) (by omega)
      have g5 : (Int32.ofNat (M - 1)).toInt = (M : Int) - 1 := by rw [zt_ti (by omega)]; omega
      have g6 : (Int32.ofNat (M - 1) * (c.2.2.1 i + v.1)).toInt = ((M : Int) - 1) * (c.2.2.1 i + v.1).toInt := by
        rw [zt_tmul (by rw [g5]; omega) (by rw [g5]; omega), g5]
      have g7 : (c.2.1 i - Int32.ofNat (M - 1) * (c.2.2.1 i + v.1)).toInt = (c.2.1 i).toInt - ((M : Int) - 1) * (c.2.2.1 i + v.1).toInt := by
        rw [zt_tsub (by rw [g6]; omega) (by rw [g6]; omega), g6]
      refine zt_leap hc hv hM hl u hu r F (i + 1) _ (by omega) (by omega) ⟨h1.1, rfl, Prod.ext rfl hc.1.symm⟩ (fun j hj => ?_) (fun j hj => ?_)
      · show (upd d.2.1 i _ j).toInt = _
        by_cases hji : j = i
        · subst hji
          rw [zt_updS, if_neg hz, g7]
        · rw [zt_updN hji]
          exact h2 j (by omega)
      · show upd d.2.1 i _ j = _
        rw [zt_updN (by omega)]
        exact h3 j (by omega)
end UD
