/-! THE THEORY, 21: the output line -/
theorem zt_shr (x : Int32) : x >>> ((0 : Int32) &&& 31) = x := by
  have e : (0 : Int32) &&& 31 = 0 := rfl
  rw [e]
  simp
theorem zt_shl (x : Int32) : x <<< ((0 : Int32) &&& 31) = x := by
  have e : (0 : Int32) &&& 31 = 0 := rfl
  rw [e]
  simp
theorem zt_byte {x : Int32} (h : 0 ≤ x.toInt ∧ x.toInt ≤ 127) : vp_nar .byte x = x ∧ x.toInt8.toInt32 = x := by
  have e : x.toInt8.toInt32 = x := by
    apply zt_ext
    rw [Int8.toInt_toInt32, Int32.toInt_toInt8, Int.bmod_def]
    split <;> omega
  exact ⟨by rw [vp_nar_byte, e], e⟩
theorem zt_dgO {a : Nat} (h : a < 100) : vp_nar .byte (dgO.getD a 0) = Int32.ofNat (48 + a % 10) := by
  have h1 : (List.range 100).all (fun a => decide (vp_nar .byte (dgO.getD a 0) = Int32.ofNat (48 + a % 10))) = true := by decide +kernel
  exact of_decide_eq_true (List.all_eq_true.mp h1 a (List.mem_range.mpr h))
theorem zt_dgT {a : Nat} (h : a < 100) : vp_nar .byte (dgT.getD a 0) = Int32.ofNat (48 + a / 10 % 10) := by
  have h1 : (List.range 100).all (fun a => decide (vp_nar .byte (dgT.getD a 0) = Int32.ofNat (48 + a / 10 % 10))) = true := by decide +kernel
  exact of_decide_eq_true (List.all_eq_true.mp h1 a (List.mem_range.mpr h))
theorem zt_neg {a : Nat} (h : a < 2147483648) : (-Int32.ofNat a).toInt = -(a : Int) := by
  rw [Int32.toInt_neg, zt_ti h, Int.bmod_def]
  split <;> omega
/-- a has s digits -/
def zDg (s a : Nat) : Prop := 1 ≤ s ∧ a < 10 ^ s ∧ (s = 1 ∨ 10 ^ (s - 1) ≤ a)
theorem zt_size {s a : Nat} (h : zDg s a) (hs : s ≤ 9) : f_J6_stringSize_0f7a4 (Int32.ofNat a) = some (Int32.ofNat s) := by
  have hp : (10 ^ s : Nat) ≤ 10 ^ 9 := Nat.pow_le_pow_right (by omega) hs
  have ha := h.2.1
  have L : ∀ (r F i : Nat) (x : Int32), i + r = s → r < F → 1 ≤ i → x.toInt = -((10 ^ i : Nat) : Int) → f_J6_stringSize_0f7a4_16 F (-Int32.ofNat a) 0 x (Int32.ofNat i) = some (Int32.ofNat s) := by
    intro r
    induction r with
    | zero =>
      intro F i x hi hF h1 hx
      obtain ⟨F, rfl⟩ : ∃ F', F = F' + 1 := ⟨F - 1, by omega⟩
      have : i = s := by omega
      subst this
      rw [f_J6_stringSize_0f7a4_16, if_neg (show ¬ (10 : Int32) ≤ Int32.ofNat i from fun q => absurd ((zt_le (a := 10) (by omega) (by omega)).mp q) (by omega)), if_neg, Int32.add_zero]
      rw [Int32.le_iff_toInt_le, hx, zt_neg (by omega)]
      omega
    | succ r ih =>
      intro F i x hi hF h1 hx
      obtain ⟨F, rfl⟩ : ∃ F', F = F' + 1 := ⟨F - 1, by omega⟩
      have h2 : (10 ^ i : Nat) ≤ a := by
        have := h.2.2.resolve_left (by omega)
        exact Nat.le_trans (Nat.pow_le_pow_right (by omega) (by omega)) this
      have h3 : (10 ^ (i + 1) : Nat) ≤ 10 ^ s := Nat.pow_le_pow_right (by omega) (by omega)
      have h4 : (10 ^ (i + 1) : Nat) = 10 * 10 ^ i := by rw [Nat.pow_succ, Nat.mul_comm]
      have e10 : (10 : Int32).toInt = 10 := rfl
      rw [f_J6_stringSize_0f7a4_16, if_neg (show ¬ (10 : Int32) ≤ Int32.ofNat i from fun q => absurd ((zt_le (a := 10) (by omega) (by omega)).mp q) (by omega)), if_pos, zt_succ]
      · refine ih F (i + 1) (10 * x) (by omega) (by omega) (by omega) ?_
        rw [zt_tmul (by rw [e10]; omega) (by rw [e10]; omega), e10, hx, h4]
        omega
      · rw [Int32.le_iff_toInt_le, hx, zt_neg (by omega)]
        omega
  unfold f_J6_stringSize_0f7a4 f_J6_stringSize_0f7a4_11
  rw [if_neg]
  · exact L (s - 1) xFuel 1 (-10) (by have := h.1; omega) (by unfold xFuel; omega) (by omega) (by decide)
  · rw [Int32.lt_iff_toInt_lt, zt_ti (by omega), zt_i0]; omega
theorem zt_div100 {a : Nat} (h : a < 2147483648) : (-Int32.ofNat a) / 100 = -Int32.ofNat (a / 100) := by
  have h1 : a / 100 ≤ a := Nat.div_le_self _ _
  have e100 : (100 : Int32).toInt = 100 := rfl
  apply zt_ext
  rw [Int32.toInt_div, zt_neg h, e100, Int.neg_tdiv, show ((a : Int)).tdiv 100 = ((a / 100 : Nat) : Int) from (Int.ofNat_tdiv a 100).symm]
  generalize a / 100 = d at h1
  rw [zt_neg (by omega), Int.bmod_def]
  split <;> omega
/-- the digits of the class -/
theorem zt_gc {n : Nat} (hn : n ≤ 300) : ∀ (B s F a p : Nat) (f : Nat → Int32), s ≤ B → zDg s a → a < 2147483648 → s ≤ p → p ≤ n → s < F → ∃ f', f_J6_getChars_ba4f3_22 n F f (-Int32.ofNat a) (Int32.ofNat p) 0 = some (Int32.ofNat (p - s), f') ∧ (∀ j, j < s → f' (p - 1 - j) = Int32.ofNat (48 + a / 10 ^ j % 10)) ∧ ∀ y, y < p - s ∨ p ≤ y → f' y = f y := by
  intro B
  induction B with
  | zero => intro s F a p f hB h; have := h.1; omega
  | succ B ih =>
    intro s F a p f hB h ha hp hpn hF
    obtain ⟨F, rfl⟩ : ∃ F', F = F' + 1 := ⟨F - 1, by omega⟩
    have hs1 := h.1
    have hs2 := h.2.1
    have e1 : Int32.ofNat p + -1 = Int32.ofNat (p - 1) := by rw [← Int32.sub_eq_add_neg]; exact zt_pred (by omega)
    have em : (-100 : Int32).toInt = -100 := rfl
    have em9 : (-9 : Int32).toInt = -9 := rfl
    have end_ : ∀ (g : Nat → Int32) (x : Int32), f_J6_getChars_ba4f3_104 n g x 0 = some (x, g) := fun g x => by
      unfold f_J6_getChars_ba4f3_104
      rw [if_pos rfl]
    rw [f_J6_getChars_ba4f3_22, Int32.neg_neg, e1]
    by_cases g : a < 100
    · rw [if_pos (show (-100 : Int32) < -Int32.ofNat a by rw [Int32.lt_iff_toInt_lt, zt_neg ha, em]; omega), zt_gi g (by omega), zt_gi (by omega) (by omega), zt_cl (by omega), zt_cl (by omega), zt_dgO g]
      by_cases g9 : a < 10
      · have s1 : s = 1 := by
          rcases h.2.2 with k | k
          · exact k
          · have : 10 ^ 1 ≤ 10 ^ (s - 1) ∨ s = 1 := by
              by_cases s1 : s = 1
              · exact Or.inr s1
              · exact Or.inl (Nat.pow_le_pow_right (by omega) (by omega))
            omega
        subst s1
        rw [if_pos (show (-9 : Int32) ≤ -Int32.ofNat a by rw [Int32.le_iff_toInt_le, zt_neg ha, em9]; omega), end_]
        refine ⟨_, rfl, fun j hj => ?_, fun y hy => zt_updN (by omega)⟩
        have : j = 0 := by omega
        subst this
        rw [show p - 1 - 0 = p - 1 by omega, zt_updS, Nat.pow_zero, Nat.div_one]
      · have s2 : s = 2 := by
          have k1 : ¬ s = 1 := by rintro rfl; omega
          have k2 := h.2.2.resolve_left k1
          have : s - 1 = 1 := by
            by_cases k3 : s - 1 = 1
            · exact k3
            · have : 10 ^ 2 ≤ 10 ^ (s - 1) := Nat.pow_le_pow_right (by omega) (by omega)
              omega
          omega
        subst s2
        have e2 : Int32.ofNat (p - 1) + -1 = Int32.ofNat (p - 2) := by
          rw [← Int32.sub_eq_add_neg, zt_pred (by omega)]; rfl
        rw [if_neg (show ¬ (-9 : Int32) ≤ -Int32.ofNat a by rw [Int32.le_iff_toInt_le, zt_neg ha, em9]; omega), zt_gj g (by omega), e2, zt_gi (by omega) (by omega), zt_cl (by omega), zt_dgT g, end_]
        refine ⟨_, rfl, fun j hj => ?_, fun y hy => by rw [zt_updN (by omega), zt_updN (by omega)]⟩
        have j01 : j = 0 ∨ j = 1 := by omega
        rcases j01 with rfl | rfl
        · rw [show p - 1 - 0 = p - 1 by omega, zt_updN (by omega), zt_updS, Nat.pow_zero, Nat.div_one]
        · rw [show p - 1 - 1 = p - 2 by omega, zt_updS, Nat.pow_one]
    · have s3 : 3 ≤ s := by
        by_cases k : 3 ≤ s
        · exact k
        · have : 10 ^ s ≤ 10 ^ 2 := Nat.pow_le_pow_right (by omega) (by omega)
          omega
      have k2 := h.2.2.resolve_left (by omega)
      have hr : a % 100 < 100 := Nat.mod_lt _ (by omega)
      have er : (-Int32.ofNat (a / 100)) * 100 - -Int32.ofNat a = Int32.ofNat (a % 100) := by
        have hd : a / 100 ≤ a := Nat.div_le_self _ _
        have hd2 : a / 100 * 100 ≤ a := Nat.div_mul_le_self _ _
        have e100 : (100 : Int32).toInt = 100 := rfl
        have m1 : ((-Int32.ofNat (a / 100)) * 100).toInt = -((a / 100 : Nat) : Int) * 100 := by
          rw [zt_tmul (by rw [zt_neg (by omega), e100]; omega) (by rw [zt_neg (by omega), e100]; omega), zt_neg (by omega), e100]
        apply zt_ext
        rw [zt_tsub (by rw [m1, zt_neg ha]; omega) (by rw [m1, zt_neg ha]; omega), m1, zt_neg ha, zt_ti (by omega)]
        omega
      have e2 : Int32.ofNat (p - 1) + -1 = Int32.ofNat (p - 2) := by
        rw [← Int32.sub_eq_add_neg, zt_pred (by omega)]; rfl
      rw [if_neg (show ¬ (-100 : Int32) < -Int32.ofNat a by rw [Int32.lt_iff_toInt_lt, zt_neg ha, em]; omega), if_neg (show ¬ (100 : Int32) = 0 by decide), zt_div100 ha, er, zt_gi hr (by omega), zt_gi (by omega) (by omega), zt_gi hr (by omega), e2, zt_gi (by omega) (by omega), zt_cl (by omega), zt_cl (by omega), zt_cl (by omega), zt_dgO hr, zt_dgT hr]
      have hdg : zDg (s - 2) (a / 100) := by
        have q1 : (10 ^ s : Nat) = 10 ^ (s - 2) * 100 := by
          have : 10 ^ (s - 2 + 2) = 10 ^ (s - 2) * 10 ^ 2 := Nat.pow_add 10 (s - 2) 2
          rw [show s - 2 + 2 = s by omega] at this
          exact this
        have q2 : (10 ^ (s - 1) : Nat) = 10 ^ (s - 3) * 100 := by
          have : 10 ^ (s - 3 + 2) = 10 ^ (s - 3) * 10 ^ 2 := Nat.pow_add 10 (s - 3) 2
          rw [show s - 3 + 2 = s - 1 by omega] at this
          exact this
        refine ⟨by omega, ?_, Or.inr ?_⟩
        · exact Nat.div_lt_of_lt_mul (by rw [Nat.mul_comm, ← q1]; exact hs2)
        · rw [show s - 2 - 1 = s - 3 by omega]
          exact (Nat.le_div_iff_mul_le (by omega)).mpr (by rw [← q2]; exact k2)
      obtain ⟨f', z1, z2, z3⟩ := ih (s - 2) F (a / 100) (p - 2) (upd (upd f (p - 1) (Int32.ofNat (48 + a % 100 % 10))) (p - 2) (Int32.ofNat (48 + a % 100 / 10 % 10))) (by omega) hdg (by have := Nat.div_le_self a 100; omega) (by omega) (by omega) (by omega)
      refine ⟨f', ?_, fun j hj => ?_, fun y hy => ?_⟩
      · rw [z1, show p - 2 - (s - 2) = p - s by omega]
      · by_cases j0 : j = 0
        · subst j0
          rw [show p - 1 - 0 = p - 1 by omega, z3 _ (by omega), zt_updN (by omega), zt_updS, Nat.pow_zero, Nat.div_one]
          congr 2
          omega
        · by_cases j1 : j = 1
          · subst j1
            rw [show p - 1 - 1 = p - 2 by omega, z3 _ (by omega), zt_updS, Nat.pow_one]
            congr 2
            omega
          · have := z2 (j - 2) (by omega)
            rw [show p - 2 - 1 - (j - 2) = p - 1 - j by omega] at this
            rw [this]
            congr 3
            have q1 : (10 ^ j : Nat) = 100 * 10 ^ (j - 2) := by
              have : 10 ^ (2 + (j - 2)) = 10 ^ 2 * 10 ^ (j - 2) := Nat.pow_add 10 2 (j - 2)
              rw [show 2 + (j - 2) = j by omega] at this
              exact this
            rw [q1, Nat.div_div_eq_div_mul]
      · rw [z3 y (by omega), zt_updN (by omega), zt_updN (by omega)]
