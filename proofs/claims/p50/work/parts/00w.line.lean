/-! THE THEORY, 22: the line written -/
/-- the builder and the reference's line hold the same c letters -/
def zLn (c n : Nat) (k : SbT) (f : Nat → Int32) (m : MdT) (ln : Nat → Int32) : Prop :=
  k.2 = Int32.ofNat c ∧ m.2.2.2.2.2.2.1 = Int32.ofNat c ∧ c ≤ 200 ∧ c ≤ n ∧ (n = 16 ∨ n = 34 ∨ n = 70 ∨ n = 142 ∨ n = 286) ∧ (∀ i, i < c → f i = ln i ∧ 0 ≤ (f i).toInt ∧ (f i).toInt ≤ 127) ∧ ∀ i, i < n → fits .byte (.int (f i)) = true
/-- the reference with the line's length set -/
def zLi (m : MdT) (c : Nat) : MdT := (m.1, m.2.1, m.2.2.1, m.2.2.2.1, m.2.2.2.2.1, m.2.2.2.2.2.1, Int32.ofNat c, m.2.2.2.2.2.2.2)
theorem zt_fits {x : Int32} (h : 0 ≤ x.toInt ∧ x.toInt ≤ 127) : fits .byte (.int x) = true := by
  have e1 : (-128 : Int32).toInt = -128 := rfl
  have e2 : (127 : Int32).toInt = 127 := rfl
  have a : (-128 : Int32) ≤ x := Int32.le_iff_toInt_le.mpr (by omega)
  have b : x ≤ 127 := Int32.le_iff_toInt_le.mpr (by omega)
  simp [fits, a, b]
theorem zt_puts {m : MdT} {ln : Nat → Int32} {c : Nat} (x : Int32) (h : m.2.2.2.2.2.2.1 = Int32.ofNat c) (hc : c < 200) : f_X10_puts m ln x = some (zLi m (c + 1), upd ln c x) := by
  unfold f_X10_puts
  rw [h, zt_gi hc (by omega), zt_cl (by omega), zt_succ]
  rfl
/-- G writes numbers of up to s digits -/
def zNm : Nat → (MdT → (Nat → Int32) → Int32 → Option (MdT × (Nat → Int32))) → Prop
  | 0, _ => True
  | s + 1, G => ∃ G' : MdT → (Nat → Int32) → Int32 → Option (MdT × (Nat → Int32)), (1 ≤ s → zNm s G') ∧
      (∀ (m : MdT) (ln : Nat → Int32) (x : Int32), x < 10 → G m ln x = f_X10_puts m ln ((48 : Int32) + (x - x / (10 : Int32) * (10 : Int32)))) ∧
      (1 ≤ s → ∀ (m : MdT) (ln : Nat → Int32) (x : Int32), ¬ x < 10 → G m ln x = (G' m ln (x / (10 : Int32))).bind fun u => f_X10_puts u.1 u.2 ((48 : Int32) + (x - x / (10 : Int32) * (10 : Int32))))
theorem zt_bid {α : Type} (o : Option α) : (o.bind fun u => some u) = o := by cases o <;> rfl
theorem zNm_1 : zNm 1 f_X10_number_0 := ⟨f_X10_number_0, fun h => absurd h (show ¬ 1 ≤ 0 by decide), fun m ln x hx => by
  unfold f_X10_number_0
  rw [if_pos hx, if_neg (show ¬ (10 : Int32) = 0 by decide)]
  exact zt_bid _, fun h => absurd h (show ¬ 1 ≤ 0 by decide)⟩
theorem zNm_2 : zNm 2 f_X10_number_1 := ⟨f_X10_number_0, fun _ => zNm_1, fun m ln x hx => by
  unfold f_X10_number_1
  rw [if_pos hx, if_neg (show ¬ (10 : Int32) = 0 by decide)]
  exact zt_bid _, fun _ m ln x hx => by
  rw [f_X10_number_1, if_neg hx, if_neg (show ¬ (10 : Int32) = 0 by decide)]
  refine congrArg _ (funext fun u => ?_)
  rw [if_neg (show ¬ (10 : Int32) = 0 by decide)]
  exact zt_bid _⟩
theorem zNm_3 : zNm 3 f_X10_number_2 := ⟨f_X10_number_1, fun _ => zNm_2, fun m ln x hx => by
  unfold f_X10_number_2
  rw [if_pos hx, if_neg (show ¬ (10 : Int32) = 0 by decide)]
  exact zt_bid _, fun _ m ln x hx => by
  rw [f_X10_number_2, if_neg hx, if_neg (show ¬ (10 : Int32) = 0 by decide)]
  refine congrArg _ (funext fun u => ?_)
  rw [if_neg (show ¬ (10 : Int32) = 0 by decide)]
  exact zt_bid _⟩
theorem zNm_4 : zNm 4 f_X10_number_3 := ⟨f_X10_number_2, fun _ => zNm_3, fun m ln x hx => by
  unfold f_X10_number_3
  rw [if_pos hx, if_neg (show ¬ (10 : Int32) = 0 by decide)]
  exact zt_bid _, fun _ m ln x hx => by
  rw [f_X10_number_3, if_neg hx, if_neg (show ¬ (10 : Int32) = 0 by decide)]
  refine congrArg _ (funext fun u => ?_)
  rw [if_neg (show ¬ (10 : Int32) = 0 by decide)]
  exact zt_bid _⟩
theorem zNm_5 : zNm 5 f_X10_number_4 := ⟨f_X10_number_3, fun _ => zNm_4, fun m ln x hx => by
  unfold f_X10_number_4
  rw [if_pos hx, if_neg (show ¬ (10 : Int32) = 0 by decide)]
  exact zt_bid _, fun _ m ln x hx => by
  rw [f_X10_number_4, if_neg hx, if_neg (show ¬ (10 : Int32) = 0 by decide)]
  refine congrArg _ (funext fun u => ?_)
  rw [if_neg (show ¬ (10 : Int32) = 0 by decide)]
  exact zt_bid _⟩
theorem zNm_6 : zNm 6 f_X10_number_5 := ⟨f_X10_number_4, fun _ => zNm_5, fun m ln x hx => by
  unfold f_X10_number_5
  rw [if_pos hx, if_neg (show ¬ (10 : Int32) = 0 by decide)]
  exact zt_bid _, fun _ m ln x hx => by
  rw [f_X10_number_5, if_neg hx, if_neg (show ¬ (10 : Int32) = 0 by decide)]
  refine congrArg _ (funext fun u => ?_)
  rw [if_neg (show ¬ (10 : Int32) = 0 by decide)]
  exact zt_bid _⟩
theorem zNm_7 : zNm 7 f_X10_number_6 := ⟨f_X10_number_5, fun _ => zNm_6, fun m ln x hx => by
  unfold f_X10_number_6
  rw [if_pos hx, if_neg (show ¬ (10 : Int32) = 0 by decide)]
  exact zt_bid _, fun _ m ln x hx => by
  rw [f_X10_number_6, if_neg hx, if_neg (show ¬ (10 : Int32) = 0 by decide)]
  refine congrArg _ (funext fun u => ?_)
  rw [if_neg (show ¬ (10 : Int32) = 0 by decide)]
  exact zt_bid _⟩
theorem zNm_8 : zNm 8 f_X10_number_7 := ⟨f_X10_number_6, fun _ => zNm_7, fun m ln x hx => by
  unfold f_X10_number_7
  rw [if_pos hx, if_neg (show ¬ (10 : Int32) = 0 by decide)]
  exact zt_bid _, fun _ m ln x hx => by
  rw [f_X10_number_7, if_neg hx, if_neg (show ¬ (10 : Int32) = 0 by decide)]
  refine congrArg _ (funext fun u => ?_)
  rw [if_neg (show ¬ (10 : Int32) = 0 by decide)]
  exact zt_bid _⟩
theorem zNm_9 : zNm 9 f_X10_number_8 := ⟨f_X10_number_7, fun _ => zNm_8, fun m ln x hx => by
  unfold f_X10_number_8
  rw [if_pos hx, if_neg (show ¬ (10 : Int32) = 0 by decide)]
  exact zt_bid _, fun _ m ln x hx => by
  rw [f_X10_number_8, if_neg hx, if_neg (show ¬ (10 : Int32) = 0 by decide)]
  refine congrArg _ (funext fun u => ?_)
  rw [if_neg (show ¬ (10 : Int32) = 0 by decide)]
  exact zt_bid _⟩
theorem zNm_10 : zNm 10 f_X10_number_9 := ⟨f_X10_number_8, fun _ => zNm_9, fun m ln x hx => by
  unfold f_X10_number_9
  rw [if_pos hx, if_neg (show ¬ (10 : Int32) = 0 by decide)]
  exact zt_bid _, fun _ m ln x hx => by
  rw [f_X10_number_9, if_neg hx, if_neg (show ¬ (10 : Int32) = 0 by decide)]
  refine congrArg _ (funext fun u => ?_)
  rw [if_neg (show ¬ (10 : Int32) = 0 by decide)]
  exact zt_bid _⟩
/-- the widest number writes the shorter ones too -/
theorem zNm_up : ∀ (s : Nat) (G : MdT → (Nat → Int32) → Int32 → Option (MdT × (Nat → Int32))), zNm (s + 1) G → zNm s G
  | 0, _, _ => trivial
  | s + 1, G, h => by
    obtain ⟨G', g1, g2, g3⟩ := h
    exact ⟨G', fun hs => zNm_up s G' (g1 (by omega)), g2, fun hs => g3 (by omega)⟩
theorem zNm_of {s : Nat} (h : s ≤ 10) : zNm s f_X10_number_9 := by
  have h1 : ∀ d, d ≤ 10 → zNm (10 - d) f_X10_number_9 := by
    intro d
    induction d with
    | zero => intro _; exact zNm_10
    | succ d ih =>
      intro hd
      have := ih (by omega)
      rw [show 10 - d = 10 - (d + 1) + 1 by omega] at this
      exact zNm_up _ _ this
  have := h1 (10 - s) (by omega)
  rw [show 10 - (10 - s) = s by omega] at this
  exact this
/-- the digits of the reference -/
theorem zt_number {m : MdT} : ∀ (s : Nat) (G : MdT → (Nat → Int32) → Int32 → Option (MdT × (Nat → Int32))) (ln : Nat → Int32) (a c : Nat), zNm s G → zDg s a → a < 2147483648 → c + s ≤ 200 → ∃ ln', G (zLi m c) ln (Int32.ofNat a) = some (zLi m (c + s), ln') ∧ (∀ j, j < s → ln' (c + s - 1 - j) = Int32.ofNat (48 + a / 10 ^ j % 10)) ∧ ∀ y, y < c → ln' y = ln y := by
  intro s
  induction s with
  | zero => intro G ln a c _ h; have := h.1; omega
  | succ s ih =>
    intro G ln a c hG h ha hc
    have h10 : (10 : Int32) ≠ 0 := by decide
    have hd : a / 10 ≤ a := Nat.div_le_self _ _
    have hd2 : a / 10 * 10 ≤ a := Nat.div_mul_le_self _ _
    have e1 : Int32.ofNat a / 10 = Int32.ofNat (a / 10) := zt_div (b := 10) ha (by omega)
    have e2 : Int32.ofNat (a / 10) * 10 = Int32.ofNat (a / 10 * 10) := zt_mul _ 10
    have e3 : (48 : Int32) + (Int32.ofNat a - Int32.ofNat a / 10 * 10) = Int32.ofNat (48 + a % 10) := by
      rw [e1, e2, zt_sub hd2, show (48 : Int32) = Int32.ofNat 48 from rfl, zt_add]
      congr 1
      omega
    obtain ⟨G', g1, g2, g3⟩ := hG
    by_cases g : a < 10
    · have s0 : s = 0 := by
        by_cases s0 : s = 0
        · exact s0
        · have := h.2.2.resolve_left (by omega)
          have : 10 ^ 1 ≤ 10 ^ (s + 1 - 1) := Nat.pow_le_pow_right (by omega) (by omega)
          omega
      subst s0
      refine ⟨upd ln c (Int32.ofNat (48 + a % 10)), ?_, fun j hj => ?_, fun y hy => zt_updN (by omega)⟩
      · rw [g2 _ _ _ ((zt_lt (b := 10) ha (by omega)).mpr g), e3, zt_puts (c := c) _ rfl (by omega)]
        rfl
      · have : j = 0 := by omega
        subst this
        rw [show c + (0 + 1) - 1 - 0 = c by omega, zt_updS, Nat.pow_zero, Nat.div_one]
    · have hs0 : 1 ≤ s := by
        by_cases s0 : s = 0
        · subst s0
          have := h.2.1
          omega
        · omega
      have q1 : (10 ^ (s + 1) : Nat) = 10 ^ s * 10 := Nat.pow_succ 10 s
      have hdg : zDg s (a / 10) := by
        refine ⟨hs0, Nat.div_lt_of_lt_mul (by rw [Nat.mul_comm, ← q1]; exact h.2.1), ?_⟩
        by_cases s1 : s = 1
        · exact Or.inl s1
        · refine Or.inr ?_
          have k2 := h.2.2.resolve_left (by omega)
          have q2 : (10 ^ s : Nat) = 10 ^ (s - 1) * 10 := by
            have := Nat.pow_succ 10 (s - 1)
            rw [show (s - 1).succ = s by omega] at this
            exact this
          rw [show s + 1 - 1 = s by omega, q2] at k2
          exact (Nat.le_div_iff_mul_le (by omega)).mpr k2
      obtain ⟨ln', z1, z2, z3⟩ := ih G' ln (a / 10) c (g1 hs0) hdg (by omega) (by omega)
      refine ⟨upd ln' (c + s) (Int32.ofNat (48 + a % 10)), ?_, fun j hj => ?_, fun y hy => by rw [zt_updN (by omega), z3 y hy]⟩
      · rw [g3 hs0 _ _ _ (fun q => g ((zt_lt (b := 10) ha (by omega)).mp q)), e1, z1, ← e1, Option.bind_some, e3, zt_puts (c := c + s) _ rfl (by omega)]
        rfl
      · by_cases j0 : j = 0
        · subst j0
          rw [show c + (s + 1) - 1 - 0 = c + s by omega, zt_updS, Nat.pow_zero, Nat.div_one]
        · have := z2 (j - 1) (by omega)
          rw [show c + s - 1 - (j - 1) = c + (s + 1) - 1 - j by omega] at this
          rw [zt_updN (by omega), this]
          congr 3
          have q2 : (10 ^ j : Nat) = 10 * 10 ^ (j - 1) := by
            have := Nat.pow_succ 10 (j - 1)
            rw [show (j - 1).succ = j by omega, Nat.mul_comm] at this
            exact this
          rw [q2, Nat.div_div_eq_div_mul]
/-- a letter appended: class and reference -/
theorem zt_nn {n : Nat} (h : n = 16 ∨ n = 34 ∨ n = 70 ∨ n = 142 ∨ n = 286) : 16 ≤ n ∧ n ≤ 290 := by omega
theorem zt_ensG {n c s : Nat} {k : SbT} {f : Nat → Int32} (hn : n = 16 ∨ n = 34 ∨ n = 70 ∨ n = 142) (hc : c ≤ n) (hs : s ≤ 12) (hg : n < c + s) (hf : ∀ i, i < n → fits .byte (.int (f i)) = true) : ∃ f' : Nat → Int32, f_J5_ensureCapacityInternal_d00df_G n k f (Int32.ofNat (c + s)) = some (2 * n + 2, f') ∧ (∀ i, i < n → f' i = f i) ∧ ∀ i, n ≤ i → f' i = 0 := by
  have e2 : Int32.ofNat n + 2 = Int32.ofNat (n + 2) := zt_add n 2
  have ed : Int32.ofNat (c + s) - Int32.ofNat n = Int32.ofNat (c + s - n) := zt_sub (by omega)
  have em : jmax (Int32.ofNat (c + s - n)) (Int32.ofNat (n + 2)) = Int32.ofNat (n + 2) := by
    unfold jmax
    by_cases g : c + s - n < n + 2
    · rw [if_pos ((zt_lt (by omega) (by omega)).mpr g)]
    · omega
  have ea : Int32.ofNat n + Int32.ofNat (n + 2) = Int32.ofNat (2 * n + 2) := by
    rw [zt_add]; congr 1; omega
  have ej : jmin (Int32.ofNat n) (Int32.ofNat (2 * n + 2)) = Int32.ofNat n := by
    rw [zt_jmin (by omega) (by omega), Nat.min_eq_left (by omega)]
  have h0 : ∀ a : Nat, a < 2147483648 → ¬ Int32.ofNat a < 0 := fun a ha q => absurd ((zt_lt (b := 0) ha (by omega)).mp q) (by omega)
  refine ⟨va_cpy f (fun _ => 0) 0 0 n, ?_, fun i hi => ?_, fun i hi => ?_⟩
  · unfold f_J5_ensureCapacityInternal_d00df_G f_J5_newCapacity_0f7a4 f_J8_newLength_cabcc
    rw [zt_shr, zt_shl, zt_shl, ed, if_neg (zt_np (by omega) (by omega)), e2, em, ea, if_neg (zt_np (by omega) (by omega)), if_neg (show ¬ (2147483639 : Int32) < Int32.ofNat (2 * n + 2) from fun q => absurd ((zt_lt (a := 2147483639) (by omega) (by omega)).mp q) (by omega)), Option.bind_some, if_neg (show ¬ Int32.ofNat (2 * n + 2) = 2147483647 from fun q => absurd ((zt_eq (b := 2147483647) (by omega) (by omega)).mp q) (by omega)), zt_shr, Option.bind_some, zt_shl]
    unfold f_J7_copyOf_G
    rw [if_neg (fun q => absurd ((zt_eq (by omega) (by omega)).mp q) (by omega)), ej, zt_cl (by omega), zt_cl (by omega), if_pos ⟨⟨h0 _ (by omega), rfl, by omega⟩, ⟨h0 _ (by omega), Nat.le_refl _⟩, hf⟩]
  · unfold va_cpy
    rw [if_pos ⟨by omega, by omega⟩]
    congr 1
    omega
  · unfold va_cpy
    rw [if_neg (by omega)]
theorem zt_apC {c n : Nat} {k : SbT} {f : Nat → Int32} {m : MdT} {ln : Nat → Int32} {x : Int32} (h : zLn c n k f m ln) (hc : c < 200) (hx : 0 ≤ x.toInt ∧ x.toInt ≤ 127) : ∃ (n' : Nat) (k' : SbT) (f' ln' : Nat → Int32), f_apC n k f x = some (n', k', f') ∧ f_X10_puts m ln x = some (zLi m (c + 1), ln') ∧ zLn (c + 1) n' k' f' (zLi m (c + 1)) ln' := by
  obtain ⟨h1, h2, h3, h4, h5, h6, h7⟩ := h
  have hnn := zt_nn h5
  obtain ⟨b1, b2⟩ := zt_byte hx
  have hce : ¬ (255 : Int32) < x := by
    rw [Int32.lt_iff_toInt_lt]
    have : (255 : Int32).toInt = 255 := rfl
    omega
  have lnk : ∀ (g : Nat → Int32), (∀ i, i < c → g i = f i) → ∀ i, i < c + 1 → upd g c x i = upd ln c x i ∧ 0 ≤ (upd g c x i).toInt ∧ (upd g c x i).toInt ≤ 127 := fun g hg i hi => by
    by_cases hic : i = c
    · subst hic
      rw [zt_updS, zt_updS]
      exact ⟨rfl, hx⟩
    · rw [zt_updN hic, zt_updN hic, hg i (by omega)]
      exact h6 i (by omega)
  by_cases g : c < n
  · refine ⟨n, (k.1, Int32.ofNat (c + 1)), upd f c x, upd ln c x, ?_, zt_puts x h2 hc, rfl, rfl, by omega, by omega, h5, lnk f (fun _ _ => rfl), fun i hi => ?_⟩
    · have e : f_J4_append_cf468 n k f x = some ((k.1, Int32.ofNat (c + 1)), upd f c x) := by
        unfold f_J4_append_cf468 f_J5_append_3fe6f f_J5_ensureCapacityInternal_d00df f_J5_isLatin1_aae02 f_J1_canEncode_fc78d
        rw [h1, zt_succ, zt_shr, if_pos, Option.bind_some, if_neg zt_10, if_pos rfl, Option.bind_some, if_neg zt_10, if_neg hce, Option.bind_some, if_neg zt_10, zt_gi g (by omega), zt_cl (by omega), b2, b1]
        · rfl
        · rw [Int32.le_iff_toInt_le, zt_tsub (by rw [zt_ti (by omega), zt_ti (by omega)]; omega) (by rw [zt_ti (by omega), zt_ti (by omega)]; omega), zt_ti (by omega), zt_ti (by omega), zt_i0]
          omega
      unfold f_apC
      rw [if_pos hnn, e]
    · by_cases hic : i = c
      · subst hic; rw [zt_updS]; exact zt_fits hx
      · rw [zt_updN hic]; exact h7 i hi
  · have hcn : c = n := by omega
    have hn4 : n = 16 ∨ n = 34 ∨ n = 70 ∨ n = 142 := by omega
    obtain ⟨f1, f2, f3, f4⟩ := zt_ensG (k := k) (c := c) (s := 1) hn4 h4 (by omega) (by omega) h7
    refine ⟨2 * n + 2, (k.1, Int32.ofNat (c + 1)), upd f1 c x, upd ln c x, ?_, zt_puts x h2 hc, rfl, rfl, by omega, by omega, by omega, lnk f1 (fun i hi => f3 i (by omega)), fun i hi => ?_⟩
    · have e : f_J4_append_cf468 n k f x = none := by
        unfold f_J4_append_cf468 f_J5_append_3fe6f f_J5_ensureCapacityInternal_d00df
        rw [h1, zt_succ, zt_shr, if_neg]
        · rfl
        · rw [zt_sub (by omega)]
          exact zt_np (by omega) (by omega)
      have e2 : f_J4_append_cf468_G n k f x = some (2 * n + 2, (k.1, Int32.ofNat (c + 1)), upd f1 c x) := by
        unfold f_J4_append_cf468_G f_J5_append_3fe6f_G f_J5_isLatin1_aae02 f_J1_canEncode_fc78d
        rw [h1, zt_succ, f2, Option.bind_some, if_neg zt_10, if_pos rfl, Option.bind_some, if_neg zt_10, if_neg hce, Option.bind_some, if_neg zt_10, zt_gi (by omega) (by omega), zt_cl (by omega), b2, b1]
        rfl
      unfold f_apC
      rw [if_pos hnn, e]
      simp only [e2, Option.bind_some]
      rw [if_pos ⟨Nat.le_refl _, by omega⟩]
    · by_cases hic : i = c
      · subst hic; rw [zt_updS]; exact zt_fits hx
      · rw [zt_updN hic]
        by_cases hin : i < n
        · rw [f3 i hin]; exact h7 i hin
        · rw [f4 i (by omega)]; rfl
/-- a number appended: class and reference -/
theorem zt_apI {c n s a : Nat} {k : SbT} {f : Nat → Int32} {m : MdT} {ln : Nat → Int32} (h : zLn c n k f m ln) (hd : zDg s a) (hs : s ≤ 9) (hc : c + s ≤ 200) : ∃ (n' : Nat) (k' : SbT) (f' ln' : Nat → Int32), f_apI n k f (Int32.ofNat a) = some (n', k', f') ∧ f_X10_number_9 m ln (Int32.ofNat a) = some (zLi m (c + s), ln') ∧ zLn (c + s) n' k' f' (zLi m (c + s)) ln' := by
  obtain ⟨h1, h2, h3, h4, h5, h6, h7⟩ := h
  have hnn := zt_nn h5
  have hp : (10 ^ s : Nat) ≤ 10 ^ 9 := Nat.pow_le_pow_right (by omega) hs
  have ha : a < 2147483648 := by have := hd.2.1; omega
  have hs1 := hd.1
  obtain ⟨ln', l1, l2, l3⟩ := zt_number (m := m) s f_X10_number_9 ln a c (zNm_of (by omega)) hd ha hc
  have em : zLi m c = m := by
    unfold zLi
    rw [← h2]
  rw [em] at l1
  have hdig : ∀ j, j < s → 0 ≤ (Int32.ofNat (48 + a / 10 ^ j % 10)).toInt ∧ (Int32.ofNat (48 + a / 10 ^ j % 10)).toInt ≤ 127 := fun j hj => by
    rw [zt_ti (by omega)]
    omega
  have lnk : ∀ (g : Nat → Int32), (∀ i, i < c → g i = f i) → (∀ j, j < s → g (c + s - 1 - j) = Int32.ofNat (48 + a / 10 ^ j % 10)) → ∀ i, i < c + s → g i = ln' i ∧ 0 ≤ (g i).toInt ∧ (g i).toInt ≤ 127 := fun g g1 g2 i hi => by
    by_cases hic : i < c
    · rw [g1 i hic, l3 i hic]
      exact h6 i hic
    · have q1 := g2 (c + s - 1 - i) (by omega)
      have q2 := l2 (c + s - 1 - i) (by omega)
      have q3 := hdig (c + s - 1 - i) (by omega)
      rw [show c + s - 1 - (c + s - 1 - i) = i by omega] at q1 q2
      rw [q1, q2]
      exact ⟨rfl, q3⟩
  have es := zt_size hd hs
  have ecs : Int32.ofNat c + Int32.ofNat s = Int32.ofNat (c + s) := zt_add c s
  have gc : ∀ (n' : Nat) (g : Nat → Int32), n' ≤ 300 → c + s ≤ n' → ∃ g', f_J6_getChars_ba4f3 n' g (Int32.ofNat a) (Int32.ofNat (c + s)) = some (Int32.ofNat (c + s - s), g') ∧ (∀ j, j < s → g' (c + s - 1 - j) = Int32.ofNat (48 + a / 10 ^ j % 10)) ∧ ∀ y, y < c + s - s ∨ c + s ≤ y → g' y = g y := fun n' g hn' hcs => by
    obtain ⟨g', q1, q2, q3⟩ := zt_gc hn' s s xFuel a (c + s) g (Nat.le_refl _) hd ha (by omega) hcs (by unfold xFuel; omega)
    refine ⟨g', ?_, q2, q3⟩
    unfold f_J6_getChars_ba4f3 f_J6_getChars_ba4f3_12
    rw [if_pos (show (0 : Int32) ≤ Int32.ofNat a by rw [Int32.le_iff_toInt_le, zt_ti ha, zt_i0]; omega), if_pos rfl]
    exact q1
  by_cases g : c + s ≤ n
  · obtain ⟨g', q1, q2, q3⟩ := gc n f (by omega) g
    refine ⟨n, (k.1, Int32.ofNat (c + s)), g', ln', ?_, l1, rfl, rfl, by omega, by omega, h5, lnk g' (fun i hi => q3 i (by omega)) q2, fun i hi => ?_⟩
    · have e : f_J4_append_bf812 n k f (Int32.ofNat a) = some ((k.1, Int32.ofNat (c + s)), g') := by
        unfold f_J4_append_bf812 f_J5_append_c97b9 f_J5_ensureCapacityInternal_d00df f_J5_isLatin1_aae02
        rw [es, Option.bind_some, h1, ecs, zt_shr, if_pos, Option.bind_some, if_neg zt_10, if_pos rfl, Option.bind_some, if_neg zt_10, q1]
        · rfl
        · rw [Int32.le_iff_toInt_le, zt_tsub (by rw [zt_ti (by omega), zt_ti (by omega)]; omega) (by rw [zt_ti (by omega), zt_ti (by omega)]; omega), zt_ti (by omega), zt_ti (by omega), zt_i0]
          omega
      unfold f_apI
      rw [if_pos hnn, e]
    · by_cases hic : c ≤ i ∧ i < c + s
      · have := q2 (c + s - 1 - i) (by omega)
        rw [show c + s - 1 - (c + s - 1 - i) = i by omega] at this
        rw [this]
        exact zt_fits (hdig _ (by omega))
      · rw [q3 i (by omega)]
        exact h7 i hi
  · have hn4 : n = 16 ∨ n = 34 ∨ n = 70 ∨ n = 142 := by omega
    obtain ⟨f1, f2, f3, f4⟩ := zt_ensG (k := k) (c := c) (s := s) hn4 h4 (by omega) (by omega) h7
    obtain ⟨g', q1, q2, q3⟩ := gc (2 * n + 2) f1 (by omega) (by omega)
    refine ⟨2 * n + 2, (k.1, Int32.ofNat (c + s)), g', ln', ?_, l1, rfl, rfl, by omega, by omega, by omega, lnk g' (fun i hi => by rw [q3 i (by omega), f3 i (by omega)]) q2, fun i hi => ?_⟩
    · have e : f_J4_append_bf812 n k f (Int32.ofNat a) = none := by
        unfold f_J4_append_bf812 f_J5_append_c97b9 f_J5_ensureCapacityInternal_d00df
        rw [es, Option.bind_some, h1, ecs, zt_shr, if_neg]
        · rfl
        · rw [zt_sub (by omega)]
          exact zt_np (by omega) (by omega)
      have e2 : f_J4_append_bf812_G n k f (Int32.ofNat a) = some (2 * n + 2, (k.1, Int32.ofNat (c + s)), g') := by
        unfold f_J4_append_bf812_G f_J5_append_c97b9_G f_J5_isLatin1_aae02
        rw [es, Option.bind_some, h1, ecs, f2, Option.bind_some, if_neg zt_10, if_pos rfl, Option.bind_some, if_neg zt_10, q1]
        rfl
      unfold f_apI
      rw [if_pos hnn, e]
      simp only [e2, Option.bind_some]
      rw [if_pos ⟨Nat.le_refl _, by omega⟩]
    · by_cases hic : c ≤ i ∧ i < c + s
      · have := q2 (c + s - 1 - i) (by omega)
        rw [show c + s - 1 - (c + s - 1 - i) = i by omega] at this
        rw [this]
        exact zt_fits (hdig _ (by omega))
      · rw [q3 i (by omega)]
        by_cases hin : i < n
        · rw [f3 i hin]; exact h7 i hin
        · rw [f4 i (by omega)]; rfl
