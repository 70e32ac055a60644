/-! THE THEORY, 17: signs, words and numbers of a program -/
def zQp (q : PrT) (p : Nat) : PrT := (q.1, q.2.1, q.2.2.1, Int32.ofNat p)
def zMh (m : MdT) (p : Nat) (c : Int32) : MdT := (m.1, m.2.1, m.2.2.1, m.2.2.2.1, m.2.2.2.2.1, m.2.2.2.2.2.1, m.2.2.2.2.2.2.1, m.2.2.2.2.2.2.2.1, Int32.ofNat p, c)
theorem zMh_s (m : MdT) (p : Nat) (c : Int32) : zMh m (p + 1) c = (m.1, m.2.1, m.2.2.1, m.2.2.2.1, m.2.2.2.2.1, m.2.2.2.2.2.1, m.2.2.2.2.2.2.1, m.2.2.2.2.2.2.2.1, Int32.ofNat p + 1, c) := by
  unfold zMh
  rw [zt_succ]
/-- the texts are the same -/
def zTx (len : Nat) (q : PrT) (m : MdT) (tp : Nat → Int32) : Prop := q.2.1 = Int32.ofNat len ∧ m.2.2.2.2.2.2.2.1 = Int32.ofNat len ∧ len ≤ 60 ∧ ∀ i, i < len → q.1 i = tp i ∧ 0 ≤ (tp i).toInt ∧ (tp i).toInt ≤ 65535
section TX
variable {len : Nat} {q : PrT} {m : MdT} {tp : Nat → Int32} {c : Int32}
theorem zt_now {p : Nat} (h : zTx len q m tp) (hp : p ≤ len) : f_X10_now (zMh m p c) tp = some (if p < len then tp p else -1) := by
  have h60 := h.2.2.1
  unfold f_X10_now
  show (if m.2.2.2.2.2.2.2.1 ≤ Int32.ofNat p then _ else _) = _
  rw [h.2.1]
  by_cases g : p < len
  · rw [if_neg (fun q => absurd ((zt_le (by omega) (by omega)).mp q) (by omega)), if_pos g]
    show (if Int32.ofNat p < 0 ∨ 60 ≤ (Int32.ofNat p).toNatClampNeg then none else some (tp (Int32.ofNat p).toNatClampNeg)) = _
    rw [zt_gi (by omega) (by omega), zt_cl (by omega)]
  · rw [if_pos ((zt_le (by omega) (by omega)).mpr (by omega)), if_neg g]
theorem zt_sig {p : Nat} (h : zTx len q m tp) (hp : p ≤ len) (x : Int32) : f_X10_isSign (zMh m p c) tp x = some (if (if p < len then tp p else -1) = x then (1, zMh m (p + 1) c) else (0, zMh m p c)) := by
  unfold f_X10_isSign
  rw [zt_now h hp, Option.bind_some]
  unfold f_X10_isSign_13
  by_cases g : (if p < len then tp p else -1) = x
  · rw [if_pos g, if_neg zt_10, if_pos (Or.inr rfl), if_pos g]
    show some ((1 : Int32), (m.1, m.2.1, m.2.2.1, m.2.2.2.1, m.2.2.2.2.1, m.2.2.2.2.2.1, m.2.2.2.2.2.2.1, m.2.2.2.2.2.2.2.1, Int32.ofNat p + 1, c)) = _
    rw [zt_succ]
    rfl
  · rw [if_neg g, if_pos rfl, if_pos (Or.inl rfl), if_neg g]
    show some ((0 : Int32), (m.1, m.2.1, m.2.2.1, m.2.2.2.1, m.2.2.2.2.1, m.2.2.2.2.2.1, m.2.2.2.2.2.2.1, m.2.2.2.2.2.2.2.1, Int32.ofNat p + 0, c)) = _
    rw [Int32.add_zero]
    rfl
theorem zt_acc' {p : Nat} (h : zTx len q m tp) (hp : p ≤ len) (x : Int32) : f_X6_accept (zQp q p) x = some (if p < len ∧ tp p = x then (1, zQp q (p + 1)) else (0, zQp q p)) := by
  have h60 := h.2.2.1
  unfold f_X6_accept
  show (if q.2.1 ≤ Int32.ofNat p then some ((0 : Int32), zQp q p) else (if Int32.ofNat p < 0 ∨ 60 ≤ (Int32.ofNat p).toNatClampNeg then none else (if q.1 (Int32.ofNat p).toNatClampNeg = x then some (1, (q.1, q.2.1, q.2.2.1, Int32.ofNat p + 1)) else some (0, zQp q p)))) = _
  rw [h.1]
  by_cases g : p < len
  · rw [if_neg (fun q => absurd ((zt_le (by omega) (by omega)).mp q) (by omega)), zt_gi (by omega) (by omega), zt_cl (by omega), (h.2.2.2 p g).1]
    by_cases g2 : tp p = x
    · rw [if_pos g2, if_pos ⟨g, g2⟩, zt_succ, ← h.1]
      rfl
    · rw [if_neg g2, if_neg (fun k => g2 k.2)]
  · rw [if_pos ((zt_le (by omega) (by omega)).mpr (by omega)), if_neg (fun k => g k.1)]
/-- a sign: class and reference -/
theorem zt_acc {p : Nat} (h : zTx len q m tp) (hp : p ≤ len) (x : Int32) (hx : 0 ≤ x.toInt) (c : Int32) :
    (p + 1 ≤ len ∧ tp p = x ∧ f_X6_accept (zQp q p) x = some (1, zQp q (p + 1)) ∧ f_X10_isSign (zMh m p c) tp x = some (1, zMh m (p + 1) c)) ∨
    (¬ (p < len ∧ tp p = x) ∧ f_X6_accept (zQp q p) x = some (0, zQp q p) ∧ f_X10_isSign (zMh m p c) tp x = some (0, zMh m p c)) := by
  rw [zt_acc' h hp, zt_sig h hp]
  by_cases g : p < len ∧ tp p = x
  · refine Or.inl ⟨g.1, g.2, by rw [if_pos g], by rw [if_pos]; rw [if_pos g.1]; exact g.2⟩
  · refine Or.inr ⟨g, by rw [if_neg g], ?_⟩
    rw [if_neg]
    by_cases g1 : p < len
    · rw [if_pos g1]; exact fun k => g ⟨g1, k⟩
    · rw [if_neg g1]
      intro k
      rw [← k] at hx
      exact absurd hx (by decide)
/-- the words that are read -/
def zWd (x : Nat) (L : Nat) : Prop := x < 39 ∧ f_J0_length_8abf5 x = some (Int32.ofNat L) ∧ L ≤ 60 ∧ ∀ i, i < L → ∃ ch : Int32, f_J0_charAt_5068e x (Int32.ofNat i) = some ch ∧ 0 ≤ ch.toInt
theorem zt_wordL {x L : Nat} (h : zTx len q m tp) (hw : zWd x L) (c : Int32) : ∀ (r F G i p : Nat), i + r = L → r < F → r < G → p ≤ len → ∃ (b : Int32) (p' : Nat), f_X6_acceptAll_2 F (zQp q p) x (Int32.ofNat i) = some (b, zQp q p') ∧ f_X10_isWord_2 G (zMh m p c) tp x (Int32.ofNat i) = some (b, zMh m p' c) ∧ p' ≤ len ∧ (b = 0 ∨ b = 1 ∧ p + r ≤ p')
  | 0, F + 1, G + 1, i, p, hi, _, _, hp => by
    have hL := hw.2.2.1
    have : i = L := by omega
    subst this
    refine ⟨1, p, ?_, ?_, hp, Or.inr ⟨rfl, Nat.le_refl _⟩⟩
    · rw [f_X6_acceptAll_2, hw.2.1, Option.bind_some, if_pos hw.1, if_pos ((zt_le (by omega) (by omega)).mpr (Nat.le_refl _))]
    · rw [f_X10_isWord_2, hw.2.1, Option.bind_some, if_pos hw.1, if_pos ((zt_le (by omega) (by omega)).mpr (Nat.le_refl _))]
  | r + 1, F + 1, G + 1, i, p, hi, hF, hG, hp => by
    have hL := hw.2.2.1
    obtain ⟨ch, c1, c2⟩ := hw.2.2.2 i (by omega)
    rw [f_X6_acceptAll_2, hw.2.1, Option.bind_some, if_pos hw.1, if_neg (fun q => absurd ((zt_le (by omega) (by omega)).mp q) (by omega)), c1, Option.bind_some, if_pos hw.1, f_X10_isWord_2, hw.2.1, Option.bind_some, if_pos hw.1, if_neg (fun q => absurd ((zt_le (by omega) (by omega)).mp q) (by omega)), c1, Option.bind_some, if_pos hw.1]
    rcases zt_acc h hp ch c2 c with ⟨g1, -, g2, g3⟩ | ⟨-, g2, g3⟩
    · rw [g2, g3, Option.bind_some, Option.bind_some, if_neg zt_10, if_neg zt_10, zt_succ]
      obtain ⟨b, p', z1, z2, z3, z4⟩ := zt_wordL h hw c r F G (i + 1) (p + 1) (by omega) (by omega) (by omega) g1
      exact ⟨b, p', z1, z2, z3, z4.imp_right (fun k => ⟨k.1, by omega⟩)⟩
    · rw [g2, g3, Option.bind_some, Option.bind_some, if_pos rfl, if_pos rfl]
      exact ⟨0, p, rfl, rfl, hp, Or.inl rfl⟩
theorem zt_word {x L p : Nat} (h : zTx len q m tp) (hw : zWd x L) (hp : p ≤ len) (c : Int32) : ∃ (b : Int32) (p' : Nat), f_X6_acceptAll (zQp q p) x = some (b, zQp q p') ∧ f_X10_isWord (zMh m p c) tp x = some (b, zMh m p' c) ∧ p' ≤ len ∧ (b = 0 ∨ b = 1 ∧ p + L ≤ p') :=
  zt_wordL h hw c L xFuel xFuel 0 p (by omega) (by have := hw.2.2.1; unfold xFuel; omega) (by have := hw.2.2.1; unfold xFuel; omega) hp
/-- numbers -/
theorem zt_digL (h : zTx len q m tp) {most at' : Nat} (hm : most ≤ 3) (ha : at' < 124) (cm : Nat → Int32) (c : Int32) : ∀ (r F G i p : Nat) (x : Int32), i + r = most → r < F → r < G → p ≤ len → 0 ≤ x.toInt → x.toInt < (10 ^ i : Nat) →
    ∃ (j p' : Nat) (y : Int32), f_X6_readDigits_4 F (zQp q p) (Int32.ofNat most) (if i = 0 then -1 else x) (Int32.ofNat i) = some (if j = 0 then -1 else y, zQp q p') ∧ f_X10_isNumber_5 G (zMh m p c) tp cm (Int32.ofNat most) (Int32.ofNat at') x (Int32.ofNat i) = some (if j = 0 then 0 else 1, zMh m p' c, upd cm at' y) ∧ i ≤ j ∧ p' = p + (j - i) ∧ p' ≤ len ∧ 0 ≤ y.toInt ∧ y.toInt ≤ 999 := by
  have h60 := h.2.2.1
  have st54 : ∀ (i p : Nat) (x : Int32), i ≤ 3 → f_X10_isNumber_54 (zMh m p c) tp cm (Int32.ofNat at') x (Int32.ofNat i) = some (if i = 0 then 0 else 1, zMh m p c, upd cm at' x) := fun i p x hi => by
    unfold f_X10_isNumber_54
    rw [zt_gi ha (by omega), zt_cl (by omega)]
    by_cases g : i = 0
    · subst g; rw [if_pos (by decide), if_pos rfl]
    · rw [if_neg (zt_np (by omega) (by omega)), if_neg g]
  have b9 : ∀ (i : Nat) (x : Int32), i ≤ 3 → x.toInt < (10 ^ i : Nat) → x.toInt ≤ 999 := fun i x hi hx => by
    have h1 : (10 ^ i : Nat) ≤ 10 ^ 3 := Nat.pow_le_pow_right (by omega) hi
    omega
  intro r
  induction r with
  | zero =>
    intro F G i p x hi hF hG hp h0 h1
    obtain ⟨F, rfl⟩ : ∃ F', F = F' + 1 := ⟨F - 1, by omega⟩
    obtain ⟨G, rfl⟩ : ∃ G', G = G' + 1 := ⟨G - 1, by omega⟩
    refine ⟨i, p, x, ?_, ?_, Nat.le_refl _, by omega, hp, h0, b9 i x (by omega) h1⟩
    · rw [f_X6_readDigits_4, if_pos ((zt_le (by omega) (by omega)).mpr (by omega))]
    · rw [f_X10_isNumber_5, if_pos ((zt_le (by omega) (by omega)).mpr (by omega)), st54 i p x (by omega)]
  | succ r ih =>
    intro F G i p x hi hF hG hp h0 h1
    obtain ⟨F, rfl⟩ : ∃ F', F = F' + 1 := ⟨F - 1, by omega⟩
    obtain ⟨G, rfl⟩ : ∃ G', G = G' + 1 := ⟨G - 1, by omega⟩
    have e48 : (48 : Int32).toInt = 48 := rfl
    have e57 : (57 : Int32).toInt = 57 := rfl
    have e9 : (9 : Int32).toInt = 9 := rfl
    have e10 : (10 : Int32).toInt = 10 := rfl
    rw [f_X6_readDigits_4, if_neg (fun q => absurd ((zt_le (by omega) (by omega)).mp q) (by omega)), f_X10_isNumber_5, if_neg (fun q => absurd ((zt_le (by omega) (by omega)).mp q) (by omega)), zt_now h hp, Option.bind_some, zt_isIn, Option.bind_some, Option.bind_some]
    have eP : (zQp q p).2.2.2 = Int32.ofNat p := rfl
    have eL : (zQp q p).2.1 = Int32.ofNat len := h.1
    rw [eP, eL]
    by_cases g : p < len
    · have ht := h.2.2.2 p g
      have ed : (tp p - 48).toInt = (tp p).toInt - 48 := by rw [zt_tsub (by omega) (by omega)]; omega
      rw [if_neg (fun q => absurd ((zt_le (by omega) (by omega)).mp q) (by omega)), zt_gi (by omega) (by omega), zt_cl (by omega), if_pos g]
      have eT : (zQp q p).1 p = tp p := ht.1
      rw [eT]
      by_cases g1 : (tp p).toInt < 48 ∨ 57 < (tp p).toInt
      · have k1 : (tp p < 48 ∨ 57 < tp p) := by rw [Int32.lt_iff_toInt_lt, Int32.lt_iff_toInt_lt]; omega
        rw [if_pos k1, if_pos rfl]
        refine ⟨i, p, x, ?_, by rw [st54 i p x (by omega)], Nat.le_refl _, by omega, hp, h0, b9 i x (by omega) h1⟩
        by_cases k2 : tp p - 48 < 0
        · rw [if_pos k2]
        · rw [if_neg k2, if_neg]
          rw [Int32.lt_iff_toInt_lt, zt_i0] at k2
          rw [Int32.le_iff_toInt_le]
          omega
      · have k1 : ¬ (tp p < 48 ∨ 57 < tp p) := by rw [Int32.lt_iff_toInt_lt, Int32.lt_iff_toInt_lt]; omega
        have k2 : ¬ tp p - 48 < 0 := by rw [Int32.lt_iff_toInt_lt, zt_i0]; omega
        have k3 : tp p - 48 ≤ 9 := by rw [Int32.le_iff_toInt_le]; omega
        rw [if_neg k1, if_neg zt_10, if_neg k2, if_pos k3, zt_succ, zt_succ]
        have hx9 := b9 i x (by omega) h1
        have em : (10 * x).toInt = 10 * x.toInt := by rw [zt_tmul (by rw [e10]; omega) (by rw [e10]; omega), e10]
        have ea : (10 * x + tp p).toInt = 10 * x.toInt + (tp p).toInt := by rw [zt_tadd (by omega) (by omega)]; omega
        have en : (10 * x + tp p - 48).toInt = 10 * x.toInt + (tp p).toInt - 48 := by rw [zt_tsub (by omega) (by omega)]; omega
        have ex : 10 * x + (tp p - 48) = 10 * x + tp p - 48 := by
          apply zt_ext
          rw [en, zt_tadd (by omega) (by omega), em, ed]
          omega
        have hp10 : (10 ^ (i + 1) : Nat) = 10 * 10 ^ i := by rw [Nat.pow_succ, Nat.mul_comm]
        obtain ⟨j, p', y, z1, z2, z3, z4, z5, z6, z7⟩ := ih F G (i + 1) (p + 1) (10 * x + tp p - 48) (by omega) (by omega) (by omega) (by omega) (by omega) (by rw [hp10]; omega)
        rw [if_neg (show ¬ i + 1 = 0 by omega)] at z1
        rw [zMh_s] at z2
        refine ⟨j, p', y, ?_, z2, by omega, by omega, z5, z6, z7⟩
        rw [← z1]
        by_cases i0 : i = 0
        · subst i0
          have x0 : x = 0 := zt_ext (by rw [zt_i0]; have : (10 ^ 0 : Nat) = 1 := rfl; omega)
          rw [if_pos (show Int32.ofNat 0 = 0 from rfl), x0]
          have e0 : (10 : Int32) * 0 + tp p - 48 = tp p - 48 := by
            rw [Int32.mul_zero, Int32.zero_add]
          rw [e0, ← h.1]
          rfl
        · rw [if_neg (zt_nz (by omega) (by omega)), if_neg i0, ex, ← h.1]
          rfl
    · have k1 : ((-1 : Int32) < 48 ∨ 57 < (-1 : Int32)) := Or.inl (by decide)
      rw [if_pos ((zt_le (by omega) (by omega)).mpr (by omega)), if_neg g, if_pos k1, if_pos rfl]
      exact ⟨i, p, x, rfl, by rw [st54 i p x (by omega)], Nat.le_refl _, by omega, hp, h0, b9 i x (by omega) h1⟩
theorem zt_dig (h : zTx len q m tp) {most at' p : Nat} (hm : most ≤ 3) (ha : at' < 124) (hp : p ≤ len) (cm : Nat → Int32) (c : Int32) :
    (∃ (p' : Nat) (y : Int32), p + 1 ≤ p' ∧ p' ≤ len ∧ y ≠ -1 ∧ f_X6_readDigits (zQp q p) (Int32.ofNat most) = some (y, zQp q p') ∧ f_X10_isNumber (zMh m p c) tp cm (Int32.ofNat most) (Int32.ofNat at') = some (1, zMh m p' c, upd cm at' y)) ∨
    (∃ y : Int32, f_X6_readDigits (zQp q p) (Int32.ofNat most) = some (-1, zQp q p) ∧ f_X10_isNumber (zMh m p c) tp cm (Int32.ofNat most) (Int32.ofNat at') = some (0, zMh m p c, upd cm at' y)) := by
  obtain ⟨j, p', y, z1, z2, z3, z4, z5, z6, z7⟩ := zt_digL h hm ha cm c most xFuel xFuel 0 p 0 (by omega) (by unfold xFuel; omega) (by unfold xFuel; omega) hp (by decide) (by decide)
  unfold f_X6_readDigits f_X10_isNumber
  rw [if_pos rfl] at z1
  by_cases j0 : j = 0
  · subst j0
    rw [if_pos rfl] at z1 z2
    have : p' = p := by omega
    subst this
    exact Or.inr ⟨y, z1, z2⟩
  · rw [if_neg j0] at z1 z2
    refine Or.inl ⟨p', y, by omega, z5, ?_, z1, z2⟩
    rintro rfl
    exact absurd z6 (by decide)
end TX
theorem zt_wd {x L : Nat} (hx : x < 39) (hL : L ≤ 60) (h1 : f_J0_length_8abf5 x = some (Int32.ofNat L)) (h2 : (List.range L).all (fun i => match f_J0_charAt_5068e x (Int32.ofNat i) with | some ch => decide (0 ≤ ch.toInt) | none => false) = true) : zWd x L := by
  refine ⟨hx, h1, hL, fun i hi => ?_⟩
  have h := List.all_eq_true.mp h2 i (List.mem_range.mpr hi)
  cases hc : f_J0_charAt_5068e x (Int32.ofNat i) with
  | none => rw [hc] at h; cases h
  | some ch =>
    rw [hc] at h
    exact ⟨ch, rfl, of_decide_eq_true h⟩
theorem zw_18 : zWd 18 6 := zt_wd (by decide) (by decide) (by decide +kernel) (by decide +kernel)
theorem zw_19 : zWd 19 5 := zt_wd (by decide) (by decide) (by decide +kernel) (by decide +kernel)
theorem zw_20 : zWd 20 5 := zt_wd (by decide) (by decide) (by decide +kernel) (by decide +kernel)
theorem zw_21 : zWd 21 3 := zt_wd (by decide) (by decide) (by decide +kernel) (by decide +kernel)
theorem zw_22 : zWd 22 4 := zt_wd (by decide) (by decide) (by decide +kernel) (by decide +kernel)
theorem zw_23 : zWd 23 5 := zt_wd (by decide) (by decide) (by decide +kernel) (by decide +kernel)
theorem zw_24 : zWd 24 3 := zt_wd (by decide) (by decide) (by decide +kernel) (by decide +kernel)
theorem zw_25 : zWd 25 3 := zt_wd (by decide) (by decide) (by decide +kernel) (by decide +kernel)
