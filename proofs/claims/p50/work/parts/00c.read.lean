/-! THE THEORY, 2: the relation of the two states, readers -/
/-- the class's candles are well -/
def zCW (n : Nat) (c : CdT) : Prop := c.2.2.2.2 = Int32.ofNat n ∧ n ≤ 10 ∧ ∀ i, i < n → (c.1 i = 115 ∨ c.1 i = 97 ∨ c.1 i = 116 ∨ c.1 i = 98) ∧ (0 ≤ (c.2.1 i).toInt ∧ (c.2.1 i).toInt ≤ 999) ∧ (1 ≤ (c.2.2.1 i).toInt ∧ (c.2.2.1 i).toInt ≤ 9) ∧ (c.2.2.2.1 i = 0 ∨ c.2.2.2.1 i = 1 ∧ c.2.1 i ≠ 0)
/-- the row holds the class's candles -/
def zCR (n : Nat) (c : CdT) (s : Nat → Int32) : Prop := s 3 = Int32.ofNat n ∧ ∀ i, i < n → s (10 + 4 * i) = c.1 i ∧ s (11 + 4 * i) = c.2.1 i ∧ s (12 + 4 * i) = c.2.2.1 i ∧ s (13 + 4 * i) = c.2.2.2.1 i
def zEW (n k : Nat) (T : Int) (e : EvT) : Prop := e.2.2.2 = Int32.ofNat k ∧ k ≤ 20 ∧ (∀ j, j < k → (∃ i, i < n ∧ e.2.1 j = Int32.ofNat i) ∧ (e.2.2.1 j = 0 ∨ e.2.2.1 j = 1) ∧ T < (e.1 j).toInt ∧ (e.1 j).toInt ≤ T + 999) ∧ ∀ j, j + 1 < k → (e.1 j).toInt ≤ (e.1 (j + 1)).toInt
def zER (k : Nat) (e : EvT) (s : Nat → Int32) : Prop := s 4 = Int32.ofNat k ∧ ∀ j, j < k → s (50 + 3 * j) = e.1 j ∧ s (51 + 3 * j) = e.2.1 j ∧ s (52 + 3 * j) = e.2.2.1 j
def zVW (T : Int) (v : StS) : Prop := v.2.2.1.toInt = T ∧ 0 ≤ T ∧ (0 ≤ v.1.toInt ∧ v.1.toInt ≤ 3) ∧ (0 ≤ v.2.2.2.2.2.2.1.toInt ∧ v.2.2.2.2.2.2.1.toInt ≤ 65535) ∧ (-1 ≤ v.2.2.2.2.2.2.2.toInt ∧ v.2.2.2.2.2.2.2.toInt ≤ 9)
def zVR (v : StS) (s : Nat → Int32) : Prop := s 0 = v.2.2.1 ∧ s 1 = v.1 ∧ s 2 = v.2.1 ∧ s 5 = v.2.2.2.2.2.1 ∧ (s 6 = v.2.2.2.2.2.2.1 ∨ v.2.2.2.2.2.1 = 0) ∧ s 7 = v.2.2.2.2.2.2.2 + 1 ∧ v.2.2.2.2.1 = (s 8).toInt64 ∧ s 9 = v.2.2.2.1
/-- the accounts: what was added is on candles, in the dish or burnt; and no candle that isn't there is lit -/
def zA (n : Nat) (v : StS) (c : CdT) (s : Nat → Int32) : Prop := s 8 = zt_sum c.2.1 n + v.2.1 + v.2.2.2.1 ∧ 0 ≤ (s 8).toInt ∧ (s 8).toInt ≤ 999 * n ∧ ∀ i, n ≤ i → i < 10 → s (13 + 4 * i) = 0
/-- all of it -/
def zS (n k : Nat) (T : Int) (v : StS) (c : CdT) (e : EvT) (s : Nat → Int32) : Prop := zCW n c ∧ zCR n c s ∧ zEW n k T e ∧ zER k e s ∧ zVW T v ∧ zVR v s
theorem zt_n0 : (0 : Int32).toNatClampNeg = 0 := rfl
theorem zt_n1 : (1 : Int32).toNatClampNeg = 1 := rfl
theorem zt_n2 : (2 : Int32).toNatClampNeg = 2 := rfl
theorem zt_n3 : (3 : Int32).toNatClampNeg = 3 := rfl
theorem zt_n4 : (4 : Int32).toNatClampNeg = 4 := rfl
theorem zt_n5 : (5 : Int32).toNatClampNeg = 5 := rfl
theorem zt_n6 : (6 : Int32).toNatClampNeg = 6 := rfl
theorem zt_n7 : (7 : Int32).toNatClampNeg = 7 := rfl
theorem zt_n8 : (8 : Int32).toNatClampNeg = 8 := rfl
theorem zt_n9 : (9 : Int32).toNatClampNeg = 9 := rfl
/-- a literal index within -/
theorem zt_g {α : Type} {q : Int32} {N : Nat} {a b : α} (h : (decide (q < 0) || decide (N ≤ q.toNatClampNeg)) = false) : (if q < 0 ∨ N ≤ q.toNatClampNeg then a else b) = b := by
  simp only [Bool.or_eq_false_iff, decide_eq_false_iff_not] at h
  exact if_neg (fun q => q.elim h.1 h.2)
theorem zt_G0 {α : Type} {a b : α} : (if (0 : Int32) < 0 ∨ 110 ≤ (0 : Int32).toNatClampNeg then a else b) = b := if_neg (by decide)
theorem zt_G1 {α : Type} {a b : α} : (if (1 : Int32) < 0 ∨ 110 ≤ (1 : Int32).toNatClampNeg then a else b) = b := if_neg (by decide)
theorem zt_G2 {α : Type} {a b : α} : (if (2 : Int32) < 0 ∨ 110 ≤ (2 : Int32).toNatClampNeg then a else b) = b := if_neg (by decide)
theorem zt_G3 {α : Type} {a b : α} : (if (3 : Int32) < 0 ∨ 110 ≤ (3 : Int32).toNatClampNeg then a else b) = b := if_neg (by decide)
theorem zt_G4 {α : Type} {a b : α} : (if (4 : Int32) < 0 ∨ 110 ≤ (4 : Int32).toNatClampNeg then a else b) = b := if_neg (by decide)
theorem zt_G5 {α : Type} {a b : α} : (if (5 : Int32) < 0 ∨ 110 ≤ (5 : Int32).toNatClampNeg then a else b) = b := if_neg (by decide)
theorem zt_G6 {α : Type} {a b : α} : (if (6 : Int32) < 0 ∨ 110 ≤ (6 : Int32).toNatClampNeg then a else b) = b := if_neg (by decide)
theorem zt_G7 {α : Type} {a b : α} : (if (7 : Int32) < 0 ∨ 110 ≤ (7 : Int32).toNatClampNeg then a else b) = b := if_neg (by decide)
theorem zt_G8 {α : Type} {a b : α} : (if (8 : Int32) < 0 ∨ 110 ≤ (8 : Int32).toNatClampNeg then a else b) = b := if_neg (by decide)
theorem zt_G9 {α : Type} {a b : α} : (if (9 : Int32) < 0 ∨ 110 ≤ (9 : Int32).toNatClampNeg then a else b) = b := if_neg (by decide)
theorem zt_gi {α : Type} {i N : Nat} {a b : α} (h : i < N) (hN : N < 2147483648) : (if Int32.ofNat i < 0 ∨ N ≤ (Int32.ofNat i).toNatClampNeg then a else b) = b := if_neg (zt_in h hN)
theorem zt_in0 {x : Int32} {n : Nat} (hn : n ≤ 1000) : (x < (0 : Int32) ∨ (Int32.ofNat n - 1) < x) ↔ ∀ i, i < n → x ≠ Int32.ofNat i := by
  have e1 : (1 : Int32).toInt = 1 := rfl
  have e : (Int32.ofNat n - 1).toInt = (n : Int) - 1 := by
    rw [zt_tsub (by rw [zt_ti (by omega), e1]; omega) (by rw [zt_ti (by omega), e1]; omega), zt_ti (by omega), e1]
  rw [Int32.lt_iff_toInt_lt, Int32.lt_iff_toInt_lt, e, zt_i0]
  constructor
  · intro h i hi q
    rw [q, zt_ti (by omega)] at h
    omega
  · intro h
    by_cases h0 : x.toInt < 0
    · exact Or.inl h0
    · refine Or.inr ?_
      have h1 := h x.toInt.toNat
      have h2 := zt_nat (x := x) (by omega)
      have h3 : ¬ x.toInt.toNat < n := fun q => h1 q h2
      omega
theorem zt_isIn (x a b : Int32) : f_X10_isIn x a b = some (if x < a ∨ b < x then 0 else 1) := by
  unfold f_X10_isIn
  by_cases h1 : x < a
  · rw [if_pos h1, if_pos (Or.inl h1)]
  · by_cases h2 : b < x
    · rw [if_neg h1, if_pos h2, if_pos (Or.inr h2)]
    · rw [if_neg h1, if_neg h2, if_neg (fun q => q.elim h1 h2)]
theorem zt_isC {m : MdT} {s : Nat → Int32} {x : Int32} {n : Nat} (hs : s 3 = Int32.ofNat n) (hn : n ≤ 10) : f_X10_isCandle m s x = some (if (∀ i, i < n → x ≠ Int32.ofNat i) then 0 else 1) := by
  unfold f_X10_isCandle
  rw [zt_g (by decide), zt_n3, hs, zt_isIn, Option.bind_some]
  by_cases h : x < 0 ∨ Int32.ofNat n - 1 < x
  · rw [if_pos h, if_pos ((zt_in0 (by omega)).mp h), if_pos (Or.inl rfl)]
  · rw [if_neg h, if_neg (fun q => h ((zt_in0 (by omega)).mpr q)), if_pos (Or.inr rfl)]
theorem zt_isE {m : MdT} {s : Nat → Int32} {x : Int32} {n : Nat} (hs : s 4 = Int32.ofNat n) (hn : n ≤ 20) : f_X10_isEvent m s x = some (if (∀ i, i < n → x ≠ Int32.ofNat i) then 0 else 1) := by
  unfold f_X10_isEvent
  rw [zt_g (by decide), zt_n4, hs, zt_isIn, Option.bind_some]
  by_cases h : x < 0 ∨ Int32.ofNat n - 1 < x
  · rw [if_pos h, if_pos ((zt_in0 (by omega)).mp h), if_pos (Or.inl rfl)]
  · rw [if_neg h, if_neg (fun q => h ((zt_in0 (by omega)).mpr q)), if_pos (Or.inr rfl)]
theorem zt_has' {x : Int32} {n : Nat} (hn : n ≤ 1000) : (if x < (0 : Int32) then (some (0 : Int32)) else (if Int32.ofNat n ≤ x then some 0 else some 1)) = some (if (∀ i, i < n → x ≠ Int32.ofNat i) then 0 else 1) := by
  by_cases h : ∀ i, i < n → x ≠ Int32.ofNat i
  · rw [if_pos h]
    by_cases h0 : x < 0
    · rw [if_pos h0]
    · rw [if_neg h0, if_pos]
      rw [Int32.lt_iff_toInt_lt, zt_i0] at h0
      rw [Int32.le_iff_toInt_le, zt_ti (by omega)]
      have h1 := h x.toInt.toNat
      have h2 := zt_nat (x := x) (by omega)
      have h3 : ¬ x.toInt.toNat < n := fun q => h1 q h2
      omega
  · rw [if_neg h]
    have ⟨i, hi⟩ := Classical.not_forall.mp h
    have ⟨h1, h2⟩ := Classical.not_imp.mp hi
    have h3 : x = Int32.ofNat i := Classical.not_not.mp h2
    subst h3
    rw [if_neg, if_neg]
    · rw [zt_le (by omega) (by omega)]; omega
    · rw [Int32.lt_iff_toInt_lt, zt_ti (by omega), zt_i0]; omega
theorem zt_has {c : CdT} {x : Int32} {n : Nat} (hc : c.2.2.2.2 = Int32.ofNat n) (hn : n ≤ 10) : f_X1_has c x = some (if (∀ i, i < n → x ≠ Int32.ofNat i) then 0 else 1) := by
  unfold f_X1_has
  rw [hc]
  exact zt_has' (by omega)
theorem zt_hasE {e : EvT} {x : Int32} {n : Nat} (hc : e.2.2.2 = Int32.ofNat n) (hn : n ≤ 20) : f_X3_has e x = some (if (∀ i, i < n → x ≠ Int32.ofNat i) then 0 else 1) := by
  unfold f_X3_has
  rw [hc]
  exact zt_has' (by omega)
/-- an index is one of n, or none of them -/
theorem zt_pick (x : Int32) (n : Nat) : (∃ i, i < n ∧ x = Int32.ofNat i ∧ ∀ a b : Int32, (if (∀ i, i < n → x ≠ Int32.ofNat i) then a else b) = b) ∨ (∀ a b : Int32, (if (∀ i, i < n → x ≠ Int32.ofNat i) then a else b) = a) := by
  by_cases h : ∀ i, i < n → x ≠ Int32.ofNat i
  · exact Or.inr (fun a b => if_pos h)
  · have ⟨i, hi⟩ := Classical.not_forall.mp h
    have ⟨h1, h2⟩ := Classical.not_imp.mp hi
    exact Or.inl ⟨i, h1, Classical.not_not.mp h2, fun a b => if_neg h⟩
theorem zt_i1 (a i b : Nat) : Int32.ofNat 10 + Int32.ofNat 4 * Int32.ofNat i + Int32.ofNat b = Int32.ofNat (10 + 4 * i + b) := by rw [zt_mul, zt_add, zt_add]
theorem zt_of {m : MdT} {s : Nat → Int32} {i b : Nat} (hi : i < 10) (hb : b < 4) : f_X10_of m s (Int32.ofNat i) (Int32.ofNat b) = some (s (10 + 4 * i + b)) := by
  unfold f_X10_of
  have e : (10 : Int32) + (4 : Int32) * Int32.ofNat i + Int32.ofNat b = Int32.ofNat (10 + 4 * i + b) := zt_i1 0 i b
  rw [e, zt_gi (by omega) (by omega), zt_cl (by omega)]
theorem zt_of0 {m : MdT} {s : Nat → Int32} {i : Nat} (hi : i < 10) : f_X10_of m s (Int32.ofNat i) 0 = some (s (10 + 4 * i)) := zt_of (b := 0) hi (by omega)
theorem zt_of1 {m : MdT} {s : Nat → Int32} {i : Nat} (hi : i < 10) : f_X10_of m s (Int32.ofNat i) 1 = some (s (11 + 4 * i)) := by
  have h := zt_of (m := m) (s := s) (b := 1) hi (by omega)
  rwa [show 10 + 4 * i + 1 = 11 + 4 * i by omega] at h
theorem zt_of2 {m : MdT} {s : Nat → Int32} {i : Nat} (hi : i < 10) : f_X10_of m s (Int32.ofNat i) 2 = some (s (12 + 4 * i)) := by
  have h := zt_of (m := m) (s := s) (b := 2) hi (by omega)
  rwa [show 10 + 4 * i + 2 = 12 + 4 * i by omega] at h
theorem zt_of3 {m : MdT} {s : Nat → Int32} {i : Nat} (hi : i < 10) : f_X10_of m s (Int32.ofNat i) 3 = some (s (13 + 4 * i)) := by
  have h := zt_of (m := m) (s := s) (b := 3) hi (by omega)
  rwa [show 10 + 4 * i + 3 = 13 + 4 * i by omega] at h
theorem zt_set {m : MdT} {s : Nat → Int32} {i b : Nat} {x : Int32} (hi : i < 10) (hb : b < 4) : f_X10_sets m s (Int32.ofNat i) (Int32.ofNat b) x = some (upd s (10 + 4 * i + b) x) := by
  unfold f_X10_sets
  have e : (10 : Int32) + (4 : Int32) * Int32.ofNat i + Int32.ofNat b = Int32.ofNat (10 + 4 * i + b) := zt_i1 0 i b
  rw [e, zt_gi (by omega) (by omega), zt_cl (by omega)]
theorem zt_set0 {m : MdT} {s : Nat → Int32} {i : Nat} {x : Int32} (hi : i < 10) : f_X10_sets m s (Int32.ofNat i) 0 x = some (upd s (10 + 4 * i) x) := zt_set (b := 0) hi (by omega)
theorem zt_set1 {m : MdT} {s : Nat → Int32} {i : Nat} {x : Int32} (hi : i < 10) : f_X10_sets m s (Int32.ofNat i) 1 x = some (upd s (11 + 4 * i) x) := by
  have h := zt_set (m := m) (s := s) (x := x) (b := 1) hi (by omega)
  rwa [show 10 + 4 * i + 1 = 11 + 4 * i by omega] at h
theorem zt_set2 {m : MdT} {s : Nat → Int32} {i : Nat} {x : Int32} (hi : i < 10) : f_X10_sets m s (Int32.ofNat i) 2 x = some (upd s (12 + 4 * i) x) := by
  have h := zt_set (m := m) (s := s) (x := x) (b := 2) hi (by omega)
  rwa [show 10 + 4 * i + 2 = 12 + 4 * i by omega] at h
theorem zt_set3 {m : MdT} {s : Nat → Int32} {i : Nat} {x : Int32} (hi : i < 10) : f_X10_sets m s (Int32.ofNat i) 3 x = some (upd s (13 + 4 * i) x) := by
  have h := zt_set (m := m) (s := s) (x := x) (b := 3) hi (by omega)
  rwa [show 10 + 4 * i + 3 = 13 + 4 * i by omega] at h
theorem zt_oe {m : MdT} {s : Nat → Int32} {i b : Nat} (hi : i < 20) (hb : b < 3) : f_X10_ofEvent m s (Int32.ofNat i) (Int32.ofNat b) = some (s (50 + 3 * i + b)) := by
  unfold f_X10_ofEvent
  have e : (50 : Int32) + (3 : Int32) * Int32.ofNat i + Int32.ofNat b = Int32.ofNat (50 + 3 * i + b) := by
    show Int32.ofNat 50 + Int32.ofNat 3 * Int32.ofNat i + Int32.ofNat b = _
    rw [zt_mul, zt_add, zt_add]
  rw [e, zt_gi (by omega) (by omega), zt_cl (by omega)]
theorem zt_oe0 {m : MdT} {s : Nat → Int32} {i : Nat} (hi : i < 20) : f_X10_ofEvent m s (Int32.ofNat i) 0 = some (s (50 + 3 * i)) := zt_oe (b := 0) hi (by omega)
theorem zt_oe1 {m : MdT} {s : Nat → Int32} {i : Nat} (hi : i < 20) : f_X10_ofEvent m s (Int32.ofNat i) 1 = some (s (51 + 3 * i)) := by
  have h := zt_oe (m := m) (s := s) (b := 1) hi (by omega)
  rwa [show 50 + 3 * i + 1 = 51 + 3 * i by omega] at h
theorem zt_oe2 {m : MdT} {s : Nat → Int32} {i : Nat} (hi : i < 20) : f_X10_ofEvent m s (Int32.ofNat i) 2 = some (s (52 + 3 * i)) := by
  have h := zt_oe (m := m) (s := s) (b := 2) hi (by omega)
  rwa [show 50 + 3 * i + 2 = 52 + 3 * i by omega] at h
/-- counts and sums of the class -/
theorem zt_countLit_4 {c : CdT} {n : Nat} (hc : c.2.2.2.2 = Int32.ofNat n) (hn : n ≤ 10) (hl : ∀ i, i < n → c.2.2.2.1 i = 0 ∨ c.2.2.2.1 i = 1) : ∀ (r F i : Nat), i + r = n → r < F → f_X1_countLit_4 F c (zt_sum c.2.2.2.1 i) (Int32.ofNat i) = some (zt_sum c.2.2.2.1 n)
  | 0, F + 1, i, h, _ => by
    have : i = n := by omega
    subst this
    rw [f_X1_countLit_4, hc, if_pos ((zt_le (by omega) (by omega)).mpr (Nat.le_refl _))]
  | r + 1, F + 1, i, h, hF => by
    rw [f_X1_countLit_4, hc, if_neg (fun q => absurd ((zt_le (by omega) (by omega)).mp q) (by omega)), zt_gi (by omega) (by omega), zt_cl (by omega), zt_succ]
    have ih := zt_countLit_4 hc hn hl r F (i + 1) (by omega) (by omega)
    rw [zt_sum] at ih
    rcases hl i (by omega) with q | q
    · rw [if_pos q, ← ih, q, Int32.add_zero]
    · rw [if_neg (by rw [q]; decide), ← ih, q]
theorem zt_countLit {c : CdT} {n : Nat} (h : zCW n c) : f_X1_countLit c = some (zt_sum c.2.2.2.1 n) :=
  zt_countLit_4 h.1 h.2.1 (fun i hi => (h.2.2 i hi).2.2.2.imp_right And.left) n xFuel 0 (by omega) (by have := h.2.1; unfold xFuel; omega)
theorem zt_sumWax_4 {c : CdT} {n : Nat} (hc : c.2.2.2.2 = Int32.ofNat n) (hn : n ≤ 10) : ∀ (r F i : Nat), i + r = n → r < F → f_X1_sumOfWax_4 F c (zt_sum c.2.1 i) (Int32.ofNat i) = some (zt_sum c.2.1 n)
  | 0, F + 1, i, h, _ => by
    have : i = n := by omega
    subst this
    rw [f_X1_sumOfWax_4, hc, if_pos ((zt_le (by omega) (by omega)).mpr (Nat.le_refl _))]
  | r + 1, F + 1, i, h, hF => by
    rw [f_X1_sumOfWax_4, hc, if_neg (fun q => absurd ((zt_le (by omega) (by omega)).mp q) (by omega)), zt_gi (by omega) (by omega), zt_cl (by omega), zt_succ]
    exact zt_sumWax_4 hc hn r F (i + 1) (by omega) (by omega)
theorem zt_sumWax {c : CdT} {n : Nat} (h : zCW n c) : f_X1_sumOfWax c = some (zt_sum c.2.1 n) :=
  zt_sumWax_4 h.1 h.2.1 n xFuel 0 (by omega) (by have := h.2.1; unfold xFuel; omega)
/-- counts and sums of the reference -/
theorem zt_lit_4 {m : MdT} {s : Nat → Int32} {n : Nat} (hs : s 3 = Int32.ofNat n) (hn : n ≤ 10) : ∀ (r F i : Nat), i + r = n → r < F → f_X10_lit_4 F m s (zt_sum (fun i => s (13 + 4 * i)) i) (Int32.ofNat i) = some (zt_sum (fun i => s (13 + 4 * i)) n)
  | 0, F + 1, i, h, _ => by
    have : i = n := by omega
    subst this
    rw [f_X10_lit_4, zt_g (by decide), zt_n3, hs, if_pos ((zt_le (by omega) (by omega)).mpr (Nat.le_refl _))]
  | r + 1, F + 1, i, h, hF => by
    rw [f_X10_lit_4, zt_g (by decide), zt_n3, hs, if_neg (fun q => absurd ((zt_le (by omega) (by omega)).mp q) (by omega)), zt_of3 (by omega), Option.bind_some, zt_succ]
    exact zt_lit_4 hs hn r F (i + 1) (by omega) (by omega)
theorem zt_lit {m : MdT} {c : CdT} {s : Nat → Int32} {n : Nat} (hn : n ≤ 10) (h : zCR n c s) : f_X10_lit m s = some (zt_sum c.2.2.2.1 n) := by
  have h1 := zt_lit_4 (m := m) h.1 hn n xFuel 0 (by omega) (by unfold xFuel; omega)
  rw [zt_sum_congr (g := c.2.2.2.1) (n := n) (fun i hi => (h.2 i hi).2.2.2)] at h1
  exact h1
theorem zt_allWax_4 {m : MdT} {s : Nat → Int32} {n : Nat} (hs : s 3 = Int32.ofNat n) (hn : n ≤ 10) : ∀ (r F i : Nat), i + r = n → r < F → f_X10_allWax_4 F m s (zt_sum (fun i => s (11 + 4 * i)) i) (Int32.ofNat i) = some (zt_sum (fun i => s (11 + 4 * i)) n)
  | 0, F + 1, i, h, _ => by
    have : i = n := by omega
    subst this
    rw [f_X10_allWax_4, zt_g (by decide), zt_n3, hs, if_pos ((zt_le (by omega) (by omega)).mpr (Nat.le_refl _))]
  | r + 1, F + 1, i, h, hF => by
    rw [f_X10_allWax_4, zt_g (by decide), zt_n3, hs, if_neg (fun q => absurd ((zt_le (by omega) (by omega)).mp q) (by omega)), zt_of1 (by omega), Option.bind_some, zt_succ]
    exact zt_allWax_4 hs hn r F (i + 1) (by omega) (by omega)
theorem zt_allWax {m : MdT} {c : CdT} {s : Nat → Int32} {n : Nat} (hn : n ≤ 10) (h : zCR n c s) : f_X10_allWax m s = some (zt_sum c.2.1 n) := by
  have h1 := zt_allWax_4 (m := m) h.1 hn n xFuel 0 (by omega) (by unfold xFuel; omega)
  rw [zt_sum_congr (g := c.2.1) (n := n) (fun i hi => (h.2 i hi).2.1)] at h1
  exact h1
