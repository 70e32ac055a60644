/-! THE THEORY, 1: numbers, sums, indices -/
theorem zt_cl {n : Nat} (h : n < 2147483648) : (Int32.ofNat n).toNatClampNeg = n := Int32.toNatClampNeg_ofNat_of_lt (by omega)
theorem zt_ti {n : Nat} (h : n < 2147483648) : (Int32.ofNat n).toInt = (n : Int) := Int32.toInt_ofNat_small (by omega)
theorem zt_in {n N : Nat} (h : n < N) (hN : N < 2147483648) : ¬ (Int32.ofNat n < 0 ∨ N ≤ (Int32.ofNat n).toNatClampNeg) := within rfl h (by omega)
theorem zt_le {a b : Nat} (ha : a < 2147483648) (hb : b < 2147483648) : (Int32.ofNat a ≤ Int32.ofNat b) ↔ a ≤ b := by
  rw [Int32.le_iff_toInt_le, zt_ti ha, zt_ti hb]; omega
theorem zt_lt {a b : Nat} (ha : a < 2147483648) (hb : b < 2147483648) : (Int32.ofNat a < Int32.ofNat b) ↔ a < b := by
  rw [Int32.lt_iff_toInt_lt, zt_ti ha, zt_ti hb]; omega
theorem zt_eq {a b : Nat} (ha : a < 2147483648) (hb : b < 2147483648) : (Int32.ofNat a = Int32.ofNat b) ↔ a = b := by
  constructor
  · intro h
    have h1 := congrArg Int32.toInt h
    rw [zt_ti ha, zt_ti hb] at h1
    omega
  · intro h; rw [h]
theorem zt_add (a b : Nat) : Int32.ofNat a + Int32.ofNat b = Int32.ofNat (a + b) := (Int32.ofNat_add a b).symm
theorem zt_mul (a b : Nat) : Int32.ofNat a * Int32.ofNat b = Int32.ofNat (a * b) := (Int32.ofNat_mul a b).symm
theorem zt_succ (a : Nat) : Int32.ofNat a + 1 = Int32.ofNat (a + 1) := zt_add a 1
theorem zt_pred {a : Nat} (h : 0 < a) : Int32.ofNat a - 1 = Int32.ofNat (a - 1) := by
  obtain ⟨b, rfl⟩ : ∃ b, a = b + 1 := ⟨a - 1, by omega⟩
  exact dec_ofNat b
theorem zt_sub {a b : Nat} (h : b ≤ a) : Int32.ofNat a - Int32.ofNat b = Int32.ofNat (a - b) := by
  obtain ⟨d, rfl⟩ : ∃ d, a = d + b := ⟨a - b, by omega⟩
  rw [← zt_add, Nat.add_sub_cancel]
  exact Int32.add_sub_cancel _ _
/-- an int that is no less than 0 is its number -/
theorem zt_nat {x : Int32} (h : 0 ≤ x.toInt) : x = Int32.ofNat x.toInt.toNat := by
  have h1 : x.toInt < 2147483648 := by have := x.toInt_lt; omega
  apply Int32.toInt_inj.mp
  rw [zt_ti (by omega)]
  omega
theorem zt_i0 : (0 : Int32).toInt = 0 := rfl
/-- arithmetic within the range -/
theorem zt_tadd {a b : Int32} (h1 : -2147483648 ≤ a.toInt + b.toInt) (h2 : a.toInt + b.toInt < 2147483648) : (a + b).toInt = a.toInt + b.toInt := by
  rw [Int32.toInt_add]
  rw [Int.bmod_def]
  omega
theorem zt_tsub {a b : Int32} (h1 : -2147483648 ≤ a.toInt - b.toInt) (h2 : a.toInt - b.toInt < 2147483648) : (a - b).toInt = a.toInt - b.toInt := by
  rw [Int32.toInt_sub]
  rw [Int.bmod_def]
  omega
theorem zt_tmul {a b : Int32} (h1 : -2147483648 ≤ a.toInt * b.toInt) (h2 : a.toInt * b.toInt < 2147483648) : (a * b).toInt = a.toInt * b.toInt := by
  rw [Int32.toInt_mul]
  rw [Int.bmod_def]
  omega
theorem zt_ext {a b : Int32} (h : a.toInt = b.toInt) : a = b := Int32.toInt_inj.mp h
theorem zt_ne {a b : Int32} (h : a.toInt ≠ b.toInt) : a ≠ b := fun q => h (by rw [q])
theorem zt_updS (f : Nat → Int32) (k : Nat) (x : Int32) : upd f k x k = x := by simp [upd]
theorem zt_updN {f : Nat → Int32} {k j : Nat} {x : Int32} (h : j ≠ k) : upd f k x j = f j := by simp [upd, h]
/-- sums -/
def zt_sum (f : Nat → Int32) : Nat → Int32
  | 0 => 0
  | n + 1 => zt_sum f n + f n
theorem zt_sum_congr {f g : Nat → Int32} : ∀ {n : Nat}, (∀ i, i < n → f i = g i) → zt_sum f n = zt_sum g n
  | 0, _ => rfl
  | n + 1, h => by
    rw [zt_sum, zt_sum, zt_sum_congr (fun i hi => h i (by omega)), h n (by omega)]
theorem zt_sum_upd {f : Nat → Int32} {k : Nat} {x : Int32} : ∀ {n : Nat}, k < n → zt_sum (upd f k x) n = zt_sum f n + (x - f k)
  | 0, h => absurd h (by omega)
  | n + 1, h => by
    rw [zt_sum, zt_sum]
    by_cases hk : k = n
    · subst hk
      rw [zt_updS, zt_sum_congr (g := f) (fun i hi => zt_updN (by omega)), Int32.add_assoc]
      congr 1
      rw [Int32.add_comm, Int32.sub_add_cancel]
    · rw [zt_sum_upd (by omega), zt_updN (fun q => hk q.symm), Int32.add_assoc, Int32.add_assoc, Int32.add_comm (f n)]
theorem zt_sum_upd' {f : Nat → Int32} {k : Nat} {x : Int32} {n : Nat} (h : n ≤ k) : zt_sum (upd f k x) n = zt_sum f n :=
  zt_sum_congr (fun i hi => zt_updN (by omega))
/-- the sum of numbers within 0 .. b is within 0 .. b n -/
theorem zt_sum_le {f : Nat → Int32} {b : Nat} (hb : b ≤ 1000) : ∀ {n : Nat}, n ≤ 20 → (∀ i, i < n → 0 ≤ (f i).toInt ∧ (f i).toInt ≤ b) → 0 ≤ (zt_sum f n).toInt ∧ (zt_sum f n).toInt ≤ b * n
  | 0, _, _ => by rw [zt_sum, zt_i0]; omega
  | n + 1, hn, h => by
    have h1 := zt_sum_le hb (n := n) (by omega) (fun i hi => h i (by omega))
    have h2 := h n (by omega)
    have h3 : (b : Int) * n ≤ 1000 * 20 := by
      have q1 : b * n ≤ 1000 * 20 := Nat.mul_le_mul hb (by omega)
      have q2 : ((b * n : Nat) : Int) ≤ ((1000 * 20 : Nat) : Int) := Int.ofNat_le.mpr q1
      rw [Int.natCast_mul] at q2
      omega
    have h4 : ((b : Int) * ((n + 1 : Nat) : Int)) = b * n + b := by
      rw [Int.natCast_add, Int.mul_add]; simp
    rw [zt_sum, zt_tadd (by omega) (by omega), h4]
    omega
theorem zt_sum_zero {f : Nat → Int32} : ∀ {n : Nat}, n ≤ 20 → (∀ i, i < n → f i = 0 ∨ f i = 1) → (zt_sum f n = 0 ↔ ∀ i, i < n → f i = 0)
  | 0, _, _ => ⟨fun _ i hi => absurd hi (by omega), fun _ => rfl⟩
  | n + 1, hn, h => by
    have b0 : ∀ i, i < n + 1 → 0 ≤ (f i).toInt ∧ (f i).toInt ≤ (1 : Nat) := fun i hi => by
      rcases h i hi with q | q <;> rw [q] <;> decide
    have h1 := zt_sum_le (b := 1) (by omega) (n := n) (by omega) (fun i hi => b0 i (by omega))
    have h2 := b0 n (by omega)
    have ih := zt_sum_zero (f := f) (n := n) (by omega) (fun i hi => h i (by omega))
    rw [zt_sum]
    constructor
    · intro q i hi
      have q1 := congrArg Int32.toInt q
      rw [zt_tadd (by omega) (by omega), zt_i0] at q1
      by_cases hin : i = n
      · subst hin
        exact zt_ext (by rw [zt_i0]; omega)
      · exact ih.mp (zt_ext (by rw [zt_i0]; omega)) i (by omega)
    · intro q
      rw [ih.mpr (fun i hi => q i (by omega)), q n (by omega)]
      rfl
/-- what small types keep -/
theorem zt_char {x : Int32} (h : 0 ≤ x.toInt ∧ x.toInt ≤ 65535) : vp_nar .char x = x := by
  obtain ⟨n, hn, rfl⟩ : ∃ n : Nat, n < 65536 ∧ x = nI n := ⟨x.toInt.toNat, by omega, zt_nat h.1⟩
  unfold vp_nar
  rw [(pk_charN hn).1]
theorem zt_bool {x : Int32} (h : x = 0 ∨ x = 1) : vp_nar .boolean x = x := by
  rcases h with rfl | rfl <;> rfl
/-- the voices' tests on chars -/
theorem zt_ch {x : Int32} (h : 0 ≤ x.toInt ∧ x.toInt ≤ 65535) : ¬ x < 0 ∧ x ≤ 65535 := by
  rw [Int32.lt_iff_toInt_lt, Int32.le_iff_toInt_le, zt_i0]
  have h1 : (65535 : Int32).toInt = 65535 := rfl
  rw [h1]; omega
