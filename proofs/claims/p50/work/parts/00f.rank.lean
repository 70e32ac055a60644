/-! THE THEORY, 5: ranks -/
/-- how many below n have p -/
def zt_cnt (p : Nat → Bool) : Nat → Nat
  | 0 => 0
  | n + 1 => zt_cnt p n + if p n then 1 else 0
theorem zt_cnt_le (p : Nat → Bool) : ∀ n, zt_cnt p n ≤ n
  | 0 => Nat.le_refl _
  | n + 1 => by
    rw [zt_cnt]
    have := zt_cnt_le p n
    split <;> omega
theorem zt_cnt_mono {p q : Nat → Bool} : ∀ {n : Nat}, (∀ i, i < n → p i = true → q i = true) → zt_cnt p n ≤ zt_cnt q n
  | 0, _ => Nat.le_refl _
  | n + 1, h => by
    rw [zt_cnt, zt_cnt]
    have h1 := zt_cnt_mono (n := n) (fun i hi => h i (by omega))
    have h2 := h n (by omega)
    by_cases hp : p n = true
    · rw [if_pos hp, if_pos (h2 hp)]; omega
    · rw [if_neg hp]; omega
theorem zt_cnt_lt {p q : Nat → Bool} : ∀ {n i : Nat}, i < n → p i = false → q i = true → (∀ i, i < n → p i = true → q i = true) → zt_cnt p n < zt_cnt q n
  | 0, i, hi, _, _, _ => absurd hi (by omega)
  | n + 1, i, hi, hp, hq, h => by
    rw [zt_cnt, zt_cnt]
    by_cases hin : i = n
    · subst hin
      have h1 := zt_cnt_mono (n := i) (fun j hj => h j (by omega))
      rw [hp, hq, if_neg (by decide), if_pos rfl]
      omega
    · have h1 := zt_cnt_lt (n := n) (i := i) (by omega) hp hq (fun j hj => h j (by omega))
      have h2 := h n (by omega)
      by_cases hpn : p n = true
      · rw [if_pos hpn, if_pos (h2 hpn)]; omega
      · rw [if_neg hpn]; omega
theorem zt_cnt_none {p : Nat → Bool} {n : Nat} (h : ∀ i, i < n → p i = false) : zt_cnt p n = 0 := by
  induction n with
  | zero => rfl
  | succ n ih => rw [zt_cnt, ih (fun i hi => h i (by omega)), h n (by omega)]; rfl
/-- in a strict order each rank is taken -/
theorem zt_ranks (b : Nat → Nat → Bool) (irr : ∀ i, b i i = false) (tr : ∀ i j k, b i j = true → b j k = true → b i k = true) (tot : ∀ i j, i ≠ j → b i j = true ∨ b j i = true) : ∀ n r : Nat, r < n → ∃ i, i < n ∧ zt_cnt (fun j => b j i) n = r
  | 0, r, h => absurd h (by omega)
  | n + 1, r, h => by
    have as : ∀ i j, b i j = true → b j i = false := fun i j q => by
      cases hq : b j i with
      | false => rfl
      | true => have := tr i j i q hq; rw [irr] at this; cases this
    have hρ := zt_cnt_le (fun j => b j n) n
    have en : zt_cnt (fun j => b j n) (n + 1) = zt_cnt (fun j => b j n) n := by rw [zt_cnt, irr]; rfl
    rcases Nat.lt_trichotomy r (zt_cnt (fun j => b j n) n) with h1 | h1 | h1
    · obtain ⟨i, hi, hr⟩ := zt_ranks b irr tr tot n r (by omega)
      refine ⟨i, by omega, ?_⟩
      rw [zt_cnt, hr]
      cases hb : b n i with
      | false => rfl
      | true =>
        have := zt_cnt_mono (n := n) (p := fun j => b j n) (q := fun j => b j i) (fun j _ q => tr j n i q hb)
        omega
    · exact ⟨n, by omega, by rw [en]; omega⟩
    · obtain ⟨i, hi, hr⟩ := zt_ranks b irr tr tot n (r - 1) (by omega)
      refine ⟨i, by omega, ?_⟩
      rw [zt_cnt, hr]
      cases hb : b n i with
      | true => simp only [if_true]; omega
      | false =>
        have h2 : b i n = true := (tot i n (by omega)).resolve_right (by rw [hb]; decide)
        have := zt_cnt_lt (n := n) (p := fun j => b j i) (q := fun j => b j n) hi (irr i) h2 (fun j _ q => tr j i n q h2)
        omega
theorem zt_rank_lt (b : Nat → Nat → Bool) (irr : ∀ i, b i i = false) {n i : Nat} (hi : i < n) : zt_cnt (fun j => b j i) n < n := by
  have h := zt_cnt_lt (n := n) (p := fun j => b j i) (q := fun _ => true) hi (irr i) rfl (fun _ _ _ => rfl)
  have := zt_cnt_le (fun _ => true) n
  omega
/-- j stands ahead of i -/
def zBt (c : CdT) (j i : Nat) : Bool := decide ((c.2.1 i).toInt < (c.2.1 j).toInt) || (decide ((c.2.1 j).toInt = (c.2.1 i).toInt) && decide (j < i))
theorem zBt_irr (c : CdT) (i : Nat) : zBt c i i = false := by simp [zBt]
theorem zBt_tr (c : CdT) (i j k : Nat) (h1 : zBt c i j = true) (h2 : zBt c j k = true) : zBt c i k = true := by
  simp only [zBt, Bool.or_eq_true, Bool.and_eq_true, decide_eq_true_eq] at *
  omega
theorem zBt_tot (c : CdT) (i j : Nat) (h : i ≠ j) : zBt c i j = true ∨ zBt c j i = true := by
  simp only [zBt, Bool.or_eq_true, Bool.and_eq_true, decide_eq_true_eq] at *
  omega
section RK
variable {n k : Nat} {T : Int} {v : StS} {c : CdT} {e : EvT} {s : Nat → Int32} {m : MdT} {z : CcT} {lo : Nat → Int64}
theorem zt_rankOf_4 {p : Nat} (hp : p < n) (hc : zCW n c) : ∀ (r F i : Nat), i + r = n → r < F → f_X1_rankOf_4 F c (Int32.ofNat p) (Int32.ofNat (zt_cnt (fun j => zBt c j p) i)) (Int32.ofNat i) = some (Int32.ofNat (zt_cnt (fun j => zBt c j p) n))
  | 0, F + 1, i, h, _ => by
    have : i = n := by omega
    have hn := hc.2.1
    subst this
    rw [f_X1_rankOf_4, hc.1, if_pos ((zt_le (by omega) (by omega)).mpr (Nat.le_refl _))]
  | r + 1, F + 1, i, h, hF => by
    have hn := hc.2.1
    have ih := zt_rankOf_4 hp hc r F (i + 1) (by omega) (by omega)
    rw [zt_cnt] at ih
    rw [f_X1_rankOf_4, hc.1, if_neg (fun q => absurd ((zt_le (by omega) (by omega)).mp q) (by omega)), zt_gi (by omega) (by omega), zt_gi (by omega) (by omega), zt_cl (by omega), zt_cl (by omega), zt_succ, zt_gj (by omega) (by omega), zt_gj (by omega) (by omega), zt_succ]
    rw [← ih]
    by_cases h1 : (c.2.1 p).toInt < (c.2.1 i).toInt
    · rw [if_pos (Int32.lt_iff_toInt_lt.mpr h1), if_pos (by simp [zBt, h1])]
    · rw [if_neg (fun q => h1 (Int32.lt_iff_toInt_lt.mp q))]
      by_cases h2 : c.2.1 i = c.2.1 p
      · rw [if_pos h2]
        by_cases h3 : p ≤ i
        · rw [if_pos ((zt_le (by omega) (by omega)).mpr h3), if_neg (by simp [zBt, h1, h3])]
          rfl
        · rw [if_neg (fun q => h3 ((zt_le (by omega) (by omega)).mp q)), if_pos (by simp [zBt, h2]; omega)]
      · have hz : ¬ zBt c i p = true := by
          simp only [zBt, Bool.or_eq_true, Bool.and_eq_true, decide_eq_true_eq]
          rintro (q | q)
          · exact h1 q
          · exact h2 (zt_ext q.1)
        rw [if_neg h2, if_neg hz]
        rfl
theorem zt_rankOf {p : Nat} (hp : p < n) (hc : zCW n c) : f_X1_rankOf c (Int32.ofNat p) = some (Int32.ofNat (zt_cnt (fun j => zBt c j p) n)) :=
  zt_rankOf_4 hp hc n xFuel 0 (by omega) (by have := hc.2.1; unfold xFuel; omega)
theorem zt_cbw_17 {p : Nat} {x : Int32} (hp : p < n) (hc : zCW n c) (hr : zCR n c s) : ∀ (r F i : Nat), i + r = n → r < F → f_X10_candleByWax_17 F m s x (Int32.ofNat p) (Int32.ofNat (zt_cnt (fun j => zBt c j p) i)) (Int32.ofNat i) = some (m, Int32.ofNat (zt_cnt (fun j => zBt c j p) n))
  | 0, F + 1, i, h, _ => by
    have : i = n := by omega
    have hn := hc.2.1
    subst this
    rw [f_X10_candleByWax_17, zt_g (by decide), zt_n3, hr.1, if_pos ((zt_le (by omega) (by omega)).mpr (Nat.le_refl _))]
  | r + 1, F + 1, i, h, hF => by
    have hn := hc.2.1
    have ih := zt_cbw_17 (x := x) hp hc hr r F (i + 1) (by omega) (by omega)
    rw [zt_cnt] at ih
    rw [f_X10_candleByWax_17, zt_g (by decide), zt_n3, hr.1, if_neg (fun q => absurd ((zt_le (by omega) (by omega)).mp q) (by omega)), zt_of1 (by omega), zt_of1 (by omega), Option.bind_some, Option.bind_some, (hr.2 i (by omega)).2.1, (hr.2 p hp).2.1, zt_succ, zt_succ]
    have w1 := (hc.2.2 i (by omega)).2.1
    have w2 := (hc.2.2 p hp).2.1
    have e0 : (c.2.1 i - c.2.1 p).toInt = (c.2.1 i).toInt - (c.2.1 p).toInt := zt_tsub (by omega) (by omega)
    rw [Int32.add_zero, ← ih]
    by_cases h1 : (c.2.1 p).toInt < (c.2.1 i).toInt
    · rw [if_pos (Int32.lt_iff_toInt_lt.mpr (by rw [e0, zt_i0]; omega)), if_pos (by simp [zBt, h1])]
    · rw [if_neg (fun q => h1 (by have := Int32.lt_iff_toInt_lt.mp q; rw [e0, zt_i0] at this; omega))]
      by_cases h2 : c.2.1 i = c.2.1 p
      · rw [if_pos (by rw [h2, Int32.sub_self])]
        by_cases h3 : p ≤ i
        · rw [if_pos ((zt_le (by omega) (by omega)).mpr h3), if_neg (by simp [zBt, h1, h3])]
          rfl
        · rw [if_neg (fun q => h3 ((zt_le (by omega) (by omega)).mp q)), if_pos (by simp [zBt, h2]; omega)]
      · have hz : ¬ zBt c i p = true := by
          simp only [zBt, Bool.or_eq_true, Bool.and_eq_true, decide_eq_true_eq]
          rintro (q | q)
          · exact h1 q
          · exact h2 (zt_ext q.1)
        have hd : ¬ c.2.1 i - c.2.1 p = 0 := by
          intro q
          have := congrArg Int32.toInt q
          rw [e0, zt_i0] at this
          exact h2 (zt_ext (by omega))
        rw [if_neg hd, if_neg hz]
        rfl
/-- the search: class and reference find the same -/
theorem zt_rk (x : Int32) (hc : zCW n c) (hr : zCR n c s) : ∀ (r F G i : Nat), i + r = n → r < F → r < G → (∃ j, i ≤ j ∧ j < n ∧ x = Int32.ofNat (zt_cnt (fun j' => zBt c j' j) n)) → ∃ b, f_X1_atRank_2 F c x (Int32.ofNat i) = some b ∧ f_X10_candleByWax_2 G m s x (Int32.ofNat i) = some (b, zTh m 0)
  | 0, _, _, i, h, _, _, ⟨j, h1, h2, _⟩ => absurd h2 (by omega)
  | r + 1, F + 1, G + 1, i, h, hF, hG, ⟨j, h1, h2, h3⟩ => by
    have hn := hc.2.1
    rw [f_X1_atRank_2, hc.1, if_neg (fun q => absurd ((zt_le (by omega) (by omega)).mp q) (by omega)), zt_rankOf (by omega) hc, Option.bind_some, f_X10_candleByWax_2, zt_g (by decide), zt_n3, hr.1, if_neg (fun q => absurd ((zt_le (by omega) (by omega)).mp q) (by omega))]
    have e : f_X10_candleByWax_17 xFuel m s x (Int32.ofNat i) 0 0 = _ := zt_cbw_17 (m := m) (x := x) (p := i) (by omega) hc hr n xFuel 0 (by omega) (by unfold xFuel; omega)
    rw [e, Option.bind_some]
    by_cases q : Int32.ofNat (zt_cnt (fun j' => zBt c j' i) n) = x
    · rw [if_pos q, if_pos q]
      exact ⟨_, rfl, rfl⟩
    · rw [if_neg q, if_neg q, zt_succ]
      refine zt_rk x hc hr r F G (i + 1) (by omega) (by omega) (by omega) ⟨j, ?_, h2, h3⟩
      by_cases hij : i = j
      · subst hij; exact absurd h3.symm q
      · omega
theorem zt_rkN (x : Int32) (hc : zCW n c) (hr : zCR n c s) (hx : ∀ j, j < n → x ≠ Int32.ofNat (zt_cnt (fun j' => zBt c j' j) n)) : ∀ (r G i : Nat), i + r = n → r < G → f_X10_candleByWax_2 G m s x (Int32.ofNat i) = some (0, zTh m 1)
  | 0, G + 1, i, h, hG => by
    have : i = n := by omega
    have hn := hc.2.1
    subst this
    rw [f_X10_candleByWax_2, zt_g (by decide), zt_n3, hr.1, if_pos ((zt_le (by omega) (by omega)).mpr (Nat.le_refl _))]
    rfl
  | r + 1, G + 1, i, h, hG => by
    have hn := hc.2.1
    rw [f_X10_candleByWax_2, zt_g (by decide), zt_n3, hr.1, if_neg (fun q => absurd ((zt_le (by omega) (by omega)).mp q) (by omega))]
    have e : f_X10_candleByWax_17 xFuel m s x (Int32.ofNat i) 0 0 = _ := zt_cbw_17 (m := m) (x := x) (p := i) (by omega) hc hr n xFuel 0 (by omega) (by unfold xFuel; omega)
    rw [e, Option.bind_some, if_neg (fun q => hx i (by omega) q.symm), zt_succ]
    exact zt_rkN x hc hr hx r G (i + 1) (by omega) (by omega)
theorem zq_candleByWax (x : Int32) (h : zS n k T v c e s) : zQ m (f_L_candleByWax z v c lo x) (f_X10_candleByWax m s x) := by
  obtain ⟨hc, hr, -⟩ := h
  have hn := hc.2.1
  unfold f_L_candleByWax f_X9_candleByWax f_X10_candleByWax
  rw [zt_has hc.1 hc.2.1, Option.bind_some]
  by_cases q : ∀ i, i < n → x ≠ Int32.ofNat i
  · rw [if_pos q, if_pos rfl]
    simp only [Option.bind_some, Sum.elim_inl, if_true]
    refine ⟨1, 0, lo, rfl, ?_, fun h => absurd h (by decide)⟩
    exact zt_rkN x hc hr (fun j hj => q _ (zt_rank_lt (zBt c) (zBt_irr c) hj)) n xFuel 0 (by omega) (by unfold xFuel; omega)
  · rw [if_neg q, if_neg zt_10]
    obtain ⟨i, q⟩ := Classical.not_forall.mp q
    obtain ⟨hi, q⟩ := Classical.not_imp.mp q
    obtain rfl := Classical.not_not.mp q
    obtain ⟨j, hj, hr2⟩ := zt_ranks (zBt c) (zBt_irr c) (zBt_tr c) (zBt_tot c) n i hi
    obtain ⟨b, h1, h2⟩ := zt_rk (m := m) (Int32.ofNat i) hc hr n xFuel xFuel 0 (by omega) (by unfold xFuel; omega) (by unfold xFuel; omega) ⟨j, by omega, hj, by rw [hr2]⟩
    unfold f_X1_atRank
    rw [show (0 : Int32) = Int32.ofNat 0 from rfl, h1, h2]
    simp only [Option.bind_some, Sum.elim_inr]
    rw [if_neg (by decide)]
    exact ⟨0, b, _, rfl, rfl, fun _ => zt_lo _ _⟩
end RK
