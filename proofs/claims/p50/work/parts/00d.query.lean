/-! THE THEORY, 3: queries -/
theorem zt_div {a b : Nat} (ha : a < 2147483648) (hb : b < 2147483648) : Int32.ofNat a / Int32.ofNat b = Int32.ofNat (a / b) := by
  have h : a / b ≤ a := Nat.div_le_self a b
  apply zt_ext
  rw [Int32.toInt_div, zt_ti ha, zt_ti hb, ← Int.ofNat_tdiv]
  generalize a / b = d at h
  rw [zt_ti (by omega), Int.bmod_def]
  split <;> omega
/-- the reference with thrown set -/
def zTh (m : MdT) (k : Int32) : MdT := (m.1, k, m.2.2.1, m.2.2.2.1, m.2.2.2.2.1, m.2.2.2.2.2.1, m.2.2.2.2.2.2.1, m.2.2.2.2.2.2.2.1, m.2.2.2.2.2.2.2.2.1, m.2.2.2.2.2.2.2.2.2)
theorem zt_10 : ¬ (1 : Int32) = 0 := by decide
theorem zt_nz {w : Nat} (h : 0 < w) (hw : w < 2147483648) : ¬ Int32.ofNat w = 0 := fun p => absurd ((zt_eq (b := 0) hw (by omega)).mp p) (by omega)
theorem zt_np {w : Nat} (h : 0 < w) (hw : w < 2147483648) : ¬ Int32.ofNat w ≤ 0 := fun p => absurd ((zt_le (b := 0) hw (by omega)).mp p) (by omega)
theorem zt_thr0 (m : MdT) (k : Int32) : f_X10_isThrown m 0 k = some (0, zTh m 0) := by
  unfold f_X10_isThrown
  rw [if_pos rfl, if_pos (Or.inl rfl)]
  rfl
theorem zt_thr1 (m : MdT) (k : Int32) : f_X10_isThrown m 1 k = some (1, zTh m k) := by
  unfold f_X10_isThrown
  rw [if_neg (by decide), if_pos (Or.inr rfl)]
  rfl
/-- a query's two answers -/
def zQ (m : MdT) (r : Option (Int32 × (Nat → Int64))) (o : Option (Int32 × MdT)) : Prop := ∃ (k b : Int32) (lo : Nat → Int64), r = some (k, lo) ∧ o = some (b, zTh m k) ∧ (k = 0 → lo 0 = b.toInt64)
theorem zt_lo (lo : Nat → Int64) (x : Int64) : vp_updL lo (0 : Int32).toNatClampNeg x 0 = x := by simp [vp_updL, zt_n0]
theorem zt_vchar {x : Int32} (h : x = 115 ∨ x = 97 ∨ x = 116 ∨ x = 98) : 0 ≤ x.toInt ∧ x.toInt ≤ 65535 := by
  rcases h with rfl | rfl | rfl | rfl <;> decide
theorem zt_mchar {x : Int32} (h : 0 ≤ x.toInt ∧ x.toInt ≤ 65535) : (x.toUInt32 % 65536).toInt32 = x := by
  obtain ⟨n, hn, rfl⟩ : ∃ n : Nat, n < 65536 ∧ x = nI n := ⟨x.toInt.toNat, by omega, zt_nat h.1⟩
  rw [pk_char]
  have e : (nI n).toBitVec.toNat = n % 2 ^ 32 := rfl
  rw [e]
  congr 1
  omega
/-- requireCandle -/
theorem zt_req {z : CcT} {v : StS} {c : CdT} {x : Int32} {n : Nat} (h : zCW n c) : f_X9_requireCandle z v c x = some (if (∀ i, i < n → x ≠ Int32.ofNat i) then Sum.inl 2 else Sum.inr ()) := by
  unfold f_X9_requireCandle
  rw [zt_has h.1 h.2.1, Option.bind_some]
  by_cases q : ∀ i, i < n → x ≠ Int32.ofNat i
  · rw [if_pos q, if_pos q, if_pos rfl]
  · rw [if_neg q, if_neg q, if_neg (by decide)]
theorem zt_reqE {z : CcT} {v : StS} {e : EvT} {x : Int32} {n k : Nat} {T : Int} (h : zEW n k T e) : f_X9_requireEvent z v e x = some (if (∀ i, i < k → x ≠ Int32.ofNat i) then Sum.inl 2 else Sum.inr ()) := by
  unfold f_X9_requireEvent
  rw [zt_hasE h.1 h.2.1, Option.bind_some]
  by_cases q : ∀ i, i < k → x ≠ Int32.ofNat i
  · rw [if_pos q, if_pos q, if_pos rfl]
  · rw [if_neg q, if_neg q, if_neg (by decide)]
section QS
variable {n k : Nat} {T : Int} {v : StS} {c : CdT} {e : EvT} {s : Nat → Int32} {m : MdT} {z : CcT} {lo : Nat → Int64}
theorem zq_voice (x : Int32) (h : zS n k T v c e s) : zQ m (f_L_voice z v c lo x) (f_X10_voice m s x) := by
  obtain ⟨hc, hr, -⟩ := h
  unfold f_L_voice f_X9_voice f_X10_voice
  rw [zt_req hc, zt_isC hr.1 hc.2.1]
  by_cases q : ∀ i, i < n → x ≠ Int32.ofNat i
  · rw [if_pos q, if_pos q]
    simp only [Option.bind_some, Sum.elim_inl, if_true]
    refine ⟨1, 0, lo, rfl, ?_, fun h => absurd h (by decide)⟩
    unfold f_X10_voice_14
    rw [zt_thr1, Option.bind_some, if_neg zt_10]
  · rw [if_neg q, if_neg q]
    obtain ⟨i, q⟩ := Classical.not_forall.mp q
    obtain ⟨hi, q⟩ := Classical.not_imp.mp q
    obtain rfl := Classical.not_not.mp q
    have hcc := zt_vchar (hc.2.2 i hi).1
    have hn := hc.2.1
    simp only [Option.bind_some, Sum.elim_inr, if_neg zt_10]
    rw [zt_gi (by omega) (by omega), zt_cl (by omega), if_pos (zt_ch hcc)]
    simp only [Option.bind_some, Sum.elim_inr]
    rw [zt_g (by decide)]
    refine ⟨0, c.1 i, _, rfl, ?_, fun _ => zt_lo _ _⟩
    unfold f_X10_voice_14
    rw [zt_thr0, Option.bind_some, if_pos rfl, zt_of0 (by omega), Option.bind_some, (hr.2 i hi).1, zt_mchar hcc, if_pos (zt_ch hcc)]
theorem zq_wax (x : Int32) (h : zS n k T v c e s) : zQ m (f_L_wax z v c lo x) (f_X10_wax m s x) := by
  obtain ⟨hc, hr, -⟩ := h
  unfold f_L_wax f_X9_wax f_X10_wax
  rw [zt_req hc, zt_isC hr.1 hc.2.1]
  by_cases q : ∀ i, i < n → x ≠ Int32.ofNat i
  · rw [if_pos q, if_pos q]
    simp only [Option.bind_some, Sum.elim_inl, if_true]
    refine ⟨1, 0, lo, rfl, ?_, fun h => absurd h (by decide)⟩
    unfold f_X10_wax_14
    rw [zt_thr1, Option.bind_some, if_neg zt_10]
  · rw [if_neg q, if_neg q]
    obtain ⟨i, q⟩ := Classical.not_forall.mp q
    obtain ⟨hi, q⟩ := Classical.not_imp.mp q
    obtain rfl := Classical.not_not.mp q
    have hn := hc.2.1
    simp only [Option.bind_some, Sum.elim_inr, if_neg zt_10]
    rw [zt_gi (by omega) (by omega), zt_cl (by omega)]
    simp only [Option.bind_some, Sum.elim_inr]
    rw [zt_g (by decide)]
    refine ⟨0, c.2.1 i, _, rfl, ?_, fun _ => zt_lo _ _⟩
    unfold f_X10_wax_14
    rw [zt_thr0, Option.bind_some, if_pos rfl, zt_of1 (by omega), Option.bind_some, (hr.2 i hi).2.1]
theorem zt_cons {i : Nat} (hi : i < 10) : f_X8_consumptionOf v c (Int32.ofNat i) = some (c.2.2.1 i + v.1) := by
  unfold f_X8_consumptionOf
  rw [zt_gi hi (by omega), zt_cl (by omega)]
theorem zt_burns {i : Nat} (hi : i < n) (hn : n ≤ 10) (hr : zCR n c s) (h1 : s 1 = v.1) : f_X10_burns m s (Int32.ofNat i) = some (c.2.2.1 i + v.1) := by
  unfold f_X10_burns
  rw [zt_of2 (by omega), Option.bind_some, zt_g (by decide), zt_n1, (hr.2 i hi).2.2.1, h1]
theorem zq_consumption (x : Int32) (h : zS n k T v c e s) : zQ m (f_L_consumption z v c lo x) (f_X10_consumption m s x) := by
  obtain ⟨hc, hr, -, -, -, hv⟩ := h
  unfold f_L_consumption f_X9_consumption f_X10_consumption
  rw [zt_req hc, zt_isC hr.1 hc.2.1]
  by_cases q : ∀ i, i < n → x ≠ Int32.ofNat i
  · rw [if_pos q, if_pos q]
    simp only [Option.bind_some, Sum.elim_inl, if_true]
    refine ⟨1, 0, lo, rfl, ?_, fun h => absurd h (by decide)⟩
    unfold f_X10_consumption_14
    rw [zt_thr1, Option.bind_some, if_neg zt_10]
  · rw [if_neg q, if_neg q]
    obtain ⟨i, q⟩ := Classical.not_forall.mp q
    obtain ⟨hi, q⟩ := Classical.not_imp.mp q
    obtain rfl := Classical.not_not.mp q
    have hn := hc.2.1
    simp only [Option.bind_some, Sum.elim_inr, if_neg zt_10]
    rw [zt_cons (by omega)]
    simp only [Option.bind_some, Sum.elim_inr]
    rw [zt_g (by decide)]
    refine ⟨0, c.2.2.1 i + v.1, _, rfl, ?_, fun _ => zt_lo _ _⟩
    unfold f_X10_consumption_14
    rw [zt_thr0, Option.bind_some, if_pos rfl, zt_burns hi hn hr hv.2.1, Option.bind_some]
theorem zq_isLit (x : Int32) (h : zS n k T v c e s) : zQ m (f_L_isLit z v c lo x) (f_X10_isLit m s x) := by
  obtain ⟨hc, hr, -⟩ := h
  unfold f_L_isLit f_X9_isLit f_X10_isLit
  rw [zt_req hc, zt_isC hr.1 hc.2.1]
  by_cases q : ∀ i, i < n → x ≠ Int32.ofNat i
  · rw [if_pos q, if_pos q]
    simp only [Option.bind_some, Sum.elim_inl, if_true]
    refine ⟨1, 0, lo, rfl, ?_, fun h => absurd h (by decide)⟩
    unfold f_X10_isLit_14
    rw [zt_thr1, Option.bind_some, if_neg zt_10]
  · rw [if_neg q, if_neg q]
    obtain ⟨i, q⟩ := Classical.not_forall.mp q
    obtain ⟨hi, q⟩ := Classical.not_imp.mp q
    obtain rfl := Classical.not_not.mp q
    have hn := hc.2.1
    have hl := (hc.2.2 i hi).2.2.2.imp_right And.left
    simp only [Option.bind_some, Sum.elim_inr, if_neg zt_10]
    rw [zt_gi (by omega) (by omega), zt_cl (by omega), if_pos hl]
    simp only [Option.bind_some, Sum.elim_inr]
    unfold f_X10_isLit_14
    rw [zt_thr0, Option.bind_some, if_pos rfl, zt_of3 (by omega), Option.bind_some, (hr.2 i hi).2.2.2]
    rcases hl with hl | hl
    · rw [hl, if_pos rfl, zt_g (by decide), if_neg (by decide)]
      exact ⟨0, 0, _, rfl, rfl, fun _ => zt_lo _ _⟩
    · rw [hl, if_neg (by decide), zt_g (by decide), if_pos rfl]
      exact ⟨0, 1, _, rfl, rfl, fun _ => zt_lo _ _⟩
/-- minutes by division and by burning -/
theorem zt_ceil {w q : Nat} (hq : 1 ≤ q) (hw : 1 ≤ w) : (w + q - 1) / q = (w - min w q + q - 1) / q + 1 := by
  by_cases h : w ≤ q
  · rw [Nat.min_eq_left h, Nat.sub_self, show w + q - 1 = (w - 1) + q by omega, Nat.add_div_right _ (by omega), Nat.div_eq_of_lt (show w - 1 < q by omega), Nat.div_eq_of_lt (show 0 + q - 1 < q by omega)]
  · rw [Nat.min_eq_right (by omega), show w - q + q - 1 = w - 1 by omega, show w + q - 1 = (w - 1) + q by omega, Nat.add_div_right _ (by omega)]
theorem zt_jmin {a b : Nat} (ha : a < 2147483648) (hb : b < 2147483648) : jmin (Int32.ofNat a) (Int32.ofNat b) = Int32.ofNat (min a b) := by
  unfold jmin
  by_cases h : b < a
  · rw [if_pos ((zt_lt hb ha).mpr h), Nat.min_eq_right (by omega)]
  · rw [if_neg (fun q => h ((zt_lt hb ha).mp q)), Nat.min_eq_left (by omega)]
theorem zt_burning {i q : Nat} (hi : i < 10) (hq : c.2.2.1 i + v.1 = Int32.ofNat q) (h1 : 1 ≤ q) (h2 : q ≤ 1000) : ∀ (r F w a : Nat), w ≤ r → r < F → w ≤ 1000 → a + r ≤ 5000 → f_X8_minutesOfBurning_12 F v c (Int32.ofNat i) (Int32.ofNat w) (Int32.ofNat a) = some (Int32.ofNat (a + (w + q - 1) / q))
  | _, 0, _, _, _, hF, _, _ => absurd hF (by omega)
  | r, F + 1, w, a, hw, hF, hb, ha => by
    rw [f_X8_minutesOfBurning_12]
    by_cases h0 : w = 0
    · subst h0
      rw [if_pos (by decide), Nat.div_eq_of_lt (by omega), Nat.add_zero]
    · rw [if_neg (zt_np (by omega) (by omega)), if_neg (show ¬ (1000000 : Int32) ≤ Int32.ofNat a from fun p => absurd ((zt_le (a := 1000000) (by omega) (by omega)).mp p) (by omega)), zt_cons hi, Option.bind_some, hq, zt_jmin (by omega) (by omega), zt_sub (Nat.min_le_left _ _), zt_succ, zt_burning hi hq h1 h2 (r - 1) F (w - min w q) (a + 1) (by omega) (by omega) (by omega) (by omega), zt_ceil (w := w) h1 (by omega)]
      congr 2
      omega
theorem zt_q {i : Nat} (hi : i < n) (hc : zCW n c) (hv : zVW T v) : ∃ q w : Nat, c.2.2.1 i + v.1 = Int32.ofNat q ∧ 1 ≤ q ∧ q ≤ 12 ∧ c.2.1 i = Int32.ofNat w ∧ w ≤ 999 := by
  have h1 := hc.2.2 i hi
  have h2 := hv.2.2.1
  have h3 : (c.2.2.1 i + v.1).toInt = (c.2.2.1 i).toInt + v.1.toInt := zt_tadd (by omega) (by omega)
  exact ⟨(c.2.2.1 i + v.1).toInt.toNat, (c.2.1 i).toInt.toNat, zt_nat (by omega), by omega, by omega, zt_nat (by omega), by omega⟩
theorem zt_mLeft {i : Nat} (hi : i < n) (hc : zCW n c) (hv : zVW T v) : ∃ q w : Nat, c.2.2.1 i + v.1 = Int32.ofNat q ∧ 1 ≤ q ∧ q ≤ 12 ∧ c.2.1 i = Int32.ofNat w ∧ w ≤ 999 ∧ f_X8_minutesLeftOf v c (Int32.ofNat i) = some (Int32.ofNat ((w + q - 1) / q)) ∧ f_X8_minutesOfBurning v c (Int32.ofNat i) = some (Int32.ofNat ((w + q - 1) / q)) := by
  obtain ⟨q, w, e1, h1, h2, e2, h3⟩ := zt_q hi hc hv
  have hn := hc.2.1
  refine ⟨q, w, e1, h1, h2, e2, h3, ?_, ?_⟩
  · unfold f_X8_minutesLeftOf
    rw [zt_cons (by omega), Option.bind_some, e1, if_pos (show (1 : Int32) ≤ Int32.ofNat q from (zt_le (a := 1) (by omega) (by omega)).mpr h1), zt_gi (by omega) (by omega), zt_cl (by omega), if_neg (zt_nz (by omega) (by omega)), e2, zt_add, zt_pred (by omega), zt_div (by omega) (by omega)]
  · unfold f_X8_minutesOfBurning
    rw [zt_gi (by omega) (by omega), zt_cl (by omega), e2]
    have h := zt_burning (v := v) (c := c) (i := i) (by omega) e1 h1 (by omega) 1000 xFuel w 0 (by omega) (by unfold xFuel; omega) (by omega) (by omega)
    rw [Nat.zero_add] at h
    exact h
theorem zt_mLeftM {i q w : Nat} (hi : i < n) (hn : n ≤ 10) (hr : zCR n c s) (hv : s 1 = v.1) (e1 : c.2.2.1 i + v.1 = Int32.ofNat q) (h1 : 1 ≤ q) (h2 : q ≤ 12) (e2 : c.2.1 i = Int32.ofNat w) (h3 : w ≤ 999) : f_X10_minutesLeft_14 m s (Int32.ofNat i) 0 = some (Int32.ofNat ((w + q - 1) / q), zTh m 0) := by
  unfold f_X10_minutesLeft_14
  rw [zt_thr0, Option.bind_some, if_pos rfl, zt_of1 (by omega), Option.bind_some, zt_burns hi hn hr hv, Option.bind_some, Option.bind_some, (hr.2 i hi).2.1, e1, if_neg (zt_nz (by omega) (by omega)), e2, zt_add, zt_pred (by omega), zt_div (by omega) (by omega)]
theorem zq_minutesLeft (x : Int32) (h : zS n k T v c e s) : zQ m (f_L_minutesLeft z v c lo x) (f_X10_minutesLeft m s x) := by
  obtain ⟨hc, hr, -, -, hw, hv⟩ := h
  unfold f_L_minutesLeft f_X9_minutesLeft f_X10_minutesLeft
  rw [zt_req hc, zt_isC hr.1 hc.2.1]
  by_cases q : ∀ i, i < n → x ≠ Int32.ofNat i
  · rw [if_pos q, if_pos q]
    simp only [Option.bind_some, Sum.elim_inl, if_true]
    refine ⟨1, 0, lo, rfl, ?_, fun h => absurd h (by decide)⟩
    unfold f_X10_minutesLeft_14
    rw [zt_thr1, Option.bind_some, if_neg zt_10]
  · rw [if_neg q, if_neg q]
    obtain ⟨i, q⟩ := Classical.not_forall.mp q
    obtain ⟨hi, q⟩ := Classical.not_imp.mp q
    obtain rfl := Classical.not_not.mp q
    obtain ⟨q, w, e1, h1, h2, e2, h3, e4, e5⟩ := zt_mLeft hi hc hw
    simp only [Option.bind_some, Sum.elim_inr, if_neg zt_10]
    rw [e4]
    simp only [Option.bind_some, Sum.elim_inr]
    rw [zt_g (by decide)]
    exact ⟨0, Int32.ofNat ((w + q - 1) / q), _, rfl, zt_mLeftM hi hc.2.1 hr hv.2.1 e1 h1 h2 e2 h3, fun _ => zt_lo _ _⟩
theorem zq_minutesLeftByBurning (x : Int32) (h : zS n k T v c e s) : zQ m (f_L_minutesLeftByBurning z v c lo x) (f_X10_minutesLeftByBurning m s x) := by
  obtain ⟨hc, hr, -, -, hw, hv⟩ := h
  unfold f_L_minutesLeftByBurning f_X9_minutesLeftByBurning f_X10_minutesLeftByBurning f_X10_minutesLeft
  rw [zt_req hc, zt_isC hr.1 hc.2.1]
  by_cases q : ∀ i, i < n → x ≠ Int32.ofNat i
  · rw [if_pos q, if_pos q]
    simp only [Option.bind_some, Sum.elim_inl, if_true]
    refine ⟨1, 0, lo, rfl, ?_, fun h => absurd h (by decide)⟩
    unfold f_X10_minutesLeft_14
    rw [zt_thr1, Option.bind_some, if_neg zt_10, Option.bind_some]
  · rw [if_neg q, if_neg q]
    obtain ⟨i, q⟩ := Classical.not_forall.mp q
    obtain ⟨hi, q⟩ := Classical.not_imp.mp q
    obtain rfl := Classical.not_not.mp q
    obtain ⟨q, w, e1, h1, h2, e2, h3, e4, e5⟩ := zt_mLeft hi hc hw
    simp only [Option.bind_some, Sum.elim_inr, if_neg zt_10]
    rw [e5]
    simp only [Option.bind_some, Sum.elim_inr]
    rw [zt_g (by decide), zt_mLeftM hi hc.2.1 hr hv.2.1 e1 h1 h2 e2 h3]
    exact ⟨0, Int32.ofNat ((w + q - 1) / q), _, rfl, rfl, fun _ => zt_lo _ _⟩
theorem zq_eventMinute (x : Int32) (h : zS n k T v c e s) : zQ m (f_L_eventMinute z v e lo x) (f_X10_eventMinute m s x) := by
  obtain ⟨-, -, hc, hr, -⟩ := h
  unfold f_L_eventMinute f_X9_eventMinute f_X10_eventMinute
  rw [zt_reqE hc, zt_isE hr.1 hc.2.1]
  by_cases q : ∀ i, i < k → x ≠ Int32.ofNat i
  · rw [if_pos q, if_pos q]
    simp only [Option.bind_some, Sum.elim_inl, if_true]
    refine ⟨1, 0, lo, rfl, ?_, fun h => absurd h (by decide)⟩
    unfold f_X10_eventMinute_14
    rw [zt_thr1, Option.bind_some, if_neg zt_10]
  · rw [if_neg q, if_neg q]
    obtain ⟨i, q⟩ := Classical.not_forall.mp q
    obtain ⟨hi, q⟩ := Classical.not_imp.mp q
    obtain rfl := Classical.not_not.mp q
    have hn := hc.2.1
    simp only [Option.bind_some, Sum.elim_inr, if_neg zt_10]
    rw [zt_gi (by omega) (by omega), zt_cl (by omega)]
    simp only [Option.bind_some, Sum.elim_inr]
    rw [zt_g (by decide)]
    refine ⟨0, e.1 i, _, rfl, ?_, fun _ => zt_lo _ _⟩
    unfold f_X10_eventMinute_14
    rw [zt_thr0, Option.bind_some, if_pos rfl, zt_oe0 (by omega), Option.bind_some, (hr.2 i hi).1]
theorem zq_eventCandle (x : Int32) (h : zS n k T v c e s) : zQ m (f_L_eventCandle z v e lo x) (f_X10_eventCandle m s x) := by
  obtain ⟨-, -, hc, hr, -⟩ := h
  unfold f_L_eventCandle f_X9_eventCandle f_X10_eventCandle
  rw [zt_reqE hc, zt_isE hr.1 hc.2.1]
  by_cases q : ∀ i, i < k → x ≠ Int32.ofNat i
  · rw [if_pos q, if_pos q]
    simp only [Option.bind_some, Sum.elim_inl, if_true]
    refine ⟨1, 0, lo, rfl, ?_, fun h => absurd h (by decide)⟩
    unfold f_X10_eventCandle_14
    rw [zt_thr1, Option.bind_some, if_neg zt_10]
  · rw [if_neg q, if_neg q]
    obtain ⟨i, q⟩ := Classical.not_forall.mp q
    obtain ⟨hi, q⟩ := Classical.not_imp.mp q
    obtain rfl := Classical.not_not.mp q
    have hn := hc.2.1
    simp only [Option.bind_some, Sum.elim_inr, if_neg zt_10]
    rw [zt_gi (by omega) (by omega), zt_cl (by omega)]
    simp only [Option.bind_some, Sum.elim_inr]
    rw [zt_g (by decide)]
    refine ⟨0, e.2.1 i, _, rfl, ?_, fun _ => zt_lo _ _⟩
    unfold f_X10_eventCandle_14
    rw [zt_thr0, Option.bind_some, if_pos rfl, zt_oe1 (by omega), Option.bind_some, (hr.2 i hi).2.1]
theorem zq_isLighting (x : Int32) (h : zS n k T v c e s) : zQ m (f_L_isLighting z v e lo x) (f_X10_isLighting m s x) := by
  obtain ⟨-, -, hc, hr, -⟩ := h
  unfold f_L_isLighting f_X9_isLighting f_X10_isLighting
  rw [zt_reqE hc, zt_isE hr.1 hc.2.1]
  by_cases q : ∀ i, i < k → x ≠ Int32.ofNat i
  · rw [if_pos q, if_pos q]
    simp only [Option.bind_some, Sum.elim_inl, if_true]
    refine ⟨1, 0, lo, rfl, ?_, fun h => absurd h (by decide)⟩
    unfold f_X10_isLighting_14
    rw [zt_thr1, Option.bind_some, if_neg zt_10]
  · rw [if_neg q, if_neg q]
    obtain ⟨i, q⟩ := Classical.not_forall.mp q
    obtain ⟨hi, q⟩ := Classical.not_imp.mp q
    obtain rfl := Classical.not_not.mp q
    have hn := hc.2.1
    have hl := (hc.2.2.1 i hi).2.1
    simp only [Option.bind_some, Sum.elim_inr, if_neg zt_10]
    rw [zt_gi (by omega) (by omega), zt_cl (by omega), if_pos hl]
    simp only [Option.bind_some, Sum.elim_inr]
    unfold f_X10_isLighting_14
    rw [zt_thr0, Option.bind_some, if_pos rfl, zt_oe2 (by omega), Option.bind_some, (hr.2 i hi).2.2]
    rcases hl with hl | hl
    · rw [hl, if_pos rfl, zt_g (by decide), if_neg (by decide)]
      exact ⟨0, 0, _, rfl, rfl, fun _ => zt_lo _ _⟩
    · rw [hl, if_neg (by decide), zt_g (by decide), if_pos rfl]
      exact ⟨0, 1, _, rfl, rfl, fun _ => zt_lo _ _⟩
end QS
