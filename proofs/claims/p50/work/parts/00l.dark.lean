/-! THE THEORY, 11: darkness, and copies -/
def zpDark (n : Nat) (p : zPS) : Prop := p.2.1 = 0 ∧ ∀ i, i < n → p.2.2.2.1 i = false
/-- dark after N minutes, not earlier -/
def zpDk (n : Nat) (q : Nat → Int) : Nat → zPS → Prop
  | 0, p => zpDark n p
  | N + 1, p => ¬ zpDark n p ∧ zpDk n q N (zpStep q p)
theorem zpDue_em (T : Int) (w : Nat → Int) : ∀ (k : Nat) (l : Nat → Bool) (em : Nat → Int) (ec : Nat → Nat) (el : Nat → Bool), ∃ d, d + (zpDue T w k l em ec el).1 = k ∧ ∀ j, (zpDue T w k l em ec el).2.2.1 j = em (j + d)
  | 0, l, em, ec, el => ⟨0, rfl, fun j => rfl⟩
  | k + 1, l, em, ec, el => by
    rw [zpDue]
    by_cases h : em 0 = T
    · rw [if_pos h]
      obtain ⟨d, h1, h2⟩ := zpDue_em T w k (zpCar w l (ec 0) (el 0)) (fun j => em (j + 1)) (fun j => ec (j + 1)) (fun j => el (j + 1))
      exact ⟨d + 1, by omega, fun j => by rw [h2]; congr 1⟩
    · rw [if_neg h]
      exact ⟨0, by omega, fun j => rfl⟩
theorem zpDue_not (T : Int) (w : Nat → Int) (k : Nat) (l : Nat → Bool) (em : Nat → Int) (ec : Nat → Nat) (el : Nat → Bool) (h : 0 < k → em 0 ≠ T) : zpDue T w k l em ec el = (k, l, em, ec, el) := by
  cases k with
  | zero => rfl
  | succ k => rw [zpDue, if_neg (h (by omega))]
section DK
variable {n k : Nat} {T : Int} {v : StS} {c : CdT} {e : EvT} {s : Nat → Int32}
theorem zt_pk {p : zPS} (h : zS n k T v c e s) (hp : zPR n p v c e) : p.2.1 = k :=
  (zt_eq (by have := hp.2.2.1; omega) (by have := h.2.2.1.2.1; omega)).mp (hp.2.1.symm.trans h.2.2.1.1)
theorem zt_darkP {p : zPS} (h : zS n k T v c e s) (hp : zPR n p v c e) : zpDark n p ↔ k = 0 ∧ ∀ i, i < n → c.2.2.2.1 i = 0 := by
  unfold zpDark
  rw [zt_pk h hp]
  refine and_congr_right (fun _ => forall_congr' fun i => forall_congr' fun hi => ?_)
  have := (hp.2.2.2.1 i hi).2
  cases hl : p.2.2.2.1 i with
  | false => 
    rw [hl] at this
    exact ⟨fun _ => Classical.not_not.mp (fun q => by have := this.mpr q; cases this), fun _ => rfl⟩
  | true =>
    rw [hl] at this
    exact ⟨fun q => (by cases q), fun q => absurd q (this.mp rfl)⟩
/-- what is dark when doesn't hang on the picture -/
theorem zt_dk_congr : ∀ (N k : Nat) (T : Int) (v : StS) (c : CdT) (e : EvT) (s : Nat → Int32) (p p' : zPS) (q : Nat → Int), zS n k T v c e s → T + N < 2147480000 → q = zpQ v c → zPR n p v c e → zPR n p' v c e → zpDk n q N p → zpDk n q N p'
  | 0, k, T, v, c, e, s, p, p', q, h, _, _, hp, hp', hd => (zt_darkP h hp').mpr ((zt_darkP h hp).mp hd)
  | N + 1, k, T, v, c, e, s, p, p', q, h, hT, hq, hp, hp', hd => by
    refine ⟨fun g => hd.1 ((zt_darkP h hp).mpr ((zt_darkP h hp').mp g)), ?_⟩
    obtain ⟨d, v', c', k', e', s', -, -, h3, -, h5, h6⟩ := zt_minute (m := (0, 0, 0, 0, 0, 0, 0, 0, 0, 0)) h (by omega)
    have hq' : q = zpQ v' c' := by rw [hq]; unfold zpQ; rw [h5.1, h5.2.2]
    have g1 := h6 p hp
    have g2 := h6 p' hp'
    rw [← hq] at g1 g2
    exact zt_dk_congr N k' (T + 1) v' c' e' s' _ _ q h3 (by omega) hq' g1 g2 hd.2
/-- it is dark some time: no events -/
theorem zt_ends1 : ∀ (b : Nat) (T : Int) (v : StS) (c : CdT) (e : EvT) (s : Nat → Int32) (p : zPS) (q : Nat → Int), zS n 0 T v c e s → T + b < 2147480000 → q = zpQ v c → zPR n p v c e → (∀ i, i < n → c.2.2.2.1 i ≠ 0 → (c.2.1 i).toInt ≤ b) → ∃ N, N ≤ b ∧ zpDk n q N p
  | b, T, v, c, e, s, p, q, h, hT, hq, hp, hb => by
    by_cases hd : zpDark n p
    · exact ⟨0, by omega, hd⟩
    · cases b with
      | zero =>
        refine absurd ((zt_darkP h hp).mpr ⟨rfl, fun i hi => Classical.not_not.mp fun g => ?_⟩) hd
        have h1 := hb i hi g
        have h2 := h.1.2.2 i hi
        exact (h2.2.2.2.resolve_left g).2 (zt_ext (by rw [zt_i0]; omega))
      | succ b =>
        obtain ⟨d, v', c', k', e', s', -, -, h3, -, h5, h6⟩ := zt_minute (m := (0, 0, 0, 0, 0, 0, 0, 0, 0, 0)) h (by omega)
        have hq' : q = zpQ v' c' := by rw [hq]; unfold zpQ; rw [h5.1, h5.2.2]
        have g1 := h6 p hp
        rw [← hq] at g1
        have hk : p.2.1 = 0 := zt_pk h hp
        have e0 : zpDue (p.1 + 1) p.2.2.1 p.2.1 p.2.2.2.1 p.2.2.2.2.1 p.2.2.2.2.2.1 p.2.2.2.2.2.2 = (p.2.1, p.2.2.2.1, p.2.2.2.2.1, p.2.2.2.2.2.1, p.2.2.2.2.2.2) := zpDue_not _ _ _ _ _ _ _ (fun g => by omega)
        have k0 : k' = 0 := by
          have := zt_pk h3 g1
          rw [← this]
          show (zpDue _ _ _ _ _ _ _).1 = 0
          rw [e0]; exact hk
        subst k0
        obtain ⟨N, hN, hD⟩ := zt_ends1 b (T + 1) v' c' e' s' (zpStep q p) q h3 (by omega) hq' g1 (fun i hi hl => by
          have a1 := g1.2.2.2.1 i hi
          have a2 := hp.2.2.2.1 i hi
          have l1 := a1.2.mpr hl
          have w1 := a1.1
          unfold zpStep zpBn at l1 w1
          rw [e0] at l1 w1
          simp only [Bool.and_eq_true, decide_eq_true_eq] at l1
          simp only [l1.1, if_true] at w1
          have b1 := hb i hi (a2.2.mp l1.1)
          have q1 := zt_q hi h.1 h.2.2.2.2.1
          obtain ⟨qn, w, e1, b2, b3, e2, b4⟩ := q1
          have qi : q i = qn := by rw [hq]; unfold zpQ; rw [e1, zt_ti (by omega)]
          have l2 := l1.2
          rw [qi] at w1 l2
          rw [← w1]
          unfold zpB at l2 ⊢
          rw [a2.1] at l2 ⊢
          by_cases g : (c.2.1 i).toInt ≤ (qn : Int)
          · rw [if_pos g] at l2; exact absurd rfl l2
          · rw [if_neg g]; omega)
        exact ⟨N + 1, by omega, hd, hD⟩
theorem zt_ends2 : ∀ (a k : Nat) (T : Int) (v : StS) (c : CdT) (e : EvT) (s : Nat → Int32) (p : zPS) (q : Nat → Int), zS n k T v c e s → T + a + 999 < 2147480000 → q = zpQ v c → zPR n p v c e → (∀ j, j < k → (e.1 j).toInt ≤ T + a) → ∃ N, N ≤ a + 999 ∧ zpDk n q N p
  | 0, k, T, v, c, e, s, p, q, h, hT, hq, hp, hb => by
    have k0 : k = 0 := by
      by_cases g : k = 0
      · exact g
      · have h1 := hb 0 (by omega)
        have h2 := (h.2.2.1.2.2.1 0 (by omega)).2.2.1
        omega
    subst k0
    obtain ⟨N, h1, h2⟩ := zt_ends1 999 T v c e s p q h (by omega) hq hp (fun i hi _ => (h.1.2.2 i hi).2.1.2)
    exact ⟨N, by omega, h2⟩
  | a + 1, k, T, v, c, e, s, p, q, h, hT, hq, hp, hb => by
    by_cases hd : zpDark n p
    · exact ⟨0, by omega, hd⟩
    · obtain ⟨d, v', c', k', e', s', -, -, h3, -, h5, h6⟩ := zt_minute (m := (0, 0, 0, 0, 0, 0, 0, 0, 0, 0)) h (by omega)
      have hq' : q = zpQ v' c' := by rw [hq]; unfold zpQ; rw [h5.1, h5.2.2]
      have g1 := h6 p hp
      rw [← hq] at g1
      have hk : p.2.1 = k := zt_pk h hp
      have hk' : (zpStep q p).2.1 = k' := zt_pk h3 g1
      obtain ⟨d, d1, d2⟩ := zpDue_em (p.1 + 1) p.2.2.1 p.2.1 p.2.2.2.1 p.2.2.2.2.1 p.2.2.2.2.2.1 p.2.2.2.2.2.2
      have d3 : d + k' = k := by rw [← hk', ← hk]; exact d1
      obtain ⟨N, hN, hD⟩ := zt_ends2 a k' (T + 1) v' c' e' s' (zpStep q p) q h3 (by omega) hq' g1 (fun j hj => by
        have a1 := (g1.2.2.2.2 j (by rw [hk']; exact hj)).1
        have a2 := hp.2.2.2.2 (j + d) (by omega)
        have a3 := hb (j + d) (by omega)
        rw [← a1]
        have a4 : (zpStep q p).2.2.2.2.1 j = p.2.2.2.2.1 (j + d) := d2 j
        rw [a4, a2.1]
        omega)
      exact ⟨N + 1, by omega, hd, hD⟩
/-- the picture of a state -/
def zCan (n k : Nat) (v : StS) (c : CdT) (e : EvT) : zPS := (v.2.2.1.toInt, k, fun i => (c.2.1 i).toInt, fun i => decide (i < n) && decide (c.2.2.2.1 i ≠ 0), fun j => (e.1 j).toInt, fun j => (e.2.1 j).toInt.toNat, fun j => decide (e.2.2.1 j ≠ 0))
theorem zt_can (h : zS n k T v c e s) : zPR n (zCan n k v c e) v c e := by
  refine ⟨rfl, h.2.2.1.1, h.2.2.1.2.1, fun i hi => ⟨rfl, ?_⟩, fun j hj => ⟨rfl, ?_, ?_, ?_⟩⟩
  · show (decide (i < n) && decide (c.2.2.2.1 i ≠ 0)) = true ↔ _
    rw [Bool.and_eq_true, decide_eq_true_eq, decide_eq_true_eq]
    exact ⟨fun q => q.2, fun q => ⟨hi, q⟩⟩
  · obtain ⟨⟨i, hi, q⟩, -⟩ := h.2.2.1.2.2.1 j hj
    show e.2.1 j = Int32.ofNat (e.2.1 j).toInt.toNat
    have hn := h.1.2.1
    rw [q, zt_ti (by omega)]
    rfl
  · obtain ⟨⟨i, hi, q⟩, -⟩ := h.2.2.1.2.2.1 j hj
    show (e.2.1 j).toInt.toNat < 10
    have hn := h.1.2.1
    rw [q, zt_ti (by omega)]
    omega
  · show decide _ = true ↔ _
    rw [decide_eq_true_eq]
theorem zt_ends (h : zS n k T v c e s) (hT : T + 2000 < 2147480000) : ∃ N, N ≤ 1998 ∧ zpDk n (zpQ v c) N (zCan n k v c e) := by
  obtain ⟨N, h1, h2⟩ := zt_ends2 999 k T v c e s _ _ h (by omega) rfl (zt_can h) (fun j hj => by have := (h.2.2.1.2.2.1 j hj).2.2.2; omega)
  exact ⟨N, by omega, h2⟩
/-- equal where it counts -/
def zCE (n : Nat) (c c' : CdT) : Prop := c'.2.2.2.2 = c.2.2.2.2 ∧ ∀ i, i < n → c'.1 i = c.1 i ∧ c'.2.1 i = c.2.1 i ∧ c'.2.2.1 i = c.2.2.1 i ∧ c'.2.2.2.1 i = c.2.2.2.1 i
def zEE (k : Nat) (e e' : EvT) : Prop := e'.2.2.2 = e.2.2.2 ∧ ∀ j, j < k → e'.1 j = e.1 j ∧ e'.2.1 j = e.2.1 j ∧ e'.2.2.1 j = e.2.2.1 j
theorem zt_sc {c' : CdT} {e' : EvT} {s' : Nat → Int32} (h : zS n k T v c e s) (hc : zCE n c c') (he : zEE k e e') (hs : ∀ x, x < 110 → s' x = s x) : zS n k T v c' e' s' := by
  obtain ⟨a1, a2, a3, a4, a5, a6⟩ := h
  have hn := a1.2.1
  have hk := a3.2.1
  refine ⟨⟨hc.1.trans a1.1, a1.2.1, fun i hi => ?_⟩, ⟨by rw [hs 3 (by omega)]; exact a2.1, fun i hi => ?_⟩, ⟨he.1.trans a3.1, a3.2.1, fun j hj => ?_, fun j hj => ?_⟩, ⟨by rw [hs 4 (by omega)]; exact a4.1, fun j hj => ?_⟩, a5, ?_⟩
  · obtain ⟨q1, q2, q3, q4⟩ := hc.2 i hi
    rw [q1, q2, q3, q4]; exact a1.2.2 i hi
  · obtain ⟨q1, q2, q3, q4⟩ := hc.2 i hi
    rw [q1, q2, q3, q4, hs _ (by omega), hs _ (by omega), hs _ (by omega), hs _ (by omega)]; exact a2.2 i hi
  · obtain ⟨q1, q2, q3⟩ := he.2 j hj
    rw [q1, q2, q3]; exact a3.2.2.1 j hj
  · rw [(he.2 j (by omega)).1, (he.2 (j + 1) hj).1]; exact a3.2.2.2 j hj
  · obtain ⟨q1, q2, q3⟩ := he.2 j hj
    rw [q1, q2, q3, hs _ (by omega), hs _ (by omega), hs _ (by omega)]; exact a4.2 j hj
  · unfold zVR at *
    rw [hs 0 (by omega), hs 1 (by omega), hs 2 (by omega), hs 5 (by omega), hs 6 (by omega), hs 7 (by omega), hs 8 (by omega), hs 9 (by omega)]
    exact a6
theorem zt_ac {c' : CdT} {s' : Nat → Int32} (hn : n ≤ 10) (h : zA n v c s) (hc : zCE n c c') (hs : ∀ x, x < 110 → s' x = s x) : zA n v c' s' := by
  obtain ⟨a1, a2, a3, a4⟩ := h
  refine ⟨?_, by rw [hs 8 (by omega)]; exact a2, by rw [hs 8 (by omega)]; exact a3, fun i h1 h2 => by rw [hs _ (by omega)]; exact a4 i h1 h2⟩
  rw [hs 8 (by omega), a1, zt_sum_congr (f := c'.2.1) (g := c.2.1) (fun i hi => (hc.2 i hi).2.1)]
/-- copies of the class -/
theorem zt_cp1 {d : CdT} (hd : zCW n d) : ∀ (r F i : Nat) (c : CdT), i + r = 10 → r < F → (∀ j, j < i → j < n → c.1 j = d.1 j ∧ c.2.1 j = d.2.1 j ∧ c.2.2.1 j = d.2.2.1 j ∧ c.2.2.2.1 j = d.2.2.2.1 j) → c.2.2.2.2 = d.2.2.2.2 → ∃ c', f_X1_copyFrom_10 F c d (Int32.ofNat i) = some c' ∧ zCE n d c'
  | 0, F + 1, i, c, h, _, h1, h2 => by
    have hn := hd.2.1
    have : i = 10 := by omega
    subst this
    refine ⟨c, ?_, h2, fun j hj => h1 j (by omega) hj⟩
    rw [f_X1_copyFrom_10, if_pos (by decide)]
  | r + 1, F + 1, i, c, h, hF, h1, h2 => by
    rw [f_X1_copyFrom_10, if_neg (show ¬ (10 : Int32) ≤ Int32.ofNat i from fun q => absurd ((zt_le (a := 10) (by omega) (by omega)).mp q) (by omega)), zt_gi (by omega) (by omega), zt_gi (by omega) (by omega), zt_gi (by omega) (by omega), zt_gi (by omega) (by omega), zt_gi (by omega) (by omega), zt_gi (by omega) (by omega), zt_gi (by omega) (by omega), zt_gi (by omega) (by omega), zt_cl (by omega), zt_succ]
    refine zt_cp1 hd r F (i + 1) _ (by omega) (by omega) (fun j hj hjn => ?_) h2
    by_cases hji : j = i
    · subst hji
      have q := hd.2.2 j hjn
      simp only [zt_updS]
      rw [zt_char (zt_vchar q.1), zt_bool (q.2.2.2.imp_right And.left)]
      refine ⟨?_, ?_, ?_, ?_⟩ <;> trivial
    · simp only [zt_updN hji]
      exact h1 j (by omega) hjn
theorem zt_cp3 {f : EvT} (hf : zEW n k T f) : ∀ (r F i : Nat) (e : EvT), i + r = 20 → r < F → (∀ j, j < i → j < k → e.1 j = f.1 j ∧ e.2.1 j = f.2.1 j ∧ e.2.2.1 j = f.2.2.1 j) → e.2.2.2 = f.2.2.2 → ∃ e', f_X3_copyFrom_10 F e f (Int32.ofNat i) = some e' ∧ zEE k f e'
  | 0, F + 1, i, e, h, _, h1, h2 => by
    have hk := hf.2.1
    have : i = 20 := by omega
    subst this
    refine ⟨e, ?_, h2, fun j hj => h1 j (by omega) hj⟩
    rw [f_X3_copyFrom_10, if_pos (by decide)]
  | r + 1, F + 1, i, e, h, hF, h1, h2 => by
    rw [f_X3_copyFrom_10, if_neg (show ¬ (20 : Int32) ≤ Int32.ofNat i from fun q => absurd ((zt_le (a := 20) (by omega) (by omega)).mp q) (by omega)), zt_gi (by omega) (by omega), zt_gi (by omega) (by omega), zt_gi (by omega) (by omega), zt_gi (by omega) (by omega), zt_gi (by omega) (by omega), zt_gi (by omega) (by omega), zt_cl (by omega), zt_succ]
    refine zt_cp3 hf r F (i + 1) _ (by omega) (by omega) (fun j hj hjk => ?_) h2
    by_cases hji : j = i
    · subst hji
      simp only [zt_updS]
      rw [zt_bool (hf.2.2.1 j hjk).2.1]
      refine ⟨?_, ?_, ?_⟩ <;> trivial
    · simp only [zt_updN hji]
      exact h1 j (by omega) hjk
theorem zt_copy (v2 : StS) (c2 : CdT) (e2 : EvT) (hc : zCW n c) (he : zEW n k T e) (hw : zVW T v) : ∃ (c' : CdT) (e' : EvT), f_X8_copyFrom v2 c2 e2 v c e = some (v, c', e') ∧ zCE n c c' ∧ zEE k e e' := by
  obtain ⟨c', h1, h2⟩ := zt_cp1 hc 10 xFuel 0 (c2.1, c2.2.1, c2.2.2.1, c2.2.2.2.1, c.2.2.2.2) (by omega) (by unfold xFuel; omega) (fun j hj => absurd hj (by omega)) rfl
  obtain ⟨e', h3, h4⟩ := zt_cp3 he 20 xFuel 0 (e2.1, e2.2.1, e2.2.2.1, e.2.2.2) (by omega) (by unfold xFuel; omega) (fun j hj => absurd hj (by omega)) rfl
  refine ⟨c', e', ?_, h2, h4⟩
  unfold f_X8_copyFrom f_X1_copyFrom f_X3_copyFrom
  rw [show (0 : Int32) = Int32.ofNat 0 from rfl, h1, Option.bind_some, h3, Option.bind_some, show Int32.ofNat 0 = (0 : Int32) from rfl, if_pos (zt_ch hw.2.2.2.1)]
/-- copies of the reference -/
theorem zt_cpD {N M a b : Nat} {f : Nat → Int32} (ha : a + 110 ≤ N) (hb : b + 110 ≤ M) (hN : N ≤ 1000) (hM : M ≤ 1000) (h0 : Nat → Int32) : ∀ (r F i : Nat) (h : Nat → Int32), i + r = 110 → r < F → (∀ y, h y = if b ≤ y ∧ y < b + i then f (y - b + a) else h0 y) → ∃ h', f_X10_copiesD_3 N M F f h (Int32.ofNat a) (Int32.ofNat b) (Int32.ofNat i) = some h' ∧ ∀ y, h' y = if b ≤ y ∧ y < b + 110 then f (y - b + a) else h0 y
  | 0, F + 1, i, h, hi, _, hh => by
    have : i = 110 := by omega
    subst this
    exact ⟨h, by rw [f_X10_copiesD_3, if_pos (by decide)], hh⟩
  | r + 1, F + 1, i, h, hi, hF, hh => by
    rw [f_X10_copiesD_3, if_neg (show ¬ (110 : Int32) ≤ Int32.ofNat i from fun q => absurd ((zt_le (a := 110) (by omega) (by omega)).mp q) (by omega)), zt_add, zt_add, zt_gi (by omega) (by omega), zt_gi (by omega) (by omega), zt_cl (by omega), zt_cl (by omega), zt_succ]
    refine zt_cpD ha hb hN hM h0 r F (i + 1) _ (by omega) (by omega) (fun y => ?_)
    by_cases hy : y = b + i
    · subst hy
      rw [zt_updS, if_pos (by omega), show b + i - b + a = a + i by omega]
    · rw [zt_updN hy, hh]
      by_cases g : b ≤ y ∧ y < b + i
      · rw [if_pos g, if_pos (by omega)]
      · rw [if_neg g, if_neg (by omega)]
theorem zt_copiesD {N M a b : Nat} (f h : Nat → Int32) (ha : a + 110 ≤ N) (hb : b + 110 ≤ M) (hN : N ≤ 1000) (hM : M ≤ 1000) : ∃ h', f_X10_copiesD N M f h (Int32.ofNat a) (Int32.ofNat b) = some h' ∧ ∀ y, h' y = if b ≤ y ∧ y < b + 110 then f (y - b + a) else h y :=
  zt_cpD ha hb hN hM h 110 xFuel 0 h (by omega) (by unfold xFuel; omega) (fun y => by rw [if_neg (by omega)])
theorem zt_copies0 (f h : Nat → Int32) : ∃ h', f_X10_copiesD 110 110 f h 0 0 = some h' ∧ ∀ y, h' y = if y < 110 then f y else h y := by
  obtain ⟨h', h1, h2⟩ := zt_copiesD (N := 110) (M := 110) (a := 0) (b := 0) f h (by omega) (by omega) (by omega) (by omega)
  refine ⟨h', h1, fun y => ?_⟩
  rw [h2]
  by_cases g : y < 110
  · rw [if_pos (by omega), if_pos g]; rfl
  · rw [if_neg (by omega), if_neg g]
end DK
