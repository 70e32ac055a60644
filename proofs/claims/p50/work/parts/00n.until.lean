/-! THE THEORY, 13: the loops until dark -/
/-- the reference's answer field set -/
def zAns (m : MdT) (x : Int32) : MdT := (m.1, m.2.1, m.2.2.1, m.2.2.2.1, x, m.2.2.2.2.2)
theorem zt_timeD {v v2 : StS} {T : Int} {N : Nat} (h1 : v.2.2.1.toInt = T) (h2 : v2.2.2.1.toInt = T + N) (hN : N ≤ 100000) : v2.2.2.1 - v.2.2.1 = Int32.ofNat N := by
  apply zt_ext
  rw [zt_tsub (by omega) (by omega), zt_ti (by omega)]
  omega
/-- the reference's fields don't matter to a minute -/
theorem zt_mp66 (m m' : MdT) : ∀ (F : Nat) (s : Nat → Int32) (a b : Int32), f_X10_minutePasses_66 F m s a b = f_X10_minutePasses_66 F m' s a b
  | 0, _, _, _ => rfl
  | F + 1, s, a, b => by
    rw [f_X10_minutePasses_66, f_X10_minutePasses_66]
    have e1 : ∀ x, f_X10_burnsDown m s x = f_X10_burnsDown m' s x := fun _ => rfl
    have e2 : ∀ a b, f_X10_of m s a b = f_X10_of m' s a b := fun _ _ => rfl
    simp only [e1, e2, zt_mp66 m m' F]
theorem zt_mp10 (m m' : MdT) : ∀ (F : Nat) (s : Nat → Int32), f_X10_minutePasses_10 F m s = f_X10_minutePasses_10 F m' s
  | 0, _ => rfl
  | F + 1, s => by
    rw [f_X10_minutePasses_10, f_X10_minutePasses_10]
    have e1 : ∀ t, f_X10_minutePasses_62 m t = f_X10_minutePasses_62 m' t := fun t => zt_mp66 m m' _ _ _ _
    have e2 : ∀ a b, f_X10_ofEvent m s a b = f_X10_ofEvent m' s a b := fun _ _ => rfl
    have e3 : ∀ t a b, f_X10_carriesOut m t a b = f_X10_carriesOut m' t a b := fun _ _ _ => rfl
    simp only [e1, e2, e3, zt_rem_m m m', zt_mp10 m m' F]
theorem zt_mpm (m m' : MdT) (s : Nat → Int32) : f_X10_minutePasses m s = f_X10_minutePasses m' s := by
  unfold f_X10_minutePasses
  simp only [zt_mp10 m m']
section UL
variable {n : Nat} {z : CcT} {v : StS} {c : CdT} {e : EvT} {T : Int}
/-- minute by minute: class and reference -/
theorem zt_untilL (h0 : v.2.2.1.toInt = T) : ∀ (N F G a k : Nat) (T2 : Int) (v2 : StS) (c2 : CdT) (e2 : EvT) (s r : Nat → Int32) (m : MdT) (p : zPS) (q : Nat → Int), zS n k T2 v2 c2 e2 s → T2 = T + a → T2 + N < 2147480000 → N < F → N < G → a + N < 5000 → q = zpQ v2 c2 → zPR n p v2 c2 e2 → zpDk n q N p →
    ∃ (v' : StS) (c' : CdT) (e' : EvT) (an : Int32) (s' : Nat → Int32), f_X9_minutesUntilDark_13 F z v c e v2 c2 e2 (Int32.ofNat a) = some (Int32.ofNat (a + N), v', c', e') ∧ f_X10_minutesUntilDark_20 G m s r (Int32.ofNat a) = some (Int32.ofNat (a + N), zAns m an, s', r) ∧ ∀ x, x < 110 → s' x = r x := by
  intro N
  induction N with
  | zero =>
    intro F G a k T2 v2 c2 e2 s r m p q h hT2 hT hF hG ha hq hp hd
    obtain ⟨F, rfl⟩ : ∃ F', F = F' + 1 := ⟨F - 1, by omega⟩
    obtain ⟨G, rfl⟩ : ∃ G', G = G' + 1 := ⟨G - 1, by omega⟩
    have hd1 := (zt_darkP h hp).mp hd
    have hn := h.1.2.1
    obtain ⟨s', e1, e2'⟩ := zt_copies0 r s
    refine ⟨v2, c2, e2, m.2.2.2.2.1, s', ?_, ?_, fun x hx => by rw [e2', if_pos hx]⟩
    · rw [f_X9_minutesUntilDark_13, if_neg (show ¬ (1000000 : Int32) ≤ Int32.ofNat a from fun p => absurd ((zt_le (a := 1000000) (by omega) (by omega)).mp p) (by omega)), zt_isDark h, if_pos hd1, Option.bind_some, if_neg zt_10, zt_timeD h0 (v2 := v2) (N := a) (by rw [h.2.2.2.2.1.1, hT2]) (by omega), Nat.add_zero]
    · have hz := zt_sum_zero (f := c2.2.2.2.1) (n := n) (by omega) (fun i hi => (h.1.2.2 i hi).2.2.2.imp_right And.left)
      rw [f_X10_minutesUntilDark_20, zt_G4, zt_n4, h.2.2.2.1.1, hd1.1, if_neg (show ¬ 0 < Int32.ofNat 0 by decide), zt_lit hn h.2.1, Option.bind_some, hz.mpr hd1.2, if_pos (by decide), e1, Option.bind_some]
      rfl
  | succ N ih =>
    intro F G a k T2 v2 c2 e2 s r m p q h hT2 hT hF hG ha hq hp hd
    obtain ⟨F, rfl⟩ : ∃ F', F = F' + 1 := ⟨F - 1, by omega⟩
    obtain ⟨G, rfl⟩ : ∃ G', G = G' + 1 := ⟨G - 1, by omega⟩
    have hn := h.1.2.1
    have hnd : ¬ (k = 0 ∧ ∀ i, i < n → c2.2.2.2.1 i = 0) := fun g => hd.1 ((zt_darkP h hp).mpr g)
    obtain ⟨d, v1, c1, k1, f, s1, y1, y2, y3, -, y5, y6⟩ := zt_minute (m := m) h (by omega)
    have hq' : q = zpQ v1 c1 := by rw [hq]; unfold zpQ; rw [y5.1, y5.2.2]
    have g1 := y6 p hp
    rw [← hq] at g1
    obtain ⟨v', c', e', an, s', z1, z2, z3⟩ := ih F G (a + 1) k1 (T2 + 1) v1 c1 f s1 r (zAns m d) (zpStep q p) q y3 (by omega) (by omega) (by omega) (by omega) (by omega) hq' g1 hd.2
    have y2' : ∀ m', f_X10_minutePasses m' s = some (d, s1) := fun m' => by rw [← y2]; exact zt_mpm _ _ _
    refine ⟨v', c', e', an, s', ?_, ?_, z3⟩
    · rw [f_X9_minutesUntilDark_13, if_neg (show ¬ (1000000 : Int32) ≤ Int32.ofNat a from fun p => absurd ((zt_le (a := 1000000) (by omega) (by omega)).mp p) (by omega)), zt_isDark h, if_neg hnd, Option.bind_some, if_pos rfl, y1, Option.bind_some, zt_succ, z1, show a + 1 + N = a + (N + 1) by omega]
    · have hz := zt_sum_zero (f := c2.2.2.2.1) (n := n) (by omega) (fun i hi => (h.1.2.2 i hi).2.2.2.imp_right And.left)
      have hb := zt_sum_le (f := c2.2.2.2.1) (b := 1) (n := n) (by omega) (by omega) (fun i hi => by
        rcases (h.1.2.2 i hi).2.2.2 with g | g
        · rw [g]; decide
        · rw [g.1]; decide)
      have fin : f_X10_minutesUntilDark_20 G (zAns m d) s1 r (Int32.ofNat (a + 1)) = some (Int32.ofNat (a + (N + 1)), zAns m an, s', r) := by
        rw [z2, show a + 1 + N = a + (N + 1) by omega]
        rfl
      rw [f_X10_minutesUntilDark_20, zt_G4, zt_n4, h.2.2.2.1.1, zt_succ]
      by_cases k0 : k = 0
      · subst k0
        have hs : ¬ zt_sum c2.2.2.2.1 n ≤ 0 := fun g => hnd ⟨rfl, hz.mp (zt_ext (by rw [Int32.le_iff_toInt_le, zt_i0] at g; rw [zt_i0]; omega))⟩
        rw [if_neg (show ¬ 0 < Int32.ofNat 0 by decide), zt_lit hn h.2.1, Option.bind_some, if_neg hs, y2, Option.bind_some]
        exact fin
      · rw [if_pos (show 0 < Int32.ofNat k from (zt_lt (a := 0) (by omega) (by have := h.2.2.1.2.1; omega)).mpr (by omega)), y2, Option.bind_some]
        exact fin
/-- by leaps: the class -/
theorem zt_leapL0 (h0 : v.2.2.1.toInt = T) {F a l k : Nat} {T2 : Int} {v2 : StS} {c2 : CdT} {e2 : EvT} {s : Nat → Int32} (h : zS n k T2 v2 c2 e2 s) (hT2 : T2 = T + a) (ha : a < 5000) (hl : l < 5000) (hd : zpDk n (zpQ v2 c2) 0 (zCan n k v2 c2 e2)) :
    ∃ (v' : StS) (c' : CdT) (e' : EvT), f_X9_minutesUntilDarkByLeaps_13 (F + 1) z v c e v2 c2 e2 (Int32.ofNat l) = some (Int32.ofNat a, v', c', e') := by
  have hd1 := (zt_darkP h (zt_can h)).mp hd
  refine ⟨v2, c2, e2, ?_⟩
  rw [f_X9_minutesUntilDarkByLeaps_13, if_neg (show ¬ (1000000 : Int32) ≤ Int32.ofNat l from fun p => absurd ((zt_le (a := 1000000) (by omega) (by omega)).mp p) (by omega)), zt_isDark h, if_pos hd1, Option.bind_some, if_neg zt_10, zt_timeD h0 (v2 := v2) (N := a) (by rw [h.2.2.2.2.1.1, hT2]) (by omega)]
theorem zt_leapL (h0 : v.2.2.1.toInt = T) : ∀ (B N F a l k : Nat) (T2 : Int) (v2 : StS) (c2 : CdT) (e2 : EvT) (s : Nat → Int32), N ≤ B → zS n k T2 v2 c2 e2 s → T2 = T + a → T2 + N < 2147480000 → N < F → a + N < 5000 → l + N < 5000 → zpDk n (zpQ v2 c2) N (zCan n k v2 c2 e2) →
    ∃ (v' : StS) (c' : CdT) (e' : EvT), f_X9_minutesUntilDarkByLeaps_13 F z v c e v2 c2 e2 (Int32.ofNat l) = some (Int32.ofNat (a + N), v', c', e') := by
  intro B
  induction B with
  | zero =>
    intro N F a l k T2 v2 c2 e2 s hB h hT2 hT hF ha hl hd
    have N0 : N = 0 := by omega
    subst N0
    obtain ⟨F, rfl⟩ : ∃ F', F = F' + 1 := ⟨F - 1, by omega⟩
    rw [Nat.add_zero]
    exact zt_leapL0 h0 h hT2 (by omega) (by omega) hd
  | succ B ih =>
    intro N F a l k T2 v2 c2 e2 s hB h hT2 hT hF ha hl hd
    obtain ⟨F, rfl⟩ : ∃ F', F = F' + 1 := ⟨F - 1, by omega⟩
    by_cases hN0 : N = 0
    · subst hN0
      rw [Nat.add_zero]
      exact zt_leapL0 h0 h hT2 (by omega) (by omega) hd
    obtain ⟨N, rfl⟩ : ∃ N', N = N' + 1 := ⟨N - 1, by omega⟩
    have hn := h.1.2.1
    have hk := h.2.2.1.2.1
    have hnd : ¬ (k = 0 ∧ ∀ i, i < n → c2.2.2.2.1 i = 0) := fun g => hd.1 ((zt_darkP h (zt_can h)).mpr g)
    obtain ⟨M, m1, m2, m3, m4, m5⟩ := zt_nextH h
    have t0 := h.2.2.2.2.1.1
    have hqi : ∀ i, i < n → 1 ≤ zpQ v2 c2 i := fun i hi => by
      obtain ⟨q', w, e1, b1, b2, e2, b3⟩ := zt_q hi h.1 h.2.2.2.2.1
      unfold zpQ
      rw [e1, zt_ti (by omega)]; omega
    have hE : 0 < (zCan n k v2 c2 e2).2.1 → (zCan n k v2 c2 e2).1 + M ≤ (zCan n k v2 c2 e2).2.2.2.2.1 0 := fun g => by
      have := m3 g
      show v2.2.2.1.toInt + M ≤ (e2.1 0).toInt
      omega
    have hL : ∀ i, (zCan n k v2 c2 e2).2.2.2.1 i = true → 1 ≤ zpQ v2 c2 i ∧ ((M : Int) - 1) * zpQ v2 c2 i < (zCan n k v2 c2 e2).2.2.1 i := fun i hi => by
      have hi' : (decide (i < n) && decide (c2.2.2.2.1 i ≠ 0)) = true := hi
      rw [Bool.and_eq_true, decide_eq_true_eq, decide_eq_true_eq] at hi'
      exact ⟨hqi i hi'.1, m5 i hi'.1 hi'.2⟩
    obtain ⟨g1, g2⟩ := zt_quiet hE hL hd.1 hd (M - 1) (by omega)
    -- the state before the last minute of the leap
    have hcW := h.1
    obtain ⟨d', l1, l2, l3⟩ := zt_leap (e := e2) hcW h.2.2.2.2.1 ⟨m2, m4⟩ m5 (v2.1, v2.2.1, v2.2.2.1 + Int32.ofNat (M - 1), v2.2.2.2.1, v2.2.2.2.2.1, v2.2.2.2.2.2.1, v2.2.2.2.2.2.2.1, v2.2.2.2.2.2.2.2) rfl n xFuel 0 c2 (by omega) (by unfold xFuel; omega) ⟨rfl, rfl, rfl⟩ (fun j hj => absurd hj (by omega)) (fun _ _ => rfl)
    have et : (v2.2.2.1 + Int32.ofNat (M - 1)).toInt = T2 + ((M : Int) - 1) := by
      have e9 : (Int32.ofNat (M - 1)).toInt = (M : Int) - 1 := by rw [zt_ti (by omega)]; omega
      have tpos := h.2.2.2.2.1.2.1
      rw [zt_tadd (by omega) (by omega), e9]; omega
    have l2a : d'.2.2.2.2 = c2.2.2.2.2 := by rw [l2.2.2]
    have l2b : d'.2.2.2.1 = c2.2.2.2.1 := by rw [l2.2.2]
    have wc : zCW n d' := by
      refine ⟨l2a.trans hcW.1, hn, fun i hi => ?_⟩
      have q1 := hcW.2.2 i hi
      have q2 := l3 i hi
      rw [l2.1, l2.2.1, l2b]
      by_cases hz : c2.2.2.2.1 i = 0
      · rw [if_pos hz] at q2
        exact ⟨q1.1, by omega, q1.2.2.1, Or.inl hz⟩
      · rw [if_neg hz] at q2
        have q3 := m5 i hi hz
        have q4 : 0 ≤ ((M : Int) - 1) * (c2.2.2.1 i + v2.1).toInt := Int.mul_nonneg (by omega) (by have := hqi i hi; unfold zpQ at this; omega)
        refine ⟨q1.1, by omega, q1.2.2.1, Or.inr ⟨(q1.2.2.2.resolve_left hz).1, fun g => ?_⟩⟩
        rw [g, zt_i0] at q2
        omega
    have we : zEW n k (T2 + ((M : Int) - 1)) e2 := by
      refine ⟨h.2.2.1.1, hk, fun j hj => ?_, h.2.2.1.2.2.2⟩
      have q1 := h.2.2.1.2.2.1 j hj
      have q2 := zt_sorted h.2.2.1.2.2.2 j hj
      have q3 := m3 (by omega)
      exact ⟨q1.1, q1.2.1, by omega, by omega⟩
    have wv : zVW (T2 + ((M : Int) - 1)) (v2.1, v2.2.1, v2.2.2.1 + Int32.ofNat (M - 1), v2.2.2.2.1, v2.2.2.2.2.1, v2.2.2.2.2.2.1, v2.2.2.2.2.2.2.1, v2.2.2.2.2.2.2.2) := ⟨et, by have := h.2.2.2.2.1.2.1; omega, h.2.2.2.2.1.2.2⟩
    have hs := zt_enc (A := s 8) wc we wv h.2.2.2.2.2.2.2.2.2.2.2.1
    have hp : zPR n (zpAt (zpQ v2 c2) (zCan n k v2 c2 e2) (M - 1)) (v2.1, v2.2.1, v2.2.2.1 + Int32.ofNat (M - 1), v2.2.2.2.1, v2.2.2.2.2.1, v2.2.2.2.2.2.1, v2.2.2.2.2.2.2.1, v2.2.2.2.2.2.2.2) d' e2 := by
      have hc0 := zt_can h
      refine ⟨?_, hc0.2.1, hc0.2.2.1, fun i hi => ⟨?_, ?_⟩, hc0.2.2.2.2⟩
      · show v2.2.2.1.toInt + ((M - 1 : Nat) : Int) = _
        rw [et]; omega
      · show (if (zCan n k v2 c2 e2).2.2.2.1 i = true then (c2.2.1 i).toInt - ((M - 1 : Nat) : Int) * zpQ v2 c2 i else (c2.2.1 i).toInt) = _
        rw [l3 i hi]
        have q1 := (hc0.2.2.2.1 i hi).2
        have e9 : ((M - 1 : Nat) : Int) = (M : Int) - 1 := by omega
        by_cases hz : c2.2.2.2.1 i = 0
        · rw [if_neg (fun g => (q1.mp g) hz), if_pos hz]
        · rw [if_pos (q1.mpr hz), if_neg hz, e9]
          rfl
      · show (zCan n k v2 c2 e2).2.2.2.1 i = true ↔ d'.2.2.2.1 i ≠ 0
        rw [l2b]
        exact (hc0.2.2.2.1 i hi).2
    have hqd : zpQ (v2.1, v2.2.1, v2.2.2.1 + Int32.ofNat (M - 1), v2.2.2.2.1, v2.2.2.2.2.1, v2.2.2.2.2.2.1, v2.2.2.2.2.2.2.1, v2.2.2.2.2.2.2.2) d' = zpQ v2 c2 := by
      unfold zpQ
      rw [l2.2.1]
    obtain ⟨d, v1, c1, k1, f, s1, y1, -, y3, -, y5, y6⟩ := zt_minute (m := (0, 0, 0, 0, 0, 0, 0, 0, 0, 0)) hs (by omega)
    have hq' : zpQ v2 c2 = zpQ v1 c1 := by rw [← hqd]; unfold zpQ; rw [y5.1, y5.2.2]
    obtain ⟨N', hN'⟩ : ∃ N', N + 1 - (M - 1) = N' + 1 := ⟨N - (M - 1), by omega⟩
    rw [hN'] at g2
    have g3 := y6 _ hp
    rw [hqd] at g3
    have g4 := zt_dk_congr N' k1 _ v1 c1 f s1 _ (zCan n k1 v1 c1 f) _ y3 (by omega) hq' g3 (zt_can y3) g2.2
    rw [hq'] at g4
    obtain ⟨v', c', e', z1⟩ := ih N' F (a + M) (l + 1) k1 _ v1 c1 f s1 (by omega) y3 (by omega) (by omega) (by omega) (by omega) (by omega) g4
    refine ⟨v', c', e', ?_⟩
    rw [f_X9_minutesUntilDarkByLeaps_13, if_neg (show ¬ (1000000 : Int32) ≤ Int32.ofNat l from fun p => absurd ((zt_le (a := 1000000) (by omega) (by omega)).mp p) (by omega)), zt_isDark h, if_neg hnd, Option.bind_some, if_pos rfl]
    have eL : f_X8_leap v2 c2 e2 = some (v1, c1, f) := by
      unfold f_X8_leap
      rw [m1, Option.bind_some, zt_pred (by omega), show (0 : Int32) = Int32.ofNat 0 from rfl, l1, y1]
      rfl
    rw [eL, Option.bind_some, zt_succ, z1, show a + M + N' = a + (N + 1) by omega]
end UL
