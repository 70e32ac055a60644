/-! THE THEORY, 14: predictions, consistency, passing -/
/-- what is dark when hangs on the consumption of the candles alone that there are -/
theorem zt_dkq {n : Nat} : ∀ (N k : Nat) (T : Int) (v : StS) (c : CdT) (e : EvT) (s : Nat → Int32) (p p' : zPS) (q q' : Nat → Int), zS n k T v c e s → T + N < 2147480000 → (∀ i, i < n → q i = zpQ v c i) → q' = zpQ v c → zPR n p v c e → zPR n p' v c e → zpDk n q N p → zpDk n q' N p'
  | 0, k, T, v, c, e, s, p, p', q, q', h, _, _, _, hp, hp', hd => (zt_darkP h hp').mpr ((zt_darkP h hp).mp hd)
  | N + 1, k, T, v, c, e, s, p, p', q, q', h, hT, hq, hq1, hp, hp', hd => by
    refine ⟨fun g => hd.1 ((zt_darkP h hp).mpr ((zt_darkP h hp').mp g)), ?_⟩
    obtain ⟨d, v', c', k', e', s', -, -, h3, -, h5, h6⟩ := zt_minute (m := (0, 0, 0, 0, 0, 0, 0, 0, 0, 0)) h (by omega)
    have hq' : zpQ v c = zpQ v' c' := by unfold zpQ; rw [h5.1, h5.2.2]
    have g1 := h6 p hp
    have g2 := h6 p' hp'
    rw [← hq1] at g2
    have g3 : zPR n (zpStep q p) v' c' e' := by
      refine ⟨g1.1, g1.2.1, g1.2.2.1, fun i hi => ?_, g1.2.2.2.2⟩
      have g4 := g1.2.2.2.1 i hi
      have e1 : (zpStep q p).2.2.1 i = (zpStep (zpQ v c) p).2.2.1 i := by
        unfold zpStep zpBn
        simp only [hq i hi]
      have e2 : (zpStep q p).2.2.2.1 i = (zpStep (zpQ v c) p).2.2.2.1 i := by
        unfold zpStep zpBn
        simp only [hq i hi]
      rw [e1, e2]
      exact g4
    exact zt_dkq N k' (T + 1) v' c' e' s' _ _ q q' h3 (by omega) (fun i hi => by rw [hq i hi, hq']) (hq1.trans hq') g3 g2 hd.2
section PR
variable {n k : Nat} {T : Int} {v : StS} {c : CdT} {e : EvT} {s : Nat → Int32}
theorem zo_until {z : CcT} (m : MdT) (v2 : StS) (c2 : CdT) (e2 : EvT) (r : Nat → Int32) (h : zS n k T v c e s) (hT : T + 2000 < 2147480000) :
    ∃ (N : Nat) (v' : StS) (c' : CdT) (e' : EvT) (an : Int32) (s' r' : Nat → Int32), f_X9_minutesUntilDark z v c e v2 c2 e2 = some (Int32.ofNat N, v', c', e') ∧ f_X10_minutesUntilDark m s r = some (Int32.ofNat N, zAns (zTh m 0) an, s', r') ∧ (∀ x, x < 110 → s' x = s x) ∧ ∀ (v2 : StS) (c2 : CdT) (e2 : EvT), ∃ (v' : StS) (c' : CdT) (e' : EvT), f_X9_minutesUntilDarkByLeaps z v c e v2 c2 e2 = some (Int32.ofNat N, v', c', e') := by
  obtain ⟨N, hN, hd⟩ := zt_ends h hT
  obtain ⟨r1, r2, r3⟩ := zt_copies0 s r
  have hcp := fun (v2 : StS) (c2 : CdT) (e2 : EvT) => zt_copy v2 c2 e2 h.1 h.2.2.1 h.2.2.2.2.1
  obtain ⟨c', e', k1, k2, k3⟩ := hcp v2 c2 e2
  have hs := zt_sc h k2 k3 (fun x _ => rfl)
  have key : ∀ (c' : CdT) (e' : EvT), zCE n c c' → zEE k e e' → zpDk n (zpQ v c') N (zCan n k v c' e') := fun c' e' k2 k3 => by
    have hs := zt_sc h k2 k3 (fun x _ => rfl)
    have g := zt_can h
    have hp' : zPR n (zCan n k v c e) v c' e' := by
      refine ⟨g.1, k3.1.trans g.2.1, g.2.2.1, fun i hi => ?_, fun j hj => ?_⟩
      · obtain ⟨q1, q2, q3, q4⟩ := k2.2 i hi
        rw [q2, q4]; exact g.2.2.2.1 i hi
      · obtain ⟨q1, q2, q3⟩ := k3.2 j hj
        rw [q1, q2, q3]; exact g.2.2.2.2 j hj
    exact zt_dkq N k T v c' e' s _ _ _ _ hs (by omega) (fun i hi => by unfold zpQ; rw [(k2.2 i hi).2.2.1]) rfl hp' (zt_can hs) hd
  obtain ⟨v1, c1, e1, an, s1, z1, z2, z3⟩ := zt_untilL (z := z) (v := v) (c := c) (e := e) h.2.2.2.2.1.1 N xFuel xFuel 0 k T v c' e' s r1 (zTh m 0) _ _ hs (by omega) (by omega) (by unfold xFuel; omega) (by unfold xFuel; omega) (by omega) rfl (zt_can hs) (key c' e' k2 k3)
  rw [Nat.zero_add] at z1 z2
  refine ⟨N, v1, c1, e1, an, s1, r1, ?_, ?_, fun x hx => by rw [z3 x hx, r3, if_pos hx], fun v2 c2 e2 => ?_⟩
  · unfold f_X9_minutesUntilDark
    rw [k1, Option.bind_some]
    exact z1
  · unfold f_X10_minutesUntilDark
    rw [r2, Option.bind_some]
    exact z2
  · obtain ⟨c', e', k1, k2, k3⟩ := hcp v2 c2 e2
    have hs := zt_sc h k2 k3 (fun x _ => rfl)
    obtain ⟨v1, c1, e1, z1⟩ := zt_leapL (z := z) (v := v) (c := c) (e := e) h.2.2.2.2.1.1 N N xFuel 0 0 k T v c' e' s (Nat.le_refl _) hs (by omega) (by omega) (by unfold xFuel; omega) (by omega) (by omega) (key c' e' k2 k3)
    rw [Nat.zero_add] at z1
    refine ⟨v1, c1, e1, ?_⟩
    unfold f_X9_minutesUntilDarkByLeaps
    rw [k1, Option.bind_some]
    exact z1
theorem zt_cmp (x : Int64) : lg_cmp x x = 0 := by
  unfold lg_cmp
  rw [if_neg (Int64.lt_irrefl), if_pos rfl]
/-- consistency: class and reference say yes -/
theorem zt_consL {z : CcT} (h : zS n k T v c e s) (hT : T + 2000 < 2147480000) (ha : zA n v c s) : ∀ (r F i : Nat) (v2 : StS) (c2 : CdT) (e2 : EvT), i + r = n → r < F → ∃ (v' : StS) (c' : CdT) (e' : EvT), f_X9_isConsistent_2 F z v c e v2 c2 e2 (Int32.ofNat i) = some (1, v', c', e')
  | 0, F + 1, i, v2, c2, e2, hi, _ => by
    have hn := h.1.2.1
    have : i = n := by omega
    subst this
    obtain ⟨N, v1, c1, e1, an, s1, r1, z1, -, -, z4⟩ := zo_until (z := z) (0, 0, 0, 0, 0, 0, 0, 0, 0, 0) v2 c2 e2 (fun _ => 0) h hT
    obtain ⟨v3, c3, e3, z5⟩ := z4 v1 c1 e1
    refine ⟨v3, c3, e3, ?_⟩
    have hb := (zq_byParts (m := (0, 0, 0, 0, 0, 0, 0, 0, 0, 0)) (z := z) h ha).1
    rw [f_X9_isConsistent_2, h.1.1, if_pos ((zt_le (by omega) (by omega)).mpr (Nat.le_refl _)), z1, Option.bind_some, z5, Option.bind_some, if_pos rfl, hb]
    unfold f_X9_addedWax
    rw [Option.bind_some, Option.bind_some, if_pos (zt_cmp _)]
  | r + 1, F + 1, i, v2, c2, e2, hi, hF => by
    have hn := h.1.2.1
    obtain ⟨q', w, e1, b1, b2, e2', b3, l1, l2⟩ := zt_mLeft (i := i) (by omega) h.1 h.2.2.2.2.1
    obtain ⟨v', c', e', z1⟩ := zt_consL (z := z) h hT ha r F (i + 1) v2 c2 e2 (by omega) (by omega)
    refine ⟨v', c', e', ?_⟩
    rw [f_X9_isConsistent_2, h.1.1, if_neg (fun q => absurd ((zt_le (by omega) (by omega)).mp q) (by omega)), l1, l2, Option.bind_some, Option.bind_some, if_pos rfl, zt_gi (by omega) (by omega), zt_cl (by omega), zt_succ]
    rcases (h.1.2.2 i (by omega)).2.2.2 with g | g
    · rw [if_pos g, if_neg zt_10, if_pos rfl]
      exact z1
    · rw [if_neg (by rw [g.1]; decide), zt_gj (by omega) (by omega), if_neg g.2, if_neg zt_10, if_pos rfl]
      exact z1
theorem zt_consM (m : MdT) (h : zS n k T v c e s) : ∀ (r F i : Nat), i + r = n → r < F → f_X10_isConsistent_42 F m s 1 (Int32.ofNat i) = some (1, m)
  | 0, F + 1, i, hi, _ => by
    have hn := h.1.2.1
    have : i = n := by omega
    subst this
    rw [f_X10_isConsistent_42, zt_G3, zt_n3, h.2.1.1, if_pos ((zt_le (by omega) (by omega)).mpr (Nat.le_refl _)), if_pos (Or.inr rfl)]
  | r + 1, F + 1, i, hi, hF => by
    have hn := h.1.2.1
    have ih := zt_consM m h r F (i + 1) (by omega) (by omega)
    have e11 : (1 : Int32) &&& 1 = 1 := rfl
    have hm := h.2.1.2 i (by omega)
    have hq := h.1.2.2 i (by omega)
    rw [f_X10_isConsistent_42, zt_G3, zt_n3, h.2.1.1, if_neg (fun q => absurd ((zt_le (by omega) (by omega)).mp q) (by omega)), zt_of1 (by omega), Option.bind_some, hm.2.1, zt_of3 (by omega), Option.bind_some, hm.2.2.2, zt_succ, e11, ih]
    by_cases g : 0 < c.2.1 i
    · rw [if_pos g]
    · rw [if_neg g]
      rcases hq.2.2.2 with g1 | g1
      · rw [if_pos g1]
      · refine absurd (Int32.lt_iff_toInt_lt.mpr ?_) g
        have : (c.2.1 i).toInt ≠ 0 := fun p => g1.2 (zt_ext p)
        rw [zt_i0]; omega
theorem zo_cons {z : CcT} (m : MdT) (v2 : StS) (c2 : CdT) (e2 : EvT) (h : zS n k T v c e s) (hT : T + 2000 < 2147480000) (ha : zA n v c s) : ∃ (v' : StS) (c' : CdT) (e' : EvT), f_X9_isConsistent z v c e v2 c2 e2 = some (1, v', c', e') ∧ f_X10_isConsistent m s = some (1, zTh m 0) := by
  have hn := h.1.2.1
  obtain ⟨v', c', e', z1⟩ := zt_consL (z := z) h hT ha n xFuel 0 v2 c2 e2 (by omega) (by unfold xFuel; omega)
  refine ⟨v', c', e', z1, ?_⟩
  have hv := h.2.2.2.2.2
  unfold f_X10_isConsistent f_X10_isConsistent_39
  rw [zt_G8, zt_allWax hn h.2.1, Option.bind_some, zt_G2, zt_G9, zt_n8, zt_n2, zt_n9, if_pos (by rw [hv.2.2.1, hv.2.2.2.2.2.2.2]; exact ha.1)]
  exact zt_consM _ h n xFuel 0 (by omega) (by unfold xFuel; omega)
/-- minutes pass -/
theorem zt_waitL {m : MdT} {w : Nat} (hw : w ≤ 1000) : ∀ (r F G i k : Nat) (T : Int) (d : Int32) (v : StS) (c : CdT) (e : EvT) (s : Nat → Int32), i + r = w → r < F → r < G → zS n k T v c e s → T + r < 2147480000 → zA n v c s →
    ∃ (d' : Int32) (v' : StS) (c' : CdT) (k' : Nat) (e' : EvT) (s' : Nat → Int32), f_X8_passMinutes_4 F v c e (Int32.ofNat w) d (Int32.ofNat i) = some (d', v', c', e') ∧ f_X10_waits_30 G m s (Int32.ofNat w) d (Int32.ofNat i) = some (d', m, s') ∧ zS n k' (T + r) v' c' e' s' ∧ zA n v' c' s'
  | 0, F + 1, G + 1, i, k, T, d, v, c, e, s, hi, _, _, h, hT, ha => by
    have : i = w := by omega
    subst this
    refine ⟨d, v, c, k, e, s, ?_, ?_, by simpa using h, ha⟩
    · rw [f_X8_passMinutes_4, if_pos ((zt_le (by omega) (by omega)).mpr (Nat.le_refl _))]
    · rw [f_X10_waits_30, if_pos ((zt_le (by omega) (by omega)).mpr (Nat.le_refl _))]
  | r + 1, F + 1, G + 1, i, k, T, d, v, c, e, s, hi, hF, hG, h, hT, ha => by
    obtain ⟨d1, v1, c1, k1, f, s1, y1, y2, y3, y4, -, -⟩ := zt_minute (m := m) h (by omega)
    obtain ⟨d', v', c', k', e', s', z1, z2, z3, z4⟩ := zt_waitL hw r F G (i + 1) k1 (T + 1) (d + d1) v1 c1 f s1 (by omega) (by omega) (by omega) y3 (by omega) (y4 ha)
    refine ⟨d', v', c', k', e', s', ?_, ?_, ?_, z4⟩
    · rw [f_X8_passMinutes_4, if_neg (fun q => absurd ((zt_le (by omega) (by omega)).mp q) (by omega)), y1, Option.bind_some, zt_succ]
      exact z1
    · rw [f_X10_waits_30, if_neg (fun q => absurd ((zt_le (by omega) (by omega)).mp q) (by omega)), y2, Option.bind_some, zt_succ]
      exact z2
    · rw [show T + ((r + 1 : Nat) : Int) = T + 1 + r by omega]
      exact z3
theorem zo_waits (m : MdT) (x : Int32) (h : zS n k T v c e s) (ha : zA n v c s) (hT : T + 1000 < 2147480000) :
    (f_X8_refusalToPass v x = some 2 ∧ f_X10_waits m s x = some (0, zTh m 1, s)) ∨
    (f_X8_refusalToPass v x = some 0 ∧ ∃ (b : Int32) (v' : StS) (c' : CdT) (k' : Nat) (e' : EvT) (s' : Nat → Int32) (T' : Int), T' ≤ T + 240 ∧ f_X8_passMinutes v c e x = some (b, v', c', e') ∧ f_X10_waits m s x = some (b, zTh m 0, s') ∧ zS n k' T' v' c' e' s' ∧ zA n v' c' s') := by
  unfold f_X8_refusalToPass f_X10_waits
  by_cases q : x < 1 ∨ 240 < x
  · refine Or.inl ⟨?_, ?_⟩
    · by_cases q1 : x < 1
      · rw [if_pos q1]
      · rw [if_neg q1, if_neg (Int32.not_le.mpr (q.resolve_left q1))]
    · rw [zt_isIn, if_pos q, Option.bind_some, if_pos rfl]
      unfold f_X10_waits_17
      rw [zt_thr1, Option.bind_some, if_neg zt_10]
  · have q1 : ¬ x < 1 := fun p => q (Or.inl p)
    have q2 : x ≤ 240 := Int32.not_lt.mp (fun p => q (Or.inr p))
    have i1 : 1 ≤ x.toInt := Int32.le_iff_toInt_le.mp (Int32.not_lt.mp q1)
    have i2 : x.toInt ≤ 240 := Int32.le_iff_toInt_le.mp q2
    have hx : x = Int32.ofNat x.toInt.toNat := zt_nat (by omega)
    obtain ⟨d', v', c', k', e', s', z1, z2, z3, z4⟩ := zt_waitL (m := zTh m 0) (w := x.toInt.toNat) (by omega) x.toInt.toNat xFuel xFuel 0 k T 0 v c e s (by omega) (by unfold xFuel; omega) (by unfold xFuel; omega) h (by omega) ha
    rw [← hx] at z1 z2
    refine Or.inr ⟨by rw [if_neg q1, if_pos q2], d', v', c', k', e', s', T + x.toInt.toNat, by omega, z1, ?_, z3, z4⟩
    rw [zt_isIn, if_neg q, Option.bind_some, if_neg zt_10]
    unfold f_X10_waits_17
    rw [zt_thr0, Option.bind_some, if_pos rfl]
    exact z2
end PR
