/-! THE THEORY, 10: a minute of all candles -/
/-- time, events, wax, lit, the events' minutes, candles, kinds -/
abbrev zPS : Type := Int × Nat × (Nat → Int) × (Nat → Bool) × (Nat → Int) × (Nat → Nat) × (Nat → Bool)
def zpCar (w : Nat → Int) (l : Nat → Bool) (c : Nat) (b : Bool) : Nat → Bool := fun i => if i = c then (b && (l c || decide (w c ≠ 0))) else l i
def zpDue (T : Int) (w : Nat → Int) : Nat → (Nat → Bool) → (Nat → Int) → (Nat → Nat) → (Nat → Bool) → Nat × (Nat → Bool) × (Nat → Int) × (Nat → Nat) × (Nat → Bool)
  | 0, l, em, ec, el => (0, l, em, ec, el)
  | k + 1, l, em, ec, el => if em 0 = T then zpDue T w k (zpCar w l (ec 0) (el 0)) (fun j => em (j + 1)) (fun j => ec (j + 1)) (fun j => el (j + 1)) else (k + 1, l, em, ec, el)
def zpBn (q : Nat → Int) (T : Int) (w : Nat → Int) (d : Nat × (Nat → Bool) × (Nat → Int) × (Nat → Nat) × (Nat → Bool)) : zPS :=
  (T, d.1, fun i => if d.2.1 i then zpB (w i) (q i) else w i, fun i => d.2.1 i && decide (zpB (w i) (q i) ≠ 0), d.2.2)
def zpStep (q : Nat → Int) (p : zPS) : zPS := zpBn q (p.1 + 1) p.2.2.1 (zpDue (p.1 + 1) p.2.2.1 p.2.1 p.2.2.2.1 p.2.2.2.2.1 p.2.2.2.2.2.1 p.2.2.2.2.2.2)
def zPC (n : Nat) (w : Nat → Int) (l : Nat → Bool) (c : CdT) : Prop := ∀ i, i < n → w i = (c.2.1 i).toInt ∧ (l i = true ↔ c.2.2.2.1 i ≠ 0)
def zPE (k : Nat) (em : Nat → Int) (ec : Nat → Nat) (el : Nat → Bool) (e : EvT) : Prop := ∀ j, j < k → em j = (e.1 j).toInt ∧ e.2.1 j = Int32.ofNat (ec j) ∧ ec j < 10 ∧ (el j = true ↔ e.2.2.1 j ≠ 0)
def zPR (n : Nat) (p : zPS) (v : StS) (c : CdT) (e : EvT) : Prop := p.1 = v.2.2.1.toInt ∧ e.2.2.2 = Int32.ofNat p.2.1 ∧ p.2.1 ≤ 20 ∧ zPC n p.2.2.1 p.2.2.2.1 c ∧ zPE p.2.1 p.2.2.2.2.1 p.2.2.2.2.2.1 p.2.2.2.2.2.2 e
section BL
variable {n : Nat} {T : Int} {m : MdT} {e : EvT}
theorem zt_burnL : ∀ (r F G i : Nat) (d : Int32) (v : StS) (c : CdT) (s : Nat → Int32), i + r = n → r < F → r < G → zCW n c → zCR n c s → zVW T v → zVR v s →
    ∃ (d' : Int32) (v' : StS) (c' : CdT) (s' : Nat → Int32), f_X8_passMinute_18 F v c e d (Int32.ofNat i) = some (d', v', c', e) ∧ f_X10_minutePasses_66 G m s d (Int32.ofNat i) = some (d', s') ∧ zCW n c' ∧ zCR n c' s' ∧ zVW T v' ∧ zVR v' s' ∧ (v'.1 = v.1 ∧ v'.2.2.1 = v.2.2.1 ∧ v'.2.2.2.2.1 = v.2.2.2.2.1) ∧ c'.2.2.1 = c.2.2.1 ∧ zt_sum c'.2.1 n + v'.2.1 + v'.2.2.2.1 = zt_sum c.2.1 n + v.2.1 + v.2.2.2.1 ∧
      (∀ j, j < i → c'.2.1 j = c.2.1 j ∧ c'.2.2.2.1 j = c.2.2.2.1 j) ∧ (∀ j, i ≤ j → j < n → (c.2.2.2.1 j = 0 → c'.2.1 j = c.2.1 j ∧ c'.2.2.2.1 j = 0) ∧ (c.2.2.2.1 j ≠ 0 → (c'.2.1 j).toInt = zpB (c.2.1 j).toInt (c.2.2.1 j + v.1).toInt ∧ (c'.2.2.2.1 j ≠ 0 ↔ c'.2.1 j ≠ 0))) ∧ ∀ x, x ≠ 2 → x ≠ 7 → x ≠ 9 → (∀ j, j < n → x ≠ 11 + 4 * j ∧ x ≠ 13 + 4 * j) → s' x = s x
  | 0, F + 1, G + 1, i, d, v, c, s, h, _, _, hc, hr, hw, hv => by
    have hn := hc.2.1
    have : i = n := by omega
    subst this
    refine ⟨d, v, c, s, ?_, ?_, hc, hr, hw, hv, ⟨rfl, rfl, rfl⟩, rfl, rfl, fun _ _ => ⟨rfl, rfl⟩, fun j h1 h2 => absurd h1 (by omega), fun _ _ _ _ _ => rfl⟩
    · rw [f_X8_passMinute_18, hc.1, if_pos ((zt_le (by omega) (by omega)).mpr (Nat.le_refl _))]
    · rw [f_X10_minutePasses_66, zt_G3, zt_n3, hr.1, if_pos ((zt_le (by omega) (by omega)).mpr (Nat.le_refl _))]
  | r + 1, F + 1, G + 1, i, d, v, c, s, h, hF, hG, hc, hr, hw, hv => by
    have hn := hc.2.1
    have hm := hr.2 i (by omega)
    have hq := hc.2.2 i (by omega)
    rw [f_X8_passMinute_18, hc.1, if_neg (fun q => absurd ((zt_le (by omega) (by omega)).mp q) (by omega)), zt_gi (by omega) (by omega), zt_cl (by omega), zt_succ, f_X10_minutePasses_66, zt_G3, zt_n3, hr.1, if_neg (fun q => absurd ((zt_le (by omega) (by omega)).mp q) (by omega)), zt_of3 (by omega), Option.bind_some, hm.2.2.2, zt_succ, Int32.add_zero]
    by_cases q : c.2.2.2.1 i = 0
    · rw [if_pos q, q, if_neg (show ¬ (0 : Int32) = 1 by decide)]
      obtain ⟨d', v', c', s', z1, z2, z3, z4, z5, z6, z7, z8, z9, z10, z11, z12⟩ := zt_burnL r F G (i + 1) d v c s (by omega) (by omega) (by omega) hc hr hw hv
      refine ⟨d', v', c', s', z1, z2, z3, z4, z5, z6, z7, z8, z9, fun j hj => z10 j (by omega), fun j h1 h2 => ?_, z12⟩
      by_cases hj : j = i
      · subst hj
        have := z10 j (by omega)
        exact ⟨fun _ => ⟨this.1, this.2.trans q⟩, fun p => absurd q p⟩
      · exact z11 j (by omega) h2
    · rw [if_neg q, if_pos (hq.2.2.2.resolve_left q).1]
      obtain ⟨d1, v1, c1, s1, y1, y2, y3, y4, y5, y6, y7, y8, y9, y10, y11, y12, y13⟩ := zt_burn (m := m) (i := i) (by omega) q hc hr hw hv
      rw [y1, y2, Option.bind_some, Option.bind_some]
      obtain ⟨d', v', c', s', z1, z2, z3, z4, z5, z6, z7, z8, z9, z10, z11, z12⟩ := zt_burnL r F G (i + 1) (d + d1) v1 c1 s1 (by omega) (by omega) (by omega) y3 y4 y5 y6
      refine ⟨d', v', c', s', z1, z2, z3, z4, z5, z6, ⟨z7.1.trans y7.1, z7.2.1.trans y7.2.1, z7.2.2.trans y7.2.2⟩, z8.trans y8, z9.trans y9, fun j hj => ?_, fun j h1 h2 => ?_, fun x h1 h2 h3 h4 => ?_⟩
      · have a := z10 j (by omega)
        have b := y10 j (by omega)
        exact ⟨a.1.trans b.1, a.2.trans b.2⟩
      · by_cases hj : j = i
        · subst hj
          have a := z10 j (by omega)
          refine ⟨fun p => absurd p q, fun _ => ⟨by rw [a.1]; exact y11, by rw [a.1, a.2]; exact y12⟩⟩
        · have a := z11 j (by omega) h2
          have b := y10 j hj
          rw [b.1, b.2, y8, y7.1] at a
          exact a
      · rw [z12 x h1 h2 h3 h4]
        exact y13 x h1 h2 h3 (h4 i (by omega)).1 (h4 i (by omega)).2
end BL
theorem zt_due {n : Nat} {T : Int} {m : MdT} : ∀ (k F G a : Nat) (v : StS) (c : CdT) (e : EvT) (s : Nat → Int32), a + k ≤ 20 → k < F → k < G → zCW n c → zCR n c s → zEW n k T e → zER k e s → zVW (T + 1) v → zVR v s →
    ∃ (v' : StS) (c' : CdT) (k' : Nat) (e' : EvT) (s' : Nat → Int32), f_X8_carryOutDueEvents_2 F v c e (Int32.ofNat a) = some (v', c', e') ∧ f_X10_minutePasses_10 G m s = f_X10_minutePasses_62 m s' ∧ k' ≤ k ∧ zCW n c' ∧ zCR n c' s' ∧ zEW n k' T e' ∧ zER k' e' s' ∧ zVW (T + 1) v' ∧ zVR v' s' ∧ (0 < k' → (e'.1 0).toInt ≠ T + 1) ∧ (v'.1 = v.1 ∧ v'.2.1 = v.2.1 ∧ v'.2.2.1 = v.2.2.1 ∧ v'.2.2.2.1 = v.2.2.2.1 ∧ v'.2.2.2.2.1 = v.2.2.2.2.1) ∧ c'.2.1 = c.2.1 ∧ c'.2.2.1 = c.2.2.1 ∧ (s' 8 = s 8 ∧ ∀ i, n ≤ i → i < 10 → s' (13 + 4 * i) = s (13 + 4 * i)) ∧
      ∀ (w : Nat → Int) (l : Nat → Bool) (em : Nat → Int) (ec : Nat → Nat) (el : Nat → Bool), zPC n w l c → zPE k em ec el e → (zpDue (T + 1) w k l em ec el).1 = k' ∧ zPC n w (zpDue (T + 1) w k l em ec el).2.1 c' ∧ zPE k' (zpDue (T + 1) w k l em ec el).2.2.1 (zpDue (T + 1) w k l em ec el).2.2.2.1 (zpDue (T + 1) w k l em ec el).2.2.2.2 e'
  | 0, F + 1, G + 1, a, v, c, e, s, h, _, _, hc, hr, he, hre, hw, hv => by
    refine ⟨v, c, 0, e, s, ?_, ?_, Nat.le_refl _, hc, hr, he, hre, hw, hv, fun q => absurd q (by omega), ⟨rfl, rfl, rfl, rfl, rfl⟩, rfl, rfl, ⟨rfl, fun _ _ _ => rfl⟩, fun w l em ec el h1 h2 => ⟨rfl, h1, h2⟩⟩
    · rw [f_X8_carryOutDueEvents_2, he.1, if_pos (show Int32.ofNat 0 ≤ 0 by decide)]
      by_cases q : (20 : Int32) ≤ Int32.ofNat a
      · rw [if_pos q]
      · rw [if_neg q]
    · rw [f_X10_minutePasses_10, zt_G4, zt_n4, hre.1, if_pos (show Int32.ofNat 0 ≤ 0 by decide)]
  | k + 1, F + 1, G + 1, a, v, c, e, s, h, hF, hG, hc, hr, he, hre, hw, hv => by
    have hn := hc.2.1
    have hm := hre.2 0 (by omega)
    have h20 : ¬ (20 : Int32) ≤ Int32.ofNat a := fun q => absurd ((zt_le (a := 20) (by omega) (by omega)).mp q) (by omega)
    have ht : v.2.2.1.toInt = T + 1 := hw.1
    rw [f_X8_carryOutDueEvents_2, he.1, if_neg h20, if_neg (zt_np (by omega) (by omega)), f_X10_minutePasses_10, zt_G4, zt_n4, hre.1, if_neg (zt_np (by omega) (by omega))]
    have o0 : f_X10_ofEvent m s 0 0 = some (e.1 0) := by rw [← hm.1]; exact zt_oe0 (i := 0) (by omega)
    have o1 : f_X10_ofEvent m s 0 1 = some (e.2.1 0) := by rw [← hm.2.1]; exact zt_oe1 (i := 0) (by omega)
    have o2 : f_X10_ofEvent m s 0 2 = some (e.2.2.1 0) := by rw [← hm.2.2]; exact zt_oe2 (i := 0) (by omega)
    rw [o0, Option.bind_some, zt_G0, zt_n0, hv.1, if_neg (show ¬ ((0 : Int32) < 0 ∨ 20 ≤ 0) by decide)]
    by_cases q : e.1 0 = v.2.2.1
    · obtain ⟨⟨i, hi, hci⟩, hli, hmi⟩ := he.2.2.1 0 (by omega)
      obtain ⟨f, f1, f2, f3⟩ := zt_remove (p := 0) (k := k) (e := e) (by have := he.2.1; omega) (by omega) he.1 (fun j hj => (he.2.2.1 j (by omega)).2.1)
      obtain ⟨t, t1, t2, t3, t4⟩ := zt_removes (m := m) (p := 0) (k := k) (s := s) (by have := he.2.1; omega) (by omega) hre.1
      have hr1 : zCR n c t := ⟨by rw [t4 3 (by omega) (by omega)]; exact hr.1, fun j hj => by
        rw [t4 _ (by omega) (by omega), t4 _ (by omega) (by omega), t4 _ (by omega) (by omega), t4 _ (by omega) (by omega)]
        exact hr.2 j hj⟩
      have hv1 : zVR v t := by
        unfold zVR at *
        rw [t4 0 (by omega) (by omega), t4 1 (by omega) (by omega), t4 2 (by omega) (by omega), t4 5 (by omega) (by omega), t4 6 (by omega) (by omega), t4 7 (by omega) (by omega), t4 8 (by omega) (by omega), t4 9 (by omega) (by omega)]
        exact hv
      obtain ⟨v1, c1, s1, y1, y2, y3, y4, y5, y6, y7, y8, y9, y10, y11, y12⟩ := zt_carry (m := m) hi hli hc hr1 hw hv1
      have her1 : zER k f s1 := zt_er (zt_erm (by omega) hre f3 t2 t3 t4) (by have := he.2.1; omega) (y12 4 (by omega) (by omega) (by omega)) (fun x h1 h2 => y12 x (by omega) (by omega) (by omega))
      obtain ⟨v', c', k', e', s', z1, z2, z3, z4, z5, z6, z7, z8, z9, z10, z11, z12, z13, z14, z15⟩ := zt_due (m := m) k F G (a + 1) v1 c1 f s1 (by omega) (by omega) (by omega) y3 y4 (zt_ewrm (by omega) he f2 f3) her1 y5 y6
      refine ⟨v', c', k', e', s', ?_, ?_, by omega, z4, z5, z6, z7, z8, z9, z10, ⟨z11.1.trans y7.1, z11.2.1.trans y7.2.1, z11.2.2.1.trans y7.2.2.1, z11.2.2.2.1.trans y7.2.2.2.1, z11.2.2.2.2.trans y7.2.2.2.2⟩, z12.trans y8, z13.trans y9, ⟨?_, fun j h1 h2 => ?_⟩, fun w l em ec el h1 h2 => ?_⟩
      · rw [if_pos q, if_neg (show ¬ ((0 : Int32) < 0 ∨ 20 ≤ 0) by decide), if_neg (show ¬ ((0 : Int32) < 0 ∨ 20 ≤ 0) by decide), hci, y1, Option.bind_some, show (0 : Int32) = Int32.ofNat 0 from rfl, f1, Option.bind_some]
        rw [show Int32.ofNat a + 1 = Int32.ofNat (a + 1) from zt_succ a]
        exact z1
      · rw [if_pos q, o1, o2, Option.bind_some, Option.bind_some]
        have t1' : f_X10_removes m s 0 = some t := t1
        rw [t1', Option.bind_some, hci, y2, Option.bind_some]
        exact z2
      · rw [z14.1, y12 8 (by omega) (by omega) (by omega), t4 8 (by omega) (by omega)]
      · rw [z14.2 j h1 h2, y12 _ (by omega) (by omega) (by omega), t4 _ (by omega) (by omega)]
      · have p0 := h2 0 (by omega)
        rw [zpDue, if_pos (by rw [p0.1, q, ht])]
        have eci : ec 0 = i := by
          have := p0.2.1
          rw [hci] at this
          exact ((zt_eq (by omega) (by have := p0.2.2.1; omega)).mp this).symm
        refine z15 w _ _ _ _ (fun j hj => ?_) (fun j hj => ?_)
        · have p1 := h1 j hj
          refine ⟨by rw [y8]; exact p1.1, ?_⟩
          unfold zpCar
          rw [eci]
          by_cases hji : j = i
          · subst hji
            rw [if_pos rfl, y11, Bool.and_eq_true, Bool.or_eq_true, decide_eq_true_eq, p0.2.2.2, p1.2, p1.1]
            have : (c.2.1 j).toInt ≠ 0 ↔ c.2.1 j ≠ 0 := ⟨fun h g => h (by rw [g]; rfl), fun h g => h (zt_ext g)⟩
            rw [this]
          · rw [if_neg hji, y10 j hji]
            exact p1.2
        · have p1 := h2 (j + 1) (by omega)
          obtain ⟨g1, g2, g3⟩ := f3 j hj
          rw [g1, g2, g3]
          exact p1
    · refine ⟨v, c, k + 1, e, s, ?_, ?_, Nat.le_refl _, hc, hr, he, hre, hw, hv, fun _ p => q (zt_ext (by rw [p, ht])), ⟨rfl, rfl, rfl, rfl, rfl⟩, rfl, rfl, ⟨rfl, fun _ _ _ => rfl⟩, fun w l em ec el h1 h2 => ?_⟩
      · rw [if_neg q]
      · rw [if_neg q]
      · have p0 := h2 0 (by omega)
        rw [zpDue, if_neg (fun p => q (zt_ext (by rw [← p0.1, p, ht])))]
        exact ⟨rfl, h1, h2⟩
/-- the consumption of the candles -/
def zpQ (v : StS) (c : CdT) : Nat → Int := fun i => (c.2.2.1 i + v.1).toInt
theorem zt_sorted {f : Nat → Int32} {k : Nat} (h : ∀ j, j + 1 < k → (f j).toInt ≤ (f (j + 1)).toInt) : ∀ j, j < k → (f 0).toInt ≤ (f j).toInt
  | 0, _ => Int.le_refl _
  | j + 1, hj => Int.le_trans (zt_sorted h j (by omega)) (h j hj)
theorem zt_minute {n k : Nat} {T : Int} {v : StS} {c : CdT} {e : EvT} {s : Nat → Int32} {m : MdT} (h : zS n k T v c e s) (hT : T < 2147480000) :
    ∃ (d : Int32) (v' : StS) (c' : CdT) (k' : Nat) (e' : EvT) (s' : Nat → Int32), f_X8_passMinute v c e = some (d, v', c', e') ∧ f_X10_minutePasses m s = some (d, s') ∧ zS n k' (T + 1) v' c' e' s' ∧ (zA n v c s → zA n v' c' s') ∧ (v'.1 = v.1 ∧ v'.2.2.2.2.1 = v.2.2.2.2.1 ∧ c'.2.2.1 = c.2.2.1) ∧ ∀ p, zPR n p v c e → zPR n (zpStep (zpQ v c) p) v' c' e' := by
  obtain ⟨hc, hr, he, hre, hw, hv⟩ := h
  have hn := hc.2.1
  have t0 := hw.1
  have t1 := hw.2.1
  have e1 : (1 : Int32).toInt = 1 := rfl
  have ea : (v.2.2.1 + 1).toInt = T + 1 := by rw [zt_tadd (by omega) (by omega)]; omega
  have hr1 : zCR n c (upd s 0 (v.2.2.1 + 1)) := ⟨by simp (disch := omega) only [upd, if_neg, if_pos, if_true, if_false, ↓reduceIte]; exact hr.1, fun j hj => by simp (disch := omega) only [upd, if_neg, if_pos, if_true, if_false, ↓reduceIte]; exact hr.2 j hj⟩
  have hw1 : zVW (T + 1) (v.1, v.2.1, v.2.2.1 + 1, v.2.2.2.1, v.2.2.2.2.1, v.2.2.2.2.2.1, v.2.2.2.2.2.2.1, v.2.2.2.2.2.2.2) := ⟨ea, by omega, hw.2.2⟩
  have hv1 : zVR (v.1, v.2.1, v.2.2.1 + 1, v.2.2.2.1, v.2.2.2.2.1, v.2.2.2.2.2.1, v.2.2.2.2.2.2.1, v.2.2.2.2.2.2.2) (upd s 0 (v.2.2.1 + 1)) := by
    unfold zVR at *
    simp (disch := omega) only [upd, if_neg, if_pos, if_true, if_false, ↓reduceIte]
    exact ⟨trivial, hv.2⟩
  obtain ⟨v1, c1, k1, f, s1, y1, y2, y3, y4, y5, y6, y7, y8, y9, y10, y11, y12, y13, y14, y15⟩ := zt_due (m := m) k xFuel xFuel 0 _ c e (upd s 0 (v.2.2.1 + 1)) (by have := he.2.1; omega) (by have := he.2.1; unfold xFuel; omega) (by have := he.2.1; unfold xFuel; omega) hc hr1 he (zt_er hre he.2.1 (by simp (disch := omega) only [upd, if_neg, if_pos, if_true, if_false, ↓reduceIte]) (fun x h1 h2 => by simp (disch := omega) only [upd, if_neg, if_pos, if_true, if_false, ↓reduceIte])) hw1 hv1
  obtain ⟨d', v', c', s', z1, z2, z3, z4, z5, z6, z7, z8, z9, z10, z11, z12⟩ := zt_burnL (m := m) (e := f) n xFuel xFuel 0 0 v1 c1 s1 (by omega) (by unfold xFuel; omega) (by unfold xFuel; omega) y4 y5 y8 y9
  have hsx : ∀ x, x < 10 ∨ 50 ≤ x → x ≠ 2 → x ≠ 7 → x ≠ 9 → s' x = s1 x := fun x h1 h2 h3 h4 => z12 x h2 h3 h4 (fun j hj => by omega)
  refine ⟨d', v', c', k1, f, s', ?_, ?_, ⟨z3, z4, ⟨y6.1, y6.2.1, fun j hj => ?_, y6.2.2.2⟩, zt_er y7 (by have := he.2.1; omega) (hsx 4 (by omega) (by omega) (by omega) (by omega)) (fun x h1 h2 => hsx x (by omega) (by omega) (by omega) (by omega)), z5, z6⟩, fun ha => ?_, ⟨z7.1.trans y11.1, z7.2.2.trans y11.2.2.2.2, z8.trans y13⟩, fun p hp => ?_⟩
  · unfold f_X8_passMinute f_X8_carryOutDueEvents
    rw [show (0 : Int32) = Int32.ofNat 0 from rfl, y1, Option.bind_some]
    exact z1
  · unfold f_X10_minutePasses
    rw [zt_G0, zt_G0, zt_n0, hv.1, y2]
    exact z2
  · have w1 := y6.2.2.1 j hj
    have w2 : (f.1 0).toInt ≤ (f.1 j).toInt := zt_sorted y6.2.2.2 j hj
    have w3 := y10 (by omega)
    have w4 := (y6.2.2.1 0 (by omega)).2.2
    exact ⟨w1.1, w1.2.1, by omega, by omega⟩
  · obtain ⟨a1, a2, a3, a4⟩ := ha
    have e8 : s' 8 = s 8 := by
      rw [hsx 8 (by omega) (by omega) (by omega) (by omega), y14.1, zt_updN (by omega)]
    refine ⟨?_, by rw [e8]; exact a2, by rw [e8]; exact a3, fun i h1 h2 => ?_⟩
    · rw [e8, z9, a1, y12, y11.2.1, y11.2.2.2.1]
    · rw [z12 _ (by omega) (by omega) (by omega) (fun j hj => by omega), y14.2 i h1 h2, zt_updN (by omega)]
      exact a4 i h1 h2
  · obtain ⟨p1, p2, p3, p4, p5⟩ := hp
    have pk : p.2.1 = k := (zt_eq (by omega) (by have := he.2.1; omega)).mp (p2.symm.trans he.1)
    have pT : p.1 = T := by rw [p1, t0]
    rw [pk] at p5
    obtain ⟨g1, g2, g3⟩ := y15 p.2.2.1 p.2.2.2.1 p.2.2.2.2.1 p.2.2.2.2.2.1 p.2.2.2.2.2.2 p4 p5
    unfold zpStep zpBn
    rw [pk, pT]
    refine ⟨?_, ?_, ?_, fun i hi => ?_, ?_⟩
    · show T + 1 = _
      rw [z7.2.1, y11.2.2.1]; exact ea.symm
    · show f.2.2.2 = Int32.ofNat _
      rw [g1]; exact y6.1
    · show Prod.fst _ ≤ 20
      rw [g1]; exact y6.2.1
    · have b1 := g2 i hi
      have b2 := z11 i (by omega) hi
      have b3 := p4 i hi
      show (if (zpDue (T + 1) p.2.2.1 k p.2.2.2.1 p.2.2.2.2.1 p.2.2.2.2.2.1 p.2.2.2.2.2.2).2.1 i = true then zpB (p.2.2.1 i) (zpQ v c i) else p.2.2.1 i) = _ ∧ (((zpDue (T + 1) p.2.2.1 k p.2.2.2.1 p.2.2.2.2.1 p.2.2.2.2.2.1 p.2.2.2.2.2.2).2.1 i && decide (zpB (p.2.2.1 i) (zpQ v c i) ≠ 0)) = true ↔ _)
      by_cases hl : c1.2.2.2.1 i = 0
      · have hf : ¬ (zpDue (T + 1) p.2.2.1 k p.2.2.2.1 p.2.2.2.2.1 p.2.2.2.2.2.1 p.2.2.2.2.2.2).2.1 i = true := fun q => (b1.2.mp q) hl
        rw [if_neg hf, (b2.1 hl).1, (b2.1 hl).2, y12]
        refine ⟨b3.1, ?_⟩
        rw [Bool.and_eq_true]
        exact ⟨fun q => absurd q.1 hf, fun q => absurd rfl q⟩
      · have hf := b1.2.mpr hl
        have eq : (c1.2.2.1 i + v1.1).toInt = zpQ v c i := by
          unfold zpQ
          rw [y13, y11.1]
        obtain ⟨b4, b5⟩ := b2.2 hl
        rw [eq, y12, ← b3.1] at b4
        rw [if_pos hf, hf, Bool.true_and, decide_eq_true_eq, ← b4, b5]
        exact ⟨rfl, fun h g => h (by rw [g]; rfl), fun h g => h (zt_ext g)⟩
    · rw [g1]
      exact g3
