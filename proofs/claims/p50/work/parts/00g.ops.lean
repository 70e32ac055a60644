/-! THE THEORY, 6: the changes of candles, dish and draught -/
theorem zt_64 {a b : Int32} (h1 : -2147483648 ≤ a.toInt + b.toInt) (h2 : a.toInt + b.toInt < 2147483648) : a.toInt64 + b.toInt64 = (a + b).toInt64 := by
  apply Int64.toInt_inj.mp
  rw [Int64.toInt_add, Int32.toInt_toInt64, Int32.toInt_toInt64, Int32.toInt_toInt64, zt_tadd h1 h2, Int.bmod_def]
  split <;> omega
theorem zt_upd_same {f : Nat → Int32} {k : Nat} : upd f k (f k) = f := by
  funext j
  by_cases h : j = k
  · subst h; rw [zt_updS]
  · rw [zt_updN h]
theorem zt_hasY {c : CdT} {n i : Nat} (hc : zCW n c) (hi : i < n) : f_X1_has c (Int32.ofNat i) = some 1 := by
  rw [zt_has hc.1 hc.2.1, if_neg (fun q => q i hi rfl)]
theorem zt_tir1 : f_X9_throwIfRefused 1 = some (Sum.inl 0) := rfl
theorem zt_tir2 : f_X9_throwIfRefused 2 = some (Sum.inl 0) := rfl
theorem zt_tir3 : f_X9_throwIfRefused 3 = some (Sum.inl 2) := rfl
theorem zt_tir4 : f_X9_throwIfRefused 4 = some (Sum.inl 1) := rfl
theorem zt_tir5 : f_X9_throwIfRefused 5 = some (Sum.inl 1) := rfl
theorem zt_tir6 : f_X9_throwIfRefused 6 = some (Sum.inl 1) := rfl
theorem zt_tir7 : f_X9_throwIfRefused 7 = some (Sum.inl 1) := rfl
theorem zt_tir8 : f_X9_throwIfRefused 8 = some (Sum.inl 1) := rfl
theorem zt_tir9 : f_X9_throwIfRefused 9 = some (Sum.inl 3) := rfl
theorem zt_tir10 : f_X9_throwIfRefused 10 = some (Sum.inl 3) := rfl
theorem zt_tir0 : f_X9_throwIfRefused 0 = some (Sum.inr ()) := rfl
theorem zt_er {k : Nat} {e : EvT} {s s' : Nat → Int32} (h : zER k e s) (hk : k ≤ 20) (h4 : s' 4 = s 4) (hx : ∀ x, 50 ≤ x → x < 110 → s' x = s x) : zER k e s' :=
  ⟨h4.trans h.1, fun j hj => by
    have := h.2 j hj
    rw [hx (50 + 3 * j) (by omega) (by omega), hx (51 + 3 * j) (by omega) (by omega), hx (52 + 3 * j) (by omega) (by omega)]
    exact this⟩
/-- one candle's wax and light change -/
theorem zt_c1 {n i : Nat} {c : CdT} {s s' : Nat → Int32} {w l : Int32} (hc : zCW n c) (hr : zCR n c s) (hi : i < n) (hw : 0 ≤ w.toInt ∧ w.toInt ≤ 999) (hl : l = 0 ∨ l = 1 ∧ w ≠ 0) (h3 : s' 3 = s 3) (h1 : s' (11 + 4 * i) = w) (h2 : s' (13 + 4 * i) = l) (hx : ∀ x, 10 ≤ x → x < 50 → x ≠ 11 + 4 * i → x ≠ 13 + 4 * i → s' x = s x) :
    zCW n (c.1, upd c.2.1 i w, c.2.2.1, upd c.2.2.2.1 i l, c.2.2.2.2) ∧ zCR n (c.1, upd c.2.1 i w, c.2.2.1, upd c.2.2.2.1 i l, c.2.2.2.2) s' := by
  have hn := hc.2.1
  refine ⟨⟨hc.1, hc.2.1, fun j hj => ?_⟩, h3.trans hr.1, fun j hj => ?_⟩
  · have q := hc.2.2 j hj
    by_cases hij : j = i
    · subst hij
      simp only [zt_updS]
      exact ⟨q.1, hw, q.2.2.1, hl⟩
    · simp only [zt_updN hij]
      exact q
  · have q := hr.2 j hj
    by_cases hij : j = i
    · subst hij
      simp only [zt_updS]
      rw [h1, h2, hx (10 + 4 * j) (by omega) (by omega) (by omega) (by omega), hx (12 + 4 * j) (by omega) (by omega) (by omega) (by omega)]
      exact ⟨q.1, rfl, q.2.2.1, rfl⟩
    · simp only [zt_updN hij]
      rw [hx (10 + 4 * j) (by omega) (by omega) (by omega) (by omega), hx (11 + 4 * j) (by omega) (by omega) (by omega) (by omega), hx (12 + 4 * j) (by omega) (by omega) (by omega) (by omega), hx (13 + 4 * j) (by omega) (by omega) (by omega) (by omega)]
      exact q
section OP
variable {n k : Nat} {T : Int} {v : StS} {c : CdT} {e : EvT} {s : Nat → Int32}
theorem zo_adds (x1 x2 x3 : Int32) (h : zS n k T v c e s) (ha : zA n v c s) :
    (∃ (r : Nat) (t : Int32), f_X8_refusalToAdd v c x1 x2 x3 = some r ∧ ((r = 1 ∨ r = 2) ∧ t = 1 ∨ r = 4 ∧ t = 2) ∧ ∀ m, f_X10_adds m s x1 x2 x3 = some (0, zTh m t, s)) ∨
    (f_X8_refusalToAdd v c x1 x2 x3 = some 0 ∧ ∃ (b : Int32) (v' : StS) (c' : CdT) (s' : Nat → Int32), f_X8_addNewCandle v c x1 x2 x3 = some (b, v', c') ∧ (∀ m, f_X10_adds m s x1 x2 x3 = some (b, zTh m 0, s')) ∧ zS (n + 1) k T v' c' e s' ∧ zA (n + 1) v' c' s') := by
  obtain ⟨hc, hr, he, hre, hw, hv⟩ := h
  have hn := hc.2.1
  have bad : ∀ r : Nat, (r = 1 ∨ r = 2) → f_X8_refusalToAdd v c x1 x2 x3 = some r → (∀ m, f_X10_adds m s x1 x2 x3 = f_X10_adds_29 m s x1 x2 x3) → (∃ (r : Nat) (t : Int32), f_X8_refusalToAdd v c x1 x2 x3 = some r ∧ ((r = 1 ∨ r = 2) ∧ t = 1 ∨ r = 4 ∧ t = 2) ∧ ∀ m, f_X10_adds m s x1 x2 x3 = some (0, zTh m t, s)) := by
    intro r hr1 h1 h2
    refine ⟨r, 1, h1, Or.inl ⟨hr1, rfl⟩, fun m => ?_⟩
    rw [h2]
    unfold f_X10_adds_29 f_X10_adds_34
    rw [zt_thr1, Option.bind_some, if_neg zt_10]
  by_cases q0 : zVo x1
  · obtain ⟨p1, p2⟩ := (zt_isVoice x1).1 q0
    by_cases q1 : x2 < 1 ∨ 999 < x2
    · refine Or.inl (bad 2 (Or.inr rfl) ?_ fun m => ?_)
      · unfold f_X8_refusalToAdd
        rw [p1, Option.bind_some, if_neg zt_10]
        rcases q1 with q1 | q1
        · rw [if_pos q1]
        · by_cases q2 : x2 < 1
          · rw [if_pos q2]
          · rw [if_neg q2, if_pos q1]
      · unfold f_X10_adds
        rw [p2, Option.bind_some, if_neg zt_10, zt_isIn, if_pos q1, Option.bind_some, if_pos rfl]
    · have q2 : ¬ x2 < 1 := fun q => q1 (Or.inl q)
      have q3 : ¬ 999 < x2 := fun q => q1 (Or.inr q)
      by_cases q4 : x3 < 1 ∨ 9 < x3
      · refine Or.inl (bad 2 (Or.inr rfl) ?_ fun m => ?_)
        · unfold f_X8_refusalToAdd
          rw [p1, Option.bind_some, if_neg zt_10, if_neg q2, if_neg q3]
          by_cases q5 : x3 < 1
          · rw [if_pos q5]
          · rw [if_neg q5, if_neg (Int32.not_le.mpr (q4.resolve_left q5))]
        · unfold f_X10_adds
          rw [p2, Option.bind_some, if_neg zt_10, zt_isIn, if_neg q1, Option.bind_some, if_neg zt_10, zt_isIn, if_pos q4, Option.bind_some, if_pos rfl]
      · have q5 : ¬ x3 < 1 := fun q => q4 (Or.inl q)
        have q6 : x3 ≤ 9 := Int32.not_lt.mp (fun q => q4 (Or.inr q))
        have em : ∀ m, f_X10_adds m s x1 x2 x3 = f_X10_adds_34 m s x1 x2 x3 0 := fun m => by
          unfold f_X10_adds
          rw [p2, Option.bind_some, if_neg zt_10, zt_isIn, if_neg q1, Option.bind_some, if_neg zt_10, zt_isIn, if_neg q4, Option.bind_some, if_neg zt_10]
        by_cases q7 : n = 10
        · refine Or.inl ⟨4, 2, ?_, Or.inr ⟨rfl, rfl⟩, fun m => ?_⟩
          · unfold f_X8_refusalToAdd
            rw [p1, Option.bind_some, if_neg zt_10, if_neg q2, if_neg q3, if_neg q5, if_pos q6, hc.1, q7, if_neg (by decide)]
          · rw [em]
            unfold f_X10_adds_34 f_X10_adds_58
            simp only [↓zt_G0, ↓zt_G1, ↓zt_G2, ↓zt_G3, ↓zt_G4, ↓zt_G5, ↓zt_G6, ↓zt_G7, ↓zt_G8, ↓zt_G9, zt_n0, zt_n1, zt_n2, zt_n3, zt_n4, zt_n5, zt_n6, zt_n7, zt_n8, zt_n9]
            rw [zt_thr0, Option.bind_some, if_pos rfl, hr.1, q7, if_pos (show Int32.ofNat 10 = 10 from rfl), zt_thr1, Option.bind_some, if_neg zt_10]
            rfl
        · have hlt : c.2.2.2.2 < 10 := by
            rw [hc.1]; exact (zt_lt (b := 10) (by omega) (by omega)).mpr (by omega)
          have i2 : 1 ≤ x2.toInt ∧ x2.toInt ≤ 999 := by
            have a1 := Int32.not_lt.mp q2
            have a2 := Int32.not_lt.mp q3
            exact ⟨Int32.le_iff_toInt_le.mp a1, Int32.le_iff_toInt_le.mp a2⟩
          have i3 : 1 ≤ x3.toInt ∧ x3.toInt ≤ 9 := ⟨Int32.le_iff_toInt_le.mp (Int32.not_lt.mp q5), Int32.le_iff_toInt_le.mp q6⟩
          have en : c.2.2.2.2.toNatClampNeg = n := by rw [hc.1, zt_cl (by omega)]
          have gi : ¬ (c.2.2.2.2 < 0 ∨ 10 ≤ c.2.2.2.2.toNatClampNeg) := by rw [hc.1]; exact zt_in (by omega) (by omega)
          refine Or.inr ⟨?_, c.2.2.2.2, (v.1, v.2.1, v.2.2.1, v.2.2.2.1, v.2.2.2.2.1 + x2.toInt64, v.2.2.2.2.2.1, v.2.2.2.2.2.2.1, v.2.2.2.2.2.2.2), (upd c.1 n x1, upd c.2.1 n x2, upd c.2.2.1 n x3, upd c.2.2.2.1 n 0, c.2.2.2.2 + 1), upd (upd (upd (upd (upd s (10 + 4 * n) x1) (11 + 4 * n) x2) (12 + 4 * n) x3) 8 (s 8 + x2)) 3 (Int32.ofNat n + 1), ?_, fun m => ?_, ⟨⟨?_, by omega, fun i hi => ?_⟩, ⟨?_, fun i hi => ?_⟩, ⟨he.1, he.2.1, fun j hj => ?_, he.2.2.2⟩, ?_, hw, ?_⟩, ?_⟩
          · unfold f_X8_refusalToAdd
            rw [p1, Option.bind_some, if_neg zt_10, if_neg q2, if_neg q3, if_neg q5, if_pos q6, if_pos hlt]
          · unfold f_X8_addNewCandle
            rw [if_pos hlt, if_neg gi, if_neg gi, if_neg gi, if_neg gi, en, zt_char (zt_vchar q0)]
            rfl
          · rw [em]
            unfold f_X10_adds_34
            simp only [↓zt_G0, ↓zt_G1, ↓zt_G2, ↓zt_G3, ↓zt_G4, ↓zt_G5, ↓zt_G6, ↓zt_G7, ↓zt_G8, ↓zt_G9, zt_n0, zt_n1, zt_n2, zt_n3, zt_n4, zt_n5, zt_n6, zt_n7, zt_n8, zt_n9]
            rw [zt_thr0, Option.bind_some, if_pos rfl, if_neg (show ¬ s 3 = 10 by rw [hr.1]; exact fun q => q7 ((zt_eq (b := 10) (by omega) (by omega)).mp q))]
            unfold f_X10_adds_58
            simp only [↓zt_G0, ↓zt_G1, ↓zt_G2, ↓zt_G3, ↓zt_G4, ↓zt_G5, ↓zt_G6, ↓zt_G7, ↓zt_G8, ↓zt_G9, zt_n0, zt_n1, zt_n2, zt_n3, zt_n4, zt_n5, zt_n6, zt_n7, zt_n8, zt_n9]
            rw [zt_thr0, Option.bind_some, if_pos rfl, hr.1, zt_set0 (by omega), Option.bind_some, zt_set1 (by omega), Option.bind_some, zt_set2 (by omega), Option.bind_some, hc.1]
            have e8 : upd (upd (upd s (10 + 4 * n) x1) (11 + 4 * n) x2) (12 + 4 * n) x3 8 = s 8 := by
              simp (disch := omega) only [upd, if_neg, if_pos, if_true, if_false, ↓reduceIte]
            have e3 : ∀ y, upd (upd (upd (upd s (10 + 4 * n) x1) (11 + 4 * n) x2) (12 + 4 * n) x3) 8 y 3 = Int32.ofNat n := fun y => by
              rw [← hr.1]
              simp (disch := omega) only [upd, if_neg, if_pos, if_true, if_false, ↓reduceIte]
            rw [e8, e3]
            rfl
          · show c.2.2.2.2 + 1 = _
            rw [hc.1, zt_succ]
          · by_cases hin : i = n
            · subst hin
              simp only [zt_updS]
              exact ⟨q0, ⟨by omega, i2.2⟩, i3, Or.inl trivial⟩
            · simp only [zt_updN hin]
              exact hc.2.2 i (by omega)
          · rw [zt_updS, zt_succ]
          · by_cases hin : i = n
            · subst hin
              have h4 := ha.2.2.2 i (by omega) (by omega)
              simp (disch := omega) only [upd, if_neg, if_pos, if_true, if_false, ↓reduceIte]
              exact ⟨trivial, trivial, trivial, h4⟩
            · have q := hr.2 i (by omega)
              simp (disch := omega) only [upd, if_neg, if_pos, if_true, if_false, ↓reduceIte]
              exact q
          · obtain ⟨⟨i, hi, q⟩, q2⟩ := he.2.2.1 j hj
            exact ⟨⟨i, by omega, q⟩, q2⟩
          · refine zt_er hre he.2.1 ?_ (fun x h1 h2 => ?_)
            · simp (disch := omega) only [upd, if_neg, if_pos, if_true, if_false, ↓reduceIte]
            · simp (disch := omega) only [upd, if_neg, if_pos, if_true, if_false, ↓reduceIte]
          · obtain ⟨v0, v1, v2, v3, v4, v5, v6, v7⟩ := hv
            have ha2 := ha.2.1
            have ha3 := ha.2.2.1
            unfold zVR
            simp (disch := omega) only [upd, if_neg, if_pos, if_true, if_false, ↓reduceIte]
            refine ⟨v0, v1, v2, v3, v4, v5, ?_, v7⟩
            rw [v6, zt_64 (by omega) (by omega)]
          · obtain ⟨a1, a2, a3, a4⟩ := ha
            have e8 : (s 8 + x2).toInt = (s 8).toInt + x2.toInt := zt_tadd (by omega) (by omega)
            refine ⟨?_, ?_, ?_, fun i h1 h2 => ?_⟩
            · simp (disch := omega) only [upd, if_neg, if_pos, if_true, if_false, ↓reduceIte]
              have eS : zt_sum (upd c.2.1 n x2) (n + 1) = zt_sum c.2.1 n + x2 := by
                rw [zt_sum, zt_updS, zt_sum_upd' (Nat.le_refl _)]
              rw [eS, a1]
              ac_rfl
            · simp (disch := omega) only [upd, if_neg, if_pos, if_true, if_false, ↓reduceIte]
              omega
            · simp (disch := omega) only [upd, if_neg, if_pos, if_true, if_false, ↓reduceIte]
              omega
            · simp (disch := omega) only [upd, if_neg, if_pos, if_true, if_false, ↓reduceIte]
              exact a4 i (by omega) h2
  · obtain ⟨p1, p2⟩ := (zt_isVoice x1).2 q0
    refine Or.inl (bad 1 (Or.inl rfl) ?_ fun m => ?_)
    · unfold f_X8_refusalToAdd
      rw [p1, Option.bind_some, if_pos rfl]
    · unfold f_X10_adds
      rw [p2, Option.bind_some, if_pos rfl]
theorem zo_lights (x : Int32) (h : zS n k T v c e s) :
    (∃ (r : Nat) (t : Int32), f_X8_refusalToLight v c x = some r ∧ (r = 3 ∧ t = 1 ∨ r = 5 ∧ t = 2 ∨ r = 9 ∧ t = 3) ∧ ∀ m, f_X10_lights m s x = some (0, zTh m t, s)) ∨
    (f_X8_refusalToLight v c x = some 0 ∧ ∃ (b : Int32) (c' : CdT) (s' : Nat → Int32), f_X8_setLit v c x = some (b, c') ∧ (∀ m, f_X10_lights m s x = some (b, zTh m 0, s')) ∧ zS n k T v c' e s' ∧ (zA n v c s → zA n v c' s')) := by
  obtain ⟨hc, hr, he, hre, hw, hv⟩ := h
  have hn := hc.2.1
  unfold f_X8_refusalToLight f_X10_lights
  rw [zt_has hc.1 hc.2.1, Option.bind_some]
  by_cases q : ∀ i, i < n → x ≠ Int32.ofNat i
  · refine Or.inl ⟨3, 1, by rw [if_pos q, if_pos rfl], Or.inl ⟨rfl, rfl⟩, fun m => ?_⟩
    rw [zt_isC hr.1 hc.2.1, if_pos q, Option.bind_some, if_pos rfl]
    unfold f_X10_lights_14
    rw [zt_thr1, Option.bind_some, if_neg zt_10]
  · have em : ∀ m, f_X10_isCandle m s x = some 1 := fun m => by rw [zt_isC hr.1 hc.2.1, if_neg q]
    rw [if_neg q, if_neg zt_10]
    obtain ⟨i, q⟩ := Classical.not_forall.mp q
    obtain ⟨hi, q⟩ := Classical.not_imp.mp q
    obtain rfl := Classical.not_not.mp q
    have hq := hc.2.2 i hi
    have hm := hr.2 i hi
    rw [zt_gi (by omega) (by omega), zt_cl (by omega), zt_gj (by omega) (by omega)]
    by_cases q1 : c.2.2.2.1 i = 0
    · rw [if_pos q1]
      by_cases q2 : c.2.1 i = 0
      · refine Or.inl ⟨9, 3, by rw [if_pos q2], Or.inr (Or.inr ⟨rfl, rfl⟩), fun m => ?_⟩
        rw [em, Option.bind_some, if_neg zt_10]
        unfold f_X10_lights_14
        rw [zt_thr0, Option.bind_some, if_pos rfl, zt_of3 (by omega), Option.bind_some, hm.2.2.2, q1, if_neg (by decide)]
        unfold f_X10_lights_37
        rw [zt_thr0, Option.bind_some, if_pos rfl, zt_of1 (by omega), Option.bind_some, hm.2.1, q2, if_pos rfl]
        unfold f_X10_lights_59
        rw [zt_thr1, Option.bind_some, if_neg zt_10]
        rfl
      · have h1 := zt_c1 (s' := upd s (13 + 4 * i) 1) (w := c.2.1 i) (l := 1) hc hr hi hq.2.1 (Or.inr ⟨rfl, q2⟩) (by simp (disch := omega) only [upd, if_neg, if_pos, if_true, if_false, ↓reduceIte]) (by simp (disch := omega) only [upd, if_neg, if_pos, if_true, if_false, ↓reduceIte]; exact hm.2.1) (by simp (disch := omega) only [upd, if_neg, if_pos, if_true, if_false, ↓reduceIte]) (fun y h1 h2 h3 h4 => by simp (disch := omega) only [upd, if_neg, if_pos, if_true, if_false, ↓reduceIte])
        rw [show upd c.2.1 i (c.2.1 i) = c.2.1 from zt_upd_same] at h1
        refine Or.inr ⟨by rw [if_neg q2], zt_sum (upd c.2.2.2.1 i 1) n, (c.1, c.2.1, c.2.2.1, upd c.2.2.2.1 i 1, c.2.2.2.2), upd s (13 + 4 * i) 1, ?_, fun m => ?_, ⟨h1.1, h1.2, he, zt_er hre he.2.1 (by simp (disch := omega) only [upd, if_neg, if_pos, if_true, if_false, ↓reduceIte]) (fun y h1 h2 => by simp (disch := omega) only [upd, if_neg, if_pos, if_true, if_false, ↓reduceIte]), hw, ?_⟩, fun ha => ⟨?_, ?_, ?_, fun j h1 h2 => ?_⟩⟩
        · unfold f_X8_setLit
          rw [zt_hasY hc hi, Option.bind_some, if_neg zt_10, zt_gi (by omega) (by omega), zt_cl (by omega)]
          show (f_X1_countLit (c.1, c.2.1, c.2.2.1, upd c.2.2.2.1 i 1, c.2.2.2.2)).bind _ = _
          rw [zt_countLit h1.1]
          rfl
        · rw [em, Option.bind_some, if_neg zt_10]
          unfold f_X10_lights_14
          rw [zt_thr0, Option.bind_some, if_pos rfl, zt_of3 (by omega), Option.bind_some, hm.2.2.2, q1, if_neg (by decide)]
          unfold f_X10_lights_37
          rw [zt_thr0, Option.bind_some, if_pos rfl, zt_of1 (by omega), Option.bind_some, hm.2.1, if_neg q2]
          unfold f_X10_lights_59
          rw [zt_thr0, Option.bind_some, if_pos rfl, zt_set3 (by omega), Option.bind_some, zt_lit hn h1.2, Option.bind_some]
          rfl
        · unfold zVR at *
          simp (disch := omega) only [upd, if_neg, if_pos, if_true, if_false, ↓reduceIte]
          exact hv
        · simp (disch := omega) only [upd, if_neg, if_pos, if_true, if_false, ↓reduceIte]
          exact ha.1
        · simp (disch := omega) only [upd, if_neg, if_pos, if_true, if_false, ↓reduceIte]
          exact ha.2.1
        · simp (disch := omega) only [upd, if_neg, if_pos, if_true, if_false, ↓reduceIte]
          exact ha.2.2.1
        · simp (disch := omega) only [upd, if_neg, if_pos, if_true, if_false, ↓reduceIte]
          exact ha.2.2.2 j h1 h2
    · rw [if_neg q1]
      refine Or.inl ⟨5, 2, rfl, Or.inr (Or.inl ⟨rfl, rfl⟩), fun m => ?_⟩
      rw [em, Option.bind_some, if_neg zt_10]
      unfold f_X10_lights_14
      rw [zt_thr0, Option.bind_some, if_pos rfl, zt_of3 (by omega), Option.bind_some, hm.2.2.2, (hq.2.2.2.resolve_left q1).1, if_pos rfl]
      unfold f_X10_lights_37
      rw [zt_thr1, Option.bind_some, if_neg zt_10]
      rfl
theorem zo_snuffs (x : Int32) (h : zS n k T v c e s) :
    (∃ (r : Nat) (t : Int32), f_X8_refusalToSnuff v c x = some r ∧ (r = 3 ∧ t = 1 ∨ r = 6 ∧ t = 2) ∧ ∀ m, f_X10_snuffs m s x = some (0, zTh m t, s)) ∨
    (f_X8_refusalToSnuff v c x = some 0 ∧ ∃ (b : Int32) (c' : CdT) (s' : Nat → Int32), f_X8_setUnlit v c x = some (b, c') ∧ (∀ m, f_X10_snuffs m s x = some (b, zTh m 0, s')) ∧ zS n k T v c' e s' ∧ (zA n v c s → zA n v c' s')) := by
  obtain ⟨hc, hr, he, hre, hw, hv⟩ := h
  have hn := hc.2.1
  unfold f_X8_refusalToSnuff f_X10_snuffs
  rw [zt_has hc.1 hc.2.1, Option.bind_some]
  by_cases q : ∀ i, i < n → x ≠ Int32.ofNat i
  · refine Or.inl ⟨3, 1, by rw [if_pos q, if_pos rfl], Or.inl ⟨rfl, rfl⟩, fun m => ?_⟩
    rw [zt_isC hr.1 hc.2.1, if_pos q, Option.bind_some, if_pos rfl]
    unfold f_X10_snuffs_14
    rw [zt_thr1, Option.bind_some, if_neg zt_10]
  · have em : ∀ m, f_X10_isCandle m s x = some 1 := fun m => by rw [zt_isC hr.1 hc.2.1, if_neg q]
    rw [if_neg q, if_neg zt_10]
    obtain ⟨i, q⟩ := Classical.not_forall.mp q
    obtain ⟨hi, q⟩ := Classical.not_imp.mp q
    obtain rfl := Classical.not_not.mp q
    have hq := hc.2.2 i hi
    have hm := hr.2 i hi
    rw [zt_gi (by omega) (by omega), zt_cl (by omega)]
    by_cases q1 : c.2.2.2.1 i = 0
    · rw [if_pos q1]
      refine Or.inl ⟨6, 2, rfl, Or.inr ⟨rfl, rfl⟩, fun m => ?_⟩
      rw [em, Option.bind_some, if_neg zt_10]
      unfold f_X10_snuffs_14
      rw [zt_thr0, Option.bind_some, if_pos rfl, zt_of3 (by omega), Option.bind_some, hm.2.2.2, q1, if_pos rfl]
      unfold f_X10_snuffs_36
      rw [zt_thr1, Option.bind_some, if_neg zt_10]
      rfl
    · rw [if_neg q1]
      have h1 := zt_c1 (s' := upd s (13 + 4 * i) 0) (w := c.2.1 i) (l := 0) hc hr hi hq.2.1 (Or.inl rfl) (by simp (disch := omega) only [upd, if_neg, if_pos, if_true, if_false, ↓reduceIte]) (by simp (disch := omega) only [upd, if_neg, if_pos, if_true, if_false, ↓reduceIte]; exact hm.2.1) (by simp (disch := omega) only [upd, if_neg, if_pos, if_true, if_false, ↓reduceIte]) (fun y h1 h2 h3 h4 => by simp (disch := omega) only [upd, if_neg, if_pos, if_true, if_false, ↓reduceIte])
      rw [show upd c.2.1 i (c.2.1 i) = c.2.1 from zt_upd_same] at h1
      refine Or.inr ⟨rfl, c.2.1 i, (c.1, c.2.1, c.2.2.1, upd c.2.2.2.1 i 0, c.2.2.2.2), upd s (13 + 4 * i) 0, ?_, fun m => ?_, ⟨h1.1, h1.2, he, zt_er hre he.2.1 (by simp (disch := omega) only [upd, if_neg, if_pos, if_true, if_false, ↓reduceIte]) (fun y h1 h2 => by simp (disch := omega) only [upd, if_neg, if_pos, if_true, if_false, ↓reduceIte]), hw, ?_⟩, fun ha => ⟨?_, ?_, ?_, fun j h1 h2 => ?_⟩⟩
      · unfold f_X8_setUnlit
        rw [zt_hasY hc hi, Option.bind_some, if_neg zt_10, zt_gi (by omega) (by omega), zt_gi (by omega) (by omega), zt_cl (by omega)]
        rfl
      · rw [em, Option.bind_some, if_neg zt_10]
        unfold f_X10_snuffs_14
        rw [zt_thr0, Option.bind_some, if_pos rfl, zt_of3 (by omega), Option.bind_some, hm.2.2.2, if_neg q1]
        unfold f_X10_snuffs_36
        rw [zt_thr0, Option.bind_some, if_pos rfl, zt_set3 (by omega), Option.bind_some, zt_of1 (by omega), Option.bind_some, zt_updN (by omega), hm.2.1]
        rfl
      · unfold zVR at *
        simp (disch := omega) only [upd, if_neg, if_pos, if_true, if_false, ↓reduceIte]
        exact hv
      · simp (disch := omega) only [upd, if_neg, if_pos, if_true, if_false, ↓reduceIte]
        exact ha.1
      · simp (disch := omega) only [upd, if_neg, if_pos, if_true, if_false, ↓reduceIte]
        exact ha.2.1
      · simp (disch := omega) only [upd, if_neg, if_pos, if_true, if_false, ↓reduceIte]
        exact ha.2.2.1
      · simp (disch := omega) only [upd, if_neg, if_pos, if_true, if_false, ↓reduceIte]
        exact ha.2.2.2 j h1 h2
theorem zo_draws (x : Int32) (h : zS n k T v c e s) :
    (f_X8_refusalToChangeDraught v x = some 2 ∧ ∀ m, f_X10_draws m s x = some (0, zTh m 1, s)) ∨
    (f_X8_refusalToChangeDraught v x = some 0 ∧ ∃ (b : Int32) (v' : StS) (s' : Nat → Int32), f_X8_changeDraught v x = some (b, v') ∧ (∀ m, f_X10_draws m s x = some (b, zTh m 0, s')) ∧ zS n k T v' c e s' ∧ (zA n v c s → zA n v' c s')) := by
  obtain ⟨hc, hr, he, hre, hw, hv⟩ := h
  have hn := hc.2.1
  unfold f_X8_refusalToChangeDraught f_X10_draws
  by_cases q : x < 0 ∨ 3 < x
  · refine Or.inl ⟨?_, fun m => ?_⟩
    · by_cases q1 : x < 0
      · rw [if_pos q1]
      · rw [if_neg q1, if_neg (Int32.not_le.mpr (q.resolve_left q1))]
    · rw [zt_isIn, if_pos q, Option.bind_some, if_pos rfl]
      unfold f_X10_draws_15
      rw [zt_thr1, Option.bind_some, if_neg zt_10]
  · have q1 : ¬ x < 0 := fun p => q (Or.inl p)
    have q2 : x ≤ 3 := Int32.not_lt.mp (fun p => q (Or.inr p))
    refine Or.inr ⟨by rw [if_neg q1, if_pos q2], v.1, (x, v.2.1, v.2.2.1, v.2.2.2.1, v.2.2.2.2.1, v.2.2.2.2.2.1, v.2.2.2.2.2.2.1, v.2.2.2.2.2.2.2), upd s 1 x, rfl, fun m => ?_, ⟨hc, ⟨by simp (disch := omega) only [upd, if_neg, if_pos, if_true, if_false, ↓reduceIte]; exact hr.1, fun i hi => ?_⟩, he, zt_er hre he.2.1 (by simp (disch := omega) only [upd, if_neg, if_pos, if_true, if_false, ↓reduceIte]) (fun y h1 h2 => by simp (disch := omega) only [upd, if_neg, if_pos, if_true, if_false, ↓reduceIte]), ⟨hw.1, hw.2.1, ⟨Int32.le_iff_toInt_le.mp (Int32.not_lt.mp q1), Int32.le_iff_toInt_le.mp q2⟩, hw.2.2.2⟩, ?_⟩, fun ha => ⟨?_, ?_, ?_, fun j h1 h2 => ?_⟩⟩
    · rw [zt_isIn, if_neg q, Option.bind_some, if_neg zt_10]
      unfold f_X10_draws_15
      rw [zt_thr0, Option.bind_some, if_pos rfl, zt_G1, zt_G1, zt_n1, hv.2.1]
    · simp (disch := omega) only [upd, if_neg, if_pos, if_true, if_false, ↓reduceIte]
      exact hr.2 i hi
    · unfold zVR at *
      simp (disch := omega) only [upd, if_neg, if_pos, if_true, if_false, ↓reduceIte]
      exact ⟨hv.1, trivial, hv.2.2⟩
    · simp (disch := omega) only [upd, if_neg, if_pos, if_true, if_false, ↓reduceIte]
      exact ha.1
    · simp (disch := omega) only [upd, if_neg, if_pos, if_true, if_false, ↓reduceIte]
      exact ha.2.1
    · simp (disch := omega) only [upd, if_neg, if_pos, if_true, if_false, ↓reduceIte]
      exact ha.2.2.1
    · simp (disch := omega) only [upd, if_neg, if_pos, if_true, if_false, ↓reduceIte]
      exact ha.2.2.2 j h1 h2
theorem zo_pours (x u : Int32) (h : zS n k T v c e s) :
    (∃ (r : Nat) (t : Int32), f_X8_refusalToPour v c x u = some r ∧ (r = 3 ∧ t = 1 ∨ r = 2 ∧ t = 2 ∨ (r = 5 ∨ r = 7) ∧ t = 3 ∨ r = 10 ∧ t = 4) ∧ ∀ m, f_X10_pours m s x u = some (0, zTh m t, s)) ∨
    (f_X8_refusalToPour v c x u = some 0 ∧ ∃ (b : Int32) (v' : StS) (c' : CdT) (s' : Nat → Int32), f_X8_pourFromDish v c x u = some (b, v', c') ∧ (∀ m, f_X10_pours m s x u = some (b, zTh m 0, s')) ∧ zS n k T v' c' e s' ∧ (zA n v c s → zA n v' c' s')) := by
  obtain ⟨hc, hr, he, hre, hw, hv⟩ := h
  have hn := hc.2.1
  unfold f_X8_refusalToPour f_X10_pours
  rw [zt_has hc.1 hc.2.1, Option.bind_some]
  by_cases q : ∀ i, i < n → x ≠ Int32.ofNat i
  · refine Or.inl ⟨3, 1, by rw [if_pos q, if_pos rfl], Or.inl ⟨rfl, rfl⟩, fun m => ?_⟩
    rw [zt_isC hr.1 hc.2.1, if_pos q, Option.bind_some, if_pos rfl]
    unfold f_X10_pours_14
    rw [zt_thr1, Option.bind_some, if_neg zt_10]
  · have em : ∀ m, f_X10_isCandle m s x = some 1 := fun m => by rw [zt_isC hr.1 hc.2.1, if_neg q]
    rw [if_neg q, if_neg zt_10]
    obtain ⟨i, q⟩ := Classical.not_forall.mp q
    obtain ⟨hi, q⟩ := Classical.not_imp.mp q
    obtain rfl := Classical.not_not.mp q
    have hq := hc.2.2 i hi
    have hm := hr.2 i hi
    by_cases q1 : u < 1 ∨ 999 < u
    · refine Or.inl ⟨2, 2, ?_, Or.inr (Or.inl ⟨rfl, rfl⟩), fun m => ?_⟩
      · by_cases q2 : u < 1
        · rw [if_pos q2]
        · rw [if_neg q2, if_neg (Int32.not_le.mpr (q1.resolve_left q2))]
      · rw [em, Option.bind_some, if_neg zt_10]
        unfold f_X10_pours_14
        rw [zt_thr0, Option.bind_some, if_pos rfl, zt_isIn, if_pos q1, Option.bind_some, if_pos rfl]
        unfold f_X10_pours_38
        rw [zt_thr1, Option.bind_some, if_neg zt_10]
        rfl
    · have q2 : ¬ u < 1 := fun p => q1 (Or.inl p)
      have q3 : u ≤ 999 := Int32.not_lt.mp (fun p => q1 (Or.inr p))
      have iu : 1 ≤ u.toInt ∧ u.toInt ≤ 999 := ⟨Int32.le_iff_toInt_le.mp (Int32.not_lt.mp q2), Int32.le_iff_toInt_le.mp q3⟩
      have e38 : ∀ m, (f_X10_isCandle m s (Int32.ofNat i)).bind (fun u1 => if u1 = 0 then f_X10_pours_14 m s (Int32.ofNat i) u 1 else f_X10_pours_14 m s (Int32.ofNat i) u 0) = f_X10_pours_38 (zTh m 0) s (Int32.ofNat i) u 0 := fun m => by
        rw [em, Option.bind_some, if_neg zt_10]
        unfold f_X10_pours_14
        rw [zt_thr0, Option.bind_some, if_pos rfl, zt_isIn, if_neg q1, Option.bind_some, if_neg zt_10]
      rw [if_neg q2, if_pos q3, zt_gi (by omega) (by omega), zt_cl (by omega), zt_gj (by omega) (by omega)]
      by_cases q4 : c.2.2.2.1 i = 0
      · rw [if_pos q4]
        by_cases q5 : c.2.1 i + u ≤ 999
        · rw [if_pos q5]
          have e75 : ∀ m, f_X10_pours_38 (zTh m 0) s (Int32.ofNat i) u 0 = f_X10_pours_75 (zTh m 0) s (Int32.ofNat i) u 0 := fun m => by
            unfold f_X10_pours_38
            rw [zt_thr0, Option.bind_some, if_pos rfl, zt_of3 (by omega), Option.bind_some, hm.2.2.2, q4, if_neg (by decide), zt_of1 (by omega), Option.bind_some, hm.2.1, if_pos q5]
            rfl
          by_cases q6 : u ≤ v.2.1
          · have iw : (c.2.1 i + u).toInt = (c.2.1 i).toInt + u.toInt := zt_tadd (by omega) (by omega)
            have i9 : (c.2.1 i + u).toInt ≤ 999 := Int32.le_iff_toInt_le.mp q5
            have hl : c.2.2.2.1 i = 0 ∨ c.2.2.2.1 i = 1 ∧ c.2.1 i + u ≠ 0 := Or.inl q4
            have h1 := zt_c1 (s' := upd (upd s 2 (s 2 - u)) (11 + 4 * i) (c.2.1 i + u)) (w := c.2.1 i + u) (l := c.2.2.2.1 i) hc hr hi (by omega) hl (by simp (disch := omega) only [upd, if_neg, if_pos, if_true, if_false, ↓reduceIte]) (by simp (disch := omega) only [upd, if_neg, if_pos, if_true, if_false, ↓reduceIte]) (by simp (disch := omega) only [upd, if_neg, if_pos, if_true, if_false, ↓reduceIte]; exact hm.2.2.2) (fun y h1 h2 h3 h4 => by simp (disch := omega) only [upd, if_neg, if_pos, if_true, if_false, ↓reduceIte])
            rw [show upd c.2.2.2.1 i (c.2.2.2.1 i) = c.2.2.2.1 from zt_upd_same] at h1
            refine Or.inr ⟨by rw [if_pos q6], c.2.1 i + u, (v.1, v.2.1 - u, v.2.2.1, v.2.2.2.1, v.2.2.2.2.1, v.2.2.2.2.2.1, v.2.2.2.2.2.2.1, v.2.2.2.2.2.2.2), (c.1, upd c.2.1 i (c.2.1 i + u), c.2.2.1, c.2.2.2.1, c.2.2.2.2), upd (upd s 2 (s 2 - u)) (11 + 4 * i) (c.2.1 i + u), ?_, fun m => ?_, ⟨h1.1, h1.2, he, zt_er hre he.2.1 (by simp (disch := omega) only [upd, if_neg, if_pos, if_true, if_false, ↓reduceIte]) (fun y h1 h2 => by simp (disch := omega) only [upd, if_neg, if_pos, if_true, if_false, ↓reduceIte]), hw, ?_⟩, fun ha => ⟨?_, ?_, ?_, fun j h1 h2 => ?_⟩⟩
            · unfold f_X8_pourFromDish
              rw [zt_hasY hc hi, Option.bind_some, if_neg zt_10, zt_gi (by omega) (by omega), zt_gi (by omega) (by omega), zt_gi (by omega) (by omega), zt_cl (by omega), zt_updS]
            · rw [e38, e75]
              unfold f_X10_pours_75
              rw [zt_thr0, Option.bind_some, if_pos rfl, zt_G2, zt_n2, if_pos (show u ≤ s 2 by rw [hv.2.2.1]; exact q6)]
              unfold f_X10_pours_98
              rw [zt_thr0, Option.bind_some, if_pos rfl, zt_G2, zt_G2, zt_n2, zt_of1 (by omega), Option.bind_some, zt_updN (by omega), hm.2.1, zt_set1 (by omega), Option.bind_some, zt_of1 (by omega), Option.bind_some, zt_updS]
              rfl
            · unfold zVR at *
              simp (disch := omega) only [upd, if_neg, if_pos, if_true, if_false, ↓reduceIte]
              exact ⟨hv.1, hv.2.1, by rw [hv.2.2.1], hv.2.2.2⟩
            · have a1 := ha.1
              simp (disch := omega) only [upd, if_neg, if_pos, if_true, if_false, ↓reduceIte]
              rw [zt_sum_upd hi, a1, Int32.add_comm (c.2.1 i) u, Int32.add_sub_cancel, Int32.sub_eq_add_neg]
              have e0 : u + -u = 0 := by rw [← Int32.sub_eq_add_neg, Int32.sub_self]
              have e1 : zt_sum c.2.1 n + u + (v.2.1 + -u) + v.2.2.2.1 = zt_sum c.2.1 n + v.2.1 + v.2.2.2.1 + (u + -u) := by ac_rfl
              rw [e1, e0, Int32.add_zero]
            · simp (disch := omega) only [upd, if_neg, if_pos, if_true, if_false, ↓reduceIte]
              exact ha.2.1
            · simp (disch := omega) only [upd, if_neg, if_pos, if_true, if_false, ↓reduceIte]
              exact ha.2.2.1
            · simp (disch := omega) only [upd, if_neg, if_pos, if_true, if_false, ↓reduceIte]
              exact ha.2.2.2 j h1 h2
          · refine Or.inl ⟨10, 4, by rw [if_neg q6], Or.inr (Or.inr (Or.inr ⟨rfl, rfl⟩)), fun m => ?_⟩
            rw [e38, e75]
            unfold f_X10_pours_75
            rw [zt_thr0, Option.bind_some, if_pos rfl, zt_G2, zt_n2, hv.2.2.1, if_neg q6]
            unfold f_X10_pours_98
            rw [zt_thr1, Option.bind_some, if_neg zt_10]
            rfl
        · refine Or.inl ⟨7, 3, by rw [if_neg q5], Or.inr (Or.inr (Or.inl ⟨Or.inr rfl, rfl⟩)), fun m => ?_⟩
          rw [e38]
          unfold f_X10_pours_38
          rw [zt_thr0, Option.bind_some, if_pos rfl, zt_of3 (by omega), Option.bind_some, hm.2.2.2, q4, if_neg (by decide), zt_of1 (by omega), Option.bind_some, hm.2.1, if_neg q5]
          unfold f_X10_pours_70 f_X10_pours_75
          rw [zt_thr1, Option.bind_some, if_neg zt_10]
          rfl
      · rw [if_neg q4]
        refine Or.inl ⟨5, 3, rfl, Or.inr (Or.inr (Or.inl ⟨Or.inl rfl, rfl⟩)), fun m => ?_⟩
        rw [e38]
        unfold f_X10_pours_38
        rw [zt_thr0, Option.bind_some, if_pos rfl, zt_of3 (by omega), Option.bind_some, hm.2.2.2, (hq.2.2.2.resolve_left q4).1, if_pos rfl]
        unfold f_X10_pours_70 f_X10_pours_75
        rw [zt_thr1, Option.bind_some, if_neg zt_10]
        rfl
end OP
