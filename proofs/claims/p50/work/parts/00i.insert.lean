/-! THE THEORY, 8: an event put in -/
theorem zt_114 {m : MdT} {s : Nat → Int32} {p : Nat} (hp : p < 19) (x1 x2 x3 : Int32) (F : Nat) : f_X10_plans_114 (F + 4) m s x1 x2 x3 (Int32.ofNat (p + 1)) 0 = some (m, upd (upd (upd s (50 + 3 * (p + 1)) (s (50 + 3 * p))) (51 + 3 * (p + 1)) (s (51 + 3 * p))) (52 + 3 * (p + 1)) (s (52 + 3 * p))) := by
  have st : ∀ (G b : Nat) (t : Nat → Int32), b < 3 → f_X10_plans_114 (G + 1) m t x1 x2 x3 (Int32.ofNat (p + 1)) (Int32.ofNat b) = f_X10_plans_114 G m (upd t (50 + 3 * (p + 1) + b) (t (50 + 3 * p + b))) x1 x2 x3 (Int32.ofNat (p + 1)) (Int32.ofNat (b + 1)) := fun G b t hb => by
    rw [f_X10_plans_114, if_neg (show ¬ (3 : Int32) ≤ Int32.ofNat b from fun q => absurd ((zt_le (a := 3) (by omega) (by omega)).mp q) (by omega)), zt_pred (by omega), Nat.add_sub_cancel, zt_oe (by omega) hb, Option.bind_some, zt_i5, zt_gi (by omega) (by omega), zt_cl (by omega), zt_succ]
  have e0 : (0 : Int32) = Int32.ofNat 0 := rfl
  rw [e0, st (F + 3) 0 s (by omega), st (F + 2) 1 _ (by omega), st (F + 1) 2 _ (by omega), f_X10_plans_114, if_pos (by decide)]
  rw [show 50 + 3 * (p + 1) + 1 = 51 + 3 * (p + 1) by omega, show 50 + 3 * (p + 1) + 2 = 52 + 3 * (p + 1) by omega, show 50 + 3 * (p + 1) + 0 = 50 + 3 * (p + 1) by omega, show 50 + 3 * p + 1 = 51 + 3 * p by omega, show 50 + 3 * p + 2 = 52 + 3 * p by omega, show 50 + 3 * p + 0 = 50 + 3 * p by omega]
  rw [zt_updN (show 51 + 3 * p ≠ 50 + 3 * (p + 1) by omega), zt_updN (show 52 + 3 * p ≠ 51 + 3 * (p + 1) by omega), zt_updN (show 52 + 3 * p ≠ 50 + 3 * (p + 1) by omega)]
theorem zt_insZ {e : EvT} {s : Nat → Int32} {m : MdT} {k p : Nat} {x1 x2 x3 : Int32} {f : EvT} {t : Nat → Int32} (hk : k < 20) (h3 : x3 = 0 ∨ x3 = 1) (hp : p ≤ k) (hc : f.2.2.2 = Int32.ofNat k) (h4 : t 4 = Int32.ofNat k) (hy : ∀ y, y < 50 → t y = s y)
    (h1 : ∀ j, j < p → f.1 j = e.1 j ∧ f.2.1 j = e.2.1 j ∧ f.2.2.1 j = e.2.2.1 j) (h2 : ∀ j, p < j → j ≤ k → f.1 j = e.1 (j - 1) ∧ f.2.1 j = e.2.1 (j - 1) ∧ f.2.2.1 j = e.2.2.1 (j - 1)) (h5 : ∀ j, j ≤ k → j ≠ p → t (50 + 3 * j) = f.1 j ∧ t (51 + 3 * j) = f.2.1 j ∧ t (52 + 3 * j) = f.2.2.1 j) :
    ∃ (f' : EvT) (t' : Nat → Int32), f_X3_insert_49 f x1 x2 x3 (Int32.ofNat p) = some (Int32.ofNat p, f') ∧ f_X10_plans_157 m t x1 x2 x3 (Int32.ofNat p) = some (Int32.ofNat p, m, t') ∧ f'.2.2.2 = Int32.ofNat (k + 1) ∧ zER (k + 1) f' t' ∧ (∀ y, y < 50 → y ≠ 4 → t' y = s y) ∧ ∀ j, j ≤ k → f'.1 j = zIn e.1 p x1 j ∧ f'.2.1 j = zIn e.2.1 p x2 j ∧ f'.2.2.1 j = zIn e.2.2.1 p x3 j := by
  refine ⟨(upd f.1 p x1, upd f.2.1 p x2, upd f.2.2.1 p x3, f.2.2.2 + 1), upd (upd (upd (upd t (50 + 3 * p) x1) (51 + 3 * p) x2) (52 + 3 * p) x3) 4 (Int32.ofNat k + 1), ?_, ?_, ?_, ⟨?_, fun j hj => ?_⟩, fun y g1 g2 => ?_, fun j hj => ?_⟩
  · unfold f_X3_insert_49
    rw [zt_gi (by omega) (by omega), zt_gi (by omega) (by omega), zt_gi (by omega) (by omega), zt_cl (by omega), zt_bool h3]
  · unfold f_X10_plans_157
    have i0 : (50 : Int32) + (3 : Int32) * Int32.ofNat p + 0 = Int32.ofNat (50 + 3 * p) := zt_i5 p 0
    have i1 : (50 : Int32) + (3 : Int32) * Int32.ofNat p + 1 = Int32.ofNat (51 + 3 * p) := by
      have := zt_i5 p 1
      rwa [show 50 + 3 * p + 1 = 51 + 3 * p by omega] at this
    have i2 : (50 : Int32) + (3 : Int32) * Int32.ofNat p + 2 = Int32.ofNat (52 + 3 * p) := by
      have := zt_i5 p 2
      rwa [show 50 + 3 * p + 2 = 52 + 3 * p by omega] at this
    rw [i0, i1, i2, zt_gi (by omega) (by omega), zt_gi (by omega) (by omega), zt_gi (by omega) (by omega), zt_G4, zt_G4, zt_n4, zt_cl (by omega), zt_cl (by omega), zt_cl (by omega), zt_updN (show 4 ≠ 52 + 3 * p by omega), zt_updN (show 4 ≠ 51 + 3 * p by omega), zt_updN (show 4 ≠ 50 + 3 * p by omega), h4]
  · show f.2.2.2 + 1 = _
    rw [hc, zt_succ]
  · rw [zt_updS, zt_succ]
  · by_cases hjp : j = p
    · subst hjp
      simp (disch := omega) only [upd, if_neg, if_pos, if_true, if_false, ↓reduceIte]
      exact ⟨trivial, trivial, trivial⟩
    · have q := h5 j (by omega) hjp
      simp (disch := omega) only [upd, if_neg, if_pos, if_true, if_false, ↓reduceIte]
      exact q
  · simp (disch := omega) only [upd, if_neg, if_pos, if_true, if_false, ↓reduceIte]
    exact hy y g1
  · unfold zIn
    by_cases g1 : j < p
    · have q := h1 j g1
      simp (disch := omega) only [upd, if_neg, if_pos, if_true, if_false, ↓reduceIte]
      exact q
    · by_cases g2 : j = p
      · subst g2
        simp (disch := omega) only [upd, if_neg, if_pos, if_true, if_false, ↓reduceIte]
        exact ⟨trivial, trivial, trivial⟩
      · have q := h2 j (by omega) hj
        simp (disch := omega) only [upd, if_neg, if_pos, if_true, if_false, ↓reduceIte]
        exact q
/-- the search for the place: class and reference -/
theorem zt_ins {e : EvT} {s : Nat → Int32} {m : MdT} {k : Nat} {x1 x2 x3 : Int32} (hk : k < 20) (hl : ∀ j, j < k → e.2.2.1 j = 0 ∨ e.2.2.1 j = 1) (h3 : x3 = 0 ∨ x3 = 1) (he : e.2.2.2 = Int32.ofNat k) (hs : zER k e s) : ∀ (p F G : Nat) (f : EvT) (t : Nat → Int32), p ≤ k → p < F → p < G → f.2.2.2 = Int32.ofNat k → t 4 = Int32.ofNat k → (∀ y, y < 50 → t y = s y) →
    (∀ j, j < p → f.1 j = e.1 j ∧ f.2.1 j = e.2.1 j ∧ f.2.2.1 j = e.2.2.1 j) → (∀ j, p < j → j ≤ k → f.1 j = e.1 (j - 1) ∧ f.2.1 j = e.2.1 (j - 1) ∧ f.2.2.1 j = e.2.2.1 (j - 1)) → (∀ j, j ≤ k → j ≠ p → t (50 + 3 * j) = f.1 j ∧ t (51 + 3 * j) = f.2.1 j ∧ t (52 + 3 * j) = f.2.2.1 j) → (∀ j, p ≤ j → j < k → ¬ e.1 j ≤ x1) →
    ∃ (q : Nat) (f' : EvT) (t' : Nat → Int32), q ≤ p ∧ f_X3_insert_15 F f x1 x2 x3 (Int32.ofNat p) = some (Int32.ofNat q, f') ∧ f_X10_plans_93 G m t x1 x2 x3 (Int32.ofNat p) = some (Int32.ofNat q, m, t') ∧ (q = 0 ∨ e.1 (q - 1) ≤ x1) ∧ (∀ j, q ≤ j → j < k → ¬ e.1 j ≤ x1) ∧ f'.2.2.2 = Int32.ofNat (k + 1) ∧ zER (k + 1) f' t' ∧ (∀ y, y < 50 → y ≠ 4 → t' y = s y) ∧ ∀ j, j ≤ k → f'.1 j = zIn e.1 q x1 j ∧ f'.2.1 j = zIn e.2.1 q x2 j ∧ f'.2.2.1 j = zIn e.2.2.1 q x3 j := by
  intro p
  induction p with
  | zero =>
    intro F G f t hp hF hG hc h4 hy h1 h2 h5 h6
    obtain ⟨F, rfl⟩ : ∃ F', F = F' + 1 := ⟨F - 1, by omega⟩
    obtain ⟨G, rfl⟩ : ∃ G', G = G' + 1 := ⟨G - 1, by omega⟩
    rw [f_X3_insert_15, f_X10_plans_93, if_pos (show Int32.ofNat 0 ≤ 0 by decide), if_pos (show Int32.ofNat 0 ≤ 0 by decide)]
    have hz := zt_insZ (e := e) (s := s) (m := m) (x1 := x1) (x2 := x2) hk h3 (p := 0) (by omega) hc h4 hy h1 h2 h5
    obtain ⟨f', t', z1, z2, z3, z4, z5, z6⟩ := hz
    exact ⟨0, f', t', Nat.le_refl _, z1, z2, Or.inl rfl, h6, z3, z4, z5, z6⟩
  | succ p ih =>
    intro F G f t hp hF hG hc h4 hy h1 h2 h5 h6
    obtain ⟨F, rfl⟩ : ∃ F', F = F' + 1 := ⟨F - 1, by omega⟩
    obtain ⟨G, rfl⟩ : ∃ G', G = G' + 1 := ⟨G - 1, by omega⟩
    have hfp := h1 p (by omega)
    have htp := h5 p (by omega) (by omega)
    rw [f_X3_insert_15, f_X10_plans_93, if_neg (zt_np (by omega) (by omega)), if_neg (zt_np (by omega) (by omega)), zt_pred (by omega), Nat.add_sub_cancel, zt_gi (by omega) (by omega), zt_cl (by omega), zt_oe0 (by omega), Option.bind_some, htp.1, hfp.1]
    by_cases hq : e.1 p ≤ x1
    · rw [if_pos hq, if_pos hq]
      have hz := zt_insZ (e := e) (s := s) (m := m) (x1 := x1) (x2 := x2) hk h3 (p := p + 1) (by omega) hc h4 hy h1 h2 h5
      obtain ⟨f', t', z1, z2, z3, z4, z5, z6⟩ := hz
      exact ⟨p + 1, f', t', Nat.le_refl _, z1, z2, Or.inr hq, h6, z3, z4, z5, z6⟩
    · rw [if_neg hq, if_neg hq, zt_move (by omega) (by omega) (by rw [hfp.2.2]; exact hl p (by omega)), Option.bind_some]
      have hx := zt_114 (m := m) (s := t) (p := p) (by omega) x1 x2 x3 (xFuel - 4)
      rw [show xFuel - 4 + 4 = xFuel from rfl] at hx
      rw [hx, Option.bind_some]
      have e1 : Int32.ofNat (p + 1) + -1 = Int32.ofNat p := by
        rw [← Int32.sub_eq_add_neg]; exact zt_pred (by omega)
      rw [e1]
      have hr := ih F G (upd f.1 (p + 1) (f.1 p), upd f.2.1 (p + 1) (f.2.1 p), upd f.2.2.1 (p + 1) (f.2.2.1 p), f.2.2.2) (upd (upd (upd t (50 + 3 * (p + 1)) (t (50 + 3 * p))) (51 + 3 * (p + 1)) (t (51 + 3 * p))) (52 + 3 * (p + 1)) (t (52 + 3 * p))) (by omega) (by omega) (by omega) hc (by simp (disch := omega) only [upd, if_neg, if_pos, if_true, if_false, ↓reduceIte]; exact h4) (fun y h => by simp (disch := omega) only [upd, if_neg, if_pos, if_true, if_false, ↓reduceIte]; exact hy y h) (fun j hj => ?_) (fun j h7 h8 => ?_) (fun j h7 h8 => ?_) (fun j h7 h8 => ?_)
      · obtain ⟨q, f', t', z0, z⟩ := hr
        exact ⟨q, f', t', by omega, z⟩
      · simp only [zt_updN (show j ≠ p + 1 by omega)]
        exact h1 j (by omega)
      · by_cases hj : j = p + 1
        · subst hj
          simp only [zt_updS, Nat.add_sub_cancel]
          exact hfp
        · simp only [zt_updN hj]
          exact h2 j (by omega) h8
      · by_cases hj : j = p + 1
        · subst hj
          simp (disch := omega) only [upd, if_neg, if_pos, if_true, if_false, ↓reduceIte]
          exact htp
        · simp (disch := omega) only [upd, if_neg, if_pos, if_true, if_false, ↓reduceIte]
          exact h5 j h7 hj
      · by_cases hj : j = p
        · subst hj; exact hq
        · exact h6 j (by omega) h8
section EW
variable {n k : Nat} {T : Int} {v : StS} {c : CdT} {e : EvT} {s : Nat → Int32}
theorem zo_plans (m : MdT) (x1 x2 x3 : Int32) (h3 : x3 = 0 ∨ x3 = 1) (hT : T < 2147480000) (h : zS n k T v c e s) :
    (∃ (r : Nat) (t : Int32), f_X8_refusalToSchedule v c e x1 x2 = some r ∧ (r = 2 ∧ t = 1 ∨ r = 3 ∧ t = 2 ∨ r = 8 ∧ t = 3) ∧ f_X10_plans m s x1 x2 x3 = some (0, zTh m t, s)) ∨
    (f_X8_refusalToSchedule v c e x1 x2 = some 0 ∧ ∃ (b : Int32) (e' : EvT) (s' : Nat → Int32), f_X3_insert e x1 x2 x3 = some (b, e') ∧ f_X10_plans m s x1 x2 x3 = some (b, zTh m 0, s') ∧ zS n (k + 1) T v c e' s' ∧ (zA n v c s → zA n v c s')) := by
  obtain ⟨hc, hr, he, hre, hw, hv⟩ := h
  have hn := hc.2.1
  have hk := he.2.1
  have t0 := hw.1
  have t1 := hw.2.1
  have e1 : (1 : Int32).toInt = 1 := rfl
  have e9 : (999 : Int32).toInt = 999 := rfl
  have ea : (v.2.2.1 + 1).toInt = T + 1 := by rw [zt_tadd (by omega) (by omega)]; omega
  have eb : (v.2.2.1 + 999).toInt = T + 999 := by rw [zt_tadd (by omega) (by omega)]; omega
  have hI : (x1 < v.2.2.1 + 1 ∨ v.2.2.1 + 999 < x1) ↔ (x1.toInt ≤ T ∨ T + 999 < x1.toInt) := by
    rw [Int32.lt_iff_toInt_lt, Int32.lt_iff_toInt_lt, ea, eb]; omega
  have eM : f_X10_plans m s x1 x2 x3 = if (x1.toInt ≤ T ∨ T + 999 < x1.toInt) then f_X10_plans_31 m s x1 x2 x3 1 else f_X10_plans_31 m s x1 x2 x3 0 := by
    unfold f_X10_plans
    rw [zt_G0, zt_G0, zt_n0, hv.1, zt_isIn, Option.bind_some]
    by_cases q : x1.toInt ≤ T ∨ T + 999 < x1.toInt
    · rw [if_pos (hI.mpr q), if_pos rfl, if_pos q]
    · rw [if_neg (fun p => q (hI.mp p)), if_neg zt_10, if_neg q]
  unfold f_X8_refusalToSchedule
  by_cases q : x1.toInt ≤ T ∨ T + 999 < x1.toInt
  · refine Or.inl ⟨2, 1, ?_, Or.inl ⟨rfl, rfl⟩, ?_⟩
    · by_cases q1 : x1 ≤ v.2.2.1
      · rw [if_pos q1]
      · have q2 : ¬ x1.toInt ≤ T := fun p => q1 (Int32.le_iff_toInt_le.mpr (by omega))
        have q3 := x1.toInt_lt
        have ed : (x1 - v.2.2.1).toInt = x1.toInt - T := by rw [zt_tsub (by omega) (by omega)]; omega
        rw [if_neg q1, if_neg (fun p => by have := Int32.le_iff_toInt_le.mp p; omega)]
    · rw [eM, if_pos q]
      unfold f_X10_plans_31
      rw [zt_thr1, Option.bind_some, if_neg zt_10]
  · have q1 : ¬ x1 ≤ v.2.2.1 := fun p => q (Or.inl (by have := Int32.le_iff_toInt_le.mp p; omega))
    have ed : (x1 - v.2.2.1).toInt = x1.toInt - T := by rw [zt_tsub (by omega) (by omega)]; omega
    have q2 : x1 - v.2.2.1 ≤ 999 := Int32.le_iff_toInt_le.mpr (by omega)
    have eM1 : f_X10_plans m s x1 x2 x3 = f_X10_plans_31 m s x1 x2 x3 0 := by rw [eM, if_neg q]
    rw [if_neg q1, if_pos q2, zt_has hc.1 hc.2.1, Option.bind_some]
    by_cases q3 : ∀ i, i < n → x2 ≠ Int32.ofNat i
    · refine Or.inl ⟨3, 2, by rw [if_pos q3, if_pos rfl], Or.inr (Or.inl ⟨rfl, rfl⟩), ?_⟩
      rw [eM1]
      unfold f_X10_plans_31
      rw [zt_thr0, Option.bind_some, if_pos rfl, zt_isC hr.1 hc.2.1, if_pos q3, Option.bind_some, if_pos rfl]
      unfold f_X10_plans_52
      rw [zt_thr1, Option.bind_some, if_neg zt_10]
      rfl
    · have eM2 : f_X10_plans m s x1 x2 x3 = f_X10_plans_52 (zTh m 0) s x1 x2 x3 0 := by
        rw [eM1]
        unfold f_X10_plans_31
        rw [zt_thr0, Option.bind_some, if_pos rfl, zt_isC hr.1 hc.2.1, if_neg q3, Option.bind_some, if_neg zt_10]
      rw [if_neg q3, if_neg zt_10]
      by_cases q4 : k = 20
      · refine Or.inl ⟨8, 3, ?_, Or.inr (Or.inr ⟨rfl, rfl⟩), ?_⟩
        · unfold f_X3_isFull
          rw [he.1, q4, if_neg (by decide), Option.bind_some, if_neg zt_10]
        · rw [eM2]
          unfold f_X10_plans_52
          rw [zt_thr0, Option.bind_some, if_pos rfl, zt_G4, zt_n4, hre.1, q4, if_pos (show Int32.ofNat 20 = 20 from rfl)]
          unfold f_X10_plans_76
          rw [zt_thr1, Option.bind_some, if_neg zt_10]
          rfl
      · have hF : f_X3_isFull e = some 0 := by
          unfold f_X3_isFull
          rw [he.1, if_pos (show Int32.ofNat k < 20 from (zt_lt (b := 20) (by omega) (by omega)).mpr (by omega))]
        obtain ⟨i, q3⟩ := Classical.not_forall.mp q3
        obtain ⟨hi, q3⟩ := Classical.not_imp.mp q3
        have q3 := Classical.not_not.mp q3
        obtain ⟨p, f, t, z0, z1, z2, z3, z4, z5, z6, z7, z8⟩ := zt_ins (e := e) (s := s) (m := zTh m 0) (x1 := x1) (x2 := x2) (x3 := x3) (k := k) (by omega) (fun j hj => (he.2.2.1 j hj).2.1) h3 he.1 hre k xFuel xFuel e s (Nat.le_refl _) (by unfold xFuel; omega) (by unfold xFuel; omega) he.1 hre.1 (fun _ _ => rfl) (fun j _ => ⟨rfl, rfl, rfl⟩) (fun j h1 h2 => absurd h1 (by omega)) (fun j h1 h2 => hre.2 j (by omega)) (fun j h1 h2 => absurd h1 (by omega))
        refine Or.inr ⟨by rw [hF, Option.bind_some, if_pos rfl], Int32.ofNat p, f, t, ?_, ?_, ⟨hc, ⟨by rw [z7 3 (by omega) (by omega)]; exact hr.1, fun j hj => ?_⟩, ⟨z5, by omega, fun j hj => ?_, fun j hj => ?_⟩, z6, hw, ?_⟩, fun ha => ?_⟩
        · unfold f_X3_insert
          rw [hF, Option.bind_some, if_pos rfl, he.1]
          exact z1
        · rw [eM2]
          unfold f_X10_plans_52
          rw [zt_thr0, Option.bind_some, if_pos rfl, zt_G4, zt_n4, hre.1, if_neg (show ¬ Int32.ofNat k = 20 from fun p => q4 ((zt_eq (b := 20) (by omega) (by omega)).mp p))]
          unfold f_X10_plans_76
          rw [zt_thr0, Option.bind_some, if_pos rfl, zt_G4, zt_n4, hre.1]
          exact z2
        · rw [z7 _ (by omega) (by omega), z7 _ (by omega) (by omega), z7 _ (by omega) (by omega), z7 _ (by omega) (by omega)]
          exact hr.2 j hj
        · obtain ⟨w1, w2, w3⟩ := z8 j (by omega)
          rw [w1, w2, w3]
          unfold zIn
          by_cases g1 : j < p
          · rw [if_pos g1, if_pos g1, if_pos g1]; exact he.2.2.1 j (by omega)
          · by_cases g2 : j = p
            · rw [if_neg g1, if_neg g1, if_neg g1, if_pos g2, if_pos g2, if_pos g2]
              exact ⟨⟨i, hi, q3⟩, h3, by omega, by omega⟩
            · rw [if_neg g1, if_neg g1, if_neg g1, if_neg g2, if_neg g2, if_neg g2]; exact he.2.2.1 (j - 1) (by omega)
        · rw [(z8 j (by omega)).1, (z8 (j + 1) (by omega)).1]
          unfold zIn
          by_cases g1 : j + 1 < p
          · rw [if_pos g1, if_pos (by omega)]; exact he.2.2.2 j (by omega)
          · by_cases g2 : j + 1 = p
            · rw [if_neg g1, if_pos g2, if_pos (by omega)]
              have := z3.resolve_left (by omega)
              rw [show p - 1 = j by omega] at this
              exact Int32.le_iff_toInt_le.mp this
            · by_cases g3 : j = p
              · rw [if_neg g1, if_neg g2, if_neg (by omega), if_pos g3, Nat.add_sub_cancel]
                have := z4 j (by omega) (by omega)
                rw [Int32.le_iff_toInt_le] at this
                omega
              · rw [if_neg g1, if_neg g2, if_neg (by omega), if_neg g3, Nat.add_sub_cancel]
                have := he.2.2.2 (j - 1) (by omega)
                rw [show j - 1 + 1 = j by omega] at this
                exact this
        · unfold zVR at *
          rw [z7 0 (by omega) (by omega), z7 1 (by omega) (by omega), z7 2 (by omega) (by omega), z7 5 (by omega) (by omega), z7 6 (by omega) (by omega), z7 7 (by omega) (by omega), z7 8 (by omega) (by omega), z7 9 (by omega) (by omega)]
          exact hv
        · unfold zA at *
          rw [z7 8 (by omega) (by omega)]
          refine ⟨ha.1, ha.2.1, ha.2.2.1, fun j h1 h2 => ?_⟩
          rw [z7 _ (by omega) (by omega)]
          exact ha.2.2.2 j h1 h2
end EW
