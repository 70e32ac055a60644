/-! THE THEORY, 7: events -/
theorem zt_i5 (i b : Nat) : (50 : Int32) + (3 : Int32) * Int32.ofNat i + Int32.ofNat b = Int32.ofNat (50 + 3 * i + b) := by
  show Int32.ofNat 50 + Int32.ofNat 3 * Int32.ofNat i + Int32.ofNat b = _
  rw [zt_mul, zt_add, zt_add]
/-- a row of events shifted down behind p -/
def zRm (f : Nat → Int32) (p : Nat) : Nat → Int32 := fun j => if j < p then f j else f (j + 1)
/-- x put in at p -/
def zIn (f : Nat → Int32) (p : Nat) (x : Int32) : Nat → Int32 := fun j => if j < p then f j else if j = p then x else f (j - 1)
theorem zt_move {e : EvT} {a b : Nat} (ha : a < 20) (hb : b < 20) (hl : e.2.2.1 a = 0 ∨ e.2.2.1 a = 1) : f_X3_move e (Int32.ofNat a) (Int32.ofNat b) = some (upd e.1 b (e.1 a), upd e.2.1 b (e.2.1 a), upd e.2.2.1 b (e.2.2.1 a), e.2.2.2) := by
  unfold f_X3_move
  rw [zt_gi ha (by omega), zt_gi hb (by omega), zt_gi ha (by omega), zt_gi hb (by omega), zt_gi ha (by omega), zt_gi hb (by omega), zt_cl (by omega), zt_cl (by omega), zt_bool hl]
theorem zt_rem_21 {e : EvT} {p k : Nat} (hk : k < 20) (hl : ∀ j, j ≤ k → e.2.2.1 j = 0 ∨ e.2.2.1 j = 1) : ∀ (r F i : Nat) (f : EvT), i + r = k → r < F → p ≤ i → f.2.2.2 = Int32.ofNat k → (∀ j, j < i → f.1 j = zRm e.1 p j ∧ f.2.1 j = zRm e.2.1 p j ∧ f.2.2.1 j = zRm e.2.2.1 p j) → (∀ j, i ≤ j → j ≤ k → f.1 j = e.1 j ∧ f.2.1 j = e.2.1 j ∧ f.2.2.1 j = e.2.2.1 j) → ∃ f' : EvT, f_X3_remove_21 F f (Int32.ofNat i) = some f' ∧ f'.2.2.2 = Int32.ofNat k ∧ ∀ j, j < k → f'.1 j = zRm e.1 p j ∧ f'.2.1 j = zRm e.2.1 p j ∧ f'.2.2.1 j = zRm e.2.2.1 p j
  | 0, F + 1, i, f, h, hF, hp, hc, h1, h2 => by
    have : i = k := by omega
    subst this
    refine ⟨f, ?_, hc, h1⟩
    rw [f_X3_remove_21, hc, if_pos ((zt_le (by omega) (by omega)).mpr (Nat.le_refl _))]
  | r + 1, F + 1, i, f, h, hF, hp, hc, h1, h2 => by
    rw [f_X3_remove_21, hc, if_neg (fun q => absurd ((zt_le (by omega) (by omega)).mp q) (by omega)), zt_succ, zt_move (by omega) (by omega) (by rw [(h2 (i + 1) (by omega) (by omega)).2.2]; exact hl _ (by omega)), Option.bind_some]
    refine zt_rem_21 hk hl r F (i + 1) _ (by omega) (by omega) (by omega) hc (fun j hj => ?_) (fun j h3 h4 => ?_)
    · by_cases hji : j = i
      · subst hji
        simp only [zt_updS]
        have q := h2 (j + 1) (by omega) (by omega)
        simp only [zRm, if_neg (show ¬ j < p by omega)]
        exact q
      · simp only [zt_updN hji]
        exact h1 j (by omega)
    · simp only [zt_updN (show j ≠ i by omega)]
      exact h2 j (by omega) h4
theorem zt_remove {e : EvT} {p k : Nat} (hk : k < 20) (hp : p ≤ k) (hc : e.2.2.2 = Int32.ofNat (k + 1)) (hl : ∀ j, j ≤ k → e.2.2.1 j = 0 ∨ e.2.2.1 j = 1) : ∃ f' : EvT, f_X3_remove e (Int32.ofNat p) = some f' ∧ f'.2.2.2 = Int32.ofNat k ∧ ∀ j, j < k → f'.1 j = zRm e.1 p j ∧ f'.2.1 j = zRm e.2.1 p j ∧ f'.2.2.1 j = zRm e.2.2.1 p j := by
  unfold f_X3_remove
  rw [zt_hasE hc (by omega), if_neg (fun q => q p (by omega) rfl), Option.bind_some, if_neg zt_10, hc, zt_pred (by omega), Nat.add_sub_cancel]
  exact zt_rem_21 hk hl (k - p) xFuel p _ (by omega) (by unfold xFuel; omega) (Nat.le_refl _) rfl (fun j hj => by simp only [zRm, if_pos hj]; exact ⟨trivial, trivial, trivial⟩) (fun j _ _ => ⟨rfl, rfl, rfl⟩)
/-- the reference's row with an event taken out -/
theorem zt_rem_56 {m : MdT} {s : Nat → Int32} {k : Nat} (hk : k < 20) (h4 : s 4 = Int32.ofNat k) (F : Nat) : f_X10_removes_56 (F + 4) m s 0 = some (upd (upd (upd s (50 + 3 * k) 0) (51 + 3 * k) 0) (52 + 3 * k) 0) := by
  have st : ∀ (G b : Nat) (t : Nat → Int32), b < 3 → t 4 = Int32.ofNat k → f_X10_removes_56 (G + 1) m t (Int32.ofNat b) = f_X10_removes_56 G m (upd t (50 + 3 * k + b) 0) (Int32.ofNat (b + 1)) := fun G b t hb ht => by
    rw [f_X10_removes_56, if_neg (show ¬ (3 : Int32) ≤ Int32.ofNat b from fun q => absurd ((zt_le (a := 3) (by omega) (by omega)).mp q) (by omega)), zt_G4, zt_n4, ht, zt_i5, zt_gi (by omega) (by omega), zt_cl (by omega), zt_succ]
  have e0 : (0 : Int32) = Int32.ofNat 0 := rfl
  have n1 : ∀ (x : Int32), upd s (50 + 3 * k + 0) x 4 = Int32.ofNat k := fun x => by rw [zt_updN (by omega), h4]
  have n2 : ∀ (x y : Int32), upd (upd s (50 + 3 * k + 0) x) (50 + 3 * k + 1) y 4 = Int32.ofNat k := fun x y => by rw [zt_updN (by omega), n1]
  rw [e0, st (F + 3) 0 s (by omega) h4, st (F + 2) 1 _ (by omega) (n1 0), st (F + 1) 2 _ (by omega) (n2 0 0), f_X10_removes_56, if_pos (by decide)]
  rw [show 50 + 3 * k + 1 = 51 + 3 * k by omega, show 50 + 3 * k + 2 = 52 + 3 * k by omega, show 50 + 3 * k + 0 = 50 + 3 * k by omega]
  rfl
theorem zt_rem_7 {m : MdT} {s : Nat → Int32} {p k : Nat} (hk : k < 20) (h4 : s 4 = Int32.ofNat (k + 1)) : ∀ (r F x : Nat) (t : Nat → Int32), x + r = 50 + 3 * k → r < F → 50 + 3 * p ≤ x → (∀ y, t y = if 50 + 3 * p ≤ y ∧ y < x then s (y + 3) else s y) → ∃ t', f_X10_removes_7 F m t (Int32.ofNat x) = some t' ∧ t' 4 = Int32.ofNat k ∧ (∀ y, 50 + 3 * p ≤ y → y < 50 + 3 * k → t' y = s (y + 3)) ∧ ∀ y, y < 50 + 3 * p → y ≠ 4 → t' y = s y
  | 0, F + 1, x, t, h, hF, hp, ht => by
    have t4 : t 4 = Int32.ofNat (k + 1) := by rw [ht, if_neg (by omega), h4]
    rw [f_X10_removes_7, zt_G4, zt_G4, zt_G4, zt_n4, t4, zt_pred (by omega), Nat.add_sub_cancel]
    have e : (50 : Int32) + (3 : Int32) * Int32.ofNat k = Int32.ofNat (50 + 3 * k) := by
      have := zt_i5 k 0
      rw [show Int32.ofNat 0 = (0 : Int32) from rfl, Int32.add_zero] at this
      exact this
    rw [e, if_pos ((zt_le (by omega) (by omega)).mpr (by omega))]
    have h5 := zt_rem_56 (m := m) (s := upd t 4 (Int32.ofNat k)) hk (zt_updS _ _ _) (xFuel - 4)
    rw [show xFuel - 4 + 4 = xFuel from rfl] at h5
    refine ⟨_, h5, ?_, fun y h1 h2 => ?_, fun y h1 h2 => ?_⟩
    · simp (disch := omega) only [upd, if_neg, if_pos, if_true, if_false, ↓reduceIte]
    · simp (disch := omega) only [upd, if_neg, if_pos, if_true, if_false, ↓reduceIte]
      rw [ht, if_pos (by omega)]
    · have hpk : p ≤ k := by omega
      simp (disch := omega) only [upd, if_neg, if_pos, if_true, if_false, ↓reduceIte]
      rw [ht, if_neg (by omega)]
  | r + 1, F + 1, x, t, h, hF, hp, ht => by
    have t4 : t 4 = Int32.ofNat (k + 1) := by rw [ht, if_neg (by omega), h4]
    rw [f_X10_removes_7, zt_G4, zt_n4, t4, zt_pred (by omega), Nat.add_sub_cancel]
    have e : (50 : Int32) + (3 : Int32) * Int32.ofNat k = Int32.ofNat (50 + 3 * k) := by
      have := zt_i5 k 0
      rw [show Int32.ofNat 0 = (0 : Int32) from rfl, Int32.add_zero] at this
      exact this
    have e3 : Int32.ofNat x + 3 = Int32.ofNat (x + 3) := zt_add x 3
    rw [e, if_neg (fun q => absurd ((zt_le (by omega) (by omega)).mp q) (by omega)), e3, zt_gi (by omega) (by omega), zt_gi (by omega) (by omega), zt_cl (by omega), zt_cl (by omega), zt_succ]
    refine zt_rem_7 hk h4 r F (x + 1) _ (by omega) (by omega) (by omega) (fun y => ?_)
    by_cases hy : y = x
    · subst hy
      rw [zt_updS, ht, if_neg (by omega), if_pos (by omega)]
    · rw [zt_updN hy, ht]
      by_cases h7 : 50 + 3 * p ≤ y ∧ y < x
      · rw [if_pos h7, if_pos (by omega)]
      · rw [if_neg h7, if_neg (by omega)]
theorem zt_removes {m : MdT} {s : Nat → Int32} {p k : Nat} (hk : k < 20) (hp : p ≤ k) (h4 : s 4 = Int32.ofNat (k + 1)) : ∃ t', f_X10_removes m s (Int32.ofNat p) = some t' ∧ t' 4 = Int32.ofNat k ∧ (∀ y, 50 + 3 * p ≤ y → y < 50 + 3 * k → t' y = s (y + 3)) ∧ ∀ y, y < 50 + 3 * p → y ≠ 4 → t' y = s y := by
  unfold f_X10_removes
  have e : (50 : Int32) + (3 : Int32) * Int32.ofNat p = Int32.ofNat (50 + 3 * p) := by
    have := zt_i5 p 0
    rw [show Int32.ofNat 0 = (0 : Int32) from rfl, Int32.add_zero] at this
    exact this
  rw [e]
  exact zt_rem_7 hk h4 (3 * (k - p)) xFuel (50 + 3 * p) s (by omega) (by unfold xFuel; omega) (Nat.le_refl _) (fun y => by rw [if_neg (by omega)])
/-- the reference's fields don't matter -/
theorem zt_rem_m56 (m m' : MdT) : ∀ (F : Nat) (s : Nat → Int32) (x : Int32), f_X10_removes_56 F m s x = f_X10_removes_56 F m' s x
  | 0, _, _ => rfl
  | F + 1, s, x => by rw [f_X10_removes_56, f_X10_removes_56]; simp only [zt_rem_m56 m m' F]
theorem zt_rem_m7 (m m' : MdT) : ∀ (F : Nat) (s : Nat → Int32) (x : Int32), f_X10_removes_7 F m s x = f_X10_removes_7 F m' s x
  | 0, _, _ => rfl
  | F + 1, s, x => by rw [f_X10_removes_7, f_X10_removes_7]; simp only [zt_rem_m7 m m' F, zt_rem_m56 m m']
theorem zt_rem_m (m m' : MdT) (s : Nat → Int32) (x : Int32) : f_X10_removes m s x = f_X10_removes m' s x := zt_rem_m7 m m' _ _ _
/-- the removed row, related -/
theorem zt_erm {e f : EvT} {s t : Nat → Int32} {p k : Nat} (hp : p ≤ k) (hr : zER (k + 1) e s) (hf : ∀ j, j < k → f.1 j = zRm e.1 p j ∧ f.2.1 j = zRm e.2.1 p j ∧ f.2.2.1 j = zRm e.2.2.1 p j) (h4 : t 4 = Int32.ofNat k) (h1 : ∀ y, 50 + 3 * p ≤ y → y < 50 + 3 * k → t y = s (y + 3)) (h2 : ∀ y, y < 50 + 3 * p → y ≠ 4 → t y = s y) : zER k f t := by
  refine ⟨h4, fun j hj => ?_⟩
  obtain ⟨q1, q2, q3⟩ := hf j hj
  rw [q1, q2, q3]
  unfold zRm
  by_cases h : j < p
  · rw [if_pos h, if_pos h, if_pos h, h2 _ (by omega) (by omega), h2 _ (by omega) (by omega), h2 _ (by omega) (by omega)]
    exact hr.2 j (by omega)
  · rw [if_neg h, if_neg h, if_neg h, h1 _ (by omega) (by omega), h1 _ (by omega) (by omega), h1 _ (by omega) (by omega)]
    have := hr.2 (j + 1) (by omega)
    rw [show 50 + 3 * j + 3 = 50 + 3 * (j + 1) by omega, show 51 + 3 * j + 3 = 51 + 3 * (j + 1) by omega, show 52 + 3 * j + 3 = 52 + 3 * (j + 1) by omega]
    exact this
theorem zt_ewrm {e f : EvT} {n p k : Nat} {T : Int} (hp : p ≤ k) (hw : zEW n (k + 1) T e) (hc : f.2.2.2 = Int32.ofNat k) (hf : ∀ j, j < k → f.1 j = zRm e.1 p j ∧ f.2.1 j = zRm e.2.1 p j ∧ f.2.2.1 j = zRm e.2.2.1 p j) : zEW n k T f := by
  obtain ⟨a1, a2, a3, a4⟩ := hw
  refine ⟨hc, by omega, fun j hj => ?_, fun j hj => ?_⟩
  · obtain ⟨q1, q2, q3⟩ := hf j hj
    rw [q1, q2, q3]
    unfold zRm
    by_cases h : j < p
    · rw [if_pos h, if_pos h, if_pos h]; exact a3 j (by omega)
    · rw [if_neg h, if_neg h, if_neg h]; exact a3 (j + 1) (by omega)
  · rw [(hf j (by omega)).1, (hf (j + 1) (by omega)).1]
    unfold zRm
    by_cases h : j + 1 < p
    · rw [if_pos h, if_pos (by omega)]; exact a4 j (by omega)
    · by_cases h5 : j < p
      · rw [if_neg h, if_pos h5]
        have := a4 j (by omega)
        have := a4 (j + 1) (by omega)
        omega
      · rw [if_neg h, if_neg h5]; exact a4 (j + 1) (by omega)
section EV
variable {n k : Nat} {T : Int} {v : StS} {c : CdT} {e : EvT} {s : Nat → Int32}
theorem zo_drops (x : Int32) (h : zS n k T v c e s) :
    (f_X3_has e x = some 0 ∧ ∀ m, f_X10_drops m s x = some (0, zTh m 1, s)) ∨
    (f_X3_has e x = some 1 ∧ ∃ (e' : EvT) (s' : Nat → Int32), f_X3_remove e x = some e' ∧ (∀ m, f_X10_drops m s x = some (e'.2.2.2, zTh m 0, s')) ∧ zS n (k - 1) T v c e' s' ∧ (zA n v c s → zA n v c s')) := by
  obtain ⟨hc, hr, he, hre, hw, hv⟩ := h
  have hn := hc.2.1
  unfold f_X10_drops
  by_cases q : ∀ i, i < k → x ≠ Int32.ofNat i
  · refine Or.inl ⟨by rw [zt_hasE he.1 he.2.1, if_pos q], fun m => ?_⟩
    rw [zt_isE hre.1 he.2.1, if_pos q, Option.bind_some, if_pos rfl]
    unfold f_X10_drops_14
    rw [zt_thr1, Option.bind_some, if_neg zt_10]
  · refine Or.inr ⟨by rw [zt_hasE he.1 he.2.1, if_neg q], ?_⟩
    have em : ∀ m, f_X10_isEvent m s x = some 1 := fun m => by rw [zt_isE hre.1 he.2.1, if_neg q]
    obtain ⟨i, q⟩ := Classical.not_forall.mp q
    obtain ⟨hi, q⟩ := Classical.not_imp.mp q
    obtain rfl := Classical.not_not.mp q
    obtain ⟨k, rfl⟩ : ∃ k', k = k' + 1 := ⟨k - 1, by omega⟩
    have hk := he.2.1
    rw [Nat.add_sub_cancel]
    obtain ⟨f, f1, f2, f3⟩ := zt_remove (p := i) (k := k) (e := e) (by omega) (by omega) he.1 (fun j hj => (he.2.2.1 j (by omega)).2.1)
    have hrm := fun m => zt_removes (m := m) (p := i) (k := k) (s := s) (by omega) (by omega) hre.1
    obtain ⟨t, t1, t2, t3, t4⟩ := hrm (0, 0, 0, 0, 0, 0, 0, 0, 0, 0)
    have t5 : ∀ m, f_X10_removes m s (Int32.ofNat i) = some t := fun m => by
      rw [← t1]
      exact zt_rem_m _ _ _ _
    refine ⟨f, t, f1, fun m => ?_, ⟨hc, ⟨by rw [t4 3 (by omega) (by omega)]; exact hr.1, fun j hj => ?_⟩, zt_ewrm (by omega) he f2 f3, zt_erm (by omega) hre f3 t2 t3 t4, hw, ?_⟩, fun ha => ?_⟩
    · rw [em, Option.bind_some, if_neg zt_10]
      unfold f_X10_drops_14
      rw [zt_thr0, Option.bind_some, if_pos rfl, t5, Option.bind_some, zt_G4, zt_n4, t2, f2]
    · rw [t4 _ (by omega) (by omega), t4 _ (by omega) (by omega), t4 _ (by omega) (by omega), t4 _ (by omega) (by omega)]
      exact hr.2 j hj
    · unfold zVR at *
      rw [t4 0 (by omega) (by omega), t4 1 (by omega) (by omega), t4 2 (by omega) (by omega), t4 5 (by omega) (by omega), t4 6 (by omega) (by omega), t4 7 (by omega) (by omega), t4 8 (by omega) (by omega), t4 9 (by omega) (by omega)]
      exact hv
    · unfold zA at *
      rw [t4 8 (by omega) (by omega)]
      refine ⟨ha.1, ha.2.1, ha.2.2.1, fun j h1 h2 => ?_⟩
      rw [t4 _ (by omega) (by omega)]
      exact ha.2.2.2 j h1 h2
end EV
