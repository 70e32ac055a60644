/-! P50, 2: the changes: refused with all as it was, or done and remembered; what they answer is small -/
theorem yG_m1 : yG (-1) := ⟨by decide, by decide⟩
theorem yb_lit {n : Nat} {c : CdT} (hc : zCW n c) : yG (zt_sum c.2.2.2.1 n) := by
  have hn := hc.2.1
  have h1 := zt_sum_le (f := c.2.2.2.1) (b := 1) (by omega) (n := n) (by omega) (fun i hi => by
    rcases (hc.2.2 i hi).2.2.2 with q | ⟨q, -⟩ <;> rw [q] <;> decide)
  unfold yG
  omega
theorem yb_add {n : Nat} {v v' : StS} {c c' : CdT} {x1 x2 x3 b : Int32} (hc : zCW n c) (g : f_X8_addNewCandle v c x1 x2 x3 = some (b, v', c')) : yG b := by
  have hn := hc.2.1
  unfold f_X8_addNewCandle at g
  by_cases h : c.2.2.2.2 < 10
  · rw [if_pos h] at g
    obtain ⟨-, g⟩ := x_n g
    obtain ⟨-, g⟩ := x_n g
    obtain ⟨-, g⟩ := x_n g
    obtain ⟨-, g⟩ := x_n g
    have e : c.2.2.2.2 = b := congrArg Prod.fst (Option.some.inj g)
    rw [← e, hc.1]
    unfold yG
    rw [zt_ti (by omega)]
    omega
  · rw [if_neg h] at g
    have e : (-1 : Int32) = b := congrArg Prod.fst (Option.some.inj g)
    rw [← e]
    exact yG_m1
theorem yb_light {n : Nat} {v : StS} {c c' : CdT} {x b : Int32} (hc' : zCW n c') (g : f_X8_setLit v c x = some (b, c')) : yG b := by
  have key : ∀ d : CdT, ((f_X1_countLit d).bind fun u => some (u, d)) = some (b, c') → yG b := fun d g => by
    obtain ⟨u, h1, h2⟩ := x_b g
    have e := Option.some.inj h2
    have e1 : u = b := congrArg Prod.fst e
    have e2 : d = c' := congrArg Prod.snd e
    subst e1 e2
    rw [zt_countLit hc'] at h1
    rw [← Option.some.inj h1]
    exact yb_lit hc'
  unfold f_X8_setLit at g
  obtain ⟨u1, -, g⟩ := x_b g
  by_cases h : u1 = 0
  · rw [if_pos h] at g
    exact key _ g
  · rw [if_neg h] at g
    obtain ⟨-, g⟩ := x_n g
    exact key _ g
theorem yb_wax {n i : Nat} {c : CdT} (hc : zCW n c) (hi : i < n) : yG (c.2.1 i) := by
  have h := (hc.2.2 i hi).2.1
  unfold yG
  omega
theorem yb_snuff {n : Nat} {v : StS} {c c' : CdT} {x b : Int32} (hc : zCW n c) (g : f_X8_setUnlit v c x = some (b, c')) : yG b := by
  have hn := hc.2.1
  unfold f_X8_setUnlit at g
  rw [zt_has hc.1 hn, Option.bind_some] at g
  rcases zt_pick x n with ⟨i, hi, rfl, q⟩ | q
  · rw [q, if_neg zt_10, zt_gi (by omega) (by omega), zt_gi (by omega) (by omega), zt_cl (by omega)] at g
    have ez : c.2.1 i = b := congrArg Prod.fst (Option.some.inj g)
    rw [← ez]
    exact yb_wax hc hi
  · rw [q, if_pos rfl] at g
    have ez : (-1 : Int32) = b := congrArg Prod.fst (Option.some.inj g)
    rw [← ez]
    exact yG_m1
theorem yb_pour {n : Nat} {v v' : StS} {c c' : CdT} {x y b : Int32} (hc : zCW n c) (hc' : zCW n c') (g : f_X8_pourFromDish v c x y = some (b, v', c')) : yG b := by
  have hn := hc.2.1
  unfold f_X8_pourFromDish at g
  rw [zt_has hc.1 hn, Option.bind_some] at g
  rcases zt_pick x n with ⟨i, hi, rfl, q⟩ | q
  · rw [q, if_neg zt_10, zt_gi (by omega) (by omega), zt_gi (by omega) (by omega), zt_gi (by omega) (by omega), zt_cl (by omega)] at g
    simp only [Option.some.injEq, Prod.mk.injEq] at g
    obtain ⟨e1, -, e2⟩ := g
    rw [← e1]
    subst e2
    exact yb_wax hc' hi
  · rw [q, if_pos rfl] at g
    have ez : (-1 : Int32) = b := congrArg Prod.fst (Option.some.inj g)
    rw [← ez]
    exact yG_m1
theorem yb_ins {x1 x2 x3 : Int32} : ∀ (F a : Nat) (e : EvT) (b : Int32) (e' : EvT), a ≤ 20 → f_X3_insert_15 F e x1 x2 x3 (Int32.ofNat a) = some (b, e') → yG b
  | 0, _, _, _, _, _, g => by rw [f_X3_insert_15] at g; cases g
  | F + 1, a, e, b, e', ha, g => by
    have key : f_X3_insert_49 e x1 x2 x3 (Int32.ofNat a) = some (b, e') → yG b := fun g => by
      unfold f_X3_insert_49 at g
      obtain ⟨-, g⟩ := x_n g
      obtain ⟨-, g⟩ := x_n g
      obtain ⟨-, g⟩ := x_n g
      have ez : Int32.ofNat a = b := congrArg Prod.fst (Option.some.inj g)
      rw [← ez]
      unfold yG
      rw [zt_ti (by omega)]
      omega
    rw [f_X3_insert_15] at g
    by_cases h : Int32.ofNat a ≤ 0
    · rw [if_pos h] at g
      exact key g
    · rw [if_neg h] at g
      have h0 : 0 < a := by
        rcases Nat.eq_zero_or_pos a with rfl | q
        · exact absurd (by decide) h
        · exact q
      obtain ⟨-, g⟩ := x_n g
      by_cases h2 : e.1 (Int32.ofNat a - 1).toNatClampNeg ≤ x1
      · rw [if_pos h2] at g
        exact key g
      · rw [if_neg h2] at g
        obtain ⟨u, -, g⟩ := x_b g
        have e3 : Int32.ofNat a + -1 = Int32.ofNat (a - 1) := by
          rw [← zt_pred h0]
          exact (Int32.sub_eq_add_neg _ _).symm
        rw [e3] at g
        exact yb_ins F (a - 1) _ b e' (by omega) g
theorem yb_plan {n k : Nat} {T : Int} {e e' : EvT} {x1 x2 x3 b : Int32} (he : zEW n k T e) (g : f_X3_insert e x1 x2 x3 = some (b, e')) : yG b := by
  unfold f_X3_insert at g
  obtain ⟨u, -, g⟩ := x_b g
  by_cases h : u = 0
  · rw [if_pos h, he.1] at g
    exact yb_ins _ k _ _ _ he.2.1 g
  · rw [if_neg h] at g
    have ez : (-1 : Int32) = b := congrArg Prod.fst (Option.some.inj g)
    rw [← ez]
    exact yG_m1
/-- what burns is told to the dish and the accounts -/
theorem yb_burn28 {v v' : StS} {c c' : CdT} {x1 x2 y0 b : Int32} (g : f_X8_burn_28 v c x1 x2 y0 = some (b, v', c')) : v'.2.1 + v'.2.2.2.1 = v.2.1 + v.2.2.2.1 + b := by
  unfold f_X8_burn_28 at g
  obtain ⟨-, g⟩ := x_n g
  obtain ⟨-, g⟩ := x_n g
  obtain ⟨-, g⟩ := x_n g
  have key : v.2.1 + y0 + (v.2.2.2.1 + (x2 - y0)) = v.2.1 + v.2.2.2.1 + x2 := by grind
  split at g
  · obtain ⟨-, g⟩ := x_n g
    simp only [Option.some.injEq, Prod.mk.injEq] at g
    obtain ⟨rfl, rfl, -⟩ := g
    exact key
  · simp only [Option.some.injEq, Prod.mk.injEq] at g
    obtain ⟨rfl, rfl, -⟩ := g
    exact key
theorem yb_burn {v v' : StS} {c c' : CdT} {x b : Int32} (g : f_X8_burn v c x = some (b, v', c')) : v'.2.1 + v'.2.2.2.1 = v.2.1 + v.2.2.2.1 + b := by
  unfold f_X8_burn at g
  obtain ⟨-, g⟩ := x_n g
  obtain ⟨u, -, g⟩ := x_b g
  split at g <;> exact yb_burn28 g
theorem yb_m18 : ∀ (F : Nat) (v : StS) (c : CdT) (e : EvT) (d x : Int32) (b : Int32) (v' : StS) (c' : CdT) (e' : EvT), f_X8_passMinute_18 F v c e d x = some (b, v', c', e') → v'.2.1 + v'.2.2.2.1 + d = v.2.1 + v.2.2.2.1 + b
  | 0, _, _, _, _, _, _, _, _, _, g => by rw [f_X8_passMinute_18] at g; cases g
  | F + 1, v, c, e, d, x, b, v', c', e', g => by
    rw [f_X8_passMinute_18] at g
    split at g
    · simp only [Option.some.injEq, Prod.mk.injEq] at g
      obtain ⟨rfl, rfl, -⟩ := g
      rfl
    · obtain ⟨-, g⟩ := x_n g
      split at g
      · exact yb_m18 F _ _ _ _ _ _ _ _ _ g
      · obtain ⟨u, h1, g⟩ := x_b g
        have h2 := yb_burn (b := u.1) (v' := u.2.1) (c' := u.2.2) h1
        have h3 := yb_m18 F _ _ _ _ _ _ _ _ _ g
        grind
theorem yb_rec {v v' : StS} {x : Int32} (g : f_X8_recordFailure v x = some v') : v'.2.1 = v.2.1 ∧ v'.2.2.2.1 = v.2.2.2.1 := by
  unfold f_X8_recordFailure at g
  obtain ⟨-, g⟩ := x_y g
  rw [← Option.some.inj g]
  exact ⟨rfl, rfl⟩
theorem yb_carry62 {v v' : StS} {c c' : CdT} {x1 x2 : Int32} (g : f_X8_carryOut_62 v c x1 x2 = some (v', c')) : v'.2.1 = v.2.1 ∧ v'.2.2.2.1 = v.2.2.2.1 := by
  unfold f_X8_carryOut_62 at g
  split at g
  · obtain ⟨-, g⟩ := x_n g
    split at g
    · obtain ⟨u, h1, g⟩ := x_b g
      have ez : u = v' := congrArg Prod.fst (Option.some.inj g)
      rw [← ez]
      exact yb_rec h1
    · obtain ⟨-, g⟩ := x_n g
      have ez : v = v' := congrArg Prod.fst (Option.some.inj g)
      rw [← ez]
      exact ⟨rfl, rfl⟩
  · obtain ⟨-, g⟩ := x_n g
    have ez : v = v' := congrArg Prod.fst (Option.some.inj g)
    rw [← ez]
    exact ⟨rfl, rfl⟩
theorem yb_carry37 {v v' : StS} {c c' : CdT} {x1 x2 : Int32} (g : f_X8_carryOut_37 v c x1 x2 = some (v', c')) : v'.2.1 = v.2.1 ∧ v'.2.2.2.1 = v.2.2.2.1 := by
  unfold f_X8_carryOut_37 at g
  split at g
  · exact yb_carry62 g
  · obtain ⟨-, g⟩ := x_n g
    split at g
    · obtain ⟨u, h1, g⟩ := x_b g
      have ez : u = v' := congrArg Prod.fst (Option.some.inj g)
      rw [← ez]
      exact yb_rec h1
    · exact yb_carry62 g
theorem yb_carry {v v' : StS} {c c' : CdT} {x1 x2 : Int32} (g : f_X8_carryOut v c x1 x2 = some (v', c')) : v'.2.1 = v.2.1 ∧ v'.2.2.2.1 = v.2.2.2.1 := by
  unfold f_X8_carryOut at g
  obtain ⟨u, -, g⟩ := x_b g
  split at g
  · have ez : v = v' := congrArg Prod.fst (Option.some.inj g)
    rw [← ez]
    exact ⟨rfl, rfl⟩
  · split at g
    · exact yb_carry37 g
    · obtain ⟨-, g⟩ := x_n g
      split at g
      · exact yb_carry37 g
      · obtain ⟨u, h1, g⟩ := x_b g
        have ez : u = v' := congrArg Prod.fst (Option.some.inj g)
        rw [← ez]
        exact yb_rec h1
theorem yb_due : ∀ (F : Nat) (v : StS) (c : CdT) (e : EvT) (x : Int32) (v' : StS) (c' : CdT) (e' : EvT), f_X8_carryOutDueEvents_2 F v c e x = some (v', c', e') → v'.2.1 = v.2.1 ∧ v'.2.2.2.1 = v.2.2.2.1
  | 0, _, _, _, _, _, _, _, g => by rw [f_X8_carryOutDueEvents_2] at g; cases g
  | F + 1, v, c, e, x, v', c', e', g => by
    rw [f_X8_carryOutDueEvents_2] at g
    have stop : some (v, c, e) = some (v', c', e') → v'.2.1 = v.2.1 ∧ v'.2.2.2.1 = v.2.2.2.1 := fun g => by
      have ez : v = v' := congrArg Prod.fst (Option.some.inj g)
      rw [← ez]
      exact ⟨rfl, rfl⟩
    split at g
    · exact stop g
    · split at g
      · exact stop g
      · obtain ⟨-, g⟩ := x_n g
        split at g
        · obtain ⟨-, g⟩ := x_n g
          obtain ⟨-, g⟩ := x_n g
          obtain ⟨u, h1, g⟩ := x_b g
          obtain ⟨u2, -, g⟩ := x_b g
          have h2 := yb_carry (v' := u.1) (c' := u.2) h1
          have h3 := yb_due F _ _ _ _ _ _ _ g
          exact ⟨h3.1.trans h2.1, h3.2.trans h2.2⟩
        · exact stop g
theorem yb_minute {v v' : StS} {c c' : CdT} {e e' : EvT} {b : Int32} (g : f_X8_passMinute v c e = some (b, v', c', e')) : v'.2.1 + v'.2.2.2.1 = v.2.1 + v.2.2.2.1 + b := by
  unfold f_X8_passMinute at g
  obtain ⟨u, h1, g⟩ := x_b g
  have h2 := yb_due _ _ _ _ _ u.1 u.2.1 u.2.2 h1
  have h3 := yb_m18 _ _ _ _ _ _ _ _ _ _ g
  have h2a : u.1.2.1 = v.2.1 := h2.1
  have h2b : u.1.2.2.2.1 = v.2.2.2.1 := h2.2
  rw [h2a, h2b] at h3
  grind
theorem yb_m4 (x1 : Int32) : ∀ (F : Nat) (v : StS) (c : CdT) (e : EvT) (d x : Int32) (b : Int32) (v' : StS) (c' : CdT) (e' : EvT), f_X8_passMinutes_4 F v c e x1 d x = some (b, v', c', e') → v'.2.1 + v'.2.2.2.1 + d = v.2.1 + v.2.2.2.1 + b
  | 0, _, _, _, _, _, _, _, _, _, g => by rw [f_X8_passMinutes_4] at g; cases g
  | F + 1, v, c, e, d, x, b, v', c', e', g => by
    rw [f_X8_passMinutes_4] at g
    split at g
    · simp only [Option.some.injEq, Prod.mk.injEq] at g
      obtain ⟨rfl, rfl, -⟩ := g
      rfl
    · obtain ⟨u, h1, g⟩ := x_b g
      have h2 := yb_minute (b := u.1) (v' := u.2.1) (c' := u.2.2.1) (e' := u.2.2.2) h1
      have h3 := yb_m4 x1 F _ _ _ _ _ _ _ _ _ g
      grind
/-- the dish and what was burnt, together, lie within what was added -/
theorem yb_acc {n k : Nat} {T : Int} {v : StS} {c : CdT} {e : EvT} {s : Nat → Int32} (h : zS n k T v c e s) (ha : zA n v c s) : (v.2.1 + v.2.2.2.1).toInt = (s 8).toInt - (zt_sum c.2.1 n).toInt ∧ 0 ≤ (s 8).toInt ∧ (s 8).toInt ≤ 9990 ∧ 0 ≤ (zt_sum c.2.1 n).toInt ∧ (zt_sum c.2.1 n).toInt ≤ 9990 := by
  have hn := h.1.2.1
  have h1 := zt_sum_le (f := c.2.1) (b := 999) (by omega) (n := n) (by omega) (fun i hi => (h.1.2.2 i hi).2.1)
  obtain ⟨a1, a2, a3, -⟩ := ha
  have e : v.2.1 + v.2.2.2.1 = s 8 - zt_sum c.2.1 n := by grind
  rw [e, zt_tsub (by omega) (by omega)]
  omega
theorem yb_pass {n k k' : Nat} {T T' : Int} {v v' : StS} {c c' : CdT} {e e' : EvT} {s s' : Nat → Int32} {x b : Int32} (h : zS n k T v c e s) (ha : zA n v c s) (h' : zS n k' T' v' c' e' s') (ha' : zA n v' c' s') (g : f_X8_passMinutes v c e x = some (b, v', c', e')) : -20000 ≤ b.toInt ∧ b.toInt ≤ 20000 := by
  have h1 := yb_m4 x _ _ _ _ _ _ _ _ _ _ g
  have q1 := yb_acc h ha
  have q2 := yb_acc h' ha'
  have e1 : b = (v'.2.1 + v'.2.2.2.1) - (v.2.1 + v.2.2.2.1) := by grind
  rw [e1, zt_tsub (by omega) (by omega)]
  omega
