/-! P50, 1: a state is well, with n candles; the history and its latest row; one command -/
def yZ (n : Nat) (J : Int) (v : StS) (c : CdT) (e : EvT) (s : Nat → Int32) : Prop := ∃ (k : Nat) (T : Int), T ≤ J ∧ zS n k T v c e s ∧ zA n v c s
def yH (J : Int) (h : HiT) (vs : Nat → StS) (cs : Nat → CdT) (es : Nat → EvT) : Prop := ∃ p : Nat → Int32, zH J h vs cs es p h.2
/-- the latest remembered state has the row s -/
def yT (J : Int) (h : HiT) (vs : Nat → StS) (cs : Nat → CdT) (es : Nat → EvT) (s : Nat → Int32) : Prop := ∃ a m : Nat, a < 8 ∧ 1 ≤ m ∧ m ≤ 8 ∧ h.1 = Int32.ofNat a ∧ h.2 = Int32.ofNat m ∧ zSt J (vs ((a + 7) % 8)) (cs ((a + 7) % 8)) (es ((a + 7) % 8)) s
def yG (b : Int32) : Prop := -10 ≤ b.toInt ∧ b.toInt ≤ 100000
def yB (b : Int32) : Prop := b = -900001 ∨ b = -900002 ∨ b = -900003 ∨ b = -900004
theorem yZ_st {n : Nat} {J : Int} {v : StS} {c : CdT} {e : EvT} {s : Nat → Int32} (h : yZ n J v c e s) : zSt J v c e s := by
  obtain ⟨k, T, h1, h2, h3⟩ := h
  exact ⟨n, k, T, h1, h2, h3⟩
theorem yZ_mono {n : Nat} {J J' : Int} {v : StS} {c : CdT} {e : EvT} {s : Nat → Int32} (hJ : J ≤ J') (h : yZ n J v c e s) : yZ n J' v c e s := by
  obtain ⟨k, T, h1, h2, h3⟩ := h
  exact ⟨k, T, by omega, h2, h3⟩
theorem yZ_n {n : Nat} {J J1 : Int} {v v' : StS} {c c' : CdT} {e e' : EvT} {s : Nat → Int32} (h : zSt J v' c' e' s) (h1 : yZ n J1 v c e s) : yZ n J v' c' e' s := by
  obtain ⟨n', k', T', a1, a2, a3⟩ := h
  obtain ⟨k, T, b1, b2, b3⟩ := h1
  have q : Int32.ofNat n' = Int32.ofNat n := a2.2.1.1.symm.trans b2.2.1.1
  have hn := a2.1.2.1
  have hn' := b2.1.2.1
  obtain rfl : n' = n := (zt_eq (by omega) (by omega)).mp q
  exact ⟨k', T', a1, a2, a3⟩
theorem yZ_row {n : Nat} {J : Int} {v : StS} {c : CdT} {e : EvT} {s s' : Nat → Int32} (h : yZ n J v c e s) (hs : ∀ x, x < 110 → s' x = s x) : zSt J v c e s' := zSt_row (yZ_st h) hs
theorem yH_mono {J J' : Int} (hJ : J ≤ J') {h : HiT} {vs : Nat → StS} {cs : Nat → CdT} {es : Nat → EvT} (H : yH J h vs cs es) : yH J' h vs cs es := by
  obtain ⟨p, H⟩ := H
  exact ⟨p, zH_mono hJ H⟩
theorem yT_mono {J J' : Int} (hJ : J ≤ J') {h : HiT} {vs : Nat → StS} {cs : Nat → CdT} {es : Nat → EvT} {s : Nat → Int32} (H : yT J h vs cs es s) : yT J' h vs cs es s := by
  obtain ⟨a, m, h1, h2, h3, h4, h5, h6⟩ := H
  exact ⟨a, m, h1, h2, h3, h4, h5, zSt_mono hJ h6⟩
theorem yo_remember {J : Int} {h : HiT} {vs : Nat → StS} {cs : Nat → CdT} {es : Nat → EvT} {v : StS} {c : CdT} {e : EvT} {s : Nat → Int32} (t : Unit) (H : yH J h vs cs es) (hs : zSt J v c e s) :
    ∃ (h' : HiT) (vs' : Nat → StS) (cs' : Nat → CdT) (es' : Nat → EvT), f_X4_remember h t vs cs es v c e = some (h', vs', cs', es') ∧ yH J h' vs' cs' es' ∧ yT J h' vs' cs' es' s := by
  obtain ⟨p, H⟩ := H
  have H2 := H
  obtain ⟨a, q, ha, hq, e1, e2, -, -⟩ := H2
  obtain ⟨h', vs', cs', es', p', g1, -, g3⟩ := zo_remember (m := (h.2, 0, 0, 0, 0, 0, 0, 0, 0, 0)) (w := s) t 0 H hs rfl
  obtain ⟨c', e', k1, -, k2⟩ := zSt_cp (vs a) (cs a) (es a) hs
  have mm : (Int32.ofNat a + 1) - (Int32.ofNat a + 1) / 8 * 8 = Int32.ofNat ((a + 1) % 8) := by
    rw [zt_succ]; exact zt_mod8 (by omega)
  have hj : jmin (Int32.ofNat q + 1) 8 = Int32.ofNat (min (q + 1) 8) := by
    rw [zt_succ]
    exact zt_jmin (a := q + 1) (b := 8) (by omega) (by omega)
  have rem : f_X4_remember h t vs cs es v c e = some ((Int32.ofNat ((a + 1) % 8), Int32.ofNat (min (q + 1) 8)), va_up vs a v, va_up cs a c', va_up es a e') := by
    unfold f_X4_remember
    rw [e1, zt_gi ha (by omega), zt_cl (by omega), k1, Option.bind_some, if_neg (show ¬ (8 : Int32) = 0 by decide), mm, e2, hj]
  rw [rem] at g1
  simp only [Option.some.injEq, Prod.mk.injEq] at g1
  obtain ⟨rfl, rfl, rfl, rfl⟩ := g1
  refine ⟨_, _, _, _, rem, ⟨p', g3⟩, (a + 1) % 8, min (q + 1) 8, by omega, by omega, by omega, rfl, rfl, ?_⟩
  have ei : ((a + 1) % 8 + 7) % 8 = a := by omega
  rw [ei]
  simp only [va_up, if_true]
  exact k2
/-- what was remembered last is taken back -/
theorem yo_undo {J : Int} {z : CcT} {h : HiT} {vs : Nat → StS} {cs : Nat → CdT} {es : Nat → EvT} {s : Nat → Int32} (v : StS) (c : CdT) (e : EvT) (t : Unit) (H : yH J h vs cs es) (Ht : yT J h vs cs es s) :
    ∃ (b : Int32) (v' : StS) (c' : CdT) (e' : EvT) (h' : HiT), f_Q_undo z v c e h t vs cs es = some (b, v', c', e', h') ∧ 0 ≤ b.toInt ∧ zSt J v' c' e' s ∧ yH J h' vs cs es := by
  obtain ⟨p, a, q, ha, hq, e1, e2, e3, hh⟩ := H
  obtain ⟨a', q', ha', hq1, hq2, f1, f2, k⟩ := Ht
  obtain rfl : a' = a := (zt_eq (by omega) (by omega)).mp (f1.symm.trans e1)
  obtain rfl : q' = q := (zt_eq (by omega) (by omega)).mp (f2.symm.trans e2)
  have eq1 : Int32.ofNat q' - 1 = Int32.ofNat (q' - 1) := zt_pred (by omega)
  have mm : ((Int32.ofNat a' + 8) - 1) - ((Int32.ofNat a' + 8) - 1) / 8 * 8 = Int32.ofNat ((a' + 7) % 8) := by
    have e8 : Int32.ofNat a' + 8 - 1 = Int32.ofNat (a' + 7) := by
      have : Int32.ofNat a' + 8 = Int32.ofNat (a' + 8) := zt_add a' 8
      rw [this, zt_pred (by omega)]
      rfl
    rw [e8]; exact zt_mod8 (by omega)
  obtain ⟨c', e', k1, -, k2⟩ := zSt_cp v c e k
  have tb : f_X4_takeBack h t vs cs es v c e = some ((Int32.ofNat ((a' + 7) % 8), Int32.ofNat (q' - 1)), vs ((a' + 7) % 8), c', e') := by
    unfold f_X4_takeBack
    rw [if_neg (by rw [e2]; exact zt_nz (by omega) (by omega)), if_neg (show ¬ (8 : Int32) = 0 by decide), e1, mm, zt_gi (by omega) (by omega), zt_cl (by omega), k1, Option.bind_some, e2, eq1]
  refine ⟨Int32.ofNat (q' - 1), _, _, _, (Int32.ofNat ((a' + 7) % 8), Int32.ofNat (q' - 1)), ?_, by rw [zt_ti (by omega)]; omega, k2, p, (a' + 7) % 8, q' - 1, by omega, by omega, rfl, rfl, rfl, fun j hj => ?_⟩
  · unfold f_Q_undo f_X9_undo
    rw [if_neg (show ¬ h.2 = 0 by rw [e2]; exact zt_nz (by omega) (by omega)), tb]
    rfl
  · have ej : ((a' + 7) % 8 + 8 - (q' - 1) + j) % 8 = (a' + 8 - q' + j) % 8 := by omega
    rw [ej]
    exact hh j (by omega)
section YD
variable {J : Int} {z : CcT} {v : StS} {c : CdT} {e : EvT} {s : Nat → Int32}
/-- one command -/
theorem yo_does {n : Nat} {w : CmT} {cm : Nat → Int32} {i : Nat} (hC : zCm w cm i) (hs : yZ n J v c e s) (hJ : J + 1000 < 2147480000) :
    f_X9_isAllowed z v c e w = some 0 ∨
    (f_X9_isAllowed z v c e w = some 1 ∧ ∃ (v' : StS) (c' : CdT) (e' : EvT) (n' : Nat) (s' : Nat → Int32), f_X9_execute z v c e w = some (v', c', e') ∧ n ≤ n' ∧ yZ n' (J + 240) v' c' e' s') := by
  obtain ⟨k, T, hT, h1, h2⟩ := hs
  obtain ⟨kd, w1, w2, w3, w4, w5⟩ := w
  rcases hC with ⟨hk, c0, c1, c2, c3⟩ | ⟨hk, c0, c1⟩ | ⟨hk, c0, c1⟩ | ⟨hk, c0, c1, c2⟩ | ⟨hk, c0, c1⟩ | ⟨hk, c0, c1, c2, c3, c4⟩ | ⟨hk, c0, c1⟩ | ⟨hk, c0, c1⟩
  · have hk : kd = 0 := hk
    subst hk
    have a0 : f_X9_isAllowed z v c e (0, w1, w2, w3, w4, w5) = (f_X8_refusalToAdd v c w4 w2 w3).bind fun u4 => ((if u4 < 11 then (if u4 = 0 then (some ((1 : Int32))) else (some ((0 : Int32)))) else none)) := rfl
    have x0 : f_X9_execute z v c e (0, w1, w2, w3, w4, w5) = (f_X8_addNewCandle v c w4 w2 w3).bind fun u4 => (some (u4.2.1, u4.2.2, e)) := rfl
    rw [a0, x0]
    rcases zo_adds w4 w2 w3 h1 h2 with ⟨r, t, g1, g2, g3⟩ | ⟨g1, b, v', c', s', g2, g3, g4, g5⟩
    · refine Or.inl ?_
      rw [g1]
      rcases g2 with ⟨rfl | rfl, -⟩ | ⟨rfl, -⟩ <;> rfl
    · exact Or.inr ⟨by rw [g1]; rfl, v', c', e, n + 1, s', by rw [g2]; rfl, by omega, ⟨k, T, by omega, g4, g5⟩⟩
  · have hk : kd = 1 := hk
    subst hk
    have a0 : f_X9_isAllowed z v c e (1, w1, w2, w3, w4, w5) = (f_X8_refusalToLight v c w1).bind fun u4 => ((if u4 < 11 then (if u4 = 0 then (some ((1 : Int32))) else (some ((0 : Int32)))) else none)) := rfl
    have x0 : f_X9_execute z v c e (1, w1, w2, w3, w4, w5) = (f_X8_setLit v c w1).bind fun u6 => (some (v, u6.2, e)) := rfl
    rw [a0, x0]
    rcases zo_lights w1 h1 with ⟨r, t, g1, g2, g3⟩ | ⟨g1, b, c', s', g2, g3, g4, g5⟩
    · refine Or.inl ?_
      rw [g1]
      rcases g2 with ⟨rfl, -⟩ | ⟨rfl, -⟩ | ⟨rfl, -⟩ <;> rfl
    · exact Or.inr ⟨by rw [g1]; rfl, v, c', e, n, s', by rw [g2]; rfl, by omega, ⟨k, T, by omega, g4, g5 h2⟩⟩
  · have hk : kd = 2 := hk
    subst hk
    have a0 : f_X9_isAllowed z v c e (2, w1, w2, w3, w4, w5) = (f_X8_refusalToSnuff v c w1).bind fun u4 => ((if u4 < 11 then (if u4 = 0 then (some ((1 : Int32))) else (some ((0 : Int32)))) else none)) := rfl
    have x0 : f_X9_execute z v c e (2, w1, w2, w3, w4, w5) = (f_X8_setUnlit v c w1).bind fun u6 => (some (v, u6.2, e)) := rfl
    rw [a0, x0]
    rcases zo_snuffs w1 h1 with ⟨r, t, g1, g2, g3⟩ | ⟨g1, b, c', s', g2, g3, g4, g5⟩
    · refine Or.inl ?_
      rw [g1]
      rcases g2 with ⟨rfl, -⟩ | ⟨rfl, -⟩ <;> rfl
    · exact Or.inr ⟨by rw [g1]; rfl, v, c', e, n, s', by rw [g2]; rfl, by omega, ⟨k, T, by omega, g4, g5 h2⟩⟩
  · have hk : kd = 3 := hk
    subst hk
    have a0 : f_X9_isAllowed z v c e (3, w1, w2, w3, w4, w5) = (f_X8_refusalToPour v c w1 w2).bind fun u4 => ((if u4 < 11 then (if u4 = 0 then (some ((1 : Int32))) else (some ((0 : Int32)))) else none)) := rfl
    have x0 : f_X9_execute z v c e (3, w1, w2, w3, w4, w5) = (f_X8_pourFromDish v c w1 w2).bind fun u10 => (some (u10.2.1, u10.2.2, e)) := rfl
    rw [a0, x0]
    rcases zo_pours w1 w2 h1 with ⟨r, t, g1, g2, g3⟩ | ⟨g1, b, v', c', s', g2, g3, g4, g5⟩
    · refine Or.inl ?_
      rw [g1]
      rcases g2 with ⟨rfl, -⟩ | ⟨rfl, -⟩ | ⟨rfl | rfl, -⟩ | ⟨rfl, -⟩ <;> rfl
    · exact Or.inr ⟨by rw [g1]; rfl, v', c', e, n, s', by rw [g2]; rfl, by omega, ⟨k, T, by omega, g4, g5 h2⟩⟩
  · have hk : kd = 4 := hk
    subst hk
    have a0 : f_X9_isAllowed z v c e (4, w1, w2, w3, w4, w5) = (f_X8_refusalToChangeDraught v w2).bind fun u4 => ((if u4 < 11 then (if u4 = 0 then (some ((1 : Int32))) else (some ((0 : Int32)))) else none)) := rfl
    have x0 : f_X9_execute z v c e (4, w1, w2, w3, w4, w5) = (f_X8_changeDraught v w2).bind fun u12 => (some (u12.2, c, e)) := rfl
    rw [a0, x0]
    rcases zo_draws w2 h1 with ⟨g1, g3⟩ | ⟨g1, b, v', s', g2, g3, g4, g5⟩
    · exact Or.inl (by rw [g1]; rfl)
    · exact Or.inr ⟨by rw [g1]; rfl, v', c, e, n, s', by rw [g2]; rfl, by omega, ⟨k, T, by omega, g4, g5 h2⟩⟩
  · have hk : kd = 5 := hk
    subst hk
    have c4 : w5 = 0 ∨ w5 = 1 := c4
    have a0 : f_X9_isAllowed z v c e (5, w1, w2, w3, w4, w5) = (f_X8_refusalToSchedule v c e w2 w1).bind fun u4 => ((if u4 < 11 then (if u4 = 0 then (some ((1 : Int32))) else (some ((0 : Int32)))) else none)) := rfl
    have x0 : f_X9_execute z v c e (5, w1, w2, w3, w4, w5) = (f_X3_insert e w2 w1 w5).bind fun u14 => (some (v, c, u14.2)) := rfl
    rw [a0, x0]
    rcases zo_plans (0, 0, 0, 0, 0, 0, 0, 0, 0, 0) w2 w1 w5 c4 (by omega) h1 with ⟨r, t, g1, g2, g3⟩ | ⟨g1, b, e', s', g2, g3, g4, g5⟩
    · refine Or.inl ?_
      rw [g1]
      rcases g2 with ⟨rfl, -⟩ | ⟨rfl, -⟩ | ⟨rfl, -⟩ <;> rfl
    · exact Or.inr ⟨by rw [g1]; rfl, v, c, e', n, s', by rw [g2]; rfl, by omega, ⟨k + 1, T, by omega, g4, g5 h2⟩⟩
  · have hk : kd = 6 := hk
    subst hk
    have a0 : f_X9_isAllowed z v c e (6, w1, w2, w3, w4, w5) = (f_X3_has e w2).bind fun u28 => ((if u28 = 0 ∨ u28 = 1 then (some (u28)) else none)) := rfl
    have x0 : f_X9_execute z v c e (6, w1, w2, w3, w4, w5) = (f_X3_remove e w2).bind fun u16 => (some (v, c, u16)) := rfl
    rw [a0, x0]
    rcases zo_drops w2 h1 with ⟨g1, g3⟩ | ⟨g1, e', s', g2, g3, g4, g5⟩
    · exact Or.inl (by rw [g1]; rfl)
    · exact Or.inr ⟨by rw [g1]; rfl, v, c, e', n, s', by rw [g2]; rfl, by omega, ⟨k - 1, T, by omega, g4, g5 h2⟩⟩
  · have hk : kd = 7 := hk
    subst hk
    have a0 : f_X9_isAllowed z v c e (7, w1, w2, w3, w4, w5) = (f_X8_refusalToPass v w2).bind fun u4 => ((if u4 < 11 then (if u4 = 0 then (some ((1 : Int32))) else (some ((0 : Int32)))) else none)) := rfl
    have x0 : f_X9_execute z v c e (7, w1, w2, w3, w4, w5) = (f_X8_passMinutes v c e w2).bind fun u17 => (some (u17.2.1, u17.2.2.1, u17.2.2.2)) := rfl
    rw [a0, x0]
    rcases zo_waits (0, 0, 0, 0, 0, 0, 0, 0, 0, 0) w2 h1 h2 (by omega) with ⟨g1, g3⟩ | ⟨g1, b, v', c', k', e', s', T', g0, g2, g3, g4, g5⟩
    · exact Or.inl (by rw [g1]; rfl)
    · exact Or.inr ⟨by rw [g1]; rfl, v', c', e', n, s', by rw [g2]; rfl, by omega, ⟨k', T', by omega, g4, g5⟩⟩
end YD
