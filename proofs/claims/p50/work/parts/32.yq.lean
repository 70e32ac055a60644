/-! P50, 3: the law's wrappers of the changes -/
def yW (b : Int32) : Prop := -20000 ≤ b.toInt ∧ b.toInt ≤ 100000
theorem yW_of {b : Int32} (h : yG b) : yW b := by
  unfold yG at h
  unfold yW
  omega
theorem yW_20 {b : Int32} (h : -20000 ≤ b.toInt ∧ b.toInt ≤ 20000) : yW b := by
  unfold yW
  omega
theorem yb_draw {T : Int} {v v' : StS} {x b : Int32} (hv : zVW T v) (g : f_X8_changeDraught v x = some (b, v')) : yG b := by
  unfold f_X8_changeDraught at g
  have ez : v.1 = b := congrArg Prod.fst (Option.some.inj g)
  rw [← ez]
  have := hv.2.2.1
  unfold yG
  omega
section YQ
variable {n : Nat} {J : Int} {z : CcT} {h : HiT} {t : Unit} {vs : Nat → StS} {cs : Nat → CdT} {es : Nat → EvT} {s : Nat → Int32} {v : StS} {c : CdT} {e : EvT}
theorem yq_add (x1 : Int32) (x2 : Int32) (x3 : Int32) (H : yH J h vs cs es) (hs : yZ n J v c e s) :
    (∃ b : Int32, yB b ∧ f_Q_addCandle z v c e h t vs cs es x1 x2 x3 = some (b, v, c, h, vs, cs, es)) ∨
    (∃ (b : Int32) (v' : StS) (c' : CdT) (h' : HiT) (vs' : Nat → StS) (cs' : Nat → CdT) (es' : Nat → EvT) (s' : Nat → Int32), f_Q_addCandle z v c e h t vs cs es x1 x2 x3 = some (b, v', c', h', vs', cs', es') ∧ yG b ∧ yZ (n + 1) (J) v' c' e s' ∧ yH (J) h' vs' cs' es' ∧ yT (J) h' vs' cs' es' s) := by
  have hs0 := yZ_st hs
  obtain ⟨k, T, hJ, h1, h2⟩ := hs
  unfold f_Q_addCandle f_X9_addCandle
  rcases zo_adds x1 x2 x3 h1 h2 with ⟨r, t', a1, a2, -⟩ | ⟨a1, b, v', c', s', a2, -, a4, a5⟩
  · left
    rw [a1, Option.bind_some]
    rcases a2 with ⟨rfl | rfl, -⟩ | ⟨rfl, -⟩
    · exact ⟨-900001, Or.inl rfl, rfl⟩
    · exact ⟨-900001, Or.inl rfl, rfl⟩
    · exact ⟨-900002, Or.inr (Or.inl rfl), rfl⟩
  · right
    obtain ⟨h', vs', cs', es', g1, g2, g3⟩ := yo_remember t H hs0
    refine ⟨b, v', c', h', vs', cs', es', s', ?_, yb_add h1.1 a2, ⟨k, T, hJ, a4, a5⟩, yH_mono (by omega) g2, yT_mono (by omega) g3⟩
    rw [a1, Option.bind_some, zt_tir0, Option.bind_some]
    simp only [Sum.elim_inr]
    simp only [g1, a2, Option.bind_some, Sum.elim_inr]
theorem yq_light (x1 : Int32) (H : yH J h vs cs es) (hs : yZ n J v c e s) :
    (∃ b : Int32, yB b ∧ f_Q_light z v c e h t vs cs es x1 = some (b, c, h, vs, cs, es)) ∨
    (∃ (b : Int32) (c' : CdT) (h' : HiT) (vs' : Nat → StS) (cs' : Nat → CdT) (es' : Nat → EvT) (s' : Nat → Int32), f_Q_light z v c e h t vs cs es x1 = some (b, c', h', vs', cs', es') ∧ yG b ∧ yZ n (J) v c' e s' ∧ yH (J) h' vs' cs' es' ∧ yT (J) h' vs' cs' es' s) := by
  have hs0 := yZ_st hs
  obtain ⟨k, T, hJ, h1, h2⟩ := hs
  unfold f_Q_light f_X9_light
  rcases zo_lights x1 h1 with ⟨r, t', a1, a2, -⟩ | ⟨a1, b, c', s', a2, -, a4, a5⟩
  · left
    rw [a1, Option.bind_some]
    rcases a2 with ⟨rfl, -⟩ | ⟨rfl, -⟩ | ⟨rfl, -⟩
    · exact ⟨-900001, Or.inl rfl, rfl⟩
    · exact ⟨-900002, Or.inr (Or.inl rfl), rfl⟩
    · exact ⟨-900003, Or.inr (Or.inr (Or.inl rfl)), rfl⟩
  · right
    obtain ⟨h', vs', cs', es', g1, g2, g3⟩ := yo_remember t H hs0
    refine ⟨b, c', h', vs', cs', es', s', ?_, yb_light a4.1 a2, ⟨k, T, hJ, a4, a5 h2⟩, yH_mono (by omega) g2, yT_mono (by omega) g3⟩
    rw [a1, Option.bind_some, zt_tir0, Option.bind_some]
    simp only [Sum.elim_inr]
    simp only [g1, a2, Option.bind_some, Sum.elim_inr]
theorem yq_snuff (x1 : Int32) (H : yH J h vs cs es) (hs : yZ n J v c e s) :
    (∃ b : Int32, yB b ∧ f_Q_snuff z v c e h t vs cs es x1 = some (b, c, h, vs, cs, es)) ∨
    (∃ (b : Int32) (c' : CdT) (h' : HiT) (vs' : Nat → StS) (cs' : Nat → CdT) (es' : Nat → EvT) (s' : Nat → Int32), f_Q_snuff z v c e h t vs cs es x1 = some (b, c', h', vs', cs', es') ∧ yG b ∧ yZ n (J) v c' e s' ∧ yH (J) h' vs' cs' es' ∧ yT (J) h' vs' cs' es' s) := by
  have hs0 := yZ_st hs
  obtain ⟨k, T, hJ, h1, h2⟩ := hs
  unfold f_Q_snuff f_X9_snuff
  rcases zo_snuffs x1 h1 with ⟨r, t', a1, a2, -⟩ | ⟨a1, b, c', s', a2, -, a4, a5⟩
  · left
    rw [a1, Option.bind_some]
    rcases a2 with ⟨rfl, -⟩ | ⟨rfl, -⟩
    · exact ⟨-900001, Or.inl rfl, rfl⟩
    · exact ⟨-900002, Or.inr (Or.inl rfl), rfl⟩
  · right
    obtain ⟨h', vs', cs', es', g1, g2, g3⟩ := yo_remember t H hs0
    refine ⟨b, c', h', vs', cs', es', s', ?_, yb_snuff h1.1 a2, ⟨k, T, hJ, a4, a5 h2⟩, yH_mono (by omega) g2, yT_mono (by omega) g3⟩
    rw [a1, Option.bind_some, zt_tir0, Option.bind_some]
    simp only [Sum.elim_inr]
    simp only [g1, a2, Option.bind_some, Sum.elim_inr]
theorem yq_pour (x1 : Int32) (x2 : Int32) (H : yH J h vs cs es) (hs : yZ n J v c e s) :
    (∃ b : Int32, yB b ∧ f_Q_pour z v c e h t vs cs es x1 x2 = some (b, v, c, h, vs, cs, es)) ∨
    (∃ (b : Int32) (v' : StS) (c' : CdT) (h' : HiT) (vs' : Nat → StS) (cs' : Nat → CdT) (es' : Nat → EvT) (s' : Nat → Int32), f_Q_pour z v c e h t vs cs es x1 x2 = some (b, v', c', h', vs', cs', es') ∧ yG b ∧ yZ n (J) v' c' e s' ∧ yH (J) h' vs' cs' es' ∧ yT (J) h' vs' cs' es' s) := by
  have hs0 := yZ_st hs
  obtain ⟨k, T, hJ, h1, h2⟩ := hs
  unfold f_Q_pour f_X9_pour
  rcases zo_pours x1 x2 h1 with ⟨r, t', a1, a2, -⟩ | ⟨a1, b, v', c', s', a2, -, a4, a5⟩
  · left
    rw [a1, Option.bind_some]
    rcases a2 with ⟨rfl, -⟩ | ⟨rfl, -⟩ | ⟨rfl | rfl, -⟩ | ⟨rfl, -⟩
    · exact ⟨-900001, Or.inl rfl, rfl⟩
    · exact ⟨-900002, Or.inr (Or.inl rfl), rfl⟩
    · exact ⟨-900003, Or.inr (Or.inr (Or.inl rfl)), rfl⟩
    · exact ⟨-900003, Or.inr (Or.inr (Or.inl rfl)), rfl⟩
    · exact ⟨-900004, Or.inr (Or.inr (Or.inr rfl)), rfl⟩
  · right
    obtain ⟨h', vs', cs', es', g1, g2, g3⟩ := yo_remember t H hs0
    refine ⟨b, v', c', h', vs', cs', es', s', ?_, yb_pour h1.1 a4.1 a2, ⟨k, T, hJ, a4, a5 h2⟩, yH_mono (by omega) g2, yT_mono (by omega) g3⟩
    rw [a1, Option.bind_some, zt_tir0, Option.bind_some]
    simp only [Sum.elim_inr]
    simp only [g1, a2, Option.bind_some, Sum.elim_inr]
theorem yq_draught (x1 : Int32) (H : yH J h vs cs es) (hs : yZ n J v c e s) :
    (∃ b : Int32, yB b ∧ f_Q_setDraught z v c e h t vs cs es x1 = some (b, v, h, vs, cs, es)) ∨
    (∃ (b : Int32) (v' : StS) (h' : HiT) (vs' : Nat → StS) (cs' : Nat → CdT) (es' : Nat → EvT) (s' : Nat → Int32), f_Q_setDraught z v c e h t vs cs es x1 = some (b, v', h', vs', cs', es') ∧ yG b ∧ yZ n (J) v' c e s' ∧ yH (J) h' vs' cs' es' ∧ yT (J) h' vs' cs' es' s) := by
  have hs0 := yZ_st hs
  obtain ⟨k, T, hJ, h1, h2⟩ := hs
  unfold f_Q_setDraught f_X9_setDraught
  rcases zo_draws x1 h1 with ⟨a1, -⟩ | ⟨a1, b, v', s', a2, -, a4, a5⟩
  · left
    rw [a1, Option.bind_some]
    exact ⟨-900001, Or.inl rfl, rfl⟩
  · right
    obtain ⟨h', vs', cs', es', g1, g2, g3⟩ := yo_remember t H hs0
    refine ⟨b, v', h', vs', cs', es', s', ?_, yb_draw h1.2.2.2.2.1 a2, ⟨k, T, hJ, a4, a5 h2⟩, yH_mono (by omega) g2, yT_mono (by omega) g3⟩
    rw [a1, Option.bind_some, zt_tir0, Option.bind_some]
    simp only [Sum.elim_inr]
    simp only [g1, a2, Option.bind_some, Sum.elim_inr]
theorem yq_schedule (x1 : Int32) (x2 : Int32) (x3 : Int32) (h3 : x3 = 0 ∨ x3 = 1) (hJ9 : J < 2147480000) (H : yH J h vs cs es) (hs : yZ n J v c e s) :
    (∃ b : Int32, yB b ∧ f_Q_schedule z v c e h t vs cs es x1 x2 x3 = some (b, e, h, vs, cs, es)) ∨
    (∃ (b : Int32) (e' : EvT) (h' : HiT) (vs' : Nat → StS) (cs' : Nat → CdT) (es' : Nat → EvT) (s' : Nat → Int32), f_Q_schedule z v c e h t vs cs es x1 x2 x3 = some (b, e', h', vs', cs', es') ∧ yG b ∧ yZ n (J) v c e' s' ∧ yH (J) h' vs' cs' es' ∧ yT (J) h' vs' cs' es' s) := by
  have hs0 := yZ_st hs
  obtain ⟨k, T, hJ, h1, h2⟩ := hs
  unfold f_Q_schedule f_X9_schedule
  rcases zo_plans (0, 0, 0, 0, 0, 0, 0, 0, 0, 0) x1 x2 x3 h3 (by omega) h1 with ⟨r, t', a1, a2, -⟩ | ⟨a1, b, e', s', a2, -, a4, a5⟩
  · left
    rw [a1, Option.bind_some]
    rcases a2 with ⟨rfl, -⟩ | ⟨rfl, -⟩ | ⟨rfl, -⟩
    · exact ⟨-900001, Or.inl rfl, rfl⟩
    · exact ⟨-900002, Or.inr (Or.inl rfl), rfl⟩
    · exact ⟨-900003, Or.inr (Or.inr (Or.inl rfl)), rfl⟩
  · right
    obtain ⟨h', vs', cs', es', g1, g2, g3⟩ := yo_remember t H hs0
    refine ⟨b, e', h', vs', cs', es', s', ?_, yb_plan h1.2.2.1 a2, ⟨k + 1, T, hJ, a4, a5 h2⟩, yH_mono (by omega) g2, yT_mono (by omega) g3⟩
    rw [a1, Option.bind_some, zt_tir0, Option.bind_some]
    simp only [Sum.elim_inr]
    simp only [g1, a2, Option.bind_some, Sum.elim_inr]
theorem yq_pass (x1 : Int32) (hJ9 : J + 1000 < 2147480000) (H : yH J h vs cs es) (hs : yZ n J v c e s) :
    (∃ b : Int32, yB b ∧ f_Q_pass z v c e h t vs cs es x1 = some (b, v, c, e, h, vs, cs, es)) ∨
    (∃ (b : Int32) (v' : StS) (c' : CdT) (e' : EvT) (h' : HiT) (vs' : Nat → StS) (cs' : Nat → CdT) (es' : Nat → EvT) (s' : Nat → Int32), f_Q_pass z v c e h t vs cs es x1 = some (b, v', c', e', h', vs', cs', es') ∧ yW b ∧ yZ n (J + 240) v' c' e' s' ∧ yH (J + 240) h' vs' cs' es' ∧ yT (J + 240) h' vs' cs' es' s) := by
  have hs0 := yZ_st hs
  obtain ⟨k, T, hJ, h1, h2⟩ := hs
  unfold f_Q_pass f_X9_pass
  rcases zo_waits (0, 0, 0, 0, 0, 0, 0, 0, 0, 0) x1 h1 h2 (by omega) with ⟨a1, -⟩ | ⟨a1, b, v', c', k', e', s', T', g0, a2, -, a4, a5⟩
  · left
    rw [a1, Option.bind_some]
    exact ⟨-900001, Or.inl rfl, rfl⟩
  · right
    obtain ⟨h', vs', cs', es', g1, g2, g3⟩ := yo_remember t H hs0
    refine ⟨b, v', c', e', h', vs', cs', es', s', ?_, yW_20 (yb_pass h1 h2 a4 a5 a2), ⟨k', T', by omega, a4, a5⟩, yH_mono (by omega) g2, yT_mono (by omega) g3⟩
    rw [a1, Option.bind_some, zt_tir0, Option.bind_some]
    simp only [Sum.elim_inr]
    simp only [g1, a2, Option.bind_some, Sum.elim_inr]
theorem yq_unschedule (x1 : Int32) (H : yH J h vs cs es) (hs : yZ n J v c e s) :
    (∃ b : Int32, yB b ∧ f_Q_unschedule z v c e h t vs cs es x1 = some (b, e, h, vs, cs, es)) ∨
    (∃ (b : Int32) (e' : EvT) (h' : HiT) (vs' : Nat → StS) (cs' : Nat → CdT) (es' : Nat → EvT) (s' : Nat → Int32), f_Q_unschedule z v c e h t vs cs es x1 = some (b, e', h', vs', cs', es') ∧ yG b ∧ yZ n J v c e' s' ∧ yH J h' vs' cs' es' ∧ yT J h' vs' cs' es' s) := by
  have hs0 := yZ_st hs
  obtain ⟨k, T, hJ, h1, h2⟩ := hs
  unfold f_Q_unschedule f_X9_unschedule f_X9_requireEvent
  rcases zo_drops x1 h1 with ⟨a1, -⟩ | ⟨a1, e', s', a2, -, a4, a5⟩
  · left
    rw [a1, Option.bind_some, if_pos rfl]
    exact ⟨-900001, Or.inl rfl, rfl⟩
  · right
    obtain ⟨h', vs', cs', es', g1, g2, g3⟩ := yo_remember t H hs0
    refine ⟨e'.2.2.2, e', h', vs', cs', es', s', ?_, ?_, ⟨k - 1, T, hJ, a4, a5 h2⟩, g2, g3⟩
    · rw [a1, Option.bind_some, if_neg zt_10, Option.bind_some]
      simp only [Sum.elim_inr]
      simp only [g1, a2, Option.bind_some, Sum.elim_inr]
    · have he := a4.2.2.1
      rw [he.1]
      have hk := he.2.1
      unfold yG
      rw [zt_ti (by omega)]
      omega
end YQ
