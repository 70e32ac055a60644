/-! THE THEORY, 16: the changes, remembered -/
theorem zt_keeps (m : MdT) (s w : Nat → Int32) : ∃ w' : Nat → Int32, f_X10_keeps m s w = some (zTh m 0, w') ∧ ∀ x, x < 110 → w' x = s x := by
  obtain ⟨w', h1, h2⟩ := zt_copies0 s w
  refine ⟨w', ?_, fun x hx => by rw [h2, if_pos hx]⟩
  unfold f_X10_keeps
  rw [h1, Option.bind_some]
  rfl
theorem zt_endT {m : MdT} {w p : Nat → Int32} {told : Int32} (h : m.2.1 ≠ 0) : f_X10_ends m w p told = some (0, m, p) := by
  unfold f_X10_ends
  rw [if_neg h]
theorem zH_ch {J : Int} {h : HiT} {vs : Nat → StS} {cs : Nat → CdT} {es : Nat → EvT} {p : Nat → Int32} {m : MdT} (H : zH J h vs cs es p m.1) : h.2 = m.1 := by
  obtain ⟨a, q, -, -, -, e1, e2, -⟩ := H
  rw [e1, e2]
theorem zH_th {J : Int} {h : HiT} {vs : Nat → StS} {cs : Nat → CdT} {es : Nat → EvT} {p : Nat → Int32} {m : MdT} (H : zH J h vs cs es p m.1) (k : Int32) : zCh (zTh m k) h.2 = zTh m k := by
  rw [zH_ch H]
  rfl
theorem zH_own {J : Int} {h : HiT} {vs : Nat → StS} {cs : Nat → CdT} {es : Nat → EvT} {p : Nat → Int32} {m : MdT} (H : zH J h vs cs es p m.1) : zH J h vs cs es p h.2 := by
  rw [zH_ch H]; exact H
section CH
variable {J : Int} {z : CcT} {h : HiT} {t : Unit} {vs : Nat → StS} {cs : Nat → CdT} {es : Nat → EvT} {p w s : Nat → Int32} {m : MdT} {v : StS} {c : CdT} {e : EvT} {lo : Nat → Int64}
theorem zl_add (x1 x2 x3 : Int32) (H : zH J h vs cs es p m.1) (hs : zSt J v c e s) :
    ∃ (k b : Int32) (v' : StS) (c' : CdT) (h' : HiT) (vs' : Nat → StS) (cs' : Nat → CdT) (es' : Nat → EvT) (lo' : Nat → Int64) (s' w' p' : Nat → Int32), f_L_addCandle z v c e h t vs cs es lo x1 x2 x3 = some (k, v', c', h', vs', cs', es', lo') ∧ f_X10_addCandle m s w p x1 x2 x3 = some (b, zCh (zTh m k) h'.2, s', w', p') ∧ (k = 0 → lo' 0 = b.toInt64) ∧ zH J h' vs' cs' es' p' h'.2 ∧ zSt J v' c' e s' := by
  have hs0 := hs
  obtain ⟨n, k, T, hJ, h1, h2⟩ := hs
  obtain ⟨w', w1, w2⟩ := zt_keeps m s w
  unfold f_L_addCandle f_X9_addCandle f_X10_addCandle
  rw [w1, Option.bind_some]
  rcases zo_adds x1 x2 x3 h1 h2 with ⟨r, t', a1, a2, a3⟩ | ⟨a1, b, v', c', s', a2, a3, a4, a5⟩
  · have ht : t' ≠ 0 := by rcases a2 with ⟨-, rfl⟩ | ⟨-, rfl⟩ <;> decide
    simp only [a1, a3, Option.bind_some, zt_endT (m := zTh (zTh m 0) t') ht]
    refine ⟨t', 0, v, c, h, vs, cs, es, lo, s, w', p, ?_, by rw [zH_th H]; rfl, fun g => absurd g ht, zH_own H, hs0⟩
    rcases a2 with ⟨rfl | rfl, rfl⟩ | ⟨rfl, rfl⟩ <;> rfl
  · obtain ⟨h', vs', cs', es', p', g1, g2, g3⟩ := zo_remember (m := zTh (zTh m 0) 0) t b H (zSt_row hs0 w2) rfl
    rw [a1, Option.bind_some, zt_tir0, Option.bind_some]
    simp only [Sum.elim_inr]
    simp only [g1, a2, a3, g2, Option.bind_some, Sum.elim_inr]
    rw [zt_g (by decide)]
    exact ⟨0, b, v', c', h', vs', cs', es', _, s', w', p', rfl, rfl, fun _ => zt_lo _ _, g3, ⟨n + 1, k, T, hJ, a4, a5⟩⟩
theorem zl_light (x1 : Int32) (H : zH J h vs cs es p m.1) (hs : zSt J v c e s) :
    ∃ (k b : Int32) (c' : CdT) (h' : HiT) (vs' : Nat → StS) (cs' : Nat → CdT) (es' : Nat → EvT) (lo' : Nat → Int64) (s' w' p' : Nat → Int32), f_L_light z v c e h t vs cs es lo x1 = some (k, c', h', vs', cs', es', lo') ∧ f_X10_light m s w p x1 = some (b, zCh (zTh m k) h'.2, s', w', p') ∧ (k = 0 → lo' 0 = b.toInt64) ∧ zH J h' vs' cs' es' p' h'.2 ∧ zSt J v c' e s' := by
  have hs0 := hs
  obtain ⟨n, k, T, hJ, h1, h2⟩ := hs
  obtain ⟨w', w1, w2⟩ := zt_keeps m s w
  unfold f_L_light f_X9_light f_X10_light
  rw [w1, Option.bind_some]
  rcases zo_lights x1 h1 with ⟨r, t', a1, a2, a3⟩ | ⟨a1, b, c', s', a2, a3, a4, a5⟩
  · have ht : t' ≠ 0 := by rcases a2 with ⟨-, rfl⟩ | ⟨-, rfl⟩ | ⟨-, rfl⟩ <;> decide
    simp only [a1, a3, Option.bind_some, zt_endT (m := zTh (zTh m 0) t') ht]
    refine ⟨t', 0, c, h, vs, cs, es, lo, s, w', p, ?_, by rw [zH_th H]; rfl, fun g => absurd g ht, zH_own H, hs0⟩
    rcases a2 with ⟨rfl, rfl⟩ | ⟨rfl, rfl⟩ | ⟨rfl, rfl⟩ <;> rfl
  · obtain ⟨h', vs', cs', es', p', g1, g2, g3⟩ := zo_remember (m := zTh (zTh m 0) 0) t b H (zSt_row hs0 w2) rfl
    rw [a1, Option.bind_some, zt_tir0, Option.bind_some]
    simp only [Sum.elim_inr]
    simp only [g1, a2, a3, g2, Option.bind_some, Sum.elim_inr]
    rw [zt_g (by decide)]
    exact ⟨0, b, c', h', vs', cs', es', _, s', w', p', rfl, rfl, fun _ => zt_lo _ _, g3, ⟨n, k, T, hJ, a4, a5 h2⟩⟩
theorem zl_snuff (x1 : Int32) (H : zH J h vs cs es p m.1) (hs : zSt J v c e s) :
    ∃ (k b : Int32) (c' : CdT) (h' : HiT) (vs' : Nat → StS) (cs' : Nat → CdT) (es' : Nat → EvT) (lo' : Nat → Int64) (s' w' p' : Nat → Int32), f_L_snuff z v c e h t vs cs es lo x1 = some (k, c', h', vs', cs', es', lo') ∧ f_X10_snuff m s w p x1 = some (b, zCh (zTh m k) h'.2, s', w', p') ∧ (k = 0 → lo' 0 = b.toInt64) ∧ zH J h' vs' cs' es' p' h'.2 ∧ zSt J v c' e s' := by
  have hs0 := hs
  obtain ⟨n, k, T, hJ, h1, h2⟩ := hs
  obtain ⟨w', w1, w2⟩ := zt_keeps m s w
  unfold f_L_snuff f_X9_snuff f_X10_snuff
  rw [w1, Option.bind_some]
  rcases zo_snuffs x1 h1 with ⟨r, t', a1, a2, a3⟩ | ⟨a1, b, c', s', a2, a3, a4, a5⟩
  · have ht : t' ≠ 0 := by rcases a2 with ⟨-, rfl⟩ | ⟨-, rfl⟩ <;> decide
    simp only [a1, a3, Option.bind_some, zt_endT (m := zTh (zTh m 0) t') ht]
    refine ⟨t', 0, c, h, vs, cs, es, lo, s, w', p, ?_, by rw [zH_th H]; rfl, fun g => absurd g ht, zH_own H, hs0⟩
    rcases a2 with ⟨rfl, rfl⟩ | ⟨rfl, rfl⟩ <;> rfl
  · obtain ⟨h', vs', cs', es', p', g1, g2, g3⟩ := zo_remember (m := zTh (zTh m 0) 0) t b H (zSt_row hs0 w2) rfl
    rw [a1, Option.bind_some, zt_tir0, Option.bind_some]
    simp only [Sum.elim_inr]
    simp only [g1, a2, a3, g2, Option.bind_some, Sum.elim_inr]
    rw [zt_g (by decide)]
    exact ⟨0, b, c', h', vs', cs', es', _, s', w', p', rfl, rfl, fun _ => zt_lo _ _, g3, ⟨n, k, T, hJ, a4, a5 h2⟩⟩
theorem zl_pour (x1 x2 : Int32) (H : zH J h vs cs es p m.1) (hs : zSt J v c e s) :
    ∃ (k b : Int32) (v' : StS) (c' : CdT) (h' : HiT) (vs' : Nat → StS) (cs' : Nat → CdT) (es' : Nat → EvT) (lo' : Nat → Int64) (s' w' p' : Nat → Int32), f_L_pour z v c e h t vs cs es lo x1 x2 = some (k, v', c', h', vs', cs', es', lo') ∧ f_X10_pour m s w p x1 x2 = some (b, zCh (zTh m k) h'.2, s', w', p') ∧ (k = 0 → lo' 0 = b.toInt64) ∧ zH J h' vs' cs' es' p' h'.2 ∧ zSt J v' c' e s' := by
  have hs0 := hs
  obtain ⟨n, k, T, hJ, h1, h2⟩ := hs
  obtain ⟨w', w1, w2⟩ := zt_keeps m s w
  unfold f_L_pour f_X9_pour f_X10_pour
  rw [w1, Option.bind_some]
  rcases zo_pours x1 x2 h1 with ⟨r, t', a1, a2, a3⟩ | ⟨a1, b, v', c', s', a2, a3, a4, a5⟩
  · have ht : t' ≠ 0 := by rcases a2 with ⟨-, rfl⟩ | ⟨-, rfl⟩ | ⟨-, rfl⟩ | ⟨-, rfl⟩ <;> decide
    simp only [a1, a3, Option.bind_some, zt_endT (m := zTh (zTh m 0) t') ht]
    refine ⟨t', 0, v, c, h, vs, cs, es, lo, s, w', p, ?_, by rw [zH_th H]; rfl, fun g => absurd g ht, zH_own H, hs0⟩
    rcases a2 with ⟨rfl, rfl⟩ | ⟨rfl, rfl⟩ | ⟨rfl | rfl, rfl⟩ | ⟨rfl, rfl⟩ <;> rfl
  · obtain ⟨h', vs', cs', es', p', g1, g2, g3⟩ := zo_remember (m := zTh (zTh m 0) 0) t b H (zSt_row hs0 w2) rfl
    rw [a1, Option.bind_some, zt_tir0, Option.bind_some]
    simp only [Sum.elim_inr]
    simp only [g1, a2, a3, g2, Option.bind_some, Sum.elim_inr]
    rw [zt_g (by decide)]
    exact ⟨0, b, v', c', h', vs', cs', es', _, s', w', p', rfl, rfl, fun _ => zt_lo _ _, g3, ⟨n, k, T, hJ, a4, a5 h2⟩⟩
theorem zl_draught (x1 : Int32) (H : zH J h vs cs es p m.1) (hs : zSt J v c e s) :
    ∃ (k b : Int32) (v' : StS) (h' : HiT) (vs' : Nat → StS) (cs' : Nat → CdT) (es' : Nat → EvT) (lo' : Nat → Int64) (s' w' p' : Nat → Int32), f_L_setDraught z v c e h t vs cs es lo x1 = some (k, v', h', vs', cs', es', lo') ∧ f_X10_setDraught m s w p x1 = some (b, zCh (zTh m k) h'.2, s', w', p') ∧ (k = 0 → lo' 0 = b.toInt64) ∧ zH J h' vs' cs' es' p' h'.2 ∧ zSt J v' c e s' := by
  have hs0 := hs
  obtain ⟨n, k, T, hJ, h1, h2⟩ := hs
  obtain ⟨w', w1, w2⟩ := zt_keeps m s w
  unfold f_L_setDraught f_X9_setDraught f_X10_setDraught
  rw [w1, Option.bind_some]
  rcases zo_draws x1 h1 with ⟨a1, a3⟩ | ⟨a1, b, v', s', a2, a3, a4, a5⟩
  · simp only [a1, a3, Option.bind_some, zt_endT (m := zTh (zTh m 0) 1) (show (1 : Int32) ≠ 0 by decide)]
    exact ⟨1, 0, v, h, vs, cs, es, lo, s, w', p, rfl, by rw [zH_th H]; rfl, fun g => absurd g (by decide), zH_own H, hs0⟩
  · obtain ⟨h', vs', cs', es', p', g1, g2, g3⟩ := zo_remember (m := zTh (zTh m 0) 0) t b H (zSt_row hs0 w2) rfl
    rw [a1, Option.bind_some, zt_tir0, Option.bind_some]
    simp only [Sum.elim_inr]
    simp only [g1, a2, a3, g2, Option.bind_some, Sum.elim_inr]
    rw [zt_g (by decide)]
    exact ⟨0, b, v', h', vs', cs', es', _, s', w', p', rfl, rfl, fun _ => zt_lo _ _, g3, ⟨n, k, T, hJ, a4, a5 h2⟩⟩
theorem zl_schedule (x1 x2 x3 y3 : Int32) (hx : (x3 = 0 ∧ y3 = 0) ∨ (x3 = 1 ∧ y3 = 1)) (hJ' : J < 2147480000) (H : zH J h vs cs es p m.1) (hs : zSt J v c e s) :
    ∃ (k b : Int32) (e' : EvT) (h' : HiT) (vs' : Nat → StS) (cs' : Nat → CdT) (es' : Nat → EvT) (lo' : Nat → Int64) (s' w' p' : Nat → Int32), f_L_schedule z v c e h t vs cs es lo x1 x2 x3 = some (k, e', h', vs', cs', es', lo') ∧ f_X10_schedule m s w p x1 x2 y3 = some (b, zCh (zTh m k) h'.2, s', w', p') ∧ (k = 0 → lo' 0 = b.toInt64) ∧ zH J h' vs' cs' es' p' h'.2 ∧ zSt J v c e' s' := by
  have hs0 := hs
  obtain ⟨n, k, T, hJ, h1, h2⟩ := hs
  obtain ⟨w', w1, w2⟩ := zt_keeps m s w
  have e0 : f_X10_schedule m s w p x1 x2 y3 = (f_X10_plans (zTh m 0) s x1 x2 x3).bind fun u3 => ((f_X10_ends u3.2.1 w' p u3.1).bind fun u4 => (some (u4.1, u4.2.1, u3.2.2, w', u4.2.2))) := by
    unfold f_X10_schedule
    rw [w1, Option.bind_some]
    rcases hx with ⟨rfl, rfl⟩ | ⟨rfl, rfl⟩
    · rw [if_pos rfl]
    · rw [if_neg zt_10]
  have h3 : x3 = 0 ∨ x3 = 1 := hx.elim (fun g => Or.inl g.1) (fun g => Or.inr g.1)
  unfold f_L_schedule f_X9_schedule
  rw [e0]
  rcases zo_plans (zTh m 0) x1 x2 x3 h3 (by omega) h1 with ⟨r, t', a1, a2, a3⟩ | ⟨a1, b, e', s', a2, a3, a4, a5⟩
  · have ht : t' ≠ 0 := by rcases a2 with ⟨-, rfl⟩ | ⟨-, rfl⟩ | ⟨-, rfl⟩ <;> decide
    simp only [a1, a3, Option.bind_some, zt_endT (m := zTh (zTh m 0) t') ht]
    refine ⟨t', 0, e, h, vs, cs, es, lo, s, w', p, ?_, by rw [zH_th H]; rfl, fun g => absurd g ht, zH_own H, hs0⟩
    rcases a2 with ⟨rfl, rfl⟩ | ⟨rfl, rfl⟩ | ⟨rfl, rfl⟩ <;> rfl
  · obtain ⟨h', vs', cs', es', p', g1, g2, g3⟩ := zo_remember (m := zTh (zTh m 0) 0) t b H (zSt_row hs0 w2) rfl
    rw [a1, Option.bind_some, zt_tir0, Option.bind_some]
    simp only [Sum.elim_inr]
    simp only [g1, a2, a3, g2, Option.bind_some, Sum.elim_inr]
    rw [zt_g (by decide)]
    exact ⟨0, b, e', h', vs', cs', es', _, s', w', p', rfl, rfl, fun _ => zt_lo _ _, g3, ⟨n, k + 1, T, hJ, a4, a5 h2⟩⟩
theorem zl_unschedule (x1 : Int32) (H : zH J h vs cs es p m.1) (hs : zSt J v c e s) :
    ∃ (k b : Int32) (e' : EvT) (h' : HiT) (vs' : Nat → StS) (cs' : Nat → CdT) (es' : Nat → EvT) (lo' : Nat → Int64) (s' w' p' : Nat → Int32), f_L_unschedule z v c e h t vs cs es lo x1 = some (k, e', h', vs', cs', es', lo') ∧ f_X10_unschedule m s w p x1 = some (b, zCh (zTh m k) h'.2, s', w', p') ∧ (k = 0 → lo' 0 = b.toInt64) ∧ zH J h' vs' cs' es' p' h'.2 ∧ zSt J v c e' s' := by
  have hs0 := hs
  obtain ⟨n, k, T, hJ, h1, h2⟩ := hs
  obtain ⟨w', w1, w2⟩ := zt_keeps m s w
  unfold f_L_unschedule f_X9_unschedule f_X10_unschedule f_X9_requireEvent
  rw [w1, Option.bind_some]
  rcases zo_drops x1 h1 with ⟨a1, a3⟩ | ⟨a1, e', s', a2, a3, a4, a5⟩
  · simp only [a1, a3, Option.bind_some, zt_endT (m := zTh (zTh m 0) 1) (show (1 : Int32) ≠ 0 by decide)]
    exact ⟨1, 0, e, h, vs, cs, es, lo, s, w', p, rfl, by rw [zH_th H]; rfl, fun g => absurd g (by decide), zH_own H, hs0⟩
  · obtain ⟨h', vs', cs', es', p', g1, g2, g3⟩ := zo_remember (m := zTh (zTh m 0) 0) t e'.2.2.2 H (zSt_row hs0 w2) rfl
    rw [a1, Option.bind_some, if_neg zt_10, Option.bind_some]
    simp only [Sum.elim_inr]
    simp only [g1, a2, a3, g2, Option.bind_some, Sum.elim_inr]
    rw [zt_g (by decide)]
    exact ⟨0, e'.2.2.2, e', h', vs', cs', es', _, s', w', p', rfl, rfl, fun _ => zt_lo _ _, g3, ⟨n, k - 1, T, hJ, a4, a5 h2⟩⟩
theorem zl_pass (x1 : Int32) (hJ' : J + 1000 < 2147480000) (H : zH J h vs cs es p m.1) (hs : zSt J v c e s) :
    ∃ (k b : Int32) (v' : StS) (c' : CdT) (e' : EvT) (h' : HiT) (vs' : Nat → StS) (cs' : Nat → CdT) (es' : Nat → EvT) (lo' : Nat → Int64) (s' w' p' : Nat → Int32), f_L_pass z v c e h t vs cs es lo x1 = some (k, v', c', e', h', vs', cs', es', lo') ∧ f_X10_pass m s w p x1 = some (b, zCh (zTh m k) h'.2, s', w', p') ∧ (k = 0 → lo' 0 = b.toInt64) ∧ zH (J + 240) h' vs' cs' es' p' h'.2 ∧ zSt (J + 240) v' c' e' s' := by
  have hs0 := hs
  obtain ⟨n, k, T, hJ, h1, h2⟩ := hs
  obtain ⟨w', w1, w2⟩ := zt_keeps m s w
  unfold f_L_pass f_X9_pass f_X10_pass
  rw [w1, Option.bind_some]
  rcases zo_waits (zTh m 0) x1 h1 h2 (by omega) with ⟨a1, a3⟩ | ⟨a1, b, v', c', k', e', s', T', a0, a2, a3, a4, a5⟩
  · simp only [a1, a3, Option.bind_some, zt_endT (m := zTh (zTh m 0) 1) (show (1 : Int32) ≠ 0 by decide)]
    exact ⟨1, 0, v, c, e, h, vs, cs, es, lo, s, w', p, rfl, by rw [zH_th H]; rfl, fun g => absurd g (by decide), zH_mono (by omega) (zH_own H), zSt_mono (by omega) hs0⟩
  · obtain ⟨h', vs', cs', es', p', g1, g2, g3⟩ := zo_remember (m := zTh (zTh m 0) 0) t b H (zSt_row hs0 w2) rfl
    rw [a1, Option.bind_some, zt_tir0, Option.bind_some]
    simp only [Sum.elim_inr]
    simp only [g1, a2, a3, g2, Option.bind_some, Sum.elim_inr]
    rw [zt_g (by decide)]
    exact ⟨0, b, v', c', e', h', vs', cs', es', _, s', w', p', rfl, rfl, fun _ => zt_lo _ _, zH_mono (by omega) g3, ⟨n, k', T', by omega, a4, a5⟩⟩
end CH
