/-! THE THEORY, 20: a program is carried out -/
theorem zTh_0 {m : MdT} (h : m.2.1 = 0) : zTh m 0 = m := by
  obtain ⟨a, b, r⟩ := m
  have hb : b = 0 := h
  subst hb
  rfl
theorem zt_sm0 : (Int32.ofNat 0).toNatClampNeg = 0 := rfl
section RN
variable {J : Int} {z : CcT} {v : StS} {c : CdT} {e : EvT} {s : Nat → Int32}
/-- one command -/
theorem zo_does {w : CmT} {cm : Nat → Int32} {i : Nat} (m : MdT) (hi : i ≤ 12) (hC : zCm w cm i) (hs : zSt J v c e s) (hJ : J + 1000 < 2147480000) :
    (f_X9_isAllowed z v c e w = some 0 ∧ ∃ t : Int32, t ≠ 0 ∧ f_X10_does m s cm (Int32.ofNat (4 * i)) = some (0, zTh m t, s)) ∨
    (f_X9_isAllowed z v c e w = some 1 ∧ ∃ (b : Int32) (v' : StS) (c' : CdT) (e' : EvT) (s' : Nat → Int32), f_X9_execute z v c e w = some (v', c', e') ∧ f_X10_does m s cm (Int32.ofNat (4 * i)) = some (b, zTh m 0, s') ∧ zSt (J + 240) v' c' e' s') := by
  obtain ⟨n, k, T, hT, h1, h2⟩ := hs
  have e1 : Int32.ofNat (4 * i) + 1 = Int32.ofNat (4 * i + 1) := zt_succ _
  have e2 : Int32.ofNat (4 * i) + 2 = Int32.ofNat (4 * i + 2) := zt_add _ 2
  have e3 : Int32.ofNat (4 * i) + 3 = Int32.ofNat (4 * i + 3) := zt_add _ 3
  have D : f_X10_does m s cm (Int32.ofNat (4 * i)) = (if cm (4 * i) = 99 then ((f_X10_adds m s (cm (4 * i + 1)) (cm (4 * i + 2)) (cm (4 * i + 3))).bind fun u6 => (some (u6.1, u6.2.1, u6.2.2))) else (if cm (4 * i) = 100 then ((f_X10_draws m s (cm (4 * i + 1))).bind fun u8 => (some (u8.1, u8.2.1, u8.2.2))) else (if cm (4 * i) = 108 then ((f_X10_lights m s (cm (4 * i + 1))).bind fun u10 => (some (u10.1, u10.2.1, u10.2.2))) else (if cm (4 * i) = 110 then ((f_X10_plans m s (cm (4 * i + 1)) (cm (4 * i + 2)) (cm (4 * i + 3))).bind fun u12 => (some (u12.1, u12.2.1, u12.2.2))) else (if cm (4 * i) = 111 then ((f_X10_drops m s (cm (4 * i + 1))).bind fun u14 => (some (u14.1, u14.2.1, u14.2.2))) else (if cm (4 * i) = 112 then ((f_X10_pours m s (cm (4 * i + 1)) (cm (4 * i + 2))).bind fun u16 => (some (u16.1, u16.2.1, u16.2.2))) else (if cm (4 * i) = 115 then ((f_X10_snuffs m s (cm (4 * i + 1))).bind fun u18 => (some (u18.1, u18.2.1, u18.2.2))) else ((f_X10_waits m s (cm (4 * i + 1))).bind fun u19 => (some (u19.1, u19.2.1, u19.2.2)))))))))) := by
    unfold f_X10_does
    rw [e1, e2, e3, zt_gi (by omega) (by omega), zt_gi (by omega) (by omega), zt_gi (by omega) (by omega), zt_gi (by omega) (by omega), zt_cl (by omega), zt_cl (by omega), zt_cl (by omega), zt_cl (by omega)]
  obtain ⟨kd, w1, w2, w3, w4, w5⟩ := w
  rcases hC with ⟨hk, c0, c1, c2, c3⟩ | ⟨hk, c0, c1⟩ | ⟨hk, c0, c1⟩ | ⟨hk, c0, c1, c2⟩ | ⟨hk, c0, c1⟩ | ⟨hk, c0, c1, c2, c3, c4⟩ | ⟨hk, c0, c1⟩ | ⟨hk, c0, c1⟩
  · have hk : kd = 0 := hk
    subst hk
    have a0 : f_X9_isAllowed z v c e (0, w1, w2, w3, w4, w5) = (f_X8_refusalToAdd v c w4 w2 w3).bind fun u4 => ((if u4 < 11 then (if u4 = 0 then (some ((1 : Int32))) else (some ((0 : Int32)))) else none)) := rfl
    have x0 : f_X9_execute z v c e (0, w1, w2, w3, w4, w5) = (f_X8_addNewCandle v c w4 w2 w3).bind fun u4 => (some (u4.2.1, u4.2.2, e)) := rfl
    rw [a0, x0, D, c0, c1, c2, c3, if_pos rfl]
    rcases zo_adds w4 w2 w3 h1 h2 with ⟨r, t, g1, g2, g3⟩ | ⟨g1, b, v', c', s', g2, g3, g4, g5⟩
    · refine Or.inl ⟨?_, t, by rcases g2 with ⟨-, rfl⟩ | ⟨-, rfl⟩ <;> decide, by rw [g3]; rfl⟩
      rw [g1]
      rcases g2 with ⟨rfl | rfl, -⟩ | ⟨rfl, -⟩ <;> rfl
    · refine Or.inr ⟨by rw [g1]; rfl, b, v', c', e, s', by rw [g2]; rfl, by rw [g3]; rfl, ⟨n + 1, k, T, by omega, g4, g5⟩⟩
  · have hk : kd = 1 := hk
    subst hk
    have a0 : f_X9_isAllowed z v c e (1, w1, w2, w3, w4, w5) = (f_X8_refusalToLight v c w1).bind fun u4 => ((if u4 < 11 then (if u4 = 0 then (some ((1 : Int32))) else (some ((0 : Int32)))) else none)) := rfl
    have x0 : f_X9_execute z v c e (1, w1, w2, w3, w4, w5) = (f_X8_setLit v c w1).bind fun u6 => (some (v, u6.2, e)) := rfl
    rw [a0, x0, D, c0, c1, if_neg (show ¬ (108 : Int32) = 99 by decide), if_neg (show ¬ (108 : Int32) = 100 by decide), if_pos rfl]
    rcases zo_lights w1 h1 with ⟨r, t, g1, g2, g3⟩ | ⟨g1, b, c', s', g2, g3, g4, g5⟩
    · refine Or.inl ⟨?_, t, by rcases g2 with ⟨-, rfl⟩ | ⟨-, rfl⟩ | ⟨-, rfl⟩ <;> decide, by rw [g3]; rfl⟩
      rw [g1]
      rcases g2 with ⟨rfl, -⟩ | ⟨rfl, -⟩ | ⟨rfl, -⟩ <;> rfl
    · refine Or.inr ⟨by rw [g1]; rfl, b, v, c', e, s', by rw [g2]; rfl, by rw [g3]; rfl, ⟨n, k, T, by omega, g4, g5 h2⟩⟩
  · have hk : kd = 2 := hk
    subst hk
    have a0 : f_X9_isAllowed z v c e (2, w1, w2, w3, w4, w5) = (f_X8_refusalToSnuff v c w1).bind fun u4 => ((if u4 < 11 then (if u4 = 0 then (some ((1 : Int32))) else (some ((0 : Int32)))) else none)) := rfl
    have x0 : f_X9_execute z v c e (2, w1, w2, w3, w4, w5) = (f_X8_setUnlit v c w1).bind fun u6 => (some (v, u6.2, e)) := rfl
    rw [a0, x0, D, c0, c1, if_neg (show ¬ (115 : Int32) = 99 by decide), if_neg (show ¬ (115 : Int32) = 100 by decide), if_neg (show ¬ (115 : Int32) = 108 by decide), if_neg (show ¬ (115 : Int32) = 110 by decide), if_neg (show ¬ (115 : Int32) = 111 by decide), if_neg (show ¬ (115 : Int32) = 112 by decide), if_pos rfl]
    rcases zo_snuffs w1 h1 with ⟨r, t, g1, g2, g3⟩ | ⟨g1, b, c', s', g2, g3, g4, g5⟩
    · refine Or.inl ⟨?_, t, by rcases g2 with ⟨-, rfl⟩ | ⟨-, rfl⟩ <;> decide, by rw [g3]; rfl⟩
      rw [g1]
      rcases g2 with ⟨rfl, -⟩ | ⟨rfl, -⟩ <;> rfl
    · refine Or.inr ⟨by rw [g1]; rfl, b, v, c', e, s', by rw [g2]; rfl, by rw [g3]; rfl, ⟨n, k, T, by omega, g4, g5 h2⟩⟩
  · have hk : kd = 3 := hk
    subst hk
    have a0 : f_X9_isAllowed z v c e (3, w1, w2, w3, w4, w5) = (f_X8_refusalToPour v c w1 w2).bind fun u4 => ((if u4 < 11 then (if u4 = 0 then (some ((1 : Int32))) else (some ((0 : Int32)))) else none)) := rfl
    have x0 : f_X9_execute z v c e (3, w1, w2, w3, w4, w5) = (f_X8_pourFromDish v c w1 w2).bind fun u10 => (some (u10.2.1, u10.2.2, e)) := rfl
    rw [a0, x0, D, c0, c1, c2, if_neg (show ¬ (112 : Int32) = 99 by decide), if_neg (show ¬ (112 : Int32) = 100 by decide), if_neg (show ¬ (112 : Int32) = 108 by decide), if_neg (show ¬ (112 : Int32) = 110 by decide), if_neg (show ¬ (112 : Int32) = 111 by decide), if_pos rfl]
    rcases zo_pours w1 w2 h1 with ⟨r, t, g1, g2, g3⟩ | ⟨g1, b, v', c', s', g2, g3, g4, g5⟩
    · refine Or.inl ⟨?_, t, by rcases g2 with ⟨-, rfl⟩ | ⟨-, rfl⟩ | ⟨-, rfl⟩ | ⟨-, rfl⟩ <;> decide, by rw [g3]; rfl⟩
      rw [g1]
      rcases g2 with ⟨rfl, -⟩ | ⟨rfl, -⟩ | ⟨rfl | rfl, -⟩ | ⟨rfl, -⟩ <;> rfl
    · refine Or.inr ⟨by rw [g1]; rfl, b, v', c', e, s', by rw [g2]; rfl, by rw [g3]; rfl, ⟨n, k, T, by omega, g4, g5 h2⟩⟩
  · have hk : kd = 4 := hk
    subst hk
    have a0 : f_X9_isAllowed z v c e (4, w1, w2, w3, w4, w5) = (f_X8_refusalToChangeDraught v w2).bind fun u4 => ((if u4 < 11 then (if u4 = 0 then (some ((1 : Int32))) else (some ((0 : Int32)))) else none)) := rfl
    have x0 : f_X9_execute z v c e (4, w1, w2, w3, w4, w5) = (f_X8_changeDraught v w2).bind fun u12 => (some (u12.2, c, e)) := rfl
    rw [a0, x0, D, c0, c1, if_neg (show ¬ (100 : Int32) = 99 by decide), if_pos rfl]
    rcases zo_draws w2 h1 with ⟨g1, g3⟩ | ⟨g1, b, v', s', g2, g3, g4, g5⟩
    · exact Or.inl ⟨by rw [g1]; rfl, 1, by decide, by rw [g3]; rfl⟩
    · refine Or.inr ⟨by rw [g1]; rfl, b, v', c, e, s', by rw [g2]; rfl, by rw [g3]; rfl, ⟨n, k, T, by omega, g4, g5 h2⟩⟩
  · have hk : kd = 5 := hk
    subst hk
    have c4 : w5 = 0 ∨ w5 = 1 := c4
    have a0 : f_X9_isAllowed z v c e (5, w1, w2, w3, w4, w5) = (f_X8_refusalToSchedule v c e w2 w1).bind fun u4 => ((if u4 < 11 then (if u4 = 0 then (some ((1 : Int32))) else (some ((0 : Int32)))) else none)) := rfl
    have x0 : f_X9_execute z v c e (5, w1, w2, w3, w4, w5) = (f_X3_insert e w2 w1 w5).bind fun u14 => (some (v, c, u14.2)) := rfl
    rw [a0, x0, D, c0, c1, c2, c3, if_neg (show ¬ (110 : Int32) = 99 by decide), if_neg (show ¬ (110 : Int32) = 100 by decide), if_neg (show ¬ (110 : Int32) = 108 by decide), if_pos rfl]
    rcases zo_plans m w2 w1 w5 c4 (by omega) h1 with ⟨r, t, g1, g2, g3⟩ | ⟨g1, b, e', s', g2, g3, g4, g5⟩
    · refine Or.inl ⟨?_, t, by rcases g2 with ⟨-, rfl⟩ | ⟨-, rfl⟩ | ⟨-, rfl⟩ <;> decide, by rw [g3]; rfl⟩
      rw [g1]
      rcases g2 with ⟨rfl, -⟩ | ⟨rfl, -⟩ | ⟨rfl, -⟩ <;> rfl
    · refine Or.inr ⟨by rw [g1]; rfl, b, v, c, e', s', by rw [g2]; rfl, by rw [g3]; rfl, ⟨n, k + 1, T, by omega, g4, g5 h2⟩⟩
  · have hk : kd = 6 := hk
    subst hk
    have a0 : f_X9_isAllowed z v c e (6, w1, w2, w3, w4, w5) = (f_X3_has e w2).bind fun u28 => ((if u28 = 0 ∨ u28 = 1 then (some (u28)) else none)) := rfl
    have x0 : f_X9_execute z v c e (6, w1, w2, w3, w4, w5) = (f_X3_remove e w2).bind fun u16 => (some (v, c, u16)) := rfl
    rw [a0, x0, D, c0, c1, if_neg (show ¬ (111 : Int32) = 99 by decide), if_neg (show ¬ (111 : Int32) = 100 by decide), if_neg (show ¬ (111 : Int32) = 108 by decide), if_neg (show ¬ (111 : Int32) = 110 by decide), if_pos rfl]
    rcases zo_drops w2 h1 with ⟨g1, g3⟩ | ⟨g1, e', s', g2, g3, g4, g5⟩
    · exact Or.inl ⟨by rw [g1]; rfl, 1, by decide, by rw [g3]; rfl⟩
    · refine Or.inr ⟨by rw [g1]; rfl, e'.2.2.2, v, c, e', s', by rw [g2]; rfl, by rw [g3]; rfl, ⟨n, k - 1, T, by omega, g4, g5 h2⟩⟩
  · have hk : kd = 7 := hk
    subst hk
    have a0 : f_X9_isAllowed z v c e (7, w1, w2, w3, w4, w5) = (f_X8_refusalToPass v w2).bind fun u4 => ((if u4 < 11 then (if u4 = 0 then (some ((1 : Int32))) else (some ((0 : Int32)))) else none)) := rfl
    have x0 : f_X9_execute z v c e (7, w1, w2, w3, w4, w5) = (f_X8_passMinutes v c e w2).bind fun u17 => (some (u17.2.1, u17.2.2.1, u17.2.2.2)) := rfl
    rw [a0, x0, D, c0, c1, if_neg (show ¬ (119 : Int32) = 99 by decide), if_neg (show ¬ (119 : Int32) = 100 by decide), if_neg (show ¬ (119 : Int32) = 108 by decide), if_neg (show ¬ (119 : Int32) = 110 by decide), if_neg (show ¬ (119 : Int32) = 111 by decide), if_neg (show ¬ (119 : Int32) = 112 by decide), if_neg (show ¬ (119 : Int32) = 115 by decide)]
    rcases zo_waits m w2 h1 h2 (by omega) with ⟨g1, g3⟩ | ⟨g1, b, v', c', k', e', s', T', g0, g2, g3, g4, g5⟩
    · exact Or.inl ⟨by rw [g1]; rfl, 1, by decide, by rw [g3]; rfl⟩
    · refine Or.inr ⟨by rw [g1]; rfl, b, v', c', e', s', by rw [g2]; rfl, by rw [g3]; rfl, ⟨n, k', T', by omega, g4, g5⟩⟩
end RN
/-- the commands one by one -/
theorem zt_runL {J0 : Int} {z : CcT} {v2 : StS} {c2 : CdT} {e2 : EvT} {h : HiT} {vs : Nat → StS} {cs : Nat → CdT} {es : Nat → EvT} {p wL tp cm : Nat → Int32} {q : PrT} {ws : Nat → CmT} {N : Nat} (t t2 : Unit) (hN : N ≤ 13) (hq : q.2.2.1 = Int32.ofNat N) (hC : ∀ j, j < N → zCm (ws j) cm j) (hw : zSt J0 v2 c2 e2 wL) :
    ∀ (r F G i : Nat) (J : Int) (v : StS) (c : CdT) (e : EvT) (s : Nat → Int32) (m : MdT), i + r = N → r < F → r < G → J0 ≤ J → J + 240 * r + 1000 < 2147480000 → zSt J v c e s → zH J0 h vs cs es p m.1 → m.2.1 = 0 → m.2.2.2.2.2.2.2.2.2 = Int32.ofNat N →
    (∃ (j : Nat) (v' : StS) (c' : CdT) (e' : EvT) (an : Int32) (s' : Nat → Int32), j < 13 ∧ f_X9_run_54 F z v c e v2 c2 e2 h t vs cs es q t2 ws (Int32.ofNat i) = some (Sum.inl 3, (z.1, z.2.1, Int32.ofNat j), v', c', e', v2, c2, e2, h, vs, cs, es, q, ws) ∧ f_X10_run_43 G m s wL p tp cm (Int32.ofNat i) = some (0, (m.1, 2, m.2.2.1, Int32.ofNat j, an, m.2.2.2.2.2), s', wL, p, cm) ∧ zSt J0 v' c' e' s') ∨
    (∃ (v' : StS) (c' : CdT) (e' : EvT) (h' : HiT) (vs' : Nat → StS) (cs' : Nat → CdT) (es' : Nat → EvT) (an : Int32) (s' p' : Nat → Int32), f_X9_run_54 F z v c e v2 c2 e2 h t vs cs es q t2 ws (Int32.ofNat i) = some (Sum.inr (Int32.ofNat N), z, v', c', e', v2, c2, e2, h', vs', cs', es', q, ws) ∧ f_X10_run_43 G m s wL p tp cm (Int32.ofNat i) = some (Int32.ofNat N, zCh (zAns m an) h'.2, s', wL, p', cm) ∧ zSt (J + 240 * r) v' c' e' s' ∧ zH J0 h' vs' cs' es' p' h'.2) := by
  intro r
  induction r with
  | zero =>
    intro F G i J v c e s m hi hF hG hJ0 hJ hs H hm hc
    obtain ⟨F, rfl⟩ : ∃ F', F = F' + 1 := ⟨F - 1, by omega⟩
    obtain ⟨G, rfl⟩ : ∃ G', G = G' + 1 := ⟨G - 1, by omega⟩
    have : i = N := by omega
    subst this
    obtain ⟨h', vs', cs', es', p', g1, g2, g3⟩ := zo_remember (m := m) t (Int32.ofNat i) H hw hm
    refine Or.inr ⟨v, c, e, h', vs', cs', es', m.2.2.2.2.1, s, p', ?_, ?_, by simpa using hs, g3⟩
    · rw [f_X9_run_54, hq, if_pos ((zt_le (by omega) (by omega)).mpr (Nat.le_refl _)), g1]
      rfl
    · rw [f_X10_run_43, hc, if_pos ((zt_le (by omega) (by omega)).mpr (Nat.le_refl _)), g2]
      rfl
  | succ r ih =>
    intro F G i J v c e s m hi hF hG hJ0 hJ hs H hm hc
    obtain ⟨F, rfl⟩ : ∃ F', F = F' + 1 := ⟨F - 1, by omega⟩
    obtain ⟨G, rfl⟩ : ∃ G', G = G' + 1 := ⟨G - 1, by omega⟩
    have hz0 : (m.1, (0 : Int32), m.2.2.1, m.2.2.2.1, m.2.2.2.2.1, m.2.2.2.2.2.1, m.2.2.2.2.2.2.1, m.2.2.2.2.2.2.2.1, m.2.2.2.2.2.2.2.2.1, m.2.2.2.2.2.2.2.2.2) = zTh m 0 := rfl
    have e4 : (4 : Int32) * Int32.ofNat i = Int32.ofNat (4 * i) := zt_mul 4 i
    rw [f_X9_run_54, hq, if_neg (fun q => absurd ((zt_le (by omega) (by omega)).mp q) (by omega)), zt_gi (by omega) (by omega), zt_cl (by omega), f_X10_run_43, if_neg (show ¬ m.2.2.2.2.2.2.2.2.2 ≤ Int32.ofNat i from by rw [hc]; exact fun q => absurd ((zt_le (by omega) (by omega)).mp q) (by omega)), hz0, e4]
    rcases zo_does (z := z) (zTh m 0) (by omega) (hC i (by omega)) hs (by omega) with ⟨a1, t', a2, a3⟩ | ⟨a1, b, v', c', e', s', a2, a3, a4⟩
    · obtain ⟨c', e', k1, -, k2⟩ := zSt_cp v c e hw
      obtain ⟨s', s1, s2⟩ := zt_copies0 wL s
      refine Or.inl ⟨i, v2, c', e', 0, s', by omega, ?_, ?_, zSt_row k2 (fun x hx => by rw [s2, if_pos hx])⟩
      · rw [a1, Option.bind_some, if_pos rfl, k1]
        rfl
      · rw [a3, Option.bind_some, if_neg (show ¬ (zTh (zTh m 0) t').2.1 = 0 from a2), s1]
        rfl
    · rw [a1, Option.bind_some, if_neg zt_10, zt_gj (by omega) (by omega), a2, Option.bind_some, zt_succ, a3, Option.bind_some, if_pos (show (zTh (zTh m 0) 0).2.1 = 0 from rfl)]
      have em : ((zTh (zTh m 0) 0).1, (zTh (zTh m 0) 0).2.1, (zTh (zTh m 0) 0).2.2.1, (zTh (zTh m 0) 0).2.2.2.1, b, (zTh (zTh m 0) 0).2.2.2.2.2.1, (zTh (zTh m 0) 0).2.2.2.2.2.2.1, (zTh (zTh m 0) 0).2.2.2.2.2.2.2.1, (zTh (zTh m 0) 0).2.2.2.2.2.2.2.2.1, (zTh (zTh m 0) 0).2.2.2.2.2.2.2.2.2) = zAns m b := by
        have : zAns m b = zAns (zTh m 0) b := by rw [zTh_0 hm]
        rw [this]
        rfl
      simp only [em]
      have := ih F G (i + 1) (J + 240) v' c' e' s' (zAns m b) (by omega) (by omega) (by omega) (by omega) (by omega) a4 H hm hc
      rcases this with ⟨j, v', c', e', an, s', z0, z1, z2, z3⟩ | ⟨v', c', e', h', vs', cs', es', an, s', p', z1, z2, z3, z4⟩
      · exact Or.inl ⟨j, v', c', e', an, s', z0, z1, z2, z3⟩
      · refine Or.inr ⟨v', c', e', h', vs', cs', es', an, s', p', z1, z2, ?_, z4⟩
        rw [show J + 240 * ((r + 1 : Nat) : Int) = J + 240 + 240 * r by omega]
        exact z3
/-- the recorded positions -/
def zEr (z : CcT) (m : MdT) : Prop := z.2.1 = m.2.2.1 ∧ z.2.2 = m.2.2.2.1 ∧ (z.2.1 = -1 ∨ 0 ≤ z.2.1.toInt) ∧ (z.2.2 = -1 ∨ 0 ≤ z.2.2.toInt)
theorem zl_run {J : Int} {z : CcT} {v v2 : StS} {c c2 : CdT} {e e2 : EvT} {h : HiT} {t t2 : Unit} {vs : Nat → StS} {cs : Nat → CdT} {es : Nat → EvT} {p w s tp cm : Nat → Int32} {m : MdT} {q : PrT} {ws : Nat → CmT} {lo : Nat → Int64} {len : Nat} (hx : zTx len q m tp) (hJ : J + 5000 < 2147480000) (H : zH J h vs cs es p m.1) (hs : zSt J v c e s) (hE : zEr z m) :
    ∃ (k b : Int32) (z' : CcT) (v' : StS) (c' : CdT) (e' : EvT) (v2' : StS) (c2' : CdT) (e2' : EvT) (h' : HiT) (vs' : Nat → StS) (cs' : Nat → CdT) (es' : Nat → EvT) (q' : PrT) (ws' : Nat → CmT) (lo' : Nat → Int64) (m' : MdT) (s' w' p' cm' : Nat → Int32), f_L_run z v c e v2 c2 e2 h t vs cs es q t2 ws lo = some (k, z', v', c', e', v2', c2', e2', h', vs', cs', es', q', ws', lo') ∧ f_X10_run m s w p tp cm = some (b, m', s', w', p', cm') ∧ m'.2.1 = k ∧ (k = 0 → lo' 0 = b.toInt64) ∧ zH (J + 4000) h' vs' cs' es' p' m'.1 ∧ zSt (J + 4000) v' c' e' s' ∧ z'.1 = z.1 ∧ zEr z' m' ∧ zTx 0 q' m' tp ∧ m'.2.2.2.2.2.1 = m.2.2.2.2.2.1 ∧ m'.2.2.2.2.2.2.1 = m.2.2.2.2.2.2.1 := by
  obtain ⟨b, p1, N, n', c', ws', cm', z1, z2, z3, z4⟩ := zt_parse t2 ws cm hx
  have h60 := hx.2.2.1
  have t0 : ∀ (q' : PrT) (m' : MdT), q'.2.1 = 0 → m'.2.2.2.2.2.2.2.1 = 0 → zTx 0 q' m' tp := fun q' m' g1 g2 => ⟨g1, g2, by omega, fun i hi => absurd hi (by omega)⟩
  rcases z4 with rfl | ⟨rfl, z4, z5, z6, z7⟩
  · unfold f_L_run f_X9_run f_X10_run f_X6_clear
    rw [z1, z2]
    simp only [Option.bind_some]
    unfold f_X10_run_20
    simp only [if_true, Option.bind_some, Sum.elim_inl, zt_thr1, if_neg zt_10]
    refine ⟨1, 0, _, _, _, _, _, _, _, _, _, _, _, _, _, lo, _, _, _, _, _, rfl, rfl, rfl, fun g => absurd g (by decide), zH_mono (by omega) H, zSt_mono (by omega) hs, rfl, ⟨rfl, hE.2.1, Or.inr ?_, hE.2.2.2⟩, t0 _ _ rfl rfl, rfl, rfl⟩
    show 0 ≤ (Int32.ofNat p1).toInt
    rw [zt_ti (by omega)]
    omega
  · subst z4 z5
    obtain ⟨c1, e1, k1, -, k2⟩ := zSt_cp v2 c2 e2 hs
    have X : f_X9_run z v c e v2 c2 e2 h t vs cs es q t2 ws = f_X9_run_54 xFuel z v c e v c1 e1 h t vs cs es (q.1, 0, Int32.ofNat N, Int32.ofNat p1) t2 ws' (Int32.ofNat 0) := by
      unfold f_X9_run f_X6_clear
      rw [z1, Option.bind_some, Option.bind_some, if_neg zt_10, k1, Option.bind_some]
      rfl
    obtain ⟨M, hM⟩ : ∃ M : MdT, M = (m.1, (0 : Int32), m.2.2.1, m.2.2.2.1, m.2.2.2.2.1, m.2.2.2.2.2.1, m.2.2.2.2.2.2.1, (0 : Int32), Int32.ofNat p1, Int32.ofNat N) := ⟨_, rfl⟩
    obtain ⟨w', w1, w2⟩ := zt_keeps M s w
    have hz : zTh M 0 = M := by rw [hM]; rfl
    rw [hz] at w1
    have Y : f_X10_run m s w p tp cm = f_X10_run_43 xFuel M s w' p tp cm' (Int32.ofNat 0) := by
      unfold f_X10_run
      rw [z2, Option.bind_some, if_neg zt_10]
      unfold f_X10_run_20
      rw [zt_thr0, Option.bind_some, if_pos rfl]
      have e9 : zTh ((zMh m p1 (Int32.ofNat N)).1, (zMh m p1 (Int32.ofNat N)).2.1, (zMh m p1 (Int32.ofNat N)).2.2.1, (zMh m p1 (Int32.ofNat N)).2.2.2.1, (zMh m p1 (Int32.ofNat N)).2.2.2.2.1, (zMh m p1 (Int32.ofNat N)).2.2.2.2.2.1, (zMh m p1 (Int32.ofNat N)).2.2.2.2.2.2.1, (0 : Int32), (zMh m p1 (Int32.ofNat N)).2.2.2.2.2.2.2.2.1, (zMh m p1 (Int32.ofNat N)).2.2.2.2.2.2.2.2.2) 0 = M := hM.symm
      rw [e9, w1, Option.bind_some]
      rfl
    have hM1 : M.1 = m.1 := by rw [hM]
    have hM2 : M.2.1 = 0 := by rw [hM]
    have hM3 : M.2.2.1 = m.2.2.1 := by rw [hM]
    have hM4 : M.2.2.2.1 = m.2.2.2.1 := by rw [hM]
    have hM6 : M.2.2.2.2.2.1 = m.2.2.2.2.2.1 := by rw [hM]
    have hM7 : M.2.2.2.2.2.2.1 = m.2.2.2.2.2.2.1 := by rw [hM]
    have hM8 : M.2.2.2.2.2.2.2.1 = 0 := by rw [hM]
    have hM10 : M.2.2.2.2.2.2.2.2.2 = Int32.ofNat N := by rw [hM]
    clear hM
    have hrow : zSt J v c1 e1 w' := zSt_row k2 w2
    unfold f_L_run
    rw [X, Y]
    rcases zt_runL (z := z) (q := (q.1, 0, Int32.ofNat N, Int32.ofNat p1)) (ws := ws') (cm := cm') (tp := tp) (h := h) (vs := vs) (cs := cs) (es := es) (p := p) t t2 z6 rfl z7 hrow N xFuel xFuel 0 J v c e s M (by omega) (by unfold xFuel; omega) (by unfold xFuel; omega) (by omega) (by omega) hs (by rw [hM1]; exact H) hM2 hM10 with ⟨j, v', c', e', an, s', y0, y1, y2, y3⟩ | ⟨v', c', e', h', vs', cs', es', an, s', p', y1, y2, y3, y4⟩
    · rw [y1, y2]
      simp only [Option.bind_some, Sum.elim_inl]
      refine ⟨2, 0, _, _, _, _, _, _, _, _, _, _, _, _, _, lo, _, _, _, _, _, rfl, rfl, rfl, fun g => absurd g (by decide), ?_, zSt_mono (by omega) y3, rfl, ⟨hE.1.trans hM3.symm, rfl, hE.2.2.1, Or.inr ?_⟩, t0 _ _ rfl hM8, hM6, hM7⟩
      · show zH _ h vs cs es p M.1
        rw [hM1]
        exact zH_mono (by omega) H
      · show 0 ≤ (Int32.ofNat j).toInt
        rw [zt_ti (by omega)]
        omega
    · rw [y1, y2]
      simp only [Option.bind_some, Sum.elim_inr]
      rw [zt_g (by decide)]
      exact ⟨0, Int32.ofNat N, _, _, _, _, _, _, _, _, _, _, _, _, _, _, _, _, _, _, _, rfl, rfl, hM2, fun _ => zt_lo _ _, zH_mono (by omega) y4, zSt_mono (by omega) y3, rfl, ⟨hE.1.trans hM3.symm, hE.2.1.trans hM4.symm, hE.2.2.1, hE.2.2.2⟩, t0 _ _ rfl hM8, hM6, hM7⟩
