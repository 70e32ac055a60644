/-! P50, 9: how the law's concert is begun -/
def yV (b : Int32) : Prop := -1000000 ≤ b.toInt ∧ b.toInt ≤ 1000000
theorem yV_B {b : Int32} (h : yB b) : yV b := by
  rcases h with rfl | rfl | rfl | rfl <;> exact ⟨by decide, by decide⟩
theorem yV_W {b : Int32} (h : yW b) : yV b := by
  unfold yW at h
  unfold yV
  omega
theorem yV_G {b : Int32} (h : yG b) : yV b := yV_W (yW_of h)
section YK
variable {n : Nat} {J : Int} {z : CcT} {h : HiT} {t : Unit} {vs : Nat → StS} {cs : Nat → CdT} {es : Nat → EvT} {s : Nat → Int32} {v : StS} {c : CdT} {e : EvT}
theorem yk_light (x1 : Int32) (H : yH J h vs cs es) (hs : yZ n J v c e s) : ∃ (b : Int32) (c' : CdT) (h' : HiT) (vs' : Nat → StS) (cs' : Nat → CdT) (es' : Nat → EvT) (s' : Nat → Int32), f_Q_light z v c e h t vs cs es x1 = some (b, c', h', vs', cs', es') ∧ yV b ∧ yZ n J v c' e s' ∧ yH J h' vs' cs' es' := by
  rcases yq_light x1 H hs with ⟨b, hb, g⟩ | ⟨b, c', h', vs', cs', es', s', g, g1, g2, g3, -⟩
  · exact ⟨b, _, _, _, _, _, s, g, yV_B hb, yZ_mono (by omega) hs, yH_mono (by omega) H⟩
  · exact ⟨b, _, _, _, _, _, s', g, yV_G g1, g2, g3⟩
theorem yk_snuff (x1 : Int32) (H : yH J h vs cs es) (hs : yZ n J v c e s) : ∃ (b : Int32) (c' : CdT) (h' : HiT) (vs' : Nat → StS) (cs' : Nat → CdT) (es' : Nat → EvT) (s' : Nat → Int32), f_Q_snuff z v c e h t vs cs es x1 = some (b, c', h', vs', cs', es') ∧ yV b ∧ yZ n J v c' e s' ∧ yH J h' vs' cs' es' := by
  rcases yq_snuff x1 H hs with ⟨b, hb, g⟩ | ⟨b, c', h', vs', cs', es', s', g, g1, g2, g3, -⟩
  · exact ⟨b, _, _, _, _, _, s, g, yV_B hb, yZ_mono (by omega) hs, yH_mono (by omega) H⟩
  · exact ⟨b, _, _, _, _, _, s', g, yV_G g1, g2, g3⟩
theorem yk_draught (x1 : Int32) (H : yH J h vs cs es) (hs : yZ n J v c e s) : ∃ (b : Int32) (v' : StS) (h' : HiT) (vs' : Nat → StS) (cs' : Nat → CdT) (es' : Nat → EvT) (s' : Nat → Int32), f_Q_setDraught z v c e h t vs cs es x1 = some (b, v', h', vs', cs', es') ∧ yV b ∧ yZ n J v' c e s' ∧ yH J h' vs' cs' es' := by
  rcases yq_draught x1 H hs with ⟨b, hb, g⟩ | ⟨b, v', h', vs', cs', es', s', g, g1, g2, g3, -⟩
  · exact ⟨b, _, _, _, _, _, s, g, yV_B hb, yZ_mono (by omega) hs, yH_mono (by omega) H⟩
  · exact ⟨b, _, _, _, _, _, s', g, yV_G g1, g2, g3⟩
theorem yk_schedule (x1 : Int32) (x2 : Int32) (x3 : Int32) (h3 : x3 = 0 ∨ x3 = 1) (hJ9 : J < 2147480000) (H : yH J h vs cs es) (hs : yZ n J v c e s) : ∃ (b : Int32) (e' : EvT) (h' : HiT) (vs' : Nat → StS) (cs' : Nat → CdT) (es' : Nat → EvT) (s' : Nat → Int32), f_Q_schedule z v c e h t vs cs es x1 x2 x3 = some (b, e', h', vs', cs', es') ∧ yV b ∧ yZ n J v c e' s' ∧ yH J h' vs' cs' es' := by
  rcases yq_schedule x1 x2 x3 h3 hJ9 H hs with ⟨b, hb, g⟩ | ⟨b, e', h', vs', cs', es', s', g, g1, g2, g3, -⟩
  · exact ⟨b, _, _, _, _, _, s, g, yV_B hb, yZ_mono (by omega) hs, yH_mono (by omega) H⟩
  · exact ⟨b, _, _, _, _, _, s', g, yV_G g1, g2, g3⟩
theorem yk_pass (x1 : Int32) (hJ9 : J + 1000 < 2147480000) (H : yH J h vs cs es) (hs : yZ n J v c e s) : ∃ (b : Int32) (v' : StS) (c' : CdT) (e' : EvT) (h' : HiT) (vs' : Nat → StS) (cs' : Nat → CdT) (es' : Nat → EvT) (s' : Nat → Int32), f_Q_pass z v c e h t vs cs es x1 = some (b, v', c', e', h', vs', cs', es') ∧ yV b ∧ yZ n (J + 240) v' c' e' s' ∧ yH (J + 240) h' vs' cs' es' := by
  rcases yq_pass x1 hJ9 H hs with ⟨b, hb, g⟩ | ⟨b, v', c', e', h', vs', cs', es', s', g, g1, g2, g3, -⟩
  · exact ⟨b, _, _, _, _, _, _, _, s, g, yV_B hb, yZ_mono (by omega) hs, yH_mono (by omega) H⟩
  · exact ⟨b, _, _, _, _, _, _, _, s', g, yV_W g1, g2, g3⟩
theorem yk_add {x1 x2 x3 : Int32} (q0 : zVo x1) (q1 : 1 ≤ x2.toInt ∧ x2.toInt ≤ 999) (q2 : 1 ≤ x3.toInt ∧ x3.toInt ≤ 9) (hn : n < 10) (H : yH J h vs cs es) (hs : yZ n J v c e s) : ∃ (b : Int32) (v' : StS) (c' : CdT) (h' : HiT) (vs' : Nat → StS) (cs' : Nat → CdT) (es' : Nat → EvT) (s' : Nat → Int32), f_Q_addCandle z v c e h t vs cs es x1 x2 x3 = some (b, v', c', h', vs', cs', es') ∧ yV b ∧ yZ (n + 1) J v' c' e s' ∧ yH J h' vs' cs' es' := by
  have hs0 := yZ_st hs
  obtain ⟨k, T, hJ, h1, h2⟩ := hs
  have e1 : (1 : Int32).toInt = 1 := by decide
  have e9 : (9 : Int32).toInt = 9 := by decide
  have e999 : (999 : Int32).toInt = 999 := by decide
  have ref : f_X8_refusalToAdd v c x1 x2 x3 = some 0 := by
    unfold f_X8_refusalToAdd
    rw [((zt_isVoice x1).1 q0).1, Option.bind_some, if_neg zt_10, if_neg (by rw [Int32.lt_iff_toInt_lt]; omega), if_neg (by rw [Int32.lt_iff_toInt_lt]; omega), if_neg (by rw [Int32.lt_iff_toInt_lt]; omega), if_pos (by rw [Int32.le_iff_toInt_le]; omega), h1.1.1, if_pos (show Int32.ofNat n < (10 : Int32) from (zt_lt (b := 10) (by omega) (by omega)).mpr hn)]
  rcases zo_adds x1 x2 x3 h1 h2 with ⟨r, t', a1, a2, -⟩ | ⟨a1, b, v', c', s', a2, -, a4, a5⟩
  · rw [ref] at a1
    have er : 0 = r := Option.some.inj a1
    subst er
    rcases a2 with ⟨q | q, -⟩ | ⟨q, -⟩ <;> omega
  · obtain ⟨h', vs', cs', es', g1, g2, g3⟩ := yo_remember t H hs0
    refine ⟨b, v', c', h', vs', cs', es', s', ?_, yV_G (yb_add h1.1 a2), ⟨k, T, hJ, a4, a5⟩, g2⟩
    unfold f_Q_addCandle f_X9_addCandle
    rw [a1, Option.bind_some, zt_tir0, Option.bind_some]
    simp only [Sum.elim_inr]
    simp only [g1, a2, Option.bind_some, Sum.elim_inr]
end YK
abbrev yBg : Type := CcT × StS × CdT × EvT × StS × CdT × EvT × StS × CdT × EvT × HiT × Unit × (Nat → StS) × (Nat → CdT) × (Nat → EvT) × PrT × Unit × (Nat → CmT) × SbT × (Nat → Int32)
def yBs (n : Nat) (J : Int) (X : Option yBg) : Prop := ∃ (u : yBg) (s : Nat → Int32), X = some u ∧ yZ n J u.2.1 u.2.2.1 u.2.2.2.1 s ∧ yH J u.2.2.2.2.2.2.2.2.2.2.1 u.2.2.2.2.2.2.2.2.2.2.2.2.1 u.2.2.2.2.2.2.2.2.2.2.2.2.2.1 u.2.2.2.2.2.2.2.2.2.2.2.2.2.2.1 ∧ u.2.2.2.2.2.2.2.2.2.2.2.2.2.2.2.1.2.1 = 0 ∧ u.2.2.2.2.2.2.2.2.2.2.2.2.2.2.2.2.2.2.1 = (0, 0) ∧ u.2.2.2.2.2.2.2.2.2.2.2.2.2.2.2.2.2.2.2 = fun _ => 0
section YB
variable {n : Nat} {J : Int} {z : CcT} {h : HiT} {t t2 : Unit} {vs : Nat → StS} {cs : Nat → CdT} {es : Nat → EvT} {s : Nat → Int32} {v v2 v3 : StS} {c c2 c3 : CdT} {e e2 e3 : EvT} {q : PrT} {ws : Nat → CmT} {k : SbT} {f : Nat → Int32} {L : Nat} {xs : Nat → Int32}
theorem yt_acc {x b : Int32} {m : Nat} (hm : m ≤ 40) (hx : -(1000000 * (m : Int)) ≤ x.toInt ∧ x.toInt ≤ 1000000 * (m : Int)) (hb : yV b) : -(1000000 * ((m + 1 : Nat) : Int)) ≤ (x + b).toInt ∧ (x + b).toInt ≤ 1000000 * ((m + 1 : Nat) : Int) := by
  unfold yV at hb
  rw [zt_tadd (by omega) (by omega)]
  omega
theorem yt_big {x : Int32} {m : Nat} (hm : m ≤ 40) (hx : -(1000000 * (m : Int)) ≤ x.toInt ∧ x.toInt ≤ 1000000 * (m : Int)) : (-90000000 : Int32) ≤ x := by
  rw [Int32.le_iff_toInt_le, show (-90000000 : Int32).toInt = -90000000 by decide]
  omega
theorem yV_0 : yV 0 := ⟨by decide, by decide⟩
theorem yg_143 (hL : L ≤ 260) {m N : Nat} (hm : 0 < m) (hm2 : m < 10) (hN : f_Q_in L xs 37 7 = some (Int32.ofNat N)) (hN7 : N < 7) (hJ : J + 1000 < 2147480000) (hq : q.2.1 = 0) (hk : k = (0, 0)) (hf : f = fun _ => 0) :
    ∀ (r F j : Nat) (e : EvT) (h : HiT) (vs : Nat → StS) (cs : Nat → CdT) (es : Nat → EvT) (s : Nat → Int32) (x3 : Int32), j + r = N → r < F → yZ n J v c e s → yH J h vs cs es → -(1000000 * ((20 + j : Nat) : Int)) ≤ x3.toInt ∧ x3.toInt ≤ 1000000 * ((20 + j : Nat) : Int) →
    yBs n (J + 240) (f_Q_begun_143 L xs F z v c e v2 c2 e2 v3 c3 e3 h t vs cs es q t2 ws k f (Int32.ofNat m) x3 (Int32.ofNat j)) := by
  intro r
  induction r with
  | zero =>
    intro F j e h vs cs es s x3 hi hF hs H hx
    obtain ⟨F, rfl⟩ : ∃ F', F = F' + 1 := ⟨F - 1, by omega⟩
    obtain rfl : j = N := by omega
    obtain ⟨r1, l1, g1⟩ := yt_in (xs := xs) hL (i := 59) (b := 2) (by omega) (by omega) (by omega)
    obtain ⟨r2, l2, g2⟩ := yt_in (xs := xs) hL (i := 60) (b := 9) (by omega) (by omega) (by omega)
    have g1 : f_Q_in L xs 59 2 = some (Int32.ofNat r1) := g1
    have g2 : f_Q_in L xs 60 9 = some (Int32.ofNat r2) := g2
    rw [f_Q_begun_143, hN, Option.bind_some, if_pos ((zt_le (by omega) (by omega)).mpr (Nat.le_refl _)), g1, Option.bind_some]
    by_cases q1 : Int32.ofNat r1 = 0
    · obtain ⟨b, v', c', e', h', vs', cs', es', s', a1, a2, a3, a4⟩ := yk_pass (z := z) (t := t) (1 + Int32.ofNat r2) hJ H hs
      rw [if_pos q1, g2, Option.bind_some, a1, Option.bind_some, if_pos (yt_big (m := 20 + j + 1) (by omega) (yt_acc (by omega) hx a2))]
      exact ⟨_, s', rfl, a3, a4, hq, hk, hf⟩
    · rw [if_neg q1, if_pos (yt_big (m := 20 + j + 1) (by omega) (yt_acc (by omega) hx yV_0))]
      exact ⟨_, s, rfl, yZ_mono (by omega) hs, yH_mono (by omega) H, hq, hk, hf⟩
  | succ r ih =>
    intro F j e h vs cs es s x3 hi hF hs H hx
    obtain ⟨F, rfl⟩ : ∃ F', F = F' + 1 := ⟨F - 1, by omega⟩
    obtain ⟨r1, l1, g1⟩ := yt_in (xs := xs) hL (i := 38 + j) (b := 30) (by omega) (by omega) (by omega)
    obtain ⟨r2, l2, g2⟩ := yt_in (xs := xs) hL (i := 45 + j) (b := m) (by omega) (by omega) (by omega)
    obtain ⟨r3, l3, g3⟩ := yt_in (xs := xs) hL (i := 52 + j) (b := 3) (by omega) (by omega) (by omega)
    have g1 : f_Q_in L xs (38 + Int32.ofNat j) 30 = some (Int32.ofNat r1) := by rw [show (38 : Int32) + Int32.ofNat j = Int32.ofNat (38 + j) from zt_add 38 j]; exact g1
    have g2 : f_Q_in L xs (45 + Int32.ofNat j) (Int32.ofNat m) = some (Int32.ofNat r2) := by rw [show (45 : Int32) + Int32.ofNat j = Int32.ofNat (45 + j) from zt_add 45 j]; exact g2
    have g3 : f_Q_in L xs (52 + Int32.ofNat j) 3 = some (Int32.ofNat r3) := by rw [show (52 : Int32) + Int32.ofNat j = Int32.ofNat (52 + j) from zt_add 52 j]; exact g3
    rw [f_Q_begun_143, hN, Option.bind_some, if_neg (fun q => absurd ((zt_le (by omega) (by omega)).mp q) (by omega)), g1, Option.bind_some, g2, Option.bind_some, g3, Option.bind_some, zt_succ]
    split
    · obtain ⟨b, e', h', vs', cs', es', s', a1, a2, a3, a4⟩ := yk_schedule (z := z) (t := t) (1 + Int32.ofNat r1) (Int32.ofNat r2) 0 (Or.inl rfl) (by omega) H hs
      rw [a1, Option.bind_some]
      exact ih F (j + 1) e' h' vs' cs' es' s' (x3 + b) (by omega) (by omega) a3 a4 (yt_acc (m := 20 + j) (by omega) hx a2)
    · obtain ⟨b, e', h', vs', cs', es', s', a1, a2, a3, a4⟩ := yk_schedule (z := z) (t := t) (1 + Int32.ofNat r1) (Int32.ofNat r2) 1 (Or.inr rfl) (by omega) H hs
      rw [a1, Option.bind_some]
      exact ih F (j + 1) e' h' vs' cs' es' s' (x3 + b) (by omega) (by omega) a3 a4 (yt_acc (m := 20 + j) (by omega) hx a2)
theorem yg_22 (hL : L ≤ 260) {m : Nat} (hm : 2 ≤ m) (hm2 : m ≤ 6) (hJ : J + 1000 < 2147480000) (hq : q.2.1 = 0) (hk : k = (0, 0)) (hf : f = fun _ => 0) :
    ∀ (r F i : Nat) (v : StS) (c : CdT) (h : HiT) (vs : Nat → StS) (cs : Nat → CdT) (es : Nat → EvT) (s : Nat → Int32) (x3 : Int32), i + r = m → r < F → yZ i J v c e s → yH J h vs cs es → -(1000000 * ((2 * i : Nat) : Int)) ≤ x3.toInt ∧ x3.toInt ≤ 1000000 * ((2 * i : Nat) : Int) →
    yBs m (J + 240) (f_Q_begun_22 L xs F z v c e v2 c2 e2 v3 c3 e3 h t vs cs es q t2 ws k f (Int32.ofNat m) x3 (Int32.ofNat i)) := by
  intro r
  induction r with
  | zero =>
    intro F i v c h vs cs es s x3 hi hF hs H hx
    obtain ⟨F, rfl⟩ : ∃ F', F = F' + 1 := ⟨F - 1, by omega⟩
    obtain rfl : i = m := by omega
    obtain ⟨r1, l1, g1⟩ := yt_in (xs := xs) hL (i := 36) (b := 4) (by omega) (by omega) (by omega)
    obtain ⟨N, l2, g2⟩ := yt_in (xs := xs) hL (i := 37) (b := 7) (by omega) (by omega) (by omega)
    have g1 : f_Q_in L xs 36 4 = some (Int32.ofNat r1) := g1
    have g2 : f_Q_in L xs 37 7 = some (Int32.ofNat N) := g2
    obtain ⟨b, v', h', vs', cs', es', s', a1, a2, a3, a4⟩ := yk_draught (z := z) (t := t) (Int32.ofNat r1) H hs
    rw [f_Q_begun_22, if_pos ((zt_le (by omega) (by omega)).mpr (Nat.le_refl _)), g1, Option.bind_some, a1, Option.bind_some]
    have hx2 := yt_acc (m := 2 * i) (by omega) hx a2
    exact yg_143 hL (by omega) (by omega) g2 l2 hJ hq hk hf N 32 0 e h' vs' cs' es' s' (x3 + b) (by omega) (by omega) a3 a4 (by omega)
  | succ r ih =>
    intro F i v c h vs cs es s x3 hi hF hs H hx
    obtain ⟨F, rfl⟩ : ∃ F', F = F' + 1 := ⟨F - 1, by omega⟩
    obtain ⟨r1, l1, g1⟩ := yt_in (xs := xs) hL (i := 1 + i) (b := 4) (by omega) (by omega) (by omega)
    obtain ⟨r2, l2, g2⟩ := yt_in (xs := xs) hL (i := 15 + i) (b := 3) (by omega) (by omega) (by omega)
    obtain ⟨r3, l3, g3⟩ := yt_in (xs := xs) hL (i := 8 + i) (b := 300) (by omega) (by omega) (by omega)
    obtain ⟨r4, l4, g4⟩ := yt_in (xs := xs) hL (i := 8 + i) (b := 40) (by omega) (by omega) (by omega)
    obtain ⟨r5, l5, g5⟩ := yt_in (xs := xs) hL (i := 22 + i) (b := 9) (by omega) (by omega) (by omega)
    obtain ⟨r6, l6, g6⟩ := yt_in (xs := xs) hL (i := 29 + i) (b := 2) (by omega) (by omega) (by omega)
    obtain ⟨y1, y2⟩ := yt_chr r1 l1
    have g1 : f_Q_in L xs (1 + Int32.ofNat i) 4 = some (Int32.ofNat r1) := by rw [show (1 : Int32) + Int32.ofNat i = Int32.ofNat (1 + i) from zt_add 1 i]; exact g1
    have g2 : f_Q_in L xs (15 + Int32.ofNat i) 3 = some (Int32.ofNat r2) := by rw [show (15 : Int32) + Int32.ofNat i = Int32.ofNat (15 + i) from zt_add 15 i]; exact g2
    have g3 : f_Q_in L xs (8 + Int32.ofNat i) 300 = some (Int32.ofNat r3) := by rw [show (8 : Int32) + Int32.ofNat i = Int32.ofNat (8 + i) from zt_add 8 i]; exact g3
    have g4 : f_Q_in L xs (8 + Int32.ofNat i) 40 = some (Int32.ofNat r4) := by rw [show (8 : Int32) + Int32.ofNat i = Int32.ofNat (8 + i) from zt_add 8 i]; exact g4
    have g5 : f_Q_in L xs (22 + Int32.ofNat i) 9 = some (Int32.ofNat r5) := by rw [show (22 : Int32) + Int32.ofNat i = Int32.ofNat (22 + i) from zt_add 22 i]; exact g5
    have g6 : f_Q_in L xs (29 + Int32.ofNat i) 2 = some (Int32.ofNat r6) := by rw [show (29 : Int32) + Int32.ofNat i = Int32.ofNat (29 + i) from zt_add 29 i]; exact g6
    have i5 : 1 ≤ ((1 : Int32) + Int32.ofNat r5).toInt ∧ ((1 : Int32) + Int32.ofNat r5).toInt ≤ 9 := by
      rw [show (1 : Int32) + Int32.ofNat r5 = Int32.ofNat (1 + r5) from zt_add 1 r5, zt_ti (by omega)]
      omega
    have i3 : ∀ w : Nat, w < 300 → 1 ≤ ((1 : Int32) + Int32.ofNat w).toInt ∧ ((1 : Int32) + Int32.ofNat w).toInt ≤ 999 := fun w hw => by
      rw [show (1 : Int32) + Int32.ofNat w = Int32.ofNat (1 + w) from zt_add 1 w, zt_ti (by omega)]
      omega
    rw [f_Q_begun_22, if_neg (fun q => absurd ((zt_le (by omega) (by omega)).mp q) (by omega)), g1, Option.bind_some, y1, Option.bind_some, if_pos (by decide), g2, Option.bind_some, g3, g4]
    simp only [Option.bind_some, g5, g6, zt_succ]
    split
    · obtain ⟨b, v', c', h', vs', cs', es', s', a1, a2, a3, a4⟩ := yk_add (z := z) (t := t) y2 (i3 r3 (by omega)) i5 (by omega) H hs
      rw [a1, Option.bind_some]
      have hx2 := yt_acc (m := 2 * i) (by omega) hx a2
      split
      · obtain ⟨b2, c2', h2', vs2', cs2', es2', s2', b1, b2, b3, b4⟩ := yk_light (z := z) (t := t) (Int32.ofNat i) a4 a3
        simp only [b1, Option.bind_some]
        exact ih F (i + 1) v' c2' h2' vs2' cs2' es2' s2' _ (by omega) (by omega) b3 b4 (yt_acc (m := 2 * i + 1) (by omega) hx2 b2)
      · exact ih F (i + 1) v' c' h' vs' cs' es' s' _ (by omega) (by omega) a3 a4 (yt_acc (m := 2 * i + 1) (by omega) hx2 yV_0)
    · obtain ⟨b, v', c', h', vs', cs', es', s', a1, a2, a3, a4⟩ := yk_add (z := z) (t := t) y2 (i3 r4 (by omega)) i5 (by omega) H hs
      rw [a1, Option.bind_some]
      have hx2 := yt_acc (m := 2 * i) (by omega) hx a2
      split
      · obtain ⟨b2, c2', h2', vs2', cs2', es2', s2', b1, b2, b3, b4⟩ := yk_light (z := z) (t := t) (Int32.ofNat i) a4 a3
        simp only [b1, Option.bind_some]
        exact ih F (i + 1) v' c2' h2' vs2' cs2' es2' s2' _ (by omega) (by omega) b3 b4 (yt_acc (m := 2 * i + 1) (by omega) hx2 b2)
      · exact ih F (i + 1) v' c' h' vs' cs' es' s' _ (by omega) (by omega) a3 a4 (yt_acc (m := 2 * i + 1) (by omega) hx2 yV_0)
end YB
theorem yZ_0 : yZ 0 0 (0, 0, 0, 0, 0, 0, 32, -1) (fun _ => 0, fun _ => 0, fun _ => 0, fun _ => 0, 0) (fun _ => 0, fun _ => 0, fun _ => 0, 0) (zEnc 0 0 (0, 0, 0, 0, 0, 0, 32, -1) (fun _ => 0, fun _ => 0, fun _ => 0, fun _ => 0, 0) (fun _ => 0, fun _ => 0, fun _ => 0, 0) 0) := by
  refine ⟨0, 0, Int.le_refl _, zt_enc ⟨rfl, by omega, fun i hi => absurd hi (by omega)⟩ ⟨rfl, by omega, fun i hi => absurd hi (by omega), fun i hi => absurd hi (by omega)⟩ ⟨by decide, by decide, ⟨by decide, by decide⟩, ⟨by decide, by decide⟩, ⟨by decide, by decide⟩⟩ rfl, by decide, by decide, by decide, fun i _ hi => ?_⟩
  have h9 : i = 0 ∨ i = 1 ∨ i = 2 ∨ i = 3 ∨ i = 4 ∨ i = 5 ∨ i = 6 ∨ i = 7 ∨ i = 8 ∨ i = 9 := by omega
  rcases h9 with rfl | rfl | rfl | rfl | rfl | rfl | rfl | rfl | rfl | rfl <;> rfl
theorem yH_0 {vs : Nat → StS} {cs : Nat → CdT} {es : Nat → EvT} : yH 0 (0, 0) vs cs es := ⟨fun _ => 0, 0, 0, by omega, by omega, rfl, rfl, rfl, fun j hj => absurd hj (by omega)⟩
theorem yg_begun {L : Nat} {xs : Nat → Int32} (hL : L ≤ 260) : ∃ m : Nat, 2 ≤ m ∧ yBs m 240 (f_Q_begun L xs) := by
  obtain ⟨r, l1, g1⟩ := yt_in (xs := xs) hL (i := 0) (b := 5) (by omega) (by omega) (by omega)
  have g1 : f_Q_in L xs 0 5 = some (Int32.ofNat r) := g1
  refine ⟨2 + r, by omega, ?_⟩
  unfold f_Q_begun
  rw [g1, Option.bind_some, show (2 : Int32) + Int32.ofNat r = Int32.ofNat (2 + r) from zt_add 2 r]
  exact yg_22 (J := 0) (e := (fun _ => 0, fun _ => 0, fun _ => 0, 0)) hL (by omega) (by omega) (by omega) rfl rfl rfl (2 + r) 32 0 _ _ _ _ _ _ _ 0 (by omega) (by omega) yZ_0 yH_0 ⟨by decide, by decide⟩
