/-! P50, 10: the law -/
def yU (m : Nat) (x : Int32) : Prop := -(1000000 * (m : Int)) ≤ x.toInt ∧ x.toInt ≤ 1000000 * (m : Int)
theorem yU_1 {x : Int32} (h : yV x) : yU 1 x := by
  unfold yV at h
  unfold yU
  omega
theorem yU_add {m k : Nat} {x y : Int32} (hm : m + k ≤ 1000) (hx : yU m x) (hy : yU k y) : yU (m + k) (x + y) := by
  unfold yU at hx hy
  unfold yU
  rw [zt_tadd (by omega) (by omega)]
  omega
theorem yU_n {a : Nat} (h : a ≤ 1000000) : yU 1 (Int32.ofNat a) := by
  unfold yU
  rw [zt_ti (by omega)]
  omega
theorem yU_big {m : Nat} {x : Int32} (hm : m ≤ 20) (h : yU m x) : ¬ x ≤ (-90000000 : Int32) := by
  unfold yU at h
  rw [Int32.le_iff_toInt_le, show (-90000000 : Int32).toInt = -90000000 by decide]
  omega
section YL
variable {n k : Nat} {T : Int} {z : CcT} {v : StS} {c : CdT} {e : EvT} {s : Nat → Int32}
/-- the rank sought is of a candle, or of none -/
theorem yl_rank (x : Int32) (hc : c.2.2.2.2 = Int32.ofNat n) (hn : n ≤ 10) : ∀ (F i : Nat) (b : Int32), i ≤ 1000 → f_X1_atRank_2 F c x (Int32.ofNat i) = some b → yU 1 b
  | 0, i, b, hi, g => by
    rw [f_X1_atRank_2] at g
    cases g
  | F + 1, i, b, hi, g => by
    rw [f_X1_atRank_2, hc] at g
    by_cases q : Int32.ofNat n ≤ Int32.ofNat i
    · rw [if_pos q] at g
      have eb : (-1 : Int32) = b := Option.some.inj g
      rw [← eb]
      exact ⟨by decide, by decide⟩
    · rw [if_neg q] at g
      obtain ⟨u, -, g⟩ := x_b g
      by_cases q2 : u = x
      · rw [if_pos q2] at g
        have eb : Int32.ofNat i = b := Option.some.inj g
        rw [← eb]
        exact yU_n (by omega)
      · rw [if_neg q2, zt_succ] at g
        have q3 : ¬ n ≤ i := fun w => q ((zt_le (by omega) (by omega)).mpr w)
        exact yl_rank x hc hn F (i + 1) b (by omega) g
theorem yl_byWax {i : Nat} (h : zS n k T v c e s) (hi : i < n) : ∃ b : Int32, f_Q_candleByWax z v c (Int32.ofNat i) = some b ∧ yU 1 b := by
  obtain ⟨hc, hr, -⟩ := h
  have hn := hc.2.1
  obtain ⟨j, hj, hr2⟩ := zt_ranks (zBt c) (zBt_irr c) (zBt_tr c) (zBt_tot c) n i hi
  obtain ⟨b, h1, -⟩ := zt_rk (m := (0, 0, 0, 0, 0, 0, 0, 0, 0, 0)) (Int32.ofNat i) hc hr n xFuel xFuel 0 (by omega) (by unfold xFuel; omega) (by unfold xFuel; omega) ⟨j, by omega, hj, by rw [hr2]⟩
  refine ⟨b, ?_, yl_rank (Int32.ofNat i) hc.1 hn xFuel 0 b (by omega) h1⟩
  unfold f_Q_candleByWax f_X9_candleByWax f_X1_atRank
  rw [zt_hasY hc hi, Option.bind_some, if_neg zt_10, show (0 : Int32) = Int32.ofNat 0 from rfl, h1]
  rfl
/-- the line of a candle: its length is answered -/
theorem yl_candle {i cc N : Nat} {kb : SbT} {f ln : Nat → Int32} {m : MdT} (hs : zS n k T v c e s) (hi : i < n) (h : zLn cc N kb f m ln) :
    ∃ (b : Int32) (n' : Nat) (kb' : SbT) (f' ln' : Nat → Int32) (cc' : Nat) (m' : MdT), f_X9_writeCandle N z v c kb f (Int32.ofNat i) = some (Sum.inr b, kb', f', n') ∧ yU 1 b ∧ zLn cc' n' kb' f' m' ln' := by
  obtain ⟨kk, b, n', kb', f', ln', lo', cc', g1, -, -, g2⟩ := zl_writeCandle (z := z) (lo := fun _ => 0) (Int32.ofNat i) hs h
  have hc := hs.1
  unfold f_L_writeCandle at g1
  obtain ⟨u, hu, g⟩ := x_b g1
  have key : u.1 = Sum.inr u.2.1.2 := by
    unfold f_X9_writeCandle at hu
    rw [yr_req hc hi, Option.bind_some] at hu
    simp only [Sum.elim_inr] at hu
    obtain ⟨u3, -, hu⟩ := x_b hu
    obtain ⟨u4, -, hu⟩ := x_b hu
    obtain ⟨-, hu⟩ := x_n hu
    obtain ⟨u7, -, hu⟩ := x_b hu
    obtain ⟨u9, -, hu⟩ := x_b hu
    obtain ⟨-, hu⟩ := x_n hu
    obtain ⟨u12, -, hu⟩ := x_b hu
    obtain ⟨u14, -, hu⟩ := x_b hu
    obtain ⟨u16, -, hu⟩ := x_b hu
    obtain ⟨-, hu⟩ := x_y hu
    obtain ⟨u18, -, hu⟩ := x_b hu
    obtain ⟨-, hu⟩ := x_n hu
    have fin : ∀ w : Nat × SbT × (Nat → Int32), ((f_J4_length_8abf5 w.2.1).bind fun u22 => (if w.1 ≤ 290 then (if w.1 ≤ 290 then some ((Sum.inr u22 : Nat ⊕ Int32), w.2.1, w.2.2, w.1) else none) else none)) = some u → u.1 = Sum.inr u.2.1.2 := fun w hw => by
      obtain ⟨u22, e1, hw⟩ := x_b hw
      obtain ⟨-, hw⟩ := x_y hw
      obtain ⟨-, hw⟩ := x_y hw
      have e2 : w.2.1.2 = u22 := Option.some.inj e1
      have e3 := Option.some.inj hw
      rw [← e3, ← e2]
    by_cases q : c.2.2.2.1 (Int32.ofNat i).toNatClampNeg = 0
    · rw [if_pos q] at hu
      exact fin u18 hu
    · rw [if_neg q] at hu
      obtain ⟨u25, -, hu⟩ := x_b hu
      exact fin u25 hu
  obtain ⟨a, k1, f1, n1⟩ := u
  have key : a = Sum.inr k1.2 := key
  subst key
  simp only [Sum.elim_inr] at g
  obtain ⟨-, g⟩ := x_n g
  obtain ⟨-, g⟩ := x_y g
  simp only [Option.some.injEq, Prod.mk.injEq] at g
  obtain ⟨-, rfl, rfl, -, rfl⟩ := g
  refine ⟨_, _, _, _, ln', cc', _, hu, ?_, g2⟩
  rw [g2.1]
  have := g2.2.2.1
  exact yU_n (by omega)
theorem yl_events {cc N : Nat} {kb : SbT} {f ln : Nat → Int32} {m : MdT} (hs : zS n k T v c e s) (hT : T < 9000000) (h : zLn cc N kb f m ln) :
    ∃ (b : Int32) (n' : Nat) (kb' : SbT) (f' : Nat → Int32), f_X9_writeEvents N z v e kb f = some (b, kb', f', n') ∧ yU 1 b := by
  obtain ⟨k0, r0, l0⟩ := zt_len0 h
  have l0 := l0 (zTh m 0)
  have hk := hs.2.2.1.2.1
  obtain ⟨cc', n', kb', f', ln', z1, z2, z3⟩ := zt_wrE (z := z) hs hT k xFuel xFuel 0 0 N k0 f ln (by omega) (by unfold xFuel; omega) (by unfold xFuel; omega) (by omega) l0
  refine ⟨Int32.ofNat cc', n', kb', f', ?_, ?_⟩
  · unfold f_X9_writeEvents
    rw [r0, Option.bind_some]
    exact z1
  · have := z3.2.2.1
    exact yU_n (by omega)
theorem yl_left {i : Nat} (hs : zS n k T v c e s) (hi : i < n) : ∃ b : Int32, f_X9_minutesLeft z v c (Int32.ofNat i) = some (Sum.inr b) ∧ yU 1 b := by
  obtain ⟨q, w, -, h1, h2, -, h3, g, -⟩ := zt_mLeft hi hs.1 hs.2.2.2.2.1
  refine ⟨_, yv_left hs.1 hi g, yU_n ?_⟩
  have := yt_ceil (w := w) h1
  rcases Nat.lt_or_ge 1000000 ((w + q - 1) / q) with g | g
  · have := Nat.mul_le_mul (Nat.le_of_lt g) h1
    omega
  · exact g
end YL
section YE
variable {n : Nat} {J : Int} {z : CcT} {h : HiT} {t t2 : Unit} {vs : Nat → StS} {cs : Nat → CdT} {es : Nat → EvT} {s : Nat → Int32} {v v2 v3 : StS} {c c2 c3 : CdT} {e e2 e3 : EvT} {q : PrT} {ws : Nat → CmT} {L : Nat} {xs : Nat → Int32}
theorem yf_end (hn : 2 ≤ n) (hJ : J ≤ 100000) (H : yH J h vs cs es) (hs : yZ n J v c e s) (F : Nat) : f_Q_law_20 L xs (F + 1) z v c e v2 c2 e2 v3 c3 e3 h t vs cs es q t2 ws (0, 0) (fun _ => 0) (Int32.ofNat 10) = some () := by
  have hst := yZ_st hs
  have hs9 := hs
  obtain ⟨k, T, hT, h1, h2⟩ := hs
  obtain ⟨c', e', k1, k2, k3⟩ := zSt_cp v3 c3 e3 hst
  have sv : f_X9_save z v c e v3 c3 e3 = some (c.2.2.2.2, (1, z.2.1, z.2.2), v, c', e') := by
    unfold f_X9_save
    rw [k1, Option.bind_some]
  obtain ⟨N, hN, -, dk, -⟩ := yo_dark (1, z.2.1, z.2.2) h1 (by omega)
  obtain ⟨v5, c5, e5, dk⟩ := dk v2 c2 e2
  obtain ⟨b1, w1, m1⟩ := yl_byWax (z := (1, z.2.1, z.2.2)) (i := 0) h1 (by omega)
  have w1 : f_Q_candleByWax (1, z.2.1, z.2.2) v c 0 = some b1 := w1
  have l0 : zLn 0 16 (0, 0) (fun _ => 0) (0, 0, 0, 0, 0, 0, 0, 0, 0, 0) (fun _ => 0) := ⟨rfl, rfl, by omega, by omega, Or.inl rfl, fun i hi => absurd hi (by omega), fun i _ => zt_fits (x := 0) ⟨by decide, by decide⟩⟩
  obtain ⟨b2, n2, kb2, f2, ln2, cc2, md2, w2, m2, l2⟩ := yl_candle (z := (1, z.2.1, z.2.2)) (i := 0) h1 (by omega) l0
  have w2 : f_X9_writeCandle 16 (1, z.2.1, z.2.2) v c (0, 0) (fun _ => 0) 0 = some (Sum.inr b2, kb2, f2, n2) := w2
  obtain ⟨b3, n3, kb3, f3, w3, m3⟩ := yl_events (z := (1, z.2.1, z.2.2)) h1 (by omega) l2
  obtain ⟨b4, w4, m4⟩ := yl_left (z := (1, z.2.1, z.2.2)) (i := 0) h1 (by omega)
  have w4 : f_X9_minutesLeft (1, z.2.1, z.2.2) v c 0 = some (Sum.inr b4) := w4
  obtain ⟨p1, vA, cA, eA, hA, vsA, csA, esA, sA, x1, y1, z1, H1⟩ := yk_pass (z := (1, z.2.1, z.2.2)) (t := t) 12 (by omega) H hs9
  obtain ⟨p2, cB, hB, vsB, csB, esB, sB, x2, y2, z2, H2⟩ := yk_light (z := (1, z.2.1, z.2.2)) (t := t) 0 H1 z1
  obtain ⟨p3, vC, hC, vsC, csC, esC, sC, x3, y3, z3, H3⟩ := yk_draught (z := (1, z.2.1, z.2.2)) (t := t) 2 H2 z2
  obtain ⟨p4, eD, hD, vsD, csD, esD, sD, x4, y4, z4, H4⟩ := yk_schedule (z := (1, z.2.1, z.2.2)) (t := t) (vC.2.2.1 + 5) 1 1 (Or.inr rfl) (by omega) H3 z3
  obtain ⟨p5, cE, hE, vsE, csE, esE, sE, x5, y5, z5, H5⟩ := yk_snuff (z := (1, z.2.1, z.2.2)) (t := t) 0 H4 z4
  have htime : f_X9_time (1, z.2.1, z.2.2) vC = some vC.2.2.1 := rfl
  obtain ⟨c8, e8, k4, k5, k6⟩ := zSt_cp vC cE eD k3
  have rs : f_Q_restore (1, z.2.1, z.2.2) vC cE eD v c' e' hE = some (c8.2.2.2.2, v, c8, e8, (hE.1, 0)) := by
    unfold f_Q_restore f_X9_restore f_X4_forget
    rw [if_neg zt_10, k4]
    rfl
  have un : f_Q_undo (1, z.2.1, z.2.2) v c8 e8 (hE.1, 0) t vsE csE esE = some (-900001, v, c8, e8, (hE.1, 0)) := rfl
  have big : ¬ (Int32.ofNat N + b1 + b2 + b3 + b4 + (p1 + p2 + p3 + p4 + p5)) ≤ (-90000000 : Int32) :=
    yU_big (m := 1 + 1 + 1 + 1 + 1 + (1 + 1 + 1 + 1 + 1)) (by omega) (yU_add (by omega) (yU_add (by omega) (yU_add (by omega) (yU_add (by omega) (yU_add (by omega) (yU_n (by omega)) m1) m2) m3) m4) (yU_add (by omega) (yU_add (by omega) (yU_add (by omega) (yU_add (by omega) (yU_1 y1) (yU_1 y2)) (yU_1 y3)) (yU_1 y4)) (yU_1 y5)))
  rw [f_Q_law_20, if_pos (show (10 : Int32) ≤ Int32.ofNat 10 by decide)]
  simp only [ys_st hst, sv, dk, w1, w2, w3, w4, Option.bind_some, Sum.elim_inr]
  simp only [ya_alike, Option.bind_some, if_neg zt_10, x1, x2, x3, x4, x5, htime]
  rw [if_neg big]
  simp only [rs, Option.bind_some]
  rw [if_pos (k5.trans k2)]
  simp only [ys_st k6, ya_alike, Option.bind_some, if_neg zt_10, un, if_true]
theorem yl_20 (hL : L ≤ 260) (t2 : Unit) : ∀ (r F i n : Nat) (J : Int) (z : CcT) (v : StS) (c : CdT) (e : EvT) (v2 : StS) (c2 : CdT) (e2 : EvT) (h : HiT) (vs : Nat → StS) (cs : Nat → CdT) (es : Nat → EvT) (q : PrT) (ws : Nat → CmT) (s : Nat → Int32), i + r = 10 → r < F → J ≤ 240 + 4000 * i → 2 ≤ n → yZ n J v c e s → yH J h vs cs es → q.2.1 = 0 →
    f_Q_law_20 L xs F z v c e v2 c2 e2 v3 c3 e3 h t vs cs es q t2 ws (0, 0) (fun _ => 0) (Int32.ofNat i) = some () := by
  intro r
  induction r with
  | zero =>
    intro F i n J z v c e v2 c2 e2 h vs cs es q ws s hi hF hJ hn hs H hq
    obtain ⟨F, rfl⟩ : ∃ F', F = F' + 1 := ⟨F - 1, by omega⟩
    obtain rfl : i = 10 := by omega
    exact yf_end hn (by omega) H hs F
  | succ r ih =>
    intro F i n J z v c e v2 c2 e2 h vs cs es q ws s hi hF hJ hn hs H hq
    obtain ⟨F, rfl⟩ : ∃ F', F = F' + 1 := ⟨F - 1, by omega⟩
    obtain ⟨u, hu, hq2, hout⟩ := ya_acts (xs := xs) (z := z) (t := t) (v2 := v2) (c2 := c2) (e2 := e2) (ws := ws) hL (i := 61 + 4 * i) (by omega) t2 (by omega) H hs hq
    obtain ⟨b, z', v', c', e', v2', c2', e2', h', vs', cs', es', q', ws'⟩ := u
    have hq2 : q'.2.1 = 0 := hq2
    have hout : yOut n J (J + 4000) s b v' c' e' h' vs' cs' es' := hout
    have hu : f_Q_acts L xs z v c e v2 c2 e2 h t vs cs es q t2 ws (61 + 4 * Int32.ofNat i) = some (b, z', v', c', e', v2', c2', e2', h', vs', cs', es', q', ws') := by
      rw [show (61 : Int32) + 4 * Int32.ofNat i = Int32.ofNat (61 + 4 * i) from yi_ab 61 4 i]
      exact hu
    have hst : ∃ s', zSt (J + 4000) v' c' e' s' := by
      rcases hout with ⟨-, g, -⟩ | ⟨-, n', s', -, g, -⟩
      · exact ⟨_, zSt_mono (by omega) g⟩
      · exact ⟨_, yZ_st g⟩
    obtain ⟨s', hst⟩ := hst
    obtain ⟨v6, c6, e6, hw⟩ := yw_isWell z' hst (by omega) v2' c2' e2'
    obtain ⟨r1, l1, g1⟩ := yt_in (xs := xs) hL (i := 102 + i) (b := 5) (by omega) (by omega) (by omega)
    have g1 : f_Q_in L xs (102 + Int32.ofNat i) 5 = some (Int32.ofNat r1) := by rw [show (102 : Int32) + Int32.ofNat i = Int32.ofNat (102 + i) from zt_add 102 i]; exact g1
    rw [f_Q_law_20, if_neg (show ¬ (10 : Int32) ≤ Int32.ofNat i from fun q => absurd ((zt_le (a := 10) (by omega) (by omega)).mp q) (by omega)), ys_st (yZ_st hs), Option.bind_some, hu, Option.bind_some]
    simp only [hw, Option.bind_some, if_neg zt_10, zt_succ]
    rcases hout with ⟨hb, a1, a2⟩ | ⟨hb, n', s2, a1, a2, a3, a4⟩
    · have hb1 : ¬ b = -900009 := by rcases hb with rfl | rfl | rfl | rfl <;> decide
      have hb2 : ¬ (-900000 : Int32) < b := by rcases hb with rfl | rfl | rfl | rfl <;> decide
      have hb3 : b ≤ (-900000 : Int32) := by rcases hb with rfl | rfl | rfl | rfl <;> decide
      rw [if_neg hb1, if_neg hb2, ys_st a1, Option.bind_some, ya_alike, Option.bind_some, if_neg zt_10, if_pos hb3]
      exact ih F (i + 1) n J z' v' c' e' v6 c6 e6 h' vs' cs' es' q' ws' s (by omega) (by omega) (by omega) hn (yZ_n a1 hs) a2 hq2
    · have e9 : (-900000 : Int32).toInt = -900000 := by decide
      have hb1 : ¬ b = -900009 := fun q => by
        rw [q] at hb
        exact absurd hb.1 (by decide)
      have hb2 : (-900000 : Int32) < b := by
        rw [Int32.lt_iff_toInt_lt, e9]
        have := hb.1
        omega
      have hb3 : ¬ b ≤ (-900000 : Int32) := by
        rw [Int32.le_iff_toInt_le, e9]
        have := hb.1
        omega
      rw [if_neg hb1, if_pos hb2, if_neg hb3, g1, Option.bind_some]
      by_cases q1 : Int32.ofNat r1 = 0
      · obtain ⟨b2, v7, c7, e7, h7, y1, y2, y3, y4⟩ := yo_undo (z := z') v' c' e' t a3 a4
        have hb4 : ¬ b2 < 0 := by
          rw [Int32.lt_iff_toInt_lt, zt_i0]
          omega
        rw [if_pos q1, y1, Option.bind_some, if_neg hb4, ys_st y3, Option.bind_some, ya_alike, Option.bind_some, if_neg zt_10]
        exact ih F (i + 1) n (J + 4000) z' v7 c7 e7 v6 c6 e6 h7 vs' cs' es' q' ws' s (by omega) (by omega) (by omega) hn (yZ_n y3 hs) y4 hq2
      · rw [if_neg q1]
        exact ih F (i + 1) n' (J + 4000) z' v' c' e' v6 c6 e6 h' vs' cs' es' q' ws' s2 (by omega) (by omega) (by omega) (by omega) a2 a3 hq2
end YE
/-- the law holds on every script of up to 260 cells -/
theorem lw_theory {L : Nat} {xs : Nat → Int32} (hL : L ≤ 260) : f_Q_law L xs = some () := by
  obtain ⟨m, hm, u, s, hu, h1, h2, h3, h4, h5⟩ := yg_begun (xs := xs) hL
  obtain ⟨z, v, c, e, v2, c2, e2, v3, c3, e3, h, t, vs, cs, es, q, t2, ws, k, f⟩ := u
  have h1 : yZ m 240 v c e s := h1
  have h2 : yH 240 h vs cs es := h2
  have h3 : q.2.1 = 0 := h3
  have h4 : k = (0, 0) := h4
  have h5 : f = fun _ => 0 := h5
  subst h4 h5
  obtain ⟨v6, c6, e6, hw⟩ := yw_isWell z (yZ_st h1) (by omega) v2 c2 e2
  unfold f_Q_law
  rw [hu, Option.bind_some, hw, Option.bind_some, if_neg zt_10]
  exact yl_20 hL t2 10 16 0 m 240 z v c e v6 c6 e6 h vs cs es q ws s (by omega) (by omega) (by omega) hm h1 h2 h3
