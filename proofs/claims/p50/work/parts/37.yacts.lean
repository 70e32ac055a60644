/-! P50, 8: the law's draws from the cells, and its deeds -/
theorem yt_and (x : Int32) : ∃ a : Nat, a < 2147483648 ∧ x &&& 2147483647 = Int32.ofNat a := by
  have h1 : (x &&& 2147483647).toBitVec.toNat ≤ 2147483647 := by
    have e : (x &&& 2147483647).toBitVec = x.toBitVec &&& (2147483647 : Int32).toBitVec := rfl
    rw [e, BitVec.toNat_and]
    exact Nat.and_le_right
  have h2 : 0 ≤ (x &&& 2147483647).toInt := by
    have e : (x &&& 2147483647).toInt = (x &&& 2147483647).toBitVec.toInt := rfl
    rw [e, BitVec.toInt_eq_toNat_cond]
    omega
  have h3 : (x &&& 2147483647).toInt < 2147483648 := by
    have := (x &&& 2147483647).toInt_lt
    omega
  exact ⟨(x &&& 2147483647).toInt.toNat, by omega, zt_nat h2⟩
theorem yt_mod {a b : Nat} (ha : a < 2147483648) (hb : b < 2147483648) (h0 : 0 < b) : Int32.ofNat a - Int32.ofNat a / Int32.ofNat b * Int32.ofNat b = Int32.ofNat (a % b) := by
  have h1 := Nat.div_add_mod a b
  rw [Nat.mul_comm] at h1
  rw [zt_div ha hb, zt_mul, zt_sub (by omega)]
  congr 1
  omega
section YI
variable {L : Nat} {xs : Nat → Int32}
theorem yt_cell (hL : L ≤ 260) {i : Nat} (hi : i < 100000) : ∃ x : Int32, f_Q_cell L xs (Int32.ofNat i) = some x := by
  unfold f_Q_cell
  by_cases g : Int32.ofNat L ≤ Int32.ofNat i
  · rw [if_pos g]
    exact ⟨_, rfl⟩
  · rw [if_neg g]
    have hlt : i < L := by
      rcases Nat.lt_or_ge i L with q | q
      · exact q
      · exact absurd ((zt_le (by omega) (by omega)).mpr q) g
    rw [zt_gi hlt (by omega)]
    exact ⟨_, rfl⟩
theorem yt_in (hL : L ≤ 260) {i b : Nat} (hi : i < 100000) (h0 : 0 < b) (hb : b < 2147483648) : ∃ r : Nat, r < b ∧ f_Q_in L xs (Int32.ofNat i) (Int32.ofNat b) = some (Int32.ofNat r) := by
  obtain ⟨x, hx⟩ := yt_cell (L := L) (xs := xs) hL hi
  obtain ⟨a, ha, he⟩ := yt_and x
  refine ⟨a % b, Nat.mod_lt _ h0, ?_⟩
  unfold f_Q_in
  rw [hx, Option.bind_some, if_neg (zt_nz h0 hb), he, yt_mod ha hb h0]
end YI
abbrev yAct : Type := Int32 × CcT × StS × CdT × EvT × StS × CdT × EvT × HiT × (Nat → StS) × (Nat → CdT) × (Nat → EvT) × PrT × (Nat → CmT)
def yRs (n : Nat) (J : Int) (s : Nat → Int32) (X : Option yAct) : Prop :=
  ∃ u : yAct, X = some u ∧ u.2.2.2.2.2.2.2.2.2.2.2.2.1.2.1 = 0 ∧ yOut n J (J + 4000) s u.1 u.2.2.1 u.2.2.2.1 u.2.2.2.2.1 u.2.2.2.2.2.2.2.2.1 u.2.2.2.2.2.2.2.2.2.1 u.2.2.2.2.2.2.2.2.2.2.1 u.2.2.2.2.2.2.2.2.2.2.2.1
section YA
variable {n : Nat} {J : Int} {z : CcT} {h : HiT} {t t2 : Unit} {vs : Nat → StS} {cs : Nat → CdT} {es : Nat → EvT} {s : Nat → Int32} {v v2 : StS} {c c2 : CdT} {e e2 : EvT} {q : PrT} {ws : Nat → CmT}
theorem ya_add (x1 : Int32) (x2 : Int32) (x3 : Int32) (H : yH J h vs cs es) (hs : yZ n J v c e s) (hq : q.2.1 = 0) : yRs n J s ((f_Q_addCandle z v c e h t vs cs es x1 x2 x3).bind fun u => some (u.1, z, u.2.1, u.2.2.1, e, v2, c2, e2, u.2.2.2.1, u.2.2.2.2.1, u.2.2.2.2.2.1, u.2.2.2.2.2.2, q, ws)) := by
  rcases yq_add x1 x2 x3 H hs with ⟨b, hb, g⟩ | ⟨b, v', c', h', vs', cs', es', s', g, g1, g2, g3, g4⟩
  · rw [g, Option.bind_some]
    exact ⟨_, rfl, hq, Or.inl ⟨hb, yZ_st hs, H⟩⟩
  · rw [g, Option.bind_some]
    exact ⟨_, rfl, hq, Or.inr ⟨yW_of g1, n + 1, s', by omega, yZ_mono (by omega) g2, yH_mono (by omega) g3, yT_mono (by omega) g4⟩⟩
theorem ya_light (x1 : Int32) (H : yH J h vs cs es) (hs : yZ n J v c e s) (hq : q.2.1 = 0) : yRs n J s ((f_Q_light z v c e h t vs cs es x1).bind fun u => some (u.1, z, v, u.2.1, e, v2, c2, e2, u.2.2.1, u.2.2.2.1, u.2.2.2.2.1, u.2.2.2.2.2, q, ws)) := by
  rcases yq_light x1 H hs with ⟨b, hb, g⟩ | ⟨b, c', h', vs', cs', es', s', g, g1, g2, g3, g4⟩
  · rw [g, Option.bind_some]
    exact ⟨_, rfl, hq, Or.inl ⟨hb, yZ_st hs, H⟩⟩
  · rw [g, Option.bind_some]
    exact ⟨_, rfl, hq, Or.inr ⟨yW_of g1, n, s', by omega, yZ_mono (by omega) g2, yH_mono (by omega) g3, yT_mono (by omega) g4⟩⟩
theorem ya_snuff (x1 : Int32) (H : yH J h vs cs es) (hs : yZ n J v c e s) (hq : q.2.1 = 0) : yRs n J s ((f_Q_snuff z v c e h t vs cs es x1).bind fun u => some (u.1, z, v, u.2.1, e, v2, c2, e2, u.2.2.1, u.2.2.2.1, u.2.2.2.2.1, u.2.2.2.2.2, q, ws)) := by
  rcases yq_snuff x1 H hs with ⟨b, hb, g⟩ | ⟨b, c', h', vs', cs', es', s', g, g1, g2, g3, g4⟩
  · rw [g, Option.bind_some]
    exact ⟨_, rfl, hq, Or.inl ⟨hb, yZ_st hs, H⟩⟩
  · rw [g, Option.bind_some]
    exact ⟨_, rfl, hq, Or.inr ⟨yW_of g1, n, s', by omega, yZ_mono (by omega) g2, yH_mono (by omega) g3, yT_mono (by omega) g4⟩⟩
theorem ya_pour (x1 : Int32) (x2 : Int32) (H : yH J h vs cs es) (hs : yZ n J v c e s) (hq : q.2.1 = 0) : yRs n J s ((f_Q_pour z v c e h t vs cs es x1 x2).bind fun u => some (u.1, z, u.2.1, u.2.2.1, e, v2, c2, e2, u.2.2.2.1, u.2.2.2.2.1, u.2.2.2.2.2.1, u.2.2.2.2.2.2, q, ws)) := by
  rcases yq_pour x1 x2 H hs with ⟨b, hb, g⟩ | ⟨b, v', c', h', vs', cs', es', s', g, g1, g2, g3, g4⟩
  · rw [g, Option.bind_some]
    exact ⟨_, rfl, hq, Or.inl ⟨hb, yZ_st hs, H⟩⟩
  · rw [g, Option.bind_some]
    exact ⟨_, rfl, hq, Or.inr ⟨yW_of g1, n, s', by omega, yZ_mono (by omega) g2, yH_mono (by omega) g3, yT_mono (by omega) g4⟩⟩
theorem ya_draught (x1 : Int32) (H : yH J h vs cs es) (hs : yZ n J v c e s) (hq : q.2.1 = 0) : yRs n J s ((f_Q_setDraught z v c e h t vs cs es x1).bind fun u => some (u.1, z, u.2.1, c, e, v2, c2, e2, u.2.2.1, u.2.2.2.1, u.2.2.2.2.1, u.2.2.2.2.2, q, ws)) := by
  rcases yq_draught x1 H hs with ⟨b, hb, g⟩ | ⟨b, v', h', vs', cs', es', s', g, g1, g2, g3, g4⟩
  · rw [g, Option.bind_some]
    exact ⟨_, rfl, hq, Or.inl ⟨hb, yZ_st hs, H⟩⟩
  · rw [g, Option.bind_some]
    exact ⟨_, rfl, hq, Or.inr ⟨yW_of g1, n, s', by omega, yZ_mono (by omega) g2, yH_mono (by omega) g3, yT_mono (by omega) g4⟩⟩
theorem ya_schedule (x1 : Int32) (x2 : Int32) (x3 : Int32) (h3 : x3 = 0 ∨ x3 = 1) (hJ : J + 5000 < 2147480000) (H : yH J h vs cs es) (hs : yZ n J v c e s) (hq : q.2.1 = 0) : yRs n J s ((f_Q_schedule z v c e h t vs cs es x1 x2 x3).bind fun u => some (u.1, z, v, c, u.2.1, v2, c2, e2, u.2.2.1, u.2.2.2.1, u.2.2.2.2.1, u.2.2.2.2.2, q, ws)) := by
  rcases yq_schedule x1 x2 x3 h3 (by omega) H hs with ⟨b, hb, g⟩ | ⟨b, e', h', vs', cs', es', s', g, g1, g2, g3, g4⟩
  · rw [g, Option.bind_some]
    exact ⟨_, rfl, hq, Or.inl ⟨hb, yZ_st hs, H⟩⟩
  · rw [g, Option.bind_some]
    exact ⟨_, rfl, hq, Or.inr ⟨yW_of g1, n, s', by omega, yZ_mono (by omega) g2, yH_mono (by omega) g3, yT_mono (by omega) g4⟩⟩
theorem ya_unschedule (x1 : Int32) (H : yH J h vs cs es) (hs : yZ n J v c e s) (hq : q.2.1 = 0) : yRs n J s ((f_Q_unschedule z v c e h t vs cs es x1).bind fun u => some (u.1, z, v, c, u.2.1, v2, c2, e2, u.2.2.1, u.2.2.2.1, u.2.2.2.2.1, u.2.2.2.2.2, q, ws)) := by
  rcases yq_unschedule x1 H hs with ⟨b, hb, g⟩ | ⟨b, e', h', vs', cs', es', s', g, g1, g2, g3, g4⟩
  · rw [g, Option.bind_some]
    exact ⟨_, rfl, hq, Or.inl ⟨hb, yZ_st hs, H⟩⟩
  · rw [g, Option.bind_some]
    exact ⟨_, rfl, hq, Or.inr ⟨yW_of g1, n, s', by omega, yZ_mono (by omega) g2, yH_mono (by omega) g3, yT_mono (by omega) g4⟩⟩
theorem ya_pass (x1 : Int32) (hJ : J + 5000 < 2147480000) (H : yH J h vs cs es) (hs : yZ n J v c e s) (hq : q.2.1 = 0) : yRs n J s ((f_Q_pass z v c e h t vs cs es x1).bind fun u => some (u.1, z, u.2.1, u.2.2.1, u.2.2.2.1, v2, c2, e2, u.2.2.2.2.1, u.2.2.2.2.2.1, u.2.2.2.2.2.2.1, u.2.2.2.2.2.2.2, q, ws)) := by
  rcases yq_pass x1 (by omega) H hs with ⟨b, hb, g⟩ | ⟨b, v', c', e', h', vs', cs', es', s', g, g1, g2, g3, g4⟩
  · rw [g, Option.bind_some]
    exact ⟨_, rfl, hq, Or.inl ⟨hb, yZ_st hs, H⟩⟩
  · rw [g, Option.bind_some]
    exact ⟨_, rfl, hq, Or.inr ⟨g1, n, s', by omega, yZ_mono (by omega) g2, yH_mono (by omega) g3, yT_mono (by omega) g4⟩⟩
theorem ya_does {m : Nat} {tx : Nat → Int32} (t2 : Unit) (hm : m ≤ 60) (htx : ∀ i, i < m → 0 ≤ (tx i).toInt ∧ (tx i).toInt ≤ 127) (hJ : J + 5000 < 2147480000) (H : yH J h vs cs es) (hs : yZ n J v c e s) (hq : q.2.1 = 0) : yRs n J s ((f_Q_does m z v c e v2 c2 e2 h t vs cs es q t2 ws () tx).bind fun u => some (u.1, u.2.1, u.2.2.1, u.2.2.2.1, u.2.2.2.2.1, u.2.2.2.2.2.1, u.2.2.2.2.2.2.1, u.2.2.2.2.2.2.2.1, u.2.2.2.2.2.2.2.2.1, u.2.2.2.2.2.2.2.2.2.1, u.2.2.2.2.2.2.2.2.2.2.1, u.2.2.2.2.2.2.2.2.2.2.2.1, u.2.2.2.2.2.2.2.2.2.2.2.2.1, u.2.2.2.2.2.2.2.2.2.2.2.2.2)) := by
  obtain ⟨b, z', v', c', e', v2', c2', e2', h', vs', cs', es', q', ws', g, g1, g2⟩ := yd_does t t2 () z v2 c2 e2 ws hm htx hJ H hs hq
  rw [g, Option.bind_some]
  exact ⟨_, rfl, g1, g2⟩
theorem ya_end {C n1 n2 : Nat} {k1 k2 : SbT} {f1 f2 : Nat → Int32} (t2 : Unit) (h1 : yBl 7 n1 k1 f1) (h2 : yBl C n2 k2 f2) (hC : C ≤ 26) (hJ : J + 5000 < 2147480000) (H : yH J h vs cs es) (hs : yZ n J v c e s) (hq : q.2.1 = 0) : yRs n J s ((f_J4_toString n2 k2 f2).bind fun u180 => ((f_xpT n1 k1 f1 u180.1 u180.2).bind fun u183 => ((f_J4_toString u183.1 u183.2.1 u183.2.2).bind fun u185 => ((f_Q_does u185.1 z v c e v2 c2 e2 h t vs cs es q t2 ws () u185.2).bind fun u => some (u.1, u.2.1, u.2.2.1, u.2.2.2.1, u.2.2.2.2.1, u.2.2.2.2.2.1, u.2.2.2.2.2.2.1, u.2.2.2.2.2.2.2.1, u.2.2.2.2.2.2.2.2.1, u.2.2.2.2.2.2.2.2.2.1, u.2.2.2.2.2.2.2.2.2.2.1, u.2.2.2.2.2.2.2.2.2.2.2.1, u.2.2.2.2.2.2.2.2.2.2.2.2.1, u.2.2.2.2.2.2.2.2.2.2.2.2.2))))) := by
  obtain ⟨m, tx, a1, a2, a3⟩ := yx_str h2
  obtain ⟨n3, k3, f3, b1, b2⟩ := yx_T h1 (by omega) a3
  obtain ⟨m2, tx2, c1, c3, c4⟩ := yx_str b2
  rw [a1, Option.bind_some]
  simp only [b1, Option.bind_some, c1]
  exact ya_does t2 (by omega) c4 hJ H hs hq
theorem yt_time {T : Int} (hw : zVW T v) (hT : T ≤ 60000) {a b : Nat} (ha : a < 100) (hb : b < 100) : ∃ r : Nat, r < 100000 ∧ v.2.2.1 + Int32.ofNat a + Int32.ofNat b = Int32.ofNat r := by
  have h1 := hw.1
  have h2 := hw.2.1
  refine ⟨T.toNat + a + b, by omega, ?_⟩
  have e : v.2.2.1 = Int32.ofNat T.toNat := by
    have := zt_nat (x := v.2.2.1) (by omega)
    rw [h1] at this
    exact this
  rw [e, zt_add, zt_add]
theorem ya_acts {L : Nat} {xs : Nat → Int32} (hL : L ≤ 260) {i : Nat} (hi : i < 1000) (t2 : Unit) (hJ : J ≤ 50000) (H : yH J h vs cs es) (hs : yZ n J v c e s) (hq : q.2.1 = 0) : yRs n J s (f_Q_acts L xs z v c e v2 c2 e2 h t vs cs es q t2 ws (Int32.ofNat i)) := by
  obtain ⟨r1, l1, g1⟩ := yt_in (xs := xs) hL (i := i + 1) (b := 8) (by omega) (by omega) (by omega)
  obtain ⟨r2, l2, g2⟩ := yt_in (xs := xs) hL (i := i + 2) (b := 10) (by omega) (by omega) (by omega)
  obtain ⟨r3, l3, g3⟩ := yt_in (xs := xs) hL (i := i + 3) (b := 60) (by omega) (by omega) (by omega)
  obtain ⟨r4, l4, g4⟩ := yt_in (xs := xs) hL (i := i) (b := 26) (by omega) (by omega) (by omega)
  have g1 : f_Q_in L xs (Int32.ofNat i + 1) 8 = some (Int32.ofNat r1) := by rw [zt_succ]; exact g1
  have g2 : f_Q_in L xs (Int32.ofNat i + 2) 10 = some (Int32.ofNat r2) := by rw [show Int32.ofNat i + 2 = Int32.ofNat (i + 2) from zt_add i 2]; exact g2
  have g3 : f_Q_in L xs (Int32.ofNat i + 3) 60 = some (Int32.ofNat r3) := by rw [show Int32.ofNat i + 3 = Int32.ofNat (i + 3) from zt_add i 3]; exact g3
  have g4 : f_Q_in L xs (Int32.ofNat i) 26 = some (Int32.ofNat r4) := g4
  have m5 : Int32.ofNat r3 - Int32.ofNat r3 / 5 * 5 = Int32.ofNat (r3 % 5) := yt_mod (b := 5) (by omega) (by omega) (by omega)
  have m4 : Int32.ofNat r3 - Int32.ofNat r3 / 4 * 4 = Int32.ofNat (r3 % 4) := yt_mod (b := 4) (by omega) (by omega) (by omega)
  have m25 : Int32.ofNat r2 - Int32.ofNat r2 / 5 * 5 = Int32.ofNat (r2 % 5) := yt_mod (b := 5) (by omega) (by omega) (by omega)
  have n5 : ¬ (5 : Int32) = 0 := by decide
  have n3 : ¬ (3 : Int32) = 0 := by decide
  have n4 : ¬ (4 : Int32) = 0 := by decide
  have n9 : ¬ (9 : Int32) = 0 := by decide
  have n20 : ¬ (20 : Int32) = 0 := by decide
  have hdish : f_X9_dish z v = some v.2.1 := rfl
  have htime : f_X9_time z v = some v.2.2.1 := rfl
  obtain ⟨T9, hT9, hw⟩ : ∃ T : Int, T ≤ J ∧ zVW T v := by
    obtain ⟨k9, T9, hT9, hz9, -⟩ := hs
    exact ⟨T9, hT9, hz9.2.2.2.2.1⟩
  unfold f_Q_acts
  rw [g1, Option.bind_some, g2, Option.bind_some, g3, Option.bind_some, g4, Option.bind_some]
  by_cases q0 : Int32.ofNat r4 = 0
  · rw [if_pos q0]
    rw [if_neg n5, m5]
    obtain ⟨ch, hch⟩ : ∃ ch : Int32, f_J0_charAt_5068e 15 (Int32.ofNat (r3 % 5)) = some ch := by
      have h5 : r3 % 5 < 5 := Nat.mod_lt _ (by omega)
      generalize r3 % 5 = w at h5
      have h9 : w = 0 ∨ w = 1 ∨ w = 2 ∨ w = 3 ∨ w = 4 := by omega
      rcases h9 with rfl | rfl | rfl | rfl | rfl
      · exact ⟨115, by decide +kernel⟩
      · exact ⟨97, by decide +kernel⟩
      · exact ⟨116, by decide +kernel⟩
      · exact ⟨98, by decide +kernel⟩
      · exact ⟨120, by decide +kernel⟩
    rw [hch, Option.bind_some, if_pos (by decide)]
    exact ya_add _ _ _ H hs hq
  rw [if_neg q0]
  by_cases q1 : Int32.ofNat r4 = 1
  · rw [if_pos q1]
    exact ya_light _ H hs hq
  rw [if_neg q1]
  by_cases q2 : Int32.ofNat r4 = 2
  · rw [if_pos q2]
    exact ya_light _ H hs hq
  rw [if_neg q2]
  by_cases q3 : Int32.ofNat r4 = 3
  · rw [if_pos q3]
    exact ya_light _ H hs hq
  rw [if_neg q3]
  by_cases q4 : Int32.ofNat r4 = 4
  · rw [if_pos q4]
    exact ya_light _ H hs hq
  rw [if_neg q4]
  by_cases q5 : Int32.ofNat r4 = 5
  · rw [if_pos q5]
    exact ya_snuff _ H hs hq
  rw [if_neg q5]
  by_cases q6 : Int32.ofNat r4 = 6
  · rw [if_pos q6]
    exact ya_snuff _ H hs hq
  rw [if_neg q6]
  by_cases q7 : Int32.ofNat r4 = 7
  · rw [if_pos q7]
    rw [if_neg n3]
    split
    · rw [hdish, Option.bind_some]
      exact ya_pour _ _ H hs hq
    · exact ya_pour _ _ H hs hq
  rw [if_neg q7]
  by_cases q8 : Int32.ofNat r4 = 8
  · rw [if_pos q8]
    rw [if_neg n3]
    split
    · rw [hdish, Option.bind_some]
      exact ya_pour _ _ H hs hq
    · exact ya_pour _ _ H hs hq
  rw [if_neg q8]
  by_cases q9 : Int32.ofNat r4 = 9
  · rw [if_pos q9]
    rw [if_neg n5]
    exact ya_draught _ H hs hq
  rw [if_neg q9]
  by_cases q10 : Int32.ofNat r4 = 10
  · rw [if_pos q10]
    rw [if_neg n5]
    exact ya_draught _ H hs hq
  rw [if_neg q10]
  by_cases q11 : Int32.ofNat r4 = 11
  · rw [if_pos q11]
    rw [htime, Option.bind_some, if_neg n20]
    split
    · exact ya_schedule _ _ _ (Or.inl rfl) (by omega) H hs hq
    · exact ya_schedule _ _ _ (Or.inr rfl) (by omega) H hs hq
  rw [if_neg q11]
  by_cases q12 : Int32.ofNat r4 = 12
  · rw [if_pos q12]
    rw [htime, Option.bind_some, if_neg n20]
    split
    · exact ya_schedule _ _ _ (Or.inl rfl) (by omega) H hs hq
    · exact ya_schedule _ _ _ (Or.inr rfl) (by omega) H hs hq
  rw [if_neg q12]
  by_cases q13 : Int32.ofNat r4 = 13
  · rw [if_pos q13]
    rw [htime, Option.bind_some, if_neg n20]
    split
    · exact ya_schedule _ _ _ (Or.inl rfl) (by omega) H hs hq
    · exact ya_schedule _ _ _ (Or.inr rfl) (by omega) H hs hq
  rw [if_neg q13]
  by_cases q14 : Int32.ofNat r4 = 14
  · rw [if_pos q14]
    rw [htime, Option.bind_some, if_neg n20]
    split
    · exact ya_schedule _ _ _ (Or.inl rfl) (by omega) H hs hq
    · exact ya_schedule _ _ _ (Or.inr rfl) (by omega) H hs hq
  rw [if_neg q14]
  by_cases q15 : Int32.ofNat r4 = 15
  · rw [if_pos q15]
    exact ya_unschedule _ H hs hq
  rw [if_neg q15]
  by_cases q16 : Int32.ofNat r4 = 16
  · rw [if_pos q16]
    exact ya_unschedule _ H hs hq
  rw [if_neg q16]
  by_cases q17 : Int32.ofNat r4 = 17
  · rw [if_pos q17]
    rw [if_neg n3]
    split
    · exact ya_pass _ (by omega) H hs hq
    · exact ya_pass _ (by omega) H hs hq
  rw [if_neg q17]
  by_cases q18 : Int32.ofNat r4 = 18
  · rw [if_pos q18]
    rw [if_neg n3]
    split
    · exact ya_pass _ (by omega) H hs hq
    · exact ya_pass _ (by omega) H hs hq
  rw [if_neg q18]
  by_cases q19 : Int32.ofNat r4 = 19
  · rw [if_pos q19]
    rw [if_neg n3]
    split
    · exact ya_pass _ (by omega) H hs hq
    · exact ya_pass _ (by omega) H hs hq
  rw [if_neg q19]
  by_cases q20 : Int32.ofNat r4 = 20
  · rw [if_pos q20]
    rw [if_neg n3]
    split
    · exact ya_pass _ (by omega) H hs hq
    · exact ya_pass _ (by omega) H hs hq
  rw [if_neg q20]
  have e1 : (1 : Int32) + Int32.ofNat r3 = Int32.ofNat (1 + r3) := zt_add 1 r3
  obtain ⟨n1, k1, f1, a1, b1⟩ := yx_S yBl_0 yw_16 (by omega) (by omega)
  obtain ⟨n2, k2, f2, a2, b2⟩ := yx_I (a := 1 + r3) (t := 2) b1 (by omega) (by omega) (by omega) (by omega)
  rw [a1, Option.bind_some]
  simp only [e1, a2, Option.bind_some]
  rw [if_neg n4]
  split
  · obtain ⟨n11, k11, f11, a11, b11⟩ := yx_S yBl_0 yw_28 (by omega) (by omega)
    obtain ⟨n12, k12, f12, a12, b12⟩ := yx_I (a := r1) (t := 1) b11 (by omega) (by omega) (by omega) (by omega)
    obtain ⟨n13, k13, f13, a13, b13⟩ := yx_S b12 yw_29 (by omega) (by omega)
    obtain ⟨n14, k14, f14, a14, b14⟩ := yx_I (a := r1) (t := 1) b13 (by omega) (by omega) (by omega) (by omega)
    simp only [a11, a12, a13, a14, Option.bind_some]
    exact ya_end t2 b2 b14 (by omega) (by omega) H hs hq
  · split
    · obtain ⟨r9, l9, e9⟩ := yt_time (a := r3) (b := 5) hw (by omega) (by omega) (by omega)
      have e9 : v.2.2.1 + Int32.ofNat r3 + 5 = Int32.ofNat r9 := e9
      have l5 : r2 % 5 < 5 := Nat.mod_lt _ (by omega)
      obtain ⟨n11, k11, f11, a11, b11⟩ := yx_S yBl_0 yw_32 (by omega) (by omega)
      obtain ⟨n12, k12, f12, a12, b12⟩ := yx_I (a := r2 % 5) (t := 1) b11 (by omega) (by omega) (by omega) (by omega)
      obtain ⟨n13, k13, f13, a13, b13⟩ := yx_S b12 yw_33 (by omega) (by omega)
      obtain ⟨n14, k14, f14, a14, b14⟩ := yx_I (a := r9) (t := 5) b13 (by omega) (by omega) (by omega) (by omega)
      obtain ⟨n15, k15, f15, a15, b15⟩ := yx_S b14 yw_34 (by omega) (by omega)
      obtain ⟨n16, k16, f16, a16, b16⟩ := yx_I (a := r1) (t := 1) b15 (by omega) (by omega) (by omega) (by omega)
      simp only [a11, a12, a13, a14, a15, a16, m25, htime, e9, if_neg n5, Option.bind_some]
      exact ya_end t2 b2 b16 (by omega) (by omega) H hs hq
    · split
      · obtain ⟨n11, k11, f11, a11, b11⟩ := yx_S yBl_0 yw_35 (by omega) (by omega)
        obtain ⟨n12, k12, f12, a12, b12⟩ := yx_I (a := r1) (t := 1) b11 (by omega) (by omega) (by omega) (by omega)
        obtain ⟨n13, k13, f13, a13, b13⟩ := yx_S b12 yw_36 (by omega) (by omega)
        obtain ⟨n14, k14, f14, a14, b14⟩ := yx_I (a := r2) (t := 1) b13 (by omega) (by omega) (by omega) (by omega)
        simp only [a11, a12, a13, a14, Option.bind_some]
        exact ya_end t2 b2 b14 (by omega) (by omega) H hs hq
      · obtain ⟨r9, l9, e9⟩ := yt_time (a := r3) (b := 3) hw (by omega) (by omega) (by omega)
        have e9 : v.2.2.1 + Int32.ofNat r3 + 3 = Int32.ofNat r9 := e9
        obtain ⟨n11, k11, f11, a11, b11⟩ := yx_S yBl_0 yw_33 (by omega) (by omega)
        obtain ⟨n12, k12, f12, a12, b12⟩ := yx_I (a := r9) (t := 5) b11 (by omega) (by omega) (by omega) (by omega)
        obtain ⟨n13, k13, f13, a13, b13⟩ := yx_S b12 yw_37 (by omega) (by omega)
        obtain ⟨n14, k14, f14, a14, b14⟩ := yx_I (a := r1) (t := 1) b13 (by omega) (by omega) (by omega) (by omega)
        obtain ⟨n15, k15, f15, a15, b15⟩ := yx_S b14 yw_38 (by omega) (by omega)
        simp only [a11, a12, a13, a14, a15, htime, e9, Option.bind_some]
        exact ya_end t2 b2 b15 (by omega) (by omega) H hs hq
end YA
