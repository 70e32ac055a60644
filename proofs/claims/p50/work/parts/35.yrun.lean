/-! P50, 6: programs: typed, run -/
theorem yt_runL {J0 : Int} {z : CcT} {v2 : StS} {c2 : CdT} {e2 : EvT} {h : HiT} {vs : Nat → StS} {cs : Nat → CdT} {es : Nat → EvT} {wL cm : Nat → Int32} {q : PrT} {ws : Nat → CmT} {N : Nat} (t t2 : Unit) (hN : N ≤ 13) (hq : q.2.2.1 = Int32.ofNat N) (hC : ∀ j, j < N → zCm (ws j) cm j) (hw : zSt J0 v2 c2 e2 wL) (H : yH J0 h vs cs es) :
    ∀ (r F i n : Nat) (J : Int) (v : StS) (c : CdT) (e : EvT) (s : Nat → Int32), i + r = N → r < F → J0 ≤ J → J + 240 * r + 1000 < 2147480000 → yZ n J v c e s →
    (∃ (j : Nat) (v' : StS) (c' : CdT) (e' : EvT), f_X9_run_54 F z v c e v2 c2 e2 h t vs cs es q t2 ws (Int32.ofNat i) = some (Sum.inl 3, (z.1, z.2.1, Int32.ofNat j), v', c', e', v2, c2, e2, h, vs, cs, es, q, ws) ∧ zSt J0 v' c' e' wL) ∨
    (∃ (v' : StS) (c' : CdT) (e' : EvT) (h' : HiT) (vs' : Nat → StS) (cs' : Nat → CdT) (es' : Nat → EvT) (n' : Nat) (s' : Nat → Int32), f_X9_run_54 F z v c e v2 c2 e2 h t vs cs es q t2 ws (Int32.ofNat i) = some (Sum.inr (Int32.ofNat N), z, v', c', e', v2, c2, e2, h', vs', cs', es', q, ws) ∧ n ≤ n' ∧ yZ n' (J + 240 * r) v' c' e' s' ∧ yH J0 h' vs' cs' es' ∧ yT J0 h' vs' cs' es' wL) := by
  intro r
  induction r with
  | zero =>
    intro F i n J v c e s hi hF hJ0 hJ hs
    obtain ⟨F, rfl⟩ : ∃ F', F = F' + 1 := ⟨F - 1, by omega⟩
    have : i = N := by omega
    subst this
    obtain ⟨h', vs', cs', es', g1, g2, g3⟩ := yo_remember t H hw
    refine Or.inr ⟨v, c, e, h', vs', cs', es', n, s, ?_, Nat.le_refl _, by simpa using hs, g2, g3⟩
    rw [f_X9_run_54, hq, if_pos ((zt_le (by omega) (by omega)).mpr (Nat.le_refl _)), g1]
    rfl
  | succ r ih =>
    intro F i n J v c e s hi hF hJ0 hJ hs
    obtain ⟨F, rfl⟩ : ∃ F', F = F' + 1 := ⟨F - 1, by omega⟩
    rw [f_X9_run_54, hq, if_neg (fun q => absurd ((zt_le (by omega) (by omega)).mp q) (by omega)), zt_gi (by omega) (by omega), zt_cl (by omega)]
    rcases yo_does (z := z) (hC i (by omega)) hs (by omega) with a1 | ⟨a1, v', c', e', n', s', a2, a3, a4⟩
    · obtain ⟨c', e', k1, -, k2⟩ := zSt_cp v c e hw
      refine Or.inl ⟨i, v2, c', e', ?_, k2⟩
      rw [a1, Option.bind_some, if_pos rfl, k1]
      rfl
    · rw [a1, Option.bind_some, if_neg zt_10, zt_gj (by omega) (by omega), a2, Option.bind_some, zt_succ]
      rcases ih F (i + 1) n' (J + 240) v' c' e' s' (by omega) (by omega) (by omega) (by omega) a4 with ⟨j, v', c', e', z1, z2⟩ | ⟨v', c', e', h', vs', cs', es', n2, s', z1, z2, z3, z4, z5⟩
      · exact Or.inl ⟨j, v', c', e', z1, z2⟩
      · refine Or.inr ⟨v', c', e', h', vs', cs', es', n2, s', z1, by omega, ?_, z4, z5⟩
        rw [show J + 240 * ((r + 1 : Nat) : Int) = J + 240 + 240 * r by omega]
        exact z3
/-- what a deed leaves: refused, the row as it was; or done, the row before remembered -/
def yOut (n : Nat) (J J' : Int) (s : Nat → Int32) (b : Int32) (v : StS) (c : CdT) (e : EvT) (h : HiT) (vs : Nat → StS) (cs : Nat → CdT) (es : Nat → EvT) : Prop :=
  (yB b ∧ zSt J v c e s ∧ yH J h vs cs es) ∨ (yW b ∧ ∃ (n' : Nat) (s' : Nat → Int32), n ≤ n' ∧ yZ n' J' v c e s' ∧ yH J' h vs cs es ∧ yT J' h vs cs es s)
section YR
variable {n : Nat} {J : Int} {z : CcT} {h : HiT} {t t2 : Unit} {vs : Nat → StS} {cs : Nat → CdT} {es : Nat → EvT} {s : Nat → Int32} {v : StS} {c : CdT} {e : EvT}
theorem yq_run {len : Nat} {q : PrT} (z : CcT) (v2 : StS) (c2 : CdT) (e2 : EvT) (t t2 : Unit) (ws : Nat → CmT) (hx : q.2.1 = Int32.ofNat len) (hlen : len ≤ 60) (hch : ∀ i, i < len → 0 ≤ (q.1 i).toInt ∧ (q.1 i).toInt ≤ 65535) (hJ : J + 5000 < 2147480000) (H : yH J h vs cs es) (hs : yZ n J v c e s) :
    ∃ (b : Int32) (z' : CcT) (v' : StS) (c' : CdT) (e' : EvT) (v2' : StS) (c2' : CdT) (e2' : EvT) (h' : HiT) (vs' : Nat → StS) (cs' : Nat → CdT) (es' : Nat → EvT) (q' : PrT) (ws' : Nat → CmT), f_Q_run z v c e v2 c2 e2 h t vs cs es q t2 ws = some (b, z', v', c', e', v2', c2', e2', h', vs', cs', es', q', ws') ∧ q'.2.1 = 0 ∧ yOut n J (J + 4000) s b v' c' e' h' vs' cs' es' := by
  have hT : zTx len q (0, 0, 0, 0, 0, 0, 0, Int32.ofNat len, 0, 0) q.1 := ⟨hx, rfl, hlen, fun i hi => ⟨rfl, hch i hi⟩⟩
  obtain ⟨b, p1, N, n1, c1, ws', cm', z1, -, -, z4⟩ := zt_parse t2 ws (fun _ => 0) hT
  rcases z4 with rfl | ⟨rfl, rfl, -, z6, z7⟩
  · refine ⟨-900001, (z.1, Int32.ofNat p1, z.2.2), v, c, e, v2, c2, e2, h, vs, cs, es, (q.1, 0, n1, Int32.ofNat p1), ws', ?_, rfl, Or.inl ⟨Or.inl rfl, yZ_st hs, H⟩⟩
    unfold f_Q_run f_X9_run f_X6_clear
    rw [z1]
    rfl
  · obtain ⟨c1, e1, k1, -, k2⟩ := zSt_cp v2 c2 e2 (yZ_st hs)
    have X : f_X9_run z v c e v2 c2 e2 h t vs cs es q t2 ws = f_X9_run_54 xFuel z v c e v c1 e1 h t vs cs es (q.1, 0, Int32.ofNat N, Int32.ofNat p1) t2 ws' (Int32.ofNat 0) := by
      unfold f_X9_run f_X6_clear
      rw [z1, Option.bind_some, Option.bind_some, if_neg zt_10, k1, Option.bind_some]
      rfl
    unfold f_Q_run
    rw [X]
    rcases yt_runL (z := z) (q := (q.1, 0, Int32.ofNat N, Int32.ofNat p1)) (cm := cm') t t2 z6 rfl z7 k2 H N xFuel 0 n J v c e s (by omega) (by unfold xFuel; omega) (by omega) (by omega) hs with ⟨j, v', c', e', y1, y2⟩ | ⟨v', c', e', h', vs', cs', es', n', s', y1, y2, y3, y4, y5⟩
    · exact ⟨-900002, _, v', c', e', _, _, _, h, vs, cs, es, _, _, by rw [y1]; rfl, rfl, Or.inl ⟨Or.inr (Or.inl rfl), y2, H⟩⟩
    · refine ⟨Int32.ofNat N, _, v', c', e', _, _, _, h', vs', cs', es', _, _, by rw [y1]; rfl, rfl, Or.inr ⟨?_, n', s', y2, yZ_mono (by omega) y3, yH_mono (by omega) y4, yT_mono (by omega) y5⟩⟩
      unfold yW
      rw [zt_ti (by omega)]
      omega
theorem yq_type {q : PrT} {i : Nat} {x : Int32} (z : CcT) (hq : q.2.1 = Int32.ofNat i) (hi : i < 60) (hx : 0 ≤ x.toInt ∧ x.toInt ≤ 65535) : f_X9_type z q x = some (Sum.inr (Int32.ofNat (i + 1)), (upd q.1 i x, Int32.ofNat (i + 1), q.2.2.1, q.2.2.2)) := by
  have hf : f_X6_isFull q = some 0 := by
    unfold f_X6_isFull
    rw [hq, if_pos (show Int32.ofNat i < (60 : Int32) from (zt_lt (b := 60) (by omega) (by omega)).mpr hi)]
  unfold f_X9_type f_X6_append
  rw [hf, Option.bind_some, if_pos rfl, Option.bind_some, if_pos rfl, hq, zt_gi (by omega) (by omega), zt_cl (by omega), zt_char hx, zt_succ]
  rfl
/-- a text's letters -/
theorem yt_chD {m j : Nat} {tx : Nat → Int32} (t3 : Unit) (hj : j < m) (hm : m ≤ 1000) (hx : 0 ≤ (tx j).toInt ∧ (tx j).toInt ≤ 127) : f_J0_charAt_5068e_D m t3 tx (Int32.ofNat j) = some (tx j) := by
  have hck : f_J0_checkIndex_df160 (Int32.ofNat j) (Int32.ofNat m) = some () := by
    unfold f_J0_checkIndex_df160 f_J3_checkIndex_8e157 f_J3_checkIndex_8e157_n
    rw [if_neg (show ¬ Int32.ofNat j < 0 from fun q => absurd ((zt_lt (b := 0) (by omega) (by omega)).mp q) (by omega)), if_pos ((zt_lt (by omega) (by omega)).mpr hj)]
    rfl
  have h2 : 0 ≤ (tx j).toInt ∧ (tx j).toInt ≤ 65535 := by omega
  unfold f_J0_charAt_5068e_D f_J0_isLatin1_aae02_D f_J1_charAt_3b067_D
  rw [if_neg zt_10, if_pos rfl, Option.bind_some, if_neg zt_10, hck, Option.bind_some, zt_gi hj (by omega), zt_cl (by omega), zt_and hx, zt_mchar h2, if_pos (zt_ch h2), Option.bind_some, if_pos (zt_ch h2)]
theorem yt_lenD (m : Nat) (t3 : Unit) (tx : Nat → Int32) : f_J0_length_8abf5_D m t3 tx = some (Int32.ofNat m) := by
  unfold f_J0_length_8abf5_D f_J0_coder_7d493_D
  rw [if_neg zt_10, Option.bind_some, zt_shr]
theorem yd_4 {m : Nat} {tx : Nat → Int32} (t t2 t3 : Unit) (z : CcT) (v2 : StS) (c2 : CdT) (e2 : EvT) (ws : Nat → CmT) (hm : m ≤ 60) (htx : ∀ i, i < m → 0 ≤ (tx i).toInt ∧ (tx i).toInt ≤ 127) (hJ : J + 5000 < 2147480000) (H : yH J h vs cs es) (hs : yZ n J v c e s) :
    ∀ (r F j : Nat) (q : PrT) (x2 : Int32), j + r = m → r < F → q.2.1 = Int32.ofNat j → (∀ i, i < j → 0 ≤ (q.1 i).toInt ∧ (q.1 i).toInt ≤ 65535) → 0 ≤ x2.toInt → x2.toInt ≤ 100 * j →
    ∃ (b : Int32) (z' : CcT) (v' : StS) (c' : CdT) (e' : EvT) (v2' : StS) (c2' : CdT) (e2' : EvT) (h' : HiT) (vs' : Nat → StS) (cs' : Nat → CdT) (es' : Nat → EvT) (q' : PrT) (ws' : Nat → CmT), f_Q_does_4 m F z v c e v2 c2 e2 h t vs cs es q t2 ws t3 tx x2 (Int32.ofNat j) = some (b, z', v', c', e', v2', c2', e2', h', vs', cs', es', q', ws') ∧ q'.2.1 = 0 ∧ yOut n J (J + 4000) s b v' c' e' h' vs' cs' es' := by
  intro r
  induction r with
  | zero =>
    intro F j q x2 hj hF hq hch h1 h2
    obtain ⟨F, rfl⟩ : ∃ F', F = F' + 1 := ⟨F - 1, by omega⟩
    obtain rfl : j = m := by omega
    obtain ⟨b, z', v', c', e', v2', c2', e2', h', vs', cs', es', q', ws', g1, g2, g3⟩ := yq_run z v2 c2 e2 t t2 ws hq hm hch hJ H hs
    refine ⟨b, z', v', c', e', v2', c2', e2', h', vs', cs', es', q', ws', ?_, g2, g3⟩
    rw [f_Q_does_4, yt_lenD, Option.bind_some, if_pos ((zt_le (by omega) (by omega)).mpr (Nat.le_refl _)), if_pos (show (0 : Int32) ≤ x2 by rw [Int32.le_iff_toInt_le, zt_i0]; exact h1), g1]
    rfl
  | succ r ih =>
    intro F j q x2 hj hF hq hch h1 h2
    obtain ⟨F, rfl⟩ : ∃ F', F = F' + 1 := ⟨F - 1, by omega⟩
    have hx := htx j (by omega)
    have hx2 : 0 ≤ (tx j).toInt ∧ (tx j).toInt ≤ 65535 := by omega
    rw [f_Q_does_4, yt_lenD, Option.bind_some, if_neg (fun q => absurd ((zt_le (by omega) (by omega)).mp q) (by omega)), yt_chD t3 (by omega) (by omega) hx, Option.bind_some, yq_type z hq (by omega) hx2, Option.bind_some]
    simp only [Sum.elim_inr, zt_succ]
    have e1 : (x2 + Int32.ofNat (j + 1)).toInt = x2.toInt + ((j + 1 : Nat) : Int) := by
      rw [zt_tadd (by rw [zt_ti (by omega)]; omega) (by rw [zt_ti (by omega)]; omega), zt_ti (by omega)]
    refine ih F (j + 1) (upd q.1 j (tx j), Int32.ofNat (j + 1), q.2.2.1, q.2.2.2) (x2 + Int32.ofNat (j + 1)) (by omega) (by omega) rfl (fun i hi => ?_) (by omega) (by omega)
    show 0 ≤ (upd q.1 j (tx j) i).toInt ∧ (upd q.1 j (tx j) i).toInt ≤ 65535
    by_cases g : i = j
    · subst g
      rw [zt_updS]
      exact hx2
    · rw [zt_updN g]
      exact hch i (by omega)
theorem yd_does {m : Nat} {tx : Nat → Int32} {q : PrT} (t t2 t3 : Unit) (z : CcT) (v2 : StS) (c2 : CdT) (e2 : EvT) (ws : Nat → CmT) (hm : m ≤ 60) (htx : ∀ i, i < m → 0 ≤ (tx i).toInt ∧ (tx i).toInt ≤ 127) (hJ : J + 5000 < 2147480000) (H : yH J h vs cs es) (hs : yZ n J v c e s) (hq : q.2.1 = 0) :
    ∃ (b : Int32) (z' : CcT) (v' : StS) (c' : CdT) (e' : EvT) (v2' : StS) (c2' : CdT) (e2' : EvT) (h' : HiT) (vs' : Nat → StS) (cs' : Nat → CdT) (es' : Nat → EvT) (q' : PrT) (ws' : Nat → CmT), f_Q_does m z v c e v2 c2 e2 h t vs cs es q t2 ws t3 tx = some (b, z', v', c', e', v2', c2', e2', h', vs', cs', es', q', ws') ∧ q'.2.1 = 0 ∧ yOut n J (J + 4000) s b v' c' e' h' vs' cs' es' :=
  yd_4 t t2 t3 z v2 c2 e2 ws hm htx hJ H hs m 64 0 q 0 (by omega) (by omega) hq (fun i hi => absurd hi (by omega)) (by decide) (by decide)
end YR
