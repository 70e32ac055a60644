/-! THE THEORY, 24: a candle and the events written -/
theorem zt_dgs {a : Nat} : ∀ t : Nat, 1 ≤ t → a < 10 ^ t → ∃ s, s ≤ t ∧ zDg s a
  | 0, h, _ => absurd h (by omega)
  | t + 1, _, h => by
    by_cases g : t = 0
    · subst g
      exact ⟨1, by omega, by omega, h, Or.inl rfl⟩
    · by_cases g2 : a < 10 ^ t
      · obtain ⟨s, h1, h2⟩ := zt_dgs t (by omega) g2
        exact ⟨s, by omega, h2⟩
      · exact ⟨t + 1, by omega, by omega, h, Or.inr (by rw [Nat.add_sub_cancel]; omega)⟩
theorem zt_len0 {cc n : Nat} {k : SbT} {f ln : Nat → Int32} {m : MdT} (h : zLn cc n k f m ln) : ∃ k' : SbT, f_J4_setLength_d00df n k f 0 = some k' ∧ ∀ m' : MdT, zLn 0 n k' f (zLi m' 0) ln := by
  obtain ⟨h1, h2, h3, h4, h5, h6, h7⟩ := h
  have hnn := zt_nn h5
  have e0 : (0 : Int32) - Int32.ofNat n ≤ 0 := by
    rw [Int32.le_iff_toInt_le, zt_tsub (by rw [zt_i0, zt_ti (by omega)]; omega) (by rw [zt_i0, zt_ti (by omega)]; omega), zt_i0, zt_ti (by omega)]
    omega
  have hc : (0 : Int32) ≤ Int32.ofNat cc := by rw [Int32.le_iff_toInt_le, zt_i0, zt_ti (by omega)]; omega
  unfold f_J4_setLength_d00df f_J5_setLength_d00df f_J5_ensureCapacityInternal_d00df
  rw [if_pos (show (0 : Int32) ≤ 0 by decide), zt_shr, if_pos e0, h1]
  simp only [Option.bind_some]
  rw [if_pos hc]
  by_cases g : Int32.ofNat cc ≤ 0
  · rw [if_pos g]
    exact ⟨_, rfl, fun m' => ⟨rfl, rfl, by omega, by omega, h5, fun i hi => absurd hi (by omega), h7⟩⟩
  · rw [if_neg g]
    exact ⟨_, rfl, fun m' => ⟨rfl, rfl, by omega, by omega, h5, fun i hi => absurd hi (by omega), h7⟩⟩
theorem zLn_ub {cc n : Nat} {k : SbT} {f ln : Nat → Int32} {m : MdT} (h : zLn cc n k f m ln) : n ≤ 290 := (zt_nn h.2.2.2.2.1).2
theorem zLi_li (m : MdT) (a b : Nat) : zLi (zLi m a) b = zLi m b := rfl
theorem zVo_b {x : Int32} (h : x = 115 ∨ x = 97 ∨ x = 116 ∨ x = 98) : 0 ≤ x.toInt ∧ x.toInt ≤ 127 := by
  rcases h with rfl | rfl | rfl | rfl <;> decide
theorem zl_writeCandle {nn k : Nat} {T : Int} {v : StS} {c : CdT} {e : EvT} {s : Nat → Int32} {z : CcT} {cc n : Nat} {kb : SbT} {f ln : Nat → Int32} {m : MdT} {lo : Nat → Int64} (x : Int32) (hs : zS nn k T v c e s) (h : zLn cc n kb f m ln) :
    ∃ (kk b : Int32) (n' : Nat) (kb' : SbT) (f' ln' : Nat → Int32) (lo' : Nat → Int64) (cc' : Nat), f_L_writeCandle n z v c kb f lo x = some (kk, kb', f', lo', n') ∧ f_X10_writeCandle m s ln x = some (b, zLi (zTh m kk) cc', ln') ∧ (kk = 0 → lo' 0 = b.toInt64) ∧ zLn cc' n' kb' f' (zLi (zTh m kk) cc') ln' := by
  obtain ⟨hc, hr, -, -, hw, hv⟩ := hs
  have hn := hc.2.1
  have hub := zLn_ub h
  unfold f_L_writeCandle f_X9_writeCandle f_X10_writeCandle
  rw [zt_req hc, zt_isC hr.1 hc.2.1]
  by_cases q : ∀ i, i < nn → x ≠ Int32.ofNat i
  · rw [if_pos q, if_pos q]
    simp only [Option.bind_some, Sum.elim_inl, if_true]
    rw [if_pos hub]
    refine ⟨1, 0, n, kb, f, ln, lo, cc, rfl, ?_, fun g => absurd g (by decide), h.1, rfl, h.2.2⟩
    unfold f_X10_writeCandle_14
    rw [zt_thr1, Option.bind_some, if_neg zt_10]
    have : zLi (zTh m 1) cc = zTh m 1 := by
      unfold zLi
      have e := h.2.1
      rw [← e]
      rfl
    rw [this]
  · rw [if_neg q, if_neg q]
    obtain ⟨i, q⟩ := Classical.not_forall.mp q
    obtain ⟨hi, q⟩ := Classical.not_imp.mp q
    obtain rfl := Classical.not_not.mp q
    have hq := hc.2.2 i hi
    have hm := hr.2 i hi
    obtain ⟨qn, w, e1, b1, b2, e2, b3⟩ := zt_q hi hc hw
    simp only [Option.bind_some, Sum.elim_inr, if_neg zt_10]
    obtain ⟨k0, r0, l0⟩ := zt_len0 h
    have l0 := l0 (zTh m 0)
    obtain ⟨s1, d1, dg1⟩ := zt_dgs (a := i) 1 (by omega) (by omega)
    obtain ⟨s2, d2, dg2⟩ := zt_dgs (a := w) 3 (by omega) (by omega)
    obtain ⟨s3, d3, dg3⟩ := zt_dgs (a := qn) 2 (by omega) (by omega)
    obtain ⟨n1, k1, f1, n1l, r1, r1m, l1⟩ := zt_apI l0 dg1 (by omega) (by omega)
    obtain ⟨n2, k2, f2, n2l, r2, r2m, l2⟩ := zt_apC l1 (by omega) (zVo_b hq.1)
    obtain ⟨n3, k3, f3, n3l, r3, r3m, l3⟩ := zt_apC (x := 61) l2 (by omega) (by decide)
    obtain ⟨n4, k4, f4, n4l, r4, r4m, l4⟩ := zt_apI l3 dg2 (by omega) (by omega)
    obtain ⟨n5, k5, f5, n5l, r5, r5m, l5⟩ := zt_apC (x := 47) l4 (by omega) (by decide)
    obtain ⟨n6, k6, f6, n6l, r6, r6m, l6⟩ := zt_apI l5 dg3 (by omega) (by omega)
    unfold f_X10_writeCandle_14
    rw [zt_thr0]
    simp only [Option.bind_some, if_true]
    have em : ((zTh m 0).1, (zTh m 0).2.1, (zTh m 0).2.2.1, (zTh m 0).2.2.2.1, (zTh m 0).2.2.2.2.1, (zTh m 0).2.2.2.2.2.1, (0 : Int32), (zTh m 0).2.2.2.2.2.2.2.1, (zTh m 0).2.2.2.2.2.2.2.2.1, (zTh m 0).2.2.2.2.2.2.2.2.2) = zLi (zTh m 0) 0 := rfl
    have ub5 := zLn_ub l5
    have ub6 := zLn_ub l6
    rw [em, r0, Option.bind_some, r1, r1m]
    simp only [Option.bind_some]
    rw [zt_gi (by omega) (by omega), zt_cl (by omega), r2, zt_of0 (by omega), hm.1]
    simp only [Option.bind_some]
    rw [r2m, r3]
    simp only [Option.bind_some]
    rw [r3m, zt_gj (by omega) (by omega), e2, r4]
    simp only [Option.bind_some]
    rw [zt_of1 (by omega), hm.2.1, e2]
    simp only [Option.bind_some]
    rw [r4m, r5]
    simp only [Option.bind_some]
    rw [r5m, zt_cons (by omega), e1]
    simp only [Option.bind_some]
    rw [if_pos ub5, r6, zt_burns hi hn hr hv.2.1, e1]
    simp only [Option.bind_some]
    rw [r6m]
    simp only [Option.bind_some]
    rw [zt_of3 (by omega), hm.2.2.2, zt_gj (by omega) (by omega)]
    simp only [Option.bind_some]
    rcases hq.2.2.2 with g | g
    · rw [if_pos g, g, if_neg (show ¬ (0 : Int32) = 1 by decide)]
      unfold f_J4_length_8abf5 f_J5_length_8abf5
      simp only [Option.bind_some]
      rw [if_pos ub6, if_pos ub6]
      simp only [Option.bind_some, Sum.elim_inr]
      rw [zt_g (by decide), if_pos ub6, l6.1]
      exact ⟨0, _, _, _, _, _, _, _, rfl, rfl, fun _ => zt_lo _ _, l6⟩
    · obtain ⟨n7, k7, f7, n7l, r7, r7m, l7⟩ := zt_apC (x := 42) l6 (by omega) (by decide)
      have ub7 := zLn_ub l7
      rw [if_neg (show ¬ c.2.2.2.1 i = 0 by rw [g.1]; decide), g.1, if_pos rfl, r7]
      unfold f_J4_length_8abf5 f_J5_length_8abf5
      simp only [Option.bind_some]
      rw [if_pos ub7, if_pos ub7, r7m]
      simp only [Option.bind_some, Sum.elim_inr]
      rw [zt_g (by decide), if_pos ub7, l7.1]
      exact ⟨0, _, _, _, _, _, _, _, rfl, rfl, fun _ => zt_lo _ _, l7⟩
/-- an event written behind c letters -/
theorem zt_wrE {nn k : Nat} {T : Int} {v : StS} {c : CdT} {e : EvT} {s : Nat → Int32} {z : CcT} {m : MdT} (hs : zS nn k T v c e s) (hT : T < 9000000) : ∀ (r F G i cc n : Nat) (kb : SbT) (f ln : Nat → Int32), i + r = k → r < F → r < G → cc ≤ 10 * i → zLn cc n kb f (zLi m cc) ln →
    ∃ (cc' n' : Nat) (kb' : SbT) (f' ln' : Nat → Int32), f_X9_writeEvents_10 F n z v e kb f (Int32.ofNat i) = some (Int32.ofNat cc', kb', f', n') ∧ f_X10_writeEvents_12 G (zLi m cc) s ln (Int32.ofNat i) = some (Int32.ofNat cc', zLi m cc', ln') ∧ zLn cc' n' kb' f' (zLi m cc') ln' := by
  obtain ⟨hc, -, he, hre, hw, hv⟩ := hs
  have hk := he.2.1
  have hn := hc.2.1
  have hT0 := hw.2.1
  intro r
  induction r with
  | zero =>
    intro F G i cc n kb f ln hi hF hG hcc h
    obtain ⟨F, rfl⟩ : ∃ F', F = F' + 1 := ⟨F - 1, by omega⟩
    obtain ⟨G, rfl⟩ : ∃ G', G = G' + 1 := ⟨G - 1, by omega⟩
    have : i = k := by omega
    subst this
    have ub := zLn_ub h
    refine ⟨cc, n, kb, f, ln, ?_, ?_, h⟩
    · unfold f_X9_writeEvents_10 f_J4_length_8abf5 f_J5_length_8abf5
      rw [he.1, if_pos ((zt_le (by omega) (by omega)).mpr (Nat.le_refl _))]
      simp only [Option.bind_some]
      rw [if_pos ub, if_pos ub, h.1]
    · rw [f_X10_writeEvents_12, zt_G4, zt_n4, hre.1, if_pos ((zt_le (by omega) (by omega)).mpr (Nat.le_refl _))]
      rfl
  | succ r ih =>
    intro F G i cc n kb f ln hi hF hG hcc h
    obtain ⟨F, rfl⟩ : ∃ F', F = F' + 1 := ⟨F - 1, by omega⟩
    obtain ⟨G, rfl⟩ : ∃ G', G = G' + 1 := ⟨G - 1, by omega⟩
    obtain ⟨⟨ci, hci, ec⟩, hl, hm1, hm2⟩ := he.2.2.1 i (by omega)
    have hm := hre.2 i (by omega)
    have emi : e.1 i = Int32.ofNat (e.1 i).toInt.toNat := zt_nat (by omega)
    generalize hmi : (e.1 i).toInt.toNat = mi at emi
    have hmi7 : mi < 10 ^ 7 := by
      have : (10 ^ 7 : Nat) = 10000000 := rfl
      omega
    obtain ⟨s1, d1, dg1⟩ := zt_dgs (a := mi) 7 (by omega) hmi7
    obtain ⟨s2, d2, dg2⟩ := zt_dgs (a := ci) 1 (by omega) (by omega)
    -- minute, kind, candle behind c letters
    have body : ∀ (cc n : Nat) (kb : SbT) (f ln : Nat → Int32), cc ≤ 10 * i + 1 → cc ≤ 191 → zLn cc n kb f (zLi m cc) ln → ∀ ch : Int32, 0 ≤ ch.toInt ∧ ch.toInt ≤ 127 → ∃ (n1 : Nat) (k1 : SbT) (f1 ln1 : Nat → Int32) (n2 : Nat) (k2 : SbT) (f2 ln2 : Nat → Int32) (n3 : Nat) (k3 : SbT) (f3 ln3 : Nat → Int32), f_apI n kb f (Int32.ofNat mi) = some (n1, k1, f1) ∧ f_X10_number_9 (zLi m cc) ln (Int32.ofNat mi) = some (zLi m (cc + s1), ln1) ∧ f_apC n1 k1 f1 ch = some (n2, k2, f2) ∧ f_X10_puts (zLi m (cc + s1)) ln1 ch = some (zLi m (cc + s1 + 1), ln2) ∧ f_apI n2 k2 f2 (Int32.ofNat ci) = some (n3, k3, f3) ∧ f_X10_number_9 (zLi m (cc + s1 + 1)) ln2 (Int32.ofNat ci) = some (zLi m (cc + s1 + 1 + s2), ln3) ∧ zLn (cc + s1 + 1 + s2) n3 k3 f3 (zLi m (cc + s1 + 1 + s2)) ln3 := by
      intro cc n kb f ln q1 q2 h ch hch
      obtain ⟨n1, k1, f1, n1l, r1, r1m, l1⟩ := zt_apI h dg1 (by omega) (by omega)
      obtain ⟨n2, k2, f2, n2l, r2, r2m, l2⟩ := zt_apC l1 (by omega) hch
      obtain ⟨n3, k3, f3, n3l, r3, r3m, l3⟩ := zt_apI l2 dg2 (by omega) (by omega)
      exact ⟨n1, k1, f1, n1l, n2, k2, f2, n2l, n3, k3, f3, n3l, r1, r1m, r2, r2m, r3, r3m, l3⟩
    rw [f_X9_writeEvents_10, he.1, if_neg (fun q => absurd ((zt_le (by omega) (by omega)).mp q) (by omega)), f_X10_writeEvents_12, zt_G4, zt_n4, hre.1, if_neg (fun q => absurd ((zt_le (by omega) (by omega)).mp q) (by omega))]
    by_cases i0 : i = 0
    · subst i0
      rw [if_pos (show Int32.ofNat 0 ≤ 0 by decide), if_pos (show Int32.ofNat 0 ≤ 0 by decide), zt_gi (by omega) (by omega), zt_cl (by omega), emi]
      rcases hl with g | g
      · obtain ⟨n1, k1, f1, ln1, n2, k2, f2, ln2, n3, k3, f3, ln3, a1, a2, a3, a4, a5, a6, a7⟩ := body cc n kb f ln (by omega) (by omega) h 115 (by decide)
        obtain ⟨cc', n', kb', f', ln', z1, z2, z3⟩ := ih F G (0 + 1) (cc + s1 + 1 + s2) n3 k3 f3 ln3 (by omega) (by omega) (by omega) (by omega) a7
        refine ⟨cc', n', kb', f', ln', ?_, ?_, z3⟩
        · rw [a1]
          simp only [Option.bind_some]
          rw [zt_gj (by omega) (by omega), g, if_pos rfl, a3]
          simp only [Option.bind_some]
          rw [zt_gj (by omega) (by omega), ec, a5]
          simp only [Option.bind_some]
          rw [zt_succ]
          exact z1
        · rw [zt_oe0 (by omega), hm.1, emi]
          simp only [Option.bind_some]
          rw [a2]
          simp only [Option.bind_some]
          rw [zt_oe2 (by omega), hm.2.2, g]
          simp only [Option.bind_some]
          rw [if_neg (show ¬ (0 : Int32) = 1 by decide), a4]
          simp only [Option.bind_some]
          rw [zt_oe1 (by omega), hm.2.1, ec]
          simp only [Option.bind_some]
          rw [a6]
          simp only [Option.bind_some]
          rw [zt_succ]
          exact z2
      · obtain ⟨n1, k1, f1, ln1, n2, k2, f2, ln2, n3, k3, f3, ln3, a1, a2, a3, a4, a5, a6, a7⟩ := body cc n kb f ln (by omega) (by omega) h 108 (by decide)
        obtain ⟨cc', n', kb', f', ln', z1, z2, z3⟩ := ih F G (0 + 1) (cc + s1 + 1 + s2) n3 k3 f3 ln3 (by omega) (by omega) (by omega) (by omega) a7
        refine ⟨cc', n', kb', f', ln', ?_, ?_, z3⟩
        · rw [a1]
          simp only [Option.bind_some]
          rw [zt_gj (by omega) (by omega), g, if_neg zt_10, a3]
          simp only [Option.bind_some]
          rw [zt_gj (by omega) (by omega), ec, a5]
          simp only [Option.bind_some]
          rw [zt_succ]
          exact z1
        · rw [zt_oe0 (by omega), hm.1, emi]
          simp only [Option.bind_some]
          rw [a2]
          simp only [Option.bind_some]
          rw [zt_oe2 (by omega), hm.2.2, g]
          simp only [Option.bind_some]
          rw [if_pos trivial, a4]
          simp only [Option.bind_some]
          rw [zt_oe1 (by omega), hm.2.1, ec]
          simp only [Option.bind_some]
          rw [a6]
          simp only [Option.bind_some]
          rw [zt_succ]
          exact z2
    · obtain ⟨nb, kb2, fb, lnb, b1, b2, b3⟩ := zt_apC (x := 32) h (by omega) (by decide)
      have b2 : f_X10_puts (zLi m cc) ln 32 = some (zLi m (cc + 1), lnb) := b2
      have b3 : zLn (cc + 1) nb kb2 fb (zLi m (cc + 1)) lnb := b3
      rw [if_neg (zt_np (by omega) (by omega)), if_neg (zt_np (by omega) (by omega)), b1, b2]
      simp only [Option.bind_some]
      rw [zt_gi (by omega) (by omega), zt_cl (by omega), emi]
      rcases hl with g | g
      · obtain ⟨n1, k1, f1, ln1, n2, k2, f2, ln2, n3, k3, f3, ln3, a1, a2, a3, a4, a5, a6, a7⟩ := body (cc + 1) nb kb2 fb lnb (by omega) (by omega) b3 115 (by decide)
        obtain ⟨cc', n', kb', f', ln', z1, z2, z3⟩ := ih F G (i + 1) (cc + 1 + s1 + 1 + s2) n3 k3 f3 ln3 (by omega) (by omega) (by omega) (by omega) a7
        refine ⟨cc', n', kb', f', ln', ?_, ?_, z3⟩
        · rw [a1]
          simp only [Option.bind_some]
          rw [zt_gj (by omega) (by omega), g, if_pos rfl, a3]
          simp only [Option.bind_some]
          rw [zt_gj (by omega) (by omega), ec, a5]
          simp only [Option.bind_some]
          rw [zt_succ]
          exact z1
        · rw [zt_oe0 (by omega), hm.1, emi]
          simp only [Option.bind_some]
          rw [a2]
          simp only [Option.bind_some]
          rw [zt_oe2 (by omega), hm.2.2, g]
          simp only [Option.bind_some]
          rw [if_neg (show ¬ (0 : Int32) = 1 by decide), a4]
          simp only [Option.bind_some]
          rw [zt_oe1 (by omega), hm.2.1, ec]
          simp only [Option.bind_some]
          rw [a6]
          simp only [Option.bind_some]
          rw [zt_succ]
          exact z2
      · obtain ⟨n1, k1, f1, ln1, n2, k2, f2, ln2, n3, k3, f3, ln3, a1, a2, a3, a4, a5, a6, a7⟩ := body (cc + 1) nb kb2 fb lnb (by omega) (by omega) b3 108 (by decide)
        obtain ⟨cc', n', kb', f', ln', z1, z2, z3⟩ := ih F G (i + 1) (cc + 1 + s1 + 1 + s2) n3 k3 f3 ln3 (by omega) (by omega) (by omega) (by omega) a7
        refine ⟨cc', n', kb', f', ln', ?_, ?_, z3⟩
        · rw [a1]
          simp only [Option.bind_some]
          rw [zt_gj (by omega) (by omega), g, if_neg zt_10, a3]
          simp only [Option.bind_some]
          rw [zt_gj (by omega) (by omega), ec, a5]
          simp only [Option.bind_some]
          rw [zt_succ]
          exact z1
        · rw [zt_oe0 (by omega), hm.1, emi]
          simp only [Option.bind_some]
          rw [a2]
          simp only [Option.bind_some]
          rw [zt_oe2 (by omega), hm.2.2, g]
          simp only [Option.bind_some]
          rw [if_pos trivial, a4]
          simp only [Option.bind_some]
          rw [zt_oe1 (by omega), hm.2.1, ec]
          simp only [Option.bind_some]
          rw [a6]
          simp only [Option.bind_some]
          rw [zt_succ]
          exact z2
theorem zl_writeEvents {nn k : Nat} {T : Int} {v : StS} {c : CdT} {e : EvT} {s : Nat → Int32} {z : CcT} {cc n : Nat} {kb : SbT} {f ln : Nat → Int32} {m : MdT} (hs : zS nn k T v c e s) (hT : T < 9000000) (h : zLn cc n kb f m ln) :
    ∃ (b : Int32) (n' : Nat) (kb' : SbT) (f' ln' : Nat → Int32) (cc' : Nat), f_X9_writeEvents n z v e kb f = some (b, kb', f', n') ∧ f_X10_writeEvents m s ln = some (b, zLi (zTh m 0) cc', ln') ∧ zLn cc' n' kb' f' (zLi (zTh m 0) cc') ln' := by
  obtain ⟨k0, r0, l0⟩ := zt_len0 h
  have l0 := l0 (zTh m 0)
  have hk := hs.2.2.1.2.1
  obtain ⟨cc', n', kb', f', ln', z1, z2, z3⟩ := zt_wrE (z := z) hs hT k xFuel xFuel 0 0 n k0 f ln (by omega) (by unfold xFuel; omega) (by unfold xFuel; omega) (by omega) l0
  refine ⟨Int32.ofNat cc', n', kb', f', ln', cc', ?_, ?_, z3⟩
  · unfold f_X9_writeEvents
    rw [r0, Option.bind_some]
    exact z1
  · unfold f_X10_writeEvents
    exact z2
