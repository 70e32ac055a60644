/-! THE THEORY, 4: further queries -/
theorem zt_gj {α : Type} {i N : Nat} {a b : α} (h : i < N) (hN : N < 2147483648) : (if Int32.ofNat i < 0 ∨ N ≤ i then a else b) = b := if_neg (fun q => by
  rcases q with q | q
  · exact absurd ((zt_lt (b := 0) (by omega) (by omega)).mp q) (by omega)
  · omega)
theorem zt_isVoice_step (F i : Nat) (x : Int32) (hi : i < 4) : f_X9_isVoice_2 (F + 1) x (Int32.ofNat i) = if voT.getD i 0 = x then some 1 else f_X9_isVoice_2 F x (Int32.ofNat (i + 1)) := by
  rw [f_X9_isVoice_2, if_neg (show ¬ (4 : Int32) ≤ Int32.ofNat i from fun p => absurd ((zt_le (a := 4) (by omega) (by omega)).mp p) (by omega)), zt_gi (by omega) (by omega), zt_cl (by omega), zt_succ]
theorem zt_isVoice_end (F : Nat) (x : Int32) : f_X9_isVoice_2 (F + 1) x (Int32.ofNat 4) = some 0 := by
  rw [f_X9_isVoice_2, if_pos (by decide)]
/-- one of the four voices -/
def zVo (x : Int32) : Prop := x = 115 ∨ x = 97 ∨ x = 116 ∨ x = 98
theorem zt_isVoice (x : Int32) : (zVo x → f_X9_isVoice x = some 1 ∧ f_X10_isVoice x = some 1) ∧ (¬ zVo x → f_X9_isVoice x = some 0 ∧ f_X10_isVoice x = some 0) := by
  have e : f_X9_isVoice x = f_X9_isVoice_2 (3999995 + 1 + 1 + 1 + 1 + 1) x (Int32.ofNat 0) := rfl
  rw [e, zt_isVoice_step _ 0 _ (by omega), zt_isVoice_step _ 1 _ (by omega), zt_isVoice_step _ 2 _ (by omega), zt_isVoice_step _ 3 _ (by omega), zt_isVoice_end]
  have g0 : voT.getD 0 0 = 115 := rfl
  have g1 : voT.getD 1 0 = 97 := rfl
  have g2 : voT.getD 2 0 = 116 := rfl
  have g3 : voT.getD 3 0 = 98 := rfl
  rw [g0, g1, g2, g3]
  unfold f_X10_isVoice zVo
  constructor
  · rintro (rfl | rfl | rfl | rfl) <;> exact ⟨by decide, by decide⟩
  · intro h
    have h1 : ¬ x = 115 := fun q => h (Or.inl q)
    have h2 : ¬ x = 97 := fun q => h (Or.inr (Or.inl q))
    have h3 : ¬ x = 116 := fun q => h (Or.inr (Or.inr (Or.inl q)))
    have h4 : ¬ x = 98 := fun q => h (Or.inr (Or.inr (Or.inr q)))
    rw [if_neg (fun q => h1 q.symm), if_neg (fun q => h2 q.symm), if_neg (fun q => h3 q.symm), if_neg (fun q => h4 q.symm), if_neg h1, if_neg h2, if_neg h3, if_neg h4]
    exact ⟨rfl, rfl⟩
/-- the lit candles with a voice -/
def zVs (c : CdT) (x : Int32) : Nat → Int32 := fun i => if c.1 i = x then c.2.2.2.1 i else 0
theorem zt_cntOf_4 {c : CdT} {n : Nat} {x : Int32} (hc : zCW n c) : ∀ (r F i : Nat), i + r = n → r < F → f_X1_countLitOf_4 F c x (zt_sum (zVs c x) i) (Int32.ofNat i) = some (zt_sum (zVs c x) n)
  | 0, F + 1, i, h, _ => by
    have : i = n := by omega
    have hn := hc.2.1
    subst this
    rw [f_X1_countLitOf_4, hc.1, if_pos ((zt_le (by omega) (by omega)).mpr (Nat.le_refl _))]
  | r + 1, F + 1, i, h, hF => by
    have hn := hc.2.1
    rw [f_X1_countLitOf_4, hc.1, if_neg (fun q => absurd ((zt_le (by omega) (by omega)).mp q) (by omega)), zt_gi (by omega) (by omega), zt_cl (by omega), zt_succ]
    have ih := zt_cntOf_4 (x := x) hc r F (i + 1) (by omega) (by omega)
    rw [zt_sum] at ih
    rw [zt_gj (by omega) (by omega)]
    rcases (hc.2.2 i (by omega)).2.2.2.imp_right And.left with q | q
    · have e : zVs c x i = 0 := by
        unfold zVs
        rw [q, ite_self]
      rw [if_pos q, ← ih, e, Int32.add_zero]
    · rw [if_neg (by rw [q]; decide)]
      by_cases hv : c.1 i = x
      · rw [if_pos hv, ← ih, show zVs c x i = 1 by unfold zVs; rw [if_pos hv, q]]
      · rw [if_neg hv, ← ih, show zVs c x i = 0 by unfold zVs; rw [if_neg hv], Int32.add_zero]
theorem zt_cntOf {c : CdT} {n : Nat} (x : Int32) (hc : zCW n c) : f_X1_countLitOf c x = some (zt_sum (zVs c x) n) :=
  zt_cntOf_4 hc n xFuel 0 (by omega) (by have := hc.2.1; unfold xFuel; omega)
theorem zt_sounds_4 {m : MdT} {c : CdT} {s : Nat → Int32} {n : Nat} {x : Int32} (hn : n ≤ 10) (hr : zCR n c s) : ∀ (r F i : Nat), i + r = n → r < F → f_X10_sounds_4 F m s x (zt_sum (zVs c x) i) (Int32.ofNat i) = some (zt_sum (zVs c x) n)
  | 0, F + 1, i, h, _ => by
    have : i = n := by omega
    subst this
    rw [f_X10_sounds_4, zt_g (by decide), zt_n3, hr.1, if_pos ((zt_le (by omega) (by omega)).mpr (Nat.le_refl _))]
  | r + 1, F + 1, i, h, hF => by
    rw [f_X10_sounds_4, zt_g (by decide), zt_n3, hr.1, if_neg (fun q => absurd ((zt_le (by omega) (by omega)).mp q) (by omega)), zt_of0 (by omega), zt_succ, zt_of3 (by omega), (hr.2 i (by omega)).1, (hr.2 i (by omega)).2.2.2]
    have ih := zt_sounds_4 (m := m) (x := x) hn hr r F (i + 1) (by omega) (by omega)
    rw [zt_sum] at ih
    simp only [Option.bind_some]
    by_cases hv : c.1 i = x
    · rw [if_pos hv, ← ih, show zVs c x i = c.2.2.2.1 i by unfold zVs; rw [if_pos hv]]
    · rw [if_neg hv, ← ih, show zVs c x i = 0 by unfold zVs; rw [if_neg hv]]
theorem zt_sounds {m : MdT} {c : CdT} {s : Nat → Int32} {n : Nat} (x : Int32) (hn : n ≤ 10) (hr : zCR n c s) : f_X10_sounds m s x = some (zt_sum (zVs c x) n) :=
  zt_sounds_4 hn hr n xFuel 0 (by omega) (by unfold xFuel; omega)
/-- a query without a throw: its two answers -/
def zD (m : MdT) (r : Option Int32) (o : Option (Int32 × MdT)) : Prop := ∃ b : Int32, r = some b ∧ o = some (b, zTh m 0)
section QT
variable {n k : Nat} {T : Int} {v : StS} {c : CdT} {e : EvT} {s : Nat → Int32} {m : MdT} {z : CcT} {lo : Nat → Int64}
theorem zq_sounding (x : Int32) (h : zS n k T v c e s) : zQ m (f_L_sounding z v c lo x) (f_X10_sounding m s x) := by
  obtain ⟨hc, hr, -⟩ := h
  unfold f_L_sounding f_X9_sounding f_X10_sounding
  by_cases q : zVo x
  · obtain ⟨q1, q2⟩ := (zt_isVoice x).1 q
    rw [q1, q2]
    simp only [Option.bind_some, if_neg zt_10]
    rw [zt_cntOf x hc]
    simp only [Option.bind_some, Sum.elim_inr]
    rw [zt_g (by decide)]
    refine ⟨0, zt_sum (zVs c x) n, _, rfl, ?_, fun _ => zt_lo _ _⟩
    unfold f_X10_sounding_13
    rw [zt_thr0, Option.bind_some, if_pos rfl, zt_sounds x hc.2.1 hr, Option.bind_some]
  · obtain ⟨q1, q2⟩ := (zt_isVoice x).2 q
    rw [q1, q2]
    simp only [Option.bind_some, if_true, Sum.elim_inl]
    refine ⟨1, 0, lo, rfl, ?_, fun h => absurd h (by decide)⟩
    unfold f_X10_sounding_13
    rw [zt_thr1, Option.bind_some, if_neg zt_10]
theorem zt_loud_step (F i : Nat) (x : Int32) (hi : i < 4) (hc : zCW n c) : f_X1_loudest_8 (F + 1) c x (Int32.ofNat i) = if zt_sum (zVs c (voT.getD i 0)) n ≤ zt_sum (zVs c x) n then f_X1_loudest_8 F c x (Int32.ofNat (i + 1)) else f_X1_loudest_8 F c (voT.getD i 0) (Int32.ofNat (i + 1)) := by
  rw [f_X1_loudest_8, if_neg (show ¬ (4 : Int32) ≤ Int32.ofNat i from fun p => absurd ((zt_le (a := 4) (by omega) (by omega)).mp p) (by omega)), zt_gi (by omega) (by omega), zt_cl (by omega), zt_succ, zt_cntOf _ hc, zt_cntOf _ hc, Option.bind_some, Option.bind_some, zt_gj (by omega) (by omega)]
theorem zt_loud_end (F : Nat) (x : Int32) (hx : zVo x) : f_X1_loudest_8 (F + 1) c x (Int32.ofNat 4) = some x := by
  rw [f_X1_loudest_8, if_pos (by decide), if_pos (zt_ch (zt_vchar hx))]
theorem zt_65 (x : Int32) (hx : zVo x) (hc : zCW n c) (hr : zCR n c s) (h0 : zt_sum c.2.2.2.1 n ≠ 0) : f_X10_loudestVoice_65 m s x = some (x, zTh m 0) := by
  unfold f_X10_loudestVoice_65
  rw [zt_lit hc.2.1 hr, Option.bind_some, if_neg h0, zt_thr0, Option.bind_some, if_pos rfl, zt_mchar (zt_vchar hx), if_pos (zt_ch (zt_vchar hx))]
theorem zt_65t (x : Int32) (hx : zVo x) (hc : zCW n c) (hr : zCR n c s) (h0 : zt_sum c.2.2.2.1 n = 0) : f_X10_loudestVoice_65 m s x = some (0, zTh m 1) := by
  unfold f_X10_loudestVoice_65
  rw [zt_lit hc.2.1 hr, Option.bind_some, if_pos h0, zt_thr1, Option.bind_some, if_neg zt_10]
/-- the loudest of the two voices -/
def zLd (c : CdT) (n : Nat) (x y : Int32) : Int32 := if zt_sum (zVs c y) n ≤ zt_sum (zVs c x) n then x else y
theorem zt_ldv {x y : Int32} (hx : zVo x) (hy : zVo y) : zVo (zLd c n x y) := by
  unfold zLd
  by_cases q : zt_sum (zVs c y) n ≤ zt_sum (zVs c x) n
  · rw [if_pos q]; exact hx
  · rw [if_neg q]; exact hy
theorem zt_loudest (hc : zCW n c) : f_X1_loudest c = some (zLd c n (zLd c n (zLd c n 115 97) 116) 98) := by
  have v0 : zVo 115 := Or.inl rfl
  have v1 : zVo 97 := Or.inr (Or.inl rfl)
  have v2 : zVo 116 := Or.inr (Or.inr (Or.inl rfl))
  have v3 : zVo 98 := Or.inr (Or.inr (Or.inr rfl))
  unfold f_X1_loudest
  rw [zt_g (by decide)]
  have e : f_X1_loudest_8 xFuel c (voT.getD (0 : Int32).toNatClampNeg 0) 1 = f_X1_loudest_8 (3999996 + 1 + 1 + 1 + 1) c 115 (Int32.ofNat 1) := rfl
  rw [e]
  have st : ∀ (F i : Nat) (x : Int32), i < 4 → f_X1_loudest_8 (F + 1) c x (Int32.ofNat i) = f_X1_loudest_8 F c (zLd c n x (voT.getD i 0)) (Int32.ofNat (i + 1)) := fun F i x hi => by
    rw [zt_loud_step F i x hi hc]
    unfold zLd
    by_cases q : zt_sum (zVs c (voT.getD i 0)) n ≤ zt_sum (zVs c x) n
    · rw [if_pos q, if_pos q]
    · rw [if_neg q, if_neg q]
  rw [st _ 1 _ (by omega), st _ 2 _ (by omega), st _ 3 _ (by omega)]
  exact zt_loud_end _ _ (zt_ldv (zt_ldv (zt_ldv v0 v1) v2) v3)
theorem zt_loudM (hc : zCW n c) (hr : zCR n c s) : f_X10_loudestVoice m s = f_X10_loudestVoice_65 m s (zLd c n (zLd c n (zLd c n 115 97) 116) 98) := by
  unfold f_X10_loudestVoice
  rw [zt_sounds _ hc.2.1 hr, zt_sounds _ hc.2.1 hr, Option.bind_some, Option.bind_some]
  have e1 : (if zt_sum (zVs c 97) n ≤ zt_sum (zVs c 115) n then f_X10_loudestVoice_23 m s 115 else f_X10_loudestVoice_23 m s 97) = f_X10_loudestVoice_23 m s (zLd c n 115 97) := by
    unfold zLd
    by_cases q : zt_sum (zVs c 97) n ≤ zt_sum (zVs c 115) n
    · rw [if_pos q, if_pos q]
    · rw [if_neg q, if_neg q]
  rw [e1]
  generalize zLd c n 115 97 = b
  unfold f_X10_loudestVoice_23
  rw [zt_sounds _ hc.2.1 hr, zt_sounds _ hc.2.1 hr, Option.bind_some, Option.bind_some]
  have e2 : (if zt_sum (zVs c 116) n ≤ zt_sum (zVs c b) n then f_X10_loudestVoice_44 m s b else f_X10_loudestVoice_44 m s 116) = f_X10_loudestVoice_44 m s (zLd c n b 116) := by
    unfold zLd
    by_cases q : zt_sum (zVs c 116) n ≤ zt_sum (zVs c b) n
    · rw [if_pos q, if_pos q]
    · rw [if_neg q, if_neg q]
  rw [e2]
  generalize zLd c n b 116 = b
  unfold f_X10_loudestVoice_44
  rw [zt_sounds _ hc.2.1 hr, zt_sounds _ hc.2.1 hr, Option.bind_some, Option.bind_some]
  unfold zLd
  by_cases q : zt_sum (zVs c 98) n ≤ zt_sum (zVs c b) n
  · rw [if_pos q, if_pos q]
  · rw [if_neg q, if_neg q]
theorem zq_loudestVoice (h : zS n k T v c e s) : zQ m (f_L_loudestVoice z v c lo) (f_X10_loudestVoice m s) := by
  obtain ⟨hc, hr, -⟩ := h
  have v0 : zVo 115 := Or.inl rfl
  have v1 : zVo 97 := Or.inr (Or.inl rfl)
  have v2 : zVo 116 := Or.inr (Or.inr (Or.inl rfl))
  have v3 : zVo 98 := Or.inr (Or.inr (Or.inr rfl))
  have vv : zVo (zLd c n (zLd c n (zLd c n 115 97) 116) 98) := zt_ldv (zt_ldv (zt_ldv v0 v1) v2) v3
  unfold f_L_loudestVoice f_X9_loudestVoice
  rw [zt_countLit hc, zt_loudM hc hr, Option.bind_some]
  by_cases h0 : zt_sum c.2.2.2.1 n = 0
  · rw [if_pos h0]
    simp only [Option.bind_some, Sum.elim_inl, if_true]
    exact ⟨1, 0, lo, rfl, zt_65t _ vv hc hr h0, fun h => absurd h (by decide)⟩
  · rw [if_neg h0, zt_loudest hc, Option.bind_some, if_pos (zt_ch (zt_vchar vv))]
    simp only [Option.bind_some, Sum.elim_inr]
    rw [zt_g (by decide)]
    exact ⟨0, _, _, rfl, zt_65 _ vv hc hr h0, fun _ => zt_lo _ _⟩
theorem zq_failureReason (h : zS n k T v c e s) : zQ m (f_L_failureReason z v lo) (f_X10_failureReason m s) := by
  obtain ⟨-, -, -, -, hw, hv⟩ := h
  unfold f_L_failureReason f_X9_failureReason f_X10_failureReason
  rw [zt_g (by decide), zt_n5, hv.2.2.2.1]
  by_cases h0 : v.2.2.2.2.2.1 = 0
  · rw [if_pos h0, if_pos h0]
    simp only [Option.bind_some, Sum.elim_inl, if_true]
    refine ⟨1, 0, lo, rfl, ?_, fun h => absurd h (by decide)⟩
    unfold f_X10_failureReason_15
    rw [zt_thr1, Option.bind_some, if_neg zt_10]
  · rw [if_neg h0, if_neg h0, if_pos (zt_ch hw.2.2.2.1)]
    simp only [Option.bind_some, Sum.elim_inr]
    rw [zt_g (by decide)]
    refine ⟨0, v.2.2.2.2.2.2.1, _, rfl, ?_, fun _ => zt_lo _ _⟩
    unfold f_X10_failureReason_15
    rw [zt_thr0, Option.bind_some, if_pos rfl, zt_g (by decide), zt_n6, hv.2.2.2.2.1.resolve_right h0, zt_mchar hw.2.2.2.1, if_pos (zt_ch hw.2.2.2.1)]
theorem zt_last {x : Int32} (h : -1 ≤ x.toInt ∧ x.toInt ≤ 9) : x + 1 = 0 ↔ x = -1 := by
  constructor
  · intro q
    have q1 := congrArg Int32.toInt q
    rw [zt_tadd (by have : (1 : Int32).toInt = 1 := rfl; omega) (by have : (1 : Int32).toInt = 1 := rfl; omega)] at q1
    apply zt_ext
    have e1 : (1 : Int32).toInt = 1 := rfl
    have e2 : (-1 : Int32).toInt = -1 := rfl
    rw [zt_i0] at q1
    omega
  · rintro rfl; rfl
theorem zq_lastCandle (h : zS n k T v c e s) : zQ m (f_L_lastCandle z v lo) (f_X10_lastCandle m s) := by
  obtain ⟨-, -, -, -, hw, hv⟩ := h
  unfold f_L_lastCandle f_X9_lastCandle f_X10_lastCandle
  rw [zt_g (by decide), zt_n7, hv.2.2.2.2.2.1]
  by_cases h0 : v.2.2.2.2.2.2.2 = -1
  · rw [if_pos h0, if_pos ((zt_last hw.2.2.2.2).mpr h0)]
    simp only [Option.bind_some, Sum.elim_inl, if_true]
    refine ⟨1, 0, lo, rfl, ?_, fun h => absurd h (by decide)⟩
    unfold f_X10_lastCandle_16
    rw [zt_thr1, Option.bind_some, if_neg zt_10]
  · rw [if_neg h0, if_neg (fun q => h0 ((zt_last hw.2.2.2.2).mp q))]
    simp only [Option.bind_some, Sum.elim_inr]
    rw [zt_g (by decide)]
    refine ⟨0, v.2.2.2.2.2.2.2, _, rfl, ?_, fun _ => zt_lo _ _⟩
    unfold f_X10_lastCandle_16
    rw [zt_thr0, Option.bind_some, if_pos rfl, zt_g (by decide), zt_n7, hv.2.2.2.2.2.1, Int32.add_sub_cancel]
theorem zq_candles (h : zS n k T v c e s) : zD m (f_X9_candles z v c) (f_X10_candles m s) := by
  unfold f_X9_candles f_X10_candles
  rw [zt_g (by decide), zt_n3, h.2.1.1, ← h.1.1]
  exact ⟨_, rfl, rfl⟩
theorem zq_litCandles (h : zS n k T v c e s) : zD m (f_X9_litCandles z v c) (f_X10_litCandles m s) := by
  unfold f_X9_litCandles f_X10_litCandles
  rw [zt_lit h.1.2.1 h.2.1, zt_countLit h.1]
  exact ⟨_, rfl, rfl⟩
theorem zq_events (h : zS n k T v c e s) : zD m (f_X9_events z v e) (f_X10_events m s) := by
  unfold f_X9_events f_X10_events
  rw [zt_g (by decide), zt_n4, h.2.2.2.1.1, ← h.2.2.1.1]
  exact ⟨_, rfl, rfl⟩
theorem zq_failedEvents (h : zS n k T v c e s) : zD m (f_X9_failedEvents z v) (f_X10_failedEvents m s) := by
  unfold f_X9_failedEvents f_X10_failedEvents
  rw [zt_g (by decide), zt_n5, h.2.2.2.2.2.2.2.2.1]
  exact ⟨_, rfl, rfl⟩
theorem zq_time (h : zS n k T v c e s) : zD m (f_X9_time z v) (f_X10_time m s) := by
  unfold f_X9_time f_X10_time
  rw [zt_g (by decide), zt_n0, h.2.2.2.2.2.1]
  exact ⟨_, rfl, rfl⟩
theorem zq_draught (h : zS n k T v c e s) : zD m (f_X9_draught z v) (f_X10_draught m s) := by
  unfold f_X9_draught f_X10_draught
  rw [zt_g (by decide), zt_n1, h.2.2.2.2.2.2.1]
  exact ⟨_, rfl, rfl⟩
theorem zq_dish (h : zS n k T v c e s) : zD m (f_X9_dish z v) (f_X10_dish m s) := by
  unfold f_X9_dish f_X10_dish
  rw [zt_g (by decide), zt_n2, h.2.2.2.2.2.2.2.1]
  exact ⟨_, rfl, rfl⟩
theorem zq_burnt (h : zS n k T v c e s) : zD m (f_X9_burnt z v) (f_X10_burnt m s) := by
  unfold f_X9_burnt f_X10_burnt
  rw [zt_g (by decide), zt_n9, h.2.2.2.2.2.2.2.2.2.2.2.2]
  exact ⟨_, rfl, rfl⟩
theorem zq_addedWax (h : zS n k T v c e s) : ∃ b : Int64, f_X9_addedWax z v = some b ∧ f_X10_addedWax m s = some (b, zTh m 0) := by
  unfold f_X9_addedWax f_X10_addedWax
  rw [zt_g (by decide), zt_n8, h.2.2.2.2.2.2.2.2.2.2.2.1]
  exact ⟨_, rfl, rfl⟩
theorem zq_byParts (h : zS n k T v c e s) (ha : zA n v c s) : f_X9_addedWaxByParts z v c = some v.2.2.2.2.1 ∧ f_X10_addedWaxByParts m s = some (v.2.2.2.2.1, zTh m 0) := by
  constructor
  · unfold f_X9_addedWaxByParts
    rw [zt_sumWax h.1, Option.bind_some, ← ha.1, h.2.2.2.2.2.2.2.2.2.2.2.1]
  · unfold f_X10_addedWaxByParts f_X10_addedWax
    rw [zt_g (by decide), zt_n8, h.2.2.2.2.2.2.2.2.2.2.2.1]
    rfl
end QT
