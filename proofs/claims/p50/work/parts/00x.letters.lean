/-! THE THEORY, 23: means and shares, letters read, letters typed -/
theorem zt_m64 {a : UInt64} (h : FP.Core.dIsNaN a = false) : a &&& 0x7fffffffffffffff ≤ 0x7ff0000000000000 := by
  rw [UInt64.le_iff_toNat_le, FP.Core.mask_toNat]
  have h1 : ¬ FP.Core.dIsNaN a = true := by rw [h]; decide
  rw [FP.Core.isNaN_bits] at h1
  exact Nat.not_lt.mp h1
theorem zt_m32 {a : UInt32} (h : FP.Core.fIsNaN a = false) : a &&& 0x7fffffff ≤ 0x7f800000 := by
  rw [UInt32.le_iff_toNat_le, FP.Core.mask_toNat32]
  have h1 : ¬ FP.Core.fIsNaN a = true := by rw [h]; decide
  rw [FP.Core.isNaN_bits32] at h1
  exact Nat.not_lt.mp h1
theorem zt_dd (u n : Int32) (hn : n ≠ 0) : FP.Core.dIsNaN (FP.ddiv (FP.i2d u) (FP.i2d n)) = false :=
  FP.Core.ddiv_out ((FP.Core.notNaN_iff _).mpr (FP.Core.i2d_fin u).ne_nan) (FP.Core.i2d_fin n) (fun q => FP.Core.i2d_ne_zero hn ((FP.Core.zero_bits2 _).mp q))
theorem zt_fd (u n : Int32) (hn : n ≠ 0) : FP.Core.fIsNaN (FP.fdiv (FP.i2f u) (FP.i2f n)) = false :=
  FP.Core.fdiv_out ((FP.Core.notNaN_iff32 _).mpr (FP.Core.i2f_fin u).ne_nan) (FP.Core.i2f_fin n) (fun q => FP.Core.i2f_ne_zero hn ((FP.Core.zero_bits232 _).mp q))
theorem zt_dcmp {a : UInt64} (h : FP.Core.dIsNaN a = false) : Op.cmpValue (FP.dcmp a a) .l = (0 : Int32) := by
  have : FP.dcmp a a = some .eq := FP.Core.dcmp_self ((FP.Core.notNaN_iff a).mp h)
  rw [this]
  rfl
section FL
variable {n k : Nat} {T : Int} {v : StS} {c : CdT} {e : EvT} {s : Nat → Int32} {m : MdT} {z : CcT} {dd : Nat → UInt64}
theorem zq_meanWax (h : zS n k T v c e s) : ∃ (kk : Int32) (b : UInt64) (dd' : Nat → UInt64), f_L_meanWax z v c dd = some (kk, dd') ∧ f_X10_meanWax m s = some (b, zTh m kk) ∧ (kk = 0 → dd' 0 = b ∧ Op.cmpValue (FP.dcmp b b) .l = (0 : Int32)) := by
  have hn := h.1.2.1
  unfold f_L_meanWax f_X9_meanWax f_X10_meanWax f_X10_meanWax_15
  rw [zt_G3, zt_n3, h.2.1.1, h.1.1]
  by_cases n0 : n = 0
  · subst n0
    rw [if_pos (show Int32.ofNat 0 = 0 from rfl), if_pos (show Int32.ofNat 0 = 0 from rfl), zt_thr1]
    simp only [Option.bind_some, Sum.elim_inl, if_true, if_neg zt_10]
    exact ⟨1, _, dd, rfl, rfl, fun g => absurd g (by decide)⟩
  · have nz : ¬ Int32.ofNat n = 0 := zt_nz (by omega) (by omega)
    have hd := zt_dd (zt_sum c.2.1 n) (Int32.ofNat n) nz
    rw [if_neg nz, if_neg nz, zt_thr0, zt_sumWax h.1, Option.bind_some, if_pos (zt_m64 hd)]
    simp only [Option.bind_some, Sum.elim_inr, if_true]
    rw [zt_g (by decide), zt_allWax hn h.2.1]
    simp only [Option.bind_some]
    rw [if_neg (show ¬ ((3 : Int32) < 0 ∨ 110 ≤ 3) by decide), if_pos (zt_m64 hd)]
    exact ⟨0, _, _, rfl, rfl, fun _ => ⟨by simp [vf_upd, zt_n0], zt_dcmp hd⟩⟩
theorem zq_litShare (h : zS n k T v c e s) : ∃ (kk : Int32) (b : UInt32) (dd' : Nat → UInt64), f_L_litShare z v c dd = some (kk, dd') ∧ f_X10_litShare m s = some (b, zTh m kk) ∧ (kk = 0 → dd' 0 = FP.f2d b ∧ FP.f2d b &&& 0x7fffffffffffffff ≤ 0x7ff0000000000000 ∧ Op.cmpValue (FP.dcmp (FP.f2d b) (FP.f2d b)) .l = (0 : Int32)) := by
  have hn := h.1.2.1
  unfold f_L_litShare f_X9_litShare f_X10_litShare f_X10_litShare_15
  rw [zt_G3, zt_n3, h.2.1.1, h.1.1]
  by_cases n0 : n = 0
  · subst n0
    rw [if_pos (show Int32.ofNat 0 = 0 from rfl), if_pos (show Int32.ofNat 0 = 0 from rfl), zt_thr1]
    simp only [Option.bind_some, Sum.elim_inl, if_true, if_neg zt_10]
    exact ⟨1, _, dd, rfl, rfl, fun g => absurd g (by decide)⟩
  · have nz : ¬ Int32.ofNat n = 0 := zt_nz (by omega) (by omega)
    have hf := zt_fd (zt_sum c.2.2.2.1 n) (Int32.ofNat n) nz
    have hd : FP.Core.dIsNaN (FP.f2d (FP.fdiv (FP.i2f (zt_sum c.2.2.2.1 n)) (FP.i2f (Int32.ofNat n)))) = false := (FP.f2d_nan _).trans hf
    rw [if_neg nz, if_neg nz, zt_thr0, zt_countLit h.1, Option.bind_some, if_pos (zt_m32 hf)]
    simp only [Option.bind_some, Sum.elim_inr, if_true]
    rw [if_pos (zt_m64 hd), zt_g (by decide), zt_lit hn h.2.1]
    simp only [Option.bind_some]
    rw [if_neg (show ¬ ((3 : Int32) < 0 ∨ 110 ≤ 3) by decide), if_pos (zt_m32 hf)]
    exact ⟨0, _, _, rfl, rfl, fun _ => ⟨by simp [vf_upd, zt_n0], zt_m64 hd, zt_dcmp hd⟩⟩
end FL
theorem zq_errorPosition {z : CcT} {m : MdT} {lo : Nat → Int64} (h : zEr z m) : zQ m (f_L_errorPosition z lo) (f_X10_errorPosition m) := by
  unfold f_L_errorPosition f_X9_errorPosition f_X10_errorPosition
  rw [← h.1]
  rcases h.2.2.1 with g | g
  · rw [if_pos g, if_neg (show ¬ (0 : Int32) ≤ z.2.1 by rw [g]; decide), zt_thr1]
    simp only [Option.bind_some, Sum.elim_inl, if_true, if_neg zt_10]
    exact ⟨1, 0, lo, rfl, rfl, fun g => absurd g (by decide)⟩
  · rw [if_neg (show ¬ z.2.1 = -1 by intro k; rw [k] at g; exact absurd g (by decide)), if_pos (show (0 : Int32) ≤ z.2.1 from Int32.le_iff_toInt_le.mpr (by rw [zt_i0]; exact g)), zt_thr0]
    simp only [Option.bind_some, Sum.elim_inr, if_true]
    rw [zt_g (by decide)]
    exact ⟨0, z.2.1, _, rfl, by rw [h.1]; rfl, fun _ => zt_lo _ _⟩
theorem zq_failedCommand {z : CcT} {m : MdT} {lo : Nat → Int64} (h : zEr z m) : zQ m (f_L_failedCommand z lo) (f_X10_failedCommand m) := by
  unfold f_L_failedCommand f_X9_failedCommand f_X10_failedCommand
  rw [← h.2.1]
  rcases h.2.2.2 with g | g
  · rw [if_pos g, if_neg (show ¬ (0 : Int32) ≤ z.2.2 by rw [g]; decide), zt_thr1]
    simp only [Option.bind_some, Sum.elim_inl, if_true, if_neg zt_10]
    exact ⟨1, 0, lo, rfl, rfl, fun g => absurd g (by decide)⟩
  · rw [if_neg (show ¬ z.2.2 = -1 by intro k; rw [k] at g; exact absurd g (by decide)), if_pos (show (0 : Int32) ≤ z.2.2 from Int32.le_iff_toInt_le.mpr (by rw [zt_i0]; exact g)), zt_thr0]
    simp only [Option.bind_some, Sum.elim_inr, if_true]
    rw [zt_g (by decide)]
    exact ⟨0, z.2.2, _, rfl, by rw [h.2.1]; rfl, fun _ => zt_lo _ _⟩
/-- a letter typed -/
theorem zl_type {len : Nat} {z : CcT} {q : PrT} {m : MdT} {tp : Nat → Int32} {lo : Nat → Int64} (x : Int32) (hx : 0 ≤ x.toInt ∧ x.toInt ≤ 65535) (h : zTx len q m tp) :
    ∃ (kk b : Int32) (q' : PrT) (lo' : Nat → Int64) (tp' : Nat → Int32) (l' : Int32) (len' : Nat), f_L_type z q lo x = some (kk, q', lo') ∧ f_X10_type m tp x = some (b, ((zTh m kk).1, (zTh m kk).2.1, (zTh m kk).2.2.1, (zTh m kk).2.2.2.1, (zTh m kk).2.2.2.2.1, (zTh m kk).2.2.2.2.2.1, (zTh m kk).2.2.2.2.2.2.1, l', (zTh m kk).2.2.2.2.2.2.2.2), tp') ∧ (kk = 0 → lo' 0 = b.toInt64) ∧ zTx len' q' ((zTh m kk).1, (zTh m kk).2.1, (zTh m kk).2.2.1, (zTh m kk).2.2.2.1, (zTh m kk).2.2.2.2.1, (zTh m kk).2.2.2.2.2.1, (zTh m kk).2.2.2.2.2.2.1, l', (zTh m kk).2.2.2.2.2.2.2.2) tp' := by
  obtain ⟨h1, h2, h3, h4⟩ := h
  unfold f_L_type f_X9_type f_X10_type f_X10_type_15 f_X6_append f_X6_isFull
  rw [h1, h2]
  by_cases g : len = 60
  · subst g
    rw [if_neg (show ¬ Int32.ofNat 60 < 60 by decide), if_pos (show Int32.ofNat 60 = 60 from rfl), zt_thr1]
    simp only [Option.bind_some, if_neg zt_10, Sum.elim_inl, if_true]
    exact ⟨1, 0, q, lo, tp, m.2.2.2.2.2.2.2.1, 60, rfl, rfl, fun g => absurd g (by decide), h1, h2, h3, h4⟩
  · rw [if_pos (show Int32.ofNat len < 60 from (zt_lt (b := 60) (by omega) (by omega)).mpr (by omega)), if_neg (show ¬ Int32.ofNat len = 60 from fun k => g ((zt_eq (b := 60) (by omega) (by omega)).mp k)), zt_thr0]
    simp only [Option.bind_some, if_true]
    have e8 : (zTh m 0).2.2.2.2.2.2.2.1 = Int32.ofNat len := h2
    rw [zt_gi (by omega) (by omega), e8, zt_gi (by omega) (by omega), zt_cl (by omega), zt_succ, zt_char hx]
    simp only [Option.bind_some, Sum.elim_inr]
    rw [zt_g (by decide)]
    refine ⟨0, Int32.ofNat (len + 1), _, _, upd tp len x, Int32.ofNat (len + 1), len + 1, rfl, rfl, fun _ => zt_lo _ _, rfl, rfl, by omega, fun i hi => ?_⟩
    show upd q.1 len x i = upd tp len x i ∧ 0 ≤ (upd tp len x i).toInt ∧ (upd tp len x i).toInt ≤ 65535
    by_cases hil : i = len
    · subst hil
      rw [zt_updS, zt_updS]
      exact ⟨rfl, hx⟩
    · rw [zt_updN hil, zt_updN hil]
      exact h4 i (by omega)
/-- a letter of the line -/
theorem zt_and {x : Int32} (h : 0 ≤ x.toInt ∧ x.toInt ≤ 127) : x &&& 255 = x := by
  have h1 : (List.range 128).all (fun a => decide (Int32.ofNat a &&& 255 = Int32.ofNat a)) = true := by decide +kernel
  rw [zt_nat h.1]
  exact of_decide_eq_true (List.all_eq_true.mp h1 _ (List.mem_range.mpr (by omega)))
theorem zq_charAt {cc n : Nat} {z : CcT} {k : SbT} {f ln : Nat → Int32} {m : MdT} {lo : Nat → Int64} (x : Int32) (h : zLn cc n k f m ln) : zQ m (f_L_charAt n z k f lo x) (f_X10_charAt m ln x) := by
  obtain ⟨h1, h2, h3, h4, h5, h6, h7⟩ := h
  have hnn := zt_nn h5
  unfold f_L_charAt f_X9_charAt f_X10_charAt f_X10_charAt_20 f_J4_length_8abf5 f_J5_length_8abf5
  rw [h1, h2, zt_isIn]
  simp only [Option.bind_some]
  by_cases q : ∀ i, i < cc → x ≠ Int32.ofNat i
  · have q1 := (zt_in0 (x := x) (n := cc) (by omega)).mpr q
    rw [if_pos q1, if_pos rfl, zt_thr1]
    simp only [Option.bind_some, if_neg zt_10]
    refine ⟨1, 0, lo, ?_, rfl, fun g => absurd g (by decide)⟩
    by_cases q2 : x < 0
    · rw [if_pos q2]
      rfl
    · rw [if_neg q2, if_neg]
      · rfl
      · intro q3
        rw [Int32.lt_iff_toInt_lt, zt_ti (by omega)] at q3
        rw [Int32.lt_iff_toInt_lt, zt_i0] at q2
        exact q x.toInt.toNat (by omega) (zt_nat (by omega))
  · have q1 : ¬ (x < 0 ∨ Int32.ofNat cc - 1 < x) := fun p => q ((zt_in0 (x := x) (n := cc) (by omega)).mp p)
    rw [if_neg q1, if_neg zt_10, zt_thr0]
    simp only [Option.bind_some, if_true]
    obtain ⟨i, q⟩ := Classical.not_forall.mp q
    obtain ⟨hi, q⟩ := Classical.not_imp.mp q
    obtain rfl := Classical.not_not.mp q
    obtain ⟨l1, l2⟩ := h6 i hi
    have lt0 : ¬ Int32.ofNat i < 0 := fun p => q1 (Or.inl p)
    have ltc : Int32.ofNat i < Int32.ofNat cc := (zt_lt (by omega) (by omega)).mpr hi
    have l3 : 0 ≤ (ln i).toInt ∧ (ln i).toInt ≤ 127 := by rw [← l1]; exact l2
    have l4 : 0 ≤ (ln i).toInt ∧ (ln i).toInt ≤ 65535 := by omega
    rw [if_neg lt0, if_pos ltc, zt_gi (by omega) (by omega), zt_cl (by omega), zt_mchar l4, if_pos (zt_ch l4)]
    unfold f_J4_charAt_5068e f_J5_charAt_5068e f_J0_checkIndex_df160 f_J3_checkIndex_8e157 f_J3_checkIndex_8e157_n
    rw [zt_shr, h1, zt_jmin (by omega) (by omega), Nat.min_eq_left h4, if_neg lt0, if_pos ltc]
    simp only [Option.bind_some, if_true]
    rw [zt_gi (by omega) (by omega), zt_cl (by omega), l1, zt_and l3, zt_mchar l4, if_pos (zt_ch l4)]
    simp only [Option.bind_some]
    rw [if_pos (zt_ch l4)]
    simp only [Option.bind_some]
    rw [if_pos (zt_ch l4)]
    simp only [Option.bind_some, Sum.elim_inr]
    rw [zt_g (by decide)]
    exact ⟨0, ln i, _, rfl, rfl, fun _ => zt_lo _ _⟩
