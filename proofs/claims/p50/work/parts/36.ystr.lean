/-! P50, 7: texts made by a builder: how long they are, and that their letters are plain -/
def yM (c : Nat) : MdT := (0, 0, 0, 0, 0, 0, Int32.ofNat c, 0, 0, 0)
/-- a builder of at most C plain letters -/
def yBl (C n : Nat) (k : SbT) (f : Nat → Int32) : Prop := ∃ c : Nat, c ≤ C ∧ zLn c n k f (yM c) f
theorem yBl_of {c C n : Nat} {k : SbT} {f ln : Nat → Int32} {m : MdT} (h : zLn c n k f m ln) (hc : c ≤ C) : yBl C n k f := by
  obtain ⟨h1, h2, h3, h4, h5, h6, h7⟩ := h
  exact ⟨c, hc, h1, rfl, h3, h4, h5, fun i hi => ⟨rfl, (h6 i hi).2⟩, h7⟩
theorem yBl_0 : yBl 0 16 (0, 0) (fun _ => 0) := ⟨0, Nat.le_refl _, rfl, rfl, by omega, by omega, Or.inl rfl, fun i hi => absurd hi (by omega), fun i hi => rfl⟩
theorem yx_I {C n a t : Nat} {k : SbT} {f : Nat → Int32} (h : yBl C n k f) (ht : 1 ≤ t) (ht9 : t ≤ 9) (ha : a < 10 ^ t) (hC : C + t ≤ 200) : ∃ (n' : Nat) (k' : SbT) (f' : Nat → Int32), f_xpI n k f (Int32.ofNat a) = some (n', k', f') ∧ yBl (C + t) n' k' f' := by
  obtain ⟨c, hc, hl⟩ := h
  obtain ⟨d, hd, hdg⟩ := zt_dgs t ht ha
  obtain ⟨n', k', f', ln', g, -, g2⟩ := zt_apI hl hdg (by omega) (by omega)
  refine ⟨n', k', f', ?_, yBl_of g2 (by omega)⟩
  unfold f_apI at g
  obtain ⟨-, g⟩ := x_y g
  unfold f_xpI
  cases hN : f_J4_append_bf812 n k f (Int32.ofNat a) with
  | some u =>
    rw [hN] at g
    exact g
  | none =>
    rw [hN] at g
    obtain ⟨u, hu, g⟩ := x_b g
    obtain ⟨-, g⟩ := x_y g
    show f_J4_append_bf812_G n k f (Int32.ofNat a) = _
    rw [hu]
    exact g
theorem yt_ensG {n c s : Nat} {k : SbT} {f : Nat → Int32} (hn : n = 16 ∨ n = 34 ∨ n = 70 ∨ n = 142) (hc : c ≤ n) (hs : c + s ≤ 2 * n + 1) (hg : n < c + s) (hf : ∀ i, i < n → fits .byte (.int (f i)) = true) : ∃ f' : Nat → Int32, f_J5_ensureCapacityInternal_d00df_G n k f (Int32.ofNat (c + s)) = some (2 * n + 2, f') ∧ (∀ i, i < n → f' i = f i) ∧ ∀ i, n ≤ i → f' i = 0 := by
  have e2 : Int32.ofNat n + 2 = Int32.ofNat (n + 2) := zt_add n 2
  have ed : Int32.ofNat (c + s) - Int32.ofNat n = Int32.ofNat (c + s - n) := zt_sub (by omega)
  have em : jmax (Int32.ofNat (c + s - n)) (Int32.ofNat (n + 2)) = Int32.ofNat (n + 2) := by
    unfold jmax
    by_cases g : c + s - n < n + 2
    · rw [if_pos ((zt_lt (by omega) (by omega)).mpr g)]
    · omega
  have ea : Int32.ofNat n + Int32.ofNat (n + 2) = Int32.ofNat (2 * n + 2) := by
    rw [zt_add]; congr 1; omega
  have ej : jmin (Int32.ofNat n) (Int32.ofNat (2 * n + 2)) = Int32.ofNat n := by
    rw [zt_jmin (by omega) (by omega), Nat.min_eq_left (by omega)]
  have h0 : ∀ a : Nat, a < 2147483648 → ¬ Int32.ofNat a < 0 := fun a ha q => absurd ((zt_lt (b := 0) ha (by omega)).mp q) (by omega)
  refine ⟨va_cpy f (fun _ => 0) 0 0 n, ?_, fun i hi => ?_, fun i hi => ?_⟩
  · unfold f_J5_ensureCapacityInternal_d00df_G f_J5_newCapacity_0f7a4 f_J8_newLength_cabcc
    rw [zt_shr, zt_shl, zt_shl, ed, if_neg (zt_np (by omega) (by omega)), e2, em, ea, if_neg (zt_np (by omega) (by omega)), if_neg (show ¬ (2147483639 : Int32) < Int32.ofNat (2 * n + 2) from fun q => absurd ((zt_lt (a := 2147483639) (by omega) (by omega)).mp q) (by omega)), Option.bind_some, if_neg (show ¬ Int32.ofNat (2 * n + 2) = 2147483647 from fun q => absurd ((zt_eq (b := 2147483647) (by omega) (by omega)).mp q) (by omega)), zt_shr, Option.bind_some, zt_shl]
    unfold f_J7_copyOf_G
    rw [if_neg (fun q => absurd ((zt_eq (by omega) (by omega)).mp q) (by omega)), ej, zt_cl (by omega), zt_cl (by omega), if_pos ⟨⟨h0 _ (by omega), rfl, by omega⟩, ⟨h0 _ (by omega), Nat.le_refl _⟩, hf⟩]
  · unfold va_cpy
    rw [if_pos ⟨by omega, by omega⟩]
    congr 1
    omega
  · unfold va_cpy
    rw [if_neg (by omega)]
theorem yt_ens {n c s : Nat} {k : SbT} {f : Nat → Int32} (hn : n ≤ 286) (hg : c + s ≤ n) : f_J5_ensureCapacityInternal_d00df n k f (Int32.ofNat (c + s)) = some () := by
  unfold f_J5_ensureCapacityInternal_d00df
  rw [zt_shr, if_pos]
  rw [Int32.le_iff_toInt_le, zt_tsub (by rw [zt_ti (by omega), zt_ti (by omega)]; omega) (by rw [zt_ti (by omega), zt_ti (by omega)]; omega), zt_ti (by omega), zt_ti (by omega), zt_i0]
  omega
theorem yt_ensN {n c s : Nat} {k : SbT} {f : Nat → Int32} (hc : c + s ≤ 1000) (hn : n ≤ 286) (hg : n < c + s) : f_J5_ensureCapacityInternal_d00df n k f (Int32.ofNat (c + s)) = none := by
  unfold f_J5_ensureCapacityInternal_d00df
  rw [zt_shr, if_neg]
  rw [zt_sub (by omega)]
  exact zt_np (by omega) (by omega)
theorem yt_ge0 {a : Nat} (ha : a < 2147483648) : ¬ Int32.ofNat a < 0 := fun q => absurd ((zt_lt (b := 0) ha (by omega)).mp q) (by omega)
/-- what a constant is for the builder: s plain letters -/
def yWd (w s : Nat) : Prop := w < 39 ∧ stLen.getD w 0 = s ∧ s ≤ 40 ∧ ∀ i, i < s → 0 ≤ ((stByt.getD w []).getD i 0).toInt ∧ ((stByt.getD w []).getD i 0).toInt ≤ 127
theorem yt_wd {w s : Nat} (hw : w < 39) (hs : s ≤ 40) (h1 : stLen.getD w 0 = s) (h2 : (List.range s).all (fun i => decide (0 ≤ ((stByt.getD w []).getD i 0).toInt) && decide (((stByt.getD w []).getD i 0).toInt ≤ 127)) = true) : yWd w s := by
  refine ⟨hw, h1, hs, fun i hi => ?_⟩
  have h := List.all_eq_true.mp h2 i (List.mem_range.mpr hi)
  simp only [Bool.and_eq_true, decide_eq_true_eq] at h
  exact h
theorem yt_coder {w : Nat} (hw : w < 39) : f_J0_coder_7d493 w = some 0 := by
  unfold f_J0_coder_7d493
  rw [if_neg zt_10, if_pos hw]
theorem yt_lenS {w s : Nat} (h : yWd w s) : f_J0_length_8abf5 w = some (Int32.ofNat s) := by
  unfold f_J0_length_8abf5
  rw [if_pos h.1, if_pos h.1, yt_coder h.1, Option.bind_some, if_pos h.1, h.2.1, zt_shr]
theorem yt_putS {w s n c : Nat} {k : SbT} {f : Nat → Int32} (h : yWd w s) (hn : n ≤ 1000) (hc : c + s ≤ n) : f_J5_putStringAt_47b60_S n k f (Int32.ofNat c) w = some (va_cpy (fun j => (stByt.getD w []).getD j 0) f 0 c s) := by
  have hs := h.2.2.1
  have z0 : (0 : Int32).toNatClampNeg = 0 := rfl
  have hft : ∀ i, i < s → fits .byte (.int ((stByt.getD w []).getD (0 + i) 0)) = true := fun i hi => by
    rw [Nat.zero_add]
    exact zt_fits (h.2.2.2 i hi)
  unfold f_J5_putStringAt_47b60_S f_J5_inflateIfNeededFor_a7421_S f_J0_getBytes_840e7_S
  rw [if_neg zt_10, yt_coder h.1]
  simp only [Option.bind_some, if_pos h.1, if_true, h.2.1, zt_shl, z0]
  rw [zt_cl (by omega), zt_cl (by omega), if_pos ⟨⟨by decide, yt_ge0 (by omega), yt_ge0 (by omega)⟩, ⟨by omega, by omega⟩, hft⟩]
  rfl
theorem yt_putT {m n c : Nat} {k : SbT} {f tx : Nat → Int32} (hm : m ≤ 1000) (hn : n ≤ 1000) (hc : c + m ≤ n) (htx : ∀ i, i < m → 0 ≤ (tx i).toInt ∧ (tx i).toInt ≤ 127) : f_J5_putStringAt_47b60_T n m k f () tx (Int32.ofNat c) = some (va_cpy tx f 0 c m) := by
  have z0 : (0 : Int32).toNatClampNeg = 0 := rfl
  have hft : ∀ i, i < m → fits .byte (.int (tx (0 + i))) = true := fun i hi => by
    rw [Nat.zero_add]
    exact zt_fits (htx i hi)
  unfold f_J5_putStringAt_47b60_T f_J5_inflateIfNeededFor_a7421_T f_J0_getBytes_840e7_T f_J0_coder_7d493_D
  rw [if_neg zt_10, if_neg zt_10]
  simp only [Option.bind_some, if_true, zt_shl, z0]
  rw [zt_cl (by omega), zt_cl (by omega), if_pos ⟨⟨by decide, yt_ge0 (by omega), yt_ge0 (by omega)⟩, ⟨by omega, by omega⟩, hft⟩]
  rfl
theorem yLn_cpy {c s n : Nat} {k : SbT} {f g : Nat → Int32} (h1 : k.2 = Int32.ofNat (c + s)) (h3 : c + s ≤ 200) (h4 : c + s ≤ n) (h5 : n = 16 ∨ n = 34 ∨ n = 70 ∨ n = 142 ∨ n = 286) (hf : ∀ i, i < c → 0 ≤ (f i).toInt ∧ (f i).toInt ≤ 127) (hff : ∀ i, i < n → fits .byte (.int (f i)) = true) (hg : ∀ i, i < s → 0 ≤ (g i).toInt ∧ (g i).toInt ≤ 127) : zLn (c + s) n k (va_cpy g f 0 c s) (yM (c + s)) (va_cpy g f 0 c s) := by
  refine ⟨h1, rfl, h3, h4, h5, fun i hi => ⟨rfl, ?_⟩, fun i hi => ?_⟩
  · unfold va_cpy
    by_cases q : c ≤ i ∧ i < c + s
    · rw [if_pos q]
      exact hg _ (by omega)
    · rw [if_neg q]
      exact hf i (by omega)
  · unfold va_cpy
    by_cases q : c ≤ i ∧ i < c + s
    · rw [if_pos q]
      exact zt_fits (hg _ (by omega))
    · rw [if_neg q]
      exact hff i hi
theorem yx_S {C n w s : Nat} {k : SbT} {f : Nat → Int32} (h : yBl C n k f) (hw : yWd w s) (hs : s ≤ 12) (hC : C + s ≤ 140) : ∃ (n' : Nat) (k' : SbT) (f' : Nat → Int32), f_xpS n k f w = some (n', k', f') ∧ yBl (C + s) n' k' f' := by
  obtain ⟨c, hc, h1, -, h3, h4, h5, h6, h7⟩ := h
  have hnn := zt_nn h5
  have ecs : Int32.ofNat c + Int32.ofNat s = Int32.ofNat (c + s) := zt_add c s
  by_cases g : c + s ≤ n
  · refine ⟨n, (k.1, Int32.ofNat (c + s)), va_cpy (fun j => (stByt.getD w []).getD j 0) f 0 c s, ?_, c + s, by omega, yLn_cpy rfl (by omega) g h5 (fun i hi => (h6 i hi).2) h7 hw.2.2.2⟩
    have e : f_J4_append_15ec4_S n k f w = some ((k.1, Int32.ofNat (c + s)), va_cpy (fun j => (stByt.getD w []).getD j 0) f 0 c s) := by
      unfold f_J4_append_15ec4_S f_J5_append_cf1ce_S
      rw [yt_lenS hw, Option.bind_some, if_pos hw.1, h1, ecs, yt_ens (by omega) g, Option.bind_some, yt_putS hw (by omega) g]
      rfl
    unfold f_xpS
    rw [e]
  · have hn4 : n = 16 ∨ n = 34 ∨ n = 70 ∨ n = 142 := by omega
    obtain ⟨f1, f2, f3, f4⟩ := yt_ensG (k := k) (c := c) (s := s) hn4 h4 (by omega) (by omega) h7
    have h7' : ∀ i, i < 2 * n + 2 → fits .byte (.int (f1 i)) = true := fun i hi => by
      by_cases hin : i < n
      · rw [f3 i hin]; exact h7 i hin
      · rw [f4 i (by omega)]; rfl
    refine ⟨2 * n + 2, (k.1, Int32.ofNat (c + s)), va_cpy (fun j => (stByt.getD w []).getD j 0) f1 0 c s, ?_, c + s, by omega, yLn_cpy rfl (by omega) (by omega) (by omega) (fun i hi => by rw [f3 i (by omega)]; exact (h6 i hi).2) h7' hw.2.2.2⟩
    have e : f_J4_append_15ec4_S n k f w = none := by
      unfold f_J4_append_15ec4_S f_J5_append_cf1ce_S
      rw [yt_lenS hw, Option.bind_some, if_pos hw.1, h1, ecs, yt_ensN (by omega) (by omega) (by omega)]
      rfl
    have e2 : f_J4_append_15ec4_SG n k f w = some (2 * n + 2, (k.1, Int32.ofNat (c + s)), va_cpy (fun j => (stByt.getD w []).getD j 0) f1 0 c s) := by
      unfold f_J4_append_15ec4_SG f_J5_append_cf1ce_SG
      rw [yt_lenS hw, Option.bind_some, if_pos hw.1, h1, ecs, f2, Option.bind_some, yt_putS hw (by omega) (by omega)]
      rfl
    unfold f_xpS
    rw [e]
    exact e2
theorem yx_T {C n m : Nat} {k : SbT} {f tx : Nat → Int32} (h : yBl C n k f) (hC : C + m ≤ 33) (htx : ∀ i, i < m → 0 ≤ (tx i).toInt ∧ (tx i).toInt ≤ 127) : ∃ (n' : Nat) (k' : SbT) (f' : Nat → Int32), f_xpT n k f m tx = some (n', k', f') ∧ yBl (C + m) n' k' f' := by
  obtain ⟨c, hc, h1, -, h3, h4, h5, h6, h7⟩ := h
  have hnn := zt_nn h5
  have ecs : Int32.ofNat c + Int32.ofNat m = Int32.ofNat (c + m) := zt_add c m
  by_cases g : c + m ≤ n
  · refine ⟨n, (k.1, Int32.ofNat (c + m)), va_cpy tx f 0 c m, ?_, c + m, by omega, yLn_cpy rfl (by omega) g h5 (fun i hi => (h6 i hi).2) h7 htx⟩
    have e : f_J4_append_15ec4_T n m k f () tx = some ((k.1, Int32.ofNat (c + m)), va_cpy tx f 0 c m) := by
      unfold f_J4_append_15ec4_T f_J5_append_cf1ce_T
      rw [yt_lenD, Option.bind_some, h1, ecs, yt_ens (by omega) g, Option.bind_some, yt_putT (by omega) (by omega) g htx]
      rfl
    unfold f_xpT
    rw [e]
  · have hn4 : n = 16 ∨ n = 34 ∨ n = 70 ∨ n = 142 := by omega
    obtain ⟨f1, f2, f3, f4⟩ := yt_ensG (k := k) (c := c) (s := m) hn4 h4 (by omega) (by omega) h7
    have h7' : ∀ i, i < 2 * n + 2 → fits .byte (.int (f1 i)) = true := fun i hi => by
      by_cases hin : i < n
      · rw [f3 i hin]; exact h7 i hin
      · rw [f4 i (by omega)]; rfl
    refine ⟨2 * n + 2, (k.1, Int32.ofNat (c + m)), va_cpy tx f1 0 c m, ?_, c + m, by omega, yLn_cpy rfl (by omega) (by omega) (by omega) (fun i hi => by rw [f3 i (by omega)]; exact (h6 i hi).2) h7' htx⟩
    have e : f_J4_append_15ec4_T n m k f () tx = none := by
      unfold f_J4_append_15ec4_T f_J5_append_cf1ce_T
      rw [yt_lenD, Option.bind_some, h1, ecs, yt_ensN (by omega) (by omega) (by omega)]
      rfl
    have e2 : f_J4_append_15ec4_TG n m k f () tx = some (2 * n + 2, (k.1, Int32.ofNat (c + m)), va_cpy tx f1 0 c m) := by
      unfold f_J4_append_15ec4_TG f_J5_append_cf1ce_TG
      rw [yt_lenD, Option.bind_some, h1, ecs, f2, Option.bind_some, yt_putT (by omega) (by omega) (by omega) htx]
      rfl
    unfold f_xpT
    rw [e]
    exact e2
theorem yx_str {C n : Nat} {k : SbT} {f : Nat → Int32} (h : yBl C n k f) : ∃ (m : Nat) (tx : Nat → Int32), f_J4_toString n k f = some (m, tx) ∧ m ≤ C ∧ ∀ i, i < m → 0 ≤ (tx i).toInt ∧ (tx i).toInt ≤ 127 := by
  obtain ⟨c, hc, h1, -, h3, h4, h5, h6, h7⟩ := h
  have hnn := zt_nn h5
  have e1 : k.2.toInt.toNat = c := by rw [h1, zt_ti (by omega)]; omega
  have e0 : 0 ≤ k.2.toInt := by rw [h1, zt_ti (by omega)]; omega
  unfold f_J4_toString f_J7_copyOfRange
  rw [if_pos e0, e1, if_pos ⟨⟨h4, hnn.2⟩, h7⟩]
  by_cases q : c = n
  · rw [if_pos q]
    subst q
    exact ⟨c, f, rfl, hc, fun i hi => (h6 i hi).2⟩
  · rw [if_neg q]
    refine ⟨c, _, rfl, hc, fun i hi => ?_⟩
    unfold va_cpy
    rw [if_pos ⟨by omega, by omega⟩, show 0 + (i - 0) = i by omega]
    exact (h6 i hi).2
theorem yw_16 : yWd 16 5 := yt_wd (by decide) (by decide) (by decide +kernel) (by decide +kernel)
theorem yw_28 : yWd 28 7 := yt_wd (by decide) (by decide) (by decide +kernel) (by decide +kernel)
theorem yw_29 : yWd 29 7 := yt_wd (by decide) (by decide) (by decide +kernel) (by decide +kernel)
theorem yw_32 : yWd 32 9 := yt_wd (by decide) (by decide) (by decide +kernel) (by decide +kernel)
theorem yw_33 : yWd 33 6 := yt_wd (by decide) (by decide) (by decide +kernel) (by decide +kernel)
theorem yw_34 : yWd 34 2 := yt_wd (by decide) (by decide) (by decide +kernel) (by decide +kernel)
theorem yw_35 : yWd 35 6 := yt_wd (by decide) (by decide) (by decide +kernel) (by decide +kernel)
theorem yw_36 : yWd 36 8 := yt_wd (by decide) (by decide) (by decide +kernel) (by decide +kernel)
theorem yw_37 : yWd 37 2 := yt_wd (by decide) (by decide) (by decide +kernel) (by decide +kernel)
theorem yw_38 : yWd 38 5 := yt_wd (by decide) (by decide) (by decide +kernel) (by decide +kernel)
