/-! THE THEORY, 25: the law's cases -/
def zI (J : Int) (z : CcT) (v : StS) (c : CdT) (e : EvT) (v3 : StS) (c3 : CdT) (e3 : EvT) (h : HiT) (vs : Nat → StS) (cs : Nat → CdT) (es : Nat → EvT) (q : PrT) (k : SbT) (f : Nat → Int32) (m : MdT) (r1 : Nat → Int32) (r4 : Nat → Int32) (r5 : Nat → Int32) (r6 : Nat → Int32) (r7 : Nat → Int32) (n : Nat) : Prop :=
  zSt J v c e r1 ∧ zH J h vs cs es r5 m.1 ∧ (z.1 = m.2.2.2.2.2.1 ∧ (z.1 ≠ 0 → zSt J v3 c3 e3 r4)) ∧ zEr z m ∧ (∃ len, zTx len q m r7) ∧ ∃ cc, zLn cc n k f m r6
def zIu (J : Int) (u : LwT) : Prop := zI J (u.1) (u.2.1) (u.2.2.1) (u.2.2.2.1) (u.2.2.2.2.2.2.2.1) (u.2.2.2.2.2.2.2.2.1) (u.2.2.2.2.2.2.2.2.2.1) (u.2.2.2.2.2.2.2.2.2.2.1) (u.2.2.2.2.2.2.2.2.2.2.2.2.1) (u.2.2.2.2.2.2.2.2.2.2.2.2.2.1) (u.2.2.2.2.2.2.2.2.2.2.2.2.2.2.1) (u.2.2.2.2.2.2.2.2.2.2.2.2.2.2.2.1) (u.2.2.2.2.2.2.2.2.2.2.2.2.2.2.2.2.2.2.1) (u.2.2.2.2.2.2.2.2.2.2.2.2.2.2.2.2.2.2.2.1) (u.2.2.2.2.2.2.2.2.2.2.2.2.2.2.2.2.2.2.2.2.1) (u.2.2.2.2.2.2.2.2.2.2.2.2.2.2.2.2.2.2.2.2.2.1) (u.2.2.2.2.2.2.2.2.2.2.2.2.2.2.2.2.2.2.2.2.2.2.2.2.1) (u.2.2.2.2.2.2.2.2.2.2.2.2.2.2.2.2.2.2.2.2.2.2.2.2.2.1) (u.2.2.2.2.2.2.2.2.2.2.2.2.2.2.2.2.2.2.2.2.2.2.2.2.2.2.1) (u.2.2.2.2.2.2.2.2.2.2.2.2.2.2.2.2.2.2.2.2.2.2.2.2.2.2.2.1) (u.2.2.2.2.2.2.2.2.2.2.2.2.2.2.2.2.2.2.2.2.2.2.2.2.2.2.2.2.2.2.2)
theorem zt_fin {α : Type} {x kk : Int32} {lo' : Nat → Int64} {b : Int32} {A : Option α} (hx : x = kk) (h : kk = 0 → lo' 0 = b.toInt64) : (if x = kk then (if kk = (0 : Int32) then (if (0 : Int32) < 0 ∨ 1 ≤ (0 : Int32).toNatClampNeg then none else (if lg_cmp (lo' (0 : Int32).toNatClampNeg) b.toInt64 = (0 : Int32) then A else none)) else A) else none) = A := by
  rw [if_pos hx]
  by_cases hk : kk = 0
  · rw [if_pos hk, if_neg (by decide), zt_n0, h hk, if_pos (zt_cmp _)]
  · rw [if_neg hk]
theorem zt_charR (x : Int32) : 0 ≤ ((x.toUInt32 % 65536).toInt32).toInt ∧ ((x.toUInt32 % 65536).toInt32).toInt ≤ 65535 := by
  rw [pk_char]
  have h : x.toBitVec.toNat % 65536 < 65536 := Nat.mod_lt _ (by decide)
  show 0 ≤ (Int32.ofNat _).toInt ∧ (Int32.ofNat _).toInt ≤ 65535
  rw [zt_ti (by omega)]
  omega
def zQb (m : MdT) (r : Option (Int32 × (Nat → Int64))) (o : Option (Int32 × MdT)) : Prop := ∃ (k b : Int32) (lo : Nat → Int64), r = some (k, lo) ∧ o = some (b, zTh m k) ∧ (k = 0 → lo 0 = b.toInt64) ∧ (b = 0 ∨ b = 1)
section QB
variable {n k : Nat} {T : Int} {v : StS} {c : CdT} {e : EvT} {s : Nat → Int32} {m : MdT} {z : CcT} {lo : Nat → Int64}
theorem zqb_isLit (x : Int32) (h : zS n k T v c e s) : zQb m (f_L_isLit z v c lo x) (f_X10_isLit m s x) := by
  obtain ⟨hc, hr, -⟩ := h
  unfold f_L_isLit f_X9_isLit f_X10_isLit
  rw [zt_req hc, zt_isC hr.1 hc.2.1]
  by_cases q : ∀ i, i < n → x ≠ Int32.ofNat i
  · rw [if_pos q, if_pos q]
    simp only [Option.bind_some, Sum.elim_inl, if_true]
    refine ⟨1, 0, lo, rfl, ?_, fun h => absurd h (by decide), Or.inl rfl⟩
    unfold f_X10_isLit_14
    rw [zt_thr1, Option.bind_some, if_neg zt_10]
  · rw [if_neg q, if_neg q]
    obtain ⟨i, q⟩ := Classical.not_forall.mp q
    obtain ⟨hi, q⟩ := Classical.not_imp.mp q
    obtain rfl := Classical.not_not.mp q
    have hn := hc.2.1
    have hl := (hc.2.2 i hi).2.2.2.imp_right And.left
    simp only [Option.bind_some, Sum.elim_inr, if_neg zt_10]
    rw [zt_gi (by omega) (by omega), zt_cl (by omega), if_pos hl]
    simp only [Option.bind_some, Sum.elim_inr]
    unfold f_X10_isLit_14
    rw [zt_thr0, Option.bind_some, if_pos rfl, zt_of3 (by omega), Option.bind_some, (hr.2 i hi).2.2.2]
    rcases hl with hl | hl
    · rw [hl, if_pos rfl, zt_g (by decide), if_neg (by decide)]
      exact ⟨0, 0, _, rfl, rfl, fun _ => zt_lo _ _, Or.inl rfl⟩
    · rw [hl, if_neg (by decide), zt_g (by decide), if_pos rfl]
      exact ⟨0, 1, _, rfl, rfl, fun _ => zt_lo _ _, Or.inr rfl⟩
theorem zqb_isLighting (x : Int32) (h : zS n k T v c e s) : zQb m (f_L_isLighting z v e lo x) (f_X10_isLighting m s x) := by
  obtain ⟨-, -, hc, hr, -⟩ := h
  unfold f_L_isLighting f_X9_isLighting f_X10_isLighting
  rw [zt_reqE hc, zt_isE hr.1 hc.2.1]
  by_cases q : ∀ i, i < k → x ≠ Int32.ofNat i
  · rw [if_pos q, if_pos q]
    simp only [Option.bind_some, Sum.elim_inl, if_true]
    refine ⟨1, 0, lo, rfl, ?_, fun h => absurd h (by decide), Or.inl rfl⟩
    unfold f_X10_isLighting_14
    rw [zt_thr1, Option.bind_some, if_neg zt_10]
  · rw [if_neg q, if_neg q]
    obtain ⟨i, q⟩ := Classical.not_forall.mp q
    obtain ⟨hi, q⟩ := Classical.not_imp.mp q
    obtain rfl := Classical.not_not.mp q
    have hn := hc.2.1
    have hl := (hc.2.2.1 i hi).2.1
    simp only [Option.bind_some, Sum.elim_inr, if_neg zt_10]
    rw [zt_gi (by omega) (by omega), zt_cl (by omega), if_pos hl]
    simp only [Option.bind_some, Sum.elim_inr]
    unfold f_X10_isLighting_14
    rw [zt_thr0, Option.bind_some, if_pos rfl, zt_oe2 (by omega), Option.bind_some, (hr.2 i hi).2.2]
    rcases hl with hl | hl
    · rw [hl, if_pos rfl, zt_g (by decide), if_neg (by decide)]
      exact ⟨0, 0, _, rfl, rfl, fun _ => zt_lo _ _, Or.inl rfl⟩
    · rw [hl, if_neg (by decide), zt_g (by decide), if_pos rfl]
      exact ⟨0, 1, _, rfl, rfl, fun _ => zt_lo _ _, Or.inr rfl⟩
end QB
section LC
variable {J : Int} {L p : Nat} {xs : Nat → Int32} {z : CcT} {v : StS} {c : CdT} {e : EvT} {v2 : StS} {c2 : CdT} {e2 : EvT} {v3 : StS} {c3 : CdT} {e3 : EvT} {h : HiT} {t : Unit} {vs : Nat → StS} {cs : Nat → CdT} {es : Nat → EvT} {q : PrT} {t2 : Unit} {ws : Nat → CmT} {k : SbT} {f : Nat → Int32} {m : MdT} {r1 : Nat → Int32} {r2 : Nat → Int32} {r3 : Nat → Int32} {r4 : Nat → Int32} {r5 : Nat → Int32} {r6 : Nat → Int32} {r7 : Nat → Int32} {r8 : Nat → Int32} {lo : Nat → Int64} {dd : Nat → UInt64} {n : Nat}
theorem zI_th (kk : Int32) (I : zI J z v c e v3 c3 e3 h vs cs es q k f m r1 r4 r5 r6 r7 n) : zI (J + 4000) z v c e v3 c3 e3 h vs cs es q k f (zTh m kk) r1 r4 r5 r6 r7 n := by
  obtain ⟨i1, i2, ⟨i3, i4⟩, i5, i6, i7⟩ := I
  exact ⟨zSt_mono (by omega) i1, zH_mono (by omega) i2, ⟨i3, fun g => zSt_mono (by omega) (i4 g)⟩, i5, i6, i7⟩
theorem zc_787 (I : zI J z v c e v3 c3 e3 h vs cs es q k f m r1 r4 r5 r6 r7 n) (hJ : J + 5000 < 9000000) (hp : p + 3 < L) (hL : L ≤ 2048) : ∃ u, f_law_787 n L xs z v c e v2 c2 e2 v3 c3 e3 h t vs cs es q t2 ws k f m r1 r2 r3 r4 r5 r6 r7 r8 lo dd (Int32.ofNat p) = some u ∧ zIu (J + 4000) u := by
  obtain ⟨i1, i2, i3, i5, i6, i7⟩ := id I
  have e1 : Int32.ofNat p + 1 = Int32.ofNat (p + 1) := zt_succ p
  have e2 : Int32.ofNat p + 2 = Int32.ofNat (p + 2) := zt_add p 2
  have e3 : Int32.ofNat p + 3 = Int32.ofNat (p + 3) := zt_add p 3
  have y1 : (Int32.ofNat (p + 1)).toNatClampNeg = p + 1 := zt_cl (by omega)
  have y2 : (Int32.ofNat (p + 2)).toNatClampNeg = p + 2 := zt_cl (by omega)
  have y3 : (Int32.ofNat (p + 3)).toNatClampNeg = p + 3 := zt_cl (by omega)
  have x1 : ¬ (Int32.ofNat (p + 1) < 0 ∨ L ≤ p + 1) := fun q => zt_in (show p + 1 < L by omega) (by omega) (by rw [y1]; exact q)
  have x2 : ¬ (Int32.ofNat (p + 2) < 0 ∨ L ≤ p + 2) := fun q => zt_in (show p + 2 < L by omega) (by omega) (by rw [y2]; exact q)
  have x3 : ¬ (Int32.ofNat (p + 3) < 0 ∨ L ≤ p + 3) := fun q => zt_in (show p + 3 < L by omega) (by omega) (by rw [y3]; exact q)
  obtain ⟨nn, kk0, T, hT, s1, s2⟩ := i1
  obtain ⟨kk, b, lo', g1, g2, g3⟩ := zq_voice (m := m) (z := z) (lo := lo) (xs (p + 1)) s1
  unfold f_law_787
  simp only [e1, y1, if_neg x1, g1, g2, Option.bind_some, f_X10_thrown]
  rw [zt_fin (show (zTh m kk).2.1 = kk from rfl) g3]
  exact ⟨_, rfl, zI_th kk I⟩
theorem zc_843 (I : zI J z v c e v3 c3 e3 h vs cs es q k f m r1 r4 r5 r6 r7 n) (hJ : J + 5000 < 9000000) (hp : p + 3 < L) (hL : L ≤ 2048) : ∃ u, f_law_843 n L xs z v c e v2 c2 e2 v3 c3 e3 h t vs cs es q t2 ws k f m r1 r2 r3 r4 r5 r6 r7 r8 lo dd (Int32.ofNat p) = some u ∧ zIu (J + 4000) u := by
  obtain ⟨i1, i2, i3, i5, i6, i7⟩ := id I
  have e1 : Int32.ofNat p + 1 = Int32.ofNat (p + 1) := zt_succ p
  have e2 : Int32.ofNat p + 2 = Int32.ofNat (p + 2) := zt_add p 2
  have e3 : Int32.ofNat p + 3 = Int32.ofNat (p + 3) := zt_add p 3
  have y1 : (Int32.ofNat (p + 1)).toNatClampNeg = p + 1 := zt_cl (by omega)
  have y2 : (Int32.ofNat (p + 2)).toNatClampNeg = p + 2 := zt_cl (by omega)
  have y3 : (Int32.ofNat (p + 3)).toNatClampNeg = p + 3 := zt_cl (by omega)
  have x1 : ¬ (Int32.ofNat (p + 1) < 0 ∨ L ≤ p + 1) := fun q => zt_in (show p + 1 < L by omega) (by omega) (by rw [y1]; exact q)
  have x2 : ¬ (Int32.ofNat (p + 2) < 0 ∨ L ≤ p + 2) := fun q => zt_in (show p + 2 < L by omega) (by omega) (by rw [y2]; exact q)
  have x3 : ¬ (Int32.ofNat (p + 3) < 0 ∨ L ≤ p + 3) := fun q => zt_in (show p + 3 < L by omega) (by omega) (by rw [y3]; exact q)
  obtain ⟨nn, kk0, T, hT, s1, s2⟩ := i1
  obtain ⟨kk, b, lo', g1, g2, g3⟩ := zq_wax (m := m) (z := z) (lo := lo) (xs (p + 1)) s1
  unfold f_law_843
  simp only [e1, y1, if_neg x1, g1, g2, Option.bind_some, f_X10_thrown]
  rw [zt_fin (show (zTh m kk).2.1 = kk from rfl) g3]
  exact ⟨_, rfl, zI_th kk I⟩
theorem zc_899 (I : zI J z v c e v3 c3 e3 h vs cs es q k f m r1 r4 r5 r6 r7 n) (hJ : J + 5000 < 9000000) (hp : p + 3 < L) (hL : L ≤ 2048) : ∃ u, f_law_899 n L xs z v c e v2 c2 e2 v3 c3 e3 h t vs cs es q t2 ws k f m r1 r2 r3 r4 r5 r6 r7 r8 lo dd (Int32.ofNat p) = some u ∧ zIu (J + 4000) u := by
  obtain ⟨i1, i2, i3, i5, i6, i7⟩ := id I
  have e1 : Int32.ofNat p + 1 = Int32.ofNat (p + 1) := zt_succ p
  have e2 : Int32.ofNat p + 2 = Int32.ofNat (p + 2) := zt_add p 2
  have e3 : Int32.ofNat p + 3 = Int32.ofNat (p + 3) := zt_add p 3
  have y1 : (Int32.ofNat (p + 1)).toNatClampNeg = p + 1 := zt_cl (by omega)
  have y2 : (Int32.ofNat (p + 2)).toNatClampNeg = p + 2 := zt_cl (by omega)
  have y3 : (Int32.ofNat (p + 3)).toNatClampNeg = p + 3 := zt_cl (by omega)
  have x1 : ¬ (Int32.ofNat (p + 1) < 0 ∨ L ≤ p + 1) := fun q => zt_in (show p + 1 < L by omega) (by omega) (by rw [y1]; exact q)
  have x2 : ¬ (Int32.ofNat (p + 2) < 0 ∨ L ≤ p + 2) := fun q => zt_in (show p + 2 < L by omega) (by omega) (by rw [y2]; exact q)
  have x3 : ¬ (Int32.ofNat (p + 3) < 0 ∨ L ≤ p + 3) := fun q => zt_in (show p + 3 < L by omega) (by omega) (by rw [y3]; exact q)
  obtain ⟨nn, kk0, T, hT, s1, s2⟩ := i1
  obtain ⟨kk, b, lo', g1, g2, g3⟩ := zq_consumption (m := m) (z := z) (lo := lo) (xs (p + 1)) s1
  unfold f_law_899
  simp only [e1, y1, if_neg x1, g1, g2, Option.bind_some, f_X10_thrown]
  rw [zt_fin (show (zTh m kk).2.1 = kk from rfl) g3]
  exact ⟨_, rfl, zI_th kk I⟩
theorem zc_1089 (I : zI J z v c e v3 c3 e3 h vs cs es q k f m r1 r4 r5 r6 r7 n) (hJ : J + 5000 < 9000000) (hp : p + 3 < L) (hL : L ≤ 2048) : ∃ u, f_law_1089 n L xs z v c e v2 c2 e2 v3 c3 e3 h t vs cs es q t2 ws k f m r1 r2 r3 r4 r5 r6 r7 r8 lo dd (Int32.ofNat p) = some u ∧ zIu (J + 4000) u := by
  obtain ⟨i1, i2, i3, i5, i6, i7⟩ := id I
  have e1 : Int32.ofNat p + 1 = Int32.ofNat (p + 1) := zt_succ p
  have e2 : Int32.ofNat p + 2 = Int32.ofNat (p + 2) := zt_add p 2
  have e3 : Int32.ofNat p + 3 = Int32.ofNat (p + 3) := zt_add p 3
  have y1 : (Int32.ofNat (p + 1)).toNatClampNeg = p + 1 := zt_cl (by omega)
  have y2 : (Int32.ofNat (p + 2)).toNatClampNeg = p + 2 := zt_cl (by omega)
  have y3 : (Int32.ofNat (p + 3)).toNatClampNeg = p + 3 := zt_cl (by omega)
  have x1 : ¬ (Int32.ofNat (p + 1) < 0 ∨ L ≤ p + 1) := fun q => zt_in (show p + 1 < L by omega) (by omega) (by rw [y1]; exact q)
  have x2 : ¬ (Int32.ofNat (p + 2) < 0 ∨ L ≤ p + 2) := fun q => zt_in (show p + 2 < L by omega) (by omega) (by rw [y2]; exact q)
  have x3 : ¬ (Int32.ofNat (p + 3) < 0 ∨ L ≤ p + 3) := fun q => zt_in (show p + 3 < L by omega) (by omega) (by rw [y3]; exact q)
  obtain ⟨nn, kk0, T, hT, s1, s2⟩ := i1
  obtain ⟨kk, b, lo', g1, g2, g3⟩ := zq_minutesLeft (m := m) (z := z) (lo := lo) (xs (p + 1)) s1
  unfold f_law_1089
  simp only [e1, y1, if_neg x1, g1, g2, Option.bind_some, f_X10_thrown]
  rw [zt_fin (show (zTh m kk).2.1 = kk from rfl) g3]
  exact ⟨_, rfl, zI_th kk I⟩
theorem zc_1145 (I : zI J z v c e v3 c3 e3 h vs cs es q k f m r1 r4 r5 r6 r7 n) (hJ : J + 5000 < 9000000) (hp : p + 3 < L) (hL : L ≤ 2048) : ∃ u, f_law_1145 n L xs z v c e v2 c2 e2 v3 c3 e3 h t vs cs es q t2 ws k f m r1 r2 r3 r4 r5 r6 r7 r8 lo dd (Int32.ofNat p) = some u ∧ zIu (J + 4000) u := by
  obtain ⟨i1, i2, i3, i5, i6, i7⟩ := id I
  have e1 : Int32.ofNat p + 1 = Int32.ofNat (p + 1) := zt_succ p
  have e2 : Int32.ofNat p + 2 = Int32.ofNat (p + 2) := zt_add p 2
  have e3 : Int32.ofNat p + 3 = Int32.ofNat (p + 3) := zt_add p 3
  have y1 : (Int32.ofNat (p + 1)).toNatClampNeg = p + 1 := zt_cl (by omega)
  have y2 : (Int32.ofNat (p + 2)).toNatClampNeg = p + 2 := zt_cl (by omega)
  have y3 : (Int32.ofNat (p + 3)).toNatClampNeg = p + 3 := zt_cl (by omega)
  have x1 : ¬ (Int32.ofNat (p + 1) < 0 ∨ L ≤ p + 1) := fun q => zt_in (show p + 1 < L by omega) (by omega) (by rw [y1]; exact q)
  have x2 : ¬ (Int32.ofNat (p + 2) < 0 ∨ L ≤ p + 2) := fun q => zt_in (show p + 2 < L by omega) (by omega) (by rw [y2]; exact q)
  have x3 : ¬ (Int32.ofNat (p + 3) < 0 ∨ L ≤ p + 3) := fun q => zt_in (show p + 3 < L by omega) (by omega) (by rw [y3]; exact q)
  obtain ⟨nn, kk0, T, hT, s1, s2⟩ := i1
  obtain ⟨kk, b, lo', g1, g2, g3⟩ := zq_minutesLeftByBurning (m := m) (z := z) (lo := lo) (xs (p + 1)) s1
  unfold f_law_1145
  simp only [e1, y1, if_neg x1, g1, g2, Option.bind_some, f_X10_thrown]
  rw [zt_fin (show (zTh m kk).2.1 = kk from rfl) g3]
  exact ⟨_, rfl, zI_th kk I⟩
theorem zc_1201 (I : zI J z v c e v3 c3 e3 h vs cs es q k f m r1 r4 r5 r6 r7 n) (hJ : J + 5000 < 9000000) (hp : p + 3 < L) (hL : L ≤ 2048) : ∃ u, f_law_1201 n L xs z v c e v2 c2 e2 v3 c3 e3 h t vs cs es q t2 ws k f m r1 r2 r3 r4 r5 r6 r7 r8 lo dd (Int32.ofNat p) = some u ∧ zIu (J + 4000) u := by
  obtain ⟨i1, i2, i3, i5, i6, i7⟩ := id I
  have e1 : Int32.ofNat p + 1 = Int32.ofNat (p + 1) := zt_succ p
  have e2 : Int32.ofNat p + 2 = Int32.ofNat (p + 2) := zt_add p 2
  have e3 : Int32.ofNat p + 3 = Int32.ofNat (p + 3) := zt_add p 3
  have y1 : (Int32.ofNat (p + 1)).toNatClampNeg = p + 1 := zt_cl (by omega)
  have y2 : (Int32.ofNat (p + 2)).toNatClampNeg = p + 2 := zt_cl (by omega)
  have y3 : (Int32.ofNat (p + 3)).toNatClampNeg = p + 3 := zt_cl (by omega)
  have x1 : ¬ (Int32.ofNat (p + 1) < 0 ∨ L ≤ p + 1) := fun q => zt_in (show p + 1 < L by omega) (by omega) (by rw [y1]; exact q)
  have x2 : ¬ (Int32.ofNat (p + 2) < 0 ∨ L ≤ p + 2) := fun q => zt_in (show p + 2 < L by omega) (by omega) (by rw [y2]; exact q)
  have x3 : ¬ (Int32.ofNat (p + 3) < 0 ∨ L ≤ p + 3) := fun q => zt_in (show p + 3 < L by omega) (by omega) (by rw [y3]; exact q)
  obtain ⟨nn, kk0, T, hT, s1, s2⟩ := i1
  obtain ⟨kk, b, lo', g1, g2, g3⟩ := zq_candleByWax (m := m) (z := z) (lo := lo) (xs (p + 1)) s1
  unfold f_law_1201
  simp only [e1, y1, if_neg x1, g1, g2, Option.bind_some, f_X10_thrown]
  rw [zt_fin (show (zTh m kk).2.1 = kk from rfl) g3]
  exact ⟨_, rfl, zI_th kk I⟩
theorem zc_1270 (I : zI J z v c e v3 c3 e3 h vs cs es q k f m r1 r4 r5 r6 r7 n) (hJ : J + 5000 < 9000000) (hp : p + 3 < L) (hL : L ≤ 2048) : ∃ u, f_law_1270 n L xs z v c e v2 c2 e2 v3 c3 e3 h t vs cs es q t2 ws k f m r1 r2 r3 r4 r5 r6 r7 r8 lo dd (Int32.ofNat p) = some u ∧ zIu (J + 4000) u := by
  obtain ⟨i1, i2, i3, i5, i6, i7⟩ := id I
  have e1 : Int32.ofNat p + 1 = Int32.ofNat (p + 1) := zt_succ p
  have e2 : Int32.ofNat p + 2 = Int32.ofNat (p + 2) := zt_add p 2
  have e3 : Int32.ofNat p + 3 = Int32.ofNat (p + 3) := zt_add p 3
  have y1 : (Int32.ofNat (p + 1)).toNatClampNeg = p + 1 := zt_cl (by omega)
  have y2 : (Int32.ofNat (p + 2)).toNatClampNeg = p + 2 := zt_cl (by omega)
  have y3 : (Int32.ofNat (p + 3)).toNatClampNeg = p + 3 := zt_cl (by omega)
  have x1 : ¬ (Int32.ofNat (p + 1) < 0 ∨ L ≤ p + 1) := fun q => zt_in (show p + 1 < L by omega) (by omega) (by rw [y1]; exact q)
  have x2 : ¬ (Int32.ofNat (p + 2) < 0 ∨ L ≤ p + 2) := fun q => zt_in (show p + 2 < L by omega) (by omega) (by rw [y2]; exact q)
  have x3 : ¬ (Int32.ofNat (p + 3) < 0 ∨ L ≤ p + 3) := fun q => zt_in (show p + 3 < L by omega) (by omega) (by rw [y3]; exact q)
  obtain ⟨nn, kk0, T, hT, s1, s2⟩ := i1
  obtain ⟨kk, b, lo', g1, g2, g3⟩ := zq_eventMinute (m := m) (z := z) (lo := lo) (xs (p + 1)) s1
  unfold f_law_1270
  simp only [e1, y1, if_neg x1, g1, g2, Option.bind_some, f_X10_thrown]
  rw [zt_fin (show (zTh m kk).2.1 = kk from rfl) g3]
  exact ⟨_, rfl, zI_th kk I⟩
theorem zc_1326 (I : zI J z v c e v3 c3 e3 h vs cs es q k f m r1 r4 r5 r6 r7 n) (hJ : J + 5000 < 9000000) (hp : p + 3 < L) (hL : L ≤ 2048) : ∃ u, f_law_1326 n L xs z v c e v2 c2 e2 v3 c3 e3 h t vs cs es q t2 ws k f m r1 r2 r3 r4 r5 r6 r7 r8 lo dd (Int32.ofNat p) = some u ∧ zIu (J + 4000) u := by
  obtain ⟨i1, i2, i3, i5, i6, i7⟩ := id I
  have e1 : Int32.ofNat p + 1 = Int32.ofNat (p + 1) := zt_succ p
  have e2 : Int32.ofNat p + 2 = Int32.ofNat (p + 2) := zt_add p 2
  have e3 : Int32.ofNat p + 3 = Int32.ofNat (p + 3) := zt_add p 3
  have y1 : (Int32.ofNat (p + 1)).toNatClampNeg = p + 1 := zt_cl (by omega)
  have y2 : (Int32.ofNat (p + 2)).toNatClampNeg = p + 2 := zt_cl (by omega)
  have y3 : (Int32.ofNat (p + 3)).toNatClampNeg = p + 3 := zt_cl (by omega)
  have x1 : ¬ (Int32.ofNat (p + 1) < 0 ∨ L ≤ p + 1) := fun q => zt_in (show p + 1 < L by omega) (by omega) (by rw [y1]; exact q)
  have x2 : ¬ (Int32.ofNat (p + 2) < 0 ∨ L ≤ p + 2) := fun q => zt_in (show p + 2 < L by omega) (by omega) (by rw [y2]; exact q)
  have x3 : ¬ (Int32.ofNat (p + 3) < 0 ∨ L ≤ p + 3) := fun q => zt_in (show p + 3 < L by omega) (by omega) (by rw [y3]; exact q)
  obtain ⟨nn, kk0, T, hT, s1, s2⟩ := i1
  obtain ⟨kk, b, lo', g1, g2, g3⟩ := zq_eventCandle (m := m) (z := z) (lo := lo) (xs (p + 1)) s1
  unfold f_law_1326
  simp only [e1, y1, if_neg x1, g1, g2, Option.bind_some, f_X10_thrown]
  rw [zt_fin (show (zTh m kk).2.1 = kk from rfl) g3]
  exact ⟨_, rfl, zI_th kk I⟩
theorem zc_1031 (I : zI J z v c e v3 c3 e3 h vs cs es q k f m r1 r4 r5 r6 r7 n) (hJ : J + 5000 < 9000000) (hp : p + 3 < L) (hL : L ≤ 2048) : ∃ u, f_law_1031 n L xs z v c e v2 c2 e2 v3 c3 e3 h t vs cs es q t2 ws k f m r1 r2 r3 r4 r5 r6 r7 r8 lo dd (Int32.ofNat p) = some u ∧ zIu (J + 4000) u := by
  obtain ⟨i1, i2, i3, i5, i6, i7⟩ := id I
  have e1 : Int32.ofNat p + 1 = Int32.ofNat (p + 1) := zt_succ p
  have e2 : Int32.ofNat p + 2 = Int32.ofNat (p + 2) := zt_add p 2
  have e3 : Int32.ofNat p + 3 = Int32.ofNat (p + 3) := zt_add p 3
  have y1 : (Int32.ofNat (p + 1)).toNatClampNeg = p + 1 := zt_cl (by omega)
  have y2 : (Int32.ofNat (p + 2)).toNatClampNeg = p + 2 := zt_cl (by omega)
  have y3 : (Int32.ofNat (p + 3)).toNatClampNeg = p + 3 := zt_cl (by omega)
  have x1 : ¬ (Int32.ofNat (p + 1) < 0 ∨ L ≤ p + 1) := fun q => zt_in (show p + 1 < L by omega) (by omega) (by rw [y1]; exact q)
  have x2 : ¬ (Int32.ofNat (p + 2) < 0 ∨ L ≤ p + 2) := fun q => zt_in (show p + 2 < L by omega) (by omega) (by rw [y2]; exact q)
  have x3 : ¬ (Int32.ofNat (p + 3) < 0 ∨ L ≤ p + 3) := fun q => zt_in (show p + 3 < L by omega) (by omega) (by rw [y3]; exact q)
  obtain ⟨nn, kk0, T, hT, s1, s2⟩ := i1
  obtain ⟨kk, b, lo', g1, g2, g3⟩ := zq_sounding (m := m) (z := z) (lo := lo) ((xs (p + 1)).toUInt32 % 65536).toInt32 s1
  unfold f_law_1031
  simp only [e1, y1, if_neg x1, g1, g2, Option.bind_some, f_X10_thrown]
  rw [zt_fin (show (zTh m kk).2.1 = kk from rfl) g3]
  exact ⟨_, rfl, zI_th kk I⟩
theorem zc_1909 (I : zI J z v c e v3 c3 e3 h vs cs es q k f m r1 r4 r5 r6 r7 n) (hJ : J + 5000 < 9000000) (hp : p + 3 < L) (hL : L ≤ 2048) : ∃ u, f_law_1909 n L xs z v c e v2 c2 e2 v3 c3 e3 h t vs cs es q t2 ws k f m r1 r2 r3 r4 r5 r6 r7 r8 lo dd (Int32.ofNat p) = some u ∧ zIu (J + 4000) u := by
  obtain ⟨i1, i2, i3, i5, i6, i7⟩ := id I
  have e1 : Int32.ofNat p + 1 = Int32.ofNat (p + 1) := zt_succ p
  have e2 : Int32.ofNat p + 2 = Int32.ofNat (p + 2) := zt_add p 2
  have e3 : Int32.ofNat p + 3 = Int32.ofNat (p + 3) := zt_add p 3
  have y1 : (Int32.ofNat (p + 1)).toNatClampNeg = p + 1 := zt_cl (by omega)
  have y2 : (Int32.ofNat (p + 2)).toNatClampNeg = p + 2 := zt_cl (by omega)
  have y3 : (Int32.ofNat (p + 3)).toNatClampNeg = p + 3 := zt_cl (by omega)
  have x1 : ¬ (Int32.ofNat (p + 1) < 0 ∨ L ≤ p + 1) := fun q => zt_in (show p + 1 < L by omega) (by omega) (by rw [y1]; exact q)
  have x2 : ¬ (Int32.ofNat (p + 2) < 0 ∨ L ≤ p + 2) := fun q => zt_in (show p + 2 < L by omega) (by omega) (by rw [y2]; exact q)
  have x3 : ¬ (Int32.ofNat (p + 3) < 0 ∨ L ≤ p + 3) := fun q => zt_in (show p + 3 < L by omega) (by omega) (by rw [y3]; exact q)
  obtain ⟨cc, i7⟩ := i7
  obtain ⟨kk, b, lo', g1, g2, g3⟩ := zq_charAt (z := z) (lo := lo) (xs (p + 1)) i7
  unfold f_law_1909
  simp only [e1, y1, if_neg x1, g1, g2, Option.bind_some, f_X10_thrown]
  rw [zt_fin (show (zTh m kk).2.1 = kk from rfl) g3]
  exact ⟨_, rfl, zI_th kk I⟩
theorem zc_955 (I : zI J z v c e v3 c3 e3 h vs cs es q k f m r1 r4 r5 r6 r7 n) (hJ : J + 5000 < 9000000) (hp : p + 3 < L) (hL : L ≤ 2048) : ∃ u, f_law_955 n L xs z v c e v2 c2 e2 v3 c3 e3 h t vs cs es q t2 ws k f m r1 r2 r3 r4 r5 r6 r7 r8 lo dd (Int32.ofNat p) = some u ∧ zIu (J + 4000) u := by
  obtain ⟨i1, i2, i3, i5, i6, i7⟩ := id I
  have e1 : Int32.ofNat p + 1 = Int32.ofNat (p + 1) := zt_succ p
  have e2 : Int32.ofNat p + 2 = Int32.ofNat (p + 2) := zt_add p 2
  have e3 : Int32.ofNat p + 3 = Int32.ofNat (p + 3) := zt_add p 3
  have y1 : (Int32.ofNat (p + 1)).toNatClampNeg = p + 1 := zt_cl (by omega)
  have y2 : (Int32.ofNat (p + 2)).toNatClampNeg = p + 2 := zt_cl (by omega)
  have y3 : (Int32.ofNat (p + 3)).toNatClampNeg = p + 3 := zt_cl (by omega)
  have x1 : ¬ (Int32.ofNat (p + 1) < 0 ∨ L ≤ p + 1) := fun q => zt_in (show p + 1 < L by omega) (by omega) (by rw [y1]; exact q)
  have x2 : ¬ (Int32.ofNat (p + 2) < 0 ∨ L ≤ p + 2) := fun q => zt_in (show p + 2 < L by omega) (by omega) (by rw [y2]; exact q)
  have x3 : ¬ (Int32.ofNat (p + 3) < 0 ∨ L ≤ p + 3) := fun q => zt_in (show p + 3 < L by omega) (by omega) (by rw [y3]; exact q)
  obtain ⟨nn, kk0, T, hT, s1, s2⟩ := i1
  obtain ⟨kk, b, lo', g1, g2, g3, g4⟩ := zqb_isLit (m := m) (z := z) (lo := lo) (xs (p + 1)) s1
  unfold f_law_955
  simp only [e1, y1, if_neg x1, g1, g2, Option.bind_some, f_X10_thrown]
  rw [if_pos (show (zTh m kk).2.1 = kk from rfl)]
  by_cases hk : kk = 0
  · rw [if_pos hk, if_neg (by decide), zt_n0, g3 hk]
    rcases g4 with rfl | rfl
    · rw [if_pos rfl, if_pos (show lg_cmp (0 : Int32).toInt64 0 = 0 by decide)]
      exact ⟨_, rfl, zI_th kk I⟩
    · rw [if_neg zt_10, if_pos (show lg_cmp (1 : Int32).toInt64 1 = 0 by decide)]
      exact ⟨_, rfl, zI_th kk I⟩
  · rw [if_neg hk]
    exact ⟨_, rfl, zI_th kk I⟩
theorem zc_1382 (I : zI J z v c e v3 c3 e3 h vs cs es q k f m r1 r4 r5 r6 r7 n) (hJ : J + 5000 < 9000000) (hp : p + 3 < L) (hL : L ≤ 2048) : ∃ u, f_law_1382 n L xs z v c e v2 c2 e2 v3 c3 e3 h t vs cs es q t2 ws k f m r1 r2 r3 r4 r5 r6 r7 r8 lo dd (Int32.ofNat p) = some u ∧ zIu (J + 4000) u := by
  obtain ⟨i1, i2, i3, i5, i6, i7⟩ := id I
  have e1 : Int32.ofNat p + 1 = Int32.ofNat (p + 1) := zt_succ p
  have e2 : Int32.ofNat p + 2 = Int32.ofNat (p + 2) := zt_add p 2
  have e3 : Int32.ofNat p + 3 = Int32.ofNat (p + 3) := zt_add p 3
  have y1 : (Int32.ofNat (p + 1)).toNatClampNeg = p + 1 := zt_cl (by omega)
  have y2 : (Int32.ofNat (p + 2)).toNatClampNeg = p + 2 := zt_cl (by omega)
  have y3 : (Int32.ofNat (p + 3)).toNatClampNeg = p + 3 := zt_cl (by omega)
  have x1 : ¬ (Int32.ofNat (p + 1) < 0 ∨ L ≤ p + 1) := fun q => zt_in (show p + 1 < L by omega) (by omega) (by rw [y1]; exact q)
  have x2 : ¬ (Int32.ofNat (p + 2) < 0 ∨ L ≤ p + 2) := fun q => zt_in (show p + 2 < L by omega) (by omega) (by rw [y2]; exact q)
  have x3 : ¬ (Int32.ofNat (p + 3) < 0 ∨ L ≤ p + 3) := fun q => zt_in (show p + 3 < L by omega) (by omega) (by rw [y3]; exact q)
  obtain ⟨nn, kk0, T, hT, s1, s2⟩ := i1
  obtain ⟨kk, b, lo', g1, g2, g3, g4⟩ := zqb_isLighting (m := m) (z := z) (lo := lo) (xs (p + 1)) s1
  unfold f_law_1382
  simp only [e1, y1, if_neg x1, g1, g2, Option.bind_some, f_X10_thrown]
  rw [if_pos (show (zTh m kk).2.1 = kk from rfl)]
  by_cases hk : kk = 0
  · rw [if_pos hk, if_neg (by decide), zt_n0, g3 hk]
    rcases g4 with rfl | rfl
    · rw [if_pos rfl, if_pos (show lg_cmp (0 : Int32).toInt64 0 = 0 by decide)]
      exact ⟨_, rfl, zI_th kk I⟩
    · rw [if_neg zt_10, if_pos (show lg_cmp (1 : Int32).toInt64 1 = 0 by decide)]
      exact ⟨_, rfl, zI_th kk I⟩
  · rw [if_neg hk]
    exact ⟨_, rfl, zI_th kk I⟩
theorem zc_1458 (I : zI J z v c e v3 c3 e3 h vs cs es q k f m r1 r4 r5 r6 r7 n) (hJ : J + 5000 < 9000000) (hp : p + 3 < L) (hL : L ≤ 2048) : ∃ u, f_law_1458 n L xs z v c e v2 c2 e2 v3 c3 e3 h t vs cs es q t2 ws k f m r1 r2 r3 r4 r5 r6 r7 r8 lo dd (Int32.ofNat p) = some u ∧ zIu (J + 4000) u := by
  obtain ⟨i1, i2, i3, i5, i6, i7⟩ := id I
  obtain ⟨nn, kk0, T, hT, s1, s2⟩ := i1
  obtain ⟨kk, b, lo', g1, g2, g3⟩ := zq_failureReason (m := m) (z := z) (lo := lo) s1
  unfold f_law_1458
  simp only [g1, g2, Option.bind_some, f_X10_thrown]
  rw [zt_fin (show (zTh m kk).2.1 = kk from rfl) g3]
  exact ⟨_, rfl, zI_th kk I⟩
theorem zc_1567 (I : zI J z v c e v3 c3 e3 h vs cs es q k f m r1 r4 r5 r6 r7 n) (hJ : J + 5000 < 9000000) (hp : p + 3 < L) (hL : L ≤ 2048) : ∃ u, f_law_1567 n L xs z v c e v2 c2 e2 v3 c3 e3 h t vs cs es q t2 ws k f m r1 r2 r3 r4 r5 r6 r7 r8 lo dd (Int32.ofNat p) = some u ∧ zIu (J + 4000) u := by
  obtain ⟨i1, i2, i3, i5, i6, i7⟩ := id I
  obtain ⟨nn, kk0, T, hT, s1, s2⟩ := i1
  obtain ⟨kk, b, lo', g1, g2, g3⟩ := zq_lastCandle (m := m) (z := z) (lo := lo) s1
  unfold f_law_1567
  simp only [g1, g2, Option.bind_some, f_X10_thrown]
  rw [zt_fin (show (zTh m kk).2.1 = kk from rfl) g3]
  exact ⟨_, rfl, zI_th kk I⟩
theorem zc_1611 (I : zI J z v c e v3 c3 e3 h vs cs es q k f m r1 r4 r5 r6 r7 n) (hJ : J + 5000 < 9000000) (hp : p + 3 < L) (hL : L ≤ 2048) : ∃ u, f_law_1611 n L xs z v c e v2 c2 e2 v3 c3 e3 h t vs cs es q t2 ws k f m r1 r2 r3 r4 r5 r6 r7 r8 lo dd (Int32.ofNat p) = some u ∧ zIu (J + 4000) u := by
  obtain ⟨i1, i2, i3, i5, i6, i7⟩ := id I
  obtain ⟨nn, kk0, T, hT, s1, s2⟩ := i1
  obtain ⟨kk, b, lo', g1, g2, g3⟩ := zq_loudestVoice (m := m) (z := z) (lo := lo) s1
  unfold f_law_1611
  simp only [g1, g2, Option.bind_some, f_X10_thrown]
  rw [zt_fin (show (zTh m kk).2.1 = kk from rfl) g3]
  exact ⟨_, rfl, zI_th kk I⟩
theorem zc_2067 (I : zI J z v c e v3 c3 e3 h vs cs es q k f m r1 r4 r5 r6 r7 n) (hJ : J + 5000 < 9000000) (hp : p + 3 < L) (hL : L ≤ 2048) : ∃ u, f_law_2067 n L xs z v c e v2 c2 e2 v3 c3 e3 h t vs cs es q t2 ws k f m r1 r2 r3 r4 r5 r6 r7 r8 lo dd (Int32.ofNat p) = some u ∧ zIu (J + 4000) u := by
  obtain ⟨i1, i2, i3, i5, i6, i7⟩ := id I
  obtain ⟨kk, b, lo', g1, g2, g3⟩ := zq_errorPosition (lo := lo) i5
  unfold f_law_2067
  simp only [g1, g2, Option.bind_some, f_X10_thrown]
  rw [zt_fin (show (zTh m kk).2.1 = kk from rfl) g3]
  exact ⟨_, rfl, zI_th kk I⟩
theorem zc_2111 (I : zI J z v c e v3 c3 e3 h vs cs es q k f m r1 r4 r5 r6 r7 n) (hJ : J + 5000 < 9000000) (hp : p + 3 < L) (hL : L ≤ 2048) : ∃ u, f_law_2111 n L xs z v c e v2 c2 e2 v3 c3 e3 h t vs cs es q t2 ws k f m r1 r2 r3 r4 r5 r6 r7 r8 lo dd (Int32.ofNat p) = some u ∧ zIu (J + 4000) u := by
  obtain ⟨i1, i2, i3, i5, i6, i7⟩ := id I
  obtain ⟨kk, b, lo', g1, g2, g3⟩ := zq_failedCommand (lo := lo) i5
  unfold f_law_2111
  simp only [g1, g2, Option.bind_some, f_X10_thrown]
  rw [zt_fin (show (zTh m kk).2.1 = kk from rfl) g3]
  exact ⟨_, rfl, zI_th kk I⟩
theorem zc_774 (I : zI J z v c e v3 c3 e3 h vs cs es q k f m r1 r4 r5 r6 r7 n) (hJ : J + 5000 < 9000000) (hp : p + 3 < L) (hL : L ≤ 2048) : ∃ u, f_law_774 n L xs z v c e v2 c2 e2 v3 c3 e3 h t vs cs es q t2 ws k f m r1 r2 r3 r4 r5 r6 r7 r8 lo dd (Int32.ofNat p) = some u ∧ zIu (J + 4000) u := by
  obtain ⟨i1, i2, i3, i5, i6, i7⟩ := id I
  obtain ⟨nn, kk0, T, hT, s1, s2⟩ := i1
  obtain ⟨b, g1, g2⟩ := zq_candles (m := m) (z := z) s1
  unfold f_law_774
  simp only [g1, g2, Option.bind_some, if_true]
  exact ⟨_, rfl, zI_th 0 I⟩
theorem zc_1018 (I : zI J z v c e v3 c3 e3 h vs cs es q k f m r1 r4 r5 r6 r7 n) (hJ : J + 5000 < 9000000) (hp : p + 3 < L) (hL : L ≤ 2048) : ∃ u, f_law_1018 n L xs z v c e v2 c2 e2 v3 c3 e3 h t vs cs es q t2 ws k f m r1 r2 r3 r4 r5 r6 r7 r8 lo dd (Int32.ofNat p) = some u ∧ zIu (J + 4000) u := by
  obtain ⟨i1, i2, i3, i5, i6, i7⟩ := id I
  obtain ⟨nn, kk0, T, hT, s1, s2⟩ := i1
  obtain ⟨b, g1, g2⟩ := zq_litCandles (m := m) (z := z) s1
  unfold f_law_1018
  simp only [g1, g2, Option.bind_some, if_true]
  exact ⟨_, rfl, zI_th 0 I⟩
theorem zc_1257 (I : zI J z v c e v3 c3 e3 h vs cs es q k f m r1 r4 r5 r6 r7 n) (hJ : J + 5000 < 9000000) (hp : p + 3 < L) (hL : L ≤ 2048) : ∃ u, f_law_1257 n L xs z v c e v2 c2 e2 v3 c3 e3 h t vs cs es q t2 ws k f m r1 r2 r3 r4 r5 r6 r7 r8 lo dd (Int32.ofNat p) = some u ∧ zIu (J + 4000) u := by
  obtain ⟨i1, i2, i3, i5, i6, i7⟩ := id I
  obtain ⟨nn, kk0, T, hT, s1, s2⟩ := i1
  obtain ⟨b, g1, g2⟩ := zq_events (m := m) (z := z) s1
  unfold f_law_1257
  simp only [g1, g2, Option.bind_some, if_true]
  exact ⟨_, rfl, zI_th 0 I⟩
theorem zc_1445 (I : zI J z v c e v3 c3 e3 h vs cs es q k f m r1 r4 r5 r6 r7 n) (hJ : J + 5000 < 9000000) (hp : p + 3 < L) (hL : L ≤ 2048) : ∃ u, f_law_1445 n L xs z v c e v2 c2 e2 v3 c3 e3 h t vs cs es q t2 ws k f m r1 r2 r3 r4 r5 r6 r7 r8 lo dd (Int32.ofNat p) = some u ∧ zIu (J + 4000) u := by
  obtain ⟨i1, i2, i3, i5, i6, i7⟩ := id I
  obtain ⟨nn, kk0, T, hT, s1, s2⟩ := i1
  obtain ⟨b, g1, g2⟩ := zq_failedEvents (m := m) (z := z) s1
  unfold f_law_1445
  simp only [g1, g2, Option.bind_some, if_true]
  exact ⟨_, rfl, zI_th 0 I⟩
theorem zc_1502 (I : zI J z v c e v3 c3 e3 h vs cs es q k f m r1 r4 r5 r6 r7 n) (hJ : J + 5000 < 9000000) (hp : p + 3 < L) (hL : L ≤ 2048) : ∃ u, f_law_1502 n L xs z v c e v2 c2 e2 v3 c3 e3 h t vs cs es q t2 ws k f m r1 r2 r3 r4 r5 r6 r7 r8 lo dd (Int32.ofNat p) = some u ∧ zIu (J + 4000) u := by
  obtain ⟨i1, i2, i3, i5, i6, i7⟩ := id I
  obtain ⟨nn, kk0, T, hT, s1, s2⟩ := i1
  obtain ⟨b, g1, g2⟩ := zq_time (m := m) (z := z) s1
  unfold f_law_1502
  simp only [g1, g2, Option.bind_some, if_true]
  exact ⟨_, rfl, zI_th 0 I⟩
theorem zc_1515 (I : zI J z v c e v3 c3 e3 h vs cs es q k f m r1 r4 r5 r6 r7 n) (hJ : J + 5000 < 9000000) (hp : p + 3 < L) (hL : L ≤ 2048) : ∃ u, f_law_1515 n L xs z v c e v2 c2 e2 v3 c3 e3 h t vs cs es q t2 ws k f m r1 r2 r3 r4 r5 r6 r7 r8 lo dd (Int32.ofNat p) = some u ∧ zIu (J + 4000) u := by
  obtain ⟨i1, i2, i3, i5, i6, i7⟩ := id I
  obtain ⟨nn, kk0, T, hT, s1, s2⟩ := i1
  obtain ⟨b, g1, g2⟩ := zq_draught (m := m) (z := z) s1
  unfold f_law_1515
  simp only [g1, g2, Option.bind_some, if_true]
  exact ⟨_, rfl, zI_th 0 I⟩
theorem zc_1528 (I : zI J z v c e v3 c3 e3 h vs cs es q k f m r1 r4 r5 r6 r7 n) (hJ : J + 5000 < 9000000) (hp : p + 3 < L) (hL : L ≤ 2048) : ∃ u, f_law_1528 n L xs z v c e v2 c2 e2 v3 c3 e3 h t vs cs es q t2 ws k f m r1 r2 r3 r4 r5 r6 r7 r8 lo dd (Int32.ofNat p) = some u ∧ zIu (J + 4000) u := by
  obtain ⟨i1, i2, i3, i5, i6, i7⟩ := id I
  obtain ⟨nn, kk0, T, hT, s1, s2⟩ := i1
  obtain ⟨b, g1, g2⟩ := zq_dish (m := m) (z := z) s1
  unfold f_law_1528
  simp only [g1, g2, Option.bind_some, if_true]
  exact ⟨_, rfl, zI_th 0 I⟩
theorem zc_1683 (I : zI J z v c e v3 c3 e3 h vs cs es q k f m r1 r4 r5 r6 r7 n) (hJ : J + 5000 < 9000000) (hp : p + 3 < L) (hL : L ≤ 2048) : ∃ u, f_law_1683 n L xs z v c e v2 c2 e2 v3 c3 e3 h t vs cs es q t2 ws k f m r1 r2 r3 r4 r5 r6 r7 r8 lo dd (Int32.ofNat p) = some u ∧ zIu (J + 4000) u := by
  obtain ⟨i1, i2, i3, i5, i6, i7⟩ := id I
  obtain ⟨nn, kk0, T, hT, s1, s2⟩ := i1
  obtain ⟨b, g1, g2⟩ := zq_burnt (m := m) (z := z) s1
  unfold f_law_1683
  simp only [g1, g2, Option.bind_some, if_true]
  exact ⟨_, rfl, zI_th 0 I⟩
theorem zc_1655 (I : zI J z v c e v3 c3 e3 h vs cs es q k f m r1 r4 r5 r6 r7 n) (hJ : J + 5000 < 9000000) (hp : p + 3 < L) (hL : L ≤ 2048) : ∃ u, f_law_1655 n L xs z v c e v2 c2 e2 v3 c3 e3 h t vs cs es q t2 ws k f m r1 r2 r3 r4 r5 r6 r7 r8 lo dd (Int32.ofNat p) = some u ∧ zIu (J + 4000) u := by
  obtain ⟨i1, i2, i3, i5, i6, i7⟩ := id I
  obtain ⟨nn, kk0, T, hT, s1, s2⟩ := i1
  obtain ⟨b, g1, g2⟩ := zq_addedWax (m := m) (z := z) s1
  unfold f_law_1655
  simp only [g1, g2, Option.bind_some]
  rw [if_pos (zt_cmp _)]
  exact ⟨_, rfl, zI_th 0 I⟩
theorem zc_1669 (I : zI J z v c e v3 c3 e3 h vs cs es q k f m r1 r4 r5 r6 r7 n) (hJ : J + 5000 < 9000000) (hp : p + 3 < L) (hL : L ≤ 2048) : ∃ u, f_law_1669 n L xs z v c e v2 c2 e2 v3 c3 e3 h t vs cs es q t2 ws k f m r1 r2 r3 r4 r5 r6 r7 r8 lo dd (Int32.ofNat p) = some u ∧ zIu (J + 4000) u := by
  obtain ⟨i1, i2, i3, i5, i6, i7⟩ := id I
  obtain ⟨nn, kk0, T, hT, s1, s2⟩ := i1
  obtain ⟨g1, g2⟩ := zq_byParts (m := m) (z := z) s1 s2
  unfold f_law_1669
  simp only [g1, g2, Option.bind_some]
  rw [if_pos (zt_cmp _)]
  exact ⟨_, rfl, zI_th 0 I⟩
theorem zc_1696 (I : zI J z v c e v3 c3 e3 h vs cs es q k f m r1 r4 r5 r6 r7 n) (hJ : J + 5000 < 9000000) (hp : p + 3 < L) (hL : L ≤ 2048) : ∃ u, f_law_1696 n L xs z v c e v2 c2 e2 v3 c3 e3 h t vs cs es q t2 ws k f m r1 r2 r3 r4 r5 r6 r7 r8 lo dd (Int32.ofNat p) = some u ∧ zIu (J + 4000) u := by
  obtain ⟨i1, i2, i3, i5, i6, i7⟩ := id I
  obtain ⟨nn, kk0, T, hT, s1, s2⟩ := i1
  obtain ⟨kk, b, dd', g1, g2, g3⟩ := zq_meanWax (m := m) (z := z) (dd := dd) s1
  unfold f_law_1696
  simp only [g1, g2, Option.bind_some, f_X10_thrown]
  rw [if_pos (show (zTh m kk).2.1 = kk from rfl)]
  by_cases hk : kk = 0
  · obtain ⟨g4, g5⟩ := g3 hk
    rw [if_pos hk, if_neg (show ¬ ((0 : Int32) < 0 ∨ 1 ≤ (0 : Int32).toNatClampNeg) by decide), zt_n0, g4, if_pos g5]
    exact ⟨_, rfl, zI_th kk I⟩
  · rw [if_neg hk]
    exact ⟨_, rfl, zI_th kk I⟩
theorem zc_1761 (I : zI J z v c e v3 c3 e3 h vs cs es q k f m r1 r4 r5 r6 r7 n) (hJ : J + 5000 < 9000000) (hp : p + 3 < L) (hL : L ≤ 2048) : ∃ u, f_law_1761 n L xs z v c e v2 c2 e2 v3 c3 e3 h t vs cs es q t2 ws k f m r1 r2 r3 r4 r5 r6 r7 r8 lo dd (Int32.ofNat p) = some u ∧ zIu (J + 4000) u := by
  obtain ⟨i1, i2, i3, i5, i6, i7⟩ := id I
  obtain ⟨nn, kk0, T, hT, s1, s2⟩ := i1
  obtain ⟨kk, b, dd', g1, g2, g3⟩ := zq_litShare (m := m) (z := z) (dd := dd) s1
  unfold f_law_1761
  simp only [g1, g2, Option.bind_some, f_X10_thrown]
  rw [if_pos (show (zTh m kk).2.1 = kk from rfl)]
  by_cases hk : kk = 0
  · obtain ⟨g4, g6, g5⟩ := g3 hk
    rw [if_pos hk, if_neg (show ¬ ((0 : Int32) < 0 ∨ 1 ≤ (0 : Int32).toNatClampNeg) by decide), if_pos g6, zt_n0, g4, if_pos g5]
    exact ⟨_, rfl, zI_th kk I⟩
  · rw [if_neg hk]
    exact ⟨_, rfl, zI_th kk I⟩
theorem zc_1541 (I : zI J z v c e v3 c3 e3 h vs cs es q k f m r1 r4 r5 r6 r7 n) (hJ : J + 5000 < 9000000) (hp : p + 3 < L) (hL : L ≤ 2048) : ∃ u, f_law_1541 n L xs z v c e v2 c2 e2 v3 c3 e3 h t vs cs es q t2 ws k f m r1 r2 r3 r4 r5 r6 r7 r8 lo dd (Int32.ofNat p) = some u ∧ zIu (J + 4000) u := by
  obtain ⟨i1, i2, i3, i5, i6, i7⟩ := id I
  obtain ⟨nn, kk0, T, hT, s1, s2⟩ := i1
  obtain ⟨N, v', c', e', an, s', r', g1, g2, g3, -⟩ := zo_until (z := z) m v2 c2 e2 r3 s1 (by omega)
  unfold f_law_1541
  simp only [g1, g2, Option.bind_some, if_true]
  exact ⟨_, rfl, zSt_mono (by omega) (zSt_row ⟨nn, kk0, T, hT, s1, s2⟩ g3), zH_mono (by omega) i2, ⟨i3.1, fun g => zSt_mono (by omega) (i3.2 g)⟩, i5, i6, i7⟩
theorem zc_1554 (I : zI J z v c e v3 c3 e3 h vs cs es q k f m r1 r4 r5 r6 r7 n) (hJ : J + 5000 < 9000000) (hp : p + 3 < L) (hL : L ≤ 2048) : ∃ u, f_law_1554 n L xs z v c e v2 c2 e2 v3 c3 e3 h t vs cs es q t2 ws k f m r1 r2 r3 r4 r5 r6 r7 r8 lo dd (Int32.ofNat p) = some u ∧ zIu (J + 4000) u := by
  obtain ⟨i1, i2, i3, i5, i6, i7⟩ := id I
  obtain ⟨nn, kk0, T, hT, s1, s2⟩ := i1
  obtain ⟨N, v', c', e', an, s', r', -, g2, g3, g4⟩ := zo_until (z := z) m v2 c2 e2 r3 s1 (by omega)
  obtain ⟨v', c', e', g1⟩ := g4 v2 c2 e2
  unfold f_law_1554 f_X10_minutesUntilDarkByLeaps
  simp only [g1, g2, Option.bind_some, if_true]
  exact ⟨_, rfl, zSt_mono (by omega) (zSt_row ⟨nn, kk0, T, hT, s1, s2⟩ g3), zH_mono (by omega) i2, ⟨i3.1, fun g => zSt_mono (by omega) (i3.2 g)⟩, i5, i6, i7⟩
theorem zc_1827 (I : zI J z v c e v3 c3 e3 h vs cs es q k f m r1 r4 r5 r6 r7 n) (hJ : J + 5000 < 9000000) (hp : p + 3 < L) (hL : L ≤ 2048) : ∃ u, f_law_1827 n L xs z v c e v2 c2 e2 v3 c3 e3 h t vs cs es q t2 ws k f m r1 r2 r3 r4 r5 r6 r7 r8 lo dd (Int32.ofNat p) = some u ∧ zIu (J + 4000) u := by
  obtain ⟨i1, i2, i3, i5, i6, i7⟩ := id I
  obtain ⟨nn, kk0, T, hT, s1, s2⟩ := i1
  obtain ⟨v', c', e', g1, g2⟩ := zo_cons (z := z) m v2 c2 e2 s1 (by omega) s2
  unfold f_law_1827
  simp only [g1, g2, Option.bind_some, if_true]
  exact ⟨_, rfl, zI_th 0 I⟩
theorem zc_248 (I : zI J z v c e v3 c3 e3 h vs cs es q k f m r1 r4 r5 r6 r7 n) (hJ : J + 5000 < 9000000) (hp : p + 3 < L) (hL : L ≤ 2048) : ∃ u, f_law_248 n L xs z v c e v2 c2 e2 v3 c3 e3 h t vs cs es q t2 ws k f m r1 r2 r3 r4 r5 r6 r7 r8 lo dd (Int32.ofNat p) = some u ∧ zIu (J + 4000) u := by
  obtain ⟨i1, i2, i3, i5, i6, i7⟩ := id I
  have e1 : Int32.ofNat p + 1 = Int32.ofNat (p + 1) := zt_succ p
  have e2 : Int32.ofNat p + 2 = Int32.ofNat (p + 2) := zt_add p 2
  have e3 : Int32.ofNat p + 3 = Int32.ofNat (p + 3) := zt_add p 3
  have y1 : (Int32.ofNat (p + 1)).toNatClampNeg = p + 1 := zt_cl (by omega)
  have y2 : (Int32.ofNat (p + 2)).toNatClampNeg = p + 2 := zt_cl (by omega)
  have y3 : (Int32.ofNat (p + 3)).toNatClampNeg = p + 3 := zt_cl (by omega)
  have x1 : ¬ (Int32.ofNat (p + 1) < 0 ∨ L ≤ p + 1) := fun q => zt_in (show p + 1 < L by omega) (by omega) (by rw [y1]; exact q)
  have x2 : ¬ (Int32.ofNat (p + 2) < 0 ∨ L ≤ p + 2) := fun q => zt_in (show p + 2 < L by omega) (by omega) (by rw [y2]; exact q)
  have x3 : ¬ (Int32.ofNat (p + 3) < 0 ∨ L ≤ p + 3) := fun q => zt_in (show p + 3 < L by omega) (by omega) (by rw [y3]; exact q)
  obtain ⟨kk, b, v', c', h', vs', cs', es', lo', s', w', p', g1, g2, g3, g4, g5⟩ := zl_add (z := z) (t := t) (w := r2) (lo := lo) ((xs (p + 1)).toUInt32 % 65536).toInt32 (xs (p + 2)) (xs (p + 3)) i2 i1
  unfold f_law_248
  simp only [e1, e2, e3, y1, y2, y3, if_neg x1, if_neg x2, if_neg x3, g1, g2, Option.bind_some, f_X10_thrown]
  rw [zt_fin (show (zCh (zTh m kk) h'.2).2.1 = kk from rfl) g3]
  exact ⟨_, rfl, zSt_mono (by omega) g5, zH_mono (by omega) g4, ⟨i3.1, fun g => zSt_mono (by omega) (i3.2 g)⟩, i5, i6, i7⟩
theorem zc_330 (I : zI J z v c e v3 c3 e3 h vs cs es q k f m r1 r4 r5 r6 r7 n) (hJ : J + 5000 < 9000000) (hp : p + 3 < L) (hL : L ≤ 2048) : ∃ u, f_law_330 n L xs z v c e v2 c2 e2 v3 c3 e3 h t vs cs es q t2 ws k f m r1 r2 r3 r4 r5 r6 r7 r8 lo dd (Int32.ofNat p) = some u ∧ zIu (J + 4000) u := by
  obtain ⟨i1, i2, i3, i5, i6, i7⟩ := id I
  have e1 : Int32.ofNat p + 1 = Int32.ofNat (p + 1) := zt_succ p
  have e2 : Int32.ofNat p + 2 = Int32.ofNat (p + 2) := zt_add p 2
  have e3 : Int32.ofNat p + 3 = Int32.ofNat (p + 3) := zt_add p 3
  have y1 : (Int32.ofNat (p + 1)).toNatClampNeg = p + 1 := zt_cl (by omega)
  have y2 : (Int32.ofNat (p + 2)).toNatClampNeg = p + 2 := zt_cl (by omega)
  have y3 : (Int32.ofNat (p + 3)).toNatClampNeg = p + 3 := zt_cl (by omega)
  have x1 : ¬ (Int32.ofNat (p + 1) < 0 ∨ L ≤ p + 1) := fun q => zt_in (show p + 1 < L by omega) (by omega) (by rw [y1]; exact q)
  have x2 : ¬ (Int32.ofNat (p + 2) < 0 ∨ L ≤ p + 2) := fun q => zt_in (show p + 2 < L by omega) (by omega) (by rw [y2]; exact q)
  have x3 : ¬ (Int32.ofNat (p + 3) < 0 ∨ L ≤ p + 3) := fun q => zt_in (show p + 3 < L by omega) (by omega) (by rw [y3]; exact q)
  obtain ⟨kk, b, c', h', vs', cs', es', lo', s', w', p', g1, g2, g3, g4, g5⟩ := zl_light (z := z) (t := t) (w := r2) (lo := lo) (xs (p + 1)) i2 i1
  unfold f_law_330
  simp only [e1, e2, e3, y1, y2, y3, if_neg x1, g1, g2, Option.bind_some, f_X10_thrown]
  rw [zt_fin (show (zCh (zTh m kk) h'.2).2.1 = kk from rfl) g3]
  exact ⟨_, rfl, zSt_mono (by omega) g5, zH_mono (by omega) g4, ⟨i3.1, fun g => zSt_mono (by omega) (i3.2 g)⟩, i5, i6, i7⟩
theorem zc_386 (I : zI J z v c e v3 c3 e3 h vs cs es q k f m r1 r4 r5 r6 r7 n) (hJ : J + 5000 < 9000000) (hp : p + 3 < L) (hL : L ≤ 2048) : ∃ u, f_law_386 n L xs z v c e v2 c2 e2 v3 c3 e3 h t vs cs es q t2 ws k f m r1 r2 r3 r4 r5 r6 r7 r8 lo dd (Int32.ofNat p) = some u ∧ zIu (J + 4000) u := by
  obtain ⟨i1, i2, i3, i5, i6, i7⟩ := id I
  have e1 : Int32.ofNat p + 1 = Int32.ofNat (p + 1) := zt_succ p
  have e2 : Int32.ofNat p + 2 = Int32.ofNat (p + 2) := zt_add p 2
  have e3 : Int32.ofNat p + 3 = Int32.ofNat (p + 3) := zt_add p 3
  have y1 : (Int32.ofNat (p + 1)).toNatClampNeg = p + 1 := zt_cl (by omega)
  have y2 : (Int32.ofNat (p + 2)).toNatClampNeg = p + 2 := zt_cl (by omega)
  have y3 : (Int32.ofNat (p + 3)).toNatClampNeg = p + 3 := zt_cl (by omega)
  have x1 : ¬ (Int32.ofNat (p + 1) < 0 ∨ L ≤ p + 1) := fun q => zt_in (show p + 1 < L by omega) (by omega) (by rw [y1]; exact q)
  have x2 : ¬ (Int32.ofNat (p + 2) < 0 ∨ L ≤ p + 2) := fun q => zt_in (show p + 2 < L by omega) (by omega) (by rw [y2]; exact q)
  have x3 : ¬ (Int32.ofNat (p + 3) < 0 ∨ L ≤ p + 3) := fun q => zt_in (show p + 3 < L by omega) (by omega) (by rw [y3]; exact q)
  obtain ⟨kk, b, c', h', vs', cs', es', lo', s', w', p', g1, g2, g3, g4, g5⟩ := zl_snuff (z := z) (t := t) (w := r2) (lo := lo) (xs (p + 1)) i2 i1
  unfold f_law_386
  simp only [e1, e2, e3, y1, y2, y3, if_neg x1, g1, g2, Option.bind_some, f_X10_thrown]
  rw [zt_fin (show (zCh (zTh m kk) h'.2).2.1 = kk from rfl) g3]
  exact ⟨_, rfl, zSt_mono (by omega) g5, zH_mono (by omega) g4, ⟨i3.1, fun g => zSt_mono (by omega) (i3.2 g)⟩, i5, i6, i7⟩
theorem zc_442 (I : zI J z v c e v3 c3 e3 h vs cs es q k f m r1 r4 r5 r6 r7 n) (hJ : J + 5000 < 9000000) (hp : p + 3 < L) (hL : L ≤ 2048) : ∃ u, f_law_442 n L xs z v c e v2 c2 e2 v3 c3 e3 h t vs cs es q t2 ws k f m r1 r2 r3 r4 r5 r6 r7 r8 lo dd (Int32.ofNat p) = some u ∧ zIu (J + 4000) u := by
  obtain ⟨i1, i2, i3, i5, i6, i7⟩ := id I
  have e1 : Int32.ofNat p + 1 = Int32.ofNat (p + 1) := zt_succ p
  have e2 : Int32.ofNat p + 2 = Int32.ofNat (p + 2) := zt_add p 2
  have e3 : Int32.ofNat p + 3 = Int32.ofNat (p + 3) := zt_add p 3
  have y1 : (Int32.ofNat (p + 1)).toNatClampNeg = p + 1 := zt_cl (by omega)
  have y2 : (Int32.ofNat (p + 2)).toNatClampNeg = p + 2 := zt_cl (by omega)
  have y3 : (Int32.ofNat (p + 3)).toNatClampNeg = p + 3 := zt_cl (by omega)
  have x1 : ¬ (Int32.ofNat (p + 1) < 0 ∨ L ≤ p + 1) := fun q => zt_in (show p + 1 < L by omega) (by omega) (by rw [y1]; exact q)
  have x2 : ¬ (Int32.ofNat (p + 2) < 0 ∨ L ≤ p + 2) := fun q => zt_in (show p + 2 < L by omega) (by omega) (by rw [y2]; exact q)
  have x3 : ¬ (Int32.ofNat (p + 3) < 0 ∨ L ≤ p + 3) := fun q => zt_in (show p + 3 < L by omega) (by omega) (by rw [y3]; exact q)
  obtain ⟨kk, b, v', c', h', vs', cs', es', lo', s', w', p', g1, g2, g3, g4, g5⟩ := zl_pour (z := z) (t := t) (w := r2) (lo := lo) (xs (p + 1)) (xs (p + 2)) i2 i1
  unfold f_law_442
  simp only [e1, e2, e3, y1, y2, y3, if_neg x1, if_neg x2, g1, g2, Option.bind_some, f_X10_thrown]
  rw [zt_fin (show (zCh (zTh m kk) h'.2).2.1 = kk from rfl) g3]
  exact ⟨_, rfl, zSt_mono (by omega) g5, zH_mono (by omega) g4, ⟨i3.1, fun g => zSt_mono (by omega) (i3.2 g)⟩, i5, i6, i7⟩
theorem zc_510 (I : zI J z v c e v3 c3 e3 h vs cs es q k f m r1 r4 r5 r6 r7 n) (hJ : J + 5000 < 9000000) (hp : p + 3 < L) (hL : L ≤ 2048) : ∃ u, f_law_510 n L xs z v c e v2 c2 e2 v3 c3 e3 h t vs cs es q t2 ws k f m r1 r2 r3 r4 r5 r6 r7 r8 lo dd (Int32.ofNat p) = some u ∧ zIu (J + 4000) u := by
  obtain ⟨i1, i2, i3, i5, i6, i7⟩ := id I
  have e1 : Int32.ofNat p + 1 = Int32.ofNat (p + 1) := zt_succ p
  have e2 : Int32.ofNat p + 2 = Int32.ofNat (p + 2) := zt_add p 2
  have e3 : Int32.ofNat p + 3 = Int32.ofNat (p + 3) := zt_add p 3
  have y1 : (Int32.ofNat (p + 1)).toNatClampNeg = p + 1 := zt_cl (by omega)
  have y2 : (Int32.ofNat (p + 2)).toNatClampNeg = p + 2 := zt_cl (by omega)
  have y3 : (Int32.ofNat (p + 3)).toNatClampNeg = p + 3 := zt_cl (by omega)
  have x1 : ¬ (Int32.ofNat (p + 1) < 0 ∨ L ≤ p + 1) := fun q => zt_in (show p + 1 < L by omega) (by omega) (by rw [y1]; exact q)
  have x2 : ¬ (Int32.ofNat (p + 2) < 0 ∨ L ≤ p + 2) := fun q => zt_in (show p + 2 < L by omega) (by omega) (by rw [y2]; exact q)
  have x3 : ¬ (Int32.ofNat (p + 3) < 0 ∨ L ≤ p + 3) := fun q => zt_in (show p + 3 < L by omega) (by omega) (by rw [y3]; exact q)
  obtain ⟨kk, b, v', h', vs', cs', es', lo', s', w', p', g1, g2, g3, g4, g5⟩ := zl_draught (z := z) (t := t) (w := r2) (lo := lo) (xs (p + 1)) i2 i1
  unfold f_law_510
  simp only [e1, e2, e3, y1, y2, y3, if_neg x1, g1, g2, Option.bind_some, f_X10_thrown]
  rw [zt_fin (show (zCh (zTh m kk) h'.2).2.1 = kk from rfl) g3]
  exact ⟨_, rfl, zSt_mono (by omega) g5, zH_mono (by omega) g4, ⟨i3.1, fun g => zSt_mono (by omega) (i3.2 g)⟩, i5, i6, i7⟩
theorem zc_662 (I : zI J z v c e v3 c3 e3 h vs cs es q k f m r1 r4 r5 r6 r7 n) (hJ : J + 5000 < 9000000) (hp : p + 3 < L) (hL : L ≤ 2048) : ∃ u, f_law_662 n L xs z v c e v2 c2 e2 v3 c3 e3 h t vs cs es q t2 ws k f m r1 r2 r3 r4 r5 r6 r7 r8 lo dd (Int32.ofNat p) = some u ∧ zIu (J + 4000) u := by
  obtain ⟨i1, i2, i3, i5, i6, i7⟩ := id I
  have e1 : Int32.ofNat p + 1 = Int32.ofNat (p + 1) := zt_succ p
  have e2 : Int32.ofNat p + 2 = Int32.ofNat (p + 2) := zt_add p 2
  have e3 : Int32.ofNat p + 3 = Int32.ofNat (p + 3) := zt_add p 3
  have y1 : (Int32.ofNat (p + 1)).toNatClampNeg = p + 1 := zt_cl (by omega)
  have y2 : (Int32.ofNat (p + 2)).toNatClampNeg = p + 2 := zt_cl (by omega)
  have y3 : (Int32.ofNat (p + 3)).toNatClampNeg = p + 3 := zt_cl (by omega)
  have x1 : ¬ (Int32.ofNat (p + 1) < 0 ∨ L ≤ p + 1) := fun q => zt_in (show p + 1 < L by omega) (by omega) (by rw [y1]; exact q)
  have x2 : ¬ (Int32.ofNat (p + 2) < 0 ∨ L ≤ p + 2) := fun q => zt_in (show p + 2 < L by omega) (by omega) (by rw [y2]; exact q)
  have x3 : ¬ (Int32.ofNat (p + 3) < 0 ∨ L ≤ p + 3) := fun q => zt_in (show p + 3 < L by omega) (by omega) (by rw [y3]; exact q)
  obtain ⟨kk, b, e', h', vs', cs', es', lo', s', w', p', g1, g2, g3, g4, g5⟩ := zl_unschedule (z := z) (t := t) (w := r2) (lo := lo) (xs (p + 1)) i2 i1
  unfold f_law_662
  simp only [e1, e2, e3, y1, y2, y3, if_neg x1, g1, g2, Option.bind_some, f_X10_thrown]
  rw [zt_fin (show (zCh (zTh m kk) h'.2).2.1 = kk from rfl) g3]
  exact ⟨_, rfl, zSt_mono (by omega) g5, zH_mono (by omega) g4, ⟨i3.1, fun g => zSt_mono (by omega) (i3.2 g)⟩, i5, i6, i7⟩
theorem zc_718 (I : zI J z v c e v3 c3 e3 h vs cs es q k f m r1 r4 r5 r6 r7 n) (hJ : J + 5000 < 9000000) (hp : p + 3 < L) (hL : L ≤ 2048) : ∃ u, f_law_718 n L xs z v c e v2 c2 e2 v3 c3 e3 h t vs cs es q t2 ws k f m r1 r2 r3 r4 r5 r6 r7 r8 lo dd (Int32.ofNat p) = some u ∧ zIu (J + 4000) u := by
  obtain ⟨i1, i2, i3, i5, i6, i7⟩ := id I
  have e1 : Int32.ofNat p + 1 = Int32.ofNat (p + 1) := zt_succ p
  have e2 : Int32.ofNat p + 2 = Int32.ofNat (p + 2) := zt_add p 2
  have e3 : Int32.ofNat p + 3 = Int32.ofNat (p + 3) := zt_add p 3
  have y1 : (Int32.ofNat (p + 1)).toNatClampNeg = p + 1 := zt_cl (by omega)
  have y2 : (Int32.ofNat (p + 2)).toNatClampNeg = p + 2 := zt_cl (by omega)
  have y3 : (Int32.ofNat (p + 3)).toNatClampNeg = p + 3 := zt_cl (by omega)
  have x1 : ¬ (Int32.ofNat (p + 1) < 0 ∨ L ≤ p + 1) := fun q => zt_in (show p + 1 < L by omega) (by omega) (by rw [y1]; exact q)
  have x2 : ¬ (Int32.ofNat (p + 2) < 0 ∨ L ≤ p + 2) := fun q => zt_in (show p + 2 < L by omega) (by omega) (by rw [y2]; exact q)
  have x3 : ¬ (Int32.ofNat (p + 3) < 0 ∨ L ≤ p + 3) := fun q => zt_in (show p + 3 < L by omega) (by omega) (by rw [y3]; exact q)
  obtain ⟨kk, b, v', c', e', h', vs', cs', es', lo', s', w', p', g1, g2, g3, g4, g5⟩ := zl_pass (z := z) (t := t) (w := r2) (lo := lo) (xs (p + 1)) (by omega) i2 i1
  unfold f_law_718
  simp only [e1, e2, e3, y1, y2, y3, if_neg x1, g1, g2, Option.bind_some, f_X10_thrown]
  rw [zt_fin (show (zCh (zTh m kk) h'.2).2.1 = kk from rfl) g3]
  exact ⟨_, rfl, zSt_mono (by omega) g5, zH_mono (by omega) g4, ⟨i3.1, fun g => zSt_mono (by omega) (i3.2 g)⟩, i5, i6, i7⟩
theorem zc_566 (I : zI J z v c e v3 c3 e3 h vs cs es q k f m r1 r4 r5 r6 r7 n) (hJ : J + 5000 < 9000000) (hp : p + 3 < L) (hL : L ≤ 2048) : ∃ u, f_law_566 n L xs z v c e v2 c2 e2 v3 c3 e3 h t vs cs es q t2 ws k f m r1 r2 r3 r4 r5 r6 r7 r8 lo dd (Int32.ofNat p) = some u ∧ zIu (J + 4000) u := by
  obtain ⟨i1, i2, i3, i5, i6, i7⟩ := id I
  have e1 : Int32.ofNat p + 1 = Int32.ofNat (p + 1) := zt_succ p
  have e2 : Int32.ofNat p + 2 = Int32.ofNat (p + 2) := zt_add p 2
  have e3 : Int32.ofNat p + 3 = Int32.ofNat (p + 3) := zt_add p 3
  have y1 : (Int32.ofNat (p + 1)).toNatClampNeg = p + 1 := zt_cl (by omega)
  have y2 : (Int32.ofNat (p + 2)).toNatClampNeg = p + 2 := zt_cl (by omega)
  have y3 : (Int32.ofNat (p + 3)).toNatClampNeg = p + 3 := zt_cl (by omega)
  have x1 : ¬ (Int32.ofNat (p + 1) < 0 ∨ L ≤ p + 1) := fun q => zt_in (show p + 1 < L by omega) (by omega) (by rw [y1]; exact q)
  have x2 : ¬ (Int32.ofNat (p + 2) < 0 ∨ L ≤ p + 2) := fun q => zt_in (show p + 2 < L by omega) (by omega) (by rw [y2]; exact q)
  have x3 : ¬ (Int32.ofNat (p + 3) < 0 ∨ L ≤ p + 3) := fun q => zt_in (show p + 3 < L by omega) (by omega) (by rw [y3]; exact q)
  by_cases b3 : xs (p + 3) = 0
  · obtain ⟨kk, b, e', h', vs', cs', es', lo', s', w', p', g1, g2, g3, g4, g5⟩ := zl_schedule (z := z) (t := t) (w := r2) (lo := lo) (xs (p + 1)) (xs (p + 2)) 0 0 (Or.inl ⟨rfl, rfl⟩) (by omega) i2 i1
    unfold f_law_566
    simp only [e1, e2, e3, y1, y2, y3, if_neg x1, if_neg x2, if_neg x3, if_pos b3, g1, g2, Option.bind_some, f_X10_thrown]
    rw [zt_fin (show (zCh (zTh m kk) h'.2).2.1 = kk from rfl) g3]
    exact ⟨_, rfl, zSt_mono (by omega) g5, zH_mono (by omega) g4, ⟨i3.1, fun g => zSt_mono (by omega) (i3.2 g)⟩, i5, i6, i7⟩
  · obtain ⟨kk, b, e', h', vs', cs', es', lo', s', w', p', g1, g2, g3, g4, g5⟩ := zl_schedule (z := z) (t := t) (w := r2) (lo := lo) (xs (p + 1)) (xs (p + 2)) 1 1 (Or.inr ⟨rfl, rfl⟩) (by omega) i2 i1
    unfold f_law_566
    simp only [e1, e2, e3, y1, y2, y3, if_neg x1, if_neg x2, if_neg x3, if_neg b3, g1, g2, Option.bind_some, f_X10_thrown]
    rw [zt_fin (show (zCh (zTh m kk) h'.2).2.1 = kk from rfl) g3]
    exact ⟨_, rfl, zSt_mono (by omega) g5, zH_mono (by omega) g4, ⟨i3.1, fun g => zSt_mono (by omega) (i3.2 g)⟩, i5, i6, i7⟩
theorem zc_1840 (I : zI J z v c e v3 c3 e3 h vs cs es q k f m r1 r4 r5 r6 r7 n) (hJ : J + 5000 < 9000000) (hp : p + 3 < L) (hL : L ≤ 2048) : ∃ u, f_law_1840 n L xs z v c e v2 c2 e2 v3 c3 e3 h t vs cs es q t2 ws k f m r1 r2 r3 r4 r5 r6 r7 r8 lo dd (Int32.ofNat p) = some u ∧ zIu (J + 4000) u := by
  obtain ⟨i1, i2, i3, i5, i6, i7⟩ := id I
  have e1 : Int32.ofNat p + 1 = Int32.ofNat (p + 1) := zt_succ p
  have e2 : Int32.ofNat p + 2 = Int32.ofNat (p + 2) := zt_add p 2
  have e3 : Int32.ofNat p + 3 = Int32.ofNat (p + 3) := zt_add p 3
  have y1 : (Int32.ofNat (p + 1)).toNatClampNeg = p + 1 := zt_cl (by omega)
  have y2 : (Int32.ofNat (p + 2)).toNatClampNeg = p + 2 := zt_cl (by omega)
  have y3 : (Int32.ofNat (p + 3)).toNatClampNeg = p + 3 := zt_cl (by omega)
  have x1 : ¬ (Int32.ofNat (p + 1) < 0 ∨ L ≤ p + 1) := fun q => zt_in (show p + 1 < L by omega) (by omega) (by rw [y1]; exact q)
  have x2 : ¬ (Int32.ofNat (p + 2) < 0 ∨ L ≤ p + 2) := fun q => zt_in (show p + 2 < L by omega) (by omega) (by rw [y2]; exact q)
  have x3 : ¬ (Int32.ofNat (p + 3) < 0 ∨ L ≤ p + 3) := fun q => zt_in (show p + 3 < L by omega) (by omega) (by rw [y3]; exact q)
  obtain ⟨nn, kk0, T, hT, s1, s2⟩ := i1
  obtain ⟨cc, i7⟩ := i7
  obtain ⟨kk, b, n', kb', f', ln', lo', cc', g1, g2, g3, g4⟩ := zl_writeCandle (z := z) (lo := lo) (xs (p + 1)) s1 i7
  unfold f_law_1840
  simp only [e1, y1, if_neg x1, g1, g2, Option.bind_some, f_X10_thrown]
  rw [zt_fin (show (zLi (zTh m kk) cc').2.1 = kk from rfl) g3]
  exact ⟨_, rfl, zSt_mono (by omega) ⟨nn, kk0, T, hT, s1, s2⟩, zH_mono (by omega) i2, ⟨i3.1, fun g => zSt_mono (by omega) (i3.2 g)⟩, i5, i6, cc', g4⟩
theorem zc_1896 (I : zI J z v c e v3 c3 e3 h vs cs es q k f m r1 r4 r5 r6 r7 n) (hJ : J + 5000 < 9000000) (hp : p + 3 < L) (hL : L ≤ 2048) : ∃ u, f_law_1896 n L xs z v c e v2 c2 e2 v3 c3 e3 h t vs cs es q t2 ws k f m r1 r2 r3 r4 r5 r6 r7 r8 lo dd (Int32.ofNat p) = some u ∧ zIu (J + 4000) u := by
  obtain ⟨i1, i2, i3, i5, i6, i7⟩ := id I
  obtain ⟨nn, kk0, T, hT, s1, s2⟩ := i1
  obtain ⟨cc, i7⟩ := i7
  obtain ⟨b, n', kb', f', ln', cc', g1, g2, g4⟩ := zl_writeEvents (z := z) s1 (by omega) i7
  unfold f_law_1896
  simp only [g1, g2, Option.bind_some, if_true]
  exact ⟨_, rfl, zSt_mono (by omega) ⟨nn, kk0, T, hT, s1, s2⟩, zH_mono (by omega) i2, ⟨i3.1, fun g => zSt_mono (by omega) (i3.2 g)⟩, i5, i6, cc', g4⟩
theorem zc_1965 (I : zI J z v c e v3 c3 e3 h vs cs es q k f m r1 r4 r5 r6 r7 n) (hJ : J + 5000 < 9000000) (hp : p + 3 < L) (hL : L ≤ 2048) : ∃ u, f_law_1965 n L xs z v c e v2 c2 e2 v3 c3 e3 h t vs cs es q t2 ws k f m r1 r2 r3 r4 r5 r6 r7 r8 lo dd (Int32.ofNat p) = some u ∧ zIu (J + 4000) u := by
  obtain ⟨i1, i2, i3, i5, i6, i7⟩ := id I
  have e1 : Int32.ofNat p + 1 = Int32.ofNat (p + 1) := zt_succ p
  have e2 : Int32.ofNat p + 2 = Int32.ofNat (p + 2) := zt_add p 2
  have e3 : Int32.ofNat p + 3 = Int32.ofNat (p + 3) := zt_add p 3
  have y1 : (Int32.ofNat (p + 1)).toNatClampNeg = p + 1 := zt_cl (by omega)
  have y2 : (Int32.ofNat (p + 2)).toNatClampNeg = p + 2 := zt_cl (by omega)
  have y3 : (Int32.ofNat (p + 3)).toNatClampNeg = p + 3 := zt_cl (by omega)
  have x1 : ¬ (Int32.ofNat (p + 1) < 0 ∨ L ≤ p + 1) := fun q => zt_in (show p + 1 < L by omega) (by omega) (by rw [y1]; exact q)
  have x2 : ¬ (Int32.ofNat (p + 2) < 0 ∨ L ≤ p + 2) := fun q => zt_in (show p + 2 < L by omega) (by omega) (by rw [y2]; exact q)
  have x3 : ¬ (Int32.ofNat (p + 3) < 0 ∨ L ≤ p + 3) := fun q => zt_in (show p + 3 < L by omega) (by omega) (by rw [y3]; exact q)
  obtain ⟨len, i6⟩ := i6
  obtain ⟨kk, b, q', lo', tp', l', len', g1, g2, g3, g4⟩ := zl_type (z := z) (lo := lo) ((xs (p + 1)).toUInt32 % 65536).toInt32 (zt_charR _) i6
  unfold f_law_1965
  simp only [e1, y1, if_neg x1, g1, g2, Option.bind_some, f_X10_thrown]
  rw [zt_fin (show (zTh m kk).2.1 = kk from rfl) g3]
  exact ⟨_, rfl, zSt_mono (by omega) i1, zH_mono (by omega) i2, ⟨i3.1, fun g => zSt_mono (by omega) (i3.2 g)⟩, i5, ⟨len', g4⟩, i7⟩
theorem zc_2023 (I : zI J z v c e v3 c3 e3 h vs cs es q k f m r1 r4 r5 r6 r7 n) (hJ : J + 5000 < 9000000) (hp : p + 3 < L) (hL : L ≤ 2048) : ∃ u, f_law_2023 n L xs z v c e v2 c2 e2 v3 c3 e3 h t vs cs es q t2 ws k f m r1 r2 r3 r4 r5 r6 r7 r8 lo dd (Int32.ofNat p) = some u ∧ zIu (J + 4000) u := by
  obtain ⟨i1, i2, i3, i5, i6, i7⟩ := id I
  obtain ⟨len, i6⟩ := i6
  obtain ⟨cc, i7⟩ := i7
  obtain ⟨kk, b, z', v', c', e', v2', c2', e2', h', vs', cs', es', q', ws', lo', m', s', w', p', cm', g1, g2, g3, g4, g5, g6, g7, g8, g9, g10, g11⟩ := zl_run (v2 := v2) (c2 := c2) (e2 := e2) (t := t) (t2 := t2) (w := r2) (cm := r8) (ws := ws) (lo := lo) i6 (by omega) i2 i1 i5
  unfold f_law_2023
  simp only [g1, g2, Option.bind_some, f_X10_thrown]
  rw [zt_fin g3 g4]
  refine ⟨_, rfl, g6, g5, ⟨?_, fun g => zSt_mono (by omega) (i3.2 (by rw [← g7]; exact g))⟩, g8, ⟨0, g9⟩, cc, ?_⟩
  · show z'.1 = m'.2.2.2.2.2.1
    rw [g7, g10]
    exact i3.1
  · obtain ⟨a1, a2, a3⟩ := i7
    exact ⟨a1, g11.trans a2, a3⟩
theorem zc_2155 (I : zI J z v c e v3 c3 e3 h vs cs es q k f m r1 r4 r5 r6 r7 n) (hJ : J + 5000 < 9000000) (hp : p + 3 < L) (hL : L ≤ 2048) : ∃ u, f_law_2155 n L xs z v c e v2 c2 e2 v3 c3 e3 h t vs cs es q t2 ws k f m r1 r2 r3 r4 r5 r6 r7 r8 lo dd (Int32.ofNat p) = some u ∧ zIu (J + 4000) u := by
  obtain ⟨i1, i2, i3, i5, i6, i7⟩ := id I
  obtain ⟨kk, b, v', c', e', h', lo', s', g1, g2, g3, g4, g5⟩ := zo_undo (z := z) (lo := lo) t i2 i1
  unfold f_law_2155
  simp only [g1, g2, Option.bind_some, f_X10_thrown]
  rw [zt_fin (show (zCh (zTh m kk) h'.2).2.1 = kk from rfl) g3]
  exact ⟨_, rfl, zSt_mono (by omega) g5, zH_mono (by omega) g4, ⟨i3.1, fun g => zSt_mono (by omega) (i3.2 g)⟩, i5, i6, i7⟩
theorem zc_2199 (I : zI J z v c e v3 c3 e3 h vs cs es q k f m r1 r4 r5 r6 r7 n) (hJ : J + 5000 < 9000000) (hp : p + 3 < L) (hL : L ≤ 2048) : ∃ u, f_law_2199 n L xs z v c e v2 c2 e2 v3 c3 e3 h t vs cs es q t2 ws k f m r1 r2 r3 r4 r5 r6 r7 r8 lo dd (Int32.ofNat p) = some u ∧ zIu (J + 4000) u := by
  obtain ⟨i1, i2, i3, i5, i6, i7⟩ := id I
  obtain ⟨b, v', c', e', d', g1, g2, g5⟩ := zo_save (z := z) (m := m) v3 c3 e3 r4 i1
  unfold f_law_2199
  simp only [g1, g2, Option.bind_some, if_true]
  exact ⟨_, rfl, zSt_mono (by omega) i1, zH_mono (by omega) i2, ⟨rfl, fun _ => zSt_mono (by omega) g5⟩, i5, i6, i7⟩
theorem zc_2212 (I : zI J z v c e v3 c3 e3 h vs cs es q k f m r1 r4 r5 r6 r7 n) (hJ : J + 5000 < 9000000) (hp : p + 3 < L) (hL : L ≤ 2048) : ∃ u, f_law_2212 n L xs z v c e v2 c2 e2 v3 c3 e3 h t vs cs es q t2 ws k f m r1 r2 r3 r4 r5 r6 r7 r8 lo dd (Int32.ofNat p) = some u ∧ zIu (J + 4000) u := by
  obtain ⟨i1, i2, i3, i5, i6, i7⟩ := id I
  obtain ⟨kk, b, v', c', e', h', lo', s', g1, g2, g3, g4, g5⟩ := zo_restore (lo := lo) i2 i1 i3.1 i3.2
  unfold f_law_2212
  simp only [g1, g2, Option.bind_some, f_X10_thrown]
  rw [zt_fin (show (zCh (zTh m kk) h'.2).2.1 = kk from rfl) g3]
  exact ⟨_, rfl, zSt_mono (by omega) g5, zH_mono (by omega) g4, ⟨i3.1, fun g => zSt_mono (by omega) (i3.2 g)⟩, i5, i6, i7⟩
end LC
