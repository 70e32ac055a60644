/-! THE THEORY, 15: undo, saving -/
def zSt (J : Int) (v : StS) (c : CdT) (e : EvT) (s : Nat → Int32) : Prop := ∃ (n k : Nat) (T : Int), T ≤ J ∧ zS n k T v c e s ∧ zA n v c s
theorem zSt_copy {J : Int} {v : StS} {c c' : CdT} {e e' : EvT} {s s' : Nat → Int32} {n k : Nat} {T : Int} (hJ : T ≤ J) (h : zS n k T v c e s) (ha : zA n v c s) (hc : zCE n c c') (he : zEE k e e') (hs : ∀ x, x < 110 → s' x = s x) : zSt J v c' e' s' :=
  ⟨n, k, T, hJ, zt_sc h hc he hs, zt_ac h.1.2.1 ha hc hs⟩
theorem zSt_row {J : Int} {v : StS} {c : CdT} {e : EvT} {s s' : Nat → Int32} (h : zSt J v c e s) (hs : ∀ x, x < 110 → s' x = s x) : zSt J v c e s' := by
  obtain ⟨n, k, T, hJ, h1, h2⟩ := h
  exact zSt_copy hJ h1 h2 ⟨rfl, fun _ _ => ⟨rfl, rfl, rfl, rfl⟩⟩ ⟨rfl, fun _ _ => ⟨rfl, rfl, rfl⟩⟩ hs
theorem zSt_mono {J J' : Int} {v : StS} {c : CdT} {e : EvT} {s : Nat → Int32} (hJ : J ≤ J') (h : zSt J v c e s) : zSt J' v c e s := by
  obtain ⟨n, k, T, h0, h1, h2⟩ := h
  exact ⟨n, k, T, by omega, h1, h2⟩
/-- the class's copy of a state holds the same row -/
theorem zSt_cp {J : Int} {v : StS} {c : CdT} {e : EvT} {s : Nat → Int32} (v2 : StS) (c2 : CdT) (e2 : EvT) (h : zSt J v c e s) : ∃ (c' : CdT) (e' : EvT), f_X8_copyFrom v2 c2 e2 v c e = some (v, c', e') ∧ c'.2.2.2.2 = c.2.2.2.2 ∧ zSt J v c' e' s := by
  obtain ⟨n, k, T, h0, h1, h2⟩ := h
  obtain ⟨c', e', k1, k2, k3⟩ := zt_copy v2 c2 e2 h1.1 h1.2.2.1 h1.2.2.2.2.1
  exact ⟨c', e', k1, k2.1, zSt_copy h0 h1 h2 k2 k3 (fun _ _ => rfl)⟩
/-- the ring of the class and the past of the reference -/
def zH (J : Int) (h : HiT) (vs : Nat → StS) (cs : Nat → CdT) (es : Nat → EvT) (p : Nat → Int32) (ch : Int32) : Prop :=
  ∃ a m : Nat, a < 8 ∧ m ≤ 8 ∧ h.1 = Int32.ofNat a ∧ h.2 = Int32.ofNat m ∧ ch = Int32.ofNat m ∧ ∀ j, j < m → zSt J (vs ((a + 8 - m + j) % 8)) (cs ((a + 8 - m + j) % 8)) (es ((a + 8 - m + j) % 8)) (fun x => p (110 * j + x))
theorem zH_mono {J J' : Int} (hJ : J ≤ J') {h : HiT} {vs : Nat → StS} {cs : Nat → CdT} {es : Nat → EvT} {p : Nat → Int32} {ch : Int32} (H : zH J h vs cs es p ch) : zH J' h vs cs es p ch := by
  obtain ⟨a, m, h1, h2, h3, h4, h5, h6⟩ := H
  exact ⟨a, m, h1, h2, h3, h4, h5, fun j hj => zSt_mono hJ (h6 j hj)⟩
theorem zt_mod8 {a : Nat} (ha : a < 100) : Int32.ofNat a - Int32.ofNat a / 8 * 8 = Int32.ofNat (a % 8) := by
  have e1 : Int32.ofNat a / 8 = Int32.ofNat (a / 8) := zt_div (b := 8) (by omega) (by omega)
  have e2 : Int32.ofNat (a / 8) * 8 = Int32.ofNat (a / 8 * 8) := zt_mul _ 8
  rw [e1, e2, zt_sub (by omega)]
  congr 1
  omega
/-- a row copied one down -/
theorem zt_cpS {b : Nat} (hb : b + 220 ≤ 880) (p : Nat → Int32) : ∀ (r F i : Nat) (t : Nat → Int32), i + r = 110 → r < F → (∀ y, t y = if b ≤ y ∧ y < b + i then p (y + 110) else p y) → ∃ t', f_X10_copiesS_3 880 F t (Int32.ofNat (b + 110)) (Int32.ofNat b) (Int32.ofNat i) = some t' ∧ ∀ y, t' y = if b ≤ y ∧ y < b + 110 then p (y + 110) else p y
  | 0, F + 1, i, t, hi, _, ht => by
    have : i = 110 := by omega
    subst this
    exact ⟨t, by rw [f_X10_copiesS_3, if_pos (by decide)], ht⟩
  | r + 1, F + 1, i, t, hi, hF, ht => by
    rw [f_X10_copiesS_3, if_neg (show ¬ (110 : Int32) ≤ Int32.ofNat i from fun q => absurd ((zt_le (a := 110) (by omega) (by omega)).mp q) (by omega)), zt_add, zt_add, zt_gi (by omega) (by omega), zt_gi (by omega) (by omega), zt_cl (by omega), zt_cl (by omega), zt_succ]
    refine zt_cpS hb p r F (i + 1) _ (by omega) (by omega) (fun y => ?_)
    by_cases hy : y = b + i
    · subst hy
      rw [zt_updS, if_pos (by omega), ht, if_neg (by omega), show b + 110 + i = b + i + 110 by omega]
    · rw [zt_updN hy, ht]
      by_cases g : b ≤ y ∧ y < b + i
      · rw [if_pos g, if_pos (by omega)]
      · rw [if_neg g, if_neg (by omega)]
/-- with the count of changes set -/
def zCh (m : MdT) (x : Int32) : MdT := (x, m.2)
theorem zt_ends63 {j : Nat} (hj : j < 8) (m : MdT) (w p : Nat → Int32) (told : Int32) (hm : m.1 = Int32.ofNat j) : ∃ p', f_X10_ends_63 m w p told = some (told, zCh m (Int32.ofNat (j + 1)), p') ∧ ∀ y, p' y = if 110 * j ≤ y ∧ y < 110 * j + 110 then w (y - 110 * j) else p y := by
  obtain ⟨p', h1, h2⟩ := zt_copiesD (N := 110) (M := 880) (a := 0) (b := 110 * j) w p (by omega) (by omega) (by omega) (by omega)
  refine ⟨p', ?_, h2⟩
  have e : (110 : Int32) * Int32.ofNat j = Int32.ofNat (110 * j) := zt_mul 110 j
  unfold f_X10_ends_63
  rw [hm, e, show (0 : Int32) = Int32.ofNat 0 from rfl, h1, Option.bind_some, zt_succ]
  rfl
theorem zt_ends20 (m : MdT) (w : Nat → Int32) (told : Int32) (p0 : Nat → Int32) : ∀ (r F i : Nat) (p : Nat → Int32), i + r = 8 → r < F → 1 ≤ i → (∀ y, p y = if y < 110 * (i - 1) then p0 (y + 110) else p0 y) → ∃ p', f_X10_ends_20 F m w p told (Int32.ofNat i) = f_X10_ends_63 (zCh m (m.1 - 1)) w p' told ∧ ∀ y, p' y = if y < 770 then p0 (y + 110) else p0 y
  | 0, F + 1, i, p, hi, _, _, hp => by
    have : i = 8 := by omega
    subst this
    exact ⟨p, by rw [f_X10_ends_20, if_pos (by decide)]; rfl, hp⟩
  | r + 1, F + 1, i, p, hi, hF, h1, hp => by
    have e1 : (110 : Int32) * Int32.ofNat i = Int32.ofNat (110 * (i - 1) + 110) := by
      rw [show 110 * (i - 1) + 110 = 110 * i by omega]; exact zt_mul 110 i
    have e2 : (110 : Int32) * (Int32.ofNat i - 1) = Int32.ofNat (110 * (i - 1)) := by
      rw [zt_pred (by omega)]; exact zt_mul 110 (i - 1)
    obtain ⟨t', t1, t2⟩ := zt_cpS (b := 110 * (i - 1)) (by omega) p 110 xFuel 0 p (by omega) (by unfold xFuel; omega) (fun y => by rw [if_neg (by omega)])
    rw [f_X10_ends_20, if_neg (show ¬ (8 : Int32) ≤ Int32.ofNat i from fun q => absurd ((zt_le (a := 8) (by omega) (by omega)).mp q) (by omega)), e1, e2]
    unfold f_X10_copiesS
    rw [show (0 : Int32) = Int32.ofNat 0 from rfl, t1, Option.bind_some, zt_succ]
    refine zt_ends20 m w told p0 r F (i + 1) t' (by omega) (by omega) (by omega) (fun y => ?_)
    rw [t2, Nat.add_sub_cancel, hp, hp]
    by_cases g : y < 110 * (i - 1)
    · rw [if_neg (by omega), if_pos g, if_pos (by omega)]
    · by_cases g2 : y < 110 * i
      · rw [if_pos (by omega), if_neg (by omega), if_pos g2]
      · rw [if_neg (by omega), if_neg g, if_neg g2]
/-- a change is remembered: class and reference -/
theorem zo_remember {J : Int} {h : HiT} {vs : Nat → StS} {cs : Nat → CdT} {es : Nat → EvT} {p w : Nat → Int32} {m : MdT} {v : StS} {c : CdT} {e : EvT} (t : Unit) (told : Int32) (H : zH J h vs cs es p m.1) (hs : zSt J v c e w) (hm : m.2.1 = 0) :
    ∃ (h' : HiT) (vs' : Nat → StS) (cs' : Nat → CdT) (es' : Nat → EvT) (p' : Nat → Int32), f_X4_remember h t vs cs es v c e = some (h', vs', cs', es') ∧ f_X10_ends m w p told = some (told, zCh m h'.2, p') ∧ zH J h' vs' cs' es' p' h'.2 := by
  obtain ⟨a, q, ha, hq, e1, e2, e3, hh⟩ := H
  obtain ⟨c', e', k1, -, k2⟩ := zSt_cp (vs a) (cs a) (es a) hs
  have mm : (Int32.ofNat a + 1) - (Int32.ofNat a + 1) / 8 * 8 = Int32.ofNat ((a + 1) % 8) := by
    rw [zt_succ]; exact zt_mod8 (by omega)
  have rem : ∀ q', jmin (Int32.ofNat q + 1) 8 = Int32.ofNat q' → f_X4_remember h t vs cs es v c e = some ((Int32.ofNat ((a + 1) % 8), Int32.ofNat q'), va_up vs a v, va_up cs a c', va_up es a e') := fun q' hq' => by
    unfold f_X4_remember
    rw [e1, zt_gi ha (by omega), zt_cl (by omega), k1, Option.bind_some, if_neg (show ¬ (8 : Int32) = 0 by decide), mm, e2, hq']
  by_cases h8 : q = 8
  · subst h8
    obtain ⟨p1, g1, g2⟩ := zt_ends20 m w told p 7 xFuel 1 p (by omega) (by unfold xFuel; omega) (by omega) (fun y => by rw [if_neg (by omega)])
    obtain ⟨p2, g3, g4⟩ := zt_ends63 (j := 7) (by omega) (zCh m (m.1 - 1)) w p1 told (by show m.1 - 1 = _; rw [e3]; rfl)
    refine ⟨_, _, _, _, p2, rem 8 (by decide), ?_, (a + 1) % 8, 8, by omega, by omega, rfl, rfl, rfl, fun j hj => ?_⟩
    · unfold f_X10_ends
      rw [if_pos hm, if_pos (by rw [e3]; rfl), show (1 : Int32) = Int32.ofNat 1 from rfl, g1, g3]
      rfl
    · by_cases j7 : j = 7
      · subst j7
        have ei : ((a + 1) % 8 + 8 - 8 + 7) % 8 = a := by omega
        rw [ei]
        simp only [va_up, if_true]
        refine zSt_row k2 (fun x hx => ?_)
        show p2 (110 * 7 + x) = w x
        rw [g4, if_pos (by omega), show 110 * 7 + x - 110 * 7 = x by omega]
      · have ei : ((a + 1) % 8 + 8 - 8 + j) % 8 = (a + 8 - 8 + (j + 1)) % 8 := by omega
        have en : (a + 8 - 8 + (j + 1)) % 8 ≠ a := by omega
        rw [ei]
        simp only [va_up, if_neg en]
        refine zSt_row (hh (j + 1) (by omega)) (fun x hx => ?_)
        show p2 (110 * j + x) = p (110 * (j + 1) + x)
        rw [g4, if_neg (by omega), g2, if_pos (by omega), show 110 * j + x + 110 = 110 * (j + 1) + x by omega]
  · obtain ⟨p2, g3, g4⟩ := zt_ends63 (j := q) (by omega) m w p told e3
    have ej : jmin (Int32.ofNat q + 1) 8 = Int32.ofNat (q + 1) := by
      rw [zt_succ]
      have := zt_jmin (a := q + 1) (b := 8) (by omega) (by omega)
      rw [Nat.min_eq_left (by omega)] at this
      exact this
    refine ⟨_, _, _, _, p2, rem (q + 1) ej, ?_, (a + 1) % 8, q + 1, by omega, by omega, rfl, rfl, rfl, fun j hj => ?_⟩
    · unfold f_X10_ends
      rw [if_pos hm, if_neg (show ¬ m.1 = 8 by rw [e3]; exact fun g => h8 ((zt_eq (b := 8) (by omega) (by omega)).mp g)), g3]
    · by_cases jq : j = q
      · subst jq
        have ei : ((a + 1) % 8 + 8 - (j + 1) + j) % 8 = a := by omega
        rw [ei]
        simp only [va_up, if_true]
        refine zSt_row k2 (fun x hx => ?_)
        rw [g4, if_pos (by omega)]
        congr 1
        omega
      · have ei : ((a + 1) % 8 + 8 - (q + 1) + j) % 8 = (a + 8 - q + j) % 8 := by omega
        have en : (a + 8 - q + j) % 8 ≠ a := by omega
        rw [ei]
        simp only [va_up, if_neg en]
        refine zSt_row (hh j (by omega)) (fun x hx => ?_)
        rw [g4, if_neg (by omega)]
/-- the last change is taken back -/
theorem zo_undo {J : Int} {z : CcT} {h : HiT} {vs : Nat → StS} {cs : Nat → CdT} {es : Nat → EvT} {p : Nat → Int32} {m : MdT} {v : StS} {c : CdT} {e : EvT} {s : Nat → Int32} {lo : Nat → Int64} (t : Unit) (H : zH J h vs cs es p m.1) (hs : zSt J v c e s) :
    ∃ (k b : Int32) (v' : StS) (c' : CdT) (e' : EvT) (h' : HiT) (lo' : Nat → Int64) (s' : Nat → Int32), f_L_undo z v c e h t vs cs es lo = some (k, v', c', e', h', lo') ∧ f_X10_undo m s p = some (b, zCh (zTh m k) h'.2, s') ∧ (k = 0 → lo' 0 = b.toInt64) ∧ zH J h' vs cs es p h'.2 ∧ zSt J v' c' e' s' := by
  obtain ⟨a, q, ha, hq, e1, e2, e3, hh⟩ := H
  unfold f_L_undo f_X9_undo f_X10_undo
  by_cases h0 : q = 0
  · subst h0
    rw [if_pos (by rw [e2]; rfl), if_pos (by rw [e3]; rfl)]
    simp only [Option.bind_some, Sum.elim_inl, if_true]
    refine ⟨1, 0, v, c, e, h, lo, s, rfl, ?_, fun g => absurd g (by decide), ⟨a, 0, ha, by omega, e1, e2, e2, fun j hj => absurd hj (by omega)⟩, hs⟩
    unfold f_X10_undo_13
    rw [zt_thr1, Option.bind_some, if_neg zt_10, e2, ← e3]
    rfl
  · have eq1 : Int32.ofNat q - 1 = Int32.ofNat (q - 1) := zt_pred (by omega)
    have mm : ((Int32.ofNat a + 8) - 1) - ((Int32.ofNat a + 8) - 1) / 8 * 8 = Int32.ofNat ((a + 7) % 8) := by
      have e8 : Int32.ofNat a + 8 - 1 = Int32.ofNat (a + 7) := by
        have : Int32.ofNat a + 8 = Int32.ofNat (a + 8) := zt_add a 8
        rw [this, zt_pred (by omega)]
        rfl
      rw [e8]; exact zt_mod8 (by omega)
    have h1 := hh (q - 1) (by omega)
    have ei : (a + 8 - q + (q - 1)) % 8 = (a + 7) % 8 := by omega
    rw [ei] at h1
    obtain ⟨c', e', k1, -, k2⟩ := zSt_cp v c e h1
    have tb : f_X4_takeBack h t vs cs es v c e = some ((Int32.ofNat ((a + 7) % 8), Int32.ofNat (q - 1)), vs ((a + 7) % 8), c', e') := by
      unfold f_X4_takeBack
      rw [if_neg (by rw [e2]; exact zt_nz (by omega) (by omega)), if_neg (show ¬ (8 : Int32) = 0 by decide), e1, mm, zt_gi (by omega) (by omega), zt_cl (by omega), k1, Option.bind_some, e2, eq1]
    rw [if_neg (show ¬ h.2 = 0 by rw [e2]; exact zt_nz (by omega) (by omega)), if_neg (show ¬ m.1 = 0 by rw [e3]; exact zt_nz (by omega) (by omega)), tb]
    simp only [Option.bind_some, Sum.elim_inr]
    rw [zt_g (by decide)]
    obtain ⟨s', s1, s2⟩ := zt_copiesD (N := 880) (M := 110) (a := 110 * (q - 1)) (b := 0) p s (by omega) (by omega) (by omega) (by omega)
    refine ⟨0, Int32.ofNat (q - 1), _, _, _, _, _, s', rfl, ?_, fun _ => zt_lo _ _, ⟨(a + 7) % 8, q - 1, by omega, by omega, rfl, rfl, rfl, fun j hj => ?_⟩, zSt_row k2 (fun x hx => ?_)⟩
    · unfold f_X10_undo_13
      have e5 : (zTh m 0).1 = Int32.ofNat q := e3
      have e6 : (110 : Int32) * Int32.ofNat (q - 1) = Int32.ofNat (110 * (q - 1)) := zt_mul 110 _
      rw [zt_thr0, Option.bind_some, if_pos rfl]
      simp only [e5, eq1, e6]
      rw [show (0 : Int32) = Int32.ofNat 0 from rfl, s1, Option.bind_some]
      rfl
    · have ej : ((a + 7) % 8 + 8 - (q - 1) + j) % 8 = (a + 8 - q + j) % 8 := by omega
      rw [ej]
      exact hh j (by omega)
    · rw [s2, if_pos (by omega)]
      congr 1
      omega
theorem zo_save {J : Int} {z : CcT} {m : MdT} {v : StS} {c : CdT} {e : EvT} {s : Nat → Int32} (v3 : StS) (c3 : CdT) (e3 : EvT) (d : Nat → Int32) (hs : zSt J v c e s) :
    ∃ (b : Int32) (v' : StS) (c' : CdT) (e' : EvT) (d' : Nat → Int32), f_X9_save z v c e v3 c3 e3 = some (b, (1, z.2.1, z.2.2), v', c', e') ∧ f_X10_save m s d = some (b, (m.1, 0, m.2.2.1, m.2.2.2.1, m.2.2.2.2.1, 1, m.2.2.2.2.2.2), d') ∧ zSt J v' c' e' d' := by
  obtain ⟨c', e', k1, k2, k3⟩ := zSt_cp v3 c3 e3 hs
  obtain ⟨d', d1, d2⟩ := zt_copies0 s d
  refine ⟨c.2.2.2.2, v, c', e', d', ?_, ?_, zSt_row k3 (fun x hx => by rw [d2, if_pos hx])⟩
  · unfold f_X9_save
    rw [k1, Option.bind_some]
  · obtain ⟨n, k, T, h0, h1, h2⟩ := hs
    unfold f_X10_save
    rw [d1, Option.bind_some, zt_G3, zt_n3, h1.2.1.1, h1.1.1]
theorem zo_restore {J : Int} {z : CcT} {m : MdT} {h : HiT} {vs : Nat → StS} {cs : Nat → CdT} {es : Nat → EvT} {p : Nat → Int32} {v v3 : StS} {c c3 : CdT} {e e3 : EvT} {s d : Nat → Int32} {lo : Nat → Int64} (H : zH J h vs cs es p m.1) (hs : zSt J v c e s) (hz : z.1 = m.2.2.2.2.2.1) (h3 : z.1 ≠ 0 → zSt J v3 c3 e3 d) :
    ∃ (k b : Int32) (v' : StS) (c' : CdT) (e' : EvT) (h' : HiT) (lo' : Nat → Int64) (s' : Nat → Int32), f_L_restore z v c e v3 c3 e3 h lo = some (k, v', c', e', h', lo') ∧ f_X10_restore m s d = some (b, zCh (zTh m k) h'.2, s') ∧ (k = 0 → lo' 0 = b.toInt64) ∧ zH J h' vs cs es p h'.2 ∧ zSt J v' c' e' s' := by
  obtain ⟨a, q, ha, hq, e1, e2, e3', hh⟩ := H
  unfold f_L_restore f_X9_restore f_X10_restore
  by_cases h0 : z.1 = 0
  · rw [if_pos h0, if_pos (by rw [← hz]; exact h0)]
    simp only [Option.bind_some, Sum.elim_inl, if_true]
    refine ⟨1, 0, v, c, e, h, lo, s, rfl, ?_, fun g => absurd g (by decide), ⟨a, q, ha, hq, e1, e2, e2, hh⟩, hs⟩
    unfold f_X10_restore_13
    rw [zt_thr1, Option.bind_some, if_neg zt_10, e2, ← e3']
    rfl
  · obtain ⟨c', e', k1, k2, k3⟩ := zSt_cp v c e (h3 h0)
    rw [if_neg h0, if_neg (by rw [← hz]; exact h0), k1]
    unfold f_X4_forget
    simp only [Option.bind_some, Sum.elim_inr]
    rw [zt_g (by decide)]
    obtain ⟨s', s1, s2⟩ := zt_copies0 d s
    refine ⟨0, c'.2.2.2.2, v3, c', e', _, _, s', rfl, ?_, fun _ => zt_lo _ _, ⟨a, 0, ha, by omega, e1, rfl, rfl, fun j hj => absurd hj (by omega)⟩, zSt_row k3 (fun x hx => by rw [s2, if_pos hx])⟩
    obtain ⟨n, k, T, g0, g1, g2⟩ := h3 h0
    unfold f_X10_restore_13
    rw [zt_thr0, Option.bind_some, if_pos rfl, s1, Option.bind_some, zt_G3, zt_n3, s2, if_pos (by omega), g1.2.1.1, k2, g1.1.1]
    rfl
