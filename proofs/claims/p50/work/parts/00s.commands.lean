/-! THE THEORY, 18: the commands of a program -/
/-- a command of the class and its four cells in the reference -/
def zCm (w : CmT) (cm : Nat → Int32) (i : Nat) : Prop :=
  (w.1 = 0 ∧ cm (4 * i) = 99 ∧ cm (4 * i + 1) = w.2.2.2.2.1 ∧ cm (4 * i + 2) = w.2.2.1 ∧ cm (4 * i + 3) = w.2.2.2.1) ∨
  (w.1 = 1 ∧ cm (4 * i) = 108 ∧ cm (4 * i + 1) = w.2.1) ∨
  (w.1 = 2 ∧ cm (4 * i) = 115 ∧ cm (4 * i + 1) = w.2.1) ∨
  (w.1 = 3 ∧ cm (4 * i) = 112 ∧ cm (4 * i + 1) = w.2.1 ∧ cm (4 * i + 2) = w.2.2.1) ∨
  (w.1 = 4 ∧ cm (4 * i) = 100 ∧ cm (4 * i + 1) = w.2.2.1) ∨
  (w.1 = 5 ∧ cm (4 * i) = 110 ∧ cm (4 * i + 1) = w.2.2.1 ∧ cm (4 * i + 2) = w.2.1 ∧ cm (4 * i + 3) = w.2.2.2.2.2 ∧ (w.2.2.2.2.2 = 0 ∨ w.2.2.2.2.2 = 1)) ∨
  (w.1 = 6 ∧ cm (4 * i) = 111 ∧ cm (4 * i + 1) = w.2.2.1) ∨
  (w.1 = 7 ∧ cm (4 * i) = 119 ∧ cm (4 * i + 1) = w.2.2.1)
/-- a reading by class and reference -/
def zRs (len : Nat) (q : PrT) (m : MdT) (c : Int32) (i p need : Nat) (cm : Nat → Int32) (X : Option (Int32 × PrT × CmT)) (Y : Option (Int32 × MdT × (Nat → Int32))) : Prop :=
  ∃ (b : Int32) (p' : Nat) (w' : CmT) (cm' : Nat → Int32), X = some (b, zQp q p', w') ∧ Y = some (b, zMh m p' c, cm') ∧ p' ≤ len ∧ (∀ y, y < 4 * i → cm' y = cm y) ∧ (b = 0 ∨ b = 1 ∧ p + need ≤ p' ∧ zCm w' cm' i)
theorem zRs_no {len : Nat} {q : PrT} {m : MdT} {c : Int32} {i p need p' : Nat} {cm cm' : Nat → Int32} {w' : CmT} (hp : p' ≤ len) (hf : ∀ y, y < 4 * i → cm' y = cm y) : zRs len q m c i p need cm (some (0, zQp q p', w')) (some (0, zMh m p' c, cm')) :=
  ⟨0, p', w', cm', rfl, rfl, hp, hf, Or.inl rfl⟩
theorem zRs_yes {len : Nat} {q : PrT} {m : MdT} {c : Int32} {i p need p' : Nat} {cm cm' : Nat → Int32} {w' : CmT} (hp : p' ≤ len) (hf : ∀ y, y < 4 * i → cm' y = cm y) (hn : p + need ≤ p') (hc : zCm w' cm' i) : zRs len q m c i p need cm (some (1, zQp q p', w')) (some (1, zMh m p' c, cm')) :=
  ⟨1, p', w', cm', rfl, rfl, hp, hf, Or.inr ⟨rfl, hn, hc⟩⟩
section CD
variable {len : Nat} {q : PrT} {m : MdT} {tp : Nat → Int32}
theorem zt_num (h : zTx len q m tp) {most at' p : Nat} (hm : most ≤ 3) (ha : at' < 124) (hp : p ≤ len) (cm : Nat → Int32) (c : Int32) (w : CmT) :
    (∃ (p' : Nat) (y : Int32), p + 1 ≤ p' ∧ p' ≤ len ∧ f_X6_readNumber (zQp q p) w (Int32.ofNat most) = some (1, zQp q p', (w.1, w.2.1, y, w.2.2.2.1, w.2.2.2.2.1, w.2.2.2.2.2)) ∧ f_X10_isNumber (zMh m p c) tp cm (Int32.ofNat most) (Int32.ofNat at') = some (1, zMh m p' c, upd cm at' y)) ∨
    (∃ (y : Int32) (w' : CmT), f_X6_readNumber (zQp q p) w (Int32.ofNat most) = some (0, zQp q p, w') ∧ f_X10_isNumber (zMh m p c) tp cm (Int32.ofNat most) (Int32.ofNat at') = some (0, zMh m p c, upd cm at' y)) := by
  unfold f_X6_readNumber
  rcases zt_dig h hm ha hp cm c with ⟨p', y, g1, g2, g3, g4, g5⟩ | ⟨y, g4, g5⟩
  · refine Or.inl ⟨p', y, g1, g2, ?_, g5⟩
    rw [g4, Option.bind_some, if_neg g3]
  · refine Or.inr ⟨y, (w.1, w.2.1, -1, w.2.2.2.1, w.2.2.2.2.1, w.2.2.2.2.2), ?_, g5⟩
    rw [g4, Option.bind_some, if_pos rfl]
theorem zt_num3 (h : zTx len q m tp) {at' p : Nat} (ha : at' < 124) (hp : p ≤ len) (cm : Nat → Int32) (c : Int32) (w : CmT) :
    (∃ (p' : Nat) (y : Int32), p + 1 ≤ p' ∧ p' ≤ len ∧ f_X6_readNumber (zQp q p) w 3 = some (1, zQp q p', (w.1, w.2.1, y, w.2.2.2.1, w.2.2.2.2.1, w.2.2.2.2.2)) ∧ f_X10_isNumber (zMh m p c) tp cm 3 (Int32.ofNat at') = some (1, zMh m p' c, upd cm at' y)) ∨
    (∃ (y : Int32) (w' : CmT), f_X6_readNumber (zQp q p) w 3 = some (0, zQp q p, w') ∧ f_X10_isNumber (zMh m p c) tp cm 3 (Int32.ofNat at') = some (0, zMh m p c, upd cm at' y)) := zt_num h (most := 3) (by omega) ha hp cm c w
theorem zt_num1 (h : zTx len q m tp) {at' p : Nat} (ha : at' < 124) (hp : p ≤ len) (cm : Nat → Int32) (c : Int32) (w : CmT) :
    (∃ (p' : Nat) (y : Int32), p + 1 ≤ p' ∧ p' ≤ len ∧ f_X6_readNumber (zQp q p) w 1 = some (1, zQp q p', (w.1, w.2.1, y, w.2.2.2.1, w.2.2.2.2.1, w.2.2.2.2.2)) ∧ f_X10_isNumber (zMh m p c) tp cm 1 (Int32.ofNat at') = some (1, zMh m p' c, upd cm at' y)) ∨
    (∃ (y : Int32) (w' : CmT), f_X6_readNumber (zQp q p) w 1 = some (0, zQp q p, w') ∧ f_X10_isNumber (zMh m p c) tp cm 1 (Int32.ofNat at') = some (0, zMh m p c, upd cm at' y)) := zt_num h (most := 1) (by omega) ha hp cm c w
theorem zt_dig1 (h : zTx len q m tp) {at' p : Nat} (ha : at' < 124) (hp : p ≤ len) (cm : Nat → Int32) (c : Int32) :
    (∃ (p' : Nat) (y : Int32), p + 1 ≤ p' ∧ p' ≤ len ∧ y ≠ -1 ∧ f_X6_readDigits (zQp q p) 1 = some (y, zQp q p') ∧ f_X10_isNumber (zMh m p c) tp cm 1 (Int32.ofNat at') = some (1, zMh m p' c, upd cm at' y)) ∨
    (∃ y : Int32, f_X6_readDigits (zQp q p) 1 = some (-1, zQp q p) ∧ f_X10_isNumber (zMh m p c) tp cm 1 (Int32.ofNat at') = some (0, zMh m p c, upd cm at' y)) := zt_dig h (most := 1) (by omega) ha hp cm c
theorem zt_cnd (h : zTx len q m tp) {at' p : Nat} (ha : at' < 124) (hp : p ≤ len) (cm : Nat → Int32) (c : Int32) (w : CmT) :
    (∃ (p' : Nat) (y : Int32), p + 1 ≤ p' ∧ p' ≤ len ∧ f_X6_readCandle (zQp q p) w = some (1, zQp q p', (w.1, y, w.2.2.1, w.2.2.2.1, w.2.2.2.2.1, w.2.2.2.2.2)) ∧ f_X10_isNumber (zMh m p c) tp cm 1 (Int32.ofNat at') = some (1, zMh m p' c, upd cm at' y)) ∨
    (∃ (y : Int32) (w' : CmT), f_X6_readCandle (zQp q p) w = some (0, zQp q p, w') ∧ f_X10_isNumber (zMh m p c) tp cm 1 (Int32.ofNat at') = some (0, zMh m p c, upd cm at' y)) := by
  unfold f_X6_readCandle
  rcases zt_dig1 h ha hp cm c with ⟨p', y, g1, g2, g3, g4, g5⟩ | ⟨y, g4, g5⟩
  · refine Or.inl ⟨p', y, g1, g2, ?_, g5⟩
    rw [g4, Option.bind_some, if_neg g3]
  · refine Or.inr ⟨y, (w.1, -1, w.2.2.1, w.2.2.2.1, w.2.2.2.2.1, w.2.2.2.2.2), ?_, g5⟩
    rw [g4, Option.bind_some, if_pos rfl]
theorem zt_voice (h : zTx len q m tp) {p : Nat} (hp : p ≤ len) (w : CmT) :
    (p < len ∧ zVo (tp p) ∧ f_X6_readVoice (zQp q p) w = some (1, zQp q (p + 1), (w.1, w.2.1, w.2.2.1, w.2.2.2.1, tp p, w.2.2.2.2.2))) ∨ (¬ (p < len ∧ zVo (tp p)) ∧ f_X6_readVoice (zQp q p) w = some (0, zQp q p, w)) := by
  have st : ∀ (F i : Nat), i < 4 → f_X6_readVoice_2 (F + 1) (zQp q p) w (Int32.ofNat i) = if p < len ∧ tp p = voT.getD i 0 then some (1, zQp q (p + 1), (w.1, w.2.1, w.2.2.1, w.2.2.2.1, tp p, w.2.2.2.2.2)) else f_X6_readVoice_2 F (zQp q p) w (Int32.ofNat (i + 1)) := fun F i hi => by
    have hv : zVo (voT.getD i 0) := by
      have h9 : i = 0 ∨ i = 1 ∨ i = 2 ∨ i = 3 := by omega
      rcases h9 with rfl | rfl | rfl | rfl
      · exact Or.inl rfl
      · exact Or.inr (Or.inl rfl)
      · exact Or.inr (Or.inr (Or.inl rfl))
      · exact Or.inr (Or.inr (Or.inr rfl))
    rw [f_X6_readVoice_2, if_neg (show ¬ (4 : Int32) ≤ Int32.ofNat i from fun q => absurd ((zt_le (a := 4) (by omega) (by omega)).mp q) (by omega)), zt_gi (by omega) (by omega), zt_cl (by omega), zt_acc' h hp, Option.bind_some]
    by_cases g : p < len ∧ tp p = voT.getD i 0
    · rw [if_pos g, if_neg zt_10, zt_gj (by omega) (by omega), if_pos (zt_ch (zt_vchar hv)), if_pos g, g.2]
    · rw [if_neg g, if_pos rfl, if_neg g, zt_succ]
  unfold f_X6_readVoice
  rw [show f_X6_readVoice_2 xFuel (zQp q p) w 0 = f_X6_readVoice_2 (3999995 + 1 + 1 + 1 + 1 + 1) (zQp q p) w (Int32.ofNat 0) from rfl, st _ 0 (by omega), st _ 1 (by omega), st _ 2 (by omega), st _ 3 (by omega)]
  have g0 : voT.getD 0 0 = 115 := rfl
  have g1 : voT.getD 1 0 = 97 := rfl
  have g2 : voT.getD 2 0 = 116 := rfl
  have g3 : voT.getD 3 0 = 98 := rfl
  rw [g0, g1, g2, g3, f_X6_readVoice_2, if_pos (show (4 : Int32) ≤ Int32.ofNat (3 + 1) by decide)]
  by_cases gp : p < len
  · by_cases e0 : tp p = 115
    · exact Or.inl ⟨gp, Or.inl e0, if_pos ⟨gp, e0⟩⟩
    · rw [if_neg (fun k => e0 k.2)]
      by_cases e1 : tp p = 97
      · exact Or.inl ⟨gp, Or.inr (Or.inl e1), if_pos ⟨gp, e1⟩⟩
      · rw [if_neg (fun k => e1 k.2)]
        by_cases e2 : tp p = 116
        · exact Or.inl ⟨gp, Or.inr (Or.inr (Or.inl e2)), if_pos ⟨gp, e2⟩⟩
        · rw [if_neg (fun k => e2 k.2)]
          by_cases e3 : tp p = 98
          · exact Or.inl ⟨gp, Or.inr (Or.inr (Or.inr e3)), if_pos ⟨gp, e3⟩⟩
          · refine Or.inr ⟨?_, if_neg (fun k => e3 k.2)⟩
            rintro ⟨-, k | k | k | k⟩
            · exact e0 k
            · exact e1 k
            · exact e2 k
            · exact e3 k
  · refine Or.inr ⟨fun k => gp k.1, ?_⟩
    rw [if_neg (fun k => gp k.1), if_neg (fun k => gp k.1), if_neg (fun k => gp k.1), if_neg (fun k => gp k.1)]
/-- a new candle -/
theorem zt_rC (h : zTx len q m tp) {p i : Nat} (hp : p ≤ len) (hi : i ≤ 12) (cm : Nat → Int32) (c : Int32) (w : CmT) (h0 : cm (4 * i) = 99) :
    zRs len q m c i p 3 cm ((f_X6_acceptAll (zQp q p) 18).bind fun u29 => (if u29.1 = (0 : Int32) then (some ((0 : Int32), u29.2, w)) else ((f_X6_readNewCandle u29.2 w).bind fun u31 => (if u31.1 = (0 : Int32) then (some ((0 : Int32), u31.2.1, u31.2.2)) else (some ((1 : Int32), u31.2.1, u31.2.2)))))) (f_X10_readsCandle (zMh m p c) tp cm (Int32.ofNat (4 * i))) := by
  have h60 := h.2.2.1
  unfold f_X10_readsCandle f_X6_readNewCandle
  obtain ⟨b, p1, a1, a2, a3, a4⟩ := zt_word h zw_18 hp c
  rw [a1, a2]
  rcases a4 with rfl | ⟨rfl, a4⟩
  · exact zRs_no a3 (fun _ _ => rfl)
  simp only [Option.bind_some, if_neg zt_10]
  rw [zt_now h a3]
  rcases zt_voice h a3 (0, w.2.1, w.2.2.1, w.2.2.2.1, w.2.2.2.2.1, w.2.2.2.2.2) with ⟨g1, g2, g3⟩ | ⟨g, g3⟩
  · rw [g3, if_pos g1]
    simp only [Option.bind_some, if_neg zt_10]
    rw [((zt_isVoice (tp p1)).1 g2).2, zt_succ]
    simp only [Option.bind_some, if_neg zt_10]
    rw [zt_gi (by omega) (by omega), zt_cl (by omega)]
    have e2 : Int32.ofNat (4 * i) + 2 = Int32.ofNat (4 * i + 2) := zt_add _ 2
    have e3 : Int32.ofNat (4 * i) + 3 = Int32.ofNat (4 * i + 3) := zt_add _ 3
    rw [e2, e3]
    have eM : (f_X10_isNumber ((zMh m p1 c).1, (zMh m p1 c).2.1, (zMh m p1 c).2.2.1, (zMh m p1 c).2.2.2.1, (zMh m p1 c).2.2.2.2.1, (zMh m p1 c).2.2.2.2.2.1, (zMh m p1 c).2.2.2.2.2.2.1, (zMh m p1 c).2.2.2.2.2.2.2.1, (zMh m p1 c).2.2.2.2.2.2.2.2.1 + 1, (zMh m p1 c).2.2.2.2.2.2.2.2.2) tp (upd cm (4 * i + 1) (tp p1)) 3 (Int32.ofNat (4 * i + 2))) = f_X10_isNumber (zMh m (p1 + 1) c) tp (upd cm (4 * i + 1) (tp p1)) 3 (Int32.ofNat (4 * i + 2)) := by
      rw [zMh_s]; rfl
    rw [eM]
    rcases zt_num3 h (at' := 4 * i + 2) (p := p1 + 1) (by omega) (by omega) (upd cm (4 * i + 1) (tp p1)) c (0, w.2.1, w.2.2.1, w.2.2.2.1, tp p1, w.2.2.2.2.2) with ⟨p2, y, k1, k2, k3, k4⟩ | ⟨y, w2, k3, k4⟩
    · rw [k3, k4]
      simp only [Option.bind_some, if_neg zt_10]
      rcases zt_acc h k2 47 (by decide) c with ⟨j1, -, j2, j3⟩ | ⟨-, j2, j3⟩
      · rw [j2, j3]
        simp only [Option.bind_some, if_neg zt_10]
        rcases zt_dig1 h (at' := 4 * i + 3) (p := p2 + 1) (by omega) j1 (upd (upd cm (4 * i + 1) (tp p1)) (4 * i + 2) y) c with ⟨p3, y2, l1, l2, l3, l4, l5⟩ | ⟨y2, l4, l5⟩
        · rw [l4, l5]
          simp only [Option.bind_some, if_neg l3]
          rw [if_neg zt_10, if_neg zt_10]
          refine zRs_yes l2 (fun z hz => by simp (disch := omega) only [upd, if_neg, if_pos, if_true, if_false, ↓reduceIte]) (by omega) (Or.inl ⟨rfl, ?_, ?_, ?_, ?_⟩)
          · simp (disch := omega) only [upd, if_neg, if_pos, if_true, if_false, ↓reduceIte]
            exact h0
          · simp (disch := omega) only [upd, if_neg, if_pos, if_true, if_false, ↓reduceIte]
          · simp (disch := omega) only [upd, if_neg, if_pos, if_true, if_false, ↓reduceIte]
          · simp (disch := omega) only [upd, if_neg, if_pos, if_true, if_false, ↓reduceIte]
        · rw [l4, l5]
          simp only [Option.bind_some, if_true]
          exact zRs_no j1 (fun z hz => by simp (disch := omega) only [upd, if_neg, if_pos, if_true, if_false, ↓reduceIte])
      · rw [j2, j3]
        simp only [Option.bind_some, if_true]
        exact zRs_no k2 (fun z hz => by simp (disch := omega) only [upd, if_neg, if_pos, if_true, if_false, ↓reduceIte])
    · rw [k3, k4]
      simp only [Option.bind_some, if_true]
      exact zRs_no (by omega) (fun z hz => by simp (disch := omega) only [upd, if_neg, if_pos, if_true, if_false, ↓reduceIte])
  · have hv : f_X10_isVoice (if p1 < len then tp p1 else -1) = some 0 := by
      refine ((zt_isVoice _).2 ?_).2
      by_cases gp : p1 < len
      · rw [if_pos gp]; exact fun k => g ⟨gp, k⟩
      · rw [if_neg gp]; rintro (k | k | k | k) <;> exact absurd k (by decide)
    simp only [g3, hv, Option.bind_some, if_true]
    exact zRs_no a3 (fun _ _ => rfl)
/-- to light, to snuff -/
theorem zt_rL (h : zTx len q m tp) {p i x L kd : Nat} {f : Int32} (hp : p ≤ len) (hi : i ≤ 12) (hw : zWd x L) (hL : 3 ≤ L) (cm : Nat → Int32) (c : Int32) (w : CmT) (h0 : cm (4 * i) = f) (hk : (kd = 1 ∧ f = 108) ∨ (kd = 2 ∧ f = 115)) :
    zRs len q m c i p 3 cm ((f_X6_acceptAll (zQp q p) x).bind fun u25 => (if u25.1 = (0 : Int32) then (some ((0 : Int32), u25.2, (kd, w.2.1, w.2.2.1, w.2.2.2.1, w.2.2.2.2.1, w.2.2.2.2.2))) else ((f_X6_readCandle u25.2 (kd, w.2.1, w.2.2.1, w.2.2.2.1, w.2.2.2.2.1, w.2.2.2.2.2)).bind fun u27 => (if u27.1 = (0 : Int32) then (some ((0 : Int32), u27.2.1, u27.2.2)) else (some ((1 : Int32), u27.2.1, u27.2.2)))))) ((f_X10_isWord (zMh m p c) tp x).bind fun u8 => (if u8.1 = (0 : Int32) then (some ((0 : Int32), u8.2, cm)) else ((f_X10_isNumber u8.2 tp cm (1 : Int32) (Int32.ofNat (4 * i) + (1 : Int32))).bind fun u10 => (if u10.1 = (0 : Int32) then (some ((0 : Int32), u10.2.1, u10.2.2)) else (some ((1 : Int32), u10.2.1, u10.2.2)))))) := by
  have h60 := h.2.2.1
  obtain ⟨b, p1, a1, a2, a3, a4⟩ := zt_word h hw hp c
  rw [a1, a2]
  rcases a4 with rfl | ⟨rfl, a4⟩
  · exact zRs_no a3 (fun _ _ => rfl)
  simp only [Option.bind_some, if_neg zt_10]
  rw [zt_succ]
  rcases zt_cnd h (at' := 4 * i + 1) (by omega) a3 cm c (kd, w.2.1, w.2.2.1, w.2.2.2.1, w.2.2.2.2.1, w.2.2.2.2.2) with ⟨p2, y, k1, k2, k3, k4⟩ | ⟨y, w2, k3, k4⟩
  · rw [k3, k4]
    simp only [Option.bind_some, if_neg zt_10]
    refine zRs_yes k2 (fun z hz => by simp (disch := omega) only [upd, if_neg, if_pos, if_true, if_false, ↓reduceIte]) (by omega) ?_
    rcases hk with ⟨rfl, rfl⟩ | ⟨rfl, rfl⟩
    · exact Or.inr (Or.inl ⟨rfl, by simp (disch := omega) only [upd, if_neg, if_pos, if_true, if_false, ↓reduceIte]; exact h0, by simp (disch := omega) only [upd, if_neg, if_pos, if_true, if_false, ↓reduceIte]⟩)
    · exact Or.inr (Or.inr (Or.inl ⟨rfl, by simp (disch := omega) only [upd, if_neg, if_pos, if_true, if_false, ↓reduceIte]; exact h0, by simp (disch := omega) only [upd, if_neg, if_pos, if_true, if_false, ↓reduceIte]⟩))
  · rw [k3, k4]
    simp only [Option.bind_some, if_true]
    exact zRs_no (by omega) (fun z hz => by simp (disch := omega) only [upd, if_neg, if_pos, if_true, if_false, ↓reduceIte])
/-- to wait -/
theorem zt_rW (h : zTx len q m tp) {p i : Nat} (hp : p ≤ len) (hi : i ≤ 12) (cm : Nat → Int32) (c : Int32) (w : CmT) (h0 : cm (4 * i) = 119) :
    zRs len q m c i p 3 cm ((f_X6_acceptAll (zQp q p) 25).bind fun u13 => (if u13.1 = (0 : Int32) then (some ((0 : Int32), u13.2, w)) else ((f_X6_readDuration u13.2 w).bind fun u15 => (if u15.1 = (0 : Int32) then (some ((0 : Int32), u15.2.1, u15.2.2)) else (some ((1 : Int32), u15.2.1, u15.2.2)))))) (f_X10_readsWait (zMh m p c) tp cm (Int32.ofNat (4 * i))) := by
  have h60 := h.2.2.1
  unfold f_X10_readsWait f_X6_readDuration
  rw [zt_succ, zt_gi (by omega) (by omega), zt_cl (by omega)]
  obtain ⟨b, p1, a1, a2, a3, a4⟩ := zt_word h zw_25 hp c
  rw [a1, a2]
  rcases a4 with rfl | ⟨rfl, a4⟩
  · simp only [Option.bind_some, if_true]
    exact zRs_no a3 (fun z hz => by simp (disch := omega) only [upd, if_neg, if_pos, if_true, if_false, ↓reduceIte])
  simp only [Option.bind_some, if_neg zt_10]
  rcases zt_acc h a3 32 (by decide) c with ⟨j1, -, j2, j3⟩ | ⟨-, j2, j3⟩
  · rw [j2, j3]
    simp only [Option.bind_some, if_neg zt_10]
    rcases zt_num3 h (at' := 4 * i + 1) (by omega) j1 (upd cm (4 * i + 1) 1) c (7, w.2.1, (1 : Int32), w.2.2.2.1, w.2.2.2.2.1, w.2.2.2.2.2) with ⟨p2, y, k1, k2, k3, k4⟩ | ⟨y, w2, k3, k4⟩
    · rw [k3, k4]
      simp only [Option.bind_some, if_neg zt_10]
      refine zRs_yes k2 (fun z hz => by simp (disch := omega) only [upd, if_neg, if_pos, if_true, if_false, ↓reduceIte]) (by omega) (Or.inr (Or.inr (Or.inr (Or.inr (Or.inr (Or.inr (Or.inr ⟨rfl, ?_, ?_⟩)))))))
      · simp (disch := omega) only [upd, if_neg, if_pos, if_true, if_false, ↓reduceIte]
        exact h0
      · simp (disch := omega) only [upd, if_neg, if_pos, if_true, if_false, ↓reduceIte]
    · rw [k3, k4]
      simp only [Option.bind_some, if_true]
      exact zRs_no j1 (fun z hz => by simp (disch := omega) only [upd, if_neg, if_pos, if_true, if_false, ↓reduceIte])
  · rw [j2, j3]
    simp only [Option.bind_some, if_true, if_neg zt_10]
    refine zRs_yes a3 (fun z hz => by simp (disch := omega) only [upd, if_neg, if_pos, if_true, if_false, ↓reduceIte]) (by omega) (Or.inr (Or.inr (Or.inr (Or.inr (Or.inr (Or.inr (Or.inr ⟨rfl, ?_, ?_⟩)))))))
    · simp (disch := omega) only [upd, if_neg, if_pos, if_true, if_false, ↓reduceIte]
      exact h0
    · simp (disch := omega) only [upd, if_neg, if_pos, if_true, if_false, ↓reduceIte]
/-- draught or drop -/
theorem zt_rD (h : zTx len q m tp) {p i : Nat} (hp : p ≤ len) (hi : i ≤ 12) (cm : Nat → Int32) (c : Int32) (w : CmT) (h0 : cm (4 * i) = 100) :
    zRs len q m c i p 3 cm (f_X6_readDraughtOrDrop (zQp q p) w) (f_X10_readsD (zMh m p c) tp cm (Int32.ofNat (4 * i))) := by
  have h60 := h.2.2.1
  unfold f_X10_readsD f_X6_readDraughtOrDrop
  rcases zt_acc h hp 114 (by decide) c with ⟨j1, -, j2, j3⟩ | ⟨-, j2, j3⟩
  · rw [j2, j3]
    simp only [Option.bind_some, if_neg zt_10]
    rcases zt_acc h j1 97 (by decide) c with ⟨i1, -, i2, i3⟩ | ⟨-, i2, i3⟩
    · rw [i2, i3]
      simp only [Option.bind_some, if_neg zt_10]
      obtain ⟨b, p1, a1, a2, a3, a4⟩ := zt_word h zw_23 i1 c
      rw [a1, a2]
      rcases a4 with rfl | ⟨rfl, a4⟩
      · simp only [Option.bind_some, if_true]
        exact zRs_no a3 (fun z hz => rfl)
      simp only [Option.bind_some, if_neg zt_10]
      rw [zt_succ]
      rcases zt_num1 h (at' := 4 * i + 1) (by omega) a3 cm c (4, w.2.1, w.2.2.1, w.2.2.2.1, w.2.2.2.2.1, w.2.2.2.2.2) with ⟨p2, y, k1, k2, k3, k4⟩ | ⟨y, w2, k3, k4⟩
      · rw [k3, k4]
        simp only [Option.bind_some]
        rw [if_neg zt_10, if_neg zt_10]
        exact zRs_yes k2 (fun z hz => by simp (disch := omega) only [upd, if_neg, if_pos, if_true, if_false, ↓reduceIte]) (by omega) (Or.inr (Or.inr (Or.inr (Or.inr (Or.inl ⟨rfl, by simp (disch := omega) only [upd, if_neg, if_pos, if_true, if_false, ↓reduceIte]; exact h0, by simp (disch := omega) only [upd, if_neg, if_pos, if_true, if_false, ↓reduceIte]⟩)))))
      · rw [k3, k4]
        simp only [Option.bind_some, if_true]
        exact zRs_no a3 (fun z hz => by simp (disch := omega) only [upd, if_neg, if_pos, if_true, if_false, ↓reduceIte])
    · rw [i2, i3]
      simp only [Option.bind_some, if_true]
      rw [zt_gi (by omega) (by omega), zt_cl (by omega)]
      obtain ⟨b, p1, a1, a2, a3, a4⟩ := zt_word h zw_24 j1 c
      rw [a1, a2]
      rcases a4 with rfl | ⟨rfl, a4⟩
      · simp only [Option.bind_some, if_true]
        exact zRs_no a3 (fun z hz => by simp (disch := omega) only [upd, if_neg, if_pos, if_true, if_false, ↓reduceIte])
      simp only [Option.bind_some, if_neg zt_10]
      rw [zt_succ]
      rcases zt_num3 h (at' := 4 * i + 1) (by omega) a3 (upd cm (4 * i) 111) c (6, w.2.1, w.2.2.1, w.2.2.2.1, w.2.2.2.2.1, w.2.2.2.2.2) with ⟨p2, y, k1, k2, k3, k4⟩ | ⟨y, w2, k3, k4⟩
      · rw [k3, k4]
        simp only [Option.bind_some, if_neg zt_10]
        exact zRs_yes k2 (fun z hz => by simp (disch := omega) only [upd, if_neg, if_pos, if_true, if_false, ↓reduceIte]) (by omega) (Or.inr (Or.inr (Or.inr (Or.inr (Or.inr (Or.inr (Or.inl ⟨rfl, by simp (disch := omega) only [upd, if_neg, if_pos, if_true, if_false, ↓reduceIte], by simp (disch := omega) only [upd, if_neg, if_pos, if_true, if_false, ↓reduceIte]⟩)))))))
      · rw [k3, k4]
        simp only [Option.bind_some, if_true]
        exact zRs_no a3 (fun z hz => by simp (disch := omega) only [upd, if_neg, if_pos, if_true, if_false, ↓reduceIte])
  · rw [j2, j3]
    simp only [Option.bind_some, if_true]
    exact zRs_no hp (fun z hz => rfl)
/-- pour or plan -/
theorem zt_kind (h : zTx len q m tp) {p at' : Nat} (hp : p ≤ len) (ha : at' < 124) (cm : Nat → Int32) (c : Int32) (w : CmT) :
    ∃ (b l : Int32) (p' : Nat), f_X6_readLighting (zQp q p) w = some (b, zQp q p', (w.1, w.2.1, w.2.2.1, w.2.2.2.1, w.2.2.2.2.1, l)) ∧ f_X10_isKind (zMh m p c) tp cm (Int32.ofNat at') = some (b, zMh m p' c, upd cm at' l) ∧ p' ≤ len ∧ (l = 0 ∨ l = 1) ∧ (b = 0 ∨ b = 1 ∧ p + 1 ≤ p') := by
  unfold f_X6_readLighting f_X10_isKind f_X10_isKind_19
  rw [zt_now h hp, Option.bind_some, zt_gi ha (by omega), zt_cl (by omega)]
  rcases zt_acc h hp 108 (by decide) c with ⟨j1, j0, j2, j3⟩ | ⟨j0, j2, j3⟩
  · rw [j2, j3, if_pos (show p < len by omega), if_pos j0]
    simp only [Option.bind_some, if_neg zt_10]
    rw [if_pos (Or.inr trivial)]
    exact ⟨1, 1, p + 1, rfl, rfl, j1, Or.inr rfl, Or.inr ⟨rfl, Nat.le_refl _⟩⟩
  · have hn : ¬ (if p < len then tp p else -1) = 108 := by
      by_cases g : p < len
      · rw [if_pos g]; exact fun k => j0 ⟨g, k⟩
      · rw [if_neg g]; decide
    rw [j2, j3, if_neg hn]
    simp only [Option.bind_some, if_true]
    rw [if_pos (Or.inl trivial), zt_gj ha (by omega)]
    rcases zt_acc h hp 115 (by decide) c with ⟨i1, -, i2, i3⟩ | ⟨-, i2, i3⟩
    · rw [i2, i3]
      simp only [Option.bind_some, if_neg zt_10]
      exact ⟨1, 0, p + 1, rfl, rfl, i1, Or.inl rfl, Or.inr ⟨rfl, Nat.le_refl _⟩⟩
    · rw [i2, i3]
      simp only [Option.bind_some, if_true]
      exact ⟨0, 0, p, rfl, rfl, hp, Or.inl rfl, Or.inl rfl⟩
theorem zt_rP (h : zTx len q m tp) {p i : Nat} (hp : p ≤ len) (hi : i ≤ 12) (cm : Nat → Int32) (c : Int32) (w : CmT) (h0 : cm (4 * i) = 112) :
    zRs len q m c i p 3 cm (f_X6_readPourOrPlan (zQp q p) w) (f_X10_readsP (zMh m p c) tp cm (Int32.ofNat (4 * i))) := by
  have h60 := h.2.2.1
  have e2 : Int32.ofNat (4 * i) + 2 = Int32.ofNat (4 * i + 2) := zt_add _ 2
  have e3 : Int32.ofNat (4 * i) + 3 = Int32.ofNat (4 * i + 3) := zt_add _ 3
  unfold f_X10_readsP f_X6_readPourOrPlan
  rw [e2, e3, zt_succ]
  rcases zt_acc h hp 111 (by decide) c with ⟨j1, -, j2, j3⟩ | ⟨-, j2, j3⟩
  · rw [j2, j3]
    simp only [Option.bind_some, if_neg zt_10]
    obtain ⟨b, p1, a1, a2, a3, a4⟩ := zt_word h zw_21 j1 c
    rw [a1, a2]
    rcases a4 with rfl | ⟨rfl, a4⟩
    · simp only [Option.bind_some, if_true]
      exact zRs_no a3 (fun z hz => rfl)
    simp only [Option.bind_some, if_neg zt_10]
    rcases zt_cnd h (at' := 4 * i + 1) (by omega) a3 cm c (3, w.2.1, w.2.2.1, w.2.2.2.1, w.2.2.2.2.1, w.2.2.2.2.2) with ⟨p2, y, k1, k2, k3, k4⟩ | ⟨y, w2, k3, k4⟩
    · rw [k3, k4]
      simp only [Option.bind_some, if_neg zt_10]
      rcases zt_acc h k2 43 (by decide) c with ⟨i1, -, i2, i3⟩ | ⟨-, i2, i3⟩
      · rw [i2, i3]
        simp only [Option.bind_some, if_neg zt_10]
        rcases zt_num3 h (at' := 4 * i + 2) (by omega) i1 (upd cm (4 * i + 1) y) c (3, y, w.2.2.1, w.2.2.2.1, w.2.2.2.2.1, w.2.2.2.2.2) with ⟨p3, y2, l1, l2, l3, l4⟩ | ⟨y2, w2, l3, l4⟩
        · rw [l3, l4]
          simp only [Option.bind_some, if_neg zt_10]
          exact zRs_yes l2 (fun z hz => by simp (disch := omega) only [upd, if_neg, if_pos, if_true, if_false, ↓reduceIte]) (by omega) (Or.inr (Or.inr (Or.inr (Or.inl ⟨rfl, by simp (disch := omega) only [upd, if_neg, if_pos, if_true, if_false, ↓reduceIte]; exact h0, by simp (disch := omega) only [upd, if_neg, if_pos, if_true, if_false, ↓reduceIte], by simp (disch := omega) only [upd, if_neg, if_pos, if_true, if_false, ↓reduceIte]⟩))))
        · rw [l3, l4]
          simp only [Option.bind_some, if_true]
          exact zRs_no i1 (fun z hz => by simp (disch := omega) only [upd, if_neg, if_pos, if_true, if_false, ↓reduceIte])
      · rw [i2, i3]
        simp only [Option.bind_some, if_true]
        exact zRs_no k2 (fun z hz => by simp (disch := omega) only [upd, if_neg, if_pos, if_true, if_false, ↓reduceIte])
    · rw [k3, k4]
      simp only [Option.bind_some, if_true]
      exact zRs_no (by omega) (fun z hz => by simp (disch := omega) only [upd, if_neg, if_pos, if_true, if_false, ↓reduceIte])
  · rw [j2, j3]
    simp only [Option.bind_some, if_true]
    rw [zt_gi (by omega) (by omega), zt_cl (by omega)]
    obtain ⟨b, p1, a1, a2, a3, a4⟩ := zt_word h zw_22 hp c
    rw [a1, a2]
    rcases a4 with rfl | ⟨rfl, a4⟩
    · simp only [Option.bind_some, if_true]
      exact zRs_no a3 (fun z hz => by simp (disch := omega) only [upd, if_neg, if_pos, if_true, if_false, ↓reduceIte])
    simp only [Option.bind_some, if_neg zt_10]
    rcases zt_num3 h (at' := 4 * i + 1) (by omega) a3 (upd cm (4 * i) 110) c (5, w.2.1, w.2.2.1, w.2.2.2.1, w.2.2.2.2.1, w.2.2.2.2.2) with ⟨p2, y, k1, k2, k3, k4⟩ | ⟨y, w2, k3, k4⟩
    · rw [k3, k4]
      simp only [Option.bind_some, if_neg zt_10]
      rcases zt_acc h k2 32 (by decide) c with ⟨i1, -, i2, i3⟩ | ⟨-, i2, i3⟩
      · rw [i2, i3]
        simp only [Option.bind_some, if_neg zt_10]
        obtain ⟨b, l, p3, l1, l2, l3, l4, l5⟩ := zt_kind h (at' := 4 * i + 3) i1 (by omega) (upd (upd cm (4 * i) 110) (4 * i + 1) y) c (5, w.2.1, y, w.2.2.2.1, w.2.2.2.2.1, w.2.2.2.2.2)
        rw [l1, l2]
        rcases l5 with rfl | ⟨rfl, l5⟩
        · simp only [Option.bind_some, if_true]
          exact zRs_no l3 (fun z hz => by simp (disch := omega) only [upd, if_neg, if_pos, if_true, if_false, ↓reduceIte])
        simp only [Option.bind_some, if_neg zt_10]
        rcases zt_cnd h (at' := 4 * i + 2) (by omega) l3 (upd (upd (upd cm (4 * i) 110) (4 * i + 1) y) (4 * i + 3) l) c (5, w.2.1, y, w.2.2.2.1, w.2.2.2.2.1, l) with ⟨p4, y2, o1, o2, o3, o4⟩ | ⟨y2, w2, o3, o4⟩
        · rw [o3, o4]
          simp only [Option.bind_some, if_neg zt_10]
          exact zRs_yes o2 (fun z hz => by simp (disch := omega) only [upd, if_neg, if_pos, if_true, if_false, ↓reduceIte]) (by omega) (Or.inr (Or.inr (Or.inr (Or.inr (Or.inr (Or.inl ⟨rfl, by simp (disch := omega) only [upd, if_neg, if_pos, if_true, if_false, ↓reduceIte], by simp (disch := omega) only [upd, if_neg, if_pos, if_true, if_false, ↓reduceIte], by simp (disch := omega) only [upd, if_neg, if_pos, if_true, if_false, ↓reduceIte], by simp (disch := omega) only [upd, if_neg, if_pos, if_true, if_false, ↓reduceIte], l4⟩))))))
        · rw [o3, o4]
          simp only [Option.bind_some, if_true]
          exact zRs_no l3 (fun z hz => by simp (disch := omega) only [upd, if_neg, if_pos, if_true, if_false, ↓reduceIte])
      · rw [i2, i3]
        simp only [Option.bind_some, if_true]
        exact zRs_no k2 (fun z hz => by simp (disch := omega) only [upd, if_neg, if_pos, if_true, if_false, ↓reduceIte])
    · rw [k3, k4]
      simp only [Option.bind_some, if_true]
      exact zRs_no a3 (fun z hz => by simp (disch := omega) only [upd, if_neg, if_pos, if_true, if_false, ↓reduceIte])
end CD
