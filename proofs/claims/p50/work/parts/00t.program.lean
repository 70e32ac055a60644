/-! THE THEORY, 19: a command, a program -/
section CE
variable {len : Nat} {q : PrT} {m : MdT} {tp : Nat → Int32}
theorem zt_cmd (h : zTx len q m tp) {p i : Nat} (hp : p ≤ len) (hi : i ≤ 12) (cm : Nat → Int32) (w : CmT) :
    ∃ (b : Int32) (p' : Nat) (w' : CmT) (cm' : Nat → Int32) (c' : Int32), f_X6_readCommand (zQp q p) w = some (b, zQp q p', w') ∧ f_X10_readsCommand (zMh m p (Int32.ofNat i)) tp cm = some (b, zMh m p' c', cm') ∧ p' ≤ len ∧ (∀ y, y < 4 * i → cm' y = cm y) ∧ (b = 0 ∨ b = 1 ∧ p + 4 ≤ p' ∧ c' = Int32.ofNat (i + 1) ∧ zCm w' cm' i) := by
  have h60 := h.2.2.1
  have none_ : ¬ (p < len ∧ (tp p = 99 ∨ tp p = 108 ∨ tp p = 115 ∨ tp p = 112 ∨ tp p = 100 ∨ tp p = 119)) → ∃ (b : Int32) (p' : Nat) (w' : CmT) (cm' : Nat → Int32) (c' : Int32), f_X6_readCommand (zQp q p) w = some (b, zQp q p', w') ∧ f_X10_readsCommand (zMh m p (Int32.ofNat i)) tp cm = some (b, zMh m p' c', cm') ∧ p' ≤ len ∧ (∀ y, y < 4 * i → cm' y = cm y) ∧ (b = 0 ∨ b = 1 ∧ p + 4 ≤ p' ∧ c' = Int32.ofNat (i + 1) ∧ zCm w' cm' i) := by
    intro hn
    have A : ∀ x, (x = 99 ∨ x = 108 ∨ x = 115 ∨ x = 112 ∨ x = 100 ∨ x = 119) → f_X6_accept (zQp q p) x = some (0, zQp q p) := fun x hx => by
      rw [zt_acc' h hp, if_neg]
      rintro ⟨k1, k2⟩
      exact hn ⟨k1, by rw [k2]; exact hx⟩
    have N : ∀ x, (x = 99 ∨ x = 108 ∨ x = 115 ∨ x = 112 ∨ x = 100 ∨ x = 119) → ¬ (if p < len then tp p else -1) = x := fun x hx => by
      by_cases g : p < len
      · rw [if_pos g]
        intro k
        exact hn ⟨g, by rw [k]; exact hx⟩
      · rw [if_neg g]
        rcases hx with rfl | rfl | rfl | rfl | rfl | rfl <;> decide
    refine ⟨0, p, w, cm, Int32.ofNat i, ?_, ?_, hp, fun _ _ => rfl, Or.inl rfl⟩
    · unfold f_X6_readCommand
      rw [A 99 (by decide), Option.bind_some, if_pos rfl, A 108 (by decide), Option.bind_some, if_pos rfl, A 115 (by decide), Option.bind_some, if_pos rfl, A 112 (by decide), Option.bind_some, if_pos rfl, A 100 (by decide), Option.bind_some, if_pos rfl, A 119 (by decide), Option.bind_some, if_pos rfl]
    · unfold f_X10_readsCommand f_X10_isFirst
      rw [zt_now h hp, Option.bind_some, if_neg (N 99 (by decide)), if_neg (N 108 (by decide)), if_neg (N 115 (by decide)), if_neg (N 112 (by decide)), if_neg (N 100 (by decide)), if_neg (N 119 (by decide)), Option.bind_some, if_pos rfl]
  by_cases g : p < len
  · have A : ∀ x, tp p ≠ x → f_X6_accept (zQp q p) x = some (0, zQp q p) := fun x hx => by
      rw [zt_acc' h hp, if_neg (fun k => hx k.2)]
    have B : ∀ x, tp p = x → f_X6_accept (zQp q p) x = some (1, zQp q (p + 1)) := fun x hx => by
      rw [zt_acc' h hp, if_pos ⟨g, hx⟩]
    have e4 : (4 : Int32) * Int32.ofNat i = Int32.ofNat (4 * i) := zt_mul 4 i
    have M : f_X10_isFirst (tp p) = some 1 → f_X10_readsCommand (zMh m p (Int32.ofNat i)) tp cm = (f_X10_readsRest (zMh m (p + 1) (Int32.ofNat (i + 1))) tp (upd cm (4 * i) (tp p)) (tp p) (Int32.ofNat (4 * i))).bind fun u5 => ((if u5.1 = 0 ∨ u5.1 = 1 then (some (u5.1, u5.2.1, u5.2.2)) else none)) := fun hf => by
      unfold f_X10_readsCommand
      rw [zt_now h hp, if_pos g, Option.bind_some, hf, Option.bind_some, if_neg zt_10]
      show (if (4 : Int32) * Int32.ofNat i < 0 ∨ 124 ≤ ((4 : Int32) * Int32.ofNat i).toNatClampNeg then none else (f_X10_readsRest (m.1, m.2.1, m.2.2.1, m.2.2.2.1, m.2.2.2.2.1, m.2.2.2.2.2.1, m.2.2.2.2.2.2.1, m.2.2.2.2.2.2.2.1, Int32.ofNat p + 1, Int32.ofNat i + 1) tp (upd cm ((4 : Int32) * Int32.ofNat i).toNatClampNeg (tp p)) (tp p) ((4 : Int32) * Int32.ofNat i)).bind _) = _
      rw [e4, zt_gi (by omega) (by omega), zt_cl (by omega), zt_succ, zt_succ]
      rfl
    have fin : ∀ (f : Int32) (X : Option (Int32 × PrT × CmT)) (Y : Option (Int32 × MdT × (Nat → Int32))), tp p = f → f_X10_isFirst f = some 1 → f_X6_readCommand (zQp q p) w = X → (∀ b x y, Y = some (b, x, y) → (b = 0 ∨ b = 1) → f_X10_readsRest (zMh m (p + 1) (Int32.ofNat (i + 1))) tp (upd cm (4 * i) f) f (Int32.ofNat (4 * i)) = some (b, x, y)) → zRs len q m (Int32.ofNat (i + 1)) i (p + 1) 3 (upd cm (4 * i) f) X Y → ∃ (b : Int32) (p' : Nat) (w' : CmT) (cm' : Nat → Int32) (c' : Int32), f_X6_readCommand (zQp q p) w = some (b, zQp q p', w') ∧ f_X10_readsCommand (zMh m p (Int32.ofNat i)) tp cm = some (b, zMh m p' c', cm') ∧ p' ≤ len ∧ (∀ y, y < 4 * i → cm' y = cm y) ∧ (b = 0 ∨ b = 1 ∧ p + 4 ≤ p' ∧ c' = Int32.ofNat (i + 1) ∧ zCm w' cm' i) := by
      intro f X Y e1 e2 e3 e5 ⟨b, p', w', cm', z1, z2, z3, z4, z5⟩
      have hb : b = 0 ∨ b = 1 := z5.imp_right And.left
      refine ⟨b, p', w', cm', Int32.ofNat (i + 1), e3.trans z1, ?_, z3, fun y hy => by rw [z4 y hy, zt_updN (by omega)], z5.imp_right (fun k => ⟨k.1, by omega, rfl, k.2.2⟩)⟩
      rw [M (by rw [e1]; exact e2), e1, e5 b _ _ z2 hb, Option.bind_some, if_pos hb]
    by_cases q99 : tp p = 99
    · refine fin 99 _ _ q99 (by decide) ?_ (fun b x y hy hb => ?_) (zt_rC h (p := p + 1) (by omega) hi (upd cm (4 * i) 99) (Int32.ofNat (i + 1)) w (zt_updS _ _ _))
      · unfold f_X6_readCommand
        rw [B 99 q99, Option.bind_some, if_neg zt_10]
      · unfold f_X10_readsRest
        rw [if_pos rfl, hy, Option.bind_some, if_pos hb]
    · by_cases q108 : tp p = 108
      · refine fin 108 _ _ q108 (by decide) ?_ (fun b x y hy hb => ?_) (zt_rL h (p := p + 1) (kd := 1) (by omega) hi zw_19 (by omega) (upd cm (4 * i) 108) (Int32.ofNat (i + 1)) w (zt_updS _ _ _) (Or.inl ⟨rfl, rfl⟩))
        · unfold f_X6_readCommand
          rw [A 99 q99, Option.bind_some, if_pos rfl, B 108 q108, Option.bind_some, if_neg zt_10]
        · unfold f_X10_readsRest
          rw [if_neg (by decide), if_neg (by decide), if_pos rfl]
          exact hy
      · by_cases q115 : tp p = 115
        · refine fin 115 _ _ q115 (by decide) ?_ (fun b x y hy hb => ?_) (zt_rL h (p := p + 1) (kd := 2) (by omega) hi zw_20 (by omega) (upd cm (4 * i) 115) (Int32.ofNat (i + 1)) w (zt_updS _ _ _) (Or.inr ⟨rfl, rfl⟩))
          · unfold f_X6_readCommand
            rw [A 99 q99, Option.bind_some, if_pos rfl, A 108 q108, Option.bind_some, if_pos rfl, B 115 q115, Option.bind_some, if_neg zt_10]
          · unfold f_X10_readsRest
            rw [if_neg (by decide), if_neg (by decide), if_neg (by decide), if_neg (by decide), if_pos rfl]
            exact hy
        · by_cases q112 : tp p = 112
          · have hP := zt_rP h (p := p + 1) (i := i) (by omega) hi (upd cm (4 * i) 112) (Int32.ofNat (i + 1)) w (zt_updS _ _ _)
            have hP' := hP
            obtain ⟨b0, p0, w0, cm0, z1, -, -, -, z5⟩ := hP'
            refine fin 112 _ _ q112 (by decide) ?_ (fun b x y hy hb => ?_) hP
            · unfold f_X6_readCommand
              rw [A 99 q99, Option.bind_some, if_pos rfl, A 108 q108, Option.bind_some, if_pos rfl, A 115 q115, Option.bind_some, if_pos rfl, B 112 q112, Option.bind_some, if_neg zt_10]
              simp only [z1, Option.bind_some]
              rw [if_pos (z5.imp_right And.left)]
            · unfold f_X10_readsRest
              rw [if_neg (by decide), if_neg (by decide), if_neg (by decide), if_pos rfl, hy, Option.bind_some, if_pos hb]
          · by_cases q100 : tp p = 100
            · have hP := zt_rD h (p := p + 1) (i := i) (by omega) hi (upd cm (4 * i) 100) (Int32.ofNat (i + 1)) w (zt_updS _ _ _)
              have hP' := hP
              obtain ⟨b0, p0, w0, cm0, z1, -, -, -, z5⟩ := hP'
              refine fin 100 _ _ q100 (by decide) ?_ (fun b x y hy hb => ?_) hP
              · unfold f_X6_readCommand
                rw [A 99 q99, Option.bind_some, if_pos rfl, A 108 q108, Option.bind_some, if_pos rfl, A 115 q115, Option.bind_some, if_pos rfl, A 112 q112, Option.bind_some, if_pos rfl, B 100 q100, Option.bind_some, if_neg zt_10]
                simp only [z1, Option.bind_some]
                rw [if_pos (z5.imp_right And.left)]
              · unfold f_X10_readsRest
                rw [if_neg (by decide), if_pos rfl, hy, Option.bind_some, if_pos hb]
            · by_cases q119 : tp p = 119
              · refine fin 119 _ _ q119 (by decide) ?_ (fun b x y hy hb => ?_) (zt_rW h (p := p + 1) (by omega) hi (upd cm (4 * i) 119) (Int32.ofNat (i + 1)) w (zt_updS _ _ _))
                · unfold f_X6_readCommand
                  rw [A 99 q99, Option.bind_some, if_pos rfl, A 108 q108, Option.bind_some, if_pos rfl, A 115 q115, Option.bind_some, if_pos rfl, A 112 q112, Option.bind_some, if_pos rfl, A 100 q100, Option.bind_some, if_pos rfl, B 119 q119, Option.bind_some, if_neg zt_10]
                · unfold f_X10_readsRest
                  rw [if_neg (by decide), if_neg (by decide), if_neg (by decide), if_neg (by decide), if_neg (by decide), hy, Option.bind_some, if_pos hb]
              · refine none_ ?_
                rintro ⟨-, k | k | k | k | k | k⟩
                · exact q99 k
                · exact q108 k
                · exact q115 k
                · exact q112 k
                · exact q100 k
                · exact q119 k
  · exact none_ (fun k => g k.1)
end CE
theorem zTx_q {len : Nat} {q : PrT} {m : MdT} {tp : Nat → Int32} (h : zTx len q m tp) (x : Int32) : zTx len (q.1, q.2.1, x, q.2.2.2) m tp := h
theorem zt_parseL {len : Nat} {m : MdT} {tp : Nat → Int32} (t : Unit) : ∀ (r F G i p : Nat) (q : PrT) (ws : Nat → CmT) (cm : Nat → Int32), zTx len q m tp → i + r = 13 → r < F → r < G → 5 * i ≤ p → p ≤ len → (∀ j, j < i → zCm (ws j) cm j) →
    ∃ (b : Int32) (p' N : Nat) (n' c' : Int32) (ws' : Nat → CmT) (cm' : Nat → Int32), f_X6_parse_7 F (zQp q p) t ws (Int32.ofNat i) = some (b, (q.1, q.2.1, n', Int32.ofNat p'), ws') ∧ ((f_X10_readsCommand (zMh m p (Int32.ofNat i)) tp cm).bind fun u => f_X10_isProgram_15 G u.2.1 tp u.2.2 u.1) = some (b, zMh m p' c', cm') ∧ p' ≤ len ∧ (b = 0 ∨ b = 1 ∧ n' = Int32.ofNat N ∧ c' = Int32.ofNat N ∧ N ≤ 13 ∧ ∀ j, j < N → zCm (ws' j) cm' j)
  | 0, F, G, i, p, q, ws, cm, h, hi, _, _, h5, hp, _ => by
    have h60 := h.2.2.1
    omega
  | r + 1, F + 1, G + 1, i, p, q, ws, cm, h, hi, hF, hG, h5, hp, hw => by
    have h60 := h.2.2.1
    obtain ⟨b, p1, w', cm', c', z1, z2, z3, z4, z5⟩ := zt_cmd h hp (i := i) (by omega) cm (ws i)
    rw [f_X6_parse_7, if_neg (show ¬ (13 : Int32) ≤ Int32.ofNat i from fun q => absurd ((zt_le (a := 13) (by omega) (by omega)).mp q) (by omega)), zt_gi (by omega) (by omega), zt_cl (by omega), z1, z2, Option.bind_some, Option.bind_some]
    rcases z5 with rfl | ⟨rfl, z5, rfl, z6⟩
    · rw [if_pos rfl, f_X10_isProgram_15, if_pos rfl]
      unfold f_X10_isProgram_36
      rw [if_pos rfl]
      exact ⟨0, p1, 0, q.2.2.1, c', _, cm', rfl, rfl, z3, Or.inl rfl⟩
    · have hw' : ∀ j, j < i + 1 → zCm (va_up ws i w' j) cm' j := fun j hj => by
        by_cases hji : j = i
        · subst hji
          simp only [va_up, if_true]
          exact z6
        · simp only [va_up, if_neg hji]
          have hj4 := hw j (by omega)
          unfold zCm at hj4 ⊢
          rw [z4 _ (by omega), z4 _ (by omega), z4 _ (by omega), z4 _ (by omega)]
          exact hj4
      rw [if_neg zt_10, f_X10_isProgram_15, if_neg zt_10, zt_succ]
      have hq : ((zQp q p1).1, (zQp q p1).2.1, Int32.ofNat (i + 1), (zQp q p1).2.2.2) = zQp (q.1, q.2.1, Int32.ofNat (i + 1), q.2.2.2) p1 := rfl
      have h' := zTx_q h (Int32.ofNat (i + 1))
      rcases zt_acc h' z3 59 (by decide) (Int32.ofNat (i + 1)) with ⟨g1, -, g2, g3⟩ | ⟨-, g2, g3⟩
      · simp only [hq, g2, g3, Option.bind_some, if_neg zt_10]
        obtain ⟨b, p', N, n', c', ws', cm'', y1, y2, y3, y4⟩ := zt_parseL t r F G (i + 1) (p1 + 1) _ (va_up ws i w') cm' h' (by omega) (by omega) (by omega) (by omega) g1 hw'
        exact ⟨b, p', N, n', c', ws', cm'', y1, y2, y3, y4⟩
      · simp only [hq, g2, g3, Option.bind_some, if_true]
        unfold f_X10_isProgram_36
        rw [if_neg zt_10]
        have e1 : (zQp (q.1, q.2.1, Int32.ofNat (i + 1), q.2.2.2) p1).2.2.2 = Int32.ofNat p1 := rfl
        have e2 : (zQp (q.1, q.2.1, Int32.ofNat (i + 1), q.2.2.2) p1).2.1 = Int32.ofNat len := h.1
        have e3 : (zMh m p1 (Int32.ofNat (i + 1))).2.2.2.2.2.2.2.2.1 = Int32.ofNat p1 := rfl
        have e4 : (zMh m p1 (Int32.ofNat (i + 1))).2.2.2.2.2.2.2.1 = Int32.ofNat len := h.2.1
        rw [e1, e2, e3, e4]
        by_cases k : Int32.ofNat p1 = Int32.ofNat len
        · rw [if_pos k, if_pos k]
          exact ⟨1, p1, i + 1, _, _, _, cm', rfl, rfl, z3, Or.inr ⟨rfl, rfl, rfl, by omega, hw'⟩⟩
        · rw [if_neg k, if_neg k]
          exact ⟨0, p1, i + 1, _, _, _, cm', rfl, rfl, z3, Or.inl rfl⟩
/-- the program is read: class and reference -/
theorem zt_parse {len : Nat} {m : MdT} {tp : Nat → Int32} {q : PrT} (t : Unit) (ws : Nat → CmT) (cm : Nat → Int32) (h : zTx len q m tp) :
    ∃ (b : Int32) (p' N : Nat) (n' c' : Int32) (ws' : Nat → CmT) (cm' : Nat → Int32), f_X6_parse q t ws = some (b, (q.1, q.2.1, n', Int32.ofNat p'), ws') ∧ f_X10_isProgram m tp cm = some (b, zMh m p' c', cm') ∧ p' ≤ len ∧ (b = 0 ∨ b = 1 ∧ n' = Int32.ofNat N ∧ c' = Int32.ofNat N ∧ N ≤ 13 ∧ ∀ j, j < N → zCm (ws' j) cm' j) := by
  unfold f_X6_parse f_X10_isProgram
  exact zt_parseL t 13 xFuel xFuel 0 0 q ws cm h (by omega) (by unfold xFuel; omega) (by unfold xFuel; omega) (by omega) (by omega) (fun j hj => absurd hj (by omega))
