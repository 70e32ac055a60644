/-! P50, 4: what the queries answer; what is seen is told by the row alone -/
section YV
variable {n k : Nat} {T : Int} {z : CcT} {v : StS} {c : CdT} {e : EvT} {s : Nat → Int32}
theorem yr_req {i : Nat} (hc : zCW n c) (hi : i < n) : f_X9_requireCandle z v c (Int32.ofNat i) = some (Sum.inr ()) := by
  rw [zt_req hc, if_neg (fun q => q i hi rfl)]
theorem yr_reqE {j : Nat} (he : zEW n k T e) (hj : j < k) : f_X9_requireEvent z v e (Int32.ofNat j) = some (Sum.inr ()) := by
  rw [zt_reqE he, if_neg (fun q => q j hj rfl)]
theorem yv_voice {i : Nat} (hc : zCW n c) (hi : i < n) : f_X9_voice z v c (Int32.ofNat i) = some (Sum.inr (c.1 i)) := by
  have hn := hc.2.1
  unfold f_X9_voice
  rw [yr_req hc hi, Option.bind_some]
  simp only [Sum.elim_inr]
  rw [zt_gi (by omega) (by omega), zt_cl (by omega), if_pos (zt_ch (zt_vchar (hc.2.2 i hi).1))]
theorem yv_wax {i : Nat} (hc : zCW n c) (hi : i < n) : f_X9_wax z v c (Int32.ofNat i) = some (Sum.inr (c.2.1 i)) := by
  have hn := hc.2.1
  unfold f_X9_wax
  rw [yr_req hc hi, Option.bind_some]
  simp only [Sum.elim_inr]
  rw [zt_gi (by omega) (by omega), zt_cl (by omega)]
theorem yv_cons {i : Nat} (hc : zCW n c) (hi : i < n) : f_X9_consumption z v c (Int32.ofNat i) = some (Sum.inr (c.2.2.1 i + v.1)) := by
  have hn := hc.2.1
  unfold f_X9_consumption
  rw [yr_req hc hi, Option.bind_some]
  simp only [Sum.elim_inr]
  rw [zt_cons (by omega), Option.bind_some]
theorem yv_lit01 {i : Nat} (hc : zCW n c) (hi : i < n) : c.2.2.2.1 i = 0 ∨ c.2.2.2.1 i = 1 := by
  rcases (hc.2.2 i hi).2.2.2 with q | ⟨q, -⟩
  · exact Or.inl q
  · exact Or.inr q
theorem yv_lit {i : Nat} (hc : zCW n c) (hi : i < n) : f_X9_isLit z v c (Int32.ofNat i) = some (Sum.inr (c.2.2.2.1 i)) := by
  have hn := hc.2.1
  unfold f_X9_isLit
  rw [yr_req hc hi, Option.bind_some]
  simp only [Sum.elim_inr]
  rw [zt_gi (by omega) (by omega), zt_cl (by omega), if_pos (yv_lit01 hc hi)]
theorem yv_em {j : Nat} (he : zEW n k T e) (hj : j < k) : f_X9_eventMinute z v e (Int32.ofNat j) = some (Sum.inr (e.1 j)) := by
  have hk := he.2.1
  unfold f_X9_eventMinute
  rw [yr_reqE he hj, Option.bind_some]
  simp only [Sum.elim_inr]
  rw [zt_gi (by omega) (by omega), zt_cl (by omega)]
theorem yv_ec {j : Nat} (he : zEW n k T e) (hj : j < k) : f_X9_eventCandle z v e (Int32.ofNat j) = some (Sum.inr (e.2.1 j)) := by
  have hk := he.2.1
  unfold f_X9_eventCandle
  rw [yr_reqE he hj, Option.bind_some]
  simp only [Sum.elim_inr]
  rw [zt_gi (by omega) (by omega), zt_cl (by omega)]
theorem yv_el {j : Nat} (he : zEW n k T e) (hj : j < k) : f_X9_isLighting z v e (Int32.ofNat j) = some (Sum.inr (e.2.2.1 j)) := by
  have hk := he.2.1
  unfold f_X9_isLighting
  rw [yr_reqE he hj, Option.bind_some]
  simp only [Sum.elim_inr]
  rw [zt_gi (by omega) (by omega), zt_cl (by omega), if_pos (he.2.2.1 j hj).2.1]
theorem yi_ab (a b j : Nat) : Int32.ofNat a + Int32.ofNat b * Int32.ofNat j = Int32.ofNat (a + b * j) := by rw [zt_mul, zt_add]
def yLast (s : Nat → Int32) : Int32 := if s 7 = 0 then -900001 else s 7 - 1
def yLi (x : Int32) : Int32 := if x = 0 then 0 else 1
def yB0 (s : Nat → Int32) : Nat → Int32 := upd (upd (upd (upd (upd (upd (upd (upd (upd (fun _ => 0) 0 (s 0)) 1 (s 1)) 2 (s 2)) 3 (s 3)) 4 (s 4)) 5 (s 5)) 6 (s 9)) 7 (s 8)) 8 (yLast s)
def yC1 (s r : Nat → Int32) (i : Nat) : Nat → Int32 := upd (upd (upd (upd r (10 + 5 * i) (s (10 + 4 * i))) (11 + 5 * i) (s (11 + 4 * i))) (12 + 5 * i) (s (12 + 4 * i) + s 1)) (13 + 5 * i) (yLi (s (13 + 4 * i)))
def yCs (s r : Nat → Int32) : Nat → (Nat → Int32)
  | 0 => r
  | i + 1 => yC1 s (yCs s r i) i
def yE1 (s r : Nat → Int32) (j : Nat) : Nat → Int32 := upd (upd (upd r (66 + 3 * j) (s (50 + 3 * j))) (67 + 3 * j) (s (51 + 3 * j))) (68 + 3 * j) (yLi (s (52 + 3 * j)))
def yEs (s r : Nat → Int32) : Nat → (Nat → Int32)
  | 0 => r
  | j + 1 => yE1 s (yEs s r j) j
def ySn (s : Nat → Int32) : Nat → Int32 := yEs s (yCs s (yB0 s) (s 3).toInt.toNat) (s 4).toInt.toNat
theorem ys_151 (he : zEW n k T e) (hr : zER k e s) (R : Nat → Int32) : ∀ (r F j : Nat), j + r = k → r < F → f_Q_seen_151 F z v c e (yEs s R j) (Int32.ofNat j) = some (yEs s R k) := by
  have hk := he.2.1
  intro r
  induction r with
  | zero =>
    intro F j hj hF
    obtain ⟨F, rfl⟩ : ∃ F', F = F' + 1 := ⟨F - 1, by omega⟩
    obtain rfl : j = k := by omega
    rw [f_Q_seen_151, show f_X9_events z v e = some e.2.2.2 from rfl, Option.bind_some, he.1, if_pos ((zt_le (by omega) (by omega)).mpr (Nat.le_refl _))]
  | succ r ih =>
    intro F j hj hF
    obtain ⟨F, rfl⟩ : ∃ F', F = F' + 1 := ⟨F - 1, by omega⟩
    have hjk : j < k := by omega
    have e66 : (66 : Int32) + (3 : Int32) * Int32.ofNat j = Int32.ofNat (66 + 3 * j) := yi_ab 66 3 j
    have e67 : (67 : Int32) + (3 : Int32) * Int32.ofNat j = Int32.ofNat (67 + 3 * j) := yi_ab 67 3 j
    have e68 : (68 : Int32) + (3 : Int32) * Int32.ofNat j = Int32.ofNat (68 + 3 * j) := yi_ab 68 3 j
    obtain ⟨q1, q2, q3⟩ := hr.2 j hjk
    rw [f_Q_seen_151, show f_X9_events z v e = some e.2.2.2 from rfl, Option.bind_some, he.1, if_neg (fun q => absurd ((zt_le (by omega) (by omega)).mp q) (by omega))]
    simp only [yv_em he hjk, yv_ec he hjk, yv_el he hjk, Option.bind_some, Sum.elim_inr, e66, e67, e68]
    rw [zt_gi (by omega) (by omega), zt_gi (by omega) (by omega), zt_gi (by omega) (by omega), zt_cl (by omega), zt_cl (by omega), zt_cl (by omega), zt_succ]
    have hi := ih F (j + 1) (by omega) (by omega)
    by_cases hl : e.2.2.1 j = 0
    · rw [if_pos hl]
      have eq : yEs s R (j + 1) = upd (upd (upd (yEs s R j) (66 + 3 * j) (e.1 j)) (67 + 3 * j) (e.2.1 j)) (68 + 3 * j) 0 := by
        show yE1 s (yEs s R j) j = _
        unfold yE1 yLi
        rw [q1, q2, q3, if_pos hl]
      rw [← eq]
      exact hi
    · rw [if_neg hl, zt_gj (by omega) (by omega)]
      have eq : yEs s R (j + 1) = upd (upd (upd (yEs s R j) (66 + 3 * j) (e.1 j)) (67 + 3 * j) (e.2.1 j)) (68 + 3 * j) 1 := by
        show yE1 s (yEs s R j) j = _
        unfold yE1 yLi
        rw [q1, q2, q3, if_neg hl]
      rw [← eq]
      exact hi
theorem ys_75 (hc : zCW n c) (hr : zCR n c s) (h1 : s 1 = v.1) (he : zEW n k T e) (hre : zER k e s) (R : Nat → Int32) : ∀ (r F i : Nat), i + r = n → r < F → f_Q_seen_75 F z v c e (yCs s R i) (Int32.ofNat i) = some (yEs s (yCs s R n) k) := by
  have hn := hc.2.1
  have hk := he.2.1
  intro r
  induction r with
  | zero =>
    intro F i hi hF
    obtain ⟨F, rfl⟩ : ∃ F', F = F' + 1 := ⟨F - 1, by omega⟩
    obtain rfl : i = n := by omega
    rw [f_Q_seen_75, show f_X9_candles z v c = some c.2.2.2.2 from rfl, Option.bind_some, hc.1, if_pos ((zt_le (by omega) (by omega)).mpr (Nat.le_refl _))]
    exact ys_151 he hre (yCs s R i) k 32 0 (by omega) (by omega)
  | succ r ih =>
    intro F i hi hF
    obtain ⟨F, rfl⟩ : ∃ F', F = F' + 1 := ⟨F - 1, by omega⟩
    have hin : i < n := by omega
    have e10 : (10 : Int32) + (5 : Int32) * Int32.ofNat i = Int32.ofNat (10 + 5 * i) := yi_ab 10 5 i
    have e11 : (11 : Int32) + (5 : Int32) * Int32.ofNat i = Int32.ofNat (11 + 5 * i) := yi_ab 11 5 i
    have e12 : (12 : Int32) + (5 : Int32) * Int32.ofNat i = Int32.ofNat (12 + 5 * i) := yi_ab 12 5 i
    have e13 : (13 : Int32) + (5 : Int32) * Int32.ofNat i = Int32.ofNat (13 + 5 * i) := yi_ab 13 5 i
    obtain ⟨q1, q2, q3, q4⟩ := hr.2 i hin
    rw [f_Q_seen_75, show f_X9_candles z v c = some c.2.2.2.2 from rfl, Option.bind_some, hc.1, if_neg (fun q => absurd ((zt_le (by omega) (by omega)).mp q) (by omega))]
    simp only [yv_voice hc hin, yv_wax hc hin, yv_cons hc hin, yv_lit hc hin, Option.bind_some, Sum.elim_inr, e10, e11, e12, e13]
    rw [zt_gi (by omega) (by omega), zt_gi (by omega) (by omega), zt_gi (by omega) (by omega), zt_gi (by omega) (by omega), zt_cl (by omega), zt_cl (by omega), zt_cl (by omega), zt_cl (by omega), zt_succ]
    have hi := ih F (i + 1) (by omega) (by omega)
    by_cases hl : c.2.2.2.1 i = 0
    · rw [if_pos hl]
      have eq : yCs s R (i + 1) = upd (upd (upd (upd (yCs s R i) (10 + 5 * i) (c.1 i)) (11 + 5 * i) (c.2.1 i)) (12 + 5 * i) (c.2.2.1 i + v.1)) (13 + 5 * i) 0 := by
        show yC1 s (yCs s R i) i = _
        unfold yC1 yLi
        rw [q1, q2, q3, q4, h1, if_pos hl]
      rw [← eq]
      exact hi
    · rw [if_neg hl, zt_gj (by omega) (by omega)]
      have eq : yCs s R (i + 1) = upd (upd (upd (upd (yCs s R i) (10 + 5 * i) (c.1 i)) (11 + 5 * i) (c.2.1 i)) (12 + 5 * i) (c.2.2.1 i + v.1)) (13 + 5 * i) 1 := by
        show yC1 s (yCs s R i) i = _
        unfold yC1 yLi
        rw [q1, q2, q3, q4, h1, if_neg hl]
      rw [← eq]
      exact hi
theorem yl_last (hw : zVW T v) (h7 : s 7 = v.2.2.2.2.2.2.2 + 1) : f_Q_lastCandle z v = some (yLast s) := by
  have hb := hw.2.2.2.2
  unfold f_Q_lastCandle f_X9_lastCandle yLast
  rw [h7]
  by_cases q : v.2.2.2.2.2.2.2 = -1
  · rw [if_pos q, if_pos ((zt_last hb).mpr q)]
    rfl
  · rw [if_neg q, if_neg (fun g => q ((zt_last hb).mp g)), Int32.add_sub_cancel]
    rfl
theorem ys_seen (h : zS n k T v c e s) : f_Q_seen z v c e = some (ySn s) := by
  obtain ⟨hc, hr, he, hre, hw, hv⟩ := h
  have hn := hc.2.1
  have hk := he.2.1
  obtain ⟨a0, a1, a2, a5, -, a7, a8, a9⟩ := hv
  have e3 : (s 3).toInt.toNat = n := by rw [hr.1, zt_ti (by omega)]; omega
  have e4 : (s 4).toInt.toNat = k := by rw [hre.1, zt_ti (by omega)]; omega
  unfold ySn
  rw [e3, e4]
  unfold f_Q_seen
  rw [show f_X9_time z v = some v.2.2.1 from rfl, Option.bind_some, zt_g (by decide), show f_X9_draught z v = some v.1 from rfl, Option.bind_some, zt_g (by decide), show f_X9_dish z v = some v.2.1 from rfl, Option.bind_some, zt_g (by decide), show f_X9_candles z v c = some c.2.2.2.2 from rfl, Option.bind_some, zt_g (by decide), show f_X9_events z v e = some e.2.2.2 from rfl, Option.bind_some, zt_g (by decide), show f_X9_failedEvents z v = some v.2.2.2.2.2.1 from rfl, Option.bind_some, zt_g (by decide), show f_X9_burnt z v = some v.2.2.2.1 from rfl, Option.bind_some, zt_g (by decide), show f_X9_addedWax z v = some v.2.2.2.2.1 from rfl, Option.bind_some, zt_g (by decide), yl_last hw a7, Option.bind_some, zt_g (by decide)]
  have eb : (upd (upd (upd (upd (upd (upd (upd (upd (upd (fun _ => 0) (0 : Int32).toNatClampNeg v.2.2.1) (1 : Int32).toNatClampNeg v.1) (2 : Int32).toNatClampNeg v.2.1) (3 : Int32).toNatClampNeg c.2.2.2.2) (4 : Int32).toNatClampNeg e.2.2.2) (5 : Int32).toNatClampNeg v.2.2.2.2.2.1) (6 : Int32).toNatClampNeg v.2.2.2.1) (7 : Int32).toNatClampNeg v.2.2.2.2.1.toInt32) (8 : Int32).toNatClampNeg (yLast s)) = yB0 s := by
    unfold yB0
    rw [zt_n0, zt_n1, zt_n2, zt_n3, zt_n4, zt_n5, zt_n6, zt_n7, zt_n8, a0, a1, a2, a5, a9, a8, hr.1, hre.1, hc.1, he.1, Int32.toInt32_toInt64]
  rw [eb]
  exact ys_75 hc hr a1 he hre (yB0 s) n 32 0 (by omega) (by omega)
theorem ys_st {J : Int} (h : zSt J v c e s) : f_Q_seen z v c e = some (ySn s) := by
  obtain ⟨n, k, T, -, h1, -⟩ := h
  exact ys_seen h1
end YV
theorem ya_2 (f : Nat → Int32) : ∀ (r F i : Nat), i + r = 130 → r < F → f_Q_areAlike_2 F f f (Int32.ofNat i) = some 1 := by
  intro r
  induction r with
  | zero =>
    intro F i hi hF
    obtain ⟨F, rfl⟩ : ∃ F', F = F' + 1 := ⟨F - 1, by omega⟩
    obtain rfl : i = 130 := by omega
    rw [f_Q_areAlike_2, if_pos (by decide)]
  | succ r ih =>
    intro F i hi hF
    obtain ⟨F, rfl⟩ : ∃ F', F = F' + 1 := ⟨F - 1, by omega⟩
    rw [f_Q_areAlike_2, if_neg (show ¬ (130 : Int32) ≤ Int32.ofNat i from fun q => absurd ((zt_le (a := 130) (by omega) (by omega)).mp q) (by omega)), zt_gi (by omega) (by omega), zt_gi (by omega) (by omega), if_pos rfl, zt_succ]
    exact ih F (i + 1) (by omega) (by omega)
theorem ya_alike (f : Nat → Int32) : f_Q_areAlike f f = some 1 := ya_2 f 130 140 0 (by omega) (by omega)
