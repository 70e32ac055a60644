/-! PICTURES: blobs of cells and what they hold -/
def stO (g : xG) (a : Nat → Nat) (o : Nat) (v : StS) : va_W := [((a (o + 0)), .inr (9, [.ref (a (o + 1)), .ref (a (o + 6)), .int v.1, .int v.2.1, .int v.2.2.1, .int v.2.2.2.1, .long v.2.2.2.2.1, .int v.2.2.2.2.2.1, .int v.2.2.2.2.2.2.1, .int v.2.2.2.2.2.2.2]))]
theorem stO_at0 (g : xG) (a : Nat → Nat) (o : Nat) (v : StS) : (stO g a o v)[0]? = some ((a (o + 0)), .inr (9, [.ref (a (o + 1)), .ref (a (o + 6)), .int v.1, .int v.2.1, .int v.2.2.1, .int v.2.2.2.1, .long v.2.2.2.2.1, .int v.2.2.2.2.2.1, .int v.2.2.2.2.2.2.1, .int v.2.2.2.2.2.2.2])) := rfl
def cdW (g : xG) (a : Nat → Nat) (o : Nat) (c : CdT) : va_W := [((a (o + 1)), .inr (4, [.ref (a (o + 2)), .ref (a (o + 3)), .ref (a (o + 4)), .ref (a (o + 5)), .int c.2.2.2.2])), ((a (o + 2)), .inl (g.2.1 0, 10, .inl c.1)), ((a (o + 3)), .inl (g.2.1 1, 10, .inl c.2.1)), ((a (o + 4)), .inl (g.2.1 1, 10, .inl c.2.2.1)), ((a (o + 5)), .inl (g.2.1 2, 10, .inl c.2.2.2.1))]
theorem cdW_at0 (g : xG) (a : Nat → Nat) (o : Nat) (c : CdT) : (cdW g a o c)[0]? = some ((a (o + 1)), .inr (4, [.ref (a (o + 2)), .ref (a (o + 3)), .ref (a (o + 4)), .ref (a (o + 5)), .int c.2.2.2.2])) := rfl
theorem cdW_at1 (g : xG) (a : Nat → Nat) (o : Nat) (c : CdT) : (cdW g a o c)[1]? = some ((a (o + 2)), .inl (g.2.1 0, 10, .inl c.1)) := rfl
theorem cdW_at2 (g : xG) (a : Nat → Nat) (o : Nat) (c : CdT) : (cdW g a o c)[2]? = some ((a (o + 3)), .inl (g.2.1 1, 10, .inl c.2.1)) := rfl
theorem cdW_at3 (g : xG) (a : Nat → Nat) (o : Nat) (c : CdT) : (cdW g a o c)[3]? = some ((a (o + 4)), .inl (g.2.1 1, 10, .inl c.2.2.1)) := rfl
theorem cdW_at4 (g : xG) (a : Nat → Nat) (o : Nat) (c : CdT) : (cdW g a o c)[4]? = some ((a (o + 5)), .inl (g.2.1 2, 10, .inl c.2.2.2.1)) := rfl
def evW (g : xG) (a : Nat → Nat) (o : Nat) (e : EvT) : va_W := [((a (o + 6)), .inr (6, [.ref (a (o + 7)), .ref (a (o + 8)), .ref (a (o + 9)), .int e.2.2.2])), ((a (o + 7)), .inl (g.2.1 1, 20, .inl e.1)), ((a (o + 8)), .inl (g.2.1 1, 20, .inl e.2.1)), ((a (o + 9)), .inl (g.2.1 2, 20, .inl e.2.2.1))]
theorem evW_at0 (g : xG) (a : Nat → Nat) (o : Nat) (e : EvT) : (evW g a o e)[0]? = some ((a (o + 6)), .inr (6, [.ref (a (o + 7)), .ref (a (o + 8)), .ref (a (o + 9)), .int e.2.2.2])) := rfl
theorem evW_at1 (g : xG) (a : Nat → Nat) (o : Nat) (e : EvT) : (evW g a o e)[1]? = some ((a (o + 7)), .inl (g.2.1 1, 20, .inl e.1)) := rfl
theorem evW_at2 (g : xG) (a : Nat → Nat) (o : Nat) (e : EvT) : (evW g a o e)[2]? = some ((a (o + 8)), .inl (g.2.1 1, 20, .inl e.2.1)) := rfl
theorem evW_at3 (g : xG) (a : Nat → Nat) (o : Nat) (e : EvT) : (evW g a o e)[3]? = some ((a (o + 9)), .inl (g.2.1 2, 20, .inl e.2.2.1)) := rfl
def cmO (g : xG) (x : Nat) (w : CmT) : va_W := [(x, .inr (5, [.ref (g.2.2 (200 + w.1)), .int w.2.1, .int w.2.2.1, .int w.2.2.2.1, .int w.2.2.2.2.1, .int w.2.2.2.2.2]))]
theorem cmO_at0 (g : xG) (x : Nat) (w : CmT) : (cmO g x w)[0]? = some (x, .inr (5, [.ref (g.2.2 (200 + w.1)), .int w.2.1, .int w.2.2.1, .int w.2.2.2.1, .int w.2.2.2.2.1, .int w.2.2.2.2.2])) := rfl
def prO (g : xG) (b : Nat → Nat) (q : PrT) : va_W := [((b 0), .inr (8, [.ref (b 1), .ref (b 2), .int q.2.1, .int q.2.2.1, .int q.2.2.2])), ((b 1), .inl (g.2.1 0, 60, .inl q.1))]
theorem prO_at0 (g : xG) (b : Nat → Nat) (q : PrT) : (prO g b q)[0]? = some ((b 0), .inr (8, [.ref (b 1), .ref (b 2), .int q.2.1, .int q.2.2.1, .int q.2.2.2])) := rfl
theorem prO_at1 (g : xG) (b : Nat → Nat) (q : PrT) : (prO g b q)[1]? = some ((b 1), .inl (g.2.1 0, 60, .inl q.1)) := rfl
def iaW (g : xG) (x : Nat) (n : Nat) (f : (Nat → Int32)) : va_W := [(x, .inl (g.2.1 1, n, .inl f))]
theorem iaW_at0 (g : xG) (x : Nat) (n : Nat) (f : (Nat → Int32)) : (iaW g x n f)[0]? = some (x, .inl (g.2.1 1, n, .inl f)) := rfl
def cmF (g : xG) (b : Nat → Nat) (ws : (Nat → CmT)) : va_W := famW (fun j9 => cmO g (b (10 + j9)) (ws j9)) 13
def cmR (g : xG) (b : Nat → Nat) (i : Nat) (ws : (Nat → CmT)) : va_W := famR (fun j9 => cmO g (b (10 + j9)) (ws j9)) 13 i
theorem cmF_split {g : xG} {b : Nat → Nat} {ws : (Nat → CmT)} {i : Nat} {r : List va_W} (h : i < 13) : ((cmF g b ws :: r).flatten).Perm ((cmO g (b (10 + i)) (ws i) :: cmR g b i ws :: r).flatten) := x_fsplit h
theorem cmF_back {g : xG} {b : Nat → Nat} {ws : (Nat → CmT)} {i : Nat} {r : List va_W} (h : i < 13) : ((cmO g (b (10 + i)) (ws i) :: cmR g b i ws :: r).flatten).Perm ((cmF g b ws :: r).flatten) := (cmF_split h).symm
theorem cmF_join {g : xG} {b : Nat → Nat} {ws : (Nat → CmT)} {x9 : CmT} {i : Nat} {r : List va_W} (h : i < 13) : ((cmO g (b (10 + i)) x9 :: cmR g b i ws :: r).flatten).Perm ((cmF g b (va_up ws i x9) :: r).flatten) := x_fjoin h (by simp [va_up]) (fun j hj => by simp [va_up, hj])
def stF (g : xG) (a : Nat → Nat) (vs : (Nat → StS)) : va_W := famW (fun j9 => stO g a (100 + 10 * j9) (vs j9)) 8
def stR (g : xG) (a : Nat → Nat) (i : Nat) (vs : (Nat → StS)) : va_W := famR (fun j9 => stO g a (100 + 10 * j9) (vs j9)) 8 i
theorem stF_split {g : xG} {a : Nat → Nat} {vs : (Nat → StS)} {i : Nat} {r : List va_W} (h : i < 8) : ((stF g a vs :: r).flatten).Perm ((stO g a (100 + 10 * i) (vs i) :: stR g a i vs :: r).flatten) := x_fsplit h
theorem stF_back {g : xG} {a : Nat → Nat} {vs : (Nat → StS)} {i : Nat} {r : List va_W} (h : i < 8) : ((stO g a (100 + 10 * i) (vs i) :: stR g a i vs :: r).flatten).Perm ((stF g a vs :: r).flatten) := (stF_split h).symm
theorem stF_join {g : xG} {a : Nat → Nat} {vs : (Nat → StS)} {x9 : StS} {i : Nat} {r : List va_W} (h : i < 8) : ((stO g a (100 + 10 * i) x9 :: stR g a i vs :: r).flatten).Perm ((stF g a (va_up vs i x9) :: r).flatten) := x_fjoin h (by simp [va_up]) (fun j hj => by simp [va_up, hj])
def cdF (g : xG) (a : Nat → Nat) (cs : (Nat → CdT)) : va_W := famW (fun j9 => cdW g a (100 + 10 * j9) (cs j9)) 8
def cdR (g : xG) (a : Nat → Nat) (i : Nat) (cs : (Nat → CdT)) : va_W := famR (fun j9 => cdW g a (100 + 10 * j9) (cs j9)) 8 i
theorem cdF_split {g : xG} {a : Nat → Nat} {cs : (Nat → CdT)} {i : Nat} {r : List va_W} (h : i < 8) : ((cdF g a cs :: r).flatten).Perm ((cdW g a (100 + 10 * i) (cs i) :: cdR g a i cs :: r).flatten) := x_fsplit h
theorem cdF_back {g : xG} {a : Nat → Nat} {cs : (Nat → CdT)} {i : Nat} {r : List va_W} (h : i < 8) : ((cdW g a (100 + 10 * i) (cs i) :: cdR g a i cs :: r).flatten).Perm ((cdF g a cs :: r).flatten) := (cdF_split h).symm
theorem cdF_join {g : xG} {a : Nat → Nat} {cs : (Nat → CdT)} {x9 : CdT} {i : Nat} {r : List va_W} (h : i < 8) : ((cdW g a (100 + 10 * i) x9 :: cdR g a i cs :: r).flatten).Perm ((cdF g a (va_up cs i x9) :: r).flatten) := x_fjoin h (by simp [va_up]) (fun j hj => by simp [va_up, hj])
def evF (g : xG) (a : Nat → Nat) (es : (Nat → EvT)) : va_W := famW (fun j9 => evW g a (100 + 10 * j9) (es j9)) 8
def evR (g : xG) (a : Nat → Nat) (i : Nat) (es : (Nat → EvT)) : va_W := famR (fun j9 => evW g a (100 + 10 * j9) (es j9)) 8 i
theorem evF_split {g : xG} {a : Nat → Nat} {es : (Nat → EvT)} {i : Nat} {r : List va_W} (h : i < 8) : ((evF g a es :: r).flatten).Perm ((evW g a (100 + 10 * i) (es i) :: evR g a i es :: r).flatten) := x_fsplit h
theorem evF_back {g : xG} {a : Nat → Nat} {es : (Nat → EvT)} {i : Nat} {r : List va_W} (h : i < 8) : ((evW g a (100 + 10 * i) (es i) :: evR g a i es :: r).flatten).Perm ((evF g a es :: r).flatten) := (evF_split h).symm
theorem evF_join {g : xG} {a : Nat → Nat} {es : (Nat → EvT)} {x9 : EvT} {i : Nat} {r : List va_W} (h : i < 8) : ((evW g a (100 + 10 * i) x9 :: evR g a i es :: r).flatten).Perm ((evF g a (va_up es i x9) :: r).flatten) := x_fjoin h (by simp [va_up]) (fun j hj => by simp [va_up, hj])
def hiO (g : xG) (a : Nat → Nat) (h : HiT) : va_W := [((a 90), .inr (7, [.ref (a 91), .int h.1, .int h.2]))]
theorem hiO_at0 (g : xG) (a : Nat → Nat) (h : HiT) : (hiO g a h)[0]? = some ((a 90), .inr (7, [.ref (a 91), .int h.1, .int h.2])) := rfl
def hrW (g : xG) (a : Nat → Nat) (t : Unit) : va_W := [((a 91), .inl (g.2.1 4, 8, .inr (.inr (.inr (.inr (fun i9 => some (a (100 + 10 * i9 + 0))))))))]
theorem hrW_at0 (g : xG) (a : Nat → Nat) (t : Unit) : (hrW g a t)[0]? = some ((a 91), .inl (g.2.1 4, 8, .inr (.inr (.inr (.inr (fun i9 => some (a (100 + 10 * i9 + 0)))))))) := rfl
def caW (g : xG) (b : Nat → Nat) (t : Unit) : va_W := [((b 2), .inl (g.2.1 5, 13, .inr (.inr (.inr (.inr (fun i9 => some (b (10 + i9))))))))]
theorem caW_at0 (g : xG) (b : Nat → Nat) (t : Unit) : (caW g b t)[0]? = some ((b 2), .inl (g.2.1 5, 13, .inr (.inr (.inr (.inr (fun i9 => some (b (10 + i9)))))))) := rfl
def ccO (g : xG) (a : Nat → Nat) (b : Nat → Nat) (y : Nat) (z : CcT) : va_W := [((a 0), .inr (10, [.ref (a (10 + 0)), .ref (a (20 + 0)), .ref (a (30 + 0)), .ref (a 90), .ref (b 0), .ref y, .int z.1, .int z.2.1, .int z.2.2]))]
theorem ccO_at0 (g : xG) (a : Nat → Nat) (b : Nat → Nat) (y : Nat) (z : CcT) : (ccO g a b y z)[0]? = some ((a 0), .inr (10, [.ref (a (10 + 0)), .ref (a (20 + 0)), .ref (a (30 + 0)), .ref (a 90), .ref (b 0), .ref y, .int z.1, .int z.2.1, .int z.2.2])) := rfl
theorem ixJ0 : ∀ w ∈ u_ws RJ0 TJ0 4, w ∈ xTB := by
  have h : (u_ws RJ0 TJ0 4).all (fun w => decide (w ∈ lw_tbl) && goodWord w) = true := by decide +kernel
  intro w hw
  have h1 := List.all_eq_true.mp h w hw
  simp only [Bool.and_eq_true, decide_eq_true_eq] at h1
  exact List.mem_filter.mpr ⟨h1.1, h1.2⟩
theorem ixJ4 : ∀ w ∈ u_ws RJ4 TJ4 4, w ∈ xTB := by
  have h : (u_ws RJ4 TJ4 4).all (fun w => decide (w ∈ lw_tbl) && goodWord w) = true := by decide +kernel
  intro w hw
  have h1 := List.all_eq_true.mp h w hw
  simp only [Bool.and_eq_true, decide_eq_true_eq] at h1
  exact List.mem_filter.mpr ⟨h1.1, h1.2⟩
theorem ixX1 : ∀ w ∈ u_ws RX1 TX1 5, w ∈ xTB := by
  have h : (u_ws RX1 TX1 5).all (fun w => decide (w ∈ lw_tbl) && goodWord w) = true := by decide +kernel
  intro w hw
  have h1 := List.all_eq_true.mp h w hw
  simp only [Bool.and_eq_true, decide_eq_true_eq] at h1
  exact List.mem_filter.mpr ⟨h1.1, h1.2⟩
theorem ixX2 : ∀ w ∈ u_ws RX2 TX2 6, w ∈ xTB := by
  have h : (u_ws RX2 TX2 6).all (fun w => decide (w ∈ lw_tbl) && goodWord w) = true := by decide +kernel
  intro w hw
  have h1 := List.all_eq_true.mp h w hw
  simp only [Bool.and_eq_true, decide_eq_true_eq] at h1
  exact List.mem_filter.mpr ⟨h1.1, h1.2⟩
theorem ixX3 : ∀ w ∈ u_ws RX3 TX3 4, w ∈ xTB := by
  have h : (u_ws RX3 TX3 4).all (fun w => decide (w ∈ lw_tbl) && goodWord w) = true := by decide +kernel
  intro w hw
  have h1 := List.all_eq_true.mp h w hw
  simp only [Bool.and_eq_true, decide_eq_true_eq] at h1
  exact List.mem_filter.mpr ⟨h1.1, h1.2⟩
theorem ixX4 : ∀ w ∈ u_ws RX4 TX4 3, w ∈ xTB := by
  have h : (u_ws RX4 TX4 3).all (fun w => decide (w ∈ lw_tbl) && goodWord w) = true := by decide +kernel
  intro w hw
  have h1 := List.all_eq_true.mp h w hw
  simp only [Bool.and_eq_true, decide_eq_true_eq] at h1
  exact List.mem_filter.mpr ⟨h1.1, h1.2⟩
theorem ixX6 : ∀ w ∈ u_ws RX6 TX6 5, w ∈ xTB := by
  have h : (u_ws RX6 TX6 5).all (fun w => decide (w ∈ lw_tbl) && goodWord w) = true := by decide +kernel
  intro w hw
  have h1 := List.all_eq_true.mp h w hw
  simp only [Bool.and_eq_true, decide_eq_true_eq] at h1
  exact List.mem_filter.mpr ⟨h1.1, h1.2⟩
theorem ixX8 : ∀ w ∈ u_ws RX8 TX8 10, w ∈ xTB := by
  have h : (u_ws RX8 TX8 10).all (fun w => decide (w ∈ lw_tbl) && goodWord w) = true := by decide +kernel
  intro w hw
  have h1 := List.all_eq_true.mp h w hw
  simp only [Bool.and_eq_true, decide_eq_true_eq] at h1
  exact List.mem_filter.mpr ⟨h1.1, h1.2⟩
theorem ixX9 : ∀ w ∈ u_ws RX9 TX9 9, w ∈ xTB := by
  have h : (u_ws RX9 TX9 9).all (fun w => decide (w ∈ lw_tbl) && goodWord w) = true := by decide +kernel
  intro w hw
  have h1 := List.all_eq_true.mp h w hw
  simp only [Bool.and_eq_true, decide_eq_true_eq] at h1
  exact List.mem_filter.mpr ⟨h1.1, h1.2⟩
