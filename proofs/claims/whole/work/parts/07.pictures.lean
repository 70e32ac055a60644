/-! PICTURES: blobs of cells and what they hold -/
abbrev StS : Type := Int32 × Int32 × Int32 × Int32 × Int64 × Int32 × Int32 × Int32
def stO (g : xG) (a : Nat → Nat) (o : Nat) (v : StS) : va_W := [((a (o + 0)), .inr (9, [.ref (a (o + 1)), .ref (a (o + 6)), .int v.1, .int v.2.1, .int v.2.2.1, .int v.2.2.2.1, .long v.2.2.2.2.1, .int v.2.2.2.2.2.1, .int v.2.2.2.2.2.2.1, .int v.2.2.2.2.2.2.2]))]
theorem stO_at0 (g : xG) (a : Nat → Nat) (o : Nat) (v : StS) : (stO g a o v)[0]? = some ((a (o + 0)), .inr (9, [.ref (a (o + 1)), .ref (a (o + 6)), .int v.1, .int v.2.1, .int v.2.2.1, .int v.2.2.2.1, .long v.2.2.2.2.1, .int v.2.2.2.2.2.1, .int v.2.2.2.2.2.2.1, .int v.2.2.2.2.2.2.2])) := rfl
abbrev CdT : Type := (Nat → Int32) × (Nat → Int32) × (Nat → Int32) × (Nat → Int32) × Int32
def cdW (g : xG) (a : Nat → Nat) (o : Nat) (c : CdT) : va_W := [((a (o + 1)), .inr (4, [.ref (a (o + 2)), .ref (a (o + 3)), .ref (a (o + 4)), .ref (a (o + 5)), .int c.2.2.2.2])), ((a (o + 2)), .inl (g.2.1 0, 10, .inl c.1)), ((a (o + 3)), .inl (g.2.1 1, 10, .inl c.2.1)), ((a (o + 4)), .inl (g.2.1 1, 10, .inl c.2.2.1)), ((a (o + 5)), .inl (g.2.1 2, 10, .inl c.2.2.2.1))]
theorem cdW_at0 (g : xG) (a : Nat → Nat) (o : Nat) (c : CdT) : (cdW g a o c)[0]? = some ((a (o + 1)), .inr (4, [.ref (a (o + 2)), .ref (a (o + 3)), .ref (a (o + 4)), .ref (a (o + 5)), .int c.2.2.2.2])) := rfl
theorem cdW_at1 (g : xG) (a : Nat → Nat) (o : Nat) (c : CdT) : (cdW g a o c)[1]? = some ((a (o + 2)), .inl (g.2.1 0, 10, .inl c.1)) := rfl
theorem cdW_at2 (g : xG) (a : Nat → Nat) (o : Nat) (c : CdT) : (cdW g a o c)[2]? = some ((a (o + 3)), .inl (g.2.1 1, 10, .inl c.2.1)) := rfl
theorem cdW_at3 (g : xG) (a : Nat → Nat) (o : Nat) (c : CdT) : (cdW g a o c)[3]? = some ((a (o + 4)), .inl (g.2.1 1, 10, .inl c.2.2.1)) := rfl
theorem cdW_at4 (g : xG) (a : Nat → Nat) (o : Nat) (c : CdT) : (cdW g a o c)[4]? = some ((a (o + 5)), .inl (g.2.1 2, 10, .inl c.2.2.2.1)) := rfl
abbrev EvT : Type := (Nat → Int32) × (Nat → Int32) × (Nat → Int32) × Int32
def evW (g : xG) (a : Nat → Nat) (o : Nat) (e : EvT) : va_W := [((a (o + 6)), .inr (6, [.ref (a (o + 7)), .ref (a (o + 8)), .ref (a (o + 9)), .int e.2.2.2])), ((a (o + 7)), .inl (g.2.1 1, 20, .inl e.1)), ((a (o + 8)), .inl (g.2.1 1, 20, .inl e.2.1)), ((a (o + 9)), .inl (g.2.1 2, 20, .inl e.2.2.1))]
theorem evW_at0 (g : xG) (a : Nat → Nat) (o : Nat) (e : EvT) : (evW g a o e)[0]? = some ((a (o + 6)), .inr (6, [.ref (a (o + 7)), .ref (a (o + 8)), .ref (a (o + 9)), .int e.2.2.2])) := rfl
theorem evW_at1 (g : xG) (a : Nat → Nat) (o : Nat) (e : EvT) : (evW g a o e)[1]? = some ((a (o + 7)), .inl (g.2.1 1, 20, .inl e.1)) := rfl
theorem evW_at2 (g : xG) (a : Nat → Nat) (o : Nat) (e : EvT) : (evW g a o e)[2]? = some ((a (o + 8)), .inl (g.2.1 1, 20, .inl e.2.1)) := rfl
theorem evW_at3 (g : xG) (a : Nat → Nat) (o : Nat) (e : EvT) : (evW g a o e)[3]? = some ((a (o + 9)), .inl (g.2.1 2, 20, .inl e.2.2.1)) := rfl
abbrev CmT : Type := Nat × Int32 × Int32 × Int32 × Int32 × Int32
def cmO (g : xG) (x : Nat) (w : CmT) : va_W := [(x, .inr (5, [.ref (g.2.2 (200 + w.1)), .int w.2.1, .int w.2.2.1, .int w.2.2.2.1, .int w.2.2.2.2.1, .int w.2.2.2.2.2]))]
theorem cmO_at0 (g : xG) (x : Nat) (w : CmT) : (cmO g x w)[0]? = some (x, .inr (5, [.ref (g.2.2 (200 + w.1)), .int w.2.1, .int w.2.2.1, .int w.2.2.2.1, .int w.2.2.2.2.1, .int w.2.2.2.2.2])) := rfl
abbrev PrT : Type := (Nat → Int32) × Int32 × Int32 × Int32
def prO (g : xG) (b : Nat → Nat) (q : PrT) : va_W := [((b 0), .inr (8, [.ref (b 1), .ref (b 2), .int q.2.1, .int q.2.2.1, .int q.2.2.2])), ((b 1), .inl (g.2.1 0, 60, .inl q.1))]
theorem prO_at0 (g : xG) (b : Nat → Nat) (q : PrT) : (prO g b q)[0]? = some ((b 0), .inr (8, [.ref (b 1), .ref (b 2), .int q.2.1, .int q.2.2.1, .int q.2.2.2])) := rfl
theorem prO_at1 (g : xG) (b : Nat → Nat) (q : PrT) : (prO g b q)[1]? = some ((b 1), .inl (g.2.1 0, 60, .inl q.1)) := rfl
abbrev MdT : Type := Int32 × Int32 × Int32 × Int32 × Int32 × Int32 × Int32 × Int32 × Int32 × Int32
def mdO (g : xG) (b : Nat → Nat) (m : MdT) : va_W := [((b 0), .inr (11, [.ref (b 1), .ref (b 2), .ref (b 3), .ref (b 4), .ref (b 5), .int m.1, .int m.2.1, .int m.2.2.1, .int m.2.2.2.1, .int m.2.2.2.2.1, .int m.2.2.2.2.2.1, .ref (b 6), .int m.2.2.2.2.2.2.1, .ref (b 7), .ref (b 8), .int m.2.2.2.2.2.2.2.1, .int m.2.2.2.2.2.2.2.2.1, .int m.2.2.2.2.2.2.2.2.2]))]
theorem mdO_at0 (g : xG) (b : Nat → Nat) (m : MdT) : (mdO g b m)[0]? = some ((b 0), .inr (11, [.ref (b 1), .ref (b 2), .ref (b 3), .ref (b 4), .ref (b 5), .int m.1, .int m.2.1, .int m.2.2.1, .int m.2.2.2.1, .int m.2.2.2.2.1, .int m.2.2.2.2.2.1, .ref (b 6), .int m.2.2.2.2.2.2.1, .ref (b 7), .ref (b 8), .int m.2.2.2.2.2.2.2.1, .int m.2.2.2.2.2.2.2.2.1, .int m.2.2.2.2.2.2.2.2.2])) := rfl
def iaW (g : xG) (x : Nat) (n : Nat) (f : (Nat → Int32)) : va_W := [(x, .inl (g.2.1 1, n, .inl f))]
theorem iaW_at0 (g : xG) (x : Nat) (n : Nat) (f : (Nat → Int32)) : (iaW g x n f)[0]? = some (x, .inl (g.2.1 1, n, .inl f)) := rfl
theorem ixJ0 : ∀ w ∈ u_ws RJ0 TJ0 4, w ∈ xTB := by
  have h : (u_ws RJ0 TJ0 4).all (fun w => decide (w ∈ lw_tbl) && goodWord w) = true := by decide +kernel
  intro w hw
  have h1 := List.all_eq_true.mp h w hw
  simp only [Bool.and_eq_true, decide_eq_true_eq] at h1
  exact List.mem_filter.mpr ⟨h1.1, h1.2⟩
theorem ixJ4 : ∀ w ∈ u_ws RJ4 TJ4 4, w ∈ xTB := by
  have h : (u_ws RJ4 TJ4 4).all (fun w => decide (w ∈ lw_tbl) && goodWord w) = true := by decide +kernel
  intro w hw
  have h1 := List.all_eq_true.mp h w hw
  simp only [Bool.and_eq_true, decide_eq_true_eq] at h1
  exact List.mem_filter.mpr ⟨h1.1, h1.2⟩
theorem ixX1 : ∀ w ∈ u_ws RX1 TX1 5, w ∈ xTB := by
  have h : (u_ws RX1 TX1 5).all (fun w => decide (w ∈ lw_tbl) && goodWord w) = true := by decide +kernel
  intro w hw
  have h1 := List.all_eq_true.mp h w hw
  simp only [Bool.and_eq_true, decide_eq_true_eq] at h1
  exact List.mem_filter.mpr ⟨h1.1, h1.2⟩
theorem ixX2 : ∀ w ∈ u_ws RX2 TX2 6, w ∈ xTB := by
  have h : (u_ws RX2 TX2 6).all (fun w => decide (w ∈ lw_tbl) && goodWord w) = true := by decide +kernel
  intro w hw
  have h1 := List.all_eq_true.mp h w hw
  simp only [Bool.and_eq_true, decide_eq_true_eq] at h1
  exact List.mem_filter.mpr ⟨h1.1, h1.2⟩
theorem ixX3 : ∀ w ∈ u_ws RX3 TX3 4, w ∈ xTB := by
  have h : (u_ws RX3 TX3 4).all (fun w => decide (w ∈ lw_tbl) && goodWord w) = true := by decide +kernel
  intro w hw
  have h1 := List.all_eq_true.mp h w hw
  simp only [Bool.and_eq_true, decide_eq_true_eq] at h1
  exact List.mem_filter.mpr ⟨h1.1, h1.2⟩
theorem ixX4 : ∀ w ∈ u_ws RX4 TX4 3, w ∈ xTB := by
  have h : (u_ws RX4 TX4 3).all (fun w => decide (w ∈ lw_tbl) && goodWord w) = true := by decide +kernel
  intro w hw
  have h1 := List.all_eq_true.mp h w hw
  simp only [Bool.and_eq_true, decide_eq_true_eq] at h1
  exact List.mem_filter.mpr ⟨h1.1, h1.2⟩
theorem ixX6 : ∀ w ∈ u_ws RX6 TX6 5, w ∈ xTB := by
  have h : (u_ws RX6 TX6 5).all (fun w => decide (w ∈ lw_tbl) && goodWord w) = true := by decide +kernel
  intro w hw
  have h1 := List.all_eq_true.mp h w hw
  simp only [Bool.and_eq_true, decide_eq_true_eq] at h1
  exact List.mem_filter.mpr ⟨h1.1, h1.2⟩
theorem ixX8 : ∀ w ∈ u_ws RX8 TX8 10, w ∈ xTB := by
  have h : (u_ws RX8 TX8 10).all (fun w => decide (w ∈ lw_tbl) && goodWord w) = true := by decide +kernel
  intro w hw
  have h1 := List.all_eq_true.mp h w hw
  simp only [Bool.and_eq_true, decide_eq_true_eq] at h1
  exact List.mem_filter.mpr ⟨h1.1, h1.2⟩
theorem ixX9 : ∀ w ∈ u_ws RX9 TX9 9, w ∈ xTB := by
  have h : (u_ws RX9 TX9 9).all (fun w => decide (w ∈ lw_tbl) && goodWord w) = true := by decide +kernel
  intro w hw
  have h1 := List.all_eq_true.mp h w hw
  simp only [Bool.and_eq_true, decide_eq_true_eq] at h1
  exact List.mem_filter.mpr ⟨h1.1, h1.2⟩
theorem ixX10 : ∀ w ∈ u_ws RX10 TX10 18, w ∈ xTB := by
  have h : (u_ws RX10 TX10 18).all (fun w => decide (w ∈ lw_tbl) && goodWord w) = true := by decide +kernel
  intro w hw
  have h1 := List.all_eq_true.mp h w hw
  simp only [Bool.and_eq_true, decide_eq_true_eq] at h1
  exact List.mem_filter.mpr ⟨h1.1, h1.2⟩
