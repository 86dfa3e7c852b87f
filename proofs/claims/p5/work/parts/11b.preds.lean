/-! the class's objects that never change once they are made, told of a tail -/
def rfA (ty : ClassId) (n : Nat) (h : Nat → Option Nat) : va_E := .inl (ty, n, .inr (.inr (.inr (.inr h))))
/-- bytes -/
def By (κ : Nat → ClassId) (im : va_W) (b n : Nat) : Prop := n ≤ 20 ∧ ∃ f : Nat → Int32, ((b, .inl (κ 1, n, .inl f)) : Nat × va_E) ∈ im ∧ sb_Fit f
/-- a cell: its kind, how many bytes -/
def Cl (κ : Nat → ClassId) (im : va_W) (a k n : Nat) : Prop := k ≤ 5 ∧ ∃ (b : Nat) (x : Int64), ((a, .inr (0, [.ref b, .int (nI k), .long x])) : Nat × va_E) ∈ im ∧ By κ im b n
/-- a told type or none -/
def To (t : Int32) : Prop := t = -1 ∨ ∃ j : Nat, j ≤ 5 ∧ t = nI j
/-- a column -/
def Co (κ : Nat → ClassId) (im : va_W) (a n : Nat) (t : Int32) : Prop := To t ∧ ∃ b : Nat, ((a, .inr (1, [.ref b, .int t])) : Nat × va_E) ∈ im ∧ By κ im b n
/-- rows by their numbers -/
def Ix (κ : Nat → ClassId) (im : va_W) (a n R : Nat) : Prop := n ≤ 40 ∧ ∃ f : Nat → Int32, ((a, .inl (κ 0, n, .inl f)) : Nat × va_E) ∈ im ∧ ∀ i : Nat, i < n → ∃ j : Nat, j < R ∧ f i = nI j
/-- a view on so many others -/
def Vw (κ : Nat → ClassId) (im : va_W) : Nat → Nat → Nat → Prop
  | 0, a, R => ∃ r n : Nat, ((a, .inr (9, [.ref r, .null, .int (nI 0)])) : Nat × va_E) ∈ im ∧ Ix κ im r n R
  | d + 1, a, R => ∃ r n u : Nat, ((a, .inr (9, [.ref r, .ref u, .int (nI (d + 1))])) : Nat × va_E) ∈ im ∧ Ix κ im r n R ∧ Vw κ im d u R
/-- references to cells, to columns -/
def Lc (κ : Nat → ClassId) (im : va_W) (h : Nat → Option Nat) (n : Nat) : Prop := ∀ i : Nat, i < n → ∃ q : Nat, h i = some q ∧ ∃ k m : Nat, Cl κ im q k m
def Lo (κ : Nat → ClassId) (im : va_W) (h : Nat → Option Nat) (n : Nat) : Prop := ∀ i : Nat, i < n → ∃ q : Nat, h i = some q ∧ ∃ (m : Nat) (t : Int32), Co κ im q m t
/-- a sheet: its rows, its columns -/
def Sh (κ : Nat → ClassId) (im : va_W) (a R w : Nat) : Prop := (R ≤ 40 ∧ 1 ≤ w ∧ w ≤ 8) ∧ ∃ (c x v : Nat) (g h : Nat → Option Nat), ((a, .inr (5, [.ref c, .ref x, .int (nI R), .ref v])) : Nat × va_E) ∈ im ∧ ((c, .inl (κ 3, w, .inr (.inr (.inr (.inr g))))) : Nat × va_E) ∈ im ∧ ((x, .inl (κ 2, R * w, .inr (.inr (.inr (.inr h))))) : Nat × va_E) ∈ im ∧ Lo κ im g w ∧ Lc κ im h (R * w) ∧ Vw κ im 0 v R
/-- a strip: a column of a sheet by some rows -/
def Sp (κ : Nat → ClassId) (im : va_W) (a S R w co ra n t : Nat) : Prop := co < w ∧ t ≤ 5 ∧ ((a, .inr (7, [.ref S, .int (nI co), .ref ra, .int (nI t)])) : Nat × va_E) ∈ im ∧ Sh κ im S R w ∧ Ix κ im ra n R
/-- a row of columns, of cells -/
def Ca (κ : Nat → ClassId) (im : va_W) (a w : Nat) : Prop := ∃ g : Nat → Option Nat, ((a, .inl (κ 3, w, .inr (.inr (.inr (.inr g))))) : Nat × va_E) ∈ im ∧ Lo κ im g w
def Cx (κ : Nat → ClassId) (im : va_W) (a n : Nat) : Prop := ∃ h : Nat → Option Nat, ((a, .inl (κ 2, n, .inr (.inr (.inr (.inr h))))) : Nat × va_E) ∈ im ∧ Lc κ im h n
section UP
variable {κ : Nat → ClassId} {im im2 : va_W}
theorem By.up {b n : Nat} (h : By κ im b n) (hs : Sb im im2) : By κ im2 b n := by
  obtain ⟨h1, f, h2, h3⟩ := h
  exact ⟨h1, f, hs _ h2, h3⟩
theorem Cl.up {a k n : Nat} (h : Cl κ im a k n) (hs : Sb im im2) : Cl κ im2 a k n := by
  obtain ⟨h1, b, x, h2, h3⟩ := h
  exact ⟨h1, b, x, hs _ h2, h3.up hs⟩
theorem Co.up {a n : Nat} {t : Int32} (h : Co κ im a n t) (hs : Sb im im2) : Co κ im2 a n t := by
  obtain ⟨h1, b, h2, h3⟩ := h
  exact ⟨h1, b, hs _ h2, h3.up hs⟩
theorem Ix.up {a n R : Nat} (h : Ix κ im a n R) (hs : Sb im im2) : Ix κ im2 a n R := by
  obtain ⟨h1, f, h2, h3⟩ := h
  exact ⟨h1, f, hs _ h2, h3⟩
theorem Vw_up {R : Nat} (hs : Sb im im2) : ∀ {d a : Nat}, Vw κ im d a R → Vw κ im2 d a R
  | 0, a, h => by
    obtain ⟨r, n, h1, h2⟩ := h
    exact ⟨r, n, hs _ h1, h2.up hs⟩
  | d + 1, a, h => by
    obtain ⟨r, n, u, h1, h2, h3⟩ := h
    exact ⟨r, n, u, hs _ h1, h2.up hs, Vw_up hs h3⟩
theorem Vw.up {R d a : Nat} (h : Vw κ im d a R) (hs : Sb im im2) : Vw κ im2 d a R := Vw_up hs h
theorem Lc.up {h : Nat → Option Nat} {n : Nat} (hh : Lc κ im h n) (hs : Sb im im2) : Lc κ im2 h n := by
  intro i hi
  obtain ⟨q, e, k, m, h1⟩ := hh i hi
  exact ⟨q, e, k, m, h1.up hs⟩
theorem Lo.up {h : Nat → Option Nat} {n : Nat} (hh : Lo κ im h n) (hs : Sb im im2) : Lo κ im2 h n := by
  intro i hi
  obtain ⟨q, e, m, t, h1⟩ := hh i hi
  exact ⟨q, e, m, t, h1.up hs⟩
theorem Ca.up {a w : Nat} (h : Ca κ im a w) (hs : Sb im im2) : Ca κ im2 a w := by
  obtain ⟨g, h1, h2⟩ := h
  exact ⟨g, hs _ h1, h2.up hs⟩
theorem Cx.up {a n : Nat} (h : Cx κ im a n) (hs : Sb im im2) : Cx κ im2 a n := by
  obtain ⟨g, h1, h2⟩ := h
  exact ⟨g, hs _ h1, h2.up hs⟩
theorem Vw_cell {d a R : Nat} (h : Vw κ im d a R) : ∃ (r n : Nat) (u : Value), ((a, .inr (9, [.ref r, u, .int (nI d)])) : Nat × va_E) ∈ im ∧ Ix κ im r n R := by
  cases d with
  | zero =>
    obtain ⟨r, n, h1, h2⟩ := h
    exact ⟨r, n, .null, h1, h2⟩
  | succ d =>
    obtain ⟨r, n, u, h1, h2, -⟩ := h
    exact ⟨r, n, .ref u, h1, h2⟩
theorem Sh.up {a R w : Nat} (h : Sh κ im a R w) (hs : Sb im im2) : Sh κ im2 a R w := by
  obtain ⟨h0, c, x, v, g, hh, h1, h2, h3, h4, h5, h6⟩ := h
  exact ⟨h0, c, x, v, g, hh, hs _ h1, hs _ h2, hs _ h3, h4.up hs, h5.up hs, h6.up hs⟩
theorem Sp.up {a S R w co ra n t : Nat} (h : Sp κ im a S R w co ra n t) (hs : Sb im im2) : Sp κ im2 a S R w co ra n t := by
  obtain ⟨h1, h2, h3, h4, h5⟩ := h
  exact ⟨h1, h2, hs _ h3, h4.up hs, h5.up hs⟩
theorem Lc_put {h : Nat → Option Nat} {n i q k m : Nat} (hh : ∀ j : Nat, j < n → j ≠ i → ∃ q : Nat, h j = some q ∧ ∃ k m : Nat, Cl κ im q k m) (hq : Cl κ im q k m) : Lc κ im (va_up h i (some q)) n := by
  intro j hj
  unfold va_up
  by_cases e : j = i
  · exact ⟨q, by simp [e], k, m, hq⟩
  · obtain ⟨q2, e2, h2⟩ := hh j hj e
    exact ⟨q2, by simpa [e] using e2, h2⟩
theorem Lc_set {h : Nat → Option Nat} {n i q k m : Nat} (hh : Lc κ im h n) (hq : Cl κ im q k m) : Lc κ im (va_up h i (some q)) n := Lc_put (fun j hj _ => hh j hj) hq
theorem Lc_add {h : Nat → Option Nat} {n q k m : Nat} (hh : Lc κ im h n) (hq : Cl κ im q k m) : Lc κ im (va_up h n (some q)) (n + 1) := Lc_put (fun j hj hne => hh j (by omega)) hq
theorem Lo_put {h : Nat → Option Nat} {n i q m : Nat} {t : Int32} (hh : ∀ j : Nat, j < n → j ≠ i → ∃ q : Nat, h j = some q ∧ ∃ (m : Nat) (t : Int32), Co κ im q m t) (hq : Co κ im q m t) : Lo κ im (va_up h i (some q)) n := by
  intro j hj
  unfold va_up
  by_cases e : j = i
  · exact ⟨q, by simp [e], m, t, hq⟩
  · obtain ⟨q2, e2, h2⟩ := hh j hj e
    exact ⟨q2, by simpa [e] using e2, h2⟩
theorem Lo_add {h : Nat → Option Nat} {n q m : Nat} {t : Int32} (hh : Lo κ im h n) (hq : Co κ im q m t) : Lo κ im (va_up h n (some q)) (n + 1) := Lo_put (fun j hj hne => hh j (by omega)) hq
theorem Lc_0 {h : Nat → Option Nat} : Lc κ im h 0 := fun i hi => absurd hi (by omega)
theorem Lo_0 {h : Nat → Option Nat} : Lo κ im h 0 := fun i hi => absurd hi (by omega)
theorem ix_lt {r c R w : Nat} (hr : r < R) (hc : c < w) : r * w + c < R * w := by
  have h1 : r * w + w ≤ R * w := by rw [← Nat.succ_mul]; exact Nat.mul_le_mul_right w hr
  omega
theorem rw_le {R w : Nat} (hR : R ≤ 40) (hw : w ≤ 8) : R * w ≤ 320 := Nat.mul_le_mul hR hw
end UP
theorem To_n {n : Nat} (h : n ≤ 5) : To (nI n) := Or.inr ⟨n, h, rfl⟩
theorem To_m : To (-1) := Or.inl rfl
theorem vp_c {i : Int32} {c n : Nat} (e : i.toInt = (c : Int)) (h : c < n) : vp_in i n := vp_k ⟨by omega, by omega⟩
theorem rq_put {f : Nat → Int32} {k r v : Nat} (h : ∀ i9 : Nat, i9 < k → ∃ j9 : Nat, j9 < r ∧ f i9 = nI j9) (hv : v < r) : ∀ i9 : Nat, i9 < k + 1 → ∃ j9 : Nat, j9 < r ∧ upd f k (nI v) i9 = nI j9 := by
  intro i hi
  unfold upd
  by_cases e : i = k
  · exact ⟨v, hv, by simp [e]⟩
  · obtain ⟨j, h1, h2⟩ := h i (by omega)
    exact ⟨j, h1, by simpa [e] using h2⟩
