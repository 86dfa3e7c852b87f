/-! my own kit: ints as integers; what the reference's rows of numbers keep -/
def zI (e : Int) : Int32 := Int32.ofInt e
theorem zI_toInt {e : Int} (h : -2147483648 ≤ e ∧ e < 2147483648) : (zI e).toInt = e := Int32.toInt_ofInt_of_le (by omega) (by omega)
theorem nI_z (n : Nat) : nI n = zI (n : Int) := Int32.ofInt_eq_ofNat.symm
theorem z_add {x y : Int32} {a b : Int} (hx : x = zI a) (hy : y = zI b) : x + y = zI (a + b) := by
  rw [hx, hy]
  exact (Int32.ofInt_add a b).symm
theorem z_sub {x y : Int32} {a b : Int} (hx : x = zI a) (hy : y = zI b) : x - y = zI (a - b) := by
  rw [hx, hy]
  exact (Int32.ofInt_sub a b).symm
theorem z_nat {e : Int} {n : Nat} (h : e = n) : zI e = nI n := by
  rw [h]
  exact (nI_z n).symm
theorem cz_lt {x y : Int32} {a b : Int} (ex : x.toInt = a) (ey : y.toInt = b) (h : x < y) : a < b := by rw [← ex, ← ey]; exact Int32.lt_iff_toInt_lt.mp h
theorem cz_nlt {x y : Int32} {a b : Int} (ex : x.toInt = a) (ey : y.toInt = b) (h : ¬ x < y) : b ≤ a := by rw [Int32.lt_iff_toInt_lt, ex, ey] at h; omega
theorem cz_le {x y : Int32} {a b : Int} (ex : x.toInt = a) (ey : y.toInt = b) (h : x ≤ y) : a ≤ b := by rw [← ex, ← ey]; exact Int32.le_iff_toInt_le.mp h
theorem cz_nle {x y : Int32} {a b : Int} (ex : x.toInt = a) (ey : y.toInt = b) (h : ¬ x ≤ y) : b < a := by rw [Int32.le_iff_toInt_le, ex, ey] at h; omega
theorem cz_eq {x y : Int32} {a b : Int} (ex : x.toInt = a) (ey : y.toInt = b) (h : x = y) : a = b := by rw [← ex, ← ey, h]
theorem cz_ne {x y : Int32} {a b : Int} (ex : x.toInt = a) (ey : y.toInt = b) (h : ¬ x = y) : a ≠ b := by
  intro q
  exact h (Int32.toInt_inj.mp (by rw [ex, ey, q]))
theorem i_nat {x : Int32} {B : Int} (h1 : 0 ≤ x.toInt) (h2 : x.toInt ≤ B) : ∃ j9 : Nat, (j9 : Int) ≤ B ∧ x = nI j9 := by
  have h3 := fb0_rng x
  refine ⟨x.toInt.toNat, by omega, ?_⟩
  have h4 : (nI x.toInt.toNat).toInt = x.toInt := by rw [nI_toInt (by omega)]; omega
  exact (Int32.toInt_inj.mp h4).symm
theorem l_in {v lo hi : Int64} {a b c : Int} (ev : v.toInt = c) (elo : lo.toInt = a) (ehi : hi.toInt = b) (h1 : ¬ lg_cmp v lo < 0) (h2 : ¬ 0 < lg_cmp v hi) : a ≤ c ∧ c ≤ b := by
  rw [lg_cmp_lt, Int64.lt_iff_toInt_lt, ev, elo] at h1
  rw [lg_cmp_gt, Int64.lt_iff_toInt_lt, ev, ehi] at h2
  omega
theorem l_out {v lo hi : Int64} {a b c : Int} (ev : v.toInt = c) (elo : lo.toInt = a) (ehi : hi.toInt = b) (h : lg_cmp v lo < 0 ∨ 0 < lg_cmp v hi) : c < a ∨ b < c := by
  rw [lg_cmp_lt, Int64.lt_iff_toInt_lt, ev, elo, lg_cmp_gt, Int64.lt_iff_toInt_lt, ev, ehi] at h
  exact h
theorem l_of {x : Int32} {a : Int} (e : x.toInt = a) : x.toInt64.toInt = a := by rw [Int32.toInt_toInt64]; exact e
theorem lim_fun {p B B2 : Nat} (h : lim p B) (h2 : lim p B2) : B = B2 := by
  obtain ⟨t, ht, h⟩ := h
  obtain ⟨t2, ht2, h2⟩ := h2
  have e : t = t2 := by
    rcases h with h | h | h | ⟨c, h⟩ | ⟨c, h⟩ | ⟨c, h⟩ | ⟨c, h⟩ | ⟨c, h⟩ <;> rcases h2 with h2 | h2 | h2 | ⟨d, h2⟩ | ⟨d, h2⟩ | ⟨d, h2⟩ | ⟨d, h2⟩ | ⟨d, h2⟩ <;> omega
  subst e
  rcases h with h | h | h | ⟨c, h⟩ | ⟨c, h⟩ | ⟨c, h⟩ | ⟨c, h⟩ | ⟨c, h⟩ <;> rcases h2 with h2 | h2 | h2 | ⟨d, h2⟩ | ⟨d, h2⟩ | ⟨d, h2⟩ | ⟨d, h2⟩ | ⟨d, h2⟩ <;> omega
theorem lim_lt {p B : Nat} (h : lim p B) : p < 21369 := by
  obtain ⟨t, ht, h⟩ := h
  rcases h with h | h | h | ⟨c, h⟩ | ⟨c, h⟩ | ⟨c, h⟩ | ⟨c, h⟩ | ⟨c, h⟩ <;> omega
/-- the block of a table: what lies in it, told from its own begin -/
theorem lim_at {p B : Nat} (h : lim p B) : ∃ t j, t < 3 ∧ j < 7123 ∧ p = 7123 * t + j ∧ lim j B := by
  obtain ⟨t, ht, h⟩ := h
  refine ⟨t, p - 7123 * t, ht, ?_, ?_, 0, by omega, ?_⟩
  · rcases h with h | h | h | ⟨c, h⟩ | ⟨c, h⟩ | ⟨c, h⟩ | ⟨c, h⟩ | ⟨c, h⟩ <;> omega
  · rcases h with h | h | h | ⟨c, h⟩ | ⟨c, h⟩ | ⟨c, h⟩ | ⟨c, h⟩ | ⟨c, h⟩ <;> omega
  · rcases h with h | h | h | ⟨c, h⟩ | ⟨c, h⟩ | ⟨c, h⟩ | ⟨c, h⟩ | ⟨c, h⟩
    · exact Or.inl (by omega)
    · exact Or.inr (Or.inl (by omega))
    · exact Or.inr (Or.inr (Or.inl (by omega)))
    · exact Or.inr (Or.inr (Or.inr (Or.inl ⟨c, by omega⟩)))
    · exact Or.inr (Or.inr (Or.inr (Or.inr (Or.inl ⟨c, by omega⟩))))
    · exact Or.inr (Or.inr (Or.inr (Or.inr (Or.inr (Or.inl ⟨c, by omega⟩)))))
    · exact Or.inr (Or.inr (Or.inr (Or.inr (Or.inr (Or.inr (Or.inl ⟨c, by omega⟩))))))
    · exact Or.inr (Or.inr (Or.inr (Or.inr (Or.inr (Or.inr (Or.inr ⟨c, by omega⟩))))))
theorem lim_up {t j B : Nat} (ht : t < 3) (hj : j < 7123) (h : lim j B) : lim (7123 * t + j) B := by
  obtain ⟨t0, ht0, h⟩ := h
  refine ⟨t, ht, ?_⟩
  have e : t0 = 0 := by rcases h with h | h | h | ⟨c, h⟩ | ⟨c, h⟩ | ⟨c, h⟩ | ⟨c, h⟩ | ⟨c, h⟩ <;> omega
  subst e
  rcases h with h | h | h | ⟨c, h⟩ | ⟨c, h⟩ | ⟨c, h⟩ | ⟨c, h⟩ | ⟨c, h⟩
  · exact Or.inl (by omega)
  · exact Or.inr (Or.inl (by omega))
  · exact Or.inr (Or.inr (Or.inl (by omega)))
  · exact Or.inr (Or.inr (Or.inr (Or.inl ⟨c, by omega⟩)))
  · exact Or.inr (Or.inr (Or.inr (Or.inr (Or.inl ⟨c, by omega⟩))))
  · exact Or.inr (Or.inr (Or.inr (Or.inr (Or.inr (Or.inl ⟨c, by omega⟩)))))
  · exact Or.inr (Or.inr (Or.inr (Or.inr (Or.inr (Or.inr (Or.inl ⟨c, by omega⟩))))))
  · exact Or.inr (Or.inr (Or.inr (Or.inr (Or.inr (Or.inr (Or.inr ⟨c, by omega⟩))))))
theorem lim_down {t j B : Nat} (hj : j < 7123) (h : lim (7123 * t + j) B) : lim j B := by
  obtain ⟨t2, j2, h1, h2, h3, h4⟩ := lim_at h
  have e : t = t2 := by omega
  subst e
  have e2 : j = j2 := by omega
  exact e2 ▸ h4
-- the kinds of places
theorem mN {p t : Nat} (ht : t < 3) (hp : p = 7123 * t + 1) : lim p 8 := ⟨t, ht, Or.inl ⟨hp, rfl⟩⟩
theorem mMANY {p t : Nat} (ht : t < 3) (hp : p = 7123 * t + 2) : lim p 40 := ⟨t, ht, Or.inr (Or.inl ⟨hp, rfl⟩)⟩
theorem mTOP {p t : Nat} (ht : t < 3) (hp : p = 7123 * t + 3) : lim p 6 := ⟨t, ht, Or.inr (Or.inr (Or.inl ⟨hp, rfl⟩))⟩
theorem mNAME {p t c : Nat} (ht : t < 3) (hc : c < 8) (hp : p = 7123 * t + 4 + 13 * c) : lim p 12 := ⟨t, ht, Or.inr (Or.inr (Or.inr (Or.inl ⟨c, hc, hp, rfl⟩)))⟩
theorem mTOLD {p t c : Nat} (ht : t < 3) (hc : c < 8) (hp : p = 7123 * t + 108 + c) : lim p 5 := ⟨t, ht, Or.inr (Or.inr (Or.inr (Or.inr (Or.inl ⟨c, hc, hp, rfl⟩))))⟩
theorem mVM {p t k : Nat} (ht : t < 3) (hk : k < 7) (hp : p = 7123 * t + 116 + k) : lim p 40 := ⟨t, ht, Or.inr (Or.inr (Or.inr (Or.inr (Or.inr (Or.inl ⟨k, hk, hp, rfl⟩)))))⟩
theorem mVIEW {p t i : Nat} (ht : t < 3) (hi : i < 280) (hp : p = 7123 * t + 123 + i) : lim p 39 := ⟨t, ht, Or.inr (Or.inr (Or.inr (Or.inr (Or.inr (Or.inr (Or.inl ⟨i, hi, hp, rfl⟩))))))⟩
theorem mCELL {p t i : Nat} (ht : t < 3) (hi : i < 320) (hp : p = 7123 * t + 403 + 21 * i) : lim p 20 := ⟨t, ht, Or.inr (Or.inr (Or.inr (Or.inr (Or.inr (Or.inr (Or.inr ⟨i, hi, hp, rfl⟩))))))⟩
theorem fNAME {p t c k : Nat} (ht : t < 3) (hc : c < 8) (h0 : 1 ≤ k) (hk : k ≤ 12) (hp : p = 7123 * t + 4 + 13 * c + k) : ∀ B, ¬ lim p B := by
  rintro B ⟨t2, ht2, h⟩
  have e : t = t2 := by rcases h with h | h | h | ⟨d, h⟩ | ⟨d, h⟩ | ⟨d, h⟩ | ⟨d, h⟩ | ⟨d, h⟩ <;> omega
  subst e
  rcases h with h | h | h | ⟨d, h⟩ | ⟨d, h⟩ | ⟨d, h⟩ | ⟨d, h⟩ | ⟨d, h⟩ <;> omega
theorem fCELL {p t i k : Nat} (ht : t < 3) (hi : i < 320) (h0 : 1 ≤ k) (hk : k ≤ 20) (hp : p = 7123 * t + 403 + 21 * i + k) : ∀ B, ¬ lim p B := by
  rintro B ⟨t2, ht2, h⟩
  have e : t = t2 := by rcases h with h | h | h | ⟨d, h⟩ | ⟨d, h⟩ | ⟨d, h⟩ | ⟨d, h⟩ | ⟨d, h⟩ <;> omega
  subst e
  rcases h with h | h | h | ⟨d, h⟩ | ⟨d, h⟩ | ⟨d, h⟩ | ⟨d, h⟩ | ⟨d, h⟩ <;> omega
theorem fTHERE {p t : Nat} (ht : t < 3) (hp : p = 7123 * t) : ∀ B, ¬ lim p B := by
  rintro B ⟨t2, ht2, h⟩
  rcases h with h | h | h | ⟨d, h⟩ | ⟨d, h⟩ | ⟨d, h⟩ | ⟨d, h⟩ | ⟨d, h⟩ <;> omega
theorem fDIAL {p : Nat} (hp : 21369 ≤ p) : ∀ B, ¬ lim p B := fun B h => absurd (lim_lt h) (by omega)
/-- a row of numbers up to T keeps the bounds of its places -/
def PL (T : Nat) (f : Nat → Int32) : Prop := ∀ p B : Nat, p < T → lim p B → ∃ n9 : Nat, n9 ≤ B ∧ f p = nI n9
theorem PL_upd {T : Nat} {f : Nat → Int32} {p B : Nat} {v : Int32} (h : PL T f) (hl : lim p B) (hv : ∃ n9 : Nat, n9 ≤ B ∧ v = nI n9) : PL T (upd f p v) := by
  intro p2 B2 h3 h2
  unfold upd
  by_cases e : p2 = p
  · subst e
    obtain rfl := lim_fun hl h2
    simpa using hv
  · simpa [e] using h p2 B2 h3 h2
theorem PL_free {T : Nat} {f : Nat → Int32} {p : Nat} {v : Int32} (h : PL T f) (hl : ∀ B, ¬ lim p B) : PL T (upd f p v) := by
  intro p2 B2 h3 h2
  unfold upd
  by_cases e : p2 = p
  · subst e
    exact absurd h2 (hl B2)
  · simpa [e] using h p2 B2 h3 h2
/-- any store whose value keeps the bound of its place -/
theorem PL_put {T : Nat} {f : Nat → Int32} {p : Nat} {v : Int32} (h : PL T f) (hv : ∀ B, lim p B → ∃ n9 : Nat, n9 ≤ B ∧ v = nI n9) : PL T (upd f p v) := by
  intro p2 B2 h3 h2
  unfold upd
  by_cases e : p2 = p
  · subst e
    simpa using hv B2 h2
  · simpa [e] using h p2 B2 h3 h2
theorem Pw_pl {f : Nat → Int32} (h : Pw f) (T : Nat) : PL T f := fun p B _ hl => h p B hl
theorem pl_Pw {f : Nat → Int32} {T : Nat} (h : PL T f) (hT : 21369 ≤ T) : Pw f := fun p B hl => h p B (Nat.lt_of_lt_of_le (lim_lt hl) hT) hl
theorem Pw_upd {w : Nat → Int32} {p B : Nat} {v : Int32} (hw : Pw w) (hl : lim p B) (hv : ∃ n9 : Nat, n9 ≤ B ∧ v = nI n9) : Pw (upd w p v) := pl_Pw (PL_upd (Pw_pl hw 21369) hl hv) (Nat.le_refl _)
theorem Pw_free {w : Nat → Int32} {p : Nat} {v : Int32} (hw : Pw w) (hl : ∀ B, ¬ lim p B) : Pw (upd w p v) := pl_Pw (PL_free (Pw_pl hw 21369) hl) (Nat.le_refl _)
theorem Pw_put {w : Nat → Int32} {p : Nat} {v : Int32} (hw : Pw w) (hv : ∀ B, lim p B → ∃ n9 : Nat, n9 ≤ B ∧ v = nI n9) : Pw (upd w p v) := pl_Pw (PL_put (Pw_pl hw 21369) hv) (Nat.le_refl _)
theorem Pw_zero : Pw (fun _ => 0) := fun _ _ _ => ⟨0, Nat.zero_le _, rfl⟩
/-- the draft: a block -/
abbrev Pd (f : Nat → Int32) : Prop := PL 7123 f
theorem Pd_zero : Pd (fun _ => 0) := fun _ _ _ _ => ⟨0, Nat.zero_le _, rfl⟩
/-- what can be undone: six times three blocks -/
def Pu (f : Nat → Int32) : Prop := ∀ k p B : Nat, k < 6 → lim p B → ∃ n9 : Nat, n9 ≤ B ∧ f (21369 * k + p) = nI n9
theorem Pu_put {f : Nat → Int32} {p : Nat} {v : Int32} (h : Pu f) (hv : ∀ k j B, k < 6 → p = 21369 * k + j → lim j B → ∃ n9 : Nat, n9 ≤ B ∧ v = nI n9) : Pu (upd f p v) := by
  intro k j B hk hl
  unfold upd
  by_cases e : 21369 * k + j = p
  · simpa [e] using hv k j B hk e.symm hl
  · simpa [e] using h k j B hk hl
theorem Pu_keep {f w : Nat → Int32} {u k : Nat} (h : Pu f) (hw : Pw w) (hk : k < 21369) : Pu (upd f (21369 * u + k) (w k)) := Pu_put h (by
  intro k2 j B hk2 e hl
  have h1 := lim_lt hl
  have e1 : u = k2 := by omega
  subst e1
  have e2 : k = j := by omega
  subst e2
  exact hw _ _ hl)
theorem Pu_shift {f : Nat → Int32} {q p : Nat} (h : Pu f) (hq : q < 128214) (hp : p + 21369 = q) : Pu (upd f p (f q)) := Pu_put h (by
  intro k j B hk e hl
  have h1 := lim_lt hl
  obtain ⟨n, h2, h3⟩ := h (k + 1) j B (by omega) hl
  refine ⟨n, h2, ?_⟩
  rw [← h3]
  congr 1
  omega)
theorem Pw_undo {w f : Nat → Int32} {u k : Nat} (hw : Pw w) (h : Pu f) (hu : u < 6) : Pw (upd w k (f (21369 * u + k))) := Pw_put hw (fun B hl => h u k B hu hl)
theorem Pu_zero : Pu (fun _ => 0) := fun _ _ _ _ _ => ⟨0, Nat.zero_le _, rfl⟩
theorem Pw_copy {w f : Nat → Int32} {k : Nat} (hw : Pw w) (h : Pw f) : Pw (upd w k (f k)) := Pw_put hw (fun B hl => h k B hl)
theorem Pw_draft {w f : Nat → Int32} {t k : Nat} (hw : Pw w) (h : Pd f) (hk : k < 7123) : Pw (upd w (7123 * t + k) (f k)) := Pw_put hw (fun B hl => h k B hk (lim_down hk hl))
/-- a move within: like places -/
theorem Pw_move {w f : Nat → Int32} {p q : Nat} (hw : Pw w) (hf : Pw f) (h : ∀ B, lim p B → lim q B) : Pw (upd w p (f q)) := Pw_put hw (fun B hl => hf q B (h B hl))
theorem like_cell {p q t i d : Nat} (ht : t < 3) (hp : p = 7123 * t + 403 + i) (hq : q = p + 21 * d) (hi : i + 21 * d < 6720) : ∀ B, lim p B → lim q B := by
  rintro B ⟨t2, ht2, h⟩
  have e : t = t2 := by rcases h with h | h | h | ⟨c, h⟩ | ⟨c, h⟩ | ⟨c, h⟩ | ⟨c, h⟩ | ⟨c, h⟩ <;> omega
  subst e
  refine ⟨t, ht, ?_⟩
  rcases h with h | h | h | ⟨c, h⟩ | ⟨c, h⟩ | ⟨c, h⟩ | ⟨c, h⟩ | ⟨c, h⟩
  · omega
  · omega
  · omega
  · omega
  · omega
  · omega
  · omega
  · exact Or.inr (Or.inr (Or.inr (Or.inr (Or.inr (Or.inr (Or.inr ⟨c + d, by omega⟩))))))
theorem like_name {p q t i : Nat} (ht : t < 3) (hp : p = 7123 * t + 4 + i) (hq : q = p + 13) (hi : i + 13 < 104) : ∀ B, lim p B → lim q B := by
  rintro B ⟨t2, ht2, h⟩
  have e : t = t2 := by rcases h with h | h | h | ⟨c, h⟩ | ⟨c, h⟩ | ⟨c, h⟩ | ⟨c, h⟩ | ⟨c, h⟩ <;> omega
  subst e
  refine ⟨t, ht, ?_⟩
  rcases h with h | h | h | ⟨c, h⟩ | ⟨c, h⟩ | ⟨c, h⟩ | ⟨c, h⟩ | ⟨c, h⟩
  · omega
  · omega
  · omega
  · exact Or.inr (Or.inr (Or.inr (Or.inl ⟨c + 1, by omega⟩)))
  · omega
  · omega
  · omega
  · omega
/-- a name's or a cell's place in a block, the first of which says how many -/
theorem Pw_cell {w : Nat → Int32} {p t i k : Nat} {v : Int32} (hw : Pw w) (ht : t < 3) (hi : i < 320) (hk : k ≤ 20) (hp : p = 7123 * t + 403 + 21 * i + k) (hv : k = 0 → ∃ n9 : Nat, n9 ≤ 20 ∧ v = nI n9) : Pw (upd w p v) := by
  by_cases h0 : k = 0
  · exact Pw_upd hw (mCELL ht hi (by omega)) (hv h0)
  · exact Pw_free hw (fCELL ht hi (by omega) hk hp)
theorem Pw_name {w : Nat → Int32} {p t c k : Nat} {v : Int32} (hw : Pw w) (ht : t < 3) (hc : c < 8) (hk : k ≤ 12) (hp : p = 7123 * t + 4 + 13 * c + k) (hv : k = 0 → ∃ n9 : Nat, n9 ≤ 12 ∧ v = nI n9) : Pw (upd w p v) := by
  by_cases h0 : k = 0
  · exact Pw_upd hw (mNAME ht hc (by omega)) (hv h0)
  · exact Pw_free hw (fNAME ht hc (by omega) hk hp)
theorem PL_cell {T : Nat} {w : Nat → Int32} {p i k : Nat} {v : Int32} (hw : PL T w) (hi : i < 320) (hk : k ≤ 20) (hp : p = 403 + 21 * i + k) (hv : k = 0 → ∃ n9 : Nat, n9 ≤ 20 ∧ v = nI n9) : PL T (upd w p v) := by
  by_cases h0 : k = 0
  · exact PL_upd hw (mCELL (t := 0) (by omega) hi (by omega)) (hv h0)
  · exact PL_free hw (fCELL (t := 0) (by omega) hi (by omega) hk (by omega))
theorem PL_name {T : Nat} {w : Nat → Int32} {p c k : Nat} {v : Int32} (hw : PL T w) (hc : c < 8) (hk : k ≤ 12) (hp : p = 4 + 13 * c + k) (hv : k = 0 → ∃ n9 : Nat, n9 ≤ 12 ∧ v = nI n9) : PL T (upd w p v) := by
  by_cases h0 : k = 0
  · exact PL_upd hw (mNAME (t := 0) (by omega) hc (by omega)) (hv h0)
  · exact PL_free hw (fNAME (t := 0) (by omega) hc (by omega) hk (by omega))
/-- the fields that are laid have at most twenty bytes -/
def Pfd (f : Nat → Int32) : Prop := ∀ c : Nat, c < 9 → ∃ n9 : Nat, n9 ≤ 20 ∧ f (21 * c) = nI n9
theorem pfd {f : Nat → Int32} {p c : Nat} (h : Pfd f) (hc : c < 9) (hp : p = 21 * c) : ∃ n9 : Nat, n9 ≤ 20 ∧ f p = nI n9 := by
  subst hp
  exact h c hc
theorem Pfd_upd {f : Nat → Int32} {p c : Nat} {v : Int32} (h : Pfd f) (hp : p = 21 * c) (hv : ∃ n9 : Nat, n9 ≤ 20 ∧ v = nI n9) : Pfd (upd f p v) := by
  intro d hd
  unfold upd
  by_cases e : 21 * d = p
  · simpa [e] using hv
  · simpa [e] using h d hd
theorem Pfd_free {f : Nat → Int32} {p : Nat} {v : Int32} (h : Pfd f) (hp : ∀ c : Nat, c < 9 → 21 * c ≠ p) : Pfd (upd f p v) := by
  intro d hd
  unfold upd
  simpa [hp d hd] using h d hd
/-- a fault's place -/
def PF (x : Int32) : Prop := x.toInt ≤ 800
theorem PF_n {n : Nat} (h : n ≤ 800) : PF (nI n) := by
  unfold PF
  rw [nI_toInt (by omega)]
  omega
theorem PF_0 : PF 0 := by unfold PF; decide
theorem PF_m : PF (-1) := by unfold PF; decide
/-- the first m places say naturals up to B -/
def Pb (m B : Nat) (f : Nat → Int32) : Prop := ∀ c : Nat, c < m → ∃ n9 : Nat, n9 ≤ B ∧ f c = nI n9
theorem Pb_upd {m B : Nat} {f : Nat → Int32} {p : Nat} {v : Int32} (h : Pb m B f) (hv : p < m → ∃ n9 : Nat, n9 ≤ B ∧ v = nI n9) : Pb m B (upd f p v) := by
  intro d hd
  unfold upd
  by_cases e : d = p
  · simpa [e] using hv (e ▸ hd)
  · simpa [e] using h d hd
theorem Pb_zero {m B : Nat} : Pb m B (fun _ => 0) := fun _ _ => ⟨0, Nat.zero_le _, rfl⟩
