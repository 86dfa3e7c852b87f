/-! a table read: line by line -/
def stF (t d : Nat → Int32) (L q w r : Nat) : Option (Nat × Nat × Nat) := if 40 ≤ r then none else
  match lnF t d L 8 q [] with
  | none => none
  | some (s, fs) => if w = 0 ∧ d 2 = 1 then (if hdB fs fs.length = true then some (s, fs.length, r) else none)
    else if wdB (d 4) fs.length (if w = 0 then fs.length else w) = true then some (s, (if w = 0 then fs.length else w), r + 1) else none
def tbS (t d : Nat → Int32) (L : Nat) : Nat → Nat → Nat → Nat → Option Nat
  | 0, _, _, _ => none
  | n + 1, p, w, r => if L ≤ paF t d (L - p) p false then (if w = 0 then none else some r) else
    match stF t d L (paF t d (L - p) p false) w r with
    | none => none
    | some (s, w', r') => tbS t d L n s w' r'
section TB
variable {t d : Nat → Int32} {L p q s j n w r w' r' y : Nat} {x : Int32} {a : List Int32} {fs : List (List Int32)}
theorem sk_bd : ∀ (n p : Nat), p ≤ skF t d n p ∧ skF t d n p ≤ p + n
  | 0, p => ⟨Nat.le_refl _, Nat.le_refl _⟩
  | n + 1, p => by
    rw [skF]
    have h := sk_bd n (p + 1)
    split
    · split
      · omega
      · omega
    · omega
theorem pl_bd : ∀ (n p k : Nat) (a : List Int32) (q : Nat) (b : List Int32), plF t d n p k a = some (q, b) → p ≤ q ∧ q ≤ p + n
  | 0, p, k, a, q, b, h => by
    rw [plF] at h
    injection h with h
    injection h with h1 h2
    omega
  | n + 1, p, k, a, q, b, h => by
    rw [plF] at h
    have ih := fun k' a' => pl_bd n (p + 1) k' a' q b
    split at h
    · injection h with h; injection h with h1 h2; omega
    · split at h
      · injection h with h; injection h with h1 h2; omega
      · split at h
        · cases h
        · split at h
          · cases h
          · split at h
            · have := ih _ _ h; omega
            · split at h
              · cases h
              · have := ih _ _ h; omega
theorem qu_bd : ∀ (n p : Nat) (a : List Int32) (q : Nat) (b : List Int32), quF t d n p a = some (q, b) → p ≤ q ∧ q ≤ p + n
  | 0, p, a, q, b, h => by rw [quF] at h; cases h
  | 1, p, a, q, b, h => by
    rw [quF] at h
    split at h
    · cases h
    · split at h
      · injection h with h; injection h with h1 h2; omega
      · cases h
  | n + 2, p, a, q, b, h => by
    rw [quF] at h
    have i1 := fun a' => qu_bd n (p + 2) a' q b
    have i2 := fun a' => qu_bd (n + 1) (p + 1) a' q b
    split at h
    · cases h
    · split at h
      · split at h
        · split at h
          · cases h
          · have := i1 _ h; omega
        · injection h with h; injection h with h1 h2; omega
      · split at h
        · cases h
        · have := i2 _ h; omega
theorem fd_bd (hp : p ≤ L) (h : fdF t d L p = some (q, a)) : p ≤ q ∧ q ≤ L := by
  have h1 := sk_bd (t := t) (d := d) (L - p) p
  unfold fdF at h
  split at h
  · split at h
    · cases h
    · rename_i r b e
      have h2 := qu_bd _ _ _ _ _ e
      have h3 := sk_bd (t := t) (d := d) (L - r) r
      unfold bhF at h
      split at h
      · injection h with h; injection h with h4 h5
        omega
      · cases h
  · have h2 := pl_bd _ _ _ _ _ _ h
    omega
theorem ln_bd : ∀ (k p : Nat) (fs : List (List Int32)) (s : Nat) (gs : List (List Int32)), p ≤ L → lnF t d L k p fs = some (s, gs) → p ≤ s ∧ s ≤ L ∧ (s = L ∨ t s = 10)
  | 0, p, fs, s, gs, hp, h => by rw [lnF] at h; cases h
  | k + 1, p, fs, s, gs, hp, h => by
    rw [lnF] at h
    split at h
    · cases h
    · rename_i q b e
      have h1 := fd_bd hp e
      split at h
      · rename_i c
        injection h with h; injection h with h2 h3
        subst h2
        exact ⟨h1.1, h1.2, c.elim (fun c => Or.inl (by omega)) Or.inr⟩
      · rename_i c
        have h2 := ln_bd k (q + 1) _ s gs (by omega) h
        exact ⟨by omega, h2.2.1, h2.2.2⟩
theorem st_s (h : stF t d L q w r = some (s, w', r')) : ∃ fs, lnF t d L 8 q [] = some (s, fs) := by
  unfold stF at h
  split at h
  · cases h
  · split at h
    · cases h
    · rename_i s' fs e
      refine ⟨fs, ?_⟩
      split at h
      · split at h
        · injection h with h; injection h with h1 h2; rw [e, h1]
        · cases h
      · generalize (if w = 0 then fs.length else w) = W at h
        split at h
        · injection h with h; injection h with h1 h2; rw [e, h1]
        · cases h
theorem st_bd (hq : q < L) (h10 : ¬ t q = 10) (h : stF t d L q w r = some (s, w', r')) : q < s ∧ s ≤ L := by
  obtain ⟨fs, e⟩ := st_s h
  have h1 := ln_bd _ _ _ _ _ (Nat.le_of_lt hq) e
  rcases h1.2.2 with h2 | h2
  · omega
  · refine ⟨Nat.lt_of_le_of_ne h1.1 (fun h3 => h10 (by rw [h3]; exact h2)), h1.2.1⟩
theorem pa_bd : ∀ (n p : Nat) (b : Bool), p ≤ paF t d n p b ∧ paF t d n p b ≤ p + n ∧ (paF t d n p b = p + n ∨ ¬ t (paF t d n p b) = 10)
  | 0, p, b => ⟨Nat.le_refl _, Nat.le_refl _, Or.inl rfl⟩
  | n + 1, p, b => by
    rw [paF]
    have i1 := pa_bd n (p + 1) false
    have i2 := pa_bd n (p + 1) true
    split
    · exact ⟨by omega, by omega, i1.2.2.imp (fun h => by omega) id⟩
    · rename_i c
      split
      · exact ⟨by omega, by omega, i2.2.2.imp (fun h => by omega) id⟩
      · split
        · exact ⟨by omega, by omega, i2.2.2.imp (fun h => by omega) id⟩
        · exact ⟨by omega, by omega, Or.inr c⟩
theorem tb_fuel : ∀ (n m p w r : Nat), p ≤ L → L + 1 - p ≤ n → L + 1 - p ≤ m → tbS t d L n p w r = tbS t d L m p w r
  | 0, m, p, w, r, hp, hn, hm => by omega
  | n + 1, 0, p, w, r, hp, hn, hm => by omega
  | n + 1, m + 1, p, w, r, hp, hn, hm => by
    rw [tbS, tbS]
    have h1 := pa_bd (t := t) (d := d) (L - p) p false
    split
    · rfl
    · rename_i c
      cases e : stF t d L (paF t d (L - p) p false) w r with
      | none => rfl
      | some z =>
        obtain ⟨s, w', r'⟩ := z
        have h2 := st_bd (by omega) (h1.2.2.resolve_left (by omega)) e
        exact tb_fuel n m s w' r' h2.2 (by omega) (by omega)
theorem tb_end (e : y = paF t d (L - p) p false) (h : L ≤ y) (hp : p ≤ L) : tbS t d L (L + 1 - p) p w r = (if w = 0 then none else some r) := by
  rw [show L + 1 - p = (L - p) + 1 by omega, tbS, ← e, if_pos h]
theorem tb_no (e : y = paF t d (L - p) p false) (h : y < L) (hp : p ≤ L) (hs : stF t d L y w r = none) : tbS t d L (L + 1 - p) p w r = none := by
  rw [show L + 1 - p = (L - p) + 1 by omega, tbS, ← e, if_neg (by omega), hs]
theorem tb_go (e : y = paF t d (L - p) p false) (h : y < L) (hp : p ≤ L) (h10 : ¬ t y = 10) (hpy : p ≤ y) (hs : stF t d L y w r = some (j, w', r')) : tbS t d L (L + 1 - p) p w r = tbS t d L (L + 1 - j) j w' r' := by
  have h2 := st_bd h h10 hs
  rw [show L + 1 - p = (L - p) + 1 by omega, tbS, ← e, if_neg (by omega), hs]
  exact tb_fuel _ _ _ _ _ h2.2 (by omega) (Nat.le_refl _)
theorem st_40 (h : 40 ≤ r) : stF t d L q w r = none := by unfold stF; rw [if_pos h]
theorem st_ln (e : lnF t d L 8 q [] = none) : stF t d L q w r = none := by
  unfold stF
  split
  · rfl
  · rw [e]
theorem st_row (h : r < 40) (e : lnF t d L 8 q [] = some (s, fs)) (hl : fs.length = n) (hw : 1 ≤ w) (c : wdB (d 4) n w = true) : stF t d L q w r = some (s, w, r + 1) := by
  subst hl
  unfold stF
  rw [if_neg (by omega), e]
  show (if w = 0 ∧ d 2 = 1 then _ else _) = _
  rw [if_neg (by omega), if_neg (show ¬ w = 0 by omega), if_pos c]
theorem st_rowf (e : lnF t d L 8 q [] = some (s, fs)) (hl : fs.length = n) (hw : 1 ≤ w) (c : wdB (d 4) n w = false) : stF t d L q w r = none := by
  subst hl
  unfold stF
  split
  · rfl
  · rw [e]
    show (if w = 0 ∧ d 2 = 1 then _ else _) = _
    rw [if_neg (by omega), if_neg (show ¬ w = 0 by omega), if_neg (by rw [c]; exact Bool.noConfusion)]
theorem st_hd (e : lnF t d L 8 q [] = some (s, fs)) (hl : fs.length = n) (e2 : d 2 = x) (c2 : x = 1) (c : hdB fs n = true) : stF t d L q 0 0 = some (s, n, 0) := by
  subst hl
  unfold stF
  rw [if_neg (by omega), e]
  show (if (0 : Nat) = 0 ∧ d 2 = 1 then _ else _) = _
  rw [if_pos ⟨rfl, e2.trans c2⟩, if_pos c]
theorem st_hdf (e : lnF t d L 8 q [] = some (s, fs)) (hl : fs.length = n) (e2 : d 2 = x) (c2 : x = 1) (c : hdB fs n = false) : stF t d L q 0 0 = none := by
  subst hl
  unfold stF
  rw [if_neg (by omega), e]
  show (if (0 : Nat) = 0 ∧ d 2 = 1 then _ else _) = _
  rw [if_pos ⟨rfl, e2.trans c2⟩, if_neg (by rw [c]; exact Bool.noConfusion)]
theorem st_num (e : lnF t d L 8 q [] = some (s, fs)) (hl : fs.length = n) (e2 : d 2 = x) (c2 : ¬ x = 1) (c : wdB (d 4) n n = true) : stF t d L q 0 0 = some (s, n, 0 + 1) := by
  subst hl
  unfold stF
  rw [if_neg (by omega), e]
  show (if (0 : Nat) = 0 ∧ d 2 = 1 then _ else _) = _
  rw [if_neg (fun h9 => c2 (e2.symm.trans h9.2)), if_pos (show (0 : Nat) = 0 from rfl), if_pos c]
theorem st_numf (e : lnF t d L 8 q [] = some (s, fs)) (hl : fs.length = n) (e2 : d 2 = x) (c2 : ¬ x = 1) (c : wdB (d 4) n n = false) : stF t d L q 0 0 = none := by
  subst hl
  unfold stF
  rw [if_neg (by omega), e]
  show (if (0 : Nat) = 0 ∧ d 2 = 1 then _ else _) = _
  rw [if_neg (fun h9 => c2 (e2.symm.trans h9.2)), if_pos (show (0 : Nat) = 0 from rfl), if_neg (by rw [c]; exact Bool.noConfusion)]
end TB
theorem sp_ok {A B : Option (Nat × List (List Int32))} {r : Int32} {P : Prop} (h : (r = 0 ∧ A = B ∧ P) ∨ (¬ r = 0 ∧ A = none)) (c : r = 0) : A = B ∧ P := by
  rcases h with h | h
  · exact h.2
  · exact absurd c h.1
theorem sp_no {A B : Option (Nat × List (List Int32))} {r : Int32} {P : Prop} (h : (r = 0 ∧ A = B ∧ P) ∨ (¬ r = 0 ∧ A = none)) (c : ¬ r = 0) : A = none := by
  rcases h with h | h
  · exact absurd h.1 c
  · exact h.2

set_option maxHeartbeats 4000000 in
set_option maxRecDepth 100000 in
theorem c_X4_takeLine_rS (l : Launch) (D : va_G) (κ : Nat → ClassId) (κq : Nat → Nat) (im : va_W) (rd : Nat) (tp : Nat) (d : Nat) (ft : Nat) (bl : Nat) (aq : Nat) (wk : Nat) (sz : Nat) (fl : Nat) (sr : Nat) (cnt : Nat) (cl : Nat) (rw : Nat) (ca : Int32) (tb : Nat) (L : Nat) (tf : Nat → Int32) (dl : Nat → Int32) (wf : Nat → Int32) (ff : Nat → Option Nat) (sf : Nat → Int32) (fc : Nat → Option Nat) (ca9 : Nat) (w : Nat) (hL8 : L ≤ 800) (haq : aq < L) (hsz : sz ≤ 20) (hwf : sb_Fit wf) (hbl : Cs κ im bl []) (hc8 : cnt ≤ 8) (hlf : Lc κ im ff cnt) (hr40 : rw ≤ 40) (hca : Ca κ im ca9 w) (hlc : Lc κ im fc (rw * w)) (hw1 : 1 ≤ w) (hw8 : w ≤ 8) : Et l yX4_takeLine (wl yX4_takeLine cX4_takeLine 3 (some .int)) { frames := 8, cells := 16, slots := 192, locals := 169 } D κ κq [.ref rd, .int 40] ([(rd, .inr (4, [.ref tp, .ref d, .ref ft, .ref bl, .int (nI aq), .int ca, .ref wk, .int (nI sz), .ref fl, .ref sr, .int (nI cnt), .ref ca9, .ref cl, .int (nI rw)])), (tp, .inr (8, [.ref tb, .int (nI L)])), (tb, .inl (κ 0, 800, .inl tf)), (d, .inl (κ 0, 6, .inl dl)), (wk, .inl (κ 1, 20, .inl wf)), (fl, .inl (κ 2, 8, .inr (.inr (.inr (.inr ff))))), (sr, .inl (κ 0, 8, .inl sf)), (cl, .inl (κ 2, 320, .inr (.inr (.inr (.inr fc)))))] ++ im) (fun u9 : Int32 × Int32 × Int32 × Nat × Nat × Nat × (Nat → Int32) × (Nat → Option Nat) × (Nat → Int32) × (Nat → Option Nat) × va_W => some (.int u9.1)) (fun u9 : Int32 × Int32 × Int32 × Nat × Nat × Nat × (Nat → Int32) × (Nat → Option Nat) × (Nat → Int32) × (Nat → Option Nat) × va_W => u9.2.2.2.1 ≤ 20 ∧ sb_Fit u9.2.2.2.2.2.2.1 ∧ u9.2.2.2.2.1 ≤ 8 ∧ u9.2.2.2.2.2.1 ≤ 40 ∧ Sb im u9.2.2.2.2.2.2.2.2.2.2 ∧ Lc κ u9.2.2.2.2.2.2.2.2.2.2 u9.2.2.2.2.2.2.2.1 u9.2.2.2.2.1 ∧ ((u9.1 = 0 ∧ ∃ j : Nat, j ≤ L ∧ u9.2.1 = nI j ∧ u9.2.2.2.2.2.1 = rw + 1 ∧ Lc κ u9.2.2.2.2.2.2.2.2.2.2 u9.2.2.2.2.2.2.2.2.2.1 ((rw + 1) * w) ∧ rw < 40 ∧ stF tf dl L aq w rw = some (j, w, u9.2.2.2.2.2.1)) ∨ (¬ u9.1 = 0 ∧ stF tf dl L aq w rw = none))) (fun u9 : Int32 × Int32 × Int32 × Nat × Nat × Nat × (Nat → Int32) × (Nat → Option Nat) × (Nat → Int32) × (Nat → Option Nat) × va_W => ([(rd, .inr (4, [.ref tp, .ref d, .ref ft, .ref bl, .int u9.2.1, .int u9.2.2.1, .ref wk, .int (nI u9.2.2.2.1), .ref fl, .ref sr, .int (nI u9.2.2.2.2.1), .ref ca9, .ref cl, .int (nI u9.2.2.2.2.2.1)])), (tp, .inr (8, [.ref tb, .int (nI L)])), (tb, .inl (κ 0, 800, .inl tf)), (d, .inl (κ 0, 6, .inl dl)), (wk, .inl (κ 1, 20, .inl u9.2.2.2.2.2.2.1)), (fl, .inl (κ 2, 8, .inr (.inr (.inr (.inr u9.2.2.2.2.2.2.2.1))))), (sr, .inl (κ 0, 8, .inl u9.2.2.2.2.2.2.2.2.1)), (cl, .inl (κ 2, 320, .inr (.inr (.inr (.inr u9.2.2.2.2.2.2.2.2.2.1)))))] ++ u9.2.2.2.2.2.2.2.2.2.2)) := by
  refine et_of (by decide +kernel) (Nat.le_of_ble_eq_true rfl) ?_
  intro p e s m args below meth c A ls hx hb hr hml hts hown hlk hin hKK hK hA hP hD hS hE hl
  have hS : va_S A s.heap s.heap [] := hS
  have hP : va_P D vwCl ([(rd, .inr (4, [.ref tp, .ref d, .ref ft, .ref bl, .int (nI aq), .int ca, .ref wk, .int (nI sz), .ref fl, .ref sr, .int (nI cnt), .ref ca9, .ref cl, .int (nI rw)])), (tp, .inr (8, [.ref tb, .int (nI L)])), (tb, .inl (κ 0, 800, .inl tf)), (d, .inl (κ 0, 6, .inl dl)), (wk, .inl (κ 1, 20, .inl wf)), (fl, .inl (κ 2, 8, .inr (.inr (.inr (.inr ff))))), (sr, .inl (κ 0, 8, .inl sf)), (cl, .inl (κ 2, 320, .inr (.inr (.inr (.inr fc)))))] ++ im) s.heap := hP
  have hD : va_D A ([(rd, .inr (4, [.ref tp, .ref d, .ref ft, .ref bl, .int (nI aq), .int ca, .ref wk, .int (nI sz), .ref fl, .ref sr, .int (nI cnt), .ref ca9, .ref cl, .int (nI rw)])), (tp, .inr (8, [.ref tb, .int (nI L)])), (tb, .inl (κ 0, 800, .inl tf)), (d, .inl (κ 0, 6, .inl dl)), (wk, .inl (κ 1, 20, .inl wf)), (fl, .inl (κ 2, 8, .inr (.inr (.inr (.inr ff))))), (sr, .inl (κ 0, 8, .inl sf)), (cl, .inl (κ 2, 320, .inr (.inr (.inr (.inr fc)))))] ++ im) := hD
  have hFX : FX p s m args c cX4_takeLine 3 RX4 := ⟨hx, hb, hml, hown, hts⟩
  have hl : lv_has ls 3 [(0, .ref rd), (1, .int 40)] := hl
  refine lv_aload_n hx hb dX4_takeLine_0 rfl (lv_at hl 0 rfl) ?_
  refine va_get (D := D) (ci := 4) (v := .int (nI rw)) (C := RX4) (T := TX4) (N := 14) hx hb hts inlX4 hown hK hP 0 rfl rfl 13 (by decide) (hts _ mw_80) (fun _ h9 => h9) rfl dX4_takeLine_1 ?_
  refine lv_iload_n hx hb dX4_takeLine_4 rfl (lv_at hl 1 rfl) ?_
  refine lv_icmp_lt (tgt := 13) hx hb dX4_takeLine_5 (by decide) (fun c_1 => ?_) (fun c_1 => ?_)
  · have nc_1 := cv_lt (a := rw) (b := 40) (by omega) (by omega) c_1
    refine lv_aload_n hx hb dX4_takeLine_13 rfl (lv_at hl 0 rfl) ?_
    refine et_VT (CR := [(cl, .inl (κ 2, 320, .inr (.inr (.inr (.inr fc)))))]) (As := []) (rest := []) hFX hKK hE hP hD hS hA (c_X4_splitLine_S l D κ κq im rd tp d ft bl aq wk sz fl sr cnt cl rw ca (.ref ca9) tb L tf dl wf ff sf (by omega) (by omega) (by omega) hwf hbl) 0 gV_X4_100 hdV_X4_splitLine ⟨Nat.le_of_ble_eq_true rfl, Nat.le_of_ble_eq_true rfl⟩ rfl rfl (Nat.le_of_ble_eq_true rfl) dX4_takeLine_14 ⟨Nat.le_of_ble_eq_true rfl, Nat.le_of_ble_eq_true rfl⟩ hl.1 [0, 1, 2, 3, 4, 5, 6] [7] rfl rfl (by decide) (by decide) (by decide) hP 0 4 rfl rfl rfl (fun u_12 H locs hp_13 hP hD hS => ?_)
    refine W.widen (k := 16) (n := 192) (Nat.le_refl _) (Nat.le_refl _) ?_
    obtain ⟨r__2, y__3, yc__4, s__5, n9__6, g__7, gf__8, gs__9, fs9__10, im2__11⟩ := u_12
    replace hP : va_P D vwCl ([(rd, .inr (4, [.ref tp, .ref d, .ref ft, .ref bl, .int (nI y__3), .int yc__4, .ref wk, .int (nI s__5), .ref fl, .ref sr, .int (nI n9__6), .ref ca9, .ref cl, .int (nI rw)])), (tp, .inr (8, [.ref tb, .int (nI L)])), (tb, .inl (κ 0, 800, .inl tf)), (d, .inl (κ 0, 6, .inl dl)), (wk, .inl (κ 1, 20, .inl g__7)), (fl, .inl (κ 2, 8, .inr (.inr (.inr (.inr gf__8))))), (sr, .inl (κ 0, 8, .inl gs__9)), (cl, .inl (κ 2, 320, .inr (.inr (.inr (.inr fc)))))] ++ im2__11) H := subP (C := [(cl, .inl (κ 2, 320, .inr (.inr (.inr (.inr fc))))), (rd, .inr (4, [.ref tp, .ref d, .ref ft, .ref bl, .int (nI y__3), .int yc__4, .ref wk, .int (nI s__5), .ref fl, .ref sr, .int (nI n9__6), .ref ca9, .ref cl, .int (nI rw)])), (tp, .inr (8, [.ref tb, .int (nI L)])), (tb, .inl (κ 0, 800, .inl tf)), (d, .inl (κ 0, 6, .inl dl)), (wk, .inl (κ 1, 20, .inl g__7)), (fl, .inl (κ 2, 8, .inr (.inr (.inr (.inr gf__8))))), (sr, .inl (κ 0, 8, .inl gs__9))]) hP [1, 2, 3, 4, 5, 6, 7, 0] rfl
    replace hD : va_D A ([(rd, .inr (4, [.ref tp, .ref d, .ref ft, .ref bl, .int (nI y__3), .int yc__4, .ref wk, .int (nI s__5), .ref fl, .ref sr, .int (nI n9__6), .ref ca9, .ref cl, .int (nI rw)])), (tp, .inr (8, [.ref tb, .int (nI L)])), (tb, .inl (κ 0, 800, .inl tf)), (d, .inl (κ 0, 6, .inl dl)), (wk, .inl (κ 1, 20, .inl g__7)), (fl, .inl (κ 2, 8, .inr (.inr (.inr (.inr gf__8))))), (sr, .inl (κ 0, 8, .inl gs__9)), (cl, .inl (κ 2, 320, .inr (.inr (.inr (.inr fc)))))] ++ im2__11) := subD (C := [(cl, .inl (κ 2, 320, .inr (.inr (.inr (.inr fc))))), (rd, .inr (4, [.ref tp, .ref d, .ref ft, .ref bl, .int (nI y__3), .int yc__4, .ref wk, .int (nI s__5), .ref fl, .ref sr, .int (nI n9__6), .ref ca9, .ref cl, .int (nI rw)])), (tp, .inr (8, [.ref tb, .int (nI L)])), (tb, .inl (κ 0, 800, .inl tf)), (d, .inl (κ 0, 6, .inl dl)), (wk, .inl (κ 1, 20, .inl g__7)), (fl, .inl (κ 2, 8, .inr (.inr (.inr (.inr gf__8))))), (sr, .inl (κ 0, 8, .inl gs__9))]) hD [1, 2, 3, 4, 5, 6, 7, 0] (by decide) rfl
    replace hp_13 : y__3 ≤ L ∧ s__5 ≤ 20 ∧ sb_Fit g__7 ∧ n9__6 ≤ 8 ∧ (r__2 = 0 → 1 ≤ n9__6) ∧ Sb im im2__11 ∧ Lc κ im2__11 gf__8 n9__6 ∧ ((r__2 = 0 ∧ lnF tf dl L 8 aq [] = some (y__3, fs9__10) ∧ Fs κ im2__11 gf__8 n9__6 fs9__10) ∨ (¬ r__2 = 0 ∧ lnF tf dl L 8 aq [] = none)) := hp_13
    obtain ⟨h_14, h_15, h_16, h_17, h_18, h_19, h_20, h_21⟩ := hp_13
    replace hbl := hbl.up h_19
    replace hlf := hlf.up h_19
    replace hca := hca.up h_19
    replace hlc := hlc.up h_19
    refine W.eq (g2 := F0 m 17 ls [.int r__2]) rfl ?_
    refine lv_istore_n (lv' := [(2, .int r__2), (0, .ref rd), (1, .int 40)]) hx hb dX4_takeLine_17 rfl hl (by decide) rfl (fun ls hl => ?_)
    refine lv_iload_n hx hb dX4_takeLine_18 rfl (lv_at hl 0 rfl) ?_
    refine lv_if_eq (tgt := 24) hx hb dX4_takeLine_19 (by decide) (fun c_22 => ?_) (fun c_22 => ?_)
    · have hcn := h_18 c_22
      obtain ⟨hok9, hfs9⟩ := (sp_ok h_21 c_22)
      have hfe9 := hfs9.1
      refine lv_aload_n hx hb dX4_takeLine_24 rfl (lv_at hl 1 rfl) ?_
      refine va_get (D := D) (ci := 4) (v := .ref ca9) (C := RX4) (T := TX4) (N := 14) hx hb hts inlX4 hown hK hP 0 rfl rfl 11 (by decide) (hts _ mw_78) (fun _ h9 => h9) rfl dX4_takeLine_25 ?_
      refine lv_ifnonnull (tgt := 46) hx hb dX4_takeLine_28 (by decide) ?_
      refine lv_aload_n hx hb dX4_takeLine_46 rfl (lv_at hl 1 rfl) ?_
      refine va_get (D := D) (ci := 4) (v := .ref ca9) (C := RX4) (T := TX4) (N := 14) hx hb hts inlX4 hown hK hP 0 rfl rfl 11 (by decide) (hts _ mw_78) (fun _ h9 => h9) rfl dX4_takeLine_47 ?_
      refine lv_ifnonnull (tgt := 64) hx hb dX4_takeLine_50 (by decide) ?_
      obtain ⟨kb_24, nb_25, hbc_23⟩ := Cs.cl hbl
      refine lv_aload_n hx hb dX4_takeLine_64 rfl (lv_at hl 1 rfl) ?_
      refine et_VT (CR := [(tp, .inr (8, [.ref tb, .int (nI L)])), (tb, .inl (κ 0, 800, .inl tf)), (wk, .inl (κ 1, 20, .inl g__7))]) (As := []) (rest := []) hFX hKK hE hP hD hS hA (c_X4_takeRow_S l D κ κq im2__11 rd tp d ft bl y__3 wk s__5 fl sr n9__6 cl rw yc__4 dl gf__8 gs__9 fc ca9 w kb_24 nb_25 h_20 hlc hca hbc_23 (by omega) (by omega) (by omega) (by omega) (by omega)) 0 gV_X4_112 hdV_X4_takeRow ⟨Nat.le_of_ble_eq_true rfl, Nat.le_of_ble_eq_true rfl⟩ rfl rfl (Nat.le_of_ble_eq_true rfl) dX4_takeLine_65 ⟨Nat.le_of_ble_eq_true rfl, Nat.le_of_ble_eq_true rfl⟩ hl.1 [0, 3, 5, 6, 7] [1, 2, 4] rfl rfl (by decide) (by decide) (by decide) hP 0 4 rfl rfl rfl (fun u_31 H locs hp_32 hP hD hS => ?_)
      refine W.widen (k := 16) (n := 192) (Nat.le_refl _) (Nat.le_refl _) ?_
      obtain ⟨r__26, ya__27, yc__28, yr__29, gc__30⟩ := u_31
      replace hP : va_P D vwCl ([(rd, .inr (4, [.ref tp, .ref d, .ref ft, .ref bl, .int ya__27, .int yc__28, .ref wk, .int (nI s__5), .ref fl, .ref sr, .int (nI n9__6), .ref ca9, .ref cl, .int (nI yr__29)])), (tp, .inr (8, [.ref tb, .int (nI L)])), (tb, .inl (κ 0, 800, .inl tf)), (d, .inl (κ 0, 6, .inl dl)), (wk, .inl (κ 1, 20, .inl g__7)), (fl, .inl (κ 2, 8, .inr (.inr (.inr (.inr gf__8))))), (sr, .inl (κ 0, 8, .inl gs__9)), (cl, .inl (κ 2, 320, .inr (.inr (.inr (.inr gc__30)))))] ++ im2__11) H := subP (C := [(tp, .inr (8, [.ref tb, .int (nI L)])), (tb, .inl (κ 0, 800, .inl tf)), (wk, .inl (κ 1, 20, .inl g__7)), (rd, .inr (4, [.ref tp, .ref d, .ref ft, .ref bl, .int ya__27, .int yc__28, .ref wk, .int (nI s__5), .ref fl, .ref sr, .int (nI n9__6), .ref ca9, .ref cl, .int (nI yr__29)])), (d, .inl (κ 0, 6, .inl dl)), (fl, .inl (κ 2, 8, .inr (.inr (.inr (.inr gf__8))))), (sr, .inl (κ 0, 8, .inl gs__9)), (cl, .inl (κ 2, 320, .inr (.inr (.inr (.inr gc__30)))))]) hP [3, 0, 1, 4, 2, 5, 6, 7] rfl
      replace hD : va_D A ([(rd, .inr (4, [.ref tp, .ref d, .ref ft, .ref bl, .int ya__27, .int yc__28, .ref wk, .int (nI s__5), .ref fl, .ref sr, .int (nI n9__6), .ref ca9, .ref cl, .int (nI yr__29)])), (tp, .inr (8, [.ref tb, .int (nI L)])), (tb, .inl (κ 0, 800, .inl tf)), (d, .inl (κ 0, 6, .inl dl)), (wk, .inl (κ 1, 20, .inl g__7)), (fl, .inl (κ 2, 8, .inr (.inr (.inr (.inr gf__8))))), (sr, .inl (κ 0, 8, .inl gs__9)), (cl, .inl (κ 2, 320, .inr (.inr (.inr (.inr gc__30)))))] ++ im2__11) := subD (C := [(tp, .inr (8, [.ref tb, .int (nI L)])), (tb, .inl (κ 0, 800, .inl tf)), (wk, .inl (κ 1, 20, .inl g__7)), (rd, .inr (4, [.ref tp, .ref d, .ref ft, .ref bl, .int ya__27, .int yc__28, .ref wk, .int (nI s__5), .ref fl, .ref sr, .int (nI n9__6), .ref ca9, .ref cl, .int (nI yr__29)])), (d, .inl (κ 0, 6, .inl dl)), (fl, .inl (κ 2, 8, .inr (.inr (.inr (.inr gf__8))))), (sr, .inl (κ 0, 8, .inl gs__9)), (cl, .inl (κ 2, 320, .inr (.inr (.inr (.inr gc__30)))))]) hD [3, 0, 1, 4, 2, 5, 6, 7] (by decide) rfl
      replace hp_32 : yr__29 ≤ 40 ∧ ((r__26 = 0 ∧ wdB (dl 4) n9__6 w = true ∧ ya__27 = nI y__3 ∧ yr__29 = rw + 1 ∧ Lc κ im2__11 gc__30 ((rw + 1) * w)) ∨ (¬ r__26 = 0 ∧ wdB (dl 4) n9__6 w = false)) := hp_32
      obtain ⟨h_33, h_34⟩ := hp_32
      refine W.eq (g2 := F0 m 68 ls [.int r__26]) rfl ?_
      exact et_iret hx hb hr hlk rfl hS (r__26, ya__27, yc__28, s__5, n9__6, yr__29, g__7, gf__8, gs__9, gc__30, im2__11) rfl ⟨(show s__5 ≤ 20 from (by first | assumption | omega | rfl | exact Or.inl (by assumption) | exact Or.inr (by assumption))), (show sb_Fit g__7 from (by first | assumption | omega | rfl | exact Or.inl (by assumption) | exact Or.inr (by assumption))), (show n9__6 ≤ 8 from (by first | assumption | omega | rfl | exact Or.inl (by assumption) | exact Or.inr (by assumption))), (show yr__29 ≤ 40 from (by first | assumption | omega | rfl | exact Or.inl (by assumption) | exact Or.inr (by assumption))), (show Sb im im2__11 from h_19), (show Lc κ im2__11 gf__8 n9__6 from h_20), (show (r__26 = 0 ∧ ∃ j : Nat, j ≤ L ∧ ya__27 = nI j ∧ yr__29 = rw + 1 ∧ Lc κ im2__11 gc__30 ((rw + 1) * w) ∧ rw < 40 ∧ stF tf dl L aq w rw = some (j, w, yr__29)) ∨ (¬ r__26 = 0 ∧ stF tf dl L aq w rw = none) from (by rcases h_34 with ⟨e9, q1, q2, q3, q4⟩ | ⟨e9, q1⟩; (exact Or.inl ⟨e9, _, by omega, q2, q3, q4, by omega, by rw [q3]; exact st_row (by omega) hok9 hfe9 hw1 q1⟩); exact Or.inr ⟨e9, st_rowf hok9 hfe9 hw1 q1⟩))⟩ (subP hP [0, 1, 2, 3, 4, 5, 6, 7] rfl) (subD hD [0, 1, 2, 3, 4, 5, 6, 7] (by decide) rfl) (Nat.le_of_ble_eq_true rfl) (Nat.le_of_ble_eq_true rfl) dX4_takeLine_68
    · refine lv_iload_n hx hb dX4_takeLine_22 rfl (lv_at hl 0 rfl) ?_
      exact et_iret hx hb hr hlk rfl hS (r__2, nI y__3, yc__4, s__5, n9__6, rw, g__7, gf__8, gs__9, fc, im2__11) rfl ⟨(show s__5 ≤ 20 from (by first | assumption | omega | rfl | exact Or.inl (by assumption) | exact Or.inr (by assumption))), (show sb_Fit g__7 from (by first | assumption | omega | rfl | exact Or.inl (by assumption) | exact Or.inr (by assumption))), (show n9__6 ≤ 8 from (by first | assumption | omega | rfl | exact Or.inl (by assumption) | exact Or.inr (by assumption))), (show rw ≤ 40 from (by first | assumption | omega | rfl | exact Or.inl (by assumption) | exact Or.inr (by assumption))), (show Sb im im2__11 from h_19), (show Lc κ im2__11 gf__8 n9__6 from h_20), (show (r__2 = 0 ∧ ∃ j : Nat, j ≤ L ∧ (nI y__3) = nI j ∧ rw = rw + 1 ∧ Lc κ im2__11 fc ((rw + 1) * w) ∧ rw < 40 ∧ stF tf dl L aq w rw = some (j, w, rw)) ∨ (¬ r__2 = 0 ∧ stF tf dl L aq w rw = none) from (Or.inr ⟨c_22, st_ln (sp_no h_21 c_22)⟩))⟩ (subP hP [0, 1, 2, 3, 4, 5, 6, 7] rfl) (subD hD [0, 1, 2, 3, 4, 5, 6, 7] (by decide) rfl) (Nat.le_of_ble_eq_true rfl) (Nat.le_of_ble_eq_true rfl) dX4_takeLine_23
  · have nc_1 := cv_nlt (a := rw) (b := 40) (by omega) (by omega) c_1
    refine lv_aload_n hx hb dX4_takeLine_8 rfl (lv_at hl 0 rfl) ?_
    refine et_VN (CR := [(wk, .inl (κ 1, 20, .inl wf)), (fl, .inl (κ 2, 8, .inr (.inr (.inr (.inr ff))))), (sr, .inl (κ 0, 8, .inl sf)), (cl, .inl (κ 2, 320, .inr (.inr (.inr (.inr fc)))))]) (As := []) (rest := []) hFX hKK hE hP hD hS hA (c_X4_tooManyLines l D κ κq rd tp d ft bl aq wk sz fl sr cnt cl rw ca (.ref ca9) tb L tf dl (by omega) (by omega)) 0 gV_X4_96 hdV_X4_tooManyLines ⟨Nat.le_of_ble_eq_true rfl, Nat.le_of_ble_eq_true rfl⟩ rfl rfl (Nat.le_of_ble_eq_true rfl) dX4_takeLine_9 ⟨Nat.le_of_ble_eq_true rfl, Nat.le_of_ble_eq_true rfl⟩ hl.1 [0, 1, 2, 3] [4, 5, 6, 7] rfl rfl (by decide) (by decide) (by decide) hP 0 4 rfl rfl rfl (fun u_37 H locs hp_38 hP hD hS => ?_)
    refine W.widen (k := 0) (n := 0) (Nat.le_refl _) (Nat.le_refl _) ?_
    obtain ⟨r__35, yc__36⟩ := u_37
    replace hP : va_P D vwCl ([(rd, .inr (4, [.ref tp, .ref d, .ref ft, .ref bl, .int (nI aq), .int yc__36, .ref wk, .int (nI sz), .ref fl, .ref sr, .int (nI cnt), .ref ca9, .ref cl, .int (nI rw)])), (tp, .inr (8, [.ref tb, .int (nI L)])), (tb, .inl (κ 0, 800, .inl tf)), (d, .inl (κ 0, 6, .inl dl)), (wk, .inl (κ 1, 20, .inl wf)), (fl, .inl (κ 2, 8, .inr (.inr (.inr (.inr ff))))), (sr, .inl (κ 0, 8, .inl sf)), (cl, .inl (κ 2, 320, .inr (.inr (.inr (.inr fc)))))] ++ im) H := subP (C := [(wk, .inl (κ 1, 20, .inl wf)), (fl, .inl (κ 2, 8, .inr (.inr (.inr (.inr ff))))), (sr, .inl (κ 0, 8, .inl sf)), (cl, .inl (κ 2, 320, .inr (.inr (.inr (.inr fc))))), (rd, .inr (4, [.ref tp, .ref d, .ref ft, .ref bl, .int (nI aq), .int yc__36, .ref wk, .int (nI sz), .ref fl, .ref sr, .int (nI cnt), .ref ca9, .ref cl, .int (nI rw)])), (tp, .inr (8, [.ref tb, .int (nI L)])), (tb, .inl (κ 0, 800, .inl tf)), (d, .inl (κ 0, 6, .inl dl))]) hP [4, 5, 6, 7, 0, 1, 2, 3] rfl
    replace hD : va_D A ([(rd, .inr (4, [.ref tp, .ref d, .ref ft, .ref bl, .int (nI aq), .int yc__36, .ref wk, .int (nI sz), .ref fl, .ref sr, .int (nI cnt), .ref ca9, .ref cl, .int (nI rw)])), (tp, .inr (8, [.ref tb, .int (nI L)])), (tb, .inl (κ 0, 800, .inl tf)), (d, .inl (κ 0, 6, .inl dl)), (wk, .inl (κ 1, 20, .inl wf)), (fl, .inl (κ 2, 8, .inr (.inr (.inr (.inr ff))))), (sr, .inl (κ 0, 8, .inl sf)), (cl, .inl (κ 2, 320, .inr (.inr (.inr (.inr fc)))))] ++ im) := subD (C := [(wk, .inl (κ 1, 20, .inl wf)), (fl, .inl (κ 2, 8, .inr (.inr (.inr (.inr ff))))), (sr, .inl (κ 0, 8, .inl sf)), (cl, .inl (κ 2, 320, .inr (.inr (.inr (.inr fc))))), (rd, .inr (4, [.ref tp, .ref d, .ref ft, .ref bl, .int (nI aq), .int yc__36, .ref wk, .int (nI sz), .ref fl, .ref sr, .int (nI cnt), .ref ca9, .ref cl, .int (nI rw)])), (tp, .inr (8, [.ref tb, .int (nI L)])), (tb, .inl (κ 0, 800, .inl tf)), (d, .inl (κ 0, 6, .inl dl))]) hD [4, 5, 6, 7, 0, 1, 2, 3] (by decide) rfl
    replace hp_38 : ¬ r__35 = 0 := hp_38
    have h_39 := hp_38
    clear hp_38
    refine W.eq (g2 := F0 m 12 ls [.int r__35]) rfl ?_
    exact et_iret hx hb hr hlk rfl hS (r__35, nI aq, yc__36, sz, cnt, rw, wf, ff, sf, fc, im) rfl ⟨(show sz ≤ 20 from (by first | assumption | omega | rfl | exact Or.inl (by assumption) | exact Or.inr (by assumption))), (show sb_Fit wf from (by first | assumption | omega | rfl | exact Or.inl (by assumption) | exact Or.inr (by assumption))), (show cnt ≤ 8 from (by first | assumption | omega | rfl | exact Or.inl (by assumption) | exact Or.inr (by assumption))), (show rw ≤ 40 from (by first | assumption | omega | rfl | exact Or.inl (by assumption) | exact Or.inr (by assumption))), (show Sb im im from Sb.rf), (show Lc κ im ff cnt from hlf), (show (r__35 = 0 ∧ ∃ j : Nat, j ≤ L ∧ (nI aq) = nI j ∧ rw = rw + 1 ∧ Lc κ im fc ((rw + 1) * w) ∧ rw < 40 ∧ stF tf dl L aq w rw = some (j, w, rw)) ∨ (¬ r__35 = 0 ∧ stF tf dl L aq w rw = none) from (Or.inr ⟨h_39, st_40 (by omega)⟩))⟩ (subP hP [0, 1, 2, 3, 4, 5, 6, 7] rfl) (subD hD [0, 1, 2, 3, 4, 5, 6, 7] (by decide) rfl) (Nat.le_of_ble_eq_true rfl) (Nat.le_of_ble_eq_true rfl) dX4_takeLine_12
set_option maxHeartbeats 4000000 in
set_option maxRecDepth 100000 in
theorem c_X4_takeLine_nS (l : Launch) (D : va_G) (κ : Nat → ClassId) (κq : Nat → Nat) (im : va_W) (rd : Nat) (tp : Nat) (d : Nat) (ft : Nat) (bl : Nat) (aq : Nat) (wk : Nat) (sz : Nat) (fl : Nat) (sr : Nat) (cnt : Nat) (cl : Nat) (ca : Int32) (tb : Nat) (L : Nat) (tf : Nat → Int32) (dl : Nat → Int32) (wf : Nat → Int32) (ff : Nat → Option Nat) (sf : Nat → Int32) (fc : Nat → Option Nat) (hL8 : L ≤ 800) (haq : aq < L) (hsz : sz ≤ 20) (hwf : sb_Fit wf) (hbl : Cs κ im bl []) (hc8 : cnt ≤ 8) (hlf : Lc κ im ff cnt) : Et l yX4_takeLine (wl yX4_takeLine cX4_takeLine 3 (some .int)) { frames := 8, cells := 33, slots := 232, locals := 169 } D κ κq [.ref rd, .int 40] ([(rd, .inr (4, [.ref tp, .ref d, .ref ft, .ref bl, .int (nI aq), .int ca, .ref wk, .int (nI sz), .ref fl, .ref sr, .int (nI cnt), .null, .ref cl, .int 0])), (tp, .inr (8, [.ref tb, .int (nI L)])), (tb, .inl (κ 0, 800, .inl tf)), (d, .inl (κ 0, 6, .inl dl)), (wk, .inl (κ 1, 20, .inl wf)), (fl, .inl (κ 2, 8, .inr (.inr (.inr (.inr ff))))), (sr, .inl (κ 0, 8, .inl sf)), (cl, .inl (κ 2, 320, .inr (.inr (.inr (.inr fc)))))] ++ im) (fun u9 : Int32 × Int32 × Int32 × Value × Nat × Nat × Nat × (Nat → Int32) × (Nat → Option Nat) × (Nat → Int32) × (Nat → Option Nat) × va_W => some (.int u9.1)) (fun u9 : Int32 × Int32 × Int32 × Value × Nat × Nat × Nat × (Nat → Int32) × (Nat → Option Nat) × (Nat → Int32) × (Nat → Option Nat) × va_W => u9.2.2.2.2.1 ≤ 20 ∧ sb_Fit u9.2.2.2.2.2.2.2.1 ∧ u9.2.2.2.2.2.1 ≤ 8 ∧ u9.2.2.2.2.2.2.1 ≤ 40 ∧ Sb im u9.2.2.2.2.2.2.2.2.2.2.2 ∧ Lc κ u9.2.2.2.2.2.2.2.2.2.2.2 u9.2.2.2.2.2.2.2.2.1 u9.2.2.2.2.2.1 ∧ ((u9.1 = 0 ∧ ∃ q v j : Nat, u9.2.2.2.1 = .ref q ∧ (j ≤ L ∧ u9.2.1 = nI j) ∧ (1 ≤ v ∧ v ≤ 8) ∧ u9.2.2.2.2.2.2.1 ≤ 1 ∧ Ca κ u9.2.2.2.2.2.2.2.2.2.2.2 q v ∧ Lc κ u9.2.2.2.2.2.2.2.2.2.2.2 u9.2.2.2.2.2.2.2.2.2.2.1 (u9.2.2.2.2.2.2.1 * v) ∧ stF tf dl L aq 0 0 = some (j, v, u9.2.2.2.2.2.2.1)) ∨ (¬ u9.1 = 0 ∧ stF tf dl L aq 0 0 = none))) (fun u9 : Int32 × Int32 × Int32 × Value × Nat × Nat × Nat × (Nat → Int32) × (Nat → Option Nat) × (Nat → Int32) × (Nat → Option Nat) × va_W => ([(rd, .inr (4, [.ref tp, .ref d, .ref ft, .ref bl, .int u9.2.1, .int u9.2.2.1, .ref wk, .int (nI u9.2.2.2.2.1), .ref fl, .ref sr, .int (nI u9.2.2.2.2.2.1), u9.2.2.2.1, .ref cl, .int (nI u9.2.2.2.2.2.2.1)])), (tp, .inr (8, [.ref tb, .int (nI L)])), (tb, .inl (κ 0, 800, .inl tf)), (d, .inl (κ 0, 6, .inl dl)), (wk, .inl (κ 1, 20, .inl u9.2.2.2.2.2.2.2.1)), (fl, .inl (κ 2, 8, .inr (.inr (.inr (.inr u9.2.2.2.2.2.2.2.2.1))))), (sr, .inl (κ 0, 8, .inl u9.2.2.2.2.2.2.2.2.2.1)), (cl, .inl (κ 2, 320, .inr (.inr (.inr (.inr u9.2.2.2.2.2.2.2.2.2.2.1)))))] ++ u9.2.2.2.2.2.2.2.2.2.2.2)) := by
  refine et_of (by decide +kernel) (Nat.le_of_ble_eq_true rfl) ?_
  intro p e s m args below meth c A ls hx hb hr hml hts hown hlk hin hKK hK hA hP hD hS hE hl
  have hS : va_S A s.heap s.heap [] := hS
  have hP : va_P D vwCl ([(rd, .inr (4, [.ref tp, .ref d, .ref ft, .ref bl, .int (nI aq), .int ca, .ref wk, .int (nI sz), .ref fl, .ref sr, .int (nI cnt), .null, .ref cl, .int 0])), (tp, .inr (8, [.ref tb, .int (nI L)])), (tb, .inl (κ 0, 800, .inl tf)), (d, .inl (κ 0, 6, .inl dl)), (wk, .inl (κ 1, 20, .inl wf)), (fl, .inl (κ 2, 8, .inr (.inr (.inr (.inr ff))))), (sr, .inl (κ 0, 8, .inl sf)), (cl, .inl (κ 2, 320, .inr (.inr (.inr (.inr fc)))))] ++ im) s.heap := hP
  have hD : va_D A ([(rd, .inr (4, [.ref tp, .ref d, .ref ft, .ref bl, .int (nI aq), .int ca, .ref wk, .int (nI sz), .ref fl, .ref sr, .int (nI cnt), .null, .ref cl, .int 0])), (tp, .inr (8, [.ref tb, .int (nI L)])), (tb, .inl (κ 0, 800, .inl tf)), (d, .inl (κ 0, 6, .inl dl)), (wk, .inl (κ 1, 20, .inl wf)), (fl, .inl (κ 2, 8, .inr (.inr (.inr (.inr ff))))), (sr, .inl (κ 0, 8, .inl sf)), (cl, .inl (κ 2, 320, .inr (.inr (.inr (.inr fc)))))] ++ im) := hD
  have hFX : FX p s m args c cX4_takeLine 3 RX4 := ⟨hx, hb, hml, hown, hts⟩
  have hl : lv_has ls 3 [(0, .ref rd), (1, .int 40)] := hl
  refine lv_aload_n hx hb dX4_takeLine_0 rfl (lv_at hl 0 rfl) ?_
  refine va_get (D := D) (ci := 4) (v := .int 0) (C := RX4) (T := TX4) (N := 14) hx hb hts inlX4 hown hK hP 0 rfl rfl 13 (by decide) (hts _ mw_80) (fun _ h9 => h9) rfl dX4_takeLine_1 ?_
  refine lv_iload_n hx hb dX4_takeLine_4 rfl (lv_at hl 1 rfl) ?_
  refine lv_icmp_lt (tgt := 13) hx hb dX4_takeLine_5 (by decide) (fun c_1 => ?_) (fun c_1 => absurd (by decide) c_1)
  refine lv_aload_n hx hb dX4_takeLine_13 rfl (lv_at hl 0 rfl) ?_
  refine et_VT (CR := [(cl, .inl (κ 2, 320, .inr (.inr (.inr (.inr fc)))))]) (As := []) (rest := []) hFX hKK hE hP hD hS hA (c_X4_splitLine_S l D κ κq im rd tp d ft bl aq wk sz fl sr cnt cl 0 ca .null tb L tf dl wf ff sf (by omega) (by omega) (by omega) hwf hbl) 0 gV_X4_100 hdV_X4_splitLine ⟨Nat.le_of_ble_eq_true rfl, Nat.le_of_ble_eq_true rfl⟩ rfl rfl (Nat.le_of_ble_eq_true rfl) dX4_takeLine_14 ⟨Nat.le_of_ble_eq_true rfl, Nat.le_of_ble_eq_true rfl⟩ hl.1 [0, 1, 2, 3, 4, 5, 6] [7] rfl rfl (by decide) (by decide) (by decide) hP 0 4 rfl rfl rfl (fun u_12 H locs hp_13 hP hD hS => ?_)
  refine W.widen (k := 16) (n := 192) (Nat.le_refl _) (Nat.le_refl _) ?_
  obtain ⟨r__2, y__3, yc__4, s__5, n9__6, g__7, gf__8, gs__9, fs9__10, im2__11⟩ := u_12
  replace hP : va_P D vwCl ([(rd, .inr (4, [.ref tp, .ref d, .ref ft, .ref bl, .int (nI y__3), .int yc__4, .ref wk, .int (nI s__5), .ref fl, .ref sr, .int (nI n9__6), .null, .ref cl, .int (nI 0)])), (tp, .inr (8, [.ref tb, .int (nI L)])), (tb, .inl (κ 0, 800, .inl tf)), (d, .inl (κ 0, 6, .inl dl)), (wk, .inl (κ 1, 20, .inl g__7)), (fl, .inl (κ 2, 8, .inr (.inr (.inr (.inr gf__8))))), (sr, .inl (κ 0, 8, .inl gs__9)), (cl, .inl (κ 2, 320, .inr (.inr (.inr (.inr fc)))))] ++ im2__11) H := subP (C := [(cl, .inl (κ 2, 320, .inr (.inr (.inr (.inr fc))))), (rd, .inr (4, [.ref tp, .ref d, .ref ft, .ref bl, .int (nI y__3), .int yc__4, .ref wk, .int (nI s__5), .ref fl, .ref sr, .int (nI n9__6), .null, .ref cl, .int (nI 0)])), (tp, .inr (8, [.ref tb, .int (nI L)])), (tb, .inl (κ 0, 800, .inl tf)), (d, .inl (κ 0, 6, .inl dl)), (wk, .inl (κ 1, 20, .inl g__7)), (fl, .inl (κ 2, 8, .inr (.inr (.inr (.inr gf__8))))), (sr, .inl (κ 0, 8, .inl gs__9))]) hP [1, 2, 3, 4, 5, 6, 7, 0] rfl
  replace hD : va_D A ([(rd, .inr (4, [.ref tp, .ref d, .ref ft, .ref bl, .int (nI y__3), .int yc__4, .ref wk, .int (nI s__5), .ref fl, .ref sr, .int (nI n9__6), .null, .ref cl, .int (nI 0)])), (tp, .inr (8, [.ref tb, .int (nI L)])), (tb, .inl (κ 0, 800, .inl tf)), (d, .inl (κ 0, 6, .inl dl)), (wk, .inl (κ 1, 20, .inl g__7)), (fl, .inl (κ 2, 8, .inr (.inr (.inr (.inr gf__8))))), (sr, .inl (κ 0, 8, .inl gs__9)), (cl, .inl (κ 2, 320, .inr (.inr (.inr (.inr fc)))))] ++ im2__11) := subD (C := [(cl, .inl (κ 2, 320, .inr (.inr (.inr (.inr fc))))), (rd, .inr (4, [.ref tp, .ref d, .ref ft, .ref bl, .int (nI y__3), .int yc__4, .ref wk, .int (nI s__5), .ref fl, .ref sr, .int (nI n9__6), .null, .ref cl, .int (nI 0)])), (tp, .inr (8, [.ref tb, .int (nI L)])), (tb, .inl (κ 0, 800, .inl tf)), (d, .inl (κ 0, 6, .inl dl)), (wk, .inl (κ 1, 20, .inl g__7)), (fl, .inl (κ 2, 8, .inr (.inr (.inr (.inr gf__8))))), (sr, .inl (κ 0, 8, .inl gs__9))]) hD [1, 2, 3, 4, 5, 6, 7, 0] (by decide) rfl
  replace hp_13 : y__3 ≤ L ∧ s__5 ≤ 20 ∧ sb_Fit g__7 ∧ n9__6 ≤ 8 ∧ (r__2 = 0 → 1 ≤ n9__6) ∧ Sb im im2__11 ∧ Lc κ im2__11 gf__8 n9__6 ∧ ((r__2 = 0 ∧ lnF tf dl L 8 aq [] = some (y__3, fs9__10) ∧ Fs κ im2__11 gf__8 n9__6 fs9__10) ∨ (¬ r__2 = 0 ∧ lnF tf dl L 8 aq [] = none)) := hp_13
  obtain ⟨h_14, h_15, h_16, h_17, h_18, h_19, h_20, h_21⟩ := hp_13
  replace hbl := hbl.up h_19
  replace hlf := hlf.up h_19
  refine W.eq (g2 := F0 m 17 ls [.int r__2]) rfl ?_
  refine lv_istore_n (lv' := [(2, .int r__2), (0, .ref rd), (1, .int 40)]) hx hb dX4_takeLine_17 rfl hl (by decide) rfl (fun ls hl => ?_)
  refine lv_iload_n hx hb dX4_takeLine_18 rfl (lv_at hl 0 rfl) ?_
  refine lv_if_eq (tgt := 24) hx hb dX4_takeLine_19 (by decide) (fun c_22 => ?_) (fun c_22 => ?_)
  · have hcn := h_18 c_22
    obtain ⟨hok9, hfs9⟩ := (sp_ok h_21 c_22)
    have hfe9 := hfs9.1
    refine lv_aload_n hx hb dX4_takeLine_24 rfl (lv_at hl 1 rfl) ?_
    refine va_get (D := D) (ci := 4) (v := .null) (C := RX4) (T := TX4) (N := 14) hx hb hts inlX4 hown hK hP 0 rfl rfl 11 (by decide) (hts _ mw_78) (fun _ h9 => h9) rfl dX4_takeLine_25 ?_
    refine lv_ifnonnullN hx hb dX4_takeLine_28 ?_
    refine lv_aload_n hx hb dX4_takeLine_31 rfl (lv_at hl 1 rfl) ?_
    refine va_get (D := D) (ci := 4) (v := .ref d) (C := RX4) (T := TX4) (N := 14) hx hb hts inlX4 hown hK hP 0 rfl rfl 1 (by decide) (hts _ mw_82) (fun _ h9 => h9) rfl dX4_takeLine_32 ?_
    refine lv_iconst (v := 2) hx hb dX4_takeLine_35 (by decide) ?_
    refine va_iald hx hb hK hP 3 0 rfl rfl (i := 2) (vp_k (by decide)) dX4_takeLine_36 ?_
    obtain ⟨x_23, ex_23⟩ : ∃ y9 : Int32, dl 2 = y9 := ⟨_, rfl⟩
    refine kv (v := .int x_23) (congrArg Value.int ex_23) ?_
    refine lv_iconst (v := 1) hx hb dX4_takeLine_37 (by decide) ?_
    refine lv_icmp_ne (tgt := 46) hx hb dX4_takeLine_38 (by decide) (fun c_24 => ?_) (fun c_24 => ?_)
    · refine lv_aload_n hx hb dX4_takeLine_46 rfl (lv_at hl 1 rfl) ?_
      refine va_get (D := D) (ci := 4) (v := .null) (C := RX4) (T := TX4) (N := 14) hx hb hts inlX4 hown hK hP 0 rfl rfl 11 (by decide) (hts _ mw_78) (fun _ h9 => h9) rfl dX4_takeLine_47 ?_
      refine lv_ifnonnullN hx hb dX4_takeLine_50 ?_
      refine lv_aload_n hx hb dX4_takeLine_53 rfl (lv_at hl 1 rfl) ?_
      refine lv_aload_n hx hb dX4_takeLine_54 rfl (lv_at hl 1 rfl) ?_
      refine va_get (D := D) (ci := 4) (v := .int (nI n9__6)) (C := RX4) (T := TX4) (N := 14) hx hb hts inlX4 hown hK hP 0 rfl rfl 10 (by decide) (hts _ mw_77) (fun _ h9 => h9) rfl dX4_takeLine_55 ?_
      refine et_ST (CR := [(rd, .inr (4, [.ref tp, .ref d, .ref ft, .ref bl, .int (nI y__3), .int yc__4, .ref wk, .int (nI s__5), .ref fl, .ref sr, .int (nI n9__6), .null, .ref cl, .int (nI 0)])), (tp, .inr (8, [.ref tb, .int (nI L)])), (tb, .inl (κ 0, 800, .inl tf)), (d, .inl (κ 0, 6, .inl dl)), (wk, .inl (κ 1, 20, .inl g__7)), (fl, .inl (κ 2, 8, .inr (.inr (.inr (.inr gf__8))))), (sr, .inl (κ 0, 8, .inl gs__9)), (cl, .inl (κ 2, 320, .inr (.inr (.inr (.inr fc)))))]) (As := [.int (nI n9__6)]) (rest := [.ref rd]) hFX hKK hE hP hD hS hA (c_X1_numbered l D κ κq im2__11 n9__6 (by omega) (by omega)) 1 gS_X4_106 hdS_X1_numbered ⟨Nat.le_of_ble_eq_true rfl, Nat.le_of_ble_eq_true rfl⟩ rfl rfl (Nat.le_of_ble_eq_true rfl) dX4_takeLine_58 ⟨Nat.le_of_ble_eq_true rfl, Nat.le_of_ble_eq_true rfl⟩ hl.1 [] [0, 1, 2, 3, 4, 5, 6, 7] rfl rfl (by decide) (by decide) (by decide) (fun u_27 H locs hp_28 hP hD hS => ?_)
      refine W.widen (k := 33) (n := 232) (Nat.le_refl _) (Nat.le_refl _) ?_
      obtain ⟨q__25, im2__26⟩ := u_27
      replace hP : va_P D vwCl ([(rd, .inr (4, [.ref tp, .ref d, .ref ft, .ref bl, .int (nI y__3), .int yc__4, .ref wk, .int (nI s__5), .ref fl, .ref sr, .int (nI n9__6), .null, .ref cl, .int (nI 0)])), (tp, .inr (8, [.ref tb, .int (nI L)])), (tb, .inl (κ 0, 800, .inl tf)), (d, .inl (κ 0, 6, .inl dl)), (wk, .inl (κ 1, 20, .inl g__7)), (fl, .inl (κ 2, 8, .inr (.inr (.inr (.inr gf__8))))), (sr, .inl (κ 0, 8, .inl gs__9)), (cl, .inl (κ 2, 320, .inr (.inr (.inr (.inr fc)))))] ++ im2__26) H := subP (C := [(rd, .inr (4, [.ref tp, .ref d, .ref ft, .ref bl, .int (nI y__3), .int yc__4, .ref wk, .int (nI s__5), .ref fl, .ref sr, .int (nI n9__6), .null, .ref cl, .int (nI 0)])), (tp, .inr (8, [.ref tb, .int (nI L)])), (tb, .inl (κ 0, 800, .inl tf)), (d, .inl (κ 0, 6, .inl dl)), (wk, .inl (κ 1, 20, .inl g__7)), (fl, .inl (κ 2, 8, .inr (.inr (.inr (.inr gf__8))))), (sr, .inl (κ 0, 8, .inl gs__9)), (cl, .inl (κ 2, 320, .inr (.inr (.inr (.inr fc)))))]) hP [0, 1, 2, 3, 4, 5, 6, 7] rfl
      replace hD : va_D A ([(rd, .inr (4, [.ref tp, .ref d, .ref ft, .ref bl, .int (nI y__3), .int yc__4, .ref wk, .int (nI s__5), .ref fl, .ref sr, .int (nI n9__6), .null, .ref cl, .int (nI 0)])), (tp, .inr (8, [.ref tb, .int (nI L)])), (tb, .inl (κ 0, 800, .inl tf)), (d, .inl (κ 0, 6, .inl dl)), (wk, .inl (κ 1, 20, .inl g__7)), (fl, .inl (κ 2, 8, .inr (.inr (.inr (.inr gf__8))))), (sr, .inl (κ 0, 8, .inl gs__9)), (cl, .inl (κ 2, 320, .inr (.inr (.inr (.inr fc)))))] ++ im2__26) := subD (C := [(rd, .inr (4, [.ref tp, .ref d, .ref ft, .ref bl, .int (nI y__3), .int yc__4, .ref wk, .int (nI s__5), .ref fl, .ref sr, .int (nI n9__6), .null, .ref cl, .int (nI 0)])), (tp, .inr (8, [.ref tb, .int (nI L)])), (tb, .inl (κ 0, 800, .inl tf)), (d, .inl (κ 0, 6, .inl dl)), (wk, .inl (κ 1, 20, .inl g__7)), (fl, .inl (κ 2, 8, .inr (.inr (.inr (.inr gf__8))))), (sr, .inl (κ 0, 8, .inl gs__9)), (cl, .inl (κ 2, 320, .inr (.inr (.inr (.inr fc)))))]) hD [0, 1, 2, 3, 4, 5, 6, 7] (by decide) rfl
      replace hp_28 : Sb im2__11 im2__26 ∧ Ca κ im2__26 q__25 n9__6 := hp_28
      obtain ⟨h_29, h_30⟩ := hp_28
      replace hbl := hbl.up h_29
      replace hlf := hlf.up h_29
      replace h_20 := h_20.up h_29
      replace hfs9 := hfs9.up h_29
      refine W.eq (g2 := F0 m 61 ls [.ref q__25, .ref rd]) rfl ?_
      refine va_put (D := D) (ci := 4) (v := .ref q__25) (ty := tyX4 11) (C := RX4) (T := TX4) (N := 14) hx hb hts inlX4 tyX4 tyX4_ok nmX4 hown hK hP hD hS 0 rfl rfl 11 (by decide) (hts _ mw_78) (fun _ h9 => h9) rfl (tyX4_ok 11 (by decide)) rfl rfl (Nat.le_of_ble_eq_true rfl) dX4_takeLine_61 (fun H locs hP hD hS => ?_)
      have hP : va_P D vwCl ([(rd, .inr (4, [.ref tp, .ref d, .ref ft, .ref bl, .int (nI y__3), .int yc__4, .ref wk, .int (nI s__5), .ref fl, .ref sr, .int (nI n9__6), .ref q__25, .ref cl, .int (nI 0)])), (tp, .inr (8, [.ref tb, .int (nI L)])), (tb, .inl (κ 0, 800, .inl tf)), (d, .inl (κ 0, 6, .inl dl)), (wk, .inl (κ 1, 20, .inl g__7)), (fl, .inl (κ 2, 8, .inr (.inr (.inr (.inr gf__8))))), (sr, .inl (κ 0, 8, .inl gs__9)), (cl, .inl (κ 2, 320, .inr (.inr (.inr (.inr fc)))))] ++ im2__26) H := hP
      have hD : va_D A ([(rd, .inr (4, [.ref tp, .ref d, .ref ft, .ref bl, .int (nI y__3), .int yc__4, .ref wk, .int (nI s__5), .ref fl, .ref sr, .int (nI n9__6), .ref q__25, .ref cl, .int (nI 0)])), (tp, .inr (8, [.ref tb, .int (nI L)])), (tb, .inl (κ 0, 800, .inl tf)), (d, .inl (κ 0, 6, .inl dl)), (wk, .inl (κ 1, 20, .inl g__7)), (fl, .inl (κ 2, 8, .inr (.inr (.inr (.inr gf__8))))), (sr, .inl (κ 0, 8, .inl gs__9)), (cl, .inl (κ 2, 320, .inr (.inr (.inr (.inr fc)))))] ++ im2__26) := hD
      obtain ⟨kb_32, nb_33, hbc_31⟩ := Cs.cl hbl
      refine lv_aload_n hx hb dX4_takeLine_64 rfl (lv_at hl 1 rfl) ?_
      refine et_VT (CR := [(tp, .inr (8, [.ref tb, .int (nI L)])), (tb, .inl (κ 0, 800, .inl tf)), (wk, .inl (κ 1, 20, .inl g__7))]) (As := []) (rest := []) hFX hKK hE hP hD hS hA (c_X4_takeRow_S l D κ κq im2__26 rd tp d ft bl y__3 wk s__5 fl sr n9__6 cl 0 yc__4 dl gf__8 gs__9 fc q__25 n9__6 kb_32 nb_33 h_20 (by rw [Nat.zero_mul]; exact Lc_0) h_30 hbc_31 (by omega) (by omega) (by omega) (by omega) (by omega)) 0 gV_X4_112 hdV_X4_takeRow ⟨Nat.le_of_ble_eq_true rfl, Nat.le_of_ble_eq_true rfl⟩ rfl rfl (Nat.le_of_ble_eq_true rfl) dX4_takeLine_65 ⟨Nat.le_of_ble_eq_true rfl, Nat.le_of_ble_eq_true rfl⟩ hl.1 [0, 3, 5, 6, 7] [1, 2, 4] rfl rfl (by decide) (by decide) (by decide) hP 0 4 rfl rfl rfl (fun u_39 H locs hp_40 hP hD hS => ?_)
      refine W.widen (k := 33) (n := 232) (Nat.le_refl _) (Nat.le_refl _) ?_
      obtain ⟨r__34, ya__35, yc__36, yr__37, gc__38⟩ := u_39
      replace hP : va_P D vwCl ([(rd, .inr (4, [.ref tp, .ref d, .ref ft, .ref bl, .int ya__35, .int yc__36, .ref wk, .int (nI s__5), .ref fl, .ref sr, .int (nI n9__6), .ref q__25, .ref cl, .int (nI yr__37)])), (tp, .inr (8, [.ref tb, .int (nI L)])), (tb, .inl (κ 0, 800, .inl tf)), (d, .inl (κ 0, 6, .inl dl)), (wk, .inl (κ 1, 20, .inl g__7)), (fl, .inl (κ 2, 8, .inr (.inr (.inr (.inr gf__8))))), (sr, .inl (κ 0, 8, .inl gs__9)), (cl, .inl (κ 2, 320, .inr (.inr (.inr (.inr gc__38)))))] ++ im2__26) H := subP (C := [(tp, .inr (8, [.ref tb, .int (nI L)])), (tb, .inl (κ 0, 800, .inl tf)), (wk, .inl (κ 1, 20, .inl g__7)), (rd, .inr (4, [.ref tp, .ref d, .ref ft, .ref bl, .int ya__35, .int yc__36, .ref wk, .int (nI s__5), .ref fl, .ref sr, .int (nI n9__6), .ref q__25, .ref cl, .int (nI yr__37)])), (d, .inl (κ 0, 6, .inl dl)), (fl, .inl (κ 2, 8, .inr (.inr (.inr (.inr gf__8))))), (sr, .inl (κ 0, 8, .inl gs__9)), (cl, .inl (κ 2, 320, .inr (.inr (.inr (.inr gc__38)))))]) hP [3, 0, 1, 4, 2, 5, 6, 7] rfl
      replace hD : va_D A ([(rd, .inr (4, [.ref tp, .ref d, .ref ft, .ref bl, .int ya__35, .int yc__36, .ref wk, .int (nI s__5), .ref fl, .ref sr, .int (nI n9__6), .ref q__25, .ref cl, .int (nI yr__37)])), (tp, .inr (8, [.ref tb, .int (nI L)])), (tb, .inl (κ 0, 800, .inl tf)), (d, .inl (κ 0, 6, .inl dl)), (wk, .inl (κ 1, 20, .inl g__7)), (fl, .inl (κ 2, 8, .inr (.inr (.inr (.inr gf__8))))), (sr, .inl (κ 0, 8, .inl gs__9)), (cl, .inl (κ 2, 320, .inr (.inr (.inr (.inr gc__38)))))] ++ im2__26) := subD (C := [(tp, .inr (8, [.ref tb, .int (nI L)])), (tb, .inl (κ 0, 800, .inl tf)), (wk, .inl (κ 1, 20, .inl g__7)), (rd, .inr (4, [.ref tp, .ref d, .ref ft, .ref bl, .int ya__35, .int yc__36, .ref wk, .int (nI s__5), .ref fl, .ref sr, .int (nI n9__6), .ref q__25, .ref cl, .int (nI yr__37)])), (d, .inl (κ 0, 6, .inl dl)), (fl, .inl (κ 2, 8, .inr (.inr (.inr (.inr gf__8))))), (sr, .inl (κ 0, 8, .inl gs__9)), (cl, .inl (κ 2, 320, .inr (.inr (.inr (.inr gc__38)))))]) hD [3, 0, 1, 4, 2, 5, 6, 7] (by decide) rfl
      replace hp_40 : yr__37 ≤ 40 ∧ ((r__34 = 0 ∧ wdB (dl 4) n9__6 n9__6 = true ∧ ya__35 = nI y__3 ∧ yr__37 = 0 + 1 ∧ Lc κ im2__26 gc__38 ((0 + 1) * n9__6)) ∨ (¬ r__34 = 0 ∧ wdB (dl 4) n9__6 n9__6 = false)) := hp_40
      obtain ⟨h_41, h_42⟩ := hp_40
      refine W.eq (g2 := F0 m 68 ls [.int r__34]) rfl ?_
      exact et_iret hx hb hr hlk rfl hS (r__34, ya__35, yc__36, (Value.ref q__25), s__5, n9__6, yr__37, g__7, gf__8, gs__9, gc__38, im2__26) rfl ⟨(show s__5 ≤ 20 from (by first | assumption | omega | rfl | exact Or.inl (by assumption) | exact Or.inr (by assumption))), (show sb_Fit g__7 from (by first | assumption | omega | rfl | exact Or.inl (by assumption) | exact Or.inr (by assumption))), (show n9__6 ≤ 8 from (by first | assumption | omega | rfl | exact Or.inl (by assumption) | exact Or.inr (by assumption))), (show yr__37 ≤ 40 from (by first | assumption | omega | rfl | exact Or.inl (by assumption) | exact Or.inr (by assumption))), (show Sb im im2__26 from (Sb.tr h_19 h_29)), (show Lc κ im2__26 gf__8 n9__6 from h_20), (show (r__34 = 0 ∧ ∃ q v j : Nat, (Value.ref q__25) = .ref q ∧ (j ≤ L ∧ ya__35 = nI j) ∧ (1 ≤ v ∧ v ≤ 8) ∧ yr__37 ≤ 1 ∧ Ca κ im2__26 q v ∧ Lc κ im2__26 gc__38 (yr__37 * v) ∧ stF tf dl L aq 0 0 = some (j, v, yr__37)) ∨ (¬ r__34 = 0 ∧ stF tf dl L aq 0 0 = none) from (by rcases h_42 with ⟨e9, q1, q2, q3, q4⟩ | ⟨e9, q1⟩; (exact Or.inl ⟨e9, _, _, _, rfl, ⟨(by omega), q2⟩, ⟨hcn, (by omega)⟩, (by omega), h_30, (by rw [q3]; exact q4), by rw [q3]; exact st_num hok9 hfe9 ex_23 c_24 q1⟩); exact Or.inr ⟨e9, st_numf hok9 hfe9 ex_23 c_24 q1⟩))⟩ (subP hP [0, 1, 2, 3, 4, 5, 6, 7] rfl) (subD hD [0, 1, 2, 3, 4, 5, 6, 7] (by decide) rfl) (Nat.le_of_ble_eq_true rfl) (Nat.le_of_ble_eq_true rfl) dX4_takeLine_68
    · refine lv_aload_n hx hb dX4_takeLine_41 rfl (lv_at hl 1 rfl) ?_
      refine et_VT (CR := [(tp, .inr (8, [.ref tb, .int (nI L)])), (tb, .inl (κ 0, 800, .inl tf)), (d, .inl (κ 0, 6, .inl dl)), (wk, .inl (κ 1, 20, .inl g__7)), (cl, .inl (κ 2, 320, .inr (.inr (.inr (.inr fc)))))]) (As := []) (rest := []) hFX hKK hE hP hD hS hA (c_X4_takeNames_S l D κ κq im2__11 rd tp d ft bl y__3 wk s__5 fl sr n9__6 cl 0 yc__4 .null gf__8 gs__9 fs9__10 hfs9 (by omega) (by omega)) 0 gV_X4_103 hdV_X4_takeNames ⟨Nat.le_of_ble_eq_true rfl, Nat.le_of_ble_eq_true rfl⟩ rfl rfl (Nat.le_of_ble_eq_true rfl) dX4_takeLine_42 ⟨Nat.le_of_ble_eq_true rfl, Nat.le_of_ble_eq_true rfl⟩ hl.1 [0, 5, 6] [1, 2, 3, 4, 7] rfl rfl (by decide) (by decide) (by decide) hP 0 4 rfl rfl rfl (fun u_48 H locs hp_49 hP hD hS => ?_)
      refine W.widen (k := 25) (n := 216) (Nat.le_refl _) (Nat.le_refl _) ?_
      obtain ⟨r__43, ya__44, yc__45, yv__46, im2__47⟩ := u_48
      replace hP : va_P D vwCl ([(rd, .inr (4, [.ref tp, .ref d, .ref ft, .ref bl, .int ya__44, .int yc__45, .ref wk, .int (nI s__5), .ref fl, .ref sr, .int (nI n9__6), yv__46, .ref cl, .int (nI 0)])), (tp, .inr (8, [.ref tb, .int (nI L)])), (tb, .inl (κ 0, 800, .inl tf)), (d, .inl (κ 0, 6, .inl dl)), (wk, .inl (κ 1, 20, .inl g__7)), (fl, .inl (κ 2, 8, .inr (.inr (.inr (.inr gf__8))))), (sr, .inl (κ 0, 8, .inl gs__9)), (cl, .inl (κ 2, 320, .inr (.inr (.inr (.inr fc)))))] ++ im2__47) H := subP (C := [(tp, .inr (8, [.ref tb, .int (nI L)])), (tb, .inl (κ 0, 800, .inl tf)), (d, .inl (κ 0, 6, .inl dl)), (wk, .inl (κ 1, 20, .inl g__7)), (cl, .inl (κ 2, 320, .inr (.inr (.inr (.inr fc))))), (rd, .inr (4, [.ref tp, .ref d, .ref ft, .ref bl, .int ya__44, .int yc__45, .ref wk, .int (nI s__5), .ref fl, .ref sr, .int (nI n9__6), yv__46, .ref cl, .int (nI 0)])), (fl, .inl (κ 2, 8, .inr (.inr (.inr (.inr gf__8))))), (sr, .inl (κ 0, 8, .inl gs__9))]) hP [5, 0, 1, 2, 3, 6, 7, 4] rfl
      replace hD : va_D A ([(rd, .inr (4, [.ref tp, .ref d, .ref ft, .ref bl, .int ya__44, .int yc__45, .ref wk, .int (nI s__5), .ref fl, .ref sr, .int (nI n9__6), yv__46, .ref cl, .int (nI 0)])), (tp, .inr (8, [.ref tb, .int (nI L)])), (tb, .inl (κ 0, 800, .inl tf)), (d, .inl (κ 0, 6, .inl dl)), (wk, .inl (κ 1, 20, .inl g__7)), (fl, .inl (κ 2, 8, .inr (.inr (.inr (.inr gf__8))))), (sr, .inl (κ 0, 8, .inl gs__9)), (cl, .inl (κ 2, 320, .inr (.inr (.inr (.inr fc)))))] ++ im2__47) := subD (C := [(tp, .inr (8, [.ref tb, .int (nI L)])), (tb, .inl (κ 0, 800, .inl tf)), (d, .inl (κ 0, 6, .inl dl)), (wk, .inl (κ 1, 20, .inl g__7)), (cl, .inl (κ 2, 320, .inr (.inr (.inr (.inr fc))))), (rd, .inr (4, [.ref tp, .ref d, .ref ft, .ref bl, .int ya__44, .int yc__45, .ref wk, .int (nI s__5), .ref fl, .ref sr, .int (nI n9__6), yv__46, .ref cl, .int (nI 0)])), (fl, .inl (κ 2, 8, .inr (.inr (.inr (.inr gf__8))))), (sr, .inl (κ 0, 8, .inl gs__9))]) hD [5, 0, 1, 2, 3, 6, 7, 4] (by decide) rfl
      replace hp_49 : Sb im2__11 im2__47 ∧ ((r__43 = 0 ∧ hdB fs9__10 n9__6 = true ∧ ya__44 = nI y__3 ∧ ∃ q : Nat, yv__46 = .ref q ∧ Ca κ im2__47 q n9__6) ∨ (¬ r__43 = 0 ∧ hdB fs9__10 n9__6 = false)) := hp_49
      obtain ⟨h_50, h_51⟩ := hp_49
      replace hbl := hbl.up h_50
      replace hlf := hlf.up h_50
      replace h_20 := h_20.up h_50
      replace hfs9 := hfs9.up h_50
      refine W.eq (g2 := F0 m 45 ls [.int r__43]) rfl ?_
      exact et_iret hx hb hr hlk rfl hS (r__43, ya__44, yc__45, yv__46, s__5, n9__6, 0, g__7, gf__8, gs__9, fc, im2__47) rfl ⟨(show s__5 ≤ 20 from (by first | assumption | omega | rfl | exact Or.inl (by assumption) | exact Or.inr (by assumption))), (show sb_Fit g__7 from (by first | assumption | omega | rfl | exact Or.inl (by assumption) | exact Or.inr (by assumption))), (show n9__6 ≤ 8 from (by first | assumption | omega | rfl | exact Or.inl (by assumption) | exact Or.inr (by assumption))), (show 0 ≤ 40 from (by first | assumption | omega | rfl | exact Or.inl (by assumption) | exact Or.inr (by assumption))), (show Sb im im2__47 from (Sb.tr h_19 h_50)), (show Lc κ im2__47 gf__8 n9__6 from h_20), (show (r__43 = 0 ∧ ∃ q v j : Nat, yv__46 = .ref q ∧ (j ≤ L ∧ ya__44 = nI j) ∧ (1 ≤ v ∧ v ≤ 8) ∧ 0 ≤ 1 ∧ Ca κ im2__47 q v ∧ Lc κ im2__47 fc (0 * v) ∧ stF tf dl L aq 0 0 = some (j, v, 0)) ∨ (¬ r__43 = 0 ∧ stF tf dl L aq 0 0 = none) from (by rcases h_51 with ⟨e9, q1, q2, q, q3, q4⟩ | ⟨e9, q1⟩; (exact Or.inl ⟨e9, q, _, _, q3, ⟨(by omega), q2⟩, ⟨hcn, (by omega)⟩, (by omega), q4, (by rw [Nat.zero_mul]; exact Lc_0), st_hd hok9 hfe9 ex_23 c_24 q1⟩); exact Or.inr ⟨e9, st_hdf hok9 hfe9 ex_23 c_24 q1⟩))⟩ (subP hP [0, 1, 2, 3, 4, 5, 6, 7] rfl) (subD hD [0, 1, 2, 3, 4, 5, 6, 7] (by decide) rfl) (Nat.le_of_ble_eq_true rfl) (Nat.le_of_ble_eq_true rfl) dX4_takeLine_45
  · refine lv_iload_n hx hb dX4_takeLine_22 rfl (lv_at hl 0 rfl) ?_
    exact et_iret hx hb hr hlk rfl hS (r__2, nI y__3, yc__4, Value.null, s__5, n9__6, 0, g__7, gf__8, gs__9, fc, im2__11) rfl ⟨(show s__5 ≤ 20 from (by first | assumption | omega | rfl | exact Or.inl (by assumption) | exact Or.inr (by assumption))), (show sb_Fit g__7 from (by first | assumption | omega | rfl | exact Or.inl (by assumption) | exact Or.inr (by assumption))), (show n9__6 ≤ 8 from (by first | assumption | omega | rfl | exact Or.inl (by assumption) | exact Or.inr (by assumption))), (show 0 ≤ 40 from (by first | assumption | omega | rfl | exact Or.inl (by assumption) | exact Or.inr (by assumption))), (show Sb im im2__11 from h_19), (show Lc κ im2__11 gf__8 n9__6 from h_20), (show (r__2 = 0 ∧ ∃ q v j : Nat, Value.null = .ref q ∧ (j ≤ L ∧ (nI y__3) = nI j) ∧ (1 ≤ v ∧ v ≤ 8) ∧ 0 ≤ 1 ∧ Ca κ im2__11 q v ∧ Lc κ im2__11 fc (0 * v) ∧ stF tf dl L aq 0 0 = some (j, v, 0)) ∨ (¬ r__2 = 0 ∧ stF tf dl L aq 0 0 = none) from (Or.inr ⟨c_22, st_ln (sp_no h_21 c_22)⟩))⟩ (subP hP [0, 1, 2, 3, 4, 5, 6, 7] rfl) (subD hD [0, 1, 2, 3, 4, 5, 6, 7] (by decide) rfl) (Nat.le_of_ble_eq_true rfl) (Nat.le_of_ble_eq_true rfl) dX4_takeLine_23
