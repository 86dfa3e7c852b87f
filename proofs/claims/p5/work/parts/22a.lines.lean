theorem lsF_cpy {f g : Nat → Int32} {n : Nat} : lsF (va_cpy f g 0 0 n) n = lsF f n := lsF_same (fun i hi => by simp [va_cpy, hi])
/-- bytes, cells, rows of cells with what they hold -/
def Bs (κ : Nat → ClassId) (im : va_W) (b n : Nat) (xs : List Int32) : Prop := n ≤ 20 ∧ ∃ f : Nat → Int32, ((b, .inl (κ 1, n, .inl f)) : Nat × va_E) ∈ im ∧ sb_Fit f ∧ lsF f n = xs
def Cs (κ : Nat → ClassId) (im : va_W) (a : Nat) (xs : List Int32) : Prop := ∃ (k n b : Nat) (x : Int64), k ≤ 5 ∧ ((a, .inr (0, [.ref b, .int (nI k), .long x])) : Nat × va_E) ∈ im ∧ Bs κ im b n xs
def Fs (κ : Nat → ClassId) (im : va_W) (h : Nat → Option Nat) (n : Nat) (fs : List (List Int32)) : Prop := fs.length = n ∧ ∀ i : Nat, i < n → ∃ q : Nat, h i = some q ∧ Cs κ im q (fs.getD i [])
section FS
variable {κ : Nat → ClassId} {im im2 : va_W} {a b n q : Nat} {xs : List Int32} {h : Nat → Option Nat} {fs : List (List Int32)}
theorem Bs.up (hh : Bs κ im b n xs) (hs : Sb im im2) : Bs κ im2 b n xs := by
  obtain ⟨h1, f, h2, h3⟩ := hh
  exact ⟨h1, f, hs _ h2, h3⟩
theorem Bs.by (hh : Bs κ im b n xs) : By κ im b n := by
  obtain ⟨h1, f, h2, h3, -⟩ := hh
  exact ⟨h1, f, h2, h3⟩
theorem Cs.up (hh : Cs κ im a xs) (hs : Sb im im2) : Cs κ im2 a xs := by
  obtain ⟨k, n, b, x, h1, h2, h3⟩ := hh
  exact ⟨k, n, b, x, h1, hs _ h2, h3.up hs⟩
theorem Cs.cl (hh : Cs κ im a xs) : ∃ k n : Nat, Cl κ im a k n := by
  obtain ⟨k, n, b, x, h1, h2, h3⟩ := hh
  exact ⟨k, n, h1, b, x, h2, h3.by⟩
theorem Fs.up (hh : Fs κ im h n fs) (hs : Sb im im2) : Fs κ im2 h n fs := by
  obtain ⟨h1, h2⟩ := hh
  refine ⟨h1, fun i hi => ?_⟩
  obtain ⟨q, e, h3⟩ := h2 i hi
  exact ⟨q, e, h3.up hs⟩
theorem Fs.lc (hh : Fs κ im h n fs) : Lc κ im h n := by
  intro i hi
  obtain ⟨q, e, h3⟩ := hh.2 i hi
  obtain ⟨k, m, h4⟩ := h3.cl
  exact ⟨q, e, k, m, h4⟩
theorem Fs_0 : Fs κ im h 0 [] := ⟨rfl, fun i hi => absurd hi (by omega)⟩
theorem Fs_add (hh : Fs κ im h n fs) (hq : Cs κ im q xs) : Fs κ im (va_up h n (some q)) (n + 1) (fs ++ [xs]) := by
  obtain ⟨h1, h2⟩ := hh
  refine ⟨by rw [List.length_append, h1]; rfl, fun i hi => ?_⟩
  unfold va_up
  by_cases e : i = n
  · refine ⟨q, by simp [e], ?_⟩
    rw [e, List.getD_eq_getElem?_getD, List.getElem?_append_right (by omega), h1, Nat.sub_self]
    exact hq
  · obtain ⟨q2, e2, h3⟩ := h2 i (by omega)
    refine ⟨q2, by simpa [e] using e2, ?_⟩
    rw [List.getD_eq_getElem?_getD, List.getElem?_append_left (by omega), ← List.getD_eq_getElem?_getD]
    exact h3
end FS
section LN
variable {t d : Nat → Int32} {L p q q' n : Nat} {a : List Int32} {fs : List (List Int32)}
theorem ln_ar (h : n < 8) : 8 - n = (8 - (n + 1)) + 1 := by omega
theorem ln_no (h : n < 8) (e : fdF t d L p = none) : lnF t d L (8 - n) p fs = none := by rw [ln_ar h, lnF, e]
theorem ln_end (h : n < 8) (e : fdF t d L p = some (q, a)) (c : L ≤ q ∨ t q = 10) : lnF t d L (8 - n) p fs = some (q, fs ++ [a]) := by
  rw [ln_ar h, lnF, e]
  exact if_pos c
theorem ln_go (h : n < 8) (e : fdF t d L p = some (q, a)) (c : ¬ (L ≤ q ∨ t q = 10)) (hq : q' = q + 1 ∨ 8 ≤ n + 1) : lnF t d L (8 - n) p fs = lnF t d L (8 - (n + 1)) q' (fs ++ [a]) := by
  rw [ln_ar h, lnF, e]
  refine (if_neg c).trans ?_
  rcases hq with rfl | hq
  · rfl
  · rw [show 8 - (n + 1) = 0 by omega]
    rfl
theorem ln_8 (h : 8 ≤ n) : lnF t d L (8 - n) p fs = none := by
  rw [show 8 - n = 0 by omega]
  rfl
end LN

set_option maxHeartbeats 4000000 in
set_option maxRecDepth 100000 in
theorem c_copyb_S (l : Launch) (D : va_G) (κ : Nat → ClassId) (κq : Nat → Nat) (b : Nat) (n : Nat) (k : Nat) (f : Nat → Int32) (hk9 : k ≤ n) (hn4 : n ≤ 20) (hfit : sb_Fit f) : Et l yJ7_copyOf_9075b (wl yJ7_copyOf_9075b cJ7_copyOf_9075b 3 (some (.array .byte))) { frames := 1, cells := 1, slots := 21, locals := 18 } D κ κq [.ref b, .int (nI k)] [(b, .inl (κ 1, n, .inl f))] (fun u9 : Nat × (Nat → Int32) => some (.ref u9.1)) (fun u9 : Nat × (Nat → Int32) => sb_Fit u9.2 ∧ lsF u9.2 k = lsF f k) (fun u9 : Nat × (Nat → Int32) => [(b, .inl (κ 1, n, .inl f)), (u9.1, .inl (κ 1, k, .inl u9.2))]) := by
  refine et_of (by decide +kernel) (Nat.le_of_ble_eq_true rfl) ?_
  intro p e s m args below meth c A ls hx hb hr hml hts hown hlk hin hKK hK hA hP hD hS hE hl
  have hS : va_S A s.heap s.heap [] := hS
  have hP : va_P D vwCl ([(b, .inl (κ 1, n, .inl f))] ++ []) s.heap := hP
  have hD : va_D A ([(b, .inl (κ 1, n, .inl f))] ++ []) := hD
  have hFX : FX p s m args c cJ7_copyOf_9075b 3 RJ7 := ⟨hx, hb, hml, hown, hts⟩
  have hl : lv_has ls 3 [(0, .ref b), (1, .int (nI k))] := hl
  refine lv_iload_n hx hb dJ7_copyOf_9075b_0 rfl (lv_at hl 1 rfl) ?_
  refine lv_aload_n hx hb dJ7_copyOf_9075b_1 rfl (lv_at hl 0 rfl) ?_
  refine va_alen hx hb hK hP 0 1 rfl rfl (v := nI n) rfl dJ7_copyOf_9075b_2 ?_
  refine lv_icmp_ne (tgt := 14) hx hb dJ7_copyOf_9075b_3 (by decide) (fun c_1 => ?_) (fun c_1 => ?_)
  · have nc_1 := cv_ne (a := k) (b := n) (by omega) (by omega) c_1
    refine lv_iload_n hx hb dJ7_copyOf_9075b_14 rfl (lv_at hl 1 rfl) ?_
    refine my_newa (atype := .byte) hx hb (hts _ mw_69) rfl hK hP hD hS hA 1 rfl (N' := k) (a0 := (k, .inl (fun _ => 0))) (fun _ => rfl) (nI_pos (by omega)) (nI_clamp (by omega)) (by show k * 1 ≤ _; omega) (Nat.le_of_ble_eq_true rfl) (by show _ ≤ 21; omega) dJ7_copyOf_9075b_15 (fun q_2 H hP hD hS => ?_)
    refine W.widen (k := 1) (n := 20) (Nat.le_refl _) (by omega) ?_
    replace hP : va_P D vwCl ([(b, .inl (κ 1, n, .inl f)), (q_2, .inl (κ 1, k, .inl (fun _ => (0 : Int32))))] ++ []) H := mvP hP
    replace hD : va_D A ([(b, .inl (κ 1, n, .inl f)), (q_2, .inl (κ 1, k, .inl (fun _ => (0 : Int32))))] ++ []) := mvD hD
    refine lv_astore_n (lv' := [(2, .ref q_2), (0, .ref b), (1, .int (nI k))]) hx hb dJ7_copyOf_9075b_17 rfl hl (by decide) rfl (fun ls hl => ?_)
    refine lv_aload_n hx hb dJ7_copyOf_9075b_18 rfl (lv_at hl 1 rfl) ?_
    refine lv_iconst (v := 0) hx hb dJ7_copyOf_9075b_19 (by decide) ?_
    refine lv_aload_n hx hb dJ7_copyOf_9075b_20 rfl (lv_at hl 0 rfl) ?_
    refine lv_iconst (v := 0) hx hb dJ7_copyOf_9075b_21 (by decide) ?_
    refine lv_aload_n hx hb dJ7_copyOf_9075b_22 rfl (lv_at hl 1 rfl) ?_
    refine va_alen hx hb hK hP 0 1 rfl rfl (v := nI n) rfl dJ7_copyOf_9075b_23 ?_
    refine lv_iload_n hx hb dJ7_copyOf_9075b_24 rfl (lv_at hl 2 rfl) ?_
    refine va_mmin hx hb (hml.trans hl.1.symm) hown (hts _ mw_316) (hts _ mw_317) (hts _ mw_318) (hts _ mw_319) (Nat.le_of_ble_eq_true rfl) (Nat.le_of_ble_eq_true rfl) (Nat.le_of_ble_eq_true rfl) (Nat.le_of_ble_eq_true rfl) dJ7_copyOf_9075b_25 ?_
    obtain ⟨r_3, hr_3a, hr_3b, hr_3c, er_3⟩ := min_n (a := n) (b := k) (by omega) (by omega)
    refine ki (v := nI r_3) er_3 ?_
    refine W.eq (g2 := F0 m 28 ls [.int (nI r_3), .int 0, .ref q_2, .int 0, .ref b]) rfl ?_
    refine va_copyi hx hb (hml.trans hl.1.symm) hown (hts _ mw_320) (hts _ mw_321) (hts _ mw_322) (hts _ mw_323) hK hP hD hS 0 1 1 1 rfl rfl rfl rfl rfl (sp := 0) (dp := 0) (n := nI r_3) (by decide) (by decide) (nI_pos (by omega)) (by rw [nI_clamp (n := r_3) (by omega)]; show 0 + r_3 ≤ _; omega) (by rw [nI_clamp (n := r_3) (by omega)]; show 0 + r_3 ≤ _; omega) (fun i9 _ => hfit _) (Nat.le_of_ble_eq_true rfl) (Nat.le_of_ble_eq_true rfl) dJ7_copyOf_9075b_28 (fun H locs hP hD hS => ?_)
    rw [nI_clamp (n := r_3) (by omega)] at hP hD
    have hP : va_P D vwCl ([(b, .inl (κ 1, n, .inl f)), (q_2, .inl (κ 1, k, .inl (va_cpy f (fun _ => (0 : Int32)) 0 0 r_3)))] ++ []) H := hP
    have hD : va_D A ([(b, .inl (κ 1, n, .inl f)), (q_2, .inl (κ 1, k, .inl (va_cpy f (fun _ => (0 : Int32)) 0 0 r_3)))] ++ []) := hD
    refine W.eq (g2 := F0 m 31 ls []) rfl ?_
    refine lv_aload_n hx hb dJ7_copyOf_9075b_31 rfl (lv_at hl 0 rfl) ?_
    exact et_aret hx hb hr (by first | exact Or.inl ⟨_, rfl⟩ | exact Or.inr ⟨_, rfl⟩) hlk (by first | exact Or.inl rfl | exact Or.inr ⟨_, rfl⟩) hS (q_2, va_cpy f (fun _ => (0 : Int32)) 0 0 r_3) rfl ⟨(show sb_Fit (va_cpy f (fun _ => (0 : Int32)) 0 0 r_3) from (sb_fitC hfit sb_fit0)), (show lsF (va_cpy f (fun _ => (0 : Int32)) 0 0 r_3) k = lsF f k from (by rw [show r_3 = k by omega]; exact lsF_cpy))⟩ (subP0 hP [0, 1] rfl) (hD.sub [0, 1] (by decide) rfl) (Nat.le_of_ble_eq_true rfl) (Nat.le_of_ble_eq_true rfl) dJ7_copyOf_9075b_32
  · have nc_1 := cv_eq (a := k) (b := n) (by omega) (by omega) c_1
    obtain rfl : n = k := by omega
    refine lv_aload_n hx hb dJ7_copyOf_9075b_6 rfl (lv_at hl 0 rfl) ?_
    refine va_clone hx hb (hml.trans hl.1.symm) hown (hts _ mw_310) (hts _ mw_311) (hts _ mw_312) (hts _ mw_313) (hts _ mw_314) hE.2.2.2.2.2.2 hK hP hD hS hA 0 1 rfl rfl (nm_B hKK) (va_fit (F := fun j => .int (f j)) (fun i9 _ => hfit _)) (Nat.le_of_ble_eq_true rfl) (Nat.le_of_ble_eq_true rfl) (Nat.le_of_ble_eq_true rfl) (by show _ ≤ 21; omega) dJ7_copyOf_9075b_7 (fun q_4 H _ hP hD hS => ?_)
    refine W.widen (k := 1) (n := 20) (Nat.le_refl _) (by show _ + n ≤ _; omega) ?_
    replace hP : va_P D vwCl ([(b, .inl (κ 1, n, .inl f)), (q_4, .inl (κ 1, n, .inl f))] ++ []) H := mvP hP
    replace hD : va_D A ([(b, .inl (κ 1, n, .inl f)), (q_4, .inl (κ 1, n, .inl f))] ++ []) := mvD hD
    refine W.eq (g2 := F0 m 10 ls [.ref q_4]) rfl ?_
    refine va_castA hx hb hown (hts _ mw_315) hP 1 rfl (nm_B hKK) dJ7_copyOf_9075b_10 ?_
    exact et_aret hx hb hr (by first | exact Or.inl ⟨_, rfl⟩ | exact Or.inr ⟨_, rfl⟩) hlk (by first | exact Or.inl rfl | exact Or.inr ⟨_, rfl⟩) hS (q_4, f) rfl ⟨(show sb_Fit f from hfit), (show lsF f n = lsF f n from rfl)⟩ (subP0 hP [0, 1] rfl) (hD.sub [0, 1] (by decide) rfl) (Nat.le_of_ble_eq_true rfl) (Nat.le_of_ble_eq_true rfl) dJ7_copyOf_9075b_13
set_option maxHeartbeats 4000000 in
set_option maxRecDepth 100000 in
theorem c_X0_init_S (l : Launch) (D : va_G) (κ : Nat → ClassId) (κq : Nat → Nat) (im : va_W) (a : Nat) (b : Nat) (n : Nat) (xs : List Int32) (hby : Bs κ im b n xs) : Et l yX0_init (wl yX0_init cX0_init 2 none) { frames := 6, cells := 0, slots := 0, locals := 127 } D κ κq [.ref a, .ref b] ([(a, .inr (0, [.null, .int 0, .long 0]))] ++ im) (fun im2 : va_W => none) (fun im2 : va_W => Sb im im2 ∧ Cs κ im2 a xs) (fun im2 : va_W => ([] ++ im2)) := by
  refine et_of (by decide +kernel) (Nat.le_of_ble_eq_true rfl) ?_
  intro p e s m args below meth c A ls hx hb hr hml hts hown hlk hin hKK hK hA hP hD hS hE hl
  have hS : va_S A s.heap s.heap [] := hS
  have hP : va_P D vwCl ([(a, .inr (0, [.null, .int 0, .long 0]))] ++ im) s.heap := hP
  have hD : va_D A ([(a, .inr (0, [.null, .int 0, .long 0]))] ++ im) := hD
  have hFX : FX p s m args c cX0_init 2 RX0 := ⟨hx, hb, hml, hown, hts⟩
  have hl : lv_has ls 2 [(0, .ref a), (1, .ref b)] := hl
  refine lv_aload_n hx hb dX0_init_0 rfl (lv_at hl 0 rfl) ?_
  refine W.objInit hx hb hown (hts _ mw_87) (hts _ mw_10) (hts _ mw_11) rfl (by rw [hml]; exact hl.1) rfl dX0_init_1 (Nat.le_of_ble_eq_true rfl) (Nat.le_of_ble_eq_true rfl) ?_
  refine W.eq (g2 := F0 m 4 ls []) rfl ?_
  refine lv_aload_n hx hb dX0_init_4 rfl (lv_at hl 0 rfl) ?_
  refine lv_aload_n hx hb dX0_init_5 rfl (lv_at hl 1 rfl) ?_
  refine va_putF (D := D) (ci := 0) (v := .ref b) (ty := tyX0 0) (C := RX0) (T := TX0) (N := 3) hx hb hts inlX0 tyX0 tyX0_ok nmX0 hown hK hP hD hS 0 rfl rfl 0 (by decide) (hts _ mw_88) (fun _ h9 => h9) rfl hin rfl (tyX0_ok 0 (by decide)) rfl rfl (Nat.le_of_ble_eq_true rfl) dX0_init_6 (fun H locs hP hD hS => ?_)
  have hP : va_P D vwCl ([(a, .inr (0, [.ref b, .int 0, .long 0]))] ++ im) H := hP
  have hD : va_D A ([(a, .inr (0, [.ref b, .int 0, .long 0]))] ++ im) := hD
  refine lv_aload_n hx hb dX0_init_9 rfl (lv_at hl 0 rfl) ?_
  refine lv_aload_n hx hb dX0_init_10 rfl (lv_at hl 1 rfl) ?_
  obtain ⟨hn_1, f_2, hm_3, hfit_4, he_5⟩ := id hby
  refine er_S (As := [.ref b]) (rest := [.ref a]) hFX hKK hE hS (c_X0_kindOf l D κ κq b n f_2 (by omega)) 1 gS_X0_15 hdS_X0_kindOf rfl rfl ⟨Nat.le_of_ble_eq_true rfl, Nat.le_of_ble_eq_true rfl⟩ rfl rfl (Nat.le_of_ble_eq_true rfl) dX0_init_11 ⟨Nat.le_of_ble_eq_true rfl, Nat.le_of_ble_eq_true rfl⟩ hl.1 (oneP (C := [(a, .inr (0, [.ref b, .int 0, .long 0]))]) hP hm_3) (fun k__6 hp_7 => ?_)
  replace hp_7 : k__6 ≤ 5 ∧ (k__6 = 0 ∨ 1 ≤ n) ∧ (k__6 = 4 → n = 10 ∧ (∃ mth : Nat, (1 ≤ mth ∧ mth ≤ 12) ∧ dgF f_2 0 5 2 = nI mth)) := hp_7
  obtain ⟨h_8, h_9, h_10⟩ := hp_7
  refine W.eq (g2 := F0 m 14 ls [.int (nI k__6), .ref a]) rfl ?_
  refine va_putF (D := D) (ci := 0) (v := .int (nI k__6)) (ty := tyX0 1) (C := RX0) (T := TX0) (N := 3) hx hb hts inlX0 tyX0 tyX0_ok nmX0 hown hK hP hD hS 0 rfl rfl 1 (by decide) (hts _ mw_89) (fun _ h9 => h9) rfl hin rfl (tyX0_ok 1 (by decide)) rfl rfl (Nat.le_of_ble_eq_true rfl) dX0_init_14 (fun H locs hP hD hS => ?_)
  have hP : va_P D vwCl ([(a, .inr (0, [.ref b, .int (nI k__6), .long 0]))] ++ im) H := hP
  have hD : va_D A ([(a, .inr (0, [.ref b, .int (nI k__6), .long 0]))] ++ im) := hD
  refine lv_aload_n hx hb dX0_init_17 rfl (lv_at hl 0 rfl) ?_
  refine lv_aload_n hx hb dX0_init_18 rfl (lv_at hl 1 rfl) ?_
  refine lv_aload_n hx hb dX0_init_19 rfl (lv_at hl 0 rfl) ?_
  refine va_get (D := D) (ci := 0) (v := .int (nI k__6)) (C := RX0) (T := TX0) (N := 3) hx hb hts inlX0 hown hK hP 0 rfl rfl 1 (by decide) (hts _ mw_89) (fun _ h9 => h9) rfl dX0_init_20 ?_
  refine er_S (As := [.ref b, .int (nI k__6)]) (rest := [.ref a]) hFX hKK hE hS (c_X0_numberOf l D κ κq b n f_2 k__6 (by omega) (by omega) (by omega) (by assumption)) 2 gS_X0_23 hdS_X0_numberOf rfl rfl ⟨Nat.le_of_ble_eq_true rfl, Nat.le_of_ble_eq_true rfl⟩ rfl rfl (Nat.le_of_ble_eq_true rfl) dX0_init_23 ⟨Nat.le_of_ble_eq_true rfl, Nat.le_of_ble_eq_true rfl⟩ hl.1 (oneP (C := [(a, .inr (0, [.ref b, .int (nI k__6), .long 0]))]) hP hm_3) (fun r__11 hp_12 => ?_)
  refine W.eq (g2 := F0 m 26 ls [.long r__11, .ref a]) rfl ?_
  refine va_putF (D := D) (ci := 0) (v := .long r__11) (ty := tyX0 2) (C := RX0) (T := TX0) (N := 3) hx hb hts inlX0 tyX0 tyX0_ok nmX0 hown hK hP hD hS 0 rfl rfl 2 (by decide) (hts _ mw_90) (fun _ h9 => h9) rfl hin rfl (tyX0_ok 2 (by decide)) rfl rfl (Nat.le_of_ble_eq_true rfl) dX0_init_26 (fun H locs hP hD hS => ?_)
  have hP : va_P D vwCl ([(a, .inr (0, [.ref b, .int (nI k__6), .long r__11]))] ++ im) H := hP
  have hD : va_D A ([(a, .inr (0, [.ref b, .int (nI k__6), .long r__11]))] ++ im) := hD
  replace hP : va_P D vwCl ([(a, .inr (0, [.ref b, .int (nI k__6), .long r__11]))] ++ im) _ := subP hP [0] rfl
  replace hD : va_D A ([(a, .inr (0, [.ref b, .int (nI k__6), .long r__11]))] ++ im) := subD hD [0] (by decide) rfl
  obtain ⟨im_13, he_14⟩ : ∃ x9 : va_W, x9 = ([(a, .inr (0, [.ref b, .int (nI k__6), .long r__11]))] ++ im) := ⟨_, rfl⟩
  have hs_15 : Sb im im_13 := by rw [he_14]; exact Sb.app
  have hm_a : (a, .inr (0, [.ref b, .int (nI k__6), .long r__11])) ∈ im_13 := by rw [he_14]; exact List.mem_of_getElem? (i := 0) rfl
  replace hP : va_P D vwCl ([] ++ ([(a, .inr (0, [.ref b, .int (nI k__6), .long r__11]))] ++ im)) _ := hP
  replace hD : va_D A ([] ++ ([(a, .inr (0, [.ref b, .int (nI k__6), .long r__11]))] ++ im)) := hD
  rw [← he_14] at hP hD
  clear he_14
  replace hby := hby.up hs_15
  replace hm_3 := hs_15 _ hm_3
  have hf_16 : Cs κ im_13 a xs := ⟨k__6, n, b, r__11, h_8, hm_a, hby⟩
  exact et_vret hx hb hr hlk hS im_13 rfl ⟨(show Sb im im_13 from hs_15), (show Cs κ im_13 a xs from hf_16)⟩ (subP hP [] rfl) (subD hD [] (by decide) rfl) (Nat.le_of_ble_eq_true rfl) (Nat.le_of_ble_eq_true rfl) dX0_init_29
set_option maxHeartbeats 4000000 in
set_option maxRecDepth 100000 in
theorem c_X4_splitLine_S (l : Launch) (D : va_G) (κ : Nat → ClassId) (κq : Nat → Nat) (im : va_W) (rd : Nat) (tp : Nat) (d : Nat) (ft : Nat) (bl : Nat) (aq : Nat) (wk : Nat) (sz : Nat) (fl : Nat) (sr : Nat) (cnt : Nat) (cl : Nat) (rw : Nat) (ca : Int32) (cv : Value) (tb : Nat) (L : Nat) (tf : Nat → Int32) (dl : Nat → Int32) (wf : Nat → Int32) (ff : Nat → Option Nat) (sf : Nat → Int32) (hL8 : L ≤ 800) (hat : aq ≤ L) (hsz : sz ≤ 20) (hwf : sb_Fit wf) (hbl : Cs κ im bl []) : Et l yX4_splitLine (wl yX4_splitLine cX4_splitLine 2 (some .int)) { frames := 7, cells := 16, slots := 192, locals := 148 } D κ κq [.ref rd] ([(rd, .inr (4, [.ref tp, .ref d, .ref ft, .ref bl, .int (nI aq), .int ca, .ref wk, .int (nI sz), .ref fl, .ref sr, .int (nI cnt), cv, .ref cl, .int (nI rw)])), (tp, .inr (8, [.ref tb, .int (nI L)])), (tb, .inl (κ 0, 800, .inl tf)), (d, .inl (κ 0, 6, .inl dl)), (wk, .inl (κ 1, 20, .inl wf)), (fl, .inl (κ 2, 8, .inr (.inr (.inr (.inr ff))))), (sr, .inl (κ 0, 8, .inl sf))] ++ im) (fun u9 : Int32 × Nat × Int32 × Nat × Nat × (Nat → Int32) × (Nat → Option Nat) × (Nat → Int32) × List (List Int32) × va_W => some (.int u9.1)) (fun u9 : Int32 × Nat × Int32 × Nat × Nat × (Nat → Int32) × (Nat → Option Nat) × (Nat → Int32) × List (List Int32) × va_W => u9.2.1 ≤ L ∧ u9.2.2.2.1 ≤ 20 ∧ sb_Fit u9.2.2.2.2.2.1 ∧ u9.2.2.2.2.1 ≤ 8 ∧ (u9.1 = 0 → 1 ≤ u9.2.2.2.2.1) ∧ Sb im u9.2.2.2.2.2.2.2.2.2 ∧ Lc κ u9.2.2.2.2.2.2.2.2.2 u9.2.2.2.2.2.2.1 u9.2.2.2.2.1 ∧ ((u9.1 = 0 ∧ lnF tf dl L 8 aq [] = some (u9.2.1, u9.2.2.2.2.2.2.2.2.1) ∧ Fs κ u9.2.2.2.2.2.2.2.2.2 u9.2.2.2.2.2.2.1 u9.2.2.2.2.1 u9.2.2.2.2.2.2.2.2.1) ∨ (¬ u9.1 = 0 ∧ lnF tf dl L 8 aq [] = none))) (fun u9 : Int32 × Nat × Int32 × Nat × Nat × (Nat → Int32) × (Nat → Option Nat) × (Nat → Int32) × List (List Int32) × va_W => ([(rd, .inr (4, [.ref tp, .ref d, .ref ft, .ref bl, .int (nI u9.2.1), .int u9.2.2.1, .ref wk, .int (nI u9.2.2.2.1), .ref fl, .ref sr, .int (nI u9.2.2.2.2.1), cv, .ref cl, .int (nI rw)])), (tp, .inr (8, [.ref tb, .int (nI L)])), (tb, .inl (κ 0, 800, .inl tf)), (d, .inl (κ 0, 6, .inl dl)), (wk, .inl (κ 1, 20, .inl u9.2.2.2.2.2.1)), (fl, .inl (κ 2, 8, .inr (.inr (.inr (.inr u9.2.2.2.2.2.2.1))))), (sr, .inl (κ 0, 8, .inl u9.2.2.2.2.2.2.2.1))] ++ u9.2.2.2.2.2.2.2.2.2)) := by
  refine et_of (by decide +kernel) (Nat.le_of_ble_eq_true rfl) ?_
  intro p e s m args below meth c A ls hx hb hr hml hts hown hlk hin hKK hK hA hP hD hS hE hl
  have hS : va_S A s.heap s.heap [] := hS
  have hP : va_P D vwCl ([(rd, .inr (4, [.ref tp, .ref d, .ref ft, .ref bl, .int (nI aq), .int ca, .ref wk, .int (nI sz), .ref fl, .ref sr, .int (nI cnt), cv, .ref cl, .int (nI rw)])), (tp, .inr (8, [.ref tb, .int (nI L)])), (tb, .inl (κ 0, 800, .inl tf)), (d, .inl (κ 0, 6, .inl dl)), (wk, .inl (κ 1, 20, .inl wf)), (fl, .inl (κ 2, 8, .inr (.inr (.inr (.inr ff))))), (sr, .inl (κ 0, 8, .inl sf))] ++ im) s.heap := hP
  have hD : va_D A ([(rd, .inr (4, [.ref tp, .ref d, .ref ft, .ref bl, .int (nI aq), .int ca, .ref wk, .int (nI sz), .ref fl, .ref sr, .int (nI cnt), cv, .ref cl, .int (nI rw)])), (tp, .inr (8, [.ref tb, .int (nI L)])), (tb, .inl (κ 0, 800, .inl tf)), (d, .inl (κ 0, 6, .inl dl)), (wk, .inl (κ 1, 20, .inl wf)), (fl, .inl (κ 2, 8, .inr (.inr (.inr (.inr ff))))), (sr, .inl (κ 0, 8, .inl sf))] ++ im) := hD
  have hFX : FX p s m args c cX4_splitLine 2 RX4 := ⟨hx, hb, hml, hown, hts⟩
  have hl : lv_has ls 2 [(0, .ref rd)] := hl
  refine lv_aload_n hx hb dX4_splitLine_0 rfl (lv_at hl 0 rfl) ?_
  refine lv_iconst (v := 0) hx hb dX4_splitLine_1 (by decide) ?_
  refine va_put (D := D) (ci := 4) (v := .int 0) (ty := tyX4 10) (C := RX4) (T := TX4) (N := 14) hx hb hts inlX4 tyX4 tyX4_ok nmX4 hown hK hP hD hS 0 rfl rfl 10 (by decide) (hts _ mw_77) (fun _ h9 => h9) rfl (tyX4_ok 10 (by decide)) rfl rfl (Nat.le_of_ble_eq_true rfl) dX4_splitLine_2 (fun H locs hP hD hS => ?_)
  have hP : va_P D vwCl ([(rd, .inr (4, [.ref tp, .ref d, .ref ft, .ref bl, .int (nI aq), .int ca, .ref wk, .int (nI sz), .ref fl, .ref sr, .int 0, cv, .ref cl, .int (nI rw)])), (tp, .inr (8, [.ref tb, .int (nI L)])), (tb, .inl (κ 0, 800, .inl tf)), (d, .inl (κ 0, 6, .inl dl)), (wk, .inl (κ 1, 20, .inl wf)), (fl, .inl (κ 2, 8, .inr (.inr (.inr (.inr ff))))), (sr, .inl (κ 0, 8, .inl sf))] ++ im) H := hP
  have hD : va_D A ([(rd, .inr (4, [.ref tp, .ref d, .ref ft, .ref bl, .int (nI aq), .int ca, .ref wk, .int (nI sz), .ref fl, .ref sr, .int 0, cv, .ref cl, .int (nI rw)])), (tp, .inr (8, [.ref tb, .int (nI L)])), (tb, .inl (κ 0, 800, .inl tf)), (d, .inl (κ 0, 6, .inl dl)), (wk, .inl (κ 1, 20, .inl wf)), (fl, .inl (κ 2, 8, .inr (.inr (.inr (.inr ff))))), (sr, .inl (κ 0, 8, .inl sf))] ++ im) := hD
  refine W.widen (k := 16 - 2 * (8 - 0)) (n := 192 - 24 * (8 - 0)) (by omega) (by omega) ?_
  refine loop_mk (8) 2 24 16 192 (fun k9 H locs ls => ∃ (v4_5 : Nat), ∃ (v5_5 : Int32), ∃ (v7_5 : Nat), ∃ (v10_5 : Nat), ∃ (gwk_5 : Nat → Int32), ∃ (gfl_5 : Nat → Option Nat), ∃ (gsr_5 : Nat → Int32), ∃ (im_L5 : va_W), ∃ (Gfs_5 : List (List Int32)), (v4_5 ≤ L) ∧ (v7_5 ≤ 20) ∧ (v10_5 ≤ 8) ∧ (lnF tf dl L (8 - v10_5) v4_5 Gfs_5 = lnF tf dl L 8 aq []) ∧ (Sb im im_L5) ∧ sb_Fit gwk_5 ∧ Fs κ im_L5 gfl_5 v10_5 Gfs_5 ∧ 8 - v10_5 = k9 ∧ va_P D vwCl ([(rd, .inr (4, [.ref tp, .ref d, .ref ft, .ref bl, .int (nI v4_5), .int v5_5, .ref wk, .int (nI v7_5), .ref fl, .ref sr, .int (nI v10_5), cv, .ref cl, .int (nI rw)])), (tp, .inr (8, [.ref tb, .int (nI L)])), (tb, .inl (κ 0, 800, .inl tf)), (d, .inl (κ 0, 6, .inl dl)), (wk, .inl (κ 1, 20, .inl gwk_5)), (fl, .inl (κ 2, 8, .inr (.inr (.inr (.inr gfl_5))))), (sr, .inl (κ 0, 8, .inl gsr_5))] ++ im_L5) H ∧ va_D A ([(rd, .inr (4, [.ref tp, .ref d, .ref ft, .ref bl, .int (nI v4_5), .int v5_5, .ref wk, .int (nI v7_5), .ref fl, .ref sr, .int (nI v10_5), cv, .ref cl, .int (nI rw)])), (tp, .inr (8, [.ref tb, .int (nI L)])), (tb, .inl (κ 0, 800, .inl tf)), (d, .inl (κ 0, 6, .inl dl)), (wk, .inl (κ 1, 20, .inl gwk_5)), (fl, .inl (κ 2, 8, .inr (.inr (.inr (.inr gfl_5))))), (sr, .inl (κ 0, 8, .inl gsr_5))] ++ im_L5) ∧ va_S A s.heap H locs ∧ lv_has ls 2 [(0, .ref rd)]) (fun kz5 H locs ls hkz5 hI5 ih5 => ?_) (8 - 0) _ _ _ (by omega) ⟨aq, ca, sz, 0, wf, ff, sf, im, ([]), (by omega), (by omega), (by omega), rfl, Sb.rf, hwf, Fs_0, rfl, hP, hD, hS, lv_sub hl [0] rfl⟩
  obtain ⟨v4_5, v5_5, v7_5, v10_5, gwk_5, gfl_5, gsr_5, im_L5, Gfs_5, hl5_0, hl5_1, hl5_2, hl5_3, hl5_4, hg5_0, hq5_0, hm5, hP, hD, hS, hl⟩ := hI5
  replace hbl := hbl.up hl5_4
  refine lv_aload_n hx hb dX4_splitLine_5 rfl (lv_at hl 0 rfl) ?_
  refine va_get (D := D) (ci := 4) (v := .int (nI v10_5)) (C := RX4) (T := TX4) (N := 14) hx hb hts inlX4 hown hK hP 0 rfl rfl 10 (by decide) (hts _ mw_77) (fun _ h9 => h9) rfl dX4_splitLine_6 ?_
  refine lv_bipush (v := 8) hx hb dX4_splitLine_9 (by decide) ?_
  refine lv_icmp_ge (tgt := 152) hx hb dX4_splitLine_11 (by decide) (fun c_1 => ?_) (fun c_1 => ?_)
  · have nc_1 := cv_le (a := 8) (b := v10_5) (by omega) (by omega) c_1
    refine lv_bipush (v := 6) hx hb dX4_splitLine_152 (by decide) ?_
    exact et_iret hx hb hr hlk rfl hS (6, v4_5, v5_5, v7_5, v10_5, gwk_5, gfl_5, gsr_5, [], im_L5) rfl ⟨(show v4_5 ≤ L from (by first | assumption | omega | rfl | exact Or.inl (by assumption) | exact Or.inr (by assumption))), (show v7_5 ≤ 20 from (by first | assumption | omega | rfl | exact Or.inl (by assumption) | exact Or.inr (by assumption))), (show sb_Fit gwk_5 from (by first | assumption | omega | rfl | exact Or.inl (by assumption) | exact Or.inr (by assumption))), (show v10_5 ≤ 8 from (by first | assumption | omega | rfl | exact Or.inl (by assumption) | exact Or.inr (by assumption))), (show (6 : Int32) = 0 → 1 ≤ v10_5 from (fun h9 => absurd h9 (by decide))), (show Sb im im_L5 from hl5_4), (show Lc κ im_L5 gfl_5 v10_5 from hq5_0.lc), (show ((6 : Int32) = 0 ∧ lnF tf dl L 8 aq [] = some (v4_5, ([])) ∧ Fs κ im_L5 gfl_5 v10_5 ([])) ∨ (¬ (6 : Int32) = 0 ∧ lnF tf dl L 8 aq [] = none) from (Or.inr ⟨by decide, hl5_3.symm.trans (ln_8 (by omega))⟩))⟩ (subP hP [0, 1, 2, 3, 4, 5, 6] rfl) (subD hD [0, 1, 2, 3, 4, 5, 6] (by decide) rfl) (by show _ ≤ 16; omega) (by show _ ≤ 192; omega) dX4_splitLine_154
  · have nc_1 := cv_nle (a := 8) (b := v10_5) (by omega) (by omega) c_1
    refine lv_aload_n hx hb dX4_splitLine_14 rfl (lv_at hl 0 rfl) ?_
    refine va_get (D := D) (ci := 4) (v := .ref sr) (C := RX4) (T := TX4) (N := 14) hx hb hts inlX4 hown hK hP 0 rfl rfl 9 (by decide) (hts _ mw_76) (fun _ h9 => h9) rfl dX4_splitLine_15 ?_
    refine lv_aload_n hx hb dX4_splitLine_18 rfl (lv_at hl 0 rfl) ?_
    refine va_get (D := D) (ci := 4) (v := .int (nI v10_5)) (C := RX4) (T := TX4) (N := 14) hx hb hts inlX4 hown hK hP 0 rfl rfl 10 (by decide) (hts _ mw_77) (fun _ h9 => h9) rfl dX4_splitLine_19 ?_
    refine lv_aload_n hx hb dX4_splitLine_22 rfl (lv_at hl 0 rfl) ?_
    refine va_get (D := D) (ci := 4) (v := .int (nI v4_5)) (C := RX4) (T := TX4) (N := 14) hx hb hts inlX4 hown hK hP 0 rfl rfl 4 (by decide) (hts _ mw_71) (fun _ h9 => h9) rfl dX4_splitLine_23 ?_
    refine va_iast hx hb hK hP hD hS 6 0 rfl rfl (i := nI v10_5) (x := nI v4_5) (vp_in_nI (n := v10_5) (by omega) (by omega)) dX4_splitLine_26 (fun H locs hP hD hS => ?_)
    rw [nI_clamp (by omega)] at hP hD
    have hP : va_P D vwCl ([(rd, .inr (4, [.ref tp, .ref d, .ref ft, .ref bl, .int (nI v4_5), .int v5_5, .ref wk, .int (nI v7_5), .ref fl, .ref sr, .int (nI v10_5), cv, .ref cl, .int (nI rw)])), (tp, .inr (8, [.ref tb, .int (nI L)])), (tb, .inl (κ 0, 800, .inl tf)), (d, .inl (κ 0, 6, .inl dl)), (wk, .inl (κ 1, 20, .inl gwk_5)), (fl, .inl (κ 2, 8, .inr (.inr (.inr (.inr gfl_5))))), (sr, .inl (κ 0, 8, .inl (upd gsr_5 v10_5 (nI v4_5))))] ++ im_L5) H := hP
    have hD : va_D A ([(rd, .inr (4, [.ref tp, .ref d, .ref ft, .ref bl, .int (nI v4_5), .int v5_5, .ref wk, .int (nI v7_5), .ref fl, .ref sr, .int (nI v10_5), cv, .ref cl, .int (nI rw)])), (tp, .inr (8, [.ref tb, .int (nI L)])), (tb, .inl (κ 0, 800, .inl tf)), (d, .inl (κ 0, 6, .inl dl)), (wk, .inl (κ 1, 20, .inl gwk_5)), (fl, .inl (κ 2, 8, .inr (.inr (.inr (.inr gfl_5))))), (sr, .inl (κ 0, 8, .inl (upd gsr_5 v10_5 (nI v4_5))))] ++ im_L5) := hD
    generalize upd gsr_5 v10_5 (nI v4_5) = g_2 at hP hD 
    refine lv_aload_n hx hb dX4_splitLine_27 rfl (lv_at hl 0 rfl) ?_
    refine et_VN (CR := [(fl, .inl (κ 2, 8, .inr (.inr (.inr (.inr gfl_5))))), (sr, .inl (κ 0, 8, .inl g_2))]) (As := []) (rest := []) hFX hKK hE hP hD hS hA (c_X4_readField_S l D κ κq rd tp d ft bl v4_5 wk v7_5 fl sr v10_5 cl rw v5_5 cv tb L tf dl gwk_5 (by omega) (by omega) (by omega) hg5_0) 0 gV_X4_119 hdV_X4_readField ⟨Nat.le_of_ble_eq_true rfl, Nat.le_of_ble_eq_true rfl⟩ rfl rfl (Nat.le_of_ble_eq_true rfl) dX4_splitLine_28 ⟨(by show 16 - 2 * kz5 + 0 + 0 ≤ 16; omega), (by show 192 - 24 * kz5 + 0 + 0 ≤ 192; omega)⟩ hl.1 [0, 1, 2, 3, 4] [5, 6] rfl rfl (by decide) (by decide) (by decide) hP 0 4 rfl rfl rfl (fun u_7 H locs hp_8 hP hD hS => ?_)
    refine W.widen (k := 16 - 2 * kz5 + 0) (n := 192 - 24 * kz5 + 0) (Nat.le_refl _) (Nat.le_refl _) ?_
    obtain ⟨r__3, y__4, s__5, g__6⟩ := u_7
    replace hP : va_P D vwCl ([(rd, .inr (4, [.ref tp, .ref d, .ref ft, .ref bl, .int (nI y__4), .int v5_5, .ref wk, .int (nI s__5), .ref fl, .ref sr, .int (nI v10_5), cv, .ref cl, .int (nI rw)])), (tp, .inr (8, [.ref tb, .int (nI L)])), (tb, .inl (κ 0, 800, .inl tf)), (d, .inl (κ 0, 6, .inl dl)), (wk, .inl (κ 1, 20, .inl g__6)), (fl, .inl (κ 2, 8, .inr (.inr (.inr (.inr gfl_5))))), (sr, .inl (κ 0, 8, .inl g_2))] ++ im_L5) H := subP (C := [(fl, .inl (κ 2, 8, .inr (.inr (.inr (.inr gfl_5))))), (sr, .inl (κ 0, 8, .inl g_2)), (rd, .inr (4, [.ref tp, .ref d, .ref ft, .ref bl, .int (nI y__4), .int v5_5, .ref wk, .int (nI s__5), .ref fl, .ref sr, .int (nI v10_5), cv, .ref cl, .int (nI rw)])), (tp, .inr (8, [.ref tb, .int (nI L)])), (tb, .inl (κ 0, 800, .inl tf)), (d, .inl (κ 0, 6, .inl dl)), (wk, .inl (κ 1, 20, .inl g__6))]) hP [2, 3, 4, 5, 6, 0, 1] rfl
    replace hD : va_D A ([(rd, .inr (4, [.ref tp, .ref d, .ref ft, .ref bl, .int (nI y__4), .int v5_5, .ref wk, .int (nI s__5), .ref fl, .ref sr, .int (nI v10_5), cv, .ref cl, .int (nI rw)])), (tp, .inr (8, [.ref tb, .int (nI L)])), (tb, .inl (κ 0, 800, .inl tf)), (d, .inl (κ 0, 6, .inl dl)), (wk, .inl (κ 1, 20, .inl g__6)), (fl, .inl (κ 2, 8, .inr (.inr (.inr (.inr gfl_5))))), (sr, .inl (κ 0, 8, .inl g_2))] ++ im_L5) := subD (C := [(fl, .inl (κ 2, 8, .inr (.inr (.inr (.inr gfl_5))))), (sr, .inl (κ 0, 8, .inl g_2)), (rd, .inr (4, [.ref tp, .ref d, .ref ft, .ref bl, .int (nI y__4), .int v5_5, .ref wk, .int (nI s__5), .ref fl, .ref sr, .int (nI v10_5), cv, .ref cl, .int (nI rw)])), (tp, .inr (8, [.ref tb, .int (nI L)])), (tb, .inl (κ 0, 800, .inl tf)), (d, .inl (κ 0, 6, .inl dl)), (wk, .inl (κ 1, 20, .inl g__6))]) hD [2, 3, 4, 5, 6, 0, 1] (by decide) rfl
    replace hp_8 : y__4 ≤ L ∧ v4_5 ≤ y__4 ∧ s__5 ≤ 20 ∧ sb_Fit g__6 ∧ ((r__3 = 0 ∧ fdF tf dl L v4_5 = some (y__4, lsF g__6 s__5)) ∨ (¬ r__3 = 0 ∧ fdF tf dl L v4_5 = none)) := hp_8
    obtain ⟨h_9, h_10, h_11, h_12, h_13⟩ := hp_8
    refine W.eq (g2 := F0 m 31 ls [.int r__3]) rfl ?_
    refine lv_istore_n (lv' := [(1, .int r__3), (0, .ref rd)]) hx hb dX4_splitLine_31 rfl hl (by decide) rfl (fun ls hl => ?_)
    refine lv_iload_n hx hb dX4_splitLine_32 rfl (lv_at hl 0 rfl) ?_
    refine lv_if_eq (tgt := 46) hx hb dX4_splitLine_33 (by decide) (fun c_14 => ?_) (fun c_14 => ?_)
    · refine lv_aload_n hx hb dX4_splitLine_46 rfl (lv_at hl 1 rfl) ?_
      refine va_get (D := D) (ci := 4) (v := .ref fl) (C := RX4) (T := TX4) (N := 14) hx hb hts inlX4 hown hK hP 0 rfl rfl 8 (by decide) (hts _ mw_75) (fun _ h9 => h9) rfl dX4_splitLine_47 ?_
      refine lv_aload_n hx hb dX4_splitLine_50 rfl (lv_at hl 1 rfl) ?_
      refine va_get (D := D) (ci := 4) (v := .int (nI v10_5)) (C := RX4) (T := TX4) (N := 14) hx hb hts inlX4 hown hK hP 0 rfl rfl 10 (by decide) (hts _ mw_77) (fun _ h9 => h9) rfl dX4_splitLine_51 ?_
      refine lv_aload_n hx hb dX4_splitLine_54 rfl (lv_at hl 1 rfl) ?_
      refine va_get (D := D) (ci := 4) (v := .int (nI s__5)) (C := RX4) (T := TX4) (N := 14) hx hb hts inlX4 hown hK hP 0 rfl rfl 7 (by decide) (hts _ mw_74) (fun _ h9 => h9) rfl dX4_splitLine_55 ?_
      refine lv_if_ne (tgt := 68) hx hb dX4_splitLine_58 (by decide) (fun c_15 => ?_) (fun c_15 => ?_)
      · have nc_15 := cv_ne (a := s__5) (b := 0) (by omega) (by omega) c_15
        refine va_new (ci := 0) (fs := [.null, .int 0, .long 0]) (C := RX0) (T := TX0) (N := 3) hx hb hts inlX0 tyX0 tyX0_ok hown (hts _ mw_66) (hts _ mw_67) (hts _ mw_68) hK hP hD hS hA rfl (fun j hj => by rcases (show j = 0 ∨ j = 1 ∨ j = 2 by omega) with rfl | rfl | rfl <;> rfl) (by show _ ≤ 16; omega) (by show _ ≤ 192; omega) dX4_splitLine_68 (fun q_16 H hP hD hS => ?_)
        replace hP : va_P D vwCl ([(rd, .inr (4, [.ref tp, .ref d, .ref ft, .ref bl, .int (nI y__4), .int v5_5, .ref wk, .int (nI s__5), .ref fl, .ref sr, .int (nI v10_5), cv, .ref cl, .int (nI rw)])), (tp, .inr (8, [.ref tb, .int (nI L)])), (tb, .inl (κ 0, 800, .inl tf)), (d, .inl (κ 0, 6, .inl dl)), (wk, .inl (κ 1, 20, .inl g__6)), (fl, .inl (κ 2, 8, .inr (.inr (.inr (.inr gfl_5))))), (sr, .inl (κ 0, 8, .inl g_2)), (q_16, .inr (0, [.null, .int 0, .long 0]))] ++ im_L5) H := mvP hP
        replace hD : va_D A ([(rd, .inr (4, [.ref tp, .ref d, .ref ft, .ref bl, .int (nI y__4), .int v5_5, .ref wk, .int (nI s__5), .ref fl, .ref sr, .int (nI v10_5), cv, .ref cl, .int (nI rw)])), (tp, .inr (8, [.ref tb, .int (nI L)])), (tb, .inl (κ 0, 800, .inl tf)), (d, .inl (κ 0, 6, .inl dl)), (wk, .inl (κ 1, 20, .inl g__6)), (fl, .inl (κ 2, 8, .inr (.inr (.inr (.inr gfl_5))))), (sr, .inl (κ 0, 8, .inl g_2)), (q_16, .inr (0, [.null, .int 0, .long 0]))] ++ im_L5) := mvD hD
        refine lv_dup hx hb dX4_splitLine_71 rfl ?_
        refine lv_aload_n hx hb dX4_splitLine_72 rfl (lv_at hl 1 rfl) ?_
        refine va_get (D := D) (ci := 4) (v := .ref wk) (C := RX4) (T := TX4) (N := 14) hx hb hts inlX4 hown hK hP 0 rfl rfl 6 (by decide) (hts _ mw_73) (fun _ h9 => h9) rfl dX4_splitLine_73 ?_
        refine lv_aload_n hx hb dX4_splitLine_76 rfl (lv_at hl 1 rfl) ?_
        refine va_get (D := D) (ci := 4) (v := .int (nI s__5)) (C := RX4) (T := TX4) (N := 14) hx hb hts inlX4 hown hK hP 0 rfl rfl 7 (by decide) (hts _ mw_74) (fun _ h9 => h9) rfl dX4_splitLine_77 ?_
        refine et_SN (CR := [(rd, .inr (4, [.ref tp, .ref d, .ref ft, .ref bl, .int (nI y__4), .int v5_5, .ref wk, .int (nI s__5), .ref fl, .ref sr, .int (nI v10_5), cv, .ref cl, .int (nI rw)])), (tp, .inr (8, [.ref tb, .int (nI L)])), (tb, .inl (κ 0, 800, .inl tf)), (d, .inl (κ 0, 6, .inl dl)), (fl, .inl (κ 2, 8, .inr (.inr (.inr (.inr gfl_5))))), (sr, .inl (κ 0, 8, .inl g_2)), (q_16, .inr (0, [.null, .int 0, .long 0]))]) (As := [.ref wk, .int (nI s__5)]) (rest := [.ref q_16, .ref q_16, .int (nI v10_5), .ref fl]) hFX hKK hE hP hD hS hA (c_copyb_S l D κ κq wk 20 s__5 g__6 (by omega) (by omega) h_12) 2 gS_X4_122 hdS_J7_copyOf_9075b ⟨Nat.le_of_ble_eq_true rfl, Nat.le_of_ble_eq_true rfl⟩ rfl rfl (Nat.le_of_ble_eq_true rfl) dX4_splitLine_80 ⟨(by show 16 - 2 * kz5 + 1 + 1 ≤ 16; omega), (by show 192 - 24 * kz5 + 3 + 21 ≤ 192; omega)⟩ hl.1 [4] [0, 1, 2, 3, 5, 6, 7] rfl rfl (by decide) (by decide) (by decide) (fun u_19 H locs hp_20 hP hD hS => ?_)
        refine W.widen (k := 16 - 2 * kz5 + 2) (n := 192 - 24 * kz5 + 24) (Nat.le_refl _) (Nat.le_refl _) ?_
        obtain ⟨q__17, g__18⟩ := u_19
        replace hP : va_P D vwCl ([(rd, .inr (4, [.ref tp, .ref d, .ref ft, .ref bl, .int (nI y__4), .int v5_5, .ref wk, .int (nI s__5), .ref fl, .ref sr, .int (nI v10_5), cv, .ref cl, .int (nI rw)])), (tp, .inr (8, [.ref tb, .int (nI L)])), (tb, .inl (κ 0, 800, .inl tf)), (d, .inl (κ 0, 6, .inl dl)), (wk, .inl (κ 1, 20, .inl g__6)), (fl, .inl (κ 2, 8, .inr (.inr (.inr (.inr gfl_5))))), (sr, .inl (κ 0, 8, .inl g_2)), (q_16, .inr (0, [.null, .int 0, .long 0])), (q__17, .inl (κ 1, s__5, .inl g__18))] ++ im_L5) H := subP (C := [(rd, .inr (4, [.ref tp, .ref d, .ref ft, .ref bl, .int (nI y__4), .int v5_5, .ref wk, .int (nI s__5), .ref fl, .ref sr, .int (nI v10_5), cv, .ref cl, .int (nI rw)])), (tp, .inr (8, [.ref tb, .int (nI L)])), (tb, .inl (κ 0, 800, .inl tf)), (d, .inl (κ 0, 6, .inl dl)), (fl, .inl (κ 2, 8, .inr (.inr (.inr (.inr gfl_5))))), (sr, .inl (κ 0, 8, .inl g_2)), (q_16, .inr (0, [.null, .int 0, .long 0])), (wk, .inl (κ 1, 20, .inl g__6)), (q__17, .inl (κ 1, s__5, .inl g__18))]) hP [0, 1, 2, 3, 7, 4, 5, 6, 8] rfl
        replace hD : va_D A ([(rd, .inr (4, [.ref tp, .ref d, .ref ft, .ref bl, .int (nI y__4), .int v5_5, .ref wk, .int (nI s__5), .ref fl, .ref sr, .int (nI v10_5), cv, .ref cl, .int (nI rw)])), (tp, .inr (8, [.ref tb, .int (nI L)])), (tb, .inl (κ 0, 800, .inl tf)), (d, .inl (κ 0, 6, .inl dl)), (wk, .inl (κ 1, 20, .inl g__6)), (fl, .inl (κ 2, 8, .inr (.inr (.inr (.inr gfl_5))))), (sr, .inl (κ 0, 8, .inl g_2)), (q_16, .inr (0, [.null, .int 0, .long 0])), (q__17, .inl (κ 1, s__5, .inl g__18))] ++ im_L5) := subD (C := [(rd, .inr (4, [.ref tp, .ref d, .ref ft, .ref bl, .int (nI y__4), .int v5_5, .ref wk, .int (nI s__5), .ref fl, .ref sr, .int (nI v10_5), cv, .ref cl, .int (nI rw)])), (tp, .inr (8, [.ref tb, .int (nI L)])), (tb, .inl (κ 0, 800, .inl tf)), (d, .inl (κ 0, 6, .inl dl)), (fl, .inl (κ 2, 8, .inr (.inr (.inr (.inr gfl_5))))), (sr, .inl (κ 0, 8, .inl g_2)), (q_16, .inr (0, [.null, .int 0, .long 0])), (wk, .inl (κ 1, 20, .inl g__6)), (q__17, .inl (κ 1, s__5, .inl g__18))]) hD [0, 1, 2, 3, 7, 4, 5, 6, 8] (by decide) rfl
        replace hp_20 : sb_Fit g__18 ∧ lsF g__18 s__5 = lsF g__6 s__5 := hp_20
        obtain ⟨h_21, h_22⟩ := hp_20
        refine W.eq (g2 := F0 m 83 ls [.ref q__17, .ref q_16, .ref q_16, .int (nI v10_5), .ref fl]) rfl ?_
        replace hP : va_P D vwCl ([(rd, .inr (4, [.ref tp, .ref d, .ref ft, .ref bl, .int (nI y__4), .int v5_5, .ref wk, .int (nI s__5), .ref fl, .ref sr, .int (nI v10_5), cv, .ref cl, .int (nI rw)])), (tp, .inr (8, [.ref tb, .int (nI L)])), (tb, .inl (κ 0, 800, .inl tf)), (d, .inl (κ 0, 6, .inl dl)), (wk, .inl (κ 1, 20, .inl g__6)), (fl, .inl (κ 2, 8, .inr (.inr (.inr (.inr gfl_5))))), (sr, .inl (κ 0, 8, .inl g_2)), (q_16, .inr (0, [.null, .int 0, .long 0])), (q__17, .inl (κ 1, s__5, .inl g__18))] ++ im_L5) _ := subP hP [0, 1, 2, 3, 4, 5, 6, 7, 8] rfl
        replace hD : va_D A ([(rd, .inr (4, [.ref tp, .ref d, .ref ft, .ref bl, .int (nI y__4), .int v5_5, .ref wk, .int (nI s__5), .ref fl, .ref sr, .int (nI v10_5), cv, .ref cl, .int (nI rw)])), (tp, .inr (8, [.ref tb, .int (nI L)])), (tb, .inl (κ 0, 800, .inl tf)), (d, .inl (κ 0, 6, .inl dl)), (wk, .inl (κ 1, 20, .inl g__6)), (fl, .inl (κ 2, 8, .inr (.inr (.inr (.inr gfl_5))))), (sr, .inl (κ 0, 8, .inl g_2)), (q_16, .inr (0, [.null, .int 0, .long 0])), (q__17, .inl (κ 1, s__5, .inl g__18))] ++ im_L5) := subD hD [0, 1, 2, 3, 4, 5, 6, 7, 8] (by decide) rfl
        obtain ⟨im_23, he_24⟩ : ∃ x9 : va_W, x9 = ([(q__17, .inl (κ 1, s__5, .inl g__18))] ++ im_L5) := ⟨_, rfl⟩
        have hs_25 : Sb im_L5 im_23 := by rw [he_24]; exact Sb.app
        have hm_q__17 : (q__17, .inl (κ 1, s__5, .inl g__18)) ∈ im_23 := by rw [he_24]; exact List.mem_of_getElem? (i := 0) rfl
        replace hP : va_P D vwCl ([(rd, .inr (4, [.ref tp, .ref d, .ref ft, .ref bl, .int (nI y__4), .int v5_5, .ref wk, .int (nI s__5), .ref fl, .ref sr, .int (nI v10_5), cv, .ref cl, .int (nI rw)])), (tp, .inr (8, [.ref tb, .int (nI L)])), (tb, .inl (κ 0, 800, .inl tf)), (d, .inl (κ 0, 6, .inl dl)), (wk, .inl (κ 1, 20, .inl g__6)), (fl, .inl (κ 2, 8, .inr (.inr (.inr (.inr gfl_5))))), (sr, .inl (κ 0, 8, .inl g_2)), (q_16, .inr (0, [.null, .int 0, .long 0]))] ++ ([(q__17, .inl (κ 1, s__5, .inl g__18))] ++ im_L5)) _ := hP
        replace hD : va_D A ([(rd, .inr (4, [.ref tp, .ref d, .ref ft, .ref bl, .int (nI y__4), .int v5_5, .ref wk, .int (nI s__5), .ref fl, .ref sr, .int (nI v10_5), cv, .ref cl, .int (nI rw)])), (tp, .inr (8, [.ref tb, .int (nI L)])), (tb, .inl (κ 0, 800, .inl tf)), (d, .inl (κ 0, 6, .inl dl)), (wk, .inl (κ 1, 20, .inl g__6)), (fl, .inl (κ 2, 8, .inr (.inr (.inr (.inr gfl_5))))), (sr, .inl (κ 0, 8, .inl g_2)), (q_16, .inr (0, [.null, .int 0, .long 0]))] ++ ([(q__17, .inl (κ 1, s__5, .inl g__18))] ++ im_L5)) := hD
        rw [← he_24] at hP hD
        clear he_24
        replace hbl := hbl.up hs_25
        replace hq5_0 := hq5_0.up hs_25
        have hf_26 : Bs κ im_23 q__17 s__5 (lsF g__6 s__5) := ⟨by omega, _, hm_q__17, h_21, h_22⟩
        refine et_IT (CR := [(rd, .inr (4, [.ref tp, .ref d, .ref ft, .ref bl, .int (nI y__4), .int v5_5, .ref wk, .int (nI s__5), .ref fl, .ref sr, .int (nI v10_5), cv, .ref cl, .int (nI rw)])), (tp, .inr (8, [.ref tb, .int (nI L)])), (tb, .inl (κ 0, 800, .inl tf)), (d, .inl (κ 0, 6, .inl dl)), (wk, .inl (κ 1, 20, .inl g__6)), (fl, .inl (κ 2, 8, .inr (.inr (.inr (.inr gfl_5))))), (sr, .inl (κ 0, 8, .inl g_2))]) (As := [.ref q__17]) (rest := [.ref q_16, .int (nI v10_5), .ref fl]) hFX hKK hE hP hD hS hA (c_X0_init_S l D κ κq im_23 q_16 q__17 s__5 (lsF g__6 s__5) hf_26) 1 mw_84 mw_85 mw_68 mw_86 hdI_X0_init ⟨Nat.le_of_ble_eq_true rfl, Nat.le_of_ble_eq_true rfl⟩ rfl rfl (Nat.le_of_ble_eq_true rfl) dX4_splitLine_83 ⟨(by show 16 - 2 * kz5 + 2 + 0 ≤ 16; omega), (by show 192 - 24 * kz5 + 24 + 0 ≤ 192; omega)⟩ hl.1 [7] [0, 1, 2, 3, 4, 5, 6] rfl rfl (by decide) (by decide) (by decide) (fun im2__27 H locs hp_28 hP hD hS => ?_)
        refine W.widen (k := 16 - 2 * kz5 + 2) (n := 192 - 24 * kz5 + 24) (Nat.le_refl _) (Nat.le_refl _) ?_
        replace hP : va_P D vwCl ([(rd, .inr (4, [.ref tp, .ref d, .ref ft, .ref bl, .int (nI y__4), .int v5_5, .ref wk, .int (nI s__5), .ref fl, .ref sr, .int (nI v10_5), cv, .ref cl, .int (nI rw)])), (tp, .inr (8, [.ref tb, .int (nI L)])), (tb, .inl (κ 0, 800, .inl tf)), (d, .inl (κ 0, 6, .inl dl)), (wk, .inl (κ 1, 20, .inl g__6)), (fl, .inl (κ 2, 8, .inr (.inr (.inr (.inr gfl_5))))), (sr, .inl (κ 0, 8, .inl g_2))] ++ im2__27) H := subP (C := [(rd, .inr (4, [.ref tp, .ref d, .ref ft, .ref bl, .int (nI y__4), .int v5_5, .ref wk, .int (nI s__5), .ref fl, .ref sr, .int (nI v10_5), cv, .ref cl, .int (nI rw)])), (tp, .inr (8, [.ref tb, .int (nI L)])), (tb, .inl (κ 0, 800, .inl tf)), (d, .inl (κ 0, 6, .inl dl)), (wk, .inl (κ 1, 20, .inl g__6)), (fl, .inl (κ 2, 8, .inr (.inr (.inr (.inr gfl_5))))), (sr, .inl (κ 0, 8, .inl g_2))]) hP [0, 1, 2, 3, 4, 5, 6] rfl
        replace hD : va_D A ([(rd, .inr (4, [.ref tp, .ref d, .ref ft, .ref bl, .int (nI y__4), .int v5_5, .ref wk, .int (nI s__5), .ref fl, .ref sr, .int (nI v10_5), cv, .ref cl, .int (nI rw)])), (tp, .inr (8, [.ref tb, .int (nI L)])), (tb, .inl (κ 0, 800, .inl tf)), (d, .inl (κ 0, 6, .inl dl)), (wk, .inl (κ 1, 20, .inl g__6)), (fl, .inl (κ 2, 8, .inr (.inr (.inr (.inr gfl_5))))), (sr, .inl (κ 0, 8, .inl g_2))] ++ im2__27) := subD (C := [(rd, .inr (4, [.ref tp, .ref d, .ref ft, .ref bl, .int (nI y__4), .int v5_5, .ref wk, .int (nI s__5), .ref fl, .ref sr, .int (nI v10_5), cv, .ref cl, .int (nI rw)])), (tp, .inr (8, [.ref tb, .int (nI L)])), (tb, .inl (κ 0, 800, .inl tf)), (d, .inl (κ 0, 6, .inl dl)), (wk, .inl (κ 1, 20, .inl g__6)), (fl, .inl (κ 2, 8, .inr (.inr (.inr (.inr gfl_5))))), (sr, .inl (κ 0, 8, .inl g_2))]) hD [0, 1, 2, 3, 4, 5, 6] (by decide) rfl
        replace hp_28 : Sb im_23 im2__27 ∧ Cs κ im2__27 q_16 (lsF g__6 s__5) := hp_28
        obtain ⟨h_29, h_30⟩ := hp_28
        replace hbl := hbl.up h_29
        replace hq5_0 := hq5_0.up h_29
        replace hf_26 := hf_26.up h_29
        replace hm_q__17 := h_29 _ hm_q__17
        refine W.eq (g2 := F0 m 86 ls [.ref q_16, .int (nI v10_5), .ref fl]) rfl ?_
        obtain ⟨k_31, n_32, b_33, x_34, hk_35, hm_36, hb_37⟩ := id h_30
        have hn_b_33 := hb_37.1
        obtain ⟨k_38, ek_38⟩ := tl_at [(rd, .inr (4, [.ref tp, .ref d, .ref ft, .ref bl, .int (nI y__4), .int v5_5, .ref wk, .int (nI s__5), .ref fl, .ref sr, .int (nI v10_5), cv, .ref cl, .int (nI rw)])), (tp, .inr (8, [.ref tb, .int (nI L)])), (tb, .inl (κ 0, 800, .inl tf)), (d, .inl (κ 0, 6, .inl dl)), (wk, .inl (κ 1, 20, .inl g__6)), (fl, .inl (κ 2, 8, .inr (.inr (.inr (.inr gfl_5))))), (sr, .inl (κ 0, 8, .inl g_2))] hm_36
        refine va_astq hx hb hK hP hD hS 5 2 k_38 0 rfl rfl ek_38 rfl (i := nI v10_5) (vp_in_nI (n := v10_5) (by omega) (by omega)) dX4_splitLine_86 (fun H locs hP hD hS => ?_)
        rw [nI_clamp (by omega)] at hP hD
        have hP : va_P D vwCl ([(rd, .inr (4, [.ref tp, .ref d, .ref ft, .ref bl, .int (nI y__4), .int v5_5, .ref wk, .int (nI s__5), .ref fl, .ref sr, .int (nI v10_5), cv, .ref cl, .int (nI rw)])), (tp, .inr (8, [.ref tb, .int (nI L)])), (tb, .inl (κ 0, 800, .inl tf)), (d, .inl (κ 0, 6, .inl dl)), (wk, .inl (κ 1, 20, .inl g__6)), (fl, .inl (κ 2, 8, .inr (.inr (.inr (.inr (va_up gfl_5 v10_5 (some q_16))))))), (sr, .inl (κ 0, 8, .inl g_2))] ++ im2__27) H := hP
        have hD : va_D A ([(rd, .inr (4, [.ref tp, .ref d, .ref ft, .ref bl, .int (nI y__4), .int v5_5, .ref wk, .int (nI s__5), .ref fl, .ref sr, .int (nI v10_5), cv, .ref cl, .int (nI rw)])), (tp, .inr (8, [.ref tb, .int (nI L)])), (tb, .inl (κ 0, 800, .inl tf)), (d, .inl (κ 0, 6, .inl dl)), (wk, .inl (κ 1, 20, .inl g__6)), (fl, .inl (κ 2, 8, .inr (.inr (.inr (.inr (va_up gfl_5 v10_5 (some q_16))))))), (sr, .inl (κ 0, 8, .inl g_2))] ++ im2__27) := hD
        have hf_40 : Fs κ im2__27 (va_up gfl_5 v10_5 (some q_16)) (v10_5 + 1) (Gfs_5 ++ [lsF g__6 s__5]) := Fs_add hq5_0 h_30
        generalize va_up gfl_5 v10_5 (some q_16) = g_39 at hP hD hf_40
        refine lv_aload_n hx hb dX4_splitLine_87 rfl (lv_at hl 1 rfl) ?_
        refine lv_dup hx hb dX4_splitLine_88 rfl ?_
        refine va_get (D := D) (ci := 4) (v := .int (nI v10_5)) (C := RX4) (T := TX4) (N := 14) hx hb hts inlX4 hown hK hP 0 rfl rfl 10 (by decide) (hts _ mw_77) (fun _ h9 => h9) rfl dX4_splitLine_89 ?_
        refine lv_iconst (v := 1) hx hb dX4_splitLine_92 (by decide) ?_
        refine lv_iadd hx hb dX4_splitLine_93 ?_
        refine ki (v := (nI (v10_5 + 1))) (nI_add v10_5 1) ?_
        refine va_put (D := D) (ci := 4) (v := .int (nI (v10_5 + 1))) (ty := tyX4 10) (C := RX4) (T := TX4) (N := 14) hx hb hts inlX4 tyX4 tyX4_ok nmX4 hown hK hP hD hS 0 rfl rfl 10 (by decide) (hts _ mw_77) (fun _ h9 => h9) rfl (tyX4_ok 10 (by decide)) rfl rfl (Nat.le_of_ble_eq_true rfl) dX4_splitLine_94 (fun H locs hP hD hS => ?_)
        have hP : va_P D vwCl ([(rd, .inr (4, [.ref tp, .ref d, .ref ft, .ref bl, .int (nI y__4), .int v5_5, .ref wk, .int (nI s__5), .ref fl, .ref sr, .int (nI (v10_5 + 1)), cv, .ref cl, .int (nI rw)])), (tp, .inr (8, [.ref tb, .int (nI L)])), (tb, .inl (κ 0, 800, .inl tf)), (d, .inl (κ 0, 6, .inl dl)), (wk, .inl (κ 1, 20, .inl g__6)), (fl, .inl (κ 2, 8, .inr (.inr (.inr (.inr g_39))))), (sr, .inl (κ 0, 8, .inl g_2))] ++ im2__27) H := hP
        have hD : va_D A ([(rd, .inr (4, [.ref tp, .ref d, .ref ft, .ref bl, .int (nI y__4), .int v5_5, .ref wk, .int (nI s__5), .ref fl, .ref sr, .int (nI (v10_5 + 1)), cv, .ref cl, .int (nI rw)])), (tp, .inr (8, [.ref tb, .int (nI L)])), (tb, .inl (κ 0, 800, .inl tf)), (d, .inl (κ 0, 6, .inl dl)), (wk, .inl (κ 1, 20, .inl g__6)), (fl, .inl (κ 2, 8, .inr (.inr (.inr (.inr g_39))))), (sr, .inl (κ 0, 8, .inl g_2))] ++ im2__27) := hD
        refine lv_aload_n hx hb dX4_splitLine_97 rfl (lv_at hl 1 rfl) ?_
        refine va_get (D := D) (ci := 4) (v := .int (nI y__4)) (C := RX4) (T := TX4) (N := 14) hx hb hts inlX4 hown hK hP 0 rfl rfl 4 (by decide) (hts _ mw_71) (fun _ h9 => h9) rfl dX4_splitLine_98 ?_
        refine lv_aload_n hx hb dX4_splitLine_101 rfl (lv_at hl 1 rfl) ?_
        refine va_get (D := D) (ci := 4) (v := .ref tp) (C := RX4) (T := TX4) (N := 14) hx hb hts inlX4 hown hK hP 0 rfl rfl 0 (by decide) (hts _ mw_81) (fun _ h9 => h9) rfl dX4_splitLine_102 ?_
        refine va_get (D := D) (ci := 8) (v := .int (nI L)) (C := RX8) (T := TX8) (N := 2) hx hb hts inlX8 hown hK hP 1 rfl rfl 1 (by decide) (hts _ mw_261) (fun _ h9 => h9) rfl dX4_splitLine_105 ?_
        refine lv_icmp_ge (tgt := 128) hx hb dX4_splitLine_108 (by decide) (fun c_41 => ?_) (fun c_41 => ?_)
        · have nc_41 := cv_le (a := L) (b := y__4) (by omega) (by omega) c_41
          refine lv_iconst (v := 0) hx hb dX4_splitLine_128 (by decide) ?_
          exact et_iret hx hb hr hlk rfl hS (0, y__4, v5_5, s__5, v10_5 + 1, g__6, g_39, g_2, (Gfs_5 ++ [lsF g__6 s__5]), im2__27) rfl ⟨(show y__4 ≤ L from (by first | assumption | omega | rfl | exact Or.inl (by assumption) | exact Or.inr (by assumption))), (show s__5 ≤ 20 from (by first | assumption | omega | rfl | exact Or.inl (by assumption) | exact Or.inr (by assumption))), (show sb_Fit g__6 from (by first | assumption | omega | rfl | exact Or.inl (by assumption) | exact Or.inr (by assumption))), (show (v10_5 + 1) ≤ 8 from (by first | assumption | omega | rfl | exact Or.inl (by assumption) | exact Or.inr (by assumption))), (show (0 : Int32) = 0 → 1 ≤ (v10_5 + 1) from (fun _ => by omega)), (show Sb im im2__27 from (Sb.tr (Sb.tr hl5_4 hs_25) h_29)), (show Lc κ im2__27 g_39 (v10_5 + 1) from hf_40.lc), (show ((0 : Int32) = 0 ∧ lnF tf dl L 8 aq [] = some (y__4, (Gfs_5 ++ [lsF g__6 s__5])) ∧ Fs κ im2__27 g_39 (v10_5 + 1) (Gfs_5 ++ [lsF g__6 s__5])) ∨ (¬ (0 : Int32) = 0 ∧ lnF tf dl L 8 aq [] = none) from (Or.inl ⟨rfl, hl5_3.symm.trans (ln_end (by omega) (qu_ok h_13 c_14) (Or.inl (by omega))), hf_40⟩))⟩ (subP hP [0, 1, 2, 3, 4, 5, 6] rfl) (subD hD [0, 1, 2, 3, 4, 5, 6] (by decide) rfl) (by show _ ≤ 16; omega) (by show _ ≤ 192; omega) dX4_splitLine_129
        · have nc_41 := cv_nle (a := L) (b := y__4) (by omega) (by omega) c_41
          refine lv_aload_n hx hb dX4_splitLine_111 rfl (lv_at hl 1 rfl) ?_
          refine va_get (D := D) (ci := 4) (v := .ref tp) (C := RX4) (T := TX4) (N := 14) hx hb hts inlX4 hown hK hP 0 rfl rfl 0 (by decide) (hts _ mw_81) (fun _ h9 => h9) rfl dX4_splitLine_112 ?_
          refine va_get (D := D) (ci := 8) (v := .ref tb) (C := RX8) (T := TX8) (N := 2) hx hb hts inlX8 hown hK hP 1 rfl rfl 0 (by decide) (hts _ mw_266) (fun _ h9 => h9) rfl dX4_splitLine_115 ?_
          refine lv_aload_n hx hb dX4_splitLine_118 rfl (lv_at hl 1 rfl) ?_
          refine va_get (D := D) (ci := 4) (v := .int (nI y__4)) (C := RX4) (T := TX4) (N := 14) hx hb hts inlX4 hown hK hP 0 rfl rfl 4 (by decide) (hts _ mw_71) (fun _ h9 => h9) rfl dX4_splitLine_119 ?_
          refine va_iald hx hb hK hP 2 0 rfl rfl (i := nI y__4) (vp_in_nI (n := y__4) (by omega) (by omega)) dX4_splitLine_122 ?_
          refine kv (v := .int (tf y__4)) (by rw [nI_clamp (by omega)]) ?_
          obtain ⟨x_42, ex_42⟩ : ∃ y9 : Int32, tf y__4 = y9 := ⟨_, rfl⟩
          refine kv (v := .int x_42) (congrArg Value.int ex_42) ?_
          refine lv_bipush (v := 10) hx hb dX4_splitLine_123 (by decide) ?_
          refine lv_icmp_ne (tgt := 130) hx hb dX4_splitLine_125 (by decide) (fun c_43 => ?_) (fun c_43 => ?_)
          · refine lv_aload_n hx hb dX4_splitLine_130 rfl (lv_at hl 1 rfl) ?_
            refine va_get (D := D) (ci := 4) (v := .int (nI (v10_5 + 1))) (C := RX4) (T := TX4) (N := 14) hx hb hts inlX4 hown hK hP 0 rfl rfl 10 (by decide) (hts _ mw_77) (fun _ h9 => h9) rfl dX4_splitLine_131 ?_
            refine lv_bipush (v := 8) hx hb dX4_splitLine_134 (by decide) ?_
            refine lv_icmp_ge (tgt := 149) hx hb dX4_splitLine_136 (by decide) (fun c_44 => ?_) (fun c_44 => ?_)
            · have nc_44 := cv_le (a := 8) (b := (v10_5 + 1)) (by omega) (by omega) c_44
              refine lv_goto (tgt := 5) hx hb dX4_splitLine_149 (by decide) ?_
              refine W.widen (k := 16 - 2 * (8 - (v10_5 + 1))) (n := 192 - 24 * (8 - (v10_5 + 1))) (by omega) (by omega) ?_
              exact ih5 (8 - (v10_5 + 1)) _ _ _ (by omega) ⟨y__4, v5_5, s__5, (v10_5 + 1), g__6, g_39, g_2, im2__27, (Gfs_5 ++ [lsF g__6 s__5]), (by omega), (by omega), (by omega), ((ln_go (by omega) (qu_ok h_13 c_14) (fun h9 => h9.elim (fun h8 => absurd h8 (by omega)) (fun h8 => c_43 (ex_42.symm.trans h8))) (by first | exact Or.inl rfl | exact Or.inr (by omega))).symm.trans hl5_3), (Sb.tr (Sb.tr hl5_4 hs_25) h_29), h_12, hf_40, rfl, hP, hD, hS, lv_sub hl [1] rfl⟩
            · have nc_44 := cv_nle (a := 8) (b := (v10_5 + 1)) (by omega) (by omega) c_44
              refine lv_aload_n hx hb dX4_splitLine_139 rfl (lv_at hl 1 rfl) ?_
              refine lv_dup hx hb dX4_splitLine_140 rfl ?_
              refine va_get (D := D) (ci := 4) (v := .int (nI y__4)) (C := RX4) (T := TX4) (N := 14) hx hb hts inlX4 hown hK hP 0 rfl rfl 4 (by decide) (hts _ mw_71) (fun _ h9 => h9) rfl dX4_splitLine_141 ?_
              refine lv_iconst (v := 1) hx hb dX4_splitLine_144 (by decide) ?_
              refine lv_iadd hx hb dX4_splitLine_145 ?_
              refine ki (v := (nI (y__4 + 1))) (nI_add y__4 1) ?_
              refine va_put (D := D) (ci := 4) (v := .int (nI (y__4 + 1))) (ty := tyX4 4) (C := RX4) (T := TX4) (N := 14) hx hb hts inlX4 tyX4 tyX4_ok nmX4 hown hK hP hD hS 0 rfl rfl 4 (by decide) (hts _ mw_71) (fun _ h9 => h9) rfl (tyX4_ok 4 (by decide)) rfl rfl (Nat.le_of_ble_eq_true rfl) dX4_splitLine_146 (fun H locs hP hD hS => ?_)
              have hP : va_P D vwCl ([(rd, .inr (4, [.ref tp, .ref d, .ref ft, .ref bl, .int (nI (y__4 + 1)), .int v5_5, .ref wk, .int (nI s__5), .ref fl, .ref sr, .int (nI (v10_5 + 1)), cv, .ref cl, .int (nI rw)])), (tp, .inr (8, [.ref tb, .int (nI L)])), (tb, .inl (κ 0, 800, .inl tf)), (d, .inl (κ 0, 6, .inl dl)), (wk, .inl (κ 1, 20, .inl g__6)), (fl, .inl (κ 2, 8, .inr (.inr (.inr (.inr g_39))))), (sr, .inl (κ 0, 8, .inl g_2))] ++ im2__27) H := hP
              have hD : va_D A ([(rd, .inr (4, [.ref tp, .ref d, .ref ft, .ref bl, .int (nI (y__4 + 1)), .int v5_5, .ref wk, .int (nI s__5), .ref fl, .ref sr, .int (nI (v10_5 + 1)), cv, .ref cl, .int (nI rw)])), (tp, .inr (8, [.ref tb, .int (nI L)])), (tb, .inl (κ 0, 800, .inl tf)), (d, .inl (κ 0, 6, .inl dl)), (wk, .inl (κ 1, 20, .inl g__6)), (fl, .inl (κ 2, 8, .inr (.inr (.inr (.inr g_39))))), (sr, .inl (κ 0, 8, .inl g_2))] ++ im2__27) := hD
              refine lv_goto (tgt := 5) hx hb dX4_splitLine_149 (by decide) ?_
              refine W.widen (k := 16 - 2 * (8 - (v10_5 + 1))) (n := 192 - 24 * (8 - (v10_5 + 1))) (by omega) (by omega) ?_
              exact ih5 (8 - (v10_5 + 1)) _ _ _ (by omega) ⟨(y__4 + 1), v5_5, s__5, (v10_5 + 1), g__6, g_39, g_2, im2__27, (Gfs_5 ++ [lsF g__6 s__5]), (by omega), (by omega), (by omega), ((ln_go (by omega) (qu_ok h_13 c_14) (fun h9 => h9.elim (fun h8 => absurd h8 (by omega)) (fun h8 => c_43 (ex_42.symm.trans h8))) (by first | exact Or.inl rfl | exact Or.inr (by omega))).symm.trans hl5_3), (Sb.tr (Sb.tr hl5_4 hs_25) h_29), h_12, hf_40, rfl, hP, hD, hS, lv_sub hl [1] rfl⟩
          · refine lv_iconst (v := 0) hx hb dX4_splitLine_128 (by decide) ?_
            exact et_iret hx hb hr hlk rfl hS (0, y__4, v5_5, s__5, v10_5 + 1, g__6, g_39, g_2, (Gfs_5 ++ [lsF g__6 s__5]), im2__27) rfl ⟨(show y__4 ≤ L from (by first | assumption | omega | rfl | exact Or.inl (by assumption) | exact Or.inr (by assumption))), (show s__5 ≤ 20 from (by first | assumption | omega | rfl | exact Or.inl (by assumption) | exact Or.inr (by assumption))), (show sb_Fit g__6 from (by first | assumption | omega | rfl | exact Or.inl (by assumption) | exact Or.inr (by assumption))), (show (v10_5 + 1) ≤ 8 from (by first | assumption | omega | rfl | exact Or.inl (by assumption) | exact Or.inr (by assumption))), (show (0 : Int32) = 0 → 1 ≤ (v10_5 + 1) from (fun _ => by omega)), (show Sb im im2__27 from (Sb.tr (Sb.tr hl5_4 hs_25) h_29)), (show Lc κ im2__27 g_39 (v10_5 + 1) from hf_40.lc), (show ((0 : Int32) = 0 ∧ lnF tf dl L 8 aq [] = some (y__4, (Gfs_5 ++ [lsF g__6 s__5])) ∧ Fs κ im2__27 g_39 (v10_5 + 1) (Gfs_5 ++ [lsF g__6 s__5])) ∨ (¬ (0 : Int32) = 0 ∧ lnF tf dl L 8 aq [] = none) from (Or.inl ⟨rfl, hl5_3.symm.trans (ln_end (by omega) (qu_ok h_13 c_14) (Or.inr (ex_42.trans c_43))), hf_40⟩))⟩ (subP hP [0, 1, 2, 3, 4, 5, 6] rfl) (subD hD [0, 1, 2, 3, 4, 5, 6] (by decide) rfl) (by show _ ≤ 16; omega) (by show _ ≤ 192; omega) dX4_splitLine_129
      · have nc_15 := cv_eq (a := s__5) (b := 0) (by omega) (by omega) c_15
        refine lv_aload_n hx hb dX4_splitLine_61 rfl (lv_at hl 1 rfl) ?_
        refine va_get (D := D) (ci := 4) (v := .ref bl) (C := RX4) (T := TX4) (N := 14) hx hb hts inlX4 hown hK hP 0 rfl rfl 3 (by decide) (hts _ mw_70) (fun _ h9 => h9) rfl dX4_splitLine_62 ?_
        refine lv_goto (tgt := 86) hx hb dX4_splitLine_65 (by decide) ?_
        have hcb_45 : Cs κ im_L5 bl (lsF g__6 s__5) := by rw [show s__5 = 0 by omega]; exact hbl
        obtain ⟨k_46, n_47, b_48, x_49, hk_50, hm_51, hb_52⟩ := id hcb_45
        have hn_b_48 := hb_52.1
        obtain ⟨k_53, ek_53⟩ := tl_at [(rd, .inr (4, [.ref tp, .ref d, .ref ft, .ref bl, .int (nI y__4), .int v5_5, .ref wk, .int (nI s__5), .ref fl, .ref sr, .int (nI v10_5), cv, .ref cl, .int (nI rw)])), (tp, .inr (8, [.ref tb, .int (nI L)])), (tb, .inl (κ 0, 800, .inl tf)), (d, .inl (κ 0, 6, .inl dl)), (wk, .inl (κ 1, 20, .inl g__6)), (fl, .inl (κ 2, 8, .inr (.inr (.inr (.inr gfl_5))))), (sr, .inl (κ 0, 8, .inl g_2))] hm_51
        refine va_astq hx hb hK hP hD hS 5 2 k_53 0 rfl rfl ek_53 rfl (i := nI v10_5) (vp_in_nI (n := v10_5) (by omega) (by omega)) dX4_splitLine_86 (fun H locs hP hD hS => ?_)
        rw [nI_clamp (by omega)] at hP hD
        have hP : va_P D vwCl ([(rd, .inr (4, [.ref tp, .ref d, .ref ft, .ref bl, .int (nI y__4), .int v5_5, .ref wk, .int (nI s__5), .ref fl, .ref sr, .int (nI v10_5), cv, .ref cl, .int (nI rw)])), (tp, .inr (8, [.ref tb, .int (nI L)])), (tb, .inl (κ 0, 800, .inl tf)), (d, .inl (κ 0, 6, .inl dl)), (wk, .inl (κ 1, 20, .inl g__6)), (fl, .inl (κ 2, 8, .inr (.inr (.inr (.inr (va_up gfl_5 v10_5 (some bl))))))), (sr, .inl (κ 0, 8, .inl g_2))] ++ im_L5) H := hP
        have hD : va_D A ([(rd, .inr (4, [.ref tp, .ref d, .ref ft, .ref bl, .int (nI y__4), .int v5_5, .ref wk, .int (nI s__5), .ref fl, .ref sr, .int (nI v10_5), cv, .ref cl, .int (nI rw)])), (tp, .inr (8, [.ref tb, .int (nI L)])), (tb, .inl (κ 0, 800, .inl tf)), (d, .inl (κ 0, 6, .inl dl)), (wk, .inl (κ 1, 20, .inl g__6)), (fl, .inl (κ 2, 8, .inr (.inr (.inr (.inr (va_up gfl_5 v10_5 (some bl))))))), (sr, .inl (κ 0, 8, .inl g_2))] ++ im_L5) := hD
        have hf_55 : Fs κ im_L5 (va_up gfl_5 v10_5 (some bl)) (v10_5 + 1) (Gfs_5 ++ [lsF g__6 s__5]) := Fs_add hq5_0 hcb_45
        generalize va_up gfl_5 v10_5 (some bl) = g_54 at hP hD hf_55
        refine lv_aload_n hx hb dX4_splitLine_87 rfl (lv_at hl 1 rfl) ?_
        refine lv_dup hx hb dX4_splitLine_88 rfl ?_
        refine va_get (D := D) (ci := 4) (v := .int (nI v10_5)) (C := RX4) (T := TX4) (N := 14) hx hb hts inlX4 hown hK hP 0 rfl rfl 10 (by decide) (hts _ mw_77) (fun _ h9 => h9) rfl dX4_splitLine_89 ?_
        refine lv_iconst (v := 1) hx hb dX4_splitLine_92 (by decide) ?_
        refine lv_iadd hx hb dX4_splitLine_93 ?_
        refine ki (v := (nI (v10_5 + 1))) (nI_add v10_5 1) ?_
        refine va_put (D := D) (ci := 4) (v := .int (nI (v10_5 + 1))) (ty := tyX4 10) (C := RX4) (T := TX4) (N := 14) hx hb hts inlX4 tyX4 tyX4_ok nmX4 hown hK hP hD hS 0 rfl rfl 10 (by decide) (hts _ mw_77) (fun _ h9 => h9) rfl (tyX4_ok 10 (by decide)) rfl rfl (Nat.le_of_ble_eq_true rfl) dX4_splitLine_94 (fun H locs hP hD hS => ?_)
        have hP : va_P D vwCl ([(rd, .inr (4, [.ref tp, .ref d, .ref ft, .ref bl, .int (nI y__4), .int v5_5, .ref wk, .int (nI s__5), .ref fl, .ref sr, .int (nI (v10_5 + 1)), cv, .ref cl, .int (nI rw)])), (tp, .inr (8, [.ref tb, .int (nI L)])), (tb, .inl (κ 0, 800, .inl tf)), (d, .inl (κ 0, 6, .inl dl)), (wk, .inl (κ 1, 20, .inl g__6)), (fl, .inl (κ 2, 8, .inr (.inr (.inr (.inr g_54))))), (sr, .inl (κ 0, 8, .inl g_2))] ++ im_L5) H := hP
        have hD : va_D A ([(rd, .inr (4, [.ref tp, .ref d, .ref ft, .ref bl, .int (nI y__4), .int v5_5, .ref wk, .int (nI s__5), .ref fl, .ref sr, .int (nI (v10_5 + 1)), cv, .ref cl, .int (nI rw)])), (tp, .inr (8, [.ref tb, .int (nI L)])), (tb, .inl (κ 0, 800, .inl tf)), (d, .inl (κ 0, 6, .inl dl)), (wk, .inl (κ 1, 20, .inl g__6)), (fl, .inl (κ 2, 8, .inr (.inr (.inr (.inr g_54))))), (sr, .inl (κ 0, 8, .inl g_2))] ++ im_L5) := hD
        refine lv_aload_n hx hb dX4_splitLine_97 rfl (lv_at hl 1 rfl) ?_
        refine va_get (D := D) (ci := 4) (v := .int (nI y__4)) (C := RX4) (T := TX4) (N := 14) hx hb hts inlX4 hown hK hP 0 rfl rfl 4 (by decide) (hts _ mw_71) (fun _ h9 => h9) rfl dX4_splitLine_98 ?_
        refine lv_aload_n hx hb dX4_splitLine_101 rfl (lv_at hl 1 rfl) ?_
        refine va_get (D := D) (ci := 4) (v := .ref tp) (C := RX4) (T := TX4) (N := 14) hx hb hts inlX4 hown hK hP 0 rfl rfl 0 (by decide) (hts _ mw_81) (fun _ h9 => h9) rfl dX4_splitLine_102 ?_
        refine va_get (D := D) (ci := 8) (v := .int (nI L)) (C := RX8) (T := TX8) (N := 2) hx hb hts inlX8 hown hK hP 1 rfl rfl 1 (by decide) (hts _ mw_261) (fun _ h9 => h9) rfl dX4_splitLine_105 ?_
        refine lv_icmp_ge (tgt := 128) hx hb dX4_splitLine_108 (by decide) (fun c_56 => ?_) (fun c_56 => ?_)
        · have nc_56 := cv_le (a := L) (b := y__4) (by omega) (by omega) c_56
          refine lv_iconst (v := 0) hx hb dX4_splitLine_128 (by decide) ?_
          exact et_iret hx hb hr hlk rfl hS (0, y__4, v5_5, s__5, v10_5 + 1, g__6, g_54, g_2, (Gfs_5 ++ [lsF g__6 s__5]), im_L5) rfl ⟨(show y__4 ≤ L from (by first | assumption | omega | rfl | exact Or.inl (by assumption) | exact Or.inr (by assumption))), (show s__5 ≤ 20 from (by first | assumption | omega | rfl | exact Or.inl (by assumption) | exact Or.inr (by assumption))), (show sb_Fit g__6 from (by first | assumption | omega | rfl | exact Or.inl (by assumption) | exact Or.inr (by assumption))), (show (v10_5 + 1) ≤ 8 from (by first | assumption | omega | rfl | exact Or.inl (by assumption) | exact Or.inr (by assumption))), (show (0 : Int32) = 0 → 1 ≤ (v10_5 + 1) from (fun _ => by omega)), (show Sb im im_L5 from hl5_4), (show Lc κ im_L5 g_54 (v10_5 + 1) from hf_55.lc), (show ((0 : Int32) = 0 ∧ lnF tf dl L 8 aq [] = some (y__4, (Gfs_5 ++ [lsF g__6 s__5])) ∧ Fs κ im_L5 g_54 (v10_5 + 1) (Gfs_5 ++ [lsF g__6 s__5])) ∨ (¬ (0 : Int32) = 0 ∧ lnF tf dl L 8 aq [] = none) from (Or.inl ⟨rfl, hl5_3.symm.trans (ln_end (by omega) (qu_ok h_13 c_14) (Or.inl (by omega))), hf_55⟩))⟩ (subP hP [0, 1, 2, 3, 4, 5, 6] rfl) (subD hD [0, 1, 2, 3, 4, 5, 6] (by decide) rfl) (by show _ ≤ 16; omega) (by show _ ≤ 192; omega) dX4_splitLine_129
        · have nc_56 := cv_nle (a := L) (b := y__4) (by omega) (by omega) c_56
          refine lv_aload_n hx hb dX4_splitLine_111 rfl (lv_at hl 1 rfl) ?_
          refine va_get (D := D) (ci := 4) (v := .ref tp) (C := RX4) (T := TX4) (N := 14) hx hb hts inlX4 hown hK hP 0 rfl rfl 0 (by decide) (hts _ mw_81) (fun _ h9 => h9) rfl dX4_splitLine_112 ?_
          refine va_get (D := D) (ci := 8) (v := .ref tb) (C := RX8) (T := TX8) (N := 2) hx hb hts inlX8 hown hK hP 1 rfl rfl 0 (by decide) (hts _ mw_266) (fun _ h9 => h9) rfl dX4_splitLine_115 ?_
          refine lv_aload_n hx hb dX4_splitLine_118 rfl (lv_at hl 1 rfl) ?_
          refine va_get (D := D) (ci := 4) (v := .int (nI y__4)) (C := RX4) (T := TX4) (N := 14) hx hb hts inlX4 hown hK hP 0 rfl rfl 4 (by decide) (hts _ mw_71) (fun _ h9 => h9) rfl dX4_splitLine_119 ?_
          refine va_iald hx hb hK hP 2 0 rfl rfl (i := nI y__4) (vp_in_nI (n := y__4) (by omega) (by omega)) dX4_splitLine_122 ?_
          refine kv (v := .int (tf y__4)) (by rw [nI_clamp (by omega)]) ?_
          obtain ⟨x_57, ex_57⟩ : ∃ y9 : Int32, tf y__4 = y9 := ⟨_, rfl⟩
          refine kv (v := .int x_57) (congrArg Value.int ex_57) ?_
          refine lv_bipush (v := 10) hx hb dX4_splitLine_123 (by decide) ?_
          refine lv_icmp_ne (tgt := 130) hx hb dX4_splitLine_125 (by decide) (fun c_58 => ?_) (fun c_58 => ?_)
          · refine lv_aload_n hx hb dX4_splitLine_130 rfl (lv_at hl 1 rfl) ?_
            refine va_get (D := D) (ci := 4) (v := .int (nI (v10_5 + 1))) (C := RX4) (T := TX4) (N := 14) hx hb hts inlX4 hown hK hP 0 rfl rfl 10 (by decide) (hts _ mw_77) (fun _ h9 => h9) rfl dX4_splitLine_131 ?_
            refine lv_bipush (v := 8) hx hb dX4_splitLine_134 (by decide) ?_
            refine lv_icmp_ge (tgt := 149) hx hb dX4_splitLine_136 (by decide) (fun c_59 => ?_) (fun c_59 => ?_)
            · have nc_59 := cv_le (a := 8) (b := (v10_5 + 1)) (by omega) (by omega) c_59
              refine lv_goto (tgt := 5) hx hb dX4_splitLine_149 (by decide) ?_
              refine W.widen (k := 16 - 2 * (8 - (v10_5 + 1))) (n := 192 - 24 * (8 - (v10_5 + 1))) (by omega) (by omega) ?_
              exact ih5 (8 - (v10_5 + 1)) _ _ _ (by omega) ⟨y__4, v5_5, s__5, (v10_5 + 1), g__6, g_54, g_2, im_L5, (Gfs_5 ++ [lsF g__6 s__5]), (by omega), (by omega), (by omega), ((ln_go (by omega) (qu_ok h_13 c_14) (fun h9 => h9.elim (fun h8 => absurd h8 (by omega)) (fun h8 => c_58 (ex_57.symm.trans h8))) (by first | exact Or.inl rfl | exact Or.inr (by omega))).symm.trans hl5_3), hl5_4, h_12, hf_55, rfl, hP, hD, hS, lv_sub hl [1] rfl⟩
            · have nc_59 := cv_nle (a := 8) (b := (v10_5 + 1)) (by omega) (by omega) c_59
              refine lv_aload_n hx hb dX4_splitLine_139 rfl (lv_at hl 1 rfl) ?_
              refine lv_dup hx hb dX4_splitLine_140 rfl ?_
              refine va_get (D := D) (ci := 4) (v := .int (nI y__4)) (C := RX4) (T := TX4) (N := 14) hx hb hts inlX4 hown hK hP 0 rfl rfl 4 (by decide) (hts _ mw_71) (fun _ h9 => h9) rfl dX4_splitLine_141 ?_
              refine lv_iconst (v := 1) hx hb dX4_splitLine_144 (by decide) ?_
              refine lv_iadd hx hb dX4_splitLine_145 ?_
              refine ki (v := (nI (y__4 + 1))) (nI_add y__4 1) ?_
              refine va_put (D := D) (ci := 4) (v := .int (nI (y__4 + 1))) (ty := tyX4 4) (C := RX4) (T := TX4) (N := 14) hx hb hts inlX4 tyX4 tyX4_ok nmX4 hown hK hP hD hS 0 rfl rfl 4 (by decide) (hts _ mw_71) (fun _ h9 => h9) rfl (tyX4_ok 4 (by decide)) rfl rfl (Nat.le_of_ble_eq_true rfl) dX4_splitLine_146 (fun H locs hP hD hS => ?_)
              have hP : va_P D vwCl ([(rd, .inr (4, [.ref tp, .ref d, .ref ft, .ref bl, .int (nI (y__4 + 1)), .int v5_5, .ref wk, .int (nI s__5), .ref fl, .ref sr, .int (nI (v10_5 + 1)), cv, .ref cl, .int (nI rw)])), (tp, .inr (8, [.ref tb, .int (nI L)])), (tb, .inl (κ 0, 800, .inl tf)), (d, .inl (κ 0, 6, .inl dl)), (wk, .inl (κ 1, 20, .inl g__6)), (fl, .inl (κ 2, 8, .inr (.inr (.inr (.inr g_54))))), (sr, .inl (κ 0, 8, .inl g_2))] ++ im_L5) H := hP
              have hD : va_D A ([(rd, .inr (4, [.ref tp, .ref d, .ref ft, .ref bl, .int (nI (y__4 + 1)), .int v5_5, .ref wk, .int (nI s__5), .ref fl, .ref sr, .int (nI (v10_5 + 1)), cv, .ref cl, .int (nI rw)])), (tp, .inr (8, [.ref tb, .int (nI L)])), (tb, .inl (κ 0, 800, .inl tf)), (d, .inl (κ 0, 6, .inl dl)), (wk, .inl (κ 1, 20, .inl g__6)), (fl, .inl (κ 2, 8, .inr (.inr (.inr (.inr g_54))))), (sr, .inl (κ 0, 8, .inl g_2))] ++ im_L5) := hD
              refine lv_goto (tgt := 5) hx hb dX4_splitLine_149 (by decide) ?_
              refine W.widen (k := 16 - 2 * (8 - (v10_5 + 1))) (n := 192 - 24 * (8 - (v10_5 + 1))) (by omega) (by omega) ?_
              exact ih5 (8 - (v10_5 + 1)) _ _ _ (by omega) ⟨(y__4 + 1), v5_5, s__5, (v10_5 + 1), g__6, g_54, g_2, im_L5, (Gfs_5 ++ [lsF g__6 s__5]), (by omega), (by omega), (by omega), ((ln_go (by omega) (qu_ok h_13 c_14) (fun h9 => h9.elim (fun h8 => absurd h8 (by omega)) (fun h8 => c_58 (ex_57.symm.trans h8))) (by first | exact Or.inl rfl | exact Or.inr (by omega))).symm.trans hl5_3), hl5_4, h_12, hf_55, rfl, hP, hD, hS, lv_sub hl [1] rfl⟩
          · refine lv_iconst (v := 0) hx hb dX4_splitLine_128 (by decide) ?_
            exact et_iret hx hb hr hlk rfl hS (0, y__4, v5_5, s__5, v10_5 + 1, g__6, g_54, g_2, (Gfs_5 ++ [lsF g__6 s__5]), im_L5) rfl ⟨(show y__4 ≤ L from (by first | assumption | omega | rfl | exact Or.inl (by assumption) | exact Or.inr (by assumption))), (show s__5 ≤ 20 from (by first | assumption | omega | rfl | exact Or.inl (by assumption) | exact Or.inr (by assumption))), (show sb_Fit g__6 from (by first | assumption | omega | rfl | exact Or.inl (by assumption) | exact Or.inr (by assumption))), (show (v10_5 + 1) ≤ 8 from (by first | assumption | omega | rfl | exact Or.inl (by assumption) | exact Or.inr (by assumption))), (show (0 : Int32) = 0 → 1 ≤ (v10_5 + 1) from (fun _ => by omega)), (show Sb im im_L5 from hl5_4), (show Lc κ im_L5 g_54 (v10_5 + 1) from hf_55.lc), (show ((0 : Int32) = 0 ∧ lnF tf dl L 8 aq [] = some (y__4, (Gfs_5 ++ [lsF g__6 s__5])) ∧ Fs κ im_L5 g_54 (v10_5 + 1) (Gfs_5 ++ [lsF g__6 s__5])) ∨ (¬ (0 : Int32) = 0 ∧ lnF tf dl L 8 aq [] = none) from (Or.inl ⟨rfl, hl5_3.symm.trans (ln_end (by omega) (qu_ok h_13 c_14) (Or.inr (ex_57.trans c_58))), hf_55⟩))⟩ (subP hP [0, 1, 2, 3, 4, 5, 6] rfl) (subD hD [0, 1, 2, 3, 4, 5, 6] (by decide) rfl) (by show _ ≤ 16; omega) (by show _ ≤ 192; omega) dX4_splitLine_129
    · refine lv_aload_n hx hb dX4_splitLine_36 rfl (lv_at hl 1 rfl) ?_
      refine lv_aload_n hx hb dX4_splitLine_37 rfl (lv_at hl 1 rfl) ?_
      refine va_get (D := D) (ci := 4) (v := .int (nI v10_5)) (C := RX4) (T := TX4) (N := 14) hx hb hts inlX4 hown hK hP 0 rfl rfl 10 (by decide) (hts _ mw_77) (fun _ h9 => h9) rfl dX4_splitLine_38 ?_
      refine va_put (D := D) (ci := 4) (v := .int (nI v10_5)) (ty := tyX4 5) (C := RX4) (T := TX4) (N := 14) hx hb hts inlX4 tyX4 tyX4_ok nmX4 hown hK hP hD hS 0 rfl rfl 5 (by decide) (hts _ mw_72) (fun _ h9 => h9) rfl (tyX4_ok 5 (by decide)) rfl rfl (Nat.le_of_ble_eq_true rfl) dX4_splitLine_41 (fun H locs hP hD hS => ?_)
      have hP : va_P D vwCl ([(rd, .inr (4, [.ref tp, .ref d, .ref ft, .ref bl, .int (nI y__4), .int (nI v10_5), .ref wk, .int (nI s__5), .ref fl, .ref sr, .int (nI v10_5), cv, .ref cl, .int (nI rw)])), (tp, .inr (8, [.ref tb, .int (nI L)])), (tb, .inl (κ 0, 800, .inl tf)), (d, .inl (κ 0, 6, .inl dl)), (wk, .inl (κ 1, 20, .inl g__6)), (fl, .inl (κ 2, 8, .inr (.inr (.inr (.inr gfl_5))))), (sr, .inl (κ 0, 8, .inl g_2))] ++ im_L5) H := hP
      have hD : va_D A ([(rd, .inr (4, [.ref tp, .ref d, .ref ft, .ref bl, .int (nI y__4), .int (nI v10_5), .ref wk, .int (nI s__5), .ref fl, .ref sr, .int (nI v10_5), cv, .ref cl, .int (nI rw)])), (tp, .inr (8, [.ref tb, .int (nI L)])), (tb, .inl (κ 0, 800, .inl tf)), (d, .inl (κ 0, 6, .inl dl)), (wk, .inl (κ 1, 20, .inl g__6)), (fl, .inl (κ 2, 8, .inr (.inr (.inr (.inr gfl_5))))), (sr, .inl (κ 0, 8, .inl g_2))] ++ im_L5) := hD
      refine lv_iload_n hx hb dX4_splitLine_44 rfl (lv_at hl 0 rfl) ?_
      exact et_iret hx hb hr hlk rfl hS (r__3, y__4, nI v10_5, s__5, v10_5, g__6, gfl_5, g_2, [], im_L5) rfl ⟨(show y__4 ≤ L from (by first | assumption | omega | rfl | exact Or.inl (by assumption) | exact Or.inr (by assumption))), (show s__5 ≤ 20 from (by first | assumption | omega | rfl | exact Or.inl (by assumption) | exact Or.inr (by assumption))), (show sb_Fit g__6 from (by first | assumption | omega | rfl | exact Or.inl (by assumption) | exact Or.inr (by assumption))), (show v10_5 ≤ 8 from (by first | assumption | omega | rfl | exact Or.inl (by assumption) | exact Or.inr (by assumption))), (show r__3 = 0 → 1 ≤ v10_5 from (fun h9 => absurd h9 c_14)), (show Sb im im_L5 from hl5_4), (show Lc κ im_L5 gfl_5 v10_5 from hq5_0.lc), (show (r__3 = 0 ∧ lnF tf dl L 8 aq [] = some (y__4, ([])) ∧ Fs κ im_L5 gfl_5 v10_5 ([])) ∨ (¬ r__3 = 0 ∧ lnF tf dl L 8 aq [] = none) from (Or.inr ⟨c_14, hl5_3.symm.trans (ln_no (by omega) (qu_no h_13 c_14))⟩))⟩ (subP hP [0, 1, 2, 3, 4, 5, 6] rfl) (subD hD [0, 1, 2, 3, 4, 5, 6] (by decide) rfl) (by show _ ≤ 16; omega) (by show _ ≤ 192; omega) dX4_splitLine_45
