/-! the reference's dialect where it is told: what is written elsewhere leaves it -/
def Dl (q f : Nat → Int32) : Prop := dW f = q
theorem Dl_upd {q f : Nat → Int32} {p : Nat} {v : Int32} (h : Dl q f) (hp : p < 21369) : Dl q (upd f p v) := by
  unfold Dl at h ⊢
  rw [← h]
  funext k
  simp [dW, upd, show ¬ 21369 + k = p by omega]
theorem dW_up {w : Nat → Int32} {j : Nat} {z : Int32} : dW (upd w (21369 + j) z) = upd (dW w) j z := by
  funext k
  by_cases e : k = j
  · simp [dW, upd, e]
  · simp [dW, upd, e]
theorem dr_put {g h : Nat → Int32} {A k : Nat} {x : Int32} (e : h k = x) (hh : ∀ j : Nat, j < k → g (A + j) = h j) : ∀ j : Nat, j < k + 1 → (upd g (A + k) x) (A + j) = h j := by
  intro j hj
  by_cases e2 : j = k
  · subst e2
    simp [upd, e]
  · have h1 : ¬ A + j = A + k := by omega
    simp [upd, h1, e2, hh j (by omega)]
theorem cpy_0 {f g : Nat → Int32} : va_cpy f g 0 0 0 = g := by
  funext k
  simp [va_cpy]
theorem cpy_up {f g : Nat → Int32} {n : Nat} {x : Int32} (e : f n = x) : upd (va_cpy f g 0 0 n) n x = va_cpy f g 0 0 (n + 1) := by
  funext k
  by_cases h : k = n
  · subst h
    simp [upd, va_cpy, e]
  · by_cases h2 : k < n
    · simp [upd, va_cpy, h, h2, show k < n + 1 by omega]
    · simp [upd, va_cpy, h, h2, show ¬ k < n + 1 by omega]
theorem dW_cpy {f g : Nat → Int32} : dW (va_cpy f g 0 0 21375) = va_cpy (dW f) (dW g) 0 0 6 := by
  funext k
  by_cases h : k < 6
  · simp [dW, va_cpy, h, show 21369 + k < 21375 by omega]
  · simp [dW, va_cpy, h, show ¬ 21369 + k < 21375 by omega]

set_option maxHeartbeats 4000000 in
set_option maxRecDepth 100000 in
theorem d_X12_viewsOff (l : Launch) (D : va_G) (κ : Nat → ClassId) (m0 : Nat) (a0 : Nat) (a1 : Nat) (a2 : Nat) (u3 : Nat) (f4 : Int32) (a5 : Nat) (u6 : Nat) (f7 : Int32) (f8 : Int32) (f9 : Int32) (f10 : Int32) (u11 : Nat) (u12 : Nat) (u13 : Nat) (a14 : Nat) (a15 : Nat) (a16 : Nat) (a17 : Nat) (f18 : Int32) (f19 : Int32) (a20 : Nat) (a21 : Nat) (u22 : Nat) (a23 : Nat) (a24 : Nat) (a25 : Nat) (u26 : Nat) (f27 : Int32) (a28 : Nat) (u29 : Nat) (w : Nat → Int32) (a : Nat) (dq : Nat → Int32) (h_a0 : Pw w) (h_dl : Dl dq w) (ht : a < 3) : Ct l yX12_viewsOff (wl yX12_viewsOff cX12_viewsOff 3 none) { frames := 1, cells := 0, slots := 0, locals := 21 } D κ [.ref m0, .int (nI a)] [(m0, .inr (12, [.ref a0, .ref a1, .ref a2, .int (nI u3), .int f4, .ref a5, .int (nI u6), .int f7, .int f8, .int f9, .int f10, .int (nI u11), .int (nI u12), .int (nI u13), .ref a14, .ref a15, .ref a16, .ref a17, .int f18, .int f19, .ref a20, .ref a21, .int (nI u22), .ref a23, .ref a24, .ref a25, .int (nI u26), .int f27, .ref a28, .int (nI u29)])), (a0, .inl (κ 0, 21375, .inl w))] (fun _ => True) (fun g_a0 : (Nat → Int32) => none) (fun g_a0 : (Nat → Int32) => Pw g_a0 ∧ Dl dq g_a0 ∧ g_a0 (7123 * a + 2) = w (7123 * a + 2)) (fun g_a0 : (Nat → Int32) => [(m0, .inr (12, [.ref a0, .ref a1, .ref a2, .int (nI u3), .int f4, .ref a5, .int (nI u6), .int f7, .int f8, .int f9, .int f10, .int (nI u11), .int (nI u12), .int (nI u13), .ref a14, .ref a15, .ref a16, .ref a17, .int f18, .int f19, .ref a20, .ref a21, .int (nI u22), .ref a23, .ref a24, .ref a25, .int (nI u26), .int f27, .ref a28, .int (nI u29)])), (a0, .inl (κ 0, 21375, .inl g_a0))]) (fun _ _ => True) := by
  refine ct_of (by decide +kernel) (Nat.le_of_ble_eq_true rfl) ?_
  intro p e s m args below meth c A ls hx hb hr hml hts hown hlk hin hKK hK hA hP hD hS hI hl
  have hS : va_S A s.heap s.heap [] := hS
  have hFX : FX p s m args c cX12_viewsOff 3 RX12 := ⟨hx, hb, hml, hown, hts⟩
  have hl : lv_has ls 3 [(0, .ref m0), (1, .int (nI a))] := hl
  refine lv_aload_n hx hb dX12_viewsOff_0 rfl (lv_at hl 0 rfl) ?_
  refine va_get (D := D) (ci := 12) (v := .ref a0) (C := RX12) (T := TX12) (N := 30) hx hb hts inlX12 hown hK hP 0 rfl rfl 0 (by decide) (hts _ mw_187) (fun _ h9 => h9) rfl dX12_viewsOff_1 ?_
  refine lv_iload_n hx hb dX12_viewsOff_4 rfl (lv_at hl 1 rfl) ?_
  refine lv_iconst (v := 3) hx hb dX12_viewsOff_5 (by decide) ?_
  refine cr_S (As := [.int (nI a), .int 3]) (rest := [.ref a0]) hFX hKK (s_X12_at l D κ a 3) 2 gS_X12_66 hdS_X12_at rfl rfl ⟨Nat.le_of_ble_eq_true rfl, Nat.le_of_ble_eq_true rfl⟩ rfl rfl (Nat.le_of_ble_eq_true rfl) dX12_viewsOff_6 ⟨Nat.le_of_ble_eq_true rfl, Nat.le_of_ble_eq_true rfl⟩ hl.1 (hP.sub [] rfl) (fun _ hp_1 => ?_)
  refine W.eq (g2 := F0 m 9 ls [.int (nI (7123 * a + 3)), .ref a0]) rfl ?_
  refine lv_iconst (v := 0) hx hb dX12_viewsOff_9 (by decide) ?_
  refine va_iast hx hb hK hP hD hS 1 0 rfl rfl (i := nI (7123 * a + 3)) (x := 0) (vp_in_nI (n := (7123 * a + 3)) (by omega) (by omega)) dX12_viewsOff_10 (fun H locs hP hD hS => ?_)
  rw [nI_clamp (by omega)] at hP hD
  have hP : va_P D vwCl [(m0, .inr (12, [.ref a0, .ref a1, .ref a2, .int (nI u3), .int f4, .ref a5, .int (nI u6), .int f7, .int f8, .int f9, .int f10, .int (nI u11), .int (nI u12), .int (nI u13), .ref a14, .ref a15, .ref a16, .ref a17, .int f18, .int f19, .ref a20, .ref a21, .int (nI u22), .ref a23, .ref a24, .ref a25, .int (nI u26), .int f27, .ref a28, .int (nI u29)])), (a0, .inl (κ 0, 21375, .inl (upd w (7123 * a + 3) 0)))] H := hP
  have hD : va_D A [(m0, .inr (12, [.ref a0, .ref a1, .ref a2, .int (nI u3), .int f4, .ref a5, .int (nI u6), .int f7, .int f8, .int f9, .int f10, .int (nI u11), .int (nI u12), .int (nI u13), .ref a14, .ref a15, .ref a16, .ref a17, .int f18, .int f19, .ref a20, .ref a21, .int (nI u22), .ref a23, .ref a24, .ref a25, .int (nI u26), .int f27, .ref a28, .int (nI u29)])), (a0, .inl (κ 0, 21375, .inl (upd w (7123 * a + 3) 0)))] := hD
  have hf_3 : Pw (upd w (7123 * a + 3) 0) := (Pw_upd h_a0 (mTOP (t := a) (by omega) (by omega)) ⟨0, by omega, by decide⟩)
  have hf_4 : Dl dq (upd w (7123 * a + 3) 0) := (Dl_upd h_dl (by omega))
  have hq : (upd w (7123 * a + 3) 0) (7123 * a + 2) = w (7123 * a + 2) := (pk_un (by omega))
  generalize upd w (7123 * a + 3) 0 = g_2 at hP hD hf_3 hf_4 hq
  refine lv_aload_n hx hb dX12_viewsOff_11 rfl (lv_at hl 0 rfl) ?_
  refine va_get (D := D) (ci := 12) (v := .ref a0) (C := RX12) (T := TX12) (N := 30) hx hb hts inlX12 hown hK hP 0 rfl rfl 0 (by decide) (hts _ mw_187) (fun _ h9 => h9) rfl dX12_viewsOff_12 ?_
  refine lv_iload_n hx hb dX12_viewsOff_15 rfl (lv_at hl 1 rfl) ?_
  refine lv_bipush (v := 116) hx hb dX12_viewsOff_16 (by decide) ?_
  refine cr_S (As := [.int (nI a), .int 116]) (rest := [.ref a0]) hFX hKK (s_X12_at l D κ a 116) 2 gS_X12_66 hdS_X12_at rfl rfl ⟨Nat.le_of_ble_eq_true rfl, Nat.le_of_ble_eq_true rfl⟩ rfl rfl (Nat.le_of_ble_eq_true rfl) dX12_viewsOff_18 ⟨Nat.le_of_ble_eq_true rfl, Nat.le_of_ble_eq_true rfl⟩ hl.1 (hP.sub [] rfl) (fun _ hp_5 => ?_)
  refine W.eq (g2 := F0 m 21 ls [.int (nI (7123 * a + 116)), .ref a0]) rfl ?_
  refine lv_aload_n hx hb dX12_viewsOff_21 rfl (lv_at hl 0 rfl) ?_
  refine va_get (D := D) (ci := 12) (v := .ref a0) (C := RX12) (T := TX12) (N := 30) hx hb hts inlX12 hown hK hP 0 rfl rfl 0 (by decide) (hts _ mw_187) (fun _ h9 => h9) rfl dX12_viewsOff_22 ?_
  refine lv_iload_n hx hb dX12_viewsOff_25 rfl (lv_at hl 1 rfl) ?_
  refine lv_iconst (v := 2) hx hb dX12_viewsOff_26 (by decide) ?_
  refine cr_S (As := [.int (nI a), .int 2]) (rest := [.ref a0, .int (nI (7123 * a + 116)), .ref a0]) hFX hKK (s_X12_at l D κ a 2) 2 gS_X12_66 hdS_X12_at rfl rfl ⟨Nat.le_of_ble_eq_true rfl, Nat.le_of_ble_eq_true rfl⟩ rfl rfl (Nat.le_of_ble_eq_true rfl) dX12_viewsOff_27 ⟨Nat.le_of_ble_eq_true rfl, Nat.le_of_ble_eq_true rfl⟩ hl.1 (hP.sub [] rfl) (fun _ hp_6 => ?_)
  refine W.eq (g2 := F0 m 30 ls [.int (nI (7123 * a + 2)), .ref a0, .int (nI (7123 * a + 116)), .ref a0]) rfl ?_
  refine va_iald hx hb hK hP 1 0 rfl rfl (i := nI (7123 * a + 2)) (vp_in_nI (n := (7123 * a + 2)) (by omega) (by omega)) dX12_viewsOff_30 ?_
  refine kv (v := .int (g_2 (7123 * a + 2))) (by rw [nI_clamp (by omega)]) ?_
  obtain ⟨n_7, hn_7, en_7⟩ : ∃ n9 : Nat, n9 ≤ 40 ∧ g_2 (7123 * a + 2) = nI n9 := id (hf_3 _ _ (mMANY (t := a) (by omega) (by omega)))
  refine kv (v := .int (nI n_7)) (congrArg Value.int en_7) ?_
  refine va_iast hx hb hK hP hD hS 1 0 rfl rfl (i := nI (7123 * a + 116)) (x := nI n_7) (vp_in_nI (n := (7123 * a + 116)) (by omega) (by omega)) dX12_viewsOff_31 (fun H locs hP hD hS => ?_)
  rw [nI_clamp (by omega)] at hP hD
  have hP : va_P D vwCl [(m0, .inr (12, [.ref a0, .ref a1, .ref a2, .int (nI u3), .int f4, .ref a5, .int (nI u6), .int f7, .int f8, .int f9, .int f10, .int (nI u11), .int (nI u12), .int (nI u13), .ref a14, .ref a15, .ref a16, .ref a17, .int f18, .int f19, .ref a20, .ref a21, .int (nI u22), .ref a23, .ref a24, .ref a25, .int (nI u26), .int f27, .ref a28, .int (nI u29)])), (a0, .inl (κ 0, 21375, .inl (upd g_2 (7123 * a + 116) (nI n_7))))] H := hP
  have hD : va_D A [(m0, .inr (12, [.ref a0, .ref a1, .ref a2, .int (nI u3), .int f4, .ref a5, .int (nI u6), .int f7, .int f8, .int f9, .int f10, .int (nI u11), .int (nI u12), .int (nI u13), .ref a14, .ref a15, .ref a16, .ref a17, .int f18, .int f19, .ref a20, .ref a21, .int (nI u22), .ref a23, .ref a24, .ref a25, .int (nI u26), .int f27, .ref a28, .int (nI u29)])), (a0, .inl (κ 0, 21375, .inl (upd g_2 (7123 * a + 116) (nI n_7))))] := hD
  have hf_9 : Pw (upd g_2 (7123 * a + 116) (nI n_7)) := (Pw_upd hf_3 (mVM (t := a) (k := 0) (by omega) (by omega) (by omega)) ⟨n_7, by omega, rfl⟩)
  have hf_10 : Dl dq (upd g_2 (7123 * a + 116) (nI n_7)) := (Dl_upd hf_4 (by omega))
  have hq : (upd g_2 (7123 * a + 116) (nI n_7)) (7123 * a + 2) = w (7123 * a + 2) := ((pk_un (by omega)).trans hq)
  generalize upd g_2 (7123 * a + 116) (nI n_7) = g_8 at hP hD hf_9 hf_10 hq
  refine lv_iconst (v := 0) hx hb dX12_viewsOff_32 (by decide) ?_
  refine lv_istore_n (lv' := [(2, .int 0), (0, .ref m0), (1, .int (nI a))]) hx hb dX12_viewsOff_33 rfl hl (by decide) rfl (fun ls hl => ?_)
  refine loop_dn (fun k9 H locs ls => ∃ (k2_34 : Nat), ∃ (ga0_34 : Nat → Int32), (k2_34 ≤ 40) ∧ (ga0_34 (7123 * a + 2) = w (7123 * a + 2)) ∧ Pw ga0_34 ∧ Dl dq ga0_34 ∧ 40 - k2_34 = k9 ∧ va_P D vwCl [(m0, .inr (12, [.ref a0, .ref a1, .ref a2, .int (nI u3), .int f4, .ref a5, .int (nI u6), .int f7, .int f8, .int f9, .int f10, .int (nI u11), .int (nI u12), .int (nI u13), .ref a14, .ref a15, .ref a16, .ref a17, .int f18, .int f19, .ref a20, .ref a21, .int (nI u22), .ref a23, .ref a24, .ref a25, .int (nI u26), .int f27, .ref a28, .int (nI u29)])), (a0, .inl (κ 0, 21375, .inl ga0_34))] H ∧ va_D A [(m0, .inr (12, [.ref a0, .ref a1, .ref a2, .int (nI u3), .int f4, .ref a5, .int (nI u6), .int f7, .int f8, .int f9, .int f10, .int (nI u11), .int (nI u12), .int (nI u13), .ref a14, .ref a15, .ref a16, .ref a17, .int f18, .int f19, .ref a20, .ref a21, .int (nI u22), .ref a23, .ref a24, .ref a25, .int (nI u26), .int f27, .ref a28, .int (nI u29)])), (a0, .inl (κ 0, 21375, .inl ga0_34))] ∧ va_S A s.heap H locs ∧ lv_has ls 3 [(2, .int (nI k2_34)), (0, .ref m0), (1, .int (nI a))]) (fun k9 H locs ls hI34 ih34 => ?_) (40 - 0) _ _ _ ⟨0, g_8, (by omega), hq, hf_9, hf_10, rfl, hP, hD, hS, lv_sub hl [0, 1, 2] rfl⟩
  obtain ⟨k2_34, ga0_34, hl34_0, hl34_1, hg34_0, hg34_1, hm34, hP, hD, hS, hl⟩ := hI34
  refine lv_iload_n hx hb dX12_viewsOff_34 rfl (lv_at hl 0 rfl) ?_
  refine lv_bipush (v := 40) hx hb dX12_viewsOff_35 (by decide) ?_
  refine lv_icmp_ge (tgt := 60) hx hb dX12_viewsOff_37 (by decide) (fun c_11 => ?_) (fun c_11 => ?_)
  · have nc_11 := cv_le (a := 40) (b := k2_34) (by omega) (by omega) c_11
    exact ct_vret hx hb hr hlk hS hP hD ga0_34 rfl ⟨(show Pw ga0_34 from (by first | assumption | omega | rfl | exact Or.inl (by assumption) | exact Or.inr (by assumption))), (show Dl dq ga0_34 from (by first | assumption | omega | rfl | exact Or.inl (by assumption) | exact Or.inr (by assumption))), (show ga0_34 (7123 * a + 2) = w (7123 * a + 2) from (by first | assumption | omega | rfl | exact Or.inl (by assumption) | exact Or.inr (by assumption)))⟩ [0, 1] rfl (by decide) trivial (Nat.le_of_ble_eq_true rfl) (Nat.le_of_ble_eq_true rfl) dX12_viewsOff_60
  · have nc_11 := cv_nle (a := 40) (b := k2_34) (by omega) (by omega) c_11
    refine lv_aload_n hx hb dX12_viewsOff_40 rfl (lv_at hl 1 rfl) ?_
    refine va_get (D := D) (ci := 12) (v := .ref a0) (C := RX12) (T := TX12) (N := 30) hx hb hts inlX12 hown hK hP 0 rfl rfl 0 (by decide) (hts _ mw_187) (fun _ h9 => h9) rfl dX12_viewsOff_41 ?_
    refine lv_iload_n hx hb dX12_viewsOff_44 rfl (lv_at hl 2 rfl) ?_
    refine lv_bipush (v := 123) hx hb dX12_viewsOff_45 (by decide) ?_
    refine cr_S (As := [.int (nI a), .int 123]) (rest := [.ref a0]) hFX hKK (s_X12_at l D κ a 123) 2 gS_X12_66 hdS_X12_at rfl rfl ⟨Nat.le_of_ble_eq_true rfl, Nat.le_of_ble_eq_true rfl⟩ rfl rfl (Nat.le_of_ble_eq_true rfl) dX12_viewsOff_47 ⟨Nat.le_of_ble_eq_true rfl, Nat.le_of_ble_eq_true rfl⟩ hl.1 (hP.sub [] rfl) (fun _ hp_12 => ?_)
    refine W.eq (g2 := F0 m 50 ls [.int (nI (7123 * a + 123)), .ref a0]) rfl ?_
    refine lv_iload_n hx hb dX12_viewsOff_50 rfl (lv_at hl 0 rfl) ?_
    refine lv_iadd hx hb dX12_viewsOff_51 ?_
    refine ki (v := (nI (7123 * a + 123 + k2_34))) (nI_add (7123 * a + 123) k2_34) ?_
    refine lv_iload_n hx hb dX12_viewsOff_52 rfl (lv_at hl 0 rfl) ?_
    refine va_iast hx hb hK hP hD hS 1 0 rfl rfl (i := nI (7123 * a + 123 + k2_34)) (x := nI k2_34) (vp_in_nI (n := (7123 * a + 123 + k2_34)) (by omega) (by omega)) dX12_viewsOff_53 (fun H locs hP hD hS => ?_)
    rw [nI_clamp (by omega)] at hP hD
    have hP : va_P D vwCl [(m0, .inr (12, [.ref a0, .ref a1, .ref a2, .int (nI u3), .int f4, .ref a5, .int (nI u6), .int f7, .int f8, .int f9, .int f10, .int (nI u11), .int (nI u12), .int (nI u13), .ref a14, .ref a15, .ref a16, .ref a17, .int f18, .int f19, .ref a20, .ref a21, .int (nI u22), .ref a23, .ref a24, .ref a25, .int (nI u26), .int f27, .ref a28, .int (nI u29)])), (a0, .inl (κ 0, 21375, .inl (upd ga0_34 (7123 * a + 123 + k2_34) (nI k2_34))))] H := hP
    have hD : va_D A [(m0, .inr (12, [.ref a0, .ref a1, .ref a2, .int (nI u3), .int f4, .ref a5, .int (nI u6), .int f7, .int f8, .int f9, .int f10, .int (nI u11), .int (nI u12), .int (nI u13), .ref a14, .ref a15, .ref a16, .ref a17, .int f18, .int f19, .ref a20, .ref a21, .int (nI u22), .ref a23, .ref a24, .ref a25, .int (nI u26), .int f27, .ref a28, .int (nI u29)])), (a0, .inl (κ 0, 21375, .inl (upd ga0_34 (7123 * a + 123 + k2_34) (nI k2_34))))] := hD
    have hf_14 : Pw (upd ga0_34 (7123 * a + 123 + k2_34) (nI k2_34)) := (Pw_upd hg34_0 (mVIEW (t := a) (i := k2_34) (by omega) (by omega) (by omega)) ⟨k2_34, by omega, rfl⟩)
    have hf_15 : Dl dq (upd ga0_34 (7123 * a + 123 + k2_34) (nI k2_34)) := (Dl_upd hg34_1 (by omega))
    have hq : (upd ga0_34 (7123 * a + 123 + k2_34) (nI k2_34)) (7123 * a + 2) = w (7123 * a + 2) := ((pk_un (by omega)).trans hl34_1)
    generalize upd ga0_34 (7123 * a + 123 + k2_34) (nI k2_34) = g_13 at hP hD hf_14 hf_15 hq
    refine lv_iinc (v := (nI (k2_34 + 1))) (lv' := [(2, .int (nI (k2_34 + 1))), (0, .ref m0), (1, .int (nI a))]) hx hb dX12_viewsOff_54 hl (k := 0) rfl (nI_i k2_34) (by decide) rfl (fun ls hl => ?_)
    refine lv_goto (tgt := 34) hx hb dX12_viewsOff_57 (by decide) ?_
    exact ih34 _ _ _ _ (by omega) ⟨(k2_34 + 1), g_13, (by omega), hq, hf_14, hf_15, rfl, hP, hD, hS, lv_sub hl [0, 1, 2] rfl⟩
set_option maxHeartbeats 4000000 in
set_option maxRecDepth 100000 in
theorem d_X12_read (l : Launch) (D : va_G) (κ : Nat → ClassId) (m0 : Nat) (a0 : Nat) (a1 : Nat) (a2 : Nat) (u3 : Nat) (f4 : Int32) (a5 : Nat) (u6 : Nat) (f7 : Int32) (f8 : Int32) (f9 : Int32) (f10 : Int32) (u11 : Nat) (u12 : Nat) (u13 : Nat) (a14 : Nat) (a15 : Nat) (a16 : Nat) (a17 : Nat) (f18 : Int32) (f19 : Int32) (a20 : Nat) (a21 : Nat) (u22 : Nat) (a23 : Nat) (a24 : Nat) (a25 : Nat) (u26 : Nat) (f27 : Int32) (a28 : Nat) (u29 : Nat) (w : Nat → Int32) (un : Nat → Int32) (tp : Nat → Int32) (fd : Nat → Int32) (fa : Nat → Int32) (pt : Nat → Int32) (dr : Nat → Int32) (za : Int32) (dq : Nat → Int32) (h3 : u3 ≤ 6) (h8 : PF f8) (h6 : u6 ≤ 800) (h12 : u12 ≤ 8) (h13 : u13 ≤ 800) (h_a0 : Pw w) (h_a2 : Pu un) (h_a14 : Pfd fd) (h_a15 : Pb 9 800 fa) (h_a16 : Pb 9 800 pt) (h_a17 : Pd dr) (h_dl : Dl dq w) (hsq : sgB (w 21370) = true) : Ct l yX12_read (wl yX12_read cX12_read 3 (some .int)) { frames := 6, cells := 0, slots := 0, locals := 133 } D κ [.ref m0, .int za] [(m0, .inr (12, [.ref a0, .ref a1, .ref a2, .int (nI u3), .int f4, .ref a5, .int (nI u6), .int f7, .int f8, .int f9, .int f10, .int (nI u11), .int (nI u12), .int (nI u13), .ref a14, .ref a15, .ref a16, .ref a17, .int f18, .int f19, .ref a20, .ref a21, .int (nI u22), .ref a23, .ref a24, .ref a25, .int (nI u26), .int f27, .ref a28, .int (nI u29)])), (a0, .inl (κ 0, 21375, .inl w)), (a2, .inl (κ 0, 128214, .inl un)), (a5, .inl (κ 0, 800, .inl tp)), (a14, .inl (κ 0, 189, .inl fd)), (a15, .inl (κ 0, 9, .inl fa)), (a16, .inl (κ 0, 9, .inl pt)), (a17, .inl (κ 0, 7123, .inl dr))] (fun _ => True) (fun u9 : Int32 × Nat × Int32 × Int32 × Int32 × Int32 × Nat × Nat × Nat × Int32 × Int32 × (Nat → Int32) × (Nat → Int32) × (Nat → Int32) × (Nat → Int32) × (Nat → Int32) × (Nat → Int32) => some (.int u9.1)) (fun u9 : Int32 × Nat × Int32 × Int32 × Int32 × Int32 × Nat × Nat × Nat × Int32 × Int32 × (Nat → Int32) × (Nat → Int32) × (Nat → Int32) × (Nat → Int32) × (Nat → Int32) × (Nat → Int32) => u9.2.1 ≤ 6 ∧ PF u9.2.2.2.1 ∧ u9.2.2.2.2.2.2.2.1 ≤ 8 ∧ u9.2.2.2.2.2.2.2.2.1 ≤ 800 ∧ Pw u9.2.2.2.2.2.2.2.2.2.2.2.1 ∧ Dl dq u9.2.2.2.2.2.2.2.2.2.2.2.1 ∧ Pu u9.2.2.2.2.2.2.2.2.2.2.2.2.1 ∧ Pfd u9.2.2.2.2.2.2.2.2.2.2.2.2.2.1 ∧ Pb 9 800 u9.2.2.2.2.2.2.2.2.2.2.2.2.2.2.1 ∧ Pb 9 800 u9.2.2.2.2.2.2.2.2.2.2.2.2.2.2.2.1 ∧ Pd u9.2.2.2.2.2.2.2.2.2.2.2.2.2.2.2.2 ∧ u9.1 = rdF za (tbS tp (dW w) u6 (u6 + 1) 0 0 0)) (fun u9 : Int32 × Nat × Int32 × Int32 × Int32 × Int32 × Nat × Nat × Nat × Int32 × Int32 × (Nat → Int32) × (Nat → Int32) × (Nat → Int32) × (Nat → Int32) × (Nat → Int32) × (Nat → Int32) => [(m0, .inr (12, [.ref a0, .ref a1, .ref a2, .int (nI u9.2.1), .int f4, .ref a5, .int 0, .int u9.2.2.1, .int u9.2.2.2.1, .int u9.2.2.2.2.1, .int u9.2.2.2.2.2.1, .int (nI u9.2.2.2.2.2.2.1), .int (nI u9.2.2.2.2.2.2.2.1), .int (nI u9.2.2.2.2.2.2.2.2.1), .ref a14, .ref a15, .ref a16, .ref a17, .int u9.2.2.2.2.2.2.2.2.2.1, .int u9.2.2.2.2.2.2.2.2.2.2.1, .ref a20, .ref a21, .int (nI u22), .ref a23, .ref a24, .ref a25, .int (nI u26), .int f27, .ref a28, .int (nI u29)])), (a0, .inl (κ 0, 21375, .inl u9.2.2.2.2.2.2.2.2.2.2.2.1)), (a2, .inl (κ 0, 128214, .inl u9.2.2.2.2.2.2.2.2.2.2.2.2.1)), (a5, .inl (κ 0, 800, .inl tp)), (a14, .inl (κ 0, 189, .inl u9.2.2.2.2.2.2.2.2.2.2.2.2.2.1)), (a15, .inl (κ 0, 9, .inl u9.2.2.2.2.2.2.2.2.2.2.2.2.2.2.1)), (a16, .inl (κ 0, 9, .inl u9.2.2.2.2.2.2.2.2.2.2.2.2.2.2.2.1)), (a17, .inl (κ 0, 7123, .inl u9.2.2.2.2.2.2.2.2.2.2.2.2.2.2.2.2))]) (fun _ _ => True) := by
  refine ct_of (by decide +kernel) (Nat.le_of_ble_eq_true rfl) ?_
  intro p e s m args below meth c A ls hx hb hr hml hts hown hlk hin hKK hK hA hP hD hS hI hl
  have hS : va_S A s.heap s.heap [] := hS
  have hFX : FX p s m args c cX12_read 3 RX12 := ⟨hx, hb, hml, hown, hts⟩
  have hl : lv_has ls 3 [(0, .ref m0), (1, .int za)] := hl
  refine lv_iload_n hx hb dX12_read_0 rfl (lv_at hl 1 rfl) ?_
  refine lv_i2l (v := za.toInt64) hx hb dX12_read_1 rfl ?_
  refine lv_lconst (v := 0) hx hb dX12_read_2 (by decide) ?_
  refine lv_ldc2 hx hb hown (hts _ mw_413) dX12_read_3 ?_
  refine cr_S (As := [.long za.toInt64, .long 0, .long 2]) (rest := []) hFX hKK (s_X12_isIn l D κ za.toInt64 0 2) 3 gS_X12_62 hdS_X12_isIn rfl rfl ⟨Nat.le_of_ble_eq_true rfl, Nat.le_of_ble_eq_true rfl⟩ rfl rfl (Nat.le_of_ble_eq_true rfl) dX12_read_6 ⟨Nat.le_of_ble_eq_true rfl, Nat.le_of_ble_eq_true rfl⟩ hl.1 (hP.sub [] rfl) (fun r__1 hp_2 => ?_)
  replace hp_2 : ((r__1 = 1 ∧ ¬ lg_cmp za.toInt64 (0 : Int64) < 0 ∧ ¬ 0 < lg_cmp za.toInt64 (2 : Int64)) ∨ (r__1 = 0 ∧ (lg_cmp za.toInt64 (0 : Int64) < 0 ∨ 0 < lg_cmp za.toInt64 (2 : Int64)))) := hp_2
  have ha_3 := hp_2
  clear hp_2
  rcases ha_3 with ⟨rfl, a_4, a_5⟩ | ⟨rfl, a_6⟩
  · refine W.eq (g2 := F0 m 9 ls [.int 1]) rfl ?_
    have hin_7 : (0 : Int) ≤ za.toInt ∧ za.toInt ≤ (2 : Int) := l_in (l_of rfl) (by decide) (by decide) a_4 a_5
    obtain ⟨j_8, hj_8, rfl⟩ : ∃ j9 : Nat, (j9 : Int) ≤ (2 : Int) ∧ za = nI j9 := i_nat (by omega) (by omega)
    refine lv_if_ne (tgt := 19) hx hb dX12_read_9 (by decide) (fun c_9 => ?_) (fun c_9 => absurd c_9 (by decide))
    refine lv_aload_n hx hb dX12_read_19 rfl (lv_at hl 0 rfl) ?_
    refine ct_V (wr := [(a0, .inl (κ 0, 21375, .inl w)), (a2, .inl (κ 0, 128214, .inl un)), (a5, .inl (κ 0, 800, .inl tp)), (a14, .inl (κ 0, 189, .inl fd)), (a15, .inl (κ 0, 9, .inl fa)), (a16, .inl (κ 0, 9, .inl pt)), (a17, .inl (κ 0, 7123, .inl dr))]) (As := []) (rest := []) hFX hKK hP hD hS hA (s_X12_beginsReading l D κ m0 a0 a1 a2 u3 f4 a5 u6 f7 f8 f9 f10 u11 u12 u13 a14 a15 a16 a17 f18 f19 a20 a21 u22 a23 a24 a25 u26 f27 a28 u29) 0 gV_X12_286 hdV_X12_beginsReading ⟨Nat.le_of_ble_eq_true rfl, Nat.le_of_ble_eq_true rfl⟩ rfl rfl (Nat.le_of_ble_eq_true rfl) dX12_read_20 ⟨Nat.le_of_ble_eq_true rfl, Nat.le_of_ble_eq_true rfl⟩ hl.1 [0] [1, 2, 3, 4, 5, 6, 7] rfl rfl (by decide) (by decide) (by decide) 0 12 rfl rfl rfl trivial (fun _ H locs hp_10 _ hP hD hS hz_ hk_ => ?_)
    replace hP : va_P D vwCl [(m0, .inr (12, [.ref a0, .ref a1, .ref a2, .int (nI u3), .int f4, .ref a5, .int (nI u6), .int 0, .int (-1), .int (-1), .int f10, .int (nI u11), .int (nI u12), .int (nI u13), .ref a14, .ref a15, .ref a16, .ref a17, .int f18, .int f19, .ref a20, .ref a21, .int (nI u22), .ref a23, .ref a24, .ref a25, .int (nI u26), .int f27, .ref a28, .int (nI u29)])), (a0, .inl (κ 0, 21375, .inl w)), (a2, .inl (κ 0, 128214, .inl un)), (a5, .inl (κ 0, 800, .inl tp)), (a14, .inl (κ 0, 189, .inl fd)), (a15, .inl (κ 0, 9, .inl fa)), (a16, .inl (κ 0, 9, .inl pt)), (a17, .inl (κ 0, 7123, .inl dr))] H := hP.sub [7, 0, 1, 2, 3, 4, 5, 6] rfl
    replace hD : va_D A [(m0, .inr (12, [.ref a0, .ref a1, .ref a2, .int (nI u3), .int f4, .ref a5, .int (nI u6), .int 0, .int (-1), .int (-1), .int f10, .int (nI u11), .int (nI u12), .int (nI u13), .ref a14, .ref a15, .ref a16, .ref a17, .int f18, .int f19, .ref a20, .ref a21, .int (nI u22), .ref a23, .ref a24, .ref a25, .int (nI u26), .int f27, .ref a28, .int (nI u29)])), (a0, .inl (κ 0, 21375, .inl w)), (a2, .inl (κ 0, 128214, .inl un)), (a5, .inl (κ 0, 800, .inl tp)), (a14, .inl (κ 0, 189, .inl fd)), (a15, .inl (κ 0, 9, .inl fa)), (a16, .inl (κ 0, 9, .inl pt)), (a17, .inl (κ 0, 7123, .inl dr))] := hD.sub [7, 0, 1, 2, 3, 4, 5, 6] (by decide) rfl
    refine W.eq (g2 := F0 m 23 ls []) rfl ?_
    refine lv_aload_n hx hb dX12_read_23 rfl (lv_at hl 0 rfl) ?_
    refine lv_aload_n hx hb dX12_read_24 rfl (lv_at hl 0 rfl) ?_
    refine ct_V (wr := [(a2, .inl (κ 0, 128214, .inl un))]) (As := []) (rest := [.ref m0]) hFX hKK hP hD hS hA (f_X12_readsTable l D κ m0 a0 a1 a2 u3 f4 a5 u6 0 (-1) (-1) f10 u11 u12 u13 a14 a15 a16 a17 f18 f19 a20 a21 u22 a23 a24 a25 u26 f27 a28 u29 w tp fd fa pt dr (by omega) PF_m (by omega) (by omega) h_a0 h_a14 h_a15 h_a16 h_a17 (by assumption)) 0 gV_X12_289 hdV_X12_readsTable ⟨Nat.le_of_ble_eq_true rfl, Nat.le_of_ble_eq_true rfl⟩ rfl rfl (Nat.le_of_ble_eq_true rfl) dX12_read_25 ⟨Nat.le_of_ble_eq_true rfl, Nat.le_of_ble_eq_true rfl⟩ hl.1 [0, 1, 3, 4, 5, 6, 7] [2] rfl rfl (by decide) (by decide) (by decide) 0 12 rfl rfl rfl trivial (fun u_23 H locs hp_24 _ hP hD hS hz_ hk_ => ?_)
    obtain ⟨r__11, kk__12, y7__13, y8__14, y9__15, y11__16, y12__17, y13__18, g_a14__19, g_a15__20, g_a16__21, g_a17__22⟩ := u_23
    replace hP : va_P D vwCl [(m0, .inr (12, [.ref a0, .ref a1, .ref a2, .int (nI u3), .int f4, .ref a5, .int (nI u6), .int y7__13, .int y8__14, .int y9__15, .int f10, .int (nI y11__16), .int (nI y12__17), .int (nI y13__18), .ref a14, .ref a15, .ref a16, .ref a17, .int f18, .int f19, .ref a20, .ref a21, .int (nI u22), .ref a23, .ref a24, .ref a25, .int (nI u26), .int f27, .ref a28, .int (nI u29)])), (a0, .inl (κ 0, 21375, .inl w)), (a2, .inl (κ 0, 128214, .inl un)), (a5, .inl (κ 0, 800, .inl tp)), (a14, .inl (κ 0, 189, .inl g_a14__19)), (a15, .inl (κ 0, 9, .inl g_a15__20)), (a16, .inl (κ 0, 9, .inl g_a16__21)), (a17, .inl (κ 0, 7123, .inl g_a17__22))] H := hP.sub [1, 2, 0, 3, 4, 5, 6, 7] rfl
    replace hD : va_D A [(m0, .inr (12, [.ref a0, .ref a1, .ref a2, .int (nI u3), .int f4, .ref a5, .int (nI u6), .int y7__13, .int y8__14, .int y9__15, .int f10, .int (nI y11__16), .int (nI y12__17), .int (nI y13__18), .ref a14, .ref a15, .ref a16, .ref a17, .int f18, .int f19, .ref a20, .ref a21, .int (nI u22), .ref a23, .ref a24, .ref a25, .int (nI u26), .int f27, .ref a28, .int (nI u29)])), (a0, .inl (κ 0, 21375, .inl w)), (a2, .inl (κ 0, 128214, .inl un)), (a5, .inl (κ 0, 800, .inl tp)), (a14, .inl (κ 0, 189, .inl g_a14__19)), (a15, .inl (κ 0, 9, .inl g_a15__20)), (a16, .inl (κ 0, 9, .inl g_a16__21)), (a17, .inl (κ 0, 7123, .inl g_a17__22))] := hD.sub [1, 2, 0, 3, 4, 5, 6, 7] (by decide) rfl
    replace hp_24 : PF y8__14 ∧ y12__17 ≤ 8 ∧ y13__18 ≤ 800 ∧ Pfd g_a14__19 ∧ Pb 9 800 g_a15__20 ∧ Pb 9 800 g_a16__21 ∧ Pd g_a17__22 ∧ ((r__11 = 1 ∧ tbS tp (dW w) u6 (u6 + 1) 0 0 0 = some kk__12 ∧ g_a17__22 2 = nI kk__12 ∧ kk__12 ≤ 40) ∨ (r__11 = 0 ∧ tbS tp (dW w) u6 (u6 + 1) 0 0 0 = none)) := hp_24
    obtain ⟨h_25, h_26, h_27, h_28, h_29, h_30, h_31, ha_32⟩ := hp_24
    rcases ha_32 with ⟨rfl, a_33, a_34, a_35⟩ | ⟨rfl, a_36⟩
    · refine W.eq (g2 := F0 m 28 ls [.int 1, .ref m0]) rfl ?_
      refine ct_V (wr := [(a0, .inl (κ 0, 21375, .inl w)), (a2, .inl (κ 0, 128214, .inl un)), (a14, .inl (κ 0, 189, .inl g_a14__19)), (a15, .inl (κ 0, 9, .inl g_a15__20)), (a16, .inl (κ 0, 9, .inl g_a16__21)), (a17, .inl (κ 0, 7123, .inl g_a17__22))]) (As := [.int 1]) (rest := []) hFX hKK hP hD hS hA (s_X12_endsReading l D κ m0 a0 a1 a2 u3 f4 a5 u6 y7__13 y8__14 y9__15 f10 y11__16 y12__17 y13__18 a14 a15 a16 a17 f18 f19 a20 a21 u22 a23 a24 a25 u26 f27 a28 u29 tp 1 (by assumption) (by decide)) 1 gV_X12_292 hdV_X12_endsReading ⟨Nat.le_of_ble_eq_true rfl, Nat.le_of_ble_eq_true rfl⟩ rfl rfl (Nat.le_of_ble_eq_true rfl) dX12_read_28 ⟨Nat.le_of_ble_eq_true rfl, Nat.le_of_ble_eq_true rfl⟩ hl.1 [0, 3] [1, 2, 4, 5, 6, 7] rfl rfl (by decide) (by decide) (by decide) 0 12 rfl rfl rfl trivial (fun u_40 H locs hp_41 _ hP hD hS hz_ hk_ => ?_)
      obtain ⟨y10__37, y18__38, y19__39⟩ := u_40
      replace hP : va_P D vwCl [(m0, .inr (12, [.ref a0, .ref a1, .ref a2, .int (nI u3), .int f4, .ref a5, .int 0, .int y7__13, .int y8__14, .int y9__15, .int y10__37, .int (nI y11__16), .int (nI y12__17), .int (nI y13__18), .ref a14, .ref a15, .ref a16, .ref a17, .int y18__38, .int y19__39, .ref a20, .ref a21, .int (nI u22), .ref a23, .ref a24, .ref a25, .int (nI u26), .int f27, .ref a28, .int (nI u29)])), (a0, .inl (κ 0, 21375, .inl w)), (a2, .inl (κ 0, 128214, .inl un)), (a5, .inl (κ 0, 800, .inl tp)), (a14, .inl (κ 0, 189, .inl g_a14__19)), (a15, .inl (κ 0, 9, .inl g_a15__20)), (a16, .inl (κ 0, 9, .inl g_a16__21)), (a17, .inl (κ 0, 7123, .inl g_a17__22))] H := hP.sub [6, 0, 1, 7, 2, 3, 4, 5] rfl
      replace hD : va_D A [(m0, .inr (12, [.ref a0, .ref a1, .ref a2, .int (nI u3), .int f4, .ref a5, .int 0, .int y7__13, .int y8__14, .int y9__15, .int y10__37, .int (nI y11__16), .int (nI y12__17), .int (nI y13__18), .ref a14, .ref a15, .ref a16, .ref a17, .int y18__38, .int y19__39, .ref a20, .ref a21, .int (nI u22), .ref a23, .ref a24, .ref a25, .int (nI u26), .int f27, .ref a28, .int (nI u29)])), (a0, .inl (κ 0, 21375, .inl w)), (a2, .inl (κ 0, 128214, .inl un)), (a5, .inl (κ 0, 800, .inl tp)), (a14, .inl (κ 0, 189, .inl g_a14__19)), (a15, .inl (κ 0, 9, .inl g_a15__20)), (a16, .inl (κ 0, 9, .inl g_a16__21)), (a17, .inl (κ 0, 7123, .inl g_a17__22))] := hD.sub [6, 0, 1, 7, 2, 3, 4, 5] (by decide) rfl
      refine W.eq (g2 := F0 m 31 ls [.int 1]) rfl ?_
      refine lv_if_ne (tgt := 36) hx hb dX12_read_31 (by decide) (fun c_42 => ?_) (fun c_42 => absurd c_42 (by decide))
      refine lv_aload_n hx hb dX12_read_36 rfl (lv_at hl 0 rfl) ?_
      refine ct_V (wr := [(a5, .inl (κ 0, 800, .inl tp)), (a14, .inl (κ 0, 189, .inl g_a14__19)), (a15, .inl (κ 0, 9, .inl g_a15__20)), (a16, .inl (κ 0, 9, .inl g_a16__21)), (a17, .inl (κ 0, 7123, .inl g_a17__22))]) (As := []) (rest := []) hFX hKK hP hD hS hA (s_X12_remembers l D κ m0 a0 a1 a2 u3 f4 a5 0 y7__13 y8__14 y9__15 y10__37 y11__16 y12__17 y13__18 a14 a15 a16 a17 y18__38 y19__39 a20 a21 u22 a23 a24 a25 u26 f27 a28 u29 w un (by omega) h_a0 h_a2) 0 gV_X12_296 hdV_X12_remembers ⟨Nat.le_of_ble_eq_true rfl, Nat.le_of_ble_eq_true rfl⟩ rfl rfl (Nat.le_of_ble_eq_true rfl) dX12_read_37 ⟨Nat.le_of_ble_eq_true rfl, Nat.le_of_ble_eq_true rfl⟩ hl.1 [0, 1, 2] [3, 4, 5, 6, 7] rfl rfl (by decide) (by decide) (by decide) 0 12 rfl rfl rfl trivial (fun u_45 H locs hp_46 _ hP hD hS hz_ hk_ => ?_)
      obtain ⟨y3__43, g_a2__44⟩ := u_45
      replace hP : va_P D vwCl [(m0, .inr (12, [.ref a0, .ref a1, .ref a2, .int (nI y3__43), .int f4, .ref a5, .int (nI 0), .int y7__13, .int y8__14, .int y9__15, .int y10__37, .int (nI y11__16), .int (nI y12__17), .int (nI y13__18), .ref a14, .ref a15, .ref a16, .ref a17, .int y18__38, .int y19__39, .ref a20, .ref a21, .int (nI u22), .ref a23, .ref a24, .ref a25, .int (nI u26), .int f27, .ref a28, .int (nI u29)])), (a0, .inl (κ 0, 21375, .inl w)), (a2, .inl (κ 0, 128214, .inl g_a2__44)), (a5, .inl (κ 0, 800, .inl tp)), (a14, .inl (κ 0, 189, .inl g_a14__19)), (a15, .inl (κ 0, 9, .inl g_a15__20)), (a16, .inl (κ 0, 9, .inl g_a16__21)), (a17, .inl (κ 0, 7123, .inl g_a17__22))] H := hP.sub [5, 6, 7, 0, 1, 2, 3, 4] rfl
      replace hD : va_D A [(m0, .inr (12, [.ref a0, .ref a1, .ref a2, .int (nI y3__43), .int f4, .ref a5, .int (nI 0), .int y7__13, .int y8__14, .int y9__15, .int y10__37, .int (nI y11__16), .int (nI y12__17), .int (nI y13__18), .ref a14, .ref a15, .ref a16, .ref a17, .int y18__38, .int y19__39, .ref a20, .ref a21, .int (nI u22), .ref a23, .ref a24, .ref a25, .int (nI u26), .int f27, .ref a28, .int (nI u29)])), (a0, .inl (κ 0, 21375, .inl w)), (a2, .inl (κ 0, 128214, .inl g_a2__44)), (a5, .inl (κ 0, 800, .inl tp)), (a14, .inl (κ 0, 189, .inl g_a14__19)), (a15, .inl (κ 0, 9, .inl g_a15__20)), (a16, .inl (κ 0, 9, .inl g_a16__21)), (a17, .inl (κ 0, 7123, .inl g_a17__22))] := hD.sub [5, 6, 7, 0, 1, 2, 3, 4] (by decide) rfl
      replace hp_46 : y3__43 ≤ 6 ∧ Pu g_a2__44 := hp_46
      obtain ⟨h_47, h_48⟩ := hp_46
      refine W.eq (g2 := F0 m 40 ls []) rfl ?_
      refine lv_iconst (v := 0) hx hb dX12_read_40 (by decide) ?_
      refine lv_istore_n (lv' := [(2, .int 0), (0, .ref m0), (1, .int (nI j_8))]) hx hb dX12_read_41 rfl hl (by decide) rfl (fun ls hl => ?_)
      refine loop_dn (fun k9 H locs ls => ∃ (k2_42 : Nat), ∃ (ga0_42 : Nat → Int32), (k2_42 ≤ 7123) ∧ (∀ p9 : Nat, p9 < k2_42 → ga0_42 (7123 * j_8 + p9) = g_a17__22 p9) ∧ Pw ga0_42 ∧ Dl dq ga0_42 ∧ 7123 - k2_42 = k9 ∧ va_P D vwCl [(m0, .inr (12, [.ref a0, .ref a1, .ref a2, .int (nI y3__43), .int f4, .ref a5, .int (nI 0), .int y7__13, .int y8__14, .int y9__15, .int y10__37, .int (nI y11__16), .int (nI y12__17), .int (nI y13__18), .ref a14, .ref a15, .ref a16, .ref a17, .int y18__38, .int y19__39, .ref a20, .ref a21, .int (nI u22), .ref a23, .ref a24, .ref a25, .int (nI u26), .int f27, .ref a28, .int (nI u29)])), (a0, .inl (κ 0, 21375, .inl ga0_42)), (a2, .inl (κ 0, 128214, .inl g_a2__44)), (a5, .inl (κ 0, 800, .inl tp)), (a14, .inl (κ 0, 189, .inl g_a14__19)), (a15, .inl (κ 0, 9, .inl g_a15__20)), (a16, .inl (κ 0, 9, .inl g_a16__21)), (a17, .inl (κ 0, 7123, .inl g_a17__22))] H ∧ va_D A [(m0, .inr (12, [.ref a0, .ref a1, .ref a2, .int (nI y3__43), .int f4, .ref a5, .int (nI 0), .int y7__13, .int y8__14, .int y9__15, .int y10__37, .int (nI y11__16), .int (nI y12__17), .int (nI y13__18), .ref a14, .ref a15, .ref a16, .ref a17, .int y18__38, .int y19__39, .ref a20, .ref a21, .int (nI u22), .ref a23, .ref a24, .ref a25, .int (nI u26), .int f27, .ref a28, .int (nI u29)])), (a0, .inl (κ 0, 21375, .inl ga0_42)), (a2, .inl (κ 0, 128214, .inl g_a2__44)), (a5, .inl (κ 0, 800, .inl tp)), (a14, .inl (κ 0, 189, .inl g_a14__19)), (a15, .inl (κ 0, 9, .inl g_a15__20)), (a16, .inl (κ 0, 9, .inl g_a16__21)), (a17, .inl (κ 0, 7123, .inl g_a17__22))] ∧ va_S A s.heap H locs ∧ lv_has ls 3 [(2, .int (nI k2_42)), (0, .ref m0), (1, .int (nI j_8))]) (fun k9 H locs ls hI42 ih42 => ?_) (7123 - 0) _ _ _ ⟨0, w, (by omega), (fun p9 h9 => absurd h9 (by omega)), h_a0, h_dl, rfl, hP, hD, hS, lv_sub hl [0, 1, 2] rfl⟩
      obtain ⟨k2_42, ga0_42, hl42_0, hl42_1, hg42_0, hg42_1, hm42, hP, hD, hS, hl⟩ := hI42
      refine lv_iload_n hx hb dX12_read_42 rfl (lv_at hl 0 rfl) ?_
      refine lv_sipush (v := 7123) hx hb dX12_read_43 (by decide) ?_
      refine lv_icmp_ge (tgt := 71) hx hb dX12_read_46 (by decide) (fun c_49 => ?_) (fun c_49 => ?_)
      · have nc_49 := cv_le (a := 7123) (b := k2_42) (by omega) (by omega) c_49
        refine lv_aload_n hx hb dX12_read_71 rfl (lv_at hl 1 rfl) ?_
        refine lv_iload_n hx hb dX12_read_72 rfl (lv_at hl 2 rfl) ?_
        refine ct_V (wr := [(a2, .inl (κ 0, 128214, .inl g_a2__44)), (a5, .inl (κ 0, 800, .inl tp)), (a14, .inl (κ 0, 189, .inl g_a14__19)), (a15, .inl (κ 0, 9, .inl g_a15__20)), (a16, .inl (κ 0, 9, .inl g_a16__21)), (a17, .inl (κ 0, 7123, .inl g_a17__22))]) (As := [.int (nI j_8)]) (rest := []) hFX hKK hP hD hS hA (d_X12_viewsOff l D κ m0 a0 a1 a2 y3__43 f4 a5 0 y7__13 y8__14 y9__15 y10__37 y11__16 y12__17 y13__18 a14 a15 a16 a17 y18__38 y19__39 a20 a21 u22 a23 a24 a25 u26 f27 a28 u29 ga0_42 j_8 dq hg42_0 hg42_1 (by omega)) 1 gV_X12_77 hdV_X12_viewsOff ⟨Nat.le_of_ble_eq_true rfl, Nat.le_of_ble_eq_true rfl⟩ rfl rfl (Nat.le_of_ble_eq_true rfl) dX12_read_73 ⟨Nat.le_of_ble_eq_true rfl, Nat.le_of_ble_eq_true rfl⟩ hl.1 [0, 1] [2, 3, 4, 5, 6, 7] rfl rfl (by decide) (by decide) (by decide) 0 12 rfl rfl rfl trivial (fun g_a0__50 H locs hp_51 _ hP hD hS hz_ hk_ => ?_)
        replace hP : va_P D vwCl [(m0, .inr (12, [.ref a0, .ref a1, .ref a2, .int (nI y3__43), .int f4, .ref a5, .int (nI 0), .int y7__13, .int y8__14, .int y9__15, .int y10__37, .int (nI y11__16), .int (nI y12__17), .int (nI y13__18), .ref a14, .ref a15, .ref a16, .ref a17, .int y18__38, .int y19__39, .ref a20, .ref a21, .int (nI u22), .ref a23, .ref a24, .ref a25, .int (nI u26), .int f27, .ref a28, .int (nI u29)])), (a0, .inl (κ 0, 21375, .inl g_a0__50)), (a2, .inl (κ 0, 128214, .inl g_a2__44)), (a5, .inl (κ 0, 800, .inl tp)), (a14, .inl (κ 0, 189, .inl g_a14__19)), (a15, .inl (κ 0, 9, .inl g_a15__20)), (a16, .inl (κ 0, 9, .inl g_a16__21)), (a17, .inl (κ 0, 7123, .inl g_a17__22))] H := hP.sub [6, 7, 0, 1, 2, 3, 4, 5] rfl
        replace hD : va_D A [(m0, .inr (12, [.ref a0, .ref a1, .ref a2, .int (nI y3__43), .int f4, .ref a5, .int (nI 0), .int y7__13, .int y8__14, .int y9__15, .int y10__37, .int (nI y11__16), .int (nI y12__17), .int (nI y13__18), .ref a14, .ref a15, .ref a16, .ref a17, .int y18__38, .int y19__39, .ref a20, .ref a21, .int (nI u22), .ref a23, .ref a24, .ref a25, .int (nI u26), .int f27, .ref a28, .int (nI u29)])), (a0, .inl (κ 0, 21375, .inl g_a0__50)), (a2, .inl (κ 0, 128214, .inl g_a2__44)), (a5, .inl (κ 0, 800, .inl tp)), (a14, .inl (κ 0, 189, .inl g_a14__19)), (a15, .inl (κ 0, 9, .inl g_a15__20)), (a16, .inl (κ 0, 9, .inl g_a16__21)), (a17, .inl (κ 0, 7123, .inl g_a17__22))] := hD.sub [6, 7, 0, 1, 2, 3, 4, 5] (by decide) rfl
        replace hp_51 : Pw g_a0__50 ∧ Dl dq g_a0__50 ∧ g_a0__50 (7123 * j_8 + 2) = ga0_42 (7123 * j_8 + 2) := hp_51
        obtain ⟨h_52, h_53, h_54⟩ := hp_51
        refine W.eq (g2 := F0 m 76 ls []) rfl ?_
        have hv2 : g_a0__50 (7123 * j_8 + 2) = nI kk__12 := h_54.trans ((hl42_1 2 (by omega)).trans a_34)
        refine lv_aload_n hx hb dX12_read_76 rfl (lv_at hl 1 rfl) ?_
        refine va_get (D := D) (ci := 12) (v := .ref a0) (C := RX12) (T := TX12) (N := 30) hx hb hts inlX12 hown hK hP 0 rfl rfl 0 (by decide) (hts _ mw_187) (fun _ h9 => h9) rfl dX12_read_77 ?_
        refine lv_iload_n hx hb dX12_read_80 rfl (lv_at hl 2 rfl) ?_
        refine lv_iconst (v := 2) hx hb dX12_read_81 (by decide) ?_
        refine cr_S (As := [.int (nI j_8), .int 2]) (rest := [.ref a0]) hFX hKK (s_X12_at l D κ j_8 2) 2 gS_X12_66 hdS_X12_at rfl rfl ⟨Nat.le_of_ble_eq_true rfl, Nat.le_of_ble_eq_true rfl⟩ rfl rfl (Nat.le_of_ble_eq_true rfl) dX12_read_82 ⟨Nat.le_of_ble_eq_true rfl, Nat.le_of_ble_eq_true rfl⟩ hl.1 (hP.sub [] rfl) (fun _ hp_55 => ?_)
        refine W.eq (g2 := F0 m 85 ls [.int (nI (7123 * j_8 + 2)), .ref a0]) rfl ?_
        refine va_iald hx hb hK hP 1 0 rfl rfl (i := nI (7123 * j_8 + 2)) (vp_in_nI (n := (7123 * j_8 + 2)) (by omega) (by omega)) dX12_read_85 ?_
        refine kv (v := .int (g_a0__50 (7123 * j_8 + 2))) (by rw [nI_clamp (by omega)]) ?_
        refine kv (v := .int (nI kk__12)) (congrArg Value.int hv2) ?_
        exact ct_iret hx hb hr hlk rfl hS hP hD (nI kk__12, y3__43, y7__13, y8__14, y9__15, y10__37, y11__16, y12__17, y13__18, y18__38, y19__39, g_a0__50, g_a2__44, g_a14__19, g_a15__20, g_a16__21, g_a17__22) rfl ⟨(show y3__43 ≤ 6 from (by first | assumption | omega | rfl | exact Or.inl (by assumption) | exact Or.inr (by assumption))), (show PF y8__14 from (by assumption)), (show y12__17 ≤ 8 from (by first | assumption | omega | rfl | exact Or.inl (by assumption) | exact Or.inr (by assumption))), (show y13__18 ≤ 800 from (by first | assumption | omega | rfl | exact Or.inl (by assumption) | exact Or.inr (by assumption))), (show Pw g_a0__50 from (by first | assumption | omega | rfl | exact Or.inl (by assumption) | exact Or.inr (by assumption))), (show Dl dq g_a0__50 from (by first | assumption | omega | rfl | exact Or.inl (by assumption) | exact Or.inr (by assumption))), (show Pu g_a2__44 from (by first | assumption | omega | rfl | exact Or.inl (by assumption) | exact Or.inr (by assumption))), (show Pfd g_a14__19 from (by first | assumption | omega | rfl | exact Or.inl (by assumption) | exact Or.inr (by assumption))), (show Pb 9 800 g_a15__20 from (by first | assumption | omega | rfl | exact Or.inl (by assumption) | exact Or.inr (by assumption))), (show Pb 9 800 g_a16__21 from (by first | assumption | omega | rfl | exact Or.inl (by assumption) | exact Or.inr (by assumption))), (show Pd g_a17__22 from (by first | assumption | omega | rfl | exact Or.inl (by assumption) | exact Or.inr (by assumption))), (show (nI kk__12) = rdF (nI j_8) (tbS tp (dW w) u6 (u6 + 1) 0 0 0) from (rd_t (by omega) a_33))⟩ [0, 1, 2, 3, 4, 5, 6, 7] rfl (by decide) trivial (Nat.le_of_ble_eq_true rfl) (Nat.le_of_ble_eq_true rfl) dX12_read_86
      · have nc_49 := cv_nle (a := 7123) (b := k2_42) (by omega) (by omega) c_49
        refine lv_aload_n hx hb dX12_read_49 rfl (lv_at hl 1 rfl) ?_
        refine va_get (D := D) (ci := 12) (v := .ref a0) (C := RX12) (T := TX12) (N := 30) hx hb hts inlX12 hown hK hP 0 rfl rfl 0 (by decide) (hts _ mw_187) (fun _ h9 => h9) rfl dX12_read_50 ?_
        refine lv_iload_n hx hb dX12_read_53 rfl (lv_at hl 2 rfl) ?_
        refine lv_iload_n hx hb dX12_read_54 rfl (lv_at hl 0 rfl) ?_
        refine cr_S (As := [.int (nI j_8), .int (nI k2_42)]) (rest := [.ref a0]) hFX hKK (s_X12_at l D κ j_8 k2_42) 2 gS_X12_66 hdS_X12_at rfl rfl ⟨Nat.le_of_ble_eq_true rfl, Nat.le_of_ble_eq_true rfl⟩ rfl rfl (Nat.le_of_ble_eq_true rfl) dX12_read_55 ⟨Nat.le_of_ble_eq_true rfl, Nat.le_of_ble_eq_true rfl⟩ hl.1 (hP.sub [] rfl) (fun _ hp_56 => ?_)
        refine W.eq (g2 := F0 m 58 ls [.int (nI (7123 * j_8 + k2_42)), .ref a0]) rfl ?_
        refine lv_aload_n hx hb dX12_read_58 rfl (lv_at hl 1 rfl) ?_
        refine va_get (D := D) (ci := 12) (v := .ref a17) (C := RX12) (T := TX12) (N := 30) hx hb hts inlX12 hown hK hP 0 rfl rfl 17 (by decide) (hts _ mw_197) (fun _ h9 => h9) rfl dX12_read_59 ?_
        refine lv_iload_n hx hb dX12_read_62 rfl (lv_at hl 0 rfl) ?_
        refine va_iald hx hb hK hP 7 0 rfl rfl (i := nI k2_42) (vp_in_nI (n := k2_42) (by omega) (by omega)) dX12_read_63 ?_
        refine kv (v := .int (g_a17__22 k2_42)) (by rw [nI_clamp (by omega)]) ?_
        obtain ⟨x_57, ex_57⟩ : ∃ y9 : Int32, g_a17__22 k2_42 = y9 := ⟨_, rfl⟩
        refine kv (v := .int x_57) (congrArg Value.int ex_57) ?_
        refine va_iast hx hb hK hP hD hS 1 0 rfl rfl (i := nI (7123 * j_8 + k2_42)) (x := x_57) (vp_in_nI (n := (7123 * j_8 + k2_42)) (by omega) (by omega)) dX12_read_64 (fun H locs hP hD hS => ?_)
        rw [nI_clamp (by omega)] at hP hD
        have hP : va_P D vwCl [(m0, .inr (12, [.ref a0, .ref a1, .ref a2, .int (nI y3__43), .int f4, .ref a5, .int (nI 0), .int y7__13, .int y8__14, .int y9__15, .int y10__37, .int (nI y11__16), .int (nI y12__17), .int (nI y13__18), .ref a14, .ref a15, .ref a16, .ref a17, .int y18__38, .int y19__39, .ref a20, .ref a21, .int (nI u22), .ref a23, .ref a24, .ref a25, .int (nI u26), .int f27, .ref a28, .int (nI u29)])), (a0, .inl (κ 0, 21375, .inl (upd ga0_42 (7123 * j_8 + k2_42) x_57))), (a2, .inl (κ 0, 128214, .inl g_a2__44)), (a5, .inl (κ 0, 800, .inl tp)), (a14, .inl (κ 0, 189, .inl g_a14__19)), (a15, .inl (κ 0, 9, .inl g_a15__20)), (a16, .inl (κ 0, 9, .inl g_a16__21)), (a17, .inl (κ 0, 7123, .inl g_a17__22))] H := hP
        have hD : va_D A [(m0, .inr (12, [.ref a0, .ref a1, .ref a2, .int (nI y3__43), .int f4, .ref a5, .int (nI 0), .int y7__13, .int y8__14, .int y9__15, .int y10__37, .int (nI y11__16), .int (nI y12__17), .int (nI y13__18), .ref a14, .ref a15, .ref a16, .ref a17, .int y18__38, .int y19__39, .ref a20, .ref a21, .int (nI u22), .ref a23, .ref a24, .ref a25, .int (nI u26), .int f27, .ref a28, .int (nI u29)])), (a0, .inl (κ 0, 21375, .inl (upd ga0_42 (7123 * j_8 + k2_42) x_57))), (a2, .inl (κ 0, 128214, .inl g_a2__44)), (a5, .inl (κ 0, 800, .inl tp)), (a14, .inl (κ 0, 189, .inl g_a14__19)), (a15, .inl (κ 0, 9, .inl g_a15__20)), (a16, .inl (κ 0, 9, .inl g_a16__21)), (a17, .inl (κ 0, 7123, .inl g_a17__22))] := hD
        have hf_59 : Pw (upd ga0_42 (7123 * j_8 + k2_42) x_57) := (Pw_draftE hg42_0 h_31 ex_57 (t := j_8) (by omega) (by omega))
        have hf_60 : Dl dq (upd ga0_42 (7123 * j_8 + k2_42) x_57) := (Dl_upd hg42_1 (by omega))
        have hq : ∀ p9 : Nat, p9 < k2_42 + 1 → (upd ga0_42 (7123 * j_8 + k2_42) x_57) (7123 * j_8 + p9) = g_a17__22 p9 := (dr_put ex_57 hl42_1)
        generalize upd ga0_42 (7123 * j_8 + k2_42) x_57 = g_58 at hP hD hf_59 hf_60 hq
        refine lv_iinc (v := (nI (k2_42 + 1))) (lv' := [(2, .int (nI (k2_42 + 1))), (0, .ref m0), (1, .int (nI j_8))]) hx hb dX12_read_65 hl (k := 0) rfl (nI_i k2_42) (by decide) rfl (fun ls hl => ?_)
        refine lv_goto (tgt := 42) hx hb dX12_read_68 (by decide) ?_
        exact ih42 _ _ _ _ (by omega) ⟨(k2_42 + 1), g_58, (by omega), hq, hf_59, hf_60, rfl, hP, hD, hS, lv_sub hl [0, 1, 2] rfl⟩
    · refine W.eq (g2 := F0 m 28 ls [.int 0, .ref m0]) rfl ?_
      refine ct_V (wr := [(a0, .inl (κ 0, 21375, .inl w)), (a2, .inl (κ 0, 128214, .inl un)), (a14, .inl (κ 0, 189, .inl g_a14__19)), (a15, .inl (κ 0, 9, .inl g_a15__20)), (a16, .inl (κ 0, 9, .inl g_a16__21)), (a17, .inl (κ 0, 7123, .inl g_a17__22))]) (As := [.int 0]) (rest := []) hFX hKK hP hD hS hA (s_X12_endsReading l D κ m0 a0 a1 a2 u3 f4 a5 u6 y7__13 y8__14 y9__15 f10 y11__16 y12__17 y13__18 a14 a15 a16 a17 f18 f19 a20 a21 u22 a23 a24 a25 u26 f27 a28 u29 tp 0 (by assumption) (by decide)) 1 gV_X12_292 hdV_X12_endsReading ⟨Nat.le_of_ble_eq_true rfl, Nat.le_of_ble_eq_true rfl⟩ rfl rfl (Nat.le_of_ble_eq_true rfl) dX12_read_28 ⟨Nat.le_of_ble_eq_true rfl, Nat.le_of_ble_eq_true rfl⟩ hl.1 [0, 3] [1, 2, 4, 5, 6, 7] rfl rfl (by decide) (by decide) (by decide) 0 12 rfl rfl rfl trivial (fun u_64 H locs hp_65 _ hP hD hS hz_ hk_ => ?_)
      obtain ⟨y10__61, y18__62, y19__63⟩ := u_64
      replace hP : va_P D vwCl [(m0, .inr (12, [.ref a0, .ref a1, .ref a2, .int (nI u3), .int f4, .ref a5, .int 0, .int y7__13, .int y8__14, .int y9__15, .int y10__61, .int (nI y11__16), .int (nI y12__17), .int (nI y13__18), .ref a14, .ref a15, .ref a16, .ref a17, .int y18__62, .int y19__63, .ref a20, .ref a21, .int (nI u22), .ref a23, .ref a24, .ref a25, .int (nI u26), .int f27, .ref a28, .int (nI u29)])), (a0, .inl (κ 0, 21375, .inl w)), (a2, .inl (κ 0, 128214, .inl un)), (a5, .inl (κ 0, 800, .inl tp)), (a14, .inl (κ 0, 189, .inl g_a14__19)), (a15, .inl (κ 0, 9, .inl g_a15__20)), (a16, .inl (κ 0, 9, .inl g_a16__21)), (a17, .inl (κ 0, 7123, .inl g_a17__22))] H := hP.sub [6, 0, 1, 7, 2, 3, 4, 5] rfl
      replace hD : va_D A [(m0, .inr (12, [.ref a0, .ref a1, .ref a2, .int (nI u3), .int f4, .ref a5, .int 0, .int y7__13, .int y8__14, .int y9__15, .int y10__61, .int (nI y11__16), .int (nI y12__17), .int (nI y13__18), .ref a14, .ref a15, .ref a16, .ref a17, .int y18__62, .int y19__63, .ref a20, .ref a21, .int (nI u22), .ref a23, .ref a24, .ref a25, .int (nI u26), .int f27, .ref a28, .int (nI u29)])), (a0, .inl (κ 0, 21375, .inl w)), (a2, .inl (κ 0, 128214, .inl un)), (a5, .inl (κ 0, 800, .inl tp)), (a14, .inl (κ 0, 189, .inl g_a14__19)), (a15, .inl (κ 0, 9, .inl g_a15__20)), (a16, .inl (κ 0, 9, .inl g_a16__21)), (a17, .inl (κ 0, 7123, .inl g_a17__22))] := hD.sub [6, 0, 1, 7, 2, 3, 4, 5] (by decide) rfl
      refine W.eq (g2 := F0 m 31 ls [.int 0]) rfl ?_
      refine lv_if_ne (tgt := 36) hx hb dX12_read_31 (by decide) (fun c_66 => absurd c_66 (by decide)) (fun c_66 => ?_)
      refine lv_iconst (v := (-1)) hx hb dX12_read_34 (by decide) ?_
      exact ct_iret hx hb hr hlk rfl hS hP hD ((-1), u3, y7__13, y8__14, y9__15, y10__61, y11__16, y12__17, y13__18, y18__62, y19__63, w, un, g_a14__19, g_a15__20, g_a16__21, g_a17__22) rfl ⟨(show u3 ≤ 6 from (by first | assumption | omega | rfl | exact Or.inl (by assumption) | exact Or.inr (by assumption))), (show PF y8__14 from (by assumption)), (show y12__17 ≤ 8 from (by first | assumption | omega | rfl | exact Or.inl (by assumption) | exact Or.inr (by assumption))), (show y13__18 ≤ 800 from (by first | assumption | omega | rfl | exact Or.inl (by assumption) | exact Or.inr (by assumption))), (show Pw w from (by first | assumption | omega | rfl | exact Or.inl (by assumption) | exact Or.inr (by assumption))), (show Dl dq w from (by first | assumption | omega | rfl | exact Or.inl (by assumption) | exact Or.inr (by assumption))), (show Pu un from (by first | assumption | omega | rfl | exact Or.inl (by assumption) | exact Or.inr (by assumption))), (show Pfd g_a14__19 from (by first | assumption | omega | rfl | exact Or.inl (by assumption) | exact Or.inr (by assumption))), (show Pb 9 800 g_a15__20 from (by first | assumption | omega | rfl | exact Or.inl (by assumption) | exact Or.inr (by assumption))), (show Pb 9 800 g_a16__21 from (by first | assumption | omega | rfl | exact Or.inl (by assumption) | exact Or.inr (by assumption))), (show Pd g_a17__22 from (by first | assumption | omega | rfl | exact Or.inl (by assumption) | exact Or.inr (by assumption))), (show (-1 : Int32) = rdF (nI j_8) (tbS tp (dW w) u6 (u6 + 1) 0 0 0) from (rd_f (by omega) a_36))⟩ [0, 1, 2, 3, 4, 5, 6, 7] rfl (by decide) trivial (Nat.le_of_ble_eq_true rfl) (Nat.le_of_ble_eq_true rfl) dX12_read_35
  · refine W.eq (g2 := F0 m 9 ls [.int 0]) rfl ?_
    have hin_67 : za.toInt < (0 : Int) ∨ (2 : Int) < za.toInt := l_out (l_of rfl) (by decide) (by decide) a_6
    refine lv_if_ne (tgt := 19) hx hb dX12_read_9 (by decide) (fun c_68 => absurd c_68 (by decide)) (fun c_68 => ?_)
    refine lv_aload_n hx hb dX12_read_12 rfl (lv_at hl 0 rfl) ?_
    refine lv_iconst (v := 0) hx hb dX12_read_13 (by decide) ?_
    refine va_put (D := D) (ci := 12) (v := .int 0) (ty := tyX12 6) (C := RX12) (T := TX12) (N := 30) hx hb hts inlX12 tyX12 tyX12_ok nmX12 hown hK hP hD hS 0 rfl rfl 6 (by decide) (hts _ mw_236) (fun _ h9 => h9) rfl (tyX12_ok 6 (by decide)) rfl rfl (Nat.le_of_ble_eq_true rfl) dX12_read_14 (fun H locs hP hD hS => ?_)
    have hP : va_P D vwCl [(m0, .inr (12, [.ref a0, .ref a1, .ref a2, .int (nI u3), .int f4, .ref a5, .int 0, .int f7, .int f8, .int f9, .int f10, .int (nI u11), .int (nI u12), .int (nI u13), .ref a14, .ref a15, .ref a16, .ref a17, .int f18, .int f19, .ref a20, .ref a21, .int (nI u22), .ref a23, .ref a24, .ref a25, .int (nI u26), .int f27, .ref a28, .int (nI u29)])), (a0, .inl (κ 0, 21375, .inl w)), (a2, .inl (κ 0, 128214, .inl un)), (a5, .inl (κ 0, 800, .inl tp)), (a14, .inl (κ 0, 189, .inl fd)), (a15, .inl (κ 0, 9, .inl fa)), (a16, .inl (κ 0, 9, .inl pt)), (a17, .inl (κ 0, 7123, .inl dr))] H := hP
    have hD : va_D A [(m0, .inr (12, [.ref a0, .ref a1, .ref a2, .int (nI u3), .int f4, .ref a5, .int 0, .int f7, .int f8, .int f9, .int f10, .int (nI u11), .int (nI u12), .int (nI u13), .ref a14, .ref a15, .ref a16, .ref a17, .int f18, .int f19, .ref a20, .ref a21, .int (nI u22), .ref a23, .ref a24, .ref a25, .int (nI u26), .int f27, .ref a28, .int (nI u29)])), (a0, .inl (κ 0, 21375, .inl w)), (a2, .inl (κ 0, 128214, .inl un)), (a5, .inl (κ 0, 800, .inl tp)), (a14, .inl (κ 0, 189, .inl fd)), (a15, .inl (κ 0, 9, .inl fa)), (a16, .inl (κ 0, 9, .inl pt)), (a17, .inl (κ 0, 7123, .inl dr))] := hD
    refine lv_iconst (v := (-1)) hx hb dX12_read_17 (by decide) ?_
    exact ct_iret hx hb hr hlk rfl hS hP hD ((-1), u3, f7, f8, f9, f10, u11, u12, u13, f18, f19, w, un, fd, fa, pt, dr) rfl ⟨(show u3 ≤ 6 from (by first | assumption | omega | rfl | exact Or.inl (by assumption) | exact Or.inr (by assumption))), (show PF f8 from (by assumption)), (show u12 ≤ 8 from (by first | assumption | omega | rfl | exact Or.inl (by assumption) | exact Or.inr (by assumption))), (show u13 ≤ 800 from (by first | assumption | omega | rfl | exact Or.inl (by assumption) | exact Or.inr (by assumption))), (show Pw w from (by first | assumption | omega | rfl | exact Or.inl (by assumption) | exact Or.inr (by assumption))), (show Dl dq w from (by first | assumption | omega | rfl | exact Or.inl (by assumption) | exact Or.inr (by assumption))), (show Pu un from (by first | assumption | omega | rfl | exact Or.inl (by assumption) | exact Or.inr (by assumption))), (show Pfd fd from (by first | assumption | omega | rfl | exact Or.inl (by assumption) | exact Or.inr (by assumption))), (show Pb 9 800 fa from (by first | assumption | omega | rfl | exact Or.inl (by assumption) | exact Or.inr (by assumption))), (show Pb 9 800 pt from (by first | assumption | omega | rfl | exact Or.inl (by assumption) | exact Or.inr (by assumption))), (show Pd dr from (by first | assumption | omega | rfl | exact Or.inl (by assumption) | exact Or.inr (by assumption))), (show (-1 : Int32) = rdF za (tbS tp (dW w) u6 (u6 + 1) 0 0 0) from (rd_n (by omega)))⟩ [0, 1, 2, 3, 4, 5, 6, 7] rfl (by decide) trivial (Nat.le_of_ble_eq_true rfl) (Nat.le_of_ble_eq_true rfl) dX12_read_18
set_option maxHeartbeats 4000000 in
set_option maxRecDepth 100000 in
theorem d_X12_putsRow_w (l : Launch) (D : va_G) (κ : Nat → ClassId) (m0 : Nat) (a0 : Nat) (a1 : Nat) (a2 : Nat) (u3 : Nat) (f4 : Int32) (a5 : Nat) (u6 : Nat) (f7 : Int32) (f8 : Int32) (f9 : Int32) (f10 : Int32) (u11 : Nat) (u12 : Nat) (u13 : Nat) (a14 : Nat) (a15 : Nat) (a16 : Nat) (a17 : Nat) (f18 : Int32) (f19 : Int32) (a20 : Nat) (a21 : Nat) (u22 : Nat) (a23 : Nat) (a24 : Nat) (a25 : Nat) (u26 : Nat) (f27 : Int32) (a28 : Nat) (u29 : Nat) (w : Nat → Int32) (fd : Nat → Int32) (pl : Nat) (n : Nat) (t : Nat) (dq : Nat → Int32) (h_a0 : Pw w) (h_a14 : Pfd fd) (h_dl : Dl dq w) (hn : n ≤ 8) (ht : t < 3) (hb1 : 7123 * t + 403 ≤ pl) (hb2 : pl ≤ 7123 * t + 6955) (hb3 : (pl - (7123 * t + 403)) % 168 = 0) : Ct l yX12_putsRow (wl yX12_putsRow cX12_putsRow 6 none) { frames := 0, cells := 0, slots := 0, locals := 0 } D κ [.ref m0, .ref a0, .int (nI pl), .int (nI n)] [(m0, .inr (12, [.ref a0, .ref a1, .ref a2, .int (nI u3), .int f4, .ref a5, .int (nI u6), .int f7, .int f8, .int f9, .int f10, .int (nI u11), .int (nI u12), .int (nI u13), .ref a14, .ref a15, .ref a16, .ref a17, .int f18, .int f19, .ref a20, .ref a21, .int (nI u22), .ref a23, .ref a24, .ref a25, .int (nI u26), .int f27, .ref a28, .int (nI u29)])), (a0, .inl (κ 0, 21375, .inl w)), (a14, .inl (κ 0, 189, .inl fd))] (fun _ => True) (fun g_a0 : (Nat → Int32) => none) (fun g_a0 : (Nat → Int32) => Pw g_a0 ∧ Dl dq g_a0 ∧ (∀ i : Nat, i < 4 → g_a0 (7123 * t + i) = w (7123 * t + i))) (fun g_a0 : (Nat → Int32) => [(m0, .inr (12, [.ref a0, .ref a1, .ref a2, .int (nI u3), .int f4, .ref a5, .int (nI u6), .int f7, .int f8, .int f9, .int f10, .int (nI u11), .int (nI u12), .int (nI u13), .ref a14, .ref a15, .ref a16, .ref a17, .int f18, .int f19, .ref a20, .ref a21, .int (nI u22), .ref a23, .ref a24, .ref a25, .int (nI u26), .int f27, .ref a28, .int (nI u29)])), (a0, .inl (κ 0, 21375, .inl g_a0)), (a14, .inl (κ 0, 189, .inl fd))]) (fun _ _ => True) := by
  refine ct_of (by decide +kernel) (Nat.le_of_ble_eq_true rfl) ?_
  intro p e s m args below meth c A ls hx hb hr hml hts hown hlk hin hKK hK hA hP hD hS hI hl
  have hS : va_S A s.heap s.heap [] := hS
  have hFX : FX p s m args c cX12_putsRow 6 RX12 := ⟨hx, hb, hml, hown, hts⟩
  have hl : lv_has ls 6 [(0, .ref m0), (1, .ref a0), (2, .int (nI pl)), (3, .int (nI n))] := hl
  refine lv_iconst (v := 0) hx hb dX12_putsRow_0 (by decide) ?_
  refine lv_istore (lv' := [(4, .int 0), (0, .ref m0), (1, .ref a0), (2, .int (nI pl)), (3, .int (nI n))]) hx hb dX12_putsRow_1 hl (by decide) rfl (fun ls hl => ?_)
  refine loop_dn (fun k9 H locs ls => ∃ (k4_3 : Nat), ∃ (ga0_3 : Nat → Int32), (k4_3 ≤ n) ∧ (∀ i : Nat, i < 4 → ga0_3 (7123 * t + i) = w (7123 * t + i)) ∧ Pw ga0_3 ∧ Dl dq ga0_3 ∧ n - k4_3 = k9 ∧ va_P D vwCl [(m0, .inr (12, [.ref a0, .ref a1, .ref a2, .int (nI u3), .int f4, .ref a5, .int (nI u6), .int f7, .int f8, .int f9, .int f10, .int (nI u11), .int (nI u12), .int (nI u13), .ref a14, .ref a15, .ref a16, .ref a17, .int f18, .int f19, .ref a20, .ref a21, .int (nI u22), .ref a23, .ref a24, .ref a25, .int (nI u26), .int f27, .ref a28, .int (nI u29)])), (a0, .inl (κ 0, 21375, .inl ga0_3)), (a14, .inl (κ 0, 189, .inl fd))] H ∧ va_D A [(m0, .inr (12, [.ref a0, .ref a1, .ref a2, .int (nI u3), .int f4, .ref a5, .int (nI u6), .int f7, .int f8, .int f9, .int f10, .int (nI u11), .int (nI u12), .int (nI u13), .ref a14, .ref a15, .ref a16, .ref a17, .int f18, .int f19, .ref a20, .ref a21, .int (nI u22), .ref a23, .ref a24, .ref a25, .int (nI u26), .int f27, .ref a28, .int (nI u29)])), (a0, .inl (κ 0, 21375, .inl ga0_3)), (a14, .inl (κ 0, 189, .inl fd))] ∧ va_S A s.heap H locs ∧ lv_has ls 6 [(4, .int (nI k4_3)), (0, .ref m0), (1, .ref a0), (2, .int (nI pl)), (3, .int (nI n))]) (fun k9 H locs ls hI3 ih3 => ?_) (n - 0) _ _ _ ⟨0, w, (by omega), (fun _ _ => rfl), h_a0, h_dl, rfl, hP, hD, hS, lv_sub hl [0, 1, 2, 3, 4] rfl⟩
  obtain ⟨k4_3, ga0_3, hl3_0, hl3_1, hg3_0, hg3_1, hm3, hP, hD, hS, hl⟩ := hI3
  refine lv_iload hx hb dX12_putsRow_3 (lv_at hl 0 rfl) ?_
  refine lv_iload_n hx hb dX12_putsRow_5 rfl (lv_at hl 4 rfl) ?_
  refine lv_icmp_ge (tgt := 64) hx hb dX12_putsRow_6 (by decide) (fun c_1 => ?_) (fun c_1 => ?_)
  · have nc_1 := cv_le (a := n) (b := k4_3) (by omega) (by omega) c_1
    exact ct_vret hx hb hr hlk hS hP hD ga0_3 rfl ⟨(show Pw ga0_3 from (by first | assumption | omega | rfl | exact Or.inl (by assumption) | exact Or.inr (by assumption))), (show Dl dq ga0_3 from (by first | assumption | omega | rfl | exact Or.inl (by assumption) | exact Or.inr (by assumption))), (show ∀ i : Nat, i < 4 → ga0_3 (7123 * t + i) = w (7123 * t + i) from (by first | assumption | omega | rfl | exact Or.inl (by assumption) | exact Or.inr (by assumption)))⟩ [0, 1, 2] rfl (by decide) trivial (Nat.le_of_ble_eq_true rfl) (Nat.le_of_ble_eq_true rfl) dX12_putsRow_64
  · have nc_1 := cv_nle (a := n) (b := k4_3) (by omega) (by omega) c_1
    refine lv_iconst (v := 0) hx hb dX12_putsRow_9 (by decide) ?_
    refine lv_istore (lv' := [(5, .int 0), (4, .int (nI k4_3)), (0, .ref m0), (1, .ref a0), (2, .int (nI pl)), (3, .int (nI n))]) hx hb dX12_putsRow_10 hl (by decide) rfl (fun ls hl => ?_)
    refine loop_dn (fun k9 H locs ls => ∃ (k5_12 : Nat), ∃ (ga0_12 : Nat → Int32), (k5_12 ≤ 21) ∧ (∀ i : Nat, i < 4 → ga0_12 (7123 * t + i) = w (7123 * t + i)) ∧ Pw ga0_12 ∧ Dl dq ga0_12 ∧ 21 - k5_12 = k9 ∧ va_P D vwCl [(m0, .inr (12, [.ref a0, .ref a1, .ref a2, .int (nI u3), .int f4, .ref a5, .int (nI u6), .int f7, .int f8, .int f9, .int f10, .int (nI u11), .int (nI u12), .int (nI u13), .ref a14, .ref a15, .ref a16, .ref a17, .int f18, .int f19, .ref a20, .ref a21, .int (nI u22), .ref a23, .ref a24, .ref a25, .int (nI u26), .int f27, .ref a28, .int (nI u29)])), (a0, .inl (κ 0, 21375, .inl ga0_12)), (a14, .inl (κ 0, 189, .inl fd))] H ∧ va_D A [(m0, .inr (12, [.ref a0, .ref a1, .ref a2, .int (nI u3), .int f4, .ref a5, .int (nI u6), .int f7, .int f8, .int f9, .int f10, .int (nI u11), .int (nI u12), .int (nI u13), .ref a14, .ref a15, .ref a16, .ref a17, .int f18, .int f19, .ref a20, .ref a21, .int (nI u22), .ref a23, .ref a24, .ref a25, .int (nI u26), .int f27, .ref a28, .int (nI u29)])), (a0, .inl (κ 0, 21375, .inl ga0_12)), (a14, .inl (κ 0, 189, .inl fd))] ∧ va_S A s.heap H locs ∧ lv_has ls 6 [(5, .int (nI k5_12)), (4, .int (nI k4_3)), (0, .ref m0), (1, .ref a0), (2, .int (nI pl)), (3, .int (nI n))]) (fun k9 H locs ls hI12 ih12 => ?_) (21 - 0) _ _ _ ⟨0, ga0_3, (by omega), hl3_1, hg3_0, hg3_1, rfl, hP, hD, hS, lv_sub hl [0, 1, 2, 3, 4, 5] rfl⟩
    obtain ⟨k5_12, ga0_12, hl12_0, hl12_1, hg12_0, hg12_1, hm12, hP, hD, hS, hl⟩ := hI12
    refine lv_iload hx hb dX12_putsRow_12 (lv_at hl 0 rfl) ?_
    refine lv_aload_n hx hb dX12_putsRow_14 rfl (lv_at hl 2 rfl) ?_
    refine va_get (D := D) (ci := 12) (v := .ref a14) (C := RX12) (T := TX12) (N := 30) hx hb hts inlX12 hown hK hP 0 rfl rfl 14 (by decide) (hts _ mw_194) (fun _ h9 => h9) rfl dX12_putsRow_15 ?_
    refine lv_bipush (v := 21) hx hb dX12_putsRow_18 (by decide) ?_
    refine lv_iload hx hb dX12_putsRow_20 (lv_at hl 1 rfl) ?_
    refine lv_imul hx hb dX12_putsRow_22 ?_
    refine ki (v := (nI (21 * k4_3))) (pk_mul 21 k4_3) ?_
    refine va_iald hx hb hK hP 2 0 rfl rfl (i := nI (21 * k4_3)) (vp_in_nI (n := (21 * k4_3)) (by omega) (by omega)) dX12_putsRow_23 ?_
    refine kv (v := .int (fd (21 * k4_3))) (by rw [nI_clamp (by omega)]) ?_
    obtain ⟨n_2, hn_2, en_2⟩ : ∃ n9 : Nat, n9 ≤ 20 ∧ fd (21 * k4_3) = nI n9 := id ((pfd h_a14 (c := k4_3) (by omega) (by omega)))
    refine kv (v := .int (nI n_2)) (congrArg Value.int en_2) ?_
    refine lv_icmp_gt (tgt := 58) hx hb dX12_putsRow_24 (by decide) (fun c_3 => ?_) (fun c_3 => ?_)
    · have nc_3 := cv_lt (a := n_2) (b := k5_12) (by omega) (by omega) c_3
      refine lv_iinc (v := (nI (k4_3 + 1))) (lv' := [(4, .int (nI (k4_3 + 1))), (5, .int (nI k5_12)), (0, .ref m0), (1, .ref a0), (2, .int (nI pl)), (3, .int (nI n))]) hx hb dX12_putsRow_58 hl (k := 1) rfl (nI_i k4_3) (by decide) rfl (fun ls hl => ?_)
      refine lv_goto (tgt := 3) hx hb dX12_putsRow_61 (by decide) ?_
      exact ih3 _ _ _ _ (by omega) ⟨(k4_3 + 1), ga0_12, (by omega), hl12_1, hg12_0, hg12_1, rfl, hP, hD, hS, lv_sub hl [0, 2, 3, 4, 5] rfl⟩
    · have nc_3 := cv_nlt (a := n_2) (b := k5_12) (by omega) (by omega) c_3
      refine lv_aload_n hx hb dX12_putsRow_27 rfl (lv_at hl 3 rfl) ?_
      refine lv_iload_n hx hb dX12_putsRow_28 rfl (lv_at hl 4 rfl) ?_
      refine lv_bipush (v := 21) hx hb dX12_putsRow_29 (by decide) ?_
      refine lv_iload hx hb dX12_putsRow_31 (lv_at hl 1 rfl) ?_
      refine lv_imul hx hb dX12_putsRow_33 ?_
      refine ki (v := (nI (21 * k4_3))) (pk_mul 21 k4_3) ?_
      refine lv_iadd hx hb dX12_putsRow_34 ?_
      refine ki (v := (nI (pl + (21 * k4_3)))) (nI_add pl (21 * k4_3)) ?_
      refine lv_iload hx hb dX12_putsRow_35 (lv_at hl 0 rfl) ?_
      refine lv_iadd hx hb dX12_putsRow_37 ?_
      refine ki (v := (nI (pl + (21 * k4_3) + k5_12))) (nI_add (pl + (21 * k4_3)) k5_12) ?_
      refine lv_aload_n hx hb dX12_putsRow_38 rfl (lv_at hl 2 rfl) ?_
      refine va_get (D := D) (ci := 12) (v := .ref a14) (C := RX12) (T := TX12) (N := 30) hx hb hts inlX12 hown hK hP 0 rfl rfl 14 (by decide) (hts _ mw_194) (fun _ h9 => h9) rfl dX12_putsRow_39 ?_
      refine lv_bipush (v := 21) hx hb dX12_putsRow_42 (by decide) ?_
      refine lv_iload hx hb dX12_putsRow_44 (lv_at hl 1 rfl) ?_
      refine lv_imul hx hb dX12_putsRow_46 ?_
      refine ki (v := (nI (21 * k4_3))) (pk_mul 21 k4_3) ?_
      refine lv_iload hx hb dX12_putsRow_47 (lv_at hl 0 rfl) ?_
      refine lv_iadd hx hb dX12_putsRow_49 ?_
      refine ki (v := (nI (21 * k4_3 + k5_12))) (nI_add (21 * k4_3) k5_12) ?_
      refine va_iald hx hb hK hP 2 0 rfl rfl (i := nI (21 * k4_3 + k5_12)) (vp_in_nI (n := (21 * k4_3 + k5_12)) (by omega) (by omega)) dX12_putsRow_50 ?_
      refine kv (v := .int (fd (21 * k4_3 + k5_12))) (by rw [nI_clamp (by omega)]) ?_
      obtain ⟨x_4, ex_4⟩ : ∃ y9 : Int32, fd (21 * k4_3 + k5_12) = y9 := ⟨_, rfl⟩
      refine kv (v := .int x_4) (congrArg Value.int ex_4) ?_
      refine va_iast hx hb hK hP hD hS 1 0 rfl rfl (i := nI (pl + (21 * k4_3) + k5_12)) (x := x_4) (vp_in_nI (n := (pl + (21 * k4_3) + k5_12)) (by omega) (by omega)) dX12_putsRow_51 (fun H locs hP hD hS => ?_)
      rw [nI_clamp (by omega)] at hP hD
      have hP : va_P D vwCl [(m0, .inr (12, [.ref a0, .ref a1, .ref a2, .int (nI u3), .int f4, .ref a5, .int (nI u6), .int f7, .int f8, .int f9, .int f10, .int (nI u11), .int (nI u12), .int (nI u13), .ref a14, .ref a15, .ref a16, .ref a17, .int f18, .int f19, .ref a20, .ref a21, .int (nI u22), .ref a23, .ref a24, .ref a25, .int (nI u26), .int f27, .ref a28, .int (nI u29)])), (a0, .inl (κ 0, 21375, .inl (upd ga0_12 (pl + (21 * k4_3) + k5_12) x_4))), (a14, .inl (κ 0, 189, .inl fd))] H := hP
      have hD : va_D A [(m0, .inr (12, [.ref a0, .ref a1, .ref a2, .int (nI u3), .int f4, .ref a5, .int (nI u6), .int f7, .int f8, .int f9, .int f10, .int (nI u11), .int (nI u12), .int (nI u13), .ref a14, .ref a15, .ref a16, .ref a17, .int f18, .int f19, .ref a20, .ref a21, .int (nI u22), .ref a23, .ref a24, .ref a25, .int (nI u26), .int f27, .ref a28, .int (nI u29)])), (a0, .inl (κ 0, 21375, .inl (upd ga0_12 (pl + (21 * k4_3) + k5_12) x_4))), (a14, .inl (κ 0, 189, .inl fd))] := hD
      have hf_6 : Pw (upd ga0_12 (pl + (21 * k4_3) + k5_12) x_4) := (Pw_cell hg12_0 (t := t) (i := (pl - (7123 * t + 403)) / 21 + k4_3) (k := k5_12) (by omega) (by omega) (by omega) (by omega) (head_val ex_4 (h_a14 k4_3 (by omega))))
      have hf_7 : Dl dq (upd ga0_12 (pl + (21 * k4_3) + k5_12) x_4) := (Dl_upd hg12_1 (by omega))
      have hq : ∀ i : Nat, i < 4 → (upd ga0_12 (pl + (21 * k4_3) + k5_12) x_4) (7123 * t + i) = w (7123 * t + i) := (fun i9 h9 => (pk_un (by omega)).trans (hl12_1 i9 h9))
      generalize upd ga0_12 (pl + (21 * k4_3) + k5_12) x_4 = g_5 at hP hD hf_6 hf_7 hq
      refine lv_iinc (v := (nI (k5_12 + 1))) (lv' := [(5, .int (nI (k5_12 + 1))), (4, .int (nI k4_3)), (0, .ref m0), (1, .ref a0), (2, .int (nI pl)), (3, .int (nI n))]) hx hb dX12_putsRow_52 hl (k := 0) rfl (nI_i k5_12) (by decide) rfl (fun ls hl => ?_)
      refine lv_goto (tgt := 12) hx hb dX12_putsRow_55 (by decide) ?_
      exact ih12 _ _ _ _ (by omega) ⟨(k5_12 + 1), g_5, (by omega), hq, hf_6, hf_7, rfl, hP, hD, hS, lv_sub hl [0, 1, 2, 3, 4, 5] rfl⟩
set_option maxHeartbeats 4000000 in
set_option maxRecDepth 100000 in
theorem d_X12_undo (l : Launch) (D : va_G) (κ : Nat → ClassId) (m0 : Nat) (a0 : Nat) (a1 : Nat) (a2 : Nat) (u3 : Nat) (f4 : Int32) (a5 : Nat) (u6 : Nat) (f7 : Int32) (f8 : Int32) (f9 : Int32) (f10 : Int32) (u11 : Nat) (u12 : Nat) (u13 : Nat) (a14 : Nat) (a15 : Nat) (a16 : Nat) (a17 : Nat) (f18 : Int32) (f19 : Int32) (a20 : Nat) (a21 : Nat) (u22 : Nat) (a23 : Nat) (a24 : Nat) (a25 : Nat) (u26 : Nat) (f27 : Int32) (a28 : Nat) (u29 : Nat) (w : Nat → Int32) (un : Nat → Int32) (dq : Nat → Int32) (h3 : u3 ≤ 6) (h_a0 : Pw w) (h_a2 : Pu un) (h_dl : Dl dq w) : Ct l yX12_undo (wl yX12_undo cX12_undo 2 (some .int)) { frames := 2, cells := 0, slots := 0, locals := 43 } D κ [.ref m0] [(m0, .inr (12, [.ref a0, .ref a1, .ref a2, .int (nI u3), .int f4, .ref a5, .int (nI u6), .int f7, .int f8, .int f9, .int f10, .int (nI u11), .int (nI u12), .int (nI u13), .ref a14, .ref a15, .ref a16, .ref a17, .int f18, .int f19, .ref a20, .ref a21, .int (nI u22), .ref a23, .ref a24, .ref a25, .int (nI u26), .int f27, .ref a28, .int (nI u29)])), (a0, .inl (κ 0, 21375, .inl w)), (a2, .inl (κ 0, 128214, .inl un))] (fun _ => True) (fun u9 : Int32 × Nat × (Nat → Int32) => some (.int u9.1)) (fun u9 : Int32 × Nat × (Nat → Int32) => u9.2.1 ≤ 6 ∧ Pw u9.2.2 ∧ Dl dq u9.2.2) (fun u9 : Int32 × Nat × (Nat → Int32) => [(m0, .inr (12, [.ref a0, .ref a1, .ref a2, .int (nI u9.2.1), .int f4, .ref a5, .int (nI u6), .int f7, .int f8, .int f9, .int f10, .int (nI u11), .int (nI u12), .int (nI u13), .ref a14, .ref a15, .ref a16, .ref a17, .int f18, .int f19, .ref a20, .ref a21, .int (nI u22), .ref a23, .ref a24, .ref a25, .int (nI u26), .int f27, .ref a28, .int (nI u29)])), (a0, .inl (κ 0, 21375, .inl u9.2.2)), (a2, .inl (κ 0, 128214, .inl un))]) (fun _ _ => True) := by
  refine ct_of (by decide +kernel) (Nat.le_of_ble_eq_true rfl) ?_
  intro p e s m args below meth c A ls hx hb hr hml hts hown hlk hin hKK hK hA hP hD hS hI hl
  have hS : va_S A s.heap s.heap [] := hS
  have hFX : FX p s m args c cX12_undo 2 RX12 := ⟨hx, hb, hml, hown, hts⟩
  have hl : lv_has ls 2 [(0, .ref m0)] := hl
  refine lv_aload_n hx hb dX12_undo_0 rfl (lv_at hl 0 rfl) ?_
  refine va_get (D := D) (ci := 12) (v := .int (nI u3)) (C := RX12) (T := TX12) (N := 30) hx hb hts inlX12 hown hK hP 0 rfl rfl 3 (by decide) (hts _ mw_533) (fun _ h9 => h9) rfl dX12_undo_1 ?_
  refine lv_if_ne (tgt := 9) hx hb dX12_undo_4 (by decide) (fun c_1 => ?_) (fun c_1 => ?_)
  · have nc_1 := cv_ne (a := u3) (b := 0) (by omega) (by omega) c_1
    refine lv_aload_n hx hb dX12_undo_9 rfl (lv_at hl 0 rfl) ?_
    refine lv_dup hx hb dX12_undo_10 rfl ?_
    refine va_get (D := D) (ci := 12) (v := .int (nI u3)) (C := RX12) (T := TX12) (N := 30) hx hb hts inlX12 hown hK hP 0 rfl rfl 3 (by decide) (hts _ mw_533) (fun _ h9 => h9) rfl dX12_undo_11 ?_
    refine lv_iconst (v := 1) hx hb dX12_undo_14 (by decide) ?_
    refine lv_isub hx hb dX12_undo_15 ?_
    refine ki (v := (nI (u3 - 1))) (pk_sub (a := u3) (b := 1) (by omega)) ?_
    refine va_put (D := D) (ci := 12) (v := .int (nI (u3 - 1))) (ty := tyX12 3) (C := RX12) (T := TX12) (N := 30) hx hb hts inlX12 tyX12 tyX12_ok nmX12 hown hK hP hD hS 0 rfl rfl 3 (by decide) (hts _ mw_533) (fun _ h9 => h9) rfl (tyX12_ok 3 (by decide)) rfl rfl (Nat.le_of_ble_eq_true rfl) dX12_undo_16 (fun H locs hP hD hS => ?_)
    have hP : va_P D vwCl [(m0, .inr (12, [.ref a0, .ref a1, .ref a2, .int (nI (u3 - 1)), .int f4, .ref a5, .int (nI u6), .int f7, .int f8, .int f9, .int f10, .int (nI u11), .int (nI u12), .int (nI u13), .ref a14, .ref a15, .ref a16, .ref a17, .int f18, .int f19, .ref a20, .ref a21, .int (nI u22), .ref a23, .ref a24, .ref a25, .int (nI u26), .int f27, .ref a28, .int (nI u29)])), (a0, .inl (κ 0, 21375, .inl w)), (a2, .inl (κ 0, 128214, .inl un))] H := hP
    have hD : va_D A [(m0, .inr (12, [.ref a0, .ref a1, .ref a2, .int (nI (u3 - 1)), .int f4, .ref a5, .int (nI u6), .int f7, .int f8, .int f9, .int f10, .int (nI u11), .int (nI u12), .int (nI u13), .ref a14, .ref a15, .ref a16, .ref a17, .int f18, .int f19, .ref a20, .ref a21, .int (nI u22), .ref a23, .ref a24, .ref a25, .int (nI u26), .int f27, .ref a28, .int (nI u29)])), (a0, .inl (κ 0, 21375, .inl w)), (a2, .inl (κ 0, 128214, .inl un))] := hD
    refine lv_iconst (v := 0) hx hb dX12_undo_19 (by decide) ?_
    refine lv_istore_n (lv' := [(1, .int 0), (0, .ref m0)]) hx hb dX12_undo_20 rfl hl (by decide) rfl (fun ls hl => ?_)
    refine loop_dn (fun k9 H locs ls => ∃ (k1_21 : Nat), ∃ (ga0_21 : Nat → Int32), (k1_21 ≤ 21369) ∧ Pw ga0_21 ∧ Dl dq ga0_21 ∧ 21369 - k1_21 = k9 ∧ va_P D vwCl [(m0, .inr (12, [.ref a0, .ref a1, .ref a2, .int (nI (u3 - 1)), .int f4, .ref a5, .int (nI u6), .int f7, .int f8, .int f9, .int f10, .int (nI u11), .int (nI u12), .int (nI u13), .ref a14, .ref a15, .ref a16, .ref a17, .int f18, .int f19, .ref a20, .ref a21, .int (nI u22), .ref a23, .ref a24, .ref a25, .int (nI u26), .int f27, .ref a28, .int (nI u29)])), (a0, .inl (κ 0, 21375, .inl ga0_21)), (a2, .inl (κ 0, 128214, .inl un))] H ∧ va_D A [(m0, .inr (12, [.ref a0, .ref a1, .ref a2, .int (nI (u3 - 1)), .int f4, .ref a5, .int (nI u6), .int f7, .int f8, .int f9, .int f10, .int (nI u11), .int (nI u12), .int (nI u13), .ref a14, .ref a15, .ref a16, .ref a17, .int f18, .int f19, .ref a20, .ref a21, .int (nI u22), .ref a23, .ref a24, .ref a25, .int (nI u26), .int f27, .ref a28, .int (nI u29)])), (a0, .inl (κ 0, 21375, .inl ga0_21)), (a2, .inl (κ 0, 128214, .inl un))] ∧ va_S A s.heap H locs ∧ lv_has ls 2 [(1, .int (nI k1_21)), (0, .ref m0)]) (fun k9 H locs ls hI21 ih21 => ?_) (21369 - 0) _ _ _ ⟨0, w, (by omega), h_a0, h_dl, rfl, hP, hD, hS, lv_sub hl [0, 1] rfl⟩
    obtain ⟨k1_21, ga0_21, hl21_0, hg21_0, hg21_1, hm21, hP, hD, hS, hl⟩ := hI21
    refine lv_iload_n hx hb dX12_undo_21 rfl (lv_at hl 0 rfl) ?_
    refine lv_sipush (v := 21369) hx hb dX12_undo_22 (by decide) ?_
    refine lv_icmp_ge (tgt := 55) hx hb dX12_undo_25 (by decide) (fun c_2 => ?_) (fun c_2 => ?_)
    · have nc_2 := cv_le (a := 21369) (b := k1_21) (by omega) (by omega) c_2
      refine lv_iconst (v := 0) hx hb dX12_undo_55 (by decide) ?_
      refine lv_istore_n (lv' := [(1, .int 0), (0, .ref m0)]) hx hb dX12_undo_56 rfl hl (by decide) rfl (fun ls hl => ?_)
      refine loop_dn (fun k9 H locs ls => ∃ (k1_57 : Nat), ∃ (ga0_57 : Nat → Int32), (k1_57 ≤ 3) ∧ Pw ga0_57 ∧ Dl dq ga0_57 ∧ 3 - k1_57 = k9 ∧ va_P D vwCl [(m0, .inr (12, [.ref a0, .ref a1, .ref a2, .int (nI (u3 - 1)), .int f4, .ref a5, .int (nI u6), .int f7, .int f8, .int f9, .int f10, .int (nI u11), .int (nI u12), .int (nI u13), .ref a14, .ref a15, .ref a16, .ref a17, .int f18, .int f19, .ref a20, .ref a21, .int (nI u22), .ref a23, .ref a24, .ref a25, .int (nI u26), .int f27, .ref a28, .int (nI u29)])), (a0, .inl (κ 0, 21375, .inl ga0_57)), (a2, .inl (κ 0, 128214, .inl un))] H ∧ va_D A [(m0, .inr (12, [.ref a0, .ref a1, .ref a2, .int (nI (u3 - 1)), .int f4, .ref a5, .int (nI u6), .int f7, .int f8, .int f9, .int f10, .int (nI u11), .int (nI u12), .int (nI u13), .ref a14, .ref a15, .ref a16, .ref a17, .int f18, .int f19, .ref a20, .ref a21, .int (nI u22), .ref a23, .ref a24, .ref a25, .int (nI u26), .int f27, .ref a28, .int (nI u29)])), (a0, .inl (κ 0, 21375, .inl ga0_57)), (a2, .inl (κ 0, 128214, .inl un))] ∧ va_S A s.heap H locs ∧ lv_has ls 2 [(1, .int (nI k1_57)), (0, .ref m0)]) (fun k9 H locs ls hI57 ih57 => ?_) (3 - 0) _ _ _ ⟨0, ga0_21, (by omega), hg21_0, hg21_1, rfl, hP, hD, hS, lv_sub hl [0, 1] rfl⟩
      obtain ⟨k1_57, ga0_57, hl57_0, hg57_0, hg57_1, hm57, hP, hD, hS, hl⟩ := hI57
      refine lv_iload_n hx hb dX12_undo_57 rfl (lv_at hl 0 rfl) ?_
      refine lv_iconst (v := 3) hx hb dX12_undo_58 (by decide) ?_
      refine lv_icmp_ge (tgt := 73) hx hb dX12_undo_59 (by decide) (fun c_3 => ?_) (fun c_3 => ?_)
      · have nc_3 := cv_le (a := 3) (b := k1_57) (by omega) (by omega) c_3
        refine lv_aload_n hx hb dX12_undo_73 rfl (lv_at hl 1 rfl) ?_
        refine va_get (D := D) (ci := 12) (v := .int (nI (u3 - 1))) (C := RX12) (T := TX12) (N := 30) hx hb hts inlX12 hown hK hP 0 rfl rfl 3 (by decide) (hts _ mw_533) (fun _ h9 => h9) rfl dX12_undo_74 ?_
        exact ct_iret hx hb hr hlk rfl hS hP hD (nI (u3 - 1), u3 - 1, ga0_57) rfl ⟨(show (u3 - 1) ≤ 6 from (by first | assumption | omega | rfl | exact Or.inl (by assumption) | exact Or.inr (by assumption))), (show Pw ga0_57 from (by first | assumption | omega | rfl | exact Or.inl (by assumption) | exact Or.inr (by assumption))), (show Dl dq ga0_57 from (by first | assumption | omega | rfl | exact Or.inl (by assumption) | exact Or.inr (by assumption)))⟩ [0, 1, 2] rfl (by decide) trivial (Nat.le_of_ble_eq_true rfl) (Nat.le_of_ble_eq_true rfl) dX12_undo_77
      · have nc_3 := cv_nle (a := 3) (b := k1_57) (by omega) (by omega) c_3
        refine lv_aload_n hx hb dX12_undo_62 rfl (lv_at hl 1 rfl) ?_
        refine lv_iload_n hx hb dX12_undo_63 rfl (lv_at hl 0 rfl) ?_
        refine ct_V (wr := [(a2, .inl (κ 0, 128214, .inl un))]) (As := [.int (nI k1_57)]) (rest := []) hFX hKK hP hD hS hA (d_X12_viewsOff l D κ m0 a0 a1 a2 (u3 - 1) f4 a5 u6 f7 f8 f9 f10 u11 u12 u13 a14 a15 a16 a17 f18 f19 a20 a21 u22 a23 a24 a25 u26 f27 a28 u29 ga0_57 k1_57 dq hg57_0 hg57_1 (by omega)) 1 gV_X12_77 hdV_X12_viewsOff ⟨Nat.le_of_ble_eq_true rfl, Nat.le_of_ble_eq_true rfl⟩ rfl rfl (Nat.le_of_ble_eq_true rfl) dX12_undo_64 ⟨Nat.le_of_ble_eq_true rfl, Nat.le_of_ble_eq_true rfl⟩ hl.1 [0, 1] [2] rfl rfl (by decide) (by decide) (by decide) 0 12 rfl rfl rfl trivial (fun g_a0__4 H locs hp_5 _ hP hD hS hz_ hk_ => ?_)
        replace hP : va_P D vwCl [(m0, .inr (12, [.ref a0, .ref a1, .ref a2, .int (nI (u3 - 1)), .int f4, .ref a5, .int (nI u6), .int f7, .int f8, .int f9, .int f10, .int (nI u11), .int (nI u12), .int (nI u13), .ref a14, .ref a15, .ref a16, .ref a17, .int f18, .int f19, .ref a20, .ref a21, .int (nI u22), .ref a23, .ref a24, .ref a25, .int (nI u26), .int f27, .ref a28, .int (nI u29)])), (a0, .inl (κ 0, 21375, .inl g_a0__4)), (a2, .inl (κ 0, 128214, .inl un))] H := hP.sub [1, 2, 0] rfl
        replace hD : va_D A [(m0, .inr (12, [.ref a0, .ref a1, .ref a2, .int (nI (u3 - 1)), .int f4, .ref a5, .int (nI u6), .int f7, .int f8, .int f9, .int f10, .int (nI u11), .int (nI u12), .int (nI u13), .ref a14, .ref a15, .ref a16, .ref a17, .int f18, .int f19, .ref a20, .ref a21, .int (nI u22), .ref a23, .ref a24, .ref a25, .int (nI u26), .int f27, .ref a28, .int (nI u29)])), (a0, .inl (κ 0, 21375, .inl g_a0__4)), (a2, .inl (κ 0, 128214, .inl un))] := hD.sub [1, 2, 0] (by decide) rfl
        replace hp_5 : Pw g_a0__4 ∧ Dl dq g_a0__4 ∧ g_a0__4 (7123 * k1_57 + 2) = ga0_57 (7123 * k1_57 + 2) := hp_5
        obtain ⟨h_6, h_7, h_8⟩ := hp_5
        refine W.eq (g2 := F0 m 67 ls []) rfl ?_
        refine lv_iinc (v := (nI (k1_57 + 1))) (lv' := [(1, .int (nI (k1_57 + 1))), (0, .ref m0)]) hx hb dX12_undo_67 hl (k := 0) rfl (nI_i k1_57) (by decide) rfl (fun ls hl => ?_)
        refine lv_goto (tgt := 57) hx hb dX12_undo_70 (by decide) ?_
        exact ih57 _ _ _ _ (by omega) ⟨(k1_57 + 1), g_a0__4, (by omega), h_6, h_7, rfl, hP, hD, hS, lv_sub hl [0, 1] rfl⟩
    · have nc_2 := cv_nle (a := 21369) (b := k1_21) (by omega) (by omega) c_2
      refine lv_aload_n hx hb dX12_undo_28 rfl (lv_at hl 1 rfl) ?_
      refine va_get (D := D) (ci := 12) (v := .ref a0) (C := RX12) (T := TX12) (N := 30) hx hb hts inlX12 hown hK hP 0 rfl rfl 0 (by decide) (hts _ mw_187) (fun _ h9 => h9) rfl dX12_undo_29 ?_
      refine lv_iload_n hx hb dX12_undo_32 rfl (lv_at hl 0 rfl) ?_
      refine lv_aload_n hx hb dX12_undo_33 rfl (lv_at hl 1 rfl) ?_
      refine va_get (D := D) (ci := 12) (v := .ref a2) (C := RX12) (T := TX12) (N := 30) hx hb hts inlX12 hown hK hP 0 rfl rfl 2 (by decide) (hts _ mw_190) (fun _ h9 => h9) rfl dX12_undo_34 ?_
      refine lv_sipush (v := 21369) hx hb dX12_undo_37 (by decide) ?_
      refine lv_aload_n hx hb dX12_undo_40 rfl (lv_at hl 1 rfl) ?_
      refine va_get (D := D) (ci := 12) (v := .int (nI (u3 - 1))) (C := RX12) (T := TX12) (N := 30) hx hb hts inlX12 hown hK hP 0 rfl rfl 3 (by decide) (hts _ mw_533) (fun _ h9 => h9) rfl dX12_undo_41 ?_
      refine lv_imul hx hb dX12_undo_44 ?_
      refine ki (v := (nI (21369 * (u3 - 1)))) (pk_mul 21369 (u3 - 1)) ?_
      refine lv_iload_n hx hb dX12_undo_45 rfl (lv_at hl 0 rfl) ?_
      refine lv_iadd hx hb dX12_undo_46 ?_
      refine ki (v := (nI (21369 * (u3 - 1) + k1_21))) (nI_add (21369 * (u3 - 1)) k1_21) ?_
      refine va_iald hx hb hK hP 2 0 rfl rfl (i := nI (21369 * (u3 - 1) + k1_21)) (vp_in_nI (n := (21369 * (u3 - 1) + k1_21)) (by omega) (by omega)) dX12_undo_47 ?_
      refine kv (v := .int (un (21369 * (u3 - 1) + k1_21))) (by rw [nI_clamp (by omega)]) ?_
      obtain ⟨x_9, ex_9⟩ : ∃ y9 : Int32, un (21369 * (u3 - 1) + k1_21) = y9 := ⟨_, rfl⟩
      refine kv (v := .int x_9) (congrArg Value.int ex_9) ?_
      refine va_iast hx hb hK hP hD hS 1 0 rfl rfl (i := nI k1_21) (x := x_9) (vp_in_nI (n := k1_21) (by omega) (by omega)) dX12_undo_48 (fun H locs hP hD hS => ?_)
      rw [nI_clamp (by omega)] at hP hD
      have hP : va_P D vwCl [(m0, .inr (12, [.ref a0, .ref a1, .ref a2, .int (nI (u3 - 1)), .int f4, .ref a5, .int (nI u6), .int f7, .int f8, .int f9, .int f10, .int (nI u11), .int (nI u12), .int (nI u13), .ref a14, .ref a15, .ref a16, .ref a17, .int f18, .int f19, .ref a20, .ref a21, .int (nI u22), .ref a23, .ref a24, .ref a25, .int (nI u26), .int f27, .ref a28, .int (nI u29)])), (a0, .inl (κ 0, 21375, .inl (upd ga0_21 k1_21 x_9))), (a2, .inl (κ 0, 128214, .inl un))] H := hP
      have hD : va_D A [(m0, .inr (12, [.ref a0, .ref a1, .ref a2, .int (nI (u3 - 1)), .int f4, .ref a5, .int (nI u6), .int f7, .int f8, .int f9, .int f10, .int (nI u11), .int (nI u12), .int (nI u13), .ref a14, .ref a15, .ref a16, .ref a17, .int f18, .int f19, .ref a20, .ref a21, .int (nI u22), .ref a23, .ref a24, .ref a25, .int (nI u26), .int f27, .ref a28, .int (nI u29)])), (a0, .inl (κ 0, 21375, .inl (upd ga0_21 k1_21 x_9))), (a2, .inl (κ 0, 128214, .inl un))] := hD
      have hf_11 : Pw (upd ga0_21 k1_21 x_9) := (Pw_undoE hg21_0 h_a2 ex_9 (u := (u3 - 1)) (by omega) (by omega))
      have hf_12 : Dl dq (upd ga0_21 k1_21 x_9) := (Dl_upd hg21_1 (by omega))
      generalize upd ga0_21 k1_21 x_9 = g_10 at hP hD hf_11 hf_12
      refine lv_iinc (v := (nI (k1_21 + 1))) (lv' := [(1, .int (nI (k1_21 + 1))), (0, .ref m0)]) hx hb dX12_undo_49 hl (k := 0) rfl (nI_i k1_21) (by decide) rfl (fun ls hl => ?_)
      refine lv_goto (tgt := 21) hx hb dX12_undo_52 (by decide) ?_
      exact ih21 _ _ _ _ (by omega) ⟨(k1_21 + 1), g_10, (by omega), hf_11, hf_12, rfl, hP, hD, hS, lv_sub hl [0, 1] rfl⟩
  · have nc_1 := cv_eq (a := u3) (b := 0) (by omega) (by omega) c_1
    refine lv_iconst (v := (-1)) hx hb dX12_undo_7 (by decide) ?_
    exact ct_iret hx hb hr hlk rfl hS hP hD ((-1), u3, w) rfl ⟨(show u3 ≤ 6 from (by first | assumption | omega | rfl | exact Or.inl (by assumption) | exact Or.inr (by assumption))), (show Pw w from (by first | assumption | omega | rfl | exact Or.inl (by assumption) | exact Or.inr (by assumption))), (show Dl dq w from (by first | assumption | omega | rfl | exact Or.inl (by assumption) | exact Or.inr (by assumption)))⟩ [0, 1, 2] rfl (by decide) trivial (Nat.le_of_ble_eq_true rfl) (Nat.le_of_ble_eq_true rfl) dX12_undo_8
set_option maxHeartbeats 4000000 in
set_option maxRecDepth 100000 in
theorem d_X12_row (l : Launch) (D : va_G) (κ : Nat → ClassId) (m0 : Nat) (a0 : Nat) (a1 : Nat) (a2 : Nat) (u3 : Nat) (f4 : Int32) (a5 : Nat) (u6 : Nat) (f7 : Int32) (f8 : Int32) (f9 : Int32) (f10 : Int32) (u11 : Nat) (u12 : Nat) (u13 : Nat) (a14 : Nat) (a15 : Nat) (a16 : Nat) (a17 : Nat) (f18 : Int32) (f19 : Int32) (a20 : Nat) (a21 : Nat) (u22 : Nat) (a23 : Nat) (a24 : Nat) (a25 : Nat) (u26 : Nat) (f27 : Int32) (a28 : Nat) (u29 : Nat) (w : Nat → Int32) (un : Nat → Int32) (tp : Nat → Int32) (fd : Nat → Int32) (fa : Nat → Int32) (pt : Nat → Int32) (za : Int32) (dq : Nat → Int32) (h3 : u3 ≤ 6) (h6 : u6 ≤ 800) (h8 : PF f8) (h12 : u12 ≤ 8) (h13 : u13 ≤ 800) (h_a0 : Pw w) (h_a2 : Pu un) (h_a14 : Pfd fd) (h_a15 : Pb 9 800 fa) (h_a16 : Pb 9 800 pt) (h_dl : Dl dq w) : Ct l yX12_row (wl yX12_row cX12_row 4 (some .int)) { frames := 6, cells := 0, slots := 0, locals := 142 } D κ [.ref m0, .int za] [(m0, .inr (12, [.ref a0, .ref a1, .ref a2, .int (nI u3), .int f4, .ref a5, .int (nI u6), .int f7, .int f8, .int f9, .int f10, .int (nI u11), .int (nI u12), .int (nI u13), .ref a14, .ref a15, .ref a16, .ref a17, .int f18, .int f19, .ref a20, .ref a21, .int (nI u22), .ref a23, .ref a24, .ref a25, .int (nI u26), .int f27, .ref a28, .int (nI u29)])), (a0, .inl (κ 0, 21375, .inl w)), (a2, .inl (κ 0, 128214, .inl un)), (a5, .inl (κ 0, 800, .inl tp)), (a14, .inl (κ 0, 189, .inl fd)), (a15, .inl (κ 0, 9, .inl fa)), (a16, .inl (κ 0, 9, .inl pt))] (fun _ => True) (fun u9 : Int32 × Nat × Int32 × Int32 × Int32 × Int32 × Nat × Nat × Nat × Int32 × Int32 × (Nat → Int32) × (Nat → Int32) × (Nat → Int32) × (Nat → Int32) × (Nat → Int32) => some (.int u9.1)) (fun u9 : Int32 × Nat × Int32 × Int32 × Int32 × Int32 × Nat × Nat × Nat × Int32 × Int32 × (Nat → Int32) × (Nat → Int32) × (Nat → Int32) × (Nat → Int32) × (Nat → Int32) => u9.2.1 ≤ 6 ∧ PF u9.2.2.2.1 ∧ u9.2.2.2.2.2.2.2.1 ≤ 8 ∧ u9.2.2.2.2.2.2.2.2.1 ≤ 800 ∧ Pw u9.2.2.2.2.2.2.2.2.2.2.2.1 ∧ Dl dq u9.2.2.2.2.2.2.2.2.2.2.2.1 ∧ Pu u9.2.2.2.2.2.2.2.2.2.2.2.2.1 ∧ Pfd u9.2.2.2.2.2.2.2.2.2.2.2.2.2.1 ∧ Pb 9 800 u9.2.2.2.2.2.2.2.2.2.2.2.2.2.2.1 ∧ Pb 9 800 u9.2.2.2.2.2.2.2.2.2.2.2.2.2.2.2) (fun u9 : Int32 × Nat × Int32 × Int32 × Int32 × Int32 × Nat × Nat × Nat × Int32 × Int32 × (Nat → Int32) × (Nat → Int32) × (Nat → Int32) × (Nat → Int32) × (Nat → Int32) => [(m0, .inr (12, [.ref a0, .ref a1, .ref a2, .int (nI u9.2.1), .int f4, .ref a5, .int 0, .int u9.2.2.1, .int u9.2.2.2.1, .int u9.2.2.2.2.1, .int u9.2.2.2.2.2.1, .int (nI u9.2.2.2.2.2.2.1), .int (nI u9.2.2.2.2.2.2.2.1), .int (nI u9.2.2.2.2.2.2.2.2.1), .ref a14, .ref a15, .ref a16, .ref a17, .int u9.2.2.2.2.2.2.2.2.2.1, .int u9.2.2.2.2.2.2.2.2.2.2.1, .ref a20, .ref a21, .int (nI u22), .ref a23, .ref a24, .ref a25, .int (nI u26), .int f27, .ref a28, .int (nI u29)])), (a0, .inl (κ 0, 21375, .inl u9.2.2.2.2.2.2.2.2.2.2.2.1)), (a2, .inl (κ 0, 128214, .inl u9.2.2.2.2.2.2.2.2.2.2.2.2.1)), (a5, .inl (κ 0, 800, .inl tp)), (a14, .inl (κ 0, 189, .inl u9.2.2.2.2.2.2.2.2.2.2.2.2.2.1)), (a15, .inl (κ 0, 9, .inl u9.2.2.2.2.2.2.2.2.2.2.2.2.2.2.1)), (a16, .inl (κ 0, 9, .inl u9.2.2.2.2.2.2.2.2.2.2.2.2.2.2.2))]) (fun _ _ => True) := by
  refine ct_of (by decide +kernel) (Nat.le_of_ble_eq_true rfl) ?_
  intro p e s m args below meth c A ls hx hb hr hml hts hown hlk hin hKK hK hA hP hD hS hI hl
  have hS : va_S A s.heap s.heap [] := hS
  have hFX : FX p s m args c cX12_row 4 RX12 := ⟨hx, hb, hml, hown, hts⟩
  have hl : lv_has ls 4 [(0, .ref m0), (1, .int za)] := hl
  refine lv_aload_n hx hb dX12_row_0 rfl (lv_at hl 0 rfl) ?_
  refine lv_iload_n hx hb dX12_row_1 rfl (lv_at hl 1 rfl) ?_
  refine cr_V (As := [.int za]) (rest := []) hFX hKK (s_X12_isTable l D κ m0 a0 a1 a2 u3 f4 a5 u6 f7 f8 f9 f10 u11 u12 u13 a14 a15 a16 a17 f18 f19 a20 a21 u22 a23 a24 a25 u26 f27 a28 u29 w za h_a0) 1 gV_X12_70 hdV_X12_isTable rfl rfl ⟨Nat.le_of_ble_eq_true rfl, Nat.le_of_ble_eq_true rfl⟩ rfl rfl (Nat.le_of_ble_eq_true rfl) dX12_row_2 ⟨Nat.le_of_ble_eq_true rfl, Nat.le_of_ble_eq_true rfl⟩ hl.1 hP 0 12 rfl rfl rfl (hP.sub [0, 1] rfl) (fun r__1 hp_2 => ?_)
  replace hp_2 : ((r__1 = 1 ∧ (∃ j : Nat, j < 3 ∧ za = nI j)) ∨ (r__1 = 0)) := hp_2
  have ha_3 := hp_2
  clear hp_2
  rcases ha_3 with ⟨rfl, ⟨j_4, hj_4, rfl⟩⟩ | rfl
  · refine W.eq (g2 := F0 m 5 ls [.int 1]) rfl ?_
    refine lv_if_ne (tgt := 15) hx hb dX12_row_5 (by decide) (fun c_6 => ?_) (fun c_6 => absurd c_6 (by decide))
    refine lv_aload_n hx hb dX12_row_15 rfl (lv_at hl 0 rfl) ?_
    refine ct_V (wr := [(a0, .inl (κ 0, 21375, .inl w)), (a2, .inl (κ 0, 128214, .inl un)), (a5, .inl (κ 0, 800, .inl tp)), (a14, .inl (κ 0, 189, .inl fd)), (a15, .inl (κ 0, 9, .inl fa)), (a16, .inl (κ 0, 9, .inl pt))]) (As := []) (rest := []) hFX hKK hP hD hS hA (s_X12_beginsReading l D κ m0 a0 a1 a2 u3 f4 a5 u6 f7 f8 f9 f10 u11 u12 u13 a14 a15 a16 a17 f18 f19 a20 a21 u22 a23 a24 a25 u26 f27 a28 u29) 0 gV_X12_286 hdV_X12_beginsReading ⟨Nat.le_of_ble_eq_true rfl, Nat.le_of_ble_eq_true rfl⟩ rfl rfl (Nat.le_of_ble_eq_true rfl) dX12_row_16 ⟨Nat.le_of_ble_eq_true rfl, Nat.le_of_ble_eq_true rfl⟩ hl.1 [0] [1, 2, 3, 4, 5, 6] rfl rfl (by decide) (by decide) (by decide) 0 12 rfl rfl rfl trivial (fun _ H locs hp_7 _ hP hD hS hz_ hk_ => ?_)
    replace hP : va_P D vwCl [(m0, .inr (12, [.ref a0, .ref a1, .ref a2, .int (nI u3), .int f4, .ref a5, .int (nI u6), .int 0, .int (-1), .int (-1), .int f10, .int (nI u11), .int (nI u12), .int (nI u13), .ref a14, .ref a15, .ref a16, .ref a17, .int f18, .int f19, .ref a20, .ref a21, .int (nI u22), .ref a23, .ref a24, .ref a25, .int (nI u26), .int f27, .ref a28, .int (nI u29)])), (a0, .inl (κ 0, 21375, .inl w)), (a2, .inl (κ 0, 128214, .inl un)), (a5, .inl (κ 0, 800, .inl tp)), (a14, .inl (κ 0, 189, .inl fd)), (a15, .inl (κ 0, 9, .inl fa)), (a16, .inl (κ 0, 9, .inl pt))] H := hP.sub [6, 0, 1, 2, 3, 4, 5] rfl
    replace hD : va_D A [(m0, .inr (12, [.ref a0, .ref a1, .ref a2, .int (nI u3), .int f4, .ref a5, .int (nI u6), .int 0, .int (-1), .int (-1), .int f10, .int (nI u11), .int (nI u12), .int (nI u13), .ref a14, .ref a15, .ref a16, .ref a17, .int f18, .int f19, .ref a20, .ref a21, .int (nI u22), .ref a23, .ref a24, .ref a25, .int (nI u26), .int f27, .ref a28, .int (nI u29)])), (a0, .inl (κ 0, 21375, .inl w)), (a2, .inl (κ 0, 128214, .inl un)), (a5, .inl (κ 0, 800, .inl tp)), (a14, .inl (κ 0, 189, .inl fd)), (a15, .inl (κ 0, 9, .inl fa)), (a16, .inl (κ 0, 9, .inl pt))] := hD.sub [6, 0, 1, 2, 3, 4, 5] (by decide) rfl
    refine W.eq (g2 := F0 m 19 ls []) rfl ?_
    refine lv_aload_n hx hb dX12_row_19 rfl (lv_at hl 0 rfl) ?_
    refine lv_aload_n hx hb dX12_row_20 rfl (lv_at hl 0 rfl) ?_
    refine lv_iload_n hx hb dX12_row_21 rfl (lv_at hl 1 rfl) ?_
    refine ct_V (wr := [(a2, .inl (κ 0, 128214, .inl un))]) (As := [.int (nI j_4)]) (rest := [.ref m0]) hFX hKK hP hD hS hA (s_X12_readsRow l D κ m0 a0 a1 a2 u3 f4 a5 u6 0 (-1) (-1) f10 u11 u12 u13 a14 a15 a16 a17 f18 f19 a20 a21 u22 a23 a24 a25 u26 f27 a28 u29 w tp fd fa pt j_4 (by omega) PF_m (by omega) (by omega) h_a0 h_a14 h_a15 h_a16 (by omega)) 1 gV_X12_299 hdV_X12_readsRow ⟨Nat.le_of_ble_eq_true rfl, Nat.le_of_ble_eq_true rfl⟩ rfl rfl (Nat.le_of_ble_eq_true rfl) dX12_row_22 ⟨Nat.le_of_ble_eq_true rfl, Nat.le_of_ble_eq_true rfl⟩ hl.1 [0, 1, 3, 4, 5, 6] [2] rfl rfl (by decide) (by decide) (by decide) 0 12 rfl rfl rfl trivial (fun u_18 H locs hp_19 _ hP hD hS hz_ hk_ => ?_)
    obtain ⟨r__8, y7__9, y8__10, y9__11, y11__12, y12__13, y13__14, g_a14__15, g_a15__16, g_a16__17⟩ := u_18
    replace hP : va_P D vwCl [(m0, .inr (12, [.ref a0, .ref a1, .ref a2, .int (nI u3), .int f4, .ref a5, .int (nI u6), .int y7__9, .int y8__10, .int y9__11, .int f10, .int (nI y11__12), .int (nI y12__13), .int (nI y13__14), .ref a14, .ref a15, .ref a16, .ref a17, .int f18, .int f19, .ref a20, .ref a21, .int (nI u22), .ref a23, .ref a24, .ref a25, .int (nI u26), .int f27, .ref a28, .int (nI u29)])), (a0, .inl (κ 0, 21375, .inl w)), (a2, .inl (κ 0, 128214, .inl un)), (a5, .inl (κ 0, 800, .inl tp)), (a14, .inl (κ 0, 189, .inl g_a14__15)), (a15, .inl (κ 0, 9, .inl g_a15__16)), (a16, .inl (κ 0, 9, .inl g_a16__17))] H := hP.sub [1, 2, 0, 3, 4, 5, 6] rfl
    replace hD : va_D A [(m0, .inr (12, [.ref a0, .ref a1, .ref a2, .int (nI u3), .int f4, .ref a5, .int (nI u6), .int y7__9, .int y8__10, .int y9__11, .int f10, .int (nI y11__12), .int (nI y12__13), .int (nI y13__14), .ref a14, .ref a15, .ref a16, .ref a17, .int f18, .int f19, .ref a20, .ref a21, .int (nI u22), .ref a23, .ref a24, .ref a25, .int (nI u26), .int f27, .ref a28, .int (nI u29)])), (a0, .inl (κ 0, 21375, .inl w)), (a2, .inl (κ 0, 128214, .inl un)), (a5, .inl (κ 0, 800, .inl tp)), (a14, .inl (κ 0, 189, .inl g_a14__15)), (a15, .inl (κ 0, 9, .inl g_a15__16)), (a16, .inl (κ 0, 9, .inl g_a16__17))] := hD.sub [1, 2, 0, 3, 4, 5, 6] (by decide) rfl
    replace hp_19 : PF y8__10 ∧ y12__13 ≤ 8 ∧ y13__14 ≤ 800 ∧ Pfd g_a14__15 ∧ Pb 9 800 g_a15__16 ∧ Pb 9 800 g_a16__17 ∧ ((r__8 = 1 ∧ (∃ n9 : Nat, n9 ≤ 39 ∧ w (7123 * j_4 + 2) = nI n9)) ∨ (r__8 = 0)) := hp_19
    obtain ⟨h_20, h_21, h_22, h_23, h_24, h_25, ha_26⟩ := hp_19
    rcases ha_26 with ⟨rfl, a_27⟩ | rfl
    · refine W.eq (g2 := F0 m 25 ls [.int 1, .ref m0]) rfl ?_
      refine ct_V (wr := [(a0, .inl (κ 0, 21375, .inl w)), (a2, .inl (κ 0, 128214, .inl un)), (a14, .inl (κ 0, 189, .inl g_a14__15)), (a15, .inl (κ 0, 9, .inl g_a15__16)), (a16, .inl (κ 0, 9, .inl g_a16__17))]) (As := [.int 1]) (rest := []) hFX hKK hP hD hS hA (s_X12_endsReading l D κ m0 a0 a1 a2 u3 f4 a5 u6 y7__9 y8__10 y9__11 f10 y11__12 y12__13 y13__14 a14 a15 a16 a17 f18 f19 a20 a21 u22 a23 a24 a25 u26 f27 a28 u29 tp 1 (by assumption) (by decide)) 1 gV_X12_292 hdV_X12_endsReading ⟨Nat.le_of_ble_eq_true rfl, Nat.le_of_ble_eq_true rfl⟩ rfl rfl (Nat.le_of_ble_eq_true rfl) dX12_row_25 ⟨Nat.le_of_ble_eq_true rfl, Nat.le_of_ble_eq_true rfl⟩ hl.1 [0, 3] [1, 2, 4, 5, 6] rfl rfl (by decide) (by decide) (by decide) 0 12 rfl rfl rfl trivial (fun u_31 H locs hp_32 _ hP hD hS hz_ hk_ => ?_)
      obtain ⟨y10__28, y18__29, y19__30⟩ := u_31
      replace hP : va_P D vwCl [(m0, .inr (12, [.ref a0, .ref a1, .ref a2, .int (nI u3), .int f4, .ref a5, .int 0, .int y7__9, .int y8__10, .int y9__11, .int y10__28, .int (nI y11__12), .int (nI y12__13), .int (nI y13__14), .ref a14, .ref a15, .ref a16, .ref a17, .int y18__29, .int y19__30, .ref a20, .ref a21, .int (nI u22), .ref a23, .ref a24, .ref a25, .int (nI u26), .int f27, .ref a28, .int (nI u29)])), (a0, .inl (κ 0, 21375, .inl w)), (a2, .inl (κ 0, 128214, .inl un)), (a5, .inl (κ 0, 800, .inl tp)), (a14, .inl (κ 0, 189, .inl g_a14__15)), (a15, .inl (κ 0, 9, .inl g_a15__16)), (a16, .inl (κ 0, 9, .inl g_a16__17))] H := hP.sub [5, 0, 1, 6, 2, 3, 4] rfl
      replace hD : va_D A [(m0, .inr (12, [.ref a0, .ref a1, .ref a2, .int (nI u3), .int f4, .ref a5, .int 0, .int y7__9, .int y8__10, .int y9__11, .int y10__28, .int (nI y11__12), .int (nI y12__13), .int (nI y13__14), .ref a14, .ref a15, .ref a16, .ref a17, .int y18__29, .int y19__30, .ref a20, .ref a21, .int (nI u22), .ref a23, .ref a24, .ref a25, .int (nI u26), .int f27, .ref a28, .int (nI u29)])), (a0, .inl (κ 0, 21375, .inl w)), (a2, .inl (κ 0, 128214, .inl un)), (a5, .inl (κ 0, 800, .inl tp)), (a14, .inl (κ 0, 189, .inl g_a14__15)), (a15, .inl (κ 0, 9, .inl g_a15__16)), (a16, .inl (κ 0, 9, .inl g_a16__17))] := hD.sub [5, 0, 1, 6, 2, 3, 4] (by decide) rfl
      refine W.eq (g2 := F0 m 28 ls [.int 1]) rfl ?_
      refine lv_if_ne (tgt := 33) hx hb dX12_row_28 (by decide) (fun c_33 => ?_) (fun c_33 => absurd c_33 (by decide))
      refine lv_aload_n hx hb dX12_row_33 rfl (lv_at hl 0 rfl) ?_
      refine va_get (D := D) (ci := 12) (v := .ref a0) (C := RX12) (T := TX12) (N := 30) hx hb hts inlX12 hown hK hP 0 rfl rfl 0 (by decide) (hts _ mw_187) (fun _ h9 => h9) rfl dX12_row_34 ?_
      refine lv_iload_n hx hb dX12_row_37 rfl (lv_at hl 1 rfl) ?_
      refine lv_iconst (v := 1) hx hb dX12_row_38 (by decide) ?_
      refine cr_S (As := [.int (nI j_4), .int 1]) (rest := [.ref a0]) hFX hKK (s_X12_at l D κ j_4 1) 2 gS_X12_66 hdS_X12_at rfl rfl ⟨Nat.le_of_ble_eq_true rfl, Nat.le_of_ble_eq_true rfl⟩ rfl rfl (Nat.le_of_ble_eq_true rfl) dX12_row_39 ⟨Nat.le_of_ble_eq_true rfl, Nat.le_of_ble_eq_true rfl⟩ hl.1 (hP.sub [] rfl) (fun _ hp_34 => ?_)
      refine W.eq (g2 := F0 m 42 ls [.int (nI (7123 * j_4 + 1)), .ref a0]) rfl ?_
      refine va_iald hx hb hK hP 1 0 rfl rfl (i := nI (7123 * j_4 + 1)) (vp_in_nI (n := (7123 * j_4 + 1)) (by omega) (by omega)) dX12_row_42 ?_
      refine kv (v := .int (w (7123 * j_4 + 1))) (by rw [nI_clamp (by omega)]) ?_
      obtain ⟨n_35, hn_35, en_35⟩ : ∃ n9 : Nat, n9 ≤ 8 ∧ w (7123 * j_4 + 1) = nI n9 := id (h_a0 _ _ (mN (t := j_4) (by omega) (by omega)))
      refine kv (v := .int (nI n_35)) (congrArg Value.int en_35) ?_
      refine lv_istore_n (lv' := [(2, .int (nI n_35)), (0, .ref m0), (1, .int (nI j_4))]) hx hb dX12_row_43 rfl hl (by decide) rfl (fun ls hl => ?_)
      refine lv_iconst (v := 0) hx hb dX12_row_44 (by decide) ?_
      refine lv_istore_n (lv' := [(3, .int 0), (2, .int (nI n_35)), (0, .ref m0), (1, .int (nI j_4))]) hx hb dX12_row_45 rfl hl (by decide) rfl (fun ls hl => ?_)
      refine loop_dn (fun k9 H locs ls => ∃ (k3_46 : Nat), (k3_46 ≤ 8) ∧ 8 - k3_46 = k9 ∧ va_P D vwCl [(m0, .inr (12, [.ref a0, .ref a1, .ref a2, .int (nI u3), .int f4, .ref a5, .int 0, .int y7__9, .int y8__10, .int y9__11, .int y10__28, .int (nI y11__12), .int (nI y12__13), .int (nI y13__14), .ref a14, .ref a15, .ref a16, .ref a17, .int y18__29, .int y19__30, .ref a20, .ref a21, .int (nI u22), .ref a23, .ref a24, .ref a25, .int (nI u26), .int f27, .ref a28, .int (nI u29)])), (a0, .inl (κ 0, 21375, .inl w)), (a2, .inl (κ 0, 128214, .inl un)), (a5, .inl (κ 0, 800, .inl tp)), (a14, .inl (κ 0, 189, .inl g_a14__15)), (a15, .inl (κ 0, 9, .inl g_a15__16)), (a16, .inl (κ 0, 9, .inl g_a16__17))] H ∧ va_D A [(m0, .inr (12, [.ref a0, .ref a1, .ref a2, .int (nI u3), .int f4, .ref a5, .int 0, .int y7__9, .int y8__10, .int y9__11, .int y10__28, .int (nI y11__12), .int (nI y12__13), .int (nI y13__14), .ref a14, .ref a15, .ref a16, .ref a17, .int y18__29, .int y19__30, .ref a20, .ref a21, .int (nI u22), .ref a23, .ref a24, .ref a25, .int (nI u26), .int f27, .ref a28, .int (nI u29)])), (a0, .inl (κ 0, 21375, .inl w)), (a2, .inl (κ 0, 128214, .inl un)), (a5, .inl (κ 0, 800, .inl tp)), (a14, .inl (κ 0, 189, .inl g_a14__15)), (a15, .inl (κ 0, 9, .inl g_a15__16)), (a16, .inl (κ 0, 9, .inl g_a16__17))] ∧ va_S A s.heap H locs ∧ lv_has ls 4 [(3, .int (nI k3_46)), (2, .int (nI n_35)), (0, .ref m0), (1, .int (nI j_4))]) (fun k9 H locs ls hI46 ih46 => ?_) (8 - 0) _ _ _ ⟨0, (by omega), rfl, hP, hD, hS, lv_sub hl [0, 1, 2, 3] rfl⟩
      obtain ⟨k3_46, hl46_0, hm46, hP, hD, hS, hl⟩ := hI46
      refine lv_iload_n hx hb dX12_row_46 rfl (lv_at hl 0 rfl) ?_
      refine lv_iload_n hx hb dX12_row_47 rfl (lv_at hl 1 rfl) ?_
      refine lv_icmp_ge (tgt := 76) hx hb dX12_row_48 (by decide) (fun c_36 => ?_) (fun c_36 => ?_)
      · have nc_36 := cv_le (a := n_35) (b := k3_46) (by omega) (by omega) c_36
        refine lv_aload_n hx hb dX12_row_76 rfl (lv_at hl 2 rfl) ?_
        refine ct_V (wr := [(a5, .inl (κ 0, 800, .inl tp)), (a14, .inl (κ 0, 189, .inl g_a14__15)), (a15, .inl (κ 0, 9, .inl g_a15__16)), (a16, .inl (κ 0, 9, .inl g_a16__17))]) (As := []) (rest := []) hFX hKK hP hD hS hA (s_X12_remembers l D κ m0 a0 a1 a2 u3 f4 a5 0 y7__9 y8__10 y9__11 y10__28 y11__12 y12__13 y13__14 a14 a15 a16 a17 y18__29 y19__30 a20 a21 u22 a23 a24 a25 u26 f27 a28 u29 w un (by omega) h_a0 h_a2) 0 gV_X12_296 hdV_X12_remembers ⟨Nat.le_of_ble_eq_true rfl, Nat.le_of_ble_eq_true rfl⟩ rfl rfl (Nat.le_of_ble_eq_true rfl) dX12_row_77 ⟨Nat.le_of_ble_eq_true rfl, Nat.le_of_ble_eq_true rfl⟩ hl.1 [0, 1, 2] [3, 4, 5, 6] rfl rfl (by decide) (by decide) (by decide) 0 12 rfl rfl rfl trivial (fun u_39 H locs hp_40 _ hP hD hS hz_ hk_ => ?_)
        obtain ⟨y3__37, g_a2__38⟩ := u_39
        replace hP : va_P D vwCl [(m0, .inr (12, [.ref a0, .ref a1, .ref a2, .int (nI y3__37), .int f4, .ref a5, .int (nI 0), .int y7__9, .int y8__10, .int y9__11, .int y10__28, .int (nI y11__12), .int (nI y12__13), .int (nI y13__14), .ref a14, .ref a15, .ref a16, .ref a17, .int y18__29, .int y19__30, .ref a20, .ref a21, .int (nI u22), .ref a23, .ref a24, .ref a25, .int (nI u26), .int f27, .ref a28, .int (nI u29)])), (a0, .inl (κ 0, 21375, .inl w)), (a2, .inl (κ 0, 128214, .inl g_a2__38)), (a5, .inl (κ 0, 800, .inl tp)), (a14, .inl (κ 0, 189, .inl g_a14__15)), (a15, .inl (κ 0, 9, .inl g_a15__16)), (a16, .inl (κ 0, 9, .inl g_a16__17))] H := hP.sub [4, 5, 6, 0, 1, 2, 3] rfl
        replace hD : va_D A [(m0, .inr (12, [.ref a0, .ref a1, .ref a2, .int (nI y3__37), .int f4, .ref a5, .int (nI 0), .int y7__9, .int y8__10, .int y9__11, .int y10__28, .int (nI y11__12), .int (nI y12__13), .int (nI y13__14), .ref a14, .ref a15, .ref a16, .ref a17, .int y18__29, .int y19__30, .ref a20, .ref a21, .int (nI u22), .ref a23, .ref a24, .ref a25, .int (nI u26), .int f27, .ref a28, .int (nI u29)])), (a0, .inl (κ 0, 21375, .inl w)), (a2, .inl (κ 0, 128214, .inl g_a2__38)), (a5, .inl (κ 0, 800, .inl tp)), (a14, .inl (κ 0, 189, .inl g_a14__15)), (a15, .inl (κ 0, 9, .inl g_a15__16)), (a16, .inl (κ 0, 9, .inl g_a16__17))] := hD.sub [4, 5, 6, 0, 1, 2, 3] (by decide) rfl
        replace hp_40 : y3__37 ≤ 6 ∧ Pu g_a2__38 := hp_40
        obtain ⟨h_41, h_42⟩ := hp_40
        refine W.eq (g2 := F0 m 80 ls []) rfl ?_
        refine lv_aload_n hx hb dX12_row_80 rfl (lv_at hl 2 rfl) ?_
        refine lv_aload_n hx hb dX12_row_81 rfl (lv_at hl 2 rfl) ?_
        refine va_get (D := D) (ci := 12) (v := .ref a0) (C := RX12) (T := TX12) (N := 30) hx hb hts inlX12 hown hK hP 0 rfl rfl 0 (by decide) (hts _ mw_187) (fun _ h9 => h9) rfl dX12_row_82 ?_
        refine lv_iload_n hx hb dX12_row_85 rfl (lv_at hl 3 rfl) ?_
        refine lv_aload_n hx hb dX12_row_86 rfl (lv_at hl 2 rfl) ?_
        refine va_get (D := D) (ci := 12) (v := .ref a0) (C := RX12) (T := TX12) (N := 30) hx hb hts inlX12 hown hK hP 0 rfl rfl 0 (by decide) (hts _ mw_187) (fun _ h9 => h9) rfl dX12_row_87 ?_
        refine lv_iload_n hx hb dX12_row_90 rfl (lv_at hl 3 rfl) ?_
        refine lv_iconst (v := 2) hx hb dX12_row_91 (by decide) ?_
        refine cr_S (As := [.int (nI j_4), .int 2]) (rest := [.ref a0, .int (nI j_4), .ref a0, .ref m0]) hFX hKK (s_X12_at l D κ j_4 2) 2 gS_X12_66 hdS_X12_at rfl rfl ⟨Nat.le_of_ble_eq_true rfl, Nat.le_of_ble_eq_true rfl⟩ rfl rfl (Nat.le_of_ble_eq_true rfl) dX12_row_92 ⟨Nat.le_of_ble_eq_true rfl, Nat.le_of_ble_eq_true rfl⟩ hl.1 (hP.sub [] rfl) (fun _ hp_43 => ?_)
        refine W.eq (g2 := F0 m 95 ls [.int (nI (7123 * j_4 + 2)), .ref a0, .int (nI j_4), .ref a0, .ref m0]) rfl ?_
        refine va_iald hx hb hK hP 1 0 rfl rfl (i := nI (7123 * j_4 + 2)) (vp_in_nI (n := (7123 * j_4 + 2)) (by omega) (by omega)) dX12_row_95 ?_
        refine kv (v := .int (w (7123 * j_4 + 2))) (by rw [nI_clamp (by omega)]) ?_
        obtain ⟨n_44, hn_44, en_44⟩ : ∃ n9 : Nat, n9 ≤ 39 ∧ w (7123 * j_4 + 2) = nI n9 := id (a_27)
        refine kv (v := .int (nI n_44)) (congrArg Value.int en_44) ?_
        refine lv_iconst (v := 0) hx hb dX12_row_96 (by decide) ?_
        refine cr_S (As := [.int (nI j_4), .int (nI n_44), .int 0]) (rest := [.ref a0, .ref m0]) hFX hKK (s_X12_cellAt l D κ j_4 n_44 0) 3 gS_X12_167 hdS_X12_cellAt rfl rfl ⟨Nat.le_of_ble_eq_true rfl, Nat.le_of_ble_eq_true rfl⟩ rfl rfl (Nat.le_of_ble_eq_true rfl) dX12_row_97 ⟨Nat.le_of_ble_eq_true rfl, Nat.le_of_ble_eq_true rfl⟩ hl.1 (hP.sub [] rfl) (fun _ hp_45 => ?_)
        refine W.eq (g2 := F0 m 100 ls [.int (nI (7123 * j_4 + 403 + 21 * (8 * n_44 + 0))), .ref a0, .ref m0]) rfl ?_
        refine lv_iload_n hx hb dX12_row_100 rfl (lv_at hl 1 rfl) ?_
        refine ct_V (wr := [(a2, .inl (κ 0, 128214, .inl g_a2__38)), (a5, .inl (κ 0, 800, .inl tp)), (a15, .inl (κ 0, 9, .inl g_a15__16)), (a16, .inl (κ 0, 9, .inl g_a16__17))]) (As := [.ref a0, .int (nI (7123 * j_4 + 403 + 21 * (8 * n_44 + 0))), .int (nI n_35)]) (rest := []) hFX hKK hP hD hS hA (d_X12_putsRow_w l D κ m0 a0 a1 a2 y3__37 f4 a5 0 y7__9 y8__10 y9__11 y10__28 y11__12 y12__13 y13__14 a14 a15 a16 a17 y18__29 y19__30 a20 a21 u22 a23 a24 a25 u26 f27 a28 u29 w g_a14__15 (7123 * j_4 + 403 + 21 * (8 * n_44 + 0)) n_35 j_4 dq h_a0 h_23 h_dl (by omega) (by omega) (by omega) (by omega) (by omega)) 3 gV_X12_270 hdV_X12_putsRow ⟨Nat.le_of_ble_eq_true rfl, Nat.le_of_ble_eq_true rfl⟩ rfl rfl (Nat.le_of_ble_eq_true rfl) dX12_row_101 ⟨Nat.le_of_ble_eq_true rfl, Nat.le_of_ble_eq_true rfl⟩ hl.1 [0, 1, 4] [2, 3, 5, 6] rfl rfl (by decide) (by decide) (by decide) 0 12 rfl rfl rfl trivial (fun g_a0__46 H locs hp_47 _ hP hD hS hz_ hk_ => ?_)
        replace hP : va_P D vwCl [(m0, .inr (12, [.ref a0, .ref a1, .ref a2, .int (nI y3__37), .int f4, .ref a5, .int (nI 0), .int y7__9, .int y8__10, .int y9__11, .int y10__28, .int (nI y11__12), .int (nI y12__13), .int (nI y13__14), .ref a14, .ref a15, .ref a16, .ref a17, .int y18__29, .int y19__30, .ref a20, .ref a21, .int (nI u22), .ref a23, .ref a24, .ref a25, .int (nI u26), .int f27, .ref a28, .int (nI u29)])), (a0, .inl (κ 0, 21375, .inl g_a0__46)), (a2, .inl (κ 0, 128214, .inl g_a2__38)), (a5, .inl (κ 0, 800, .inl tp)), (a14, .inl (κ 0, 189, .inl g_a14__15)), (a15, .inl (κ 0, 9, .inl g_a15__16)), (a16, .inl (κ 0, 9, .inl g_a16__17))] H := hP.sub [4, 5, 0, 1, 6, 2, 3] rfl
        replace hD : va_D A [(m0, .inr (12, [.ref a0, .ref a1, .ref a2, .int (nI y3__37), .int f4, .ref a5, .int (nI 0), .int y7__9, .int y8__10, .int y9__11, .int y10__28, .int (nI y11__12), .int (nI y12__13), .int (nI y13__14), .ref a14, .ref a15, .ref a16, .ref a17, .int y18__29, .int y19__30, .ref a20, .ref a21, .int (nI u22), .ref a23, .ref a24, .ref a25, .int (nI u26), .int f27, .ref a28, .int (nI u29)])), (a0, .inl (κ 0, 21375, .inl g_a0__46)), (a2, .inl (κ 0, 128214, .inl g_a2__38)), (a5, .inl (κ 0, 800, .inl tp)), (a14, .inl (κ 0, 189, .inl g_a14__15)), (a15, .inl (κ 0, 9, .inl g_a15__16)), (a16, .inl (κ 0, 9, .inl g_a16__17))] := hD.sub [4, 5, 0, 1, 6, 2, 3] (by decide) rfl
        replace hp_47 : Pw g_a0__46 ∧ Dl dq g_a0__46 ∧ (∀ i : Nat, i < 4 → g_a0__46 (7123 * j_4 + i) = w (7123 * j_4 + i)) := hp_47
        obtain ⟨h_48, h_49, h_50⟩ := hp_47
        refine W.eq (g2 := F0 m 104 ls []) rfl ?_
        have hq : g_a0__46 (7123 * j_4 + 2) = nI n_44 := (h_50 2 (by decide)).trans en_44
        refine lv_aload_n hx hb dX12_row_104 rfl (lv_at hl 2 rfl) ?_
        refine va_get (D := D) (ci := 12) (v := .ref a0) (C := RX12) (T := TX12) (N := 30) hx hb hts inlX12 hown hK hP 0 rfl rfl 0 (by decide) (hts _ mw_187) (fun _ h9 => h9) rfl dX12_row_105 ?_
        refine lv_iload_n hx hb dX12_row_108 rfl (lv_at hl 3 rfl) ?_
        refine lv_iconst (v := 2) hx hb dX12_row_109 (by decide) ?_
        refine cr_S (As := [.int (nI j_4), .int 2]) (rest := [.ref a0]) hFX hKK (s_X12_at l D κ j_4 2) 2 gS_X12_66 hdS_X12_at rfl rfl ⟨Nat.le_of_ble_eq_true rfl, Nat.le_of_ble_eq_true rfl⟩ rfl rfl (Nat.le_of_ble_eq_true rfl) dX12_row_110 ⟨Nat.le_of_ble_eq_true rfl, Nat.le_of_ble_eq_true rfl⟩ hl.1 (hP.sub [] rfl) (fun _ hp_51 => ?_)
        refine W.eq (g2 := F0 m 113 ls [.int (nI (7123 * j_4 + 2)), .ref a0]) rfl ?_
        refine lv_dup2_11 hx hb dX12_row_113 rfl rfl ?_
        refine va_iald hx hb hK hP 1 0 rfl rfl (i := nI (7123 * j_4 + 2)) (vp_in_nI (n := (7123 * j_4 + 2)) (by omega) (by omega)) dX12_row_114 ?_
        refine kv (v := .int (g_a0__46 (7123 * j_4 + 2))) (by rw [nI_clamp (by omega)]) ?_
        refine kv (v := .int (nI n_44)) (congrArg Value.int hq) ?_
        refine lv_iconst (v := 1) hx hb dX12_row_115 (by decide) ?_
        refine lv_iadd hx hb dX12_row_116 ?_
        refine ki (v := (nI (n_44 + 1))) (nI_add n_44 1) ?_
        refine va_iast hx hb hK hP hD hS 1 0 rfl rfl (i := nI (7123 * j_4 + 2)) (x := nI (n_44 + 1)) (vp_in_nI (n := (7123 * j_4 + 2)) (by omega) (by omega)) dX12_row_117 (fun H locs hP hD hS => ?_)
        rw [nI_clamp (by omega)] at hP hD
        have hP : va_P D vwCl [(m0, .inr (12, [.ref a0, .ref a1, .ref a2, .int (nI y3__37), .int f4, .ref a5, .int (nI 0), .int y7__9, .int y8__10, .int y9__11, .int y10__28, .int (nI y11__12), .int (nI y12__13), .int (nI y13__14), .ref a14, .ref a15, .ref a16, .ref a17, .int y18__29, .int y19__30, .ref a20, .ref a21, .int (nI u22), .ref a23, .ref a24, .ref a25, .int (nI u26), .int f27, .ref a28, .int (nI u29)])), (a0, .inl (κ 0, 21375, .inl (upd g_a0__46 (7123 * j_4 + 2) (nI (n_44 + 1))))), (a2, .inl (κ 0, 128214, .inl g_a2__38)), (a5, .inl (κ 0, 800, .inl tp)), (a14, .inl (κ 0, 189, .inl g_a14__15)), (a15, .inl (κ 0, 9, .inl g_a15__16)), (a16, .inl (κ 0, 9, .inl g_a16__17))] H := hP
        have hD : va_D A [(m0, .inr (12, [.ref a0, .ref a1, .ref a2, .int (nI y3__37), .int f4, .ref a5, .int (nI 0), .int y7__9, .int y8__10, .int y9__11, .int y10__28, .int (nI y11__12), .int (nI y12__13), .int (nI y13__14), .ref a14, .ref a15, .ref a16, .ref a17, .int y18__29, .int y19__30, .ref a20, .ref a21, .int (nI u22), .ref a23, .ref a24, .ref a25, .int (nI u26), .int f27, .ref a28, .int (nI u29)])), (a0, .inl (κ 0, 21375, .inl (upd g_a0__46 (7123 * j_4 + 2) (nI (n_44 + 1))))), (a2, .inl (κ 0, 128214, .inl g_a2__38)), (a5, .inl (κ 0, 800, .inl tp)), (a14, .inl (κ 0, 189, .inl g_a14__15)), (a15, .inl (κ 0, 9, .inl g_a15__16)), (a16, .inl (κ 0, 9, .inl g_a16__17))] := hD
        have hf_53 : Pw (upd g_a0__46 (7123 * j_4 + 2) (nI (n_44 + 1))) := (Pw_upd h_48 (mMANY (t := j_4) (by omega) (by omega)) ⟨n_44 + 1, by omega, rfl⟩)
        have hf_54 : Dl dq (upd g_a0__46 (7123 * j_4 + 2) (nI (n_44 + 1))) := (Dl_upd h_49 (by omega))
        generalize upd g_a0__46 (7123 * j_4 + 2) (nI (n_44 + 1)) = g_52 at hP hD hf_53 hf_54
        refine lv_aload_n hx hb dX12_row_118 rfl (lv_at hl 2 rfl) ?_
        refine lv_iload_n hx hb dX12_row_119 rfl (lv_at hl 3 rfl) ?_
        refine ct_V (wr := [(a2, .inl (κ 0, 128214, .inl g_a2__38)), (a5, .inl (κ 0, 800, .inl tp)), (a14, .inl (κ 0, 189, .inl g_a14__15)), (a15, .inl (κ 0, 9, .inl g_a15__16)), (a16, .inl (κ 0, 9, .inl g_a16__17))]) (As := [.int (nI j_4)]) (rest := []) hFX hKK hP hD hS hA (d_X12_viewsOff l D κ m0 a0 a1 a2 y3__37 f4 a5 0 y7__9 y8__10 y9__11 y10__28 y11__12 y12__13 y13__14 a14 a15 a16 a17 y18__29 y19__30 a20 a21 u22 a23 a24 a25 u26 f27 a28 u29 g_52 j_4 dq hf_53 hf_54 (by omega)) 1 gV_X12_77 hdV_X12_viewsOff ⟨Nat.le_of_ble_eq_true rfl, Nat.le_of_ble_eq_true rfl⟩ rfl rfl (Nat.le_of_ble_eq_true rfl) dX12_row_120 ⟨Nat.le_of_ble_eq_true rfl, Nat.le_of_ble_eq_true rfl⟩ hl.1 [0, 1] [2, 3, 4, 5, 6] rfl rfl (by decide) (by decide) (by decide) 0 12 rfl rfl rfl trivial (fun g_a0__55 H locs hp_56 _ hP hD hS hz_ hk_ => ?_)
        replace hP : va_P D vwCl [(m0, .inr (12, [.ref a0, .ref a1, .ref a2, .int (nI y3__37), .int f4, .ref a5, .int (nI 0), .int y7__9, .int y8__10, .int y9__11, .int y10__28, .int (nI y11__12), .int (nI y12__13), .int (nI y13__14), .ref a14, .ref a15, .ref a16, .ref a17, .int y18__29, .int y19__30, .ref a20, .ref a21, .int (nI u22), .ref a23, .ref a24, .ref a25, .int (nI u26), .int f27, .ref a28, .int (nI u29)])), (a0, .inl (κ 0, 21375, .inl g_a0__55)), (a2, .inl (κ 0, 128214, .inl g_a2__38)), (a5, .inl (κ 0, 800, .inl tp)), (a14, .inl (κ 0, 189, .inl g_a14__15)), (a15, .inl (κ 0, 9, .inl g_a15__16)), (a16, .inl (κ 0, 9, .inl g_a16__17))] H := hP.sub [5, 6, 0, 1, 2, 3, 4] rfl
        replace hD : va_D A [(m0, .inr (12, [.ref a0, .ref a1, .ref a2, .int (nI y3__37), .int f4, .ref a5, .int (nI 0), .int y7__9, .int y8__10, .int y9__11, .int y10__28, .int (nI y11__12), .int (nI y12__13), .int (nI y13__14), .ref a14, .ref a15, .ref a16, .ref a17, .int y18__29, .int y19__30, .ref a20, .ref a21, .int (nI u22), .ref a23, .ref a24, .ref a25, .int (nI u26), .int f27, .ref a28, .int (nI u29)])), (a0, .inl (κ 0, 21375, .inl g_a0__55)), (a2, .inl (κ 0, 128214, .inl g_a2__38)), (a5, .inl (κ 0, 800, .inl tp)), (a14, .inl (κ 0, 189, .inl g_a14__15)), (a15, .inl (κ 0, 9, .inl g_a15__16)), (a16, .inl (κ 0, 9, .inl g_a16__17))] := hD.sub [5, 6, 0, 1, 2, 3, 4] (by decide) rfl
        replace hp_56 : Pw g_a0__55 ∧ Dl dq g_a0__55 ∧ g_a0__55 (7123 * j_4 + 2) = g_52 (7123 * j_4 + 2) := hp_56
        obtain ⟨h_57, h_58, h_59⟩ := hp_56
        refine W.eq (g2 := F0 m 123 ls []) rfl ?_
        refine lv_aload_n hx hb dX12_row_123 rfl (lv_at hl 2 rfl) ?_
        refine va_get (D := D) (ci := 12) (v := .ref a0) (C := RX12) (T := TX12) (N := 30) hx hb hts inlX12 hown hK hP 0 rfl rfl 0 (by decide) (hts _ mw_187) (fun _ h9 => h9) rfl dX12_row_124 ?_
        refine lv_iload_n hx hb dX12_row_127 rfl (lv_at hl 3 rfl) ?_
        refine lv_iconst (v := 2) hx hb dX12_row_128 (by decide) ?_
        refine cr_S (As := [.int (nI j_4), .int 2]) (rest := [.ref a0]) hFX hKK (s_X12_at l D κ j_4 2) 2 gS_X12_66 hdS_X12_at rfl rfl ⟨Nat.le_of_ble_eq_true rfl, Nat.le_of_ble_eq_true rfl⟩ rfl rfl (Nat.le_of_ble_eq_true rfl) dX12_row_129 ⟨Nat.le_of_ble_eq_true rfl, Nat.le_of_ble_eq_true rfl⟩ hl.1 (hP.sub [] rfl) (fun _ hp_60 => ?_)
        refine W.eq (g2 := F0 m 132 ls [.int (nI (7123 * j_4 + 2)), .ref a0]) rfl ?_
        refine va_iald hx hb hK hP 1 0 rfl rfl (i := nI (7123 * j_4 + 2)) (vp_in_nI (n := (7123 * j_4 + 2)) (by omega) (by omega)) dX12_row_132 ?_
        refine kv (v := .int (g_a0__55 (7123 * j_4 + 2))) (by rw [nI_clamp (by omega)]) ?_
        obtain ⟨n_61, hn_61, en_61⟩ : ∃ n9 : Nat, n9 ≤ 40 ∧ g_a0__55 (7123 * j_4 + 2) = nI n9 := id (h_57 _ _ (mMANY (t := j_4) (by omega) (by omega)))
        refine kv (v := .int (nI n_61)) (congrArg Value.int en_61) ?_
        exact ct_iret hx hb hr hlk rfl hS hP hD (nI n_61, y3__37, y7__9, y8__10, y9__11, y10__28, y11__12, y12__13, y13__14, y18__29, y19__30, g_a0__55, g_a2__38, g_a14__15, g_a15__16, g_a16__17) rfl ⟨(show y3__37 ≤ 6 from (by first | assumption | omega | rfl | exact Or.inl (by assumption) | exact Or.inr (by assumption))), (show PF y8__10 from (by assumption)), (show y12__13 ≤ 8 from (by first | assumption | omega | rfl | exact Or.inl (by assumption) | exact Or.inr (by assumption))), (show y13__14 ≤ 800 from (by first | assumption | omega | rfl | exact Or.inl (by assumption) | exact Or.inr (by assumption))), (show Pw g_a0__55 from (by first | assumption | omega | rfl | exact Or.inl (by assumption) | exact Or.inr (by assumption))), (show Dl dq g_a0__55 from (by first | assumption | omega | rfl | exact Or.inl (by assumption) | exact Or.inr (by assumption))), (show Pu g_a2__38 from (by first | assumption | omega | rfl | exact Or.inl (by assumption) | exact Or.inr (by assumption))), (show Pfd g_a14__15 from (by first | assumption | omega | rfl | exact Or.inl (by assumption) | exact Or.inr (by assumption))), (show Pb 9 800 g_a15__16 from (by first | assumption | omega | rfl | exact Or.inl (by assumption) | exact Or.inr (by assumption))), (show Pb 9 800 g_a16__17 from (by first | assumption | omega | rfl | exact Or.inl (by assumption) | exact Or.inr (by assumption)))⟩ [0, 1, 2, 3, 4, 5, 6] rfl (by decide) trivial (Nat.le_of_ble_eq_true rfl) (Nat.le_of_ble_eq_true rfl) dX12_row_133
      · have nc_36 := cv_nle (a := n_35) (b := k3_46) (by omega) (by omega) c_36
        refine lv_aload_n hx hb dX12_row_51 rfl (lv_at hl 2 rfl) ?_
        refine lv_iload_n hx hb dX12_row_52 rfl (lv_at hl 3 rfl) ?_
        refine lv_iload_n hx hb dX12_row_53 rfl (lv_at hl 0 rfl) ?_
        refine lv_aload_n hx hb dX12_row_54 rfl (lv_at hl 2 rfl) ?_
        refine va_get (D := D) (ci := 12) (v := .ref a14) (C := RX12) (T := TX12) (N := 30) hx hb hts inlX12 hown hK hP 0 rfl rfl 14 (by decide) (hts _ mw_194) (fun _ h9 => h9) rfl dX12_row_55 ?_
        refine lv_bipush (v := 21) hx hb dX12_row_58 (by decide) ?_
        refine lv_iload_n hx hb dX12_row_60 rfl (lv_at hl 0 rfl) ?_
        refine lv_imul hx hb dX12_row_61 ?_
        refine ki (v := (nI (21 * k3_46))) (pk_mul 21 k3_46) ?_
        refine cr_V (As := [.int (nI j_4), .int (nI k3_46), .ref a14, .int (nI (21 * k3_46))]) (rest := []) hFX hKK (s_X12_doesTake l D κ m0 a0 a1 a2 u3 f4 a5 0 y7__9 y8__10 y9__11 y10__28 y11__12 y12__13 y13__14 a14 a15 a16 a17 y18__29 y19__30 a20 a21 u22 a23 a24 a25 u26 f27 a28 u29 w j_4 k3_46 a14 189 (21 * k3_46) g_a14__15 h_a0 (by omega) (by omega) (by first | assumption | omega) (by omega) ((pfd h_23 (c := k3_46) (by omega) (by omega)))) 4 gV_X12_302 hdV_X12_doesTake rfl rfl ⟨Nat.le_of_ble_eq_true rfl, Nat.le_of_ble_eq_true rfl⟩ rfl rfl (Nat.le_of_ble_eq_true rfl) dX12_row_62 ⟨Nat.le_of_ble_eq_true rfl, Nat.le_of_ble_eq_true rfl⟩ hl.1 hP 0 12 rfl rfl rfl (hP.sub [0, 1, 4] rfl) (fun r__62 hp_63 => ?_)
        replace hp_63 : ((r__62 = 1) ∨ (r__62 = 0)) := hp_63
        have ha_64 := hp_63
        clear hp_63
        rcases ha_64 with rfl | rfl
        · refine W.eq (g2 := F0 m 65 ls [.int 1]) rfl ?_
          refine lv_if_ne (tgt := 70) hx hb dX12_row_65 (by decide) (fun c_65 => ?_) (fun c_65 => absurd c_65 (by decide))
          refine lv_iinc (v := (nI (k3_46 + 1))) (lv' := [(3, .int (nI (k3_46 + 1))), (2, .int (nI n_35)), (0, .ref m0), (1, .int (nI j_4))]) hx hb dX12_row_70 hl (k := 0) rfl (nI_i k3_46) (by decide) rfl (fun ls hl => ?_)
          refine lv_goto (tgt := 46) hx hb dX12_row_73 (by decide) ?_
          exact ih46 _ _ _ _ (by omega) ⟨(k3_46 + 1), (by omega), rfl, hP, hD, hS, lv_sub hl [0, 1, 2, 3] rfl⟩
        · refine W.eq (g2 := F0 m 65 ls [.int 0]) rfl ?_
          refine lv_if_ne (tgt := 70) hx hb dX12_row_65 (by decide) (fun c_66 => absurd c_66 (by decide)) (fun c_66 => ?_)
          refine lv_iconst (v := (-1)) hx hb dX12_row_68 (by decide) ?_
          exact ct_iret hx hb hr hlk rfl hS hP hD ((-1), u3, y7__9, y8__10, y9__11, y10__28, y11__12, y12__13, y13__14, y18__29, y19__30, w, un, g_a14__15, g_a15__16, g_a16__17) rfl ⟨(show u3 ≤ 6 from (by first | assumption | omega | rfl | exact Or.inl (by assumption) | exact Or.inr (by assumption))), (show PF y8__10 from (by assumption)), (show y12__13 ≤ 8 from (by first | assumption | omega | rfl | exact Or.inl (by assumption) | exact Or.inr (by assumption))), (show y13__14 ≤ 800 from (by first | assumption | omega | rfl | exact Or.inl (by assumption) | exact Or.inr (by assumption))), (show Pw w from (by first | assumption | omega | rfl | exact Or.inl (by assumption) | exact Or.inr (by assumption))), (show Dl dq w from (by first | assumption | omega | rfl | exact Or.inl (by assumption) | exact Or.inr (by assumption))), (show Pu un from (by first | assumption | omega | rfl | exact Or.inl (by assumption) | exact Or.inr (by assumption))), (show Pfd g_a14__15 from (by first | assumption | omega | rfl | exact Or.inl (by assumption) | exact Or.inr (by assumption))), (show Pb 9 800 g_a15__16 from (by first | assumption | omega | rfl | exact Or.inl (by assumption) | exact Or.inr (by assumption))), (show Pb 9 800 g_a16__17 from (by first | assumption | omega | rfl | exact Or.inl (by assumption) | exact Or.inr (by assumption)))⟩ [0, 1, 2, 3, 4, 5, 6] rfl (by decide) trivial (Nat.le_of_ble_eq_true rfl) (Nat.le_of_ble_eq_true rfl) dX12_row_69
    · refine W.eq (g2 := F0 m 25 ls [.int 0, .ref m0]) rfl ?_
      refine ct_V (wr := [(a0, .inl (κ 0, 21375, .inl w)), (a2, .inl (κ 0, 128214, .inl un)), (a14, .inl (κ 0, 189, .inl g_a14__15)), (a15, .inl (κ 0, 9, .inl g_a15__16)), (a16, .inl (κ 0, 9, .inl g_a16__17))]) (As := [.int 0]) (rest := []) hFX hKK hP hD hS hA (s_X12_endsReading l D κ m0 a0 a1 a2 u3 f4 a5 u6 y7__9 y8__10 y9__11 f10 y11__12 y12__13 y13__14 a14 a15 a16 a17 f18 f19 a20 a21 u22 a23 a24 a25 u26 f27 a28 u29 tp 0 (by assumption) (by decide)) 1 gV_X12_292 hdV_X12_endsReading ⟨Nat.le_of_ble_eq_true rfl, Nat.le_of_ble_eq_true rfl⟩ rfl rfl (Nat.le_of_ble_eq_true rfl) dX12_row_25 ⟨Nat.le_of_ble_eq_true rfl, Nat.le_of_ble_eq_true rfl⟩ hl.1 [0, 3] [1, 2, 4, 5, 6] rfl rfl (by decide) (by decide) (by decide) 0 12 rfl rfl rfl trivial (fun u_70 H locs hp_71 _ hP hD hS hz_ hk_ => ?_)
      obtain ⟨y10__67, y18__68, y19__69⟩ := u_70
      replace hP : va_P D vwCl [(m0, .inr (12, [.ref a0, .ref a1, .ref a2, .int (nI u3), .int f4, .ref a5, .int 0, .int y7__9, .int y8__10, .int y9__11, .int y10__67, .int (nI y11__12), .int (nI y12__13), .int (nI y13__14), .ref a14, .ref a15, .ref a16, .ref a17, .int y18__68, .int y19__69, .ref a20, .ref a21, .int (nI u22), .ref a23, .ref a24, .ref a25, .int (nI u26), .int f27, .ref a28, .int (nI u29)])), (a0, .inl (κ 0, 21375, .inl w)), (a2, .inl (κ 0, 128214, .inl un)), (a5, .inl (κ 0, 800, .inl tp)), (a14, .inl (κ 0, 189, .inl g_a14__15)), (a15, .inl (κ 0, 9, .inl g_a15__16)), (a16, .inl (κ 0, 9, .inl g_a16__17))] H := hP.sub [5, 0, 1, 6, 2, 3, 4] rfl
      replace hD : va_D A [(m0, .inr (12, [.ref a0, .ref a1, .ref a2, .int (nI u3), .int f4, .ref a5, .int 0, .int y7__9, .int y8__10, .int y9__11, .int y10__67, .int (nI y11__12), .int (nI y12__13), .int (nI y13__14), .ref a14, .ref a15, .ref a16, .ref a17, .int y18__68, .int y19__69, .ref a20, .ref a21, .int (nI u22), .ref a23, .ref a24, .ref a25, .int (nI u26), .int f27, .ref a28, .int (nI u29)])), (a0, .inl (κ 0, 21375, .inl w)), (a2, .inl (κ 0, 128214, .inl un)), (a5, .inl (κ 0, 800, .inl tp)), (a14, .inl (κ 0, 189, .inl g_a14__15)), (a15, .inl (κ 0, 9, .inl g_a15__16)), (a16, .inl (κ 0, 9, .inl g_a16__17))] := hD.sub [5, 0, 1, 6, 2, 3, 4] (by decide) rfl
      refine W.eq (g2 := F0 m 28 ls [.int 0]) rfl ?_
      refine lv_if_ne (tgt := 33) hx hb dX12_row_28 (by decide) (fun c_72 => absurd c_72 (by decide)) (fun c_72 => ?_)
      refine lv_iconst (v := (-1)) hx hb dX12_row_31 (by decide) ?_
      exact ct_iret hx hb hr hlk rfl hS hP hD ((-1), u3, y7__9, y8__10, y9__11, y10__67, y11__12, y12__13, y13__14, y18__68, y19__69, w, un, g_a14__15, g_a15__16, g_a16__17) rfl ⟨(show u3 ≤ 6 from (by first | assumption | omega | rfl | exact Or.inl (by assumption) | exact Or.inr (by assumption))), (show PF y8__10 from (by assumption)), (show y12__13 ≤ 8 from (by first | assumption | omega | rfl | exact Or.inl (by assumption) | exact Or.inr (by assumption))), (show y13__14 ≤ 800 from (by first | assumption | omega | rfl | exact Or.inl (by assumption) | exact Or.inr (by assumption))), (show Pw w from (by first | assumption | omega | rfl | exact Or.inl (by assumption) | exact Or.inr (by assumption))), (show Dl dq w from (by first | assumption | omega | rfl | exact Or.inl (by assumption) | exact Or.inr (by assumption))), (show Pu un from (by first | assumption | omega | rfl | exact Or.inl (by assumption) | exact Or.inr (by assumption))), (show Pfd g_a14__15 from (by first | assumption | omega | rfl | exact Or.inl (by assumption) | exact Or.inr (by assumption))), (show Pb 9 800 g_a15__16 from (by first | assumption | omega | rfl | exact Or.inl (by assumption) | exact Or.inr (by assumption))), (show Pb 9 800 g_a16__17 from (by first | assumption | omega | rfl | exact Or.inl (by assumption) | exact Or.inr (by assumption)))⟩ [0, 1, 2, 3, 4, 5, 6] rfl (by decide) trivial (Nat.le_of_ble_eq_true rfl) (Nat.le_of_ble_eq_true rfl) dX12_row_32
  · refine W.eq (g2 := F0 m 5 ls [.int 0]) rfl ?_
    refine lv_if_ne (tgt := 15) hx hb dX12_row_5 (by decide) (fun c_73 => absurd c_73 (by decide)) (fun c_73 => ?_)
    refine lv_aload_n hx hb dX12_row_8 rfl (lv_at hl 0 rfl) ?_
    refine lv_iconst (v := 0) hx hb dX12_row_9 (by decide) ?_
    refine va_put (D := D) (ci := 12) (v := .int 0) (ty := tyX12 6) (C := RX12) (T := TX12) (N := 30) hx hb hts inlX12 tyX12 tyX12_ok nmX12 hown hK hP hD hS 0 rfl rfl 6 (by decide) (hts _ mw_236) (fun _ h9 => h9) rfl (tyX12_ok 6 (by decide)) rfl rfl (Nat.le_of_ble_eq_true rfl) dX12_row_10 (fun H locs hP hD hS => ?_)
    have hP : va_P D vwCl [(m0, .inr (12, [.ref a0, .ref a1, .ref a2, .int (nI u3), .int f4, .ref a5, .int 0, .int f7, .int f8, .int f9, .int f10, .int (nI u11), .int (nI u12), .int (nI u13), .ref a14, .ref a15, .ref a16, .ref a17, .int f18, .int f19, .ref a20, .ref a21, .int (nI u22), .ref a23, .ref a24, .ref a25, .int (nI u26), .int f27, .ref a28, .int (nI u29)])), (a0, .inl (κ 0, 21375, .inl w)), (a2, .inl (κ 0, 128214, .inl un)), (a5, .inl (κ 0, 800, .inl tp)), (a14, .inl (κ 0, 189, .inl fd)), (a15, .inl (κ 0, 9, .inl fa)), (a16, .inl (κ 0, 9, .inl pt))] H := hP
    have hD : va_D A [(m0, .inr (12, [.ref a0, .ref a1, .ref a2, .int (nI u3), .int f4, .ref a5, .int 0, .int f7, .int f8, .int f9, .int f10, .int (nI u11), .int (nI u12), .int (nI u13), .ref a14, .ref a15, .ref a16, .ref a17, .int f18, .int f19, .ref a20, .ref a21, .int (nI u22), .ref a23, .ref a24, .ref a25, .int (nI u26), .int f27, .ref a28, .int (nI u29)])), (a0, .inl (κ 0, 21375, .inl w)), (a2, .inl (κ 0, 128214, .inl un)), (a5, .inl (κ 0, 800, .inl tp)), (a14, .inl (κ 0, 189, .inl fd)), (a15, .inl (κ 0, 9, .inl fa)), (a16, .inl (κ 0, 9, .inl pt))] := hD
    refine lv_iconst (v := (-1)) hx hb dX12_row_13 (by decide) ?_
    exact ct_iret hx hb hr hlk rfl hS hP hD ((-1), u3, f7, f8, f9, f10, u11, u12, u13, f18, f19, w, un, fd, fa, pt) rfl ⟨(show u3 ≤ 6 from (by first | assumption | omega | rfl | exact Or.inl (by assumption) | exact Or.inr (by assumption))), (show PF f8 from (by assumption)), (show u12 ≤ 8 from (by first | assumption | omega | rfl | exact Or.inl (by assumption) | exact Or.inr (by assumption))), (show u13 ≤ 800 from (by first | assumption | omega | rfl | exact Or.inl (by assumption) | exact Or.inr (by assumption))), (show Pw w from (by first | assumption | omega | rfl | exact Or.inl (by assumption) | exact Or.inr (by assumption))), (show Dl dq w from (by first | assumption | omega | rfl | exact Or.inl (by assumption) | exact Or.inr (by assumption))), (show Pu un from (by first | assumption | omega | rfl | exact Or.inl (by assumption) | exact Or.inr (by assumption))), (show Pfd fd from (by first | assumption | omega | rfl | exact Or.inl (by assumption) | exact Or.inr (by assumption))), (show Pb 9 800 fa from (by first | assumption | omega | rfl | exact Or.inl (by assumption) | exact Or.inr (by assumption))), (show Pb 9 800 pt from (by first | assumption | omega | rfl | exact Or.inl (by assumption) | exact Or.inr (by assumption)))⟩ [0, 1, 2, 3, 4, 5, 6] rfl (by decide) trivial (Nat.le_of_ble_eq_true rfl) (Nat.le_of_ble_eq_true rfl) dX12_row_14
set_option maxHeartbeats 4000000 in
set_option maxRecDepth 100000 in
theorem d_X12_put (l : Launch) (D : va_G) (κ : Nat → ClassId) (m0 : Nat) (a0 : Nat) (a1 : Nat) (a2 : Nat) (u3 : Nat) (f4 : Int32) (a5 : Nat) (u6 : Nat) (f7 : Int32) (f8 : Int32) (f9 : Int32) (f10 : Int32) (u11 : Nat) (u12 : Nat) (u13 : Nat) (a14 : Nat) (a15 : Nat) (a16 : Nat) (a17 : Nat) (f18 : Int32) (f19 : Int32) (a20 : Nat) (a21 : Nat) (u22 : Nat) (a23 : Nat) (a24 : Nat) (a25 : Nat) (u26 : Nat) (f27 : Int32) (a28 : Nat) (u29 : Nat) (w : Nat → Int32) (un : Nat → Int32) (tp : Nat → Int32) (td : Nat → Int32) (za : Int32) (zb : Int32) (zc : Int32) (dq : Nat → Int32) (h3 : u3 ≤ 6) (h6 : u6 ≤ 800) (h_a0 : Pw w) (h_a2 : Pu un) (h_a20 : Pb 1 800 td) (h_dl : Dl dq w) : Ct l yX12_put (wl yX12_put cX12_put 5 (some .boolean)) { frames := 6, cells := 0, slots := 0, locals := 142 } D κ [.ref m0, .int za, .int zb, .int zc] [(m0, .inr (12, [.ref a0, .ref a1, .ref a2, .int (nI u3), .int f4, .ref a5, .int (nI u6), .int f7, .int f8, .int f9, .int f10, .int (nI u11), .int (nI u12), .int (nI u13), .ref a14, .ref a15, .ref a16, .ref a17, .int f18, .int f19, .ref a20, .ref a21, .int (nI u22), .ref a23, .ref a24, .ref a25, .int (nI u26), .int f27, .ref a28, .int (nI u29)])), (a0, .inl (κ 0, 21375, .inl w)), (a2, .inl (κ 0, 128214, .inl un)), (a5, .inl (κ 0, 800, .inl tp)), (a20, .inl (κ 0, 801, .inl td))] (fun _ => True) (fun u9 : Int32 × Nat × (Nat → Int32) × (Nat → Int32) × (Nat → Int32) => some (.int u9.1)) (fun u9 : Int32 × Nat × (Nat → Int32) × (Nat → Int32) × (Nat → Int32) => u9.2.1 ≤ 6 ∧ Pw u9.2.2.1 ∧ Dl dq u9.2.2.1 ∧ Pu u9.2.2.2.1 ∧ Pb 1 800 u9.2.2.2.2 ∧ ((u9.1 = 1) ∨ (u9.1 = 0))) (fun u9 : Int32 × Nat × (Nat → Int32) × (Nat → Int32) × (Nat → Int32) => [(m0, .inr (12, [.ref a0, .ref a1, .ref a2, .int (nI u9.2.1), .int f4, .ref a5, .int 0, .int f7, .int f8, .int f9, .int f10, .int (nI u11), .int (nI u12), .int (nI u13), .ref a14, .ref a15, .ref a16, .ref a17, .int f18, .int f19, .ref a20, .ref a21, .int (nI u22), .ref a23, .ref a24, .ref a25, .int (nI u26), .int f27, .ref a28, .int (nI u29)])), (a0, .inl (κ 0, 21375, .inl u9.2.2.1)), (a2, .inl (κ 0, 128214, .inl u9.2.2.2.1)), (a5, .inl (κ 0, 800, .inl tp)), (a20, .inl (κ 0, 801, .inl u9.2.2.2.2))]) (fun _ _ => True) := by
  refine ct_of (by decide +kernel) (Nat.le_of_ble_eq_true rfl) ?_
  intro p e s m args below meth c A ls hx hb hr hml hts hown hlk hin hKK hK hA hP hD hS hI hl
  have hS : va_S A s.heap s.heap [] := hS
  have hFX : FX p s m args c cX12_put 5 RX12 := ⟨hx, hb, hml, hown, hts⟩
  have hl : lv_has ls 5 [(0, .ref m0), (1, .int za), (2, .int zb), (3, .int zc)] := hl
  refine lv_aload_n hx hb dX12_put_0 rfl (lv_at hl 0 rfl) ?_
  refine ct_V (wr := [(a0, .inl (κ 0, 21375, .inl w)), (a2, .inl (κ 0, 128214, .inl un))]) (As := []) (rest := []) hFX hKK hP hD hS hA (s_X12_laysTape l D κ m0 a0 a1 a2 u3 f4 a5 u6 f7 f8 f9 f10 u11 u12 u13 a14 a15 a16 a17 f18 f19 a20 a21 u22 a23 a24 a25 u26 f27 a28 u29 tp td (by omega) h_a20) 0 gV_X12_306 hdV_X12_laysTape ⟨Nat.le_of_ble_eq_true rfl, Nat.le_of_ble_eq_true rfl⟩ rfl rfl (Nat.le_of_ble_eq_true rfl) dX12_put_1 ⟨Nat.le_of_ble_eq_true rfl, Nat.le_of_ble_eq_true rfl⟩ hl.1 [0, 3, 4] [1, 2] rfl rfl (by decide) (by decide) (by decide) 0 12 rfl rfl rfl trivial (fun g_a20__1 H locs hp_2 _ hP hD hS hz_ hk_ => ?_)
  replace hP : va_P D vwCl [(m0, .inr (12, [.ref a0, .ref a1, .ref a2, .int (nI u3), .int f4, .ref a5, .int 0, .int f7, .int f8, .int f9, .int f10, .int (nI u11), .int (nI u12), .int (nI u13), .ref a14, .ref a15, .ref a16, .ref a17, .int f18, .int f19, .ref a20, .ref a21, .int (nI u22), .ref a23, .ref a24, .ref a25, .int (nI u26), .int f27, .ref a28, .int (nI u29)])), (a0, .inl (κ 0, 21375, .inl w)), (a2, .inl (κ 0, 128214, .inl un)), (a5, .inl (κ 0, 800, .inl tp)), (a20, .inl (κ 0, 801, .inl g_a20__1))] H := hP.sub [2, 0, 1, 3, 4] rfl
  replace hD : va_D A [(m0, .inr (12, [.ref a0, .ref a1, .ref a2, .int (nI u3), .int f4, .ref a5, .int 0, .int f7, .int f8, .int f9, .int f10, .int (nI u11), .int (nI u12), .int (nI u13), .ref a14, .ref a15, .ref a16, .ref a17, .int f18, .int f19, .ref a20, .ref a21, .int (nI u22), .ref a23, .ref a24, .ref a25, .int (nI u26), .int f27, .ref a28, .int (nI u29)])), (a0, .inl (κ 0, 21375, .inl w)), (a2, .inl (κ 0, 128214, .inl un)), (a5, .inl (κ 0, 800, .inl tp)), (a20, .inl (κ 0, 801, .inl g_a20__1))] := hD.sub [2, 0, 1, 3, 4] (by decide) rfl
  replace hp_2 : Pb 1 800 g_a20__1 := hp_2
  have h_3 := hp_2
  clear hp_2
  refine W.eq (g2 := F0 m 4 ls []) rfl ?_
  refine lv_aload_n hx hb dX12_put_4 rfl (lv_at hl 0 rfl) ?_
  refine lv_iload_n hx hb dX12_put_5 rfl (lv_at hl 1 rfl) ?_
  refine lv_iload_n hx hb dX12_put_6 rfl (lv_at hl 2 rfl) ?_
  refine cr_V (As := [.int za, .int zb]) (rest := []) hFX hKK (s2_X12_isRow l D κ m0 a0 a1 a2 u3 f4 a5 0 f7 f8 f9 f10 u11 u12 u13 a14 a15 a16 a17 f18 f19 a20 a21 u22 a23 a24 a25 u26 f27 a28 u29 w za zb h_a0) 2 gV_X12_309 hdV_X12_isRow rfl rfl ⟨Nat.le_of_ble_eq_true rfl, Nat.le_of_ble_eq_true rfl⟩ rfl rfl (Nat.le_of_ble_eq_true rfl) dX12_put_7 ⟨Nat.le_of_ble_eq_true rfl, Nat.le_of_ble_eq_true rfl⟩ hl.1 hP 0 12 rfl rfl rfl (hP.sub [0, 1] rfl) (fun r__4 hp_5 => ?_)
  replace hp_5 : ((r__4 = 1 ∧ (∃ j : Nat, j < 3 ∧ za = nI j) ∧ (∃ rr : Nat, (rr < 40 ∧ ∀ j9 : Nat, za = nI j9 → j9 < 3 → rr < nv (w (7123 * j9 + 2))) ∧ zb = nI rr)) ∨ (r__4 = 0)) := hp_5
  have ha_6 := hp_5
  clear hp_5
  rcases ha_6 with ⟨rfl, ⟨j_7, hj_7, rfl⟩, ⟨rr_9, ⟨hrr_9, a_11⟩, rfl⟩⟩ | rfl
  · refine W.eq (g2 := F0 m 10 ls [.int 1]) rfl ?_
    refine lv_if_eq (tgt := 43) hx hb dX12_put_10 (by decide) (fun c_12 => absurd c_12 (by decide)) (fun c_12 => ?_)
    refine lv_aload_n hx hb dX12_put_13 rfl (lv_at hl 0 rfl) ?_
    refine lv_iload_n hx hb dX12_put_14 rfl (lv_at hl 1 rfl) ?_
    refine lv_iload_n hx hb dX12_put_15 rfl (lv_at hl 3 rfl) ?_
    refine cr_V (As := [.int (nI j_7), .int zc]) (rest := []) hFX hKK (s2_X12_isColumn l D κ m0 a0 a1 a2 u3 f4 a5 0 f7 f8 f9 f10 u11 u12 u13 a14 a15 a16 a17 f18 f19 a20 a21 u22 a23 a24 a25 u26 f27 a28 u29 w (nI j_7) zc h_a0) 2 gV_X12_312 hdV_X12_isColumn rfl rfl ⟨Nat.le_of_ble_eq_true rfl, Nat.le_of_ble_eq_true rfl⟩ rfl rfl (Nat.le_of_ble_eq_true rfl) dX12_put_16 ⟨Nat.le_of_ble_eq_true rfl, Nat.le_of_ble_eq_true rfl⟩ hl.1 hP 0 12 rfl rfl rfl (hP.sub [0, 1] rfl) (fun r__13 hp_14 => ?_)
    replace hp_14 : ((r__13 = 1 ∧ (∃ j : Nat, j < 3 ∧ (nI j_7) = nI j) ∧ (∃ c : Nat, (c < 8 ∧ ∀ j9 : Nat, (nI j_7) = nI j9 → j9 < 3 → c < nv (w (7123 * j9 + 1))) ∧ zc = nI c)) ∨ (r__13 = 0)) := hp_14
    have ha_15 := hp_14
    clear hp_14
    rcases ha_15 with ⟨rfl, ⟨j_16, hj_16, e_17⟩, ⟨c_18, ⟨hc_18, a_20⟩, rfl⟩⟩ | rfl
    · refine W.eq (g2 := F0 m 19 ls [.int 1]) rfl ?_
      refine lv_if_eq (tgt := 43) hx hb dX12_put_19 (by decide) (fun c_21 => absurd c_21 (by decide)) (fun c_21 => ?_)
      refine lv_aload_n hx hb dX12_put_22 rfl (lv_at hl 0 rfl) ?_
      refine cr_V (As := []) (rest := []) hFX hKK (s_X12_isCell l D κ m0 a0 a1 a2 u3 f4 a5 0 f7 f8 f9 f10 u11 u12 u13 a14 a15 a16 a17 f18 f19 a20 a21 u22 a23 a24 a25 u26 f27 a28 u29 g_a20__1 h_3) 0 gV_X12_315 hdV_X12_isCell rfl rfl ⟨Nat.le_of_ble_eq_true rfl, Nat.le_of_ble_eq_true rfl⟩ rfl rfl (Nat.le_of_ble_eq_true rfl) dX12_put_23 ⟨Nat.le_of_ble_eq_true rfl, Nat.le_of_ble_eq_true rfl⟩ hl.1 hP 0 12 rfl rfl rfl (hP.sub [0, 4] rfl) (fun r__22 hp_23 => ?_)
      replace hp_23 : ((r__22 = 1 ∧ (∃ n9 : Nat, n9 ≤ 20 ∧ g_a20__1 0 = nI n9)) ∨ (r__22 = 0)) := hp_23
      have ha_24 := hp_23
      clear hp_23
      rcases ha_24 with ⟨rfl, a_25⟩ | rfl
      · refine W.eq (g2 := F0 m 26 ls [.int 1]) rfl ?_
        refine lv_if_eq (tgt := 43) hx hb dX12_put_26 (by decide) (fun c_26 => absurd c_26 (by decide)) (fun c_26 => ?_)
        refine lv_aload_n hx hb dX12_put_29 rfl (lv_at hl 0 rfl) ?_
        refine lv_iload_n hx hb dX12_put_30 rfl (lv_at hl 1 rfl) ?_
        refine lv_iload_n hx hb dX12_put_31 rfl (lv_at hl 3 rfl) ?_
        refine lv_aload_n hx hb dX12_put_32 rfl (lv_at hl 0 rfl) ?_
        refine va_get (D := D) (ci := 12) (v := .ref a20) (C := RX12) (T := TX12) (N := 30) hx hb hts inlX12 hown hK hP 0 rfl rfl 20 (by decide) (hts _ mw_198) (fun _ h9 => h9) rfl dX12_put_33 ?_
        refine lv_iconst (v := 0) hx hb dX12_put_36 (by decide) ?_
        refine cr_V (As := [.int (nI j_7), .int (nI c_18), .ref a20, .int 0]) (rest := []) hFX hKK (s_X12_doesTake l D κ m0 a0 a1 a2 u3 f4 a5 0 f7 f8 f9 f10 u11 u12 u13 a14 a15 a16 a17 f18 f19 a20 a21 u22 a23 a24 a25 u26 f27 a28 u29 w j_7 c_18 a20 801 0 g_a20__1 h_a0 (by omega) (by omega) (by first | assumption | omega) (by omega) (by assumption)) 4 gV_X12_302 hdV_X12_doesTake rfl rfl ⟨Nat.le_of_ble_eq_true rfl, Nat.le_of_ble_eq_true rfl⟩ rfl rfl (Nat.le_of_ble_eq_true rfl) dX12_put_37 ⟨Nat.le_of_ble_eq_true rfl, Nat.le_of_ble_eq_true rfl⟩ hl.1 hP 0 12 rfl rfl rfl (hP.sub [0, 1, 4] rfl) (fun r__27 hp_28 => ?_)
        replace hp_28 : ((r__27 = 1) ∨ (r__27 = 0)) := hp_28
        have ha_29 := hp_28
        clear hp_28
        rcases ha_29 with rfl | rfl
        · refine W.eq (g2 := F0 m 40 ls [.int 1]) rfl ?_
          refine lv_if_ne (tgt := 45) hx hb dX12_put_40 (by decide) (fun c_30 => ?_) (fun c_30 => absurd c_30 (by decide))
          refine lv_aload_n hx hb dX12_put_45 rfl (lv_at hl 0 rfl) ?_
          refine ct_V (wr := [(a5, .inl (κ 0, 800, .inl tp)), (a20, .inl (κ 0, 801, .inl g_a20__1))]) (As := []) (rest := []) hFX hKK hP hD hS hA (s_X12_remembers l D κ m0 a0 a1 a2 u3 f4 a5 0 f7 f8 f9 f10 u11 u12 u13 a14 a15 a16 a17 f18 f19 a20 a21 u22 a23 a24 a25 u26 f27 a28 u29 w un (by omega) h_a0 h_a2) 0 gV_X12_296 hdV_X12_remembers ⟨Nat.le_of_ble_eq_true rfl, Nat.le_of_ble_eq_true rfl⟩ rfl rfl (Nat.le_of_ble_eq_true rfl) dX12_put_46 ⟨Nat.le_of_ble_eq_true rfl, Nat.le_of_ble_eq_true rfl⟩ hl.1 [0, 1, 2] [3, 4] rfl rfl (by decide) (by decide) (by decide) 0 12 rfl rfl rfl trivial (fun u_33 H locs hp_34 _ hP hD hS hz_ hk_ => ?_)
          obtain ⟨y3__31, g_a2__32⟩ := u_33
          replace hP : va_P D vwCl [(m0, .inr (12, [.ref a0, .ref a1, .ref a2, .int (nI y3__31), .int f4, .ref a5, .int (nI 0), .int f7, .int f8, .int f9, .int f10, .int (nI u11), .int (nI u12), .int (nI u13), .ref a14, .ref a15, .ref a16, .ref a17, .int f18, .int f19, .ref a20, .ref a21, .int (nI u22), .ref a23, .ref a24, .ref a25, .int (nI u26), .int f27, .ref a28, .int (nI u29)])), (a0, .inl (κ 0, 21375, .inl w)), (a2, .inl (κ 0, 128214, .inl g_a2__32)), (a5, .inl (κ 0, 800, .inl tp)), (a20, .inl (κ 0, 801, .inl g_a20__1))] H := hP.sub [2, 3, 4, 0, 1] rfl
          replace hD : va_D A [(m0, .inr (12, [.ref a0, .ref a1, .ref a2, .int (nI y3__31), .int f4, .ref a5, .int (nI 0), .int f7, .int f8, .int f9, .int f10, .int (nI u11), .int (nI u12), .int (nI u13), .ref a14, .ref a15, .ref a16, .ref a17, .int f18, .int f19, .ref a20, .ref a21, .int (nI u22), .ref a23, .ref a24, .ref a25, .int (nI u26), .int f27, .ref a28, .int (nI u29)])), (a0, .inl (κ 0, 21375, .inl w)), (a2, .inl (κ 0, 128214, .inl g_a2__32)), (a5, .inl (κ 0, 800, .inl tp)), (a20, .inl (κ 0, 801, .inl g_a20__1))] := hD.sub [2, 3, 4, 0, 1] (by decide) rfl
          replace hp_34 : y3__31 ≤ 6 ∧ Pu g_a2__32 := hp_34
          obtain ⟨h_35, h_36⟩ := hp_34
          refine W.eq (g2 := F0 m 49 ls []) rfl ?_
          refine lv_iconst (v := 0) hx hb dX12_put_49 (by decide) ?_
          refine lv_istore (lv' := [(4, .int 0), (0, .ref m0), (1, .int (nI j_7)), (2, .int (nI rr_9)), (3, .int (nI c_18))]) hx hb dX12_put_50 hl (by decide) rfl (fun ls hl => ?_)
          refine loop_dn (fun k9 H locs ls => ∃ (k4_52 : Nat), ∃ (ga0_52 : Nat → Int32), (k4_52 ≤ 21) ∧ Pw ga0_52 ∧ Dl dq ga0_52 ∧ 21 - k4_52 = k9 ∧ va_P D vwCl [(m0, .inr (12, [.ref a0, .ref a1, .ref a2, .int (nI y3__31), .int f4, .ref a5, .int (nI 0), .int f7, .int f8, .int f9, .int f10, .int (nI u11), .int (nI u12), .int (nI u13), .ref a14, .ref a15, .ref a16, .ref a17, .int f18, .int f19, .ref a20, .ref a21, .int (nI u22), .ref a23, .ref a24, .ref a25, .int (nI u26), .int f27, .ref a28, .int (nI u29)])), (a0, .inl (κ 0, 21375, .inl ga0_52)), (a2, .inl (κ 0, 128214, .inl g_a2__32)), (a5, .inl (κ 0, 800, .inl tp)), (a20, .inl (κ 0, 801, .inl g_a20__1))] H ∧ va_D A [(m0, .inr (12, [.ref a0, .ref a1, .ref a2, .int (nI y3__31), .int f4, .ref a5, .int (nI 0), .int f7, .int f8, .int f9, .int f10, .int (nI u11), .int (nI u12), .int (nI u13), .ref a14, .ref a15, .ref a16, .ref a17, .int f18, .int f19, .ref a20, .ref a21, .int (nI u22), .ref a23, .ref a24, .ref a25, .int (nI u26), .int f27, .ref a28, .int (nI u29)])), (a0, .inl (κ 0, 21375, .inl ga0_52)), (a2, .inl (κ 0, 128214, .inl g_a2__32)), (a5, .inl (κ 0, 800, .inl tp)), (a20, .inl (κ 0, 801, .inl g_a20__1))] ∧ va_S A s.heap H locs ∧ lv_has ls 5 [(4, .int (nI k4_52)), (0, .ref m0), (1, .int (nI j_7)), (2, .int (nI rr_9)), (3, .int (nI c_18))]) (fun k9 H locs ls hI52 ih52 => ?_) (21 - 0) _ _ _ ⟨0, w, (by omega), h_a0, h_dl, rfl, hP, hD, hS, lv_sub hl [0, 1, 2, 3, 4] rfl⟩
          obtain ⟨k4_52, ga0_52, hl52_0, hg52_0, hg52_1, hm52, hP, hD, hS, hl⟩ := hI52
          refine lv_iload hx hb dX12_put_52 (lv_at hl 0 rfl) ?_
          refine lv_aload_n hx hb dX12_put_54 rfl (lv_at hl 1 rfl) ?_
          refine va_get (D := D) (ci := 12) (v := .ref a20) (C := RX12) (T := TX12) (N := 30) hx hb hts inlX12 hown hK hP 0 rfl rfl 20 (by decide) (hts _ mw_198) (fun _ h9 => h9) rfl dX12_put_55 ?_
          refine lv_iconst (v := 0) hx hb dX12_put_58 (by decide) ?_
          refine va_iald hx hb hK hP 4 0 rfl rfl (i := 0) (vp_k (by decide)) dX12_put_59 ?_
          obtain ⟨n_37, hn_37, en_37⟩ : ∃ n9 : Nat, n9 ≤ 20 ∧ g_a20__1 0 = nI n9 := id (a_25)
          refine kv (v := .int (nI n_37)) (congrArg Value.int en_37) ?_
          refine lv_icmp_gt (tgt := 90) hx hb dX12_put_60 (by decide) (fun c_38 => ?_) (fun c_38 => ?_)
          · have nc_38 := cv_lt (a := n_37) (b := k4_52) (by omega) (by omega) c_38
            refine lv_aload_n hx hb dX12_put_90 rfl (lv_at hl 1 rfl) ?_
            refine lv_iload_n hx hb dX12_put_91 rfl (lv_at hl 2 rfl) ?_
            refine ct_V (wr := [(a2, .inl (κ 0, 128214, .inl g_a2__32)), (a5, .inl (κ 0, 800, .inl tp)), (a20, .inl (κ 0, 801, .inl g_a20__1))]) (As := [.int (nI j_7)]) (rest := []) hFX hKK hP hD hS hA (d_X12_viewsOff l D κ m0 a0 a1 a2 y3__31 f4 a5 0 f7 f8 f9 f10 u11 u12 u13 a14 a15 a16 a17 f18 f19 a20 a21 u22 a23 a24 a25 u26 f27 a28 u29 ga0_52 j_7 dq hg52_0 hg52_1 (by omega)) 1 gV_X12_77 hdV_X12_viewsOff ⟨Nat.le_of_ble_eq_true rfl, Nat.le_of_ble_eq_true rfl⟩ rfl rfl (Nat.le_of_ble_eq_true rfl) dX12_put_92 ⟨Nat.le_of_ble_eq_true rfl, Nat.le_of_ble_eq_true rfl⟩ hl.1 [0, 1] [2, 3, 4] rfl rfl (by decide) (by decide) (by decide) 0 12 rfl rfl rfl trivial (fun g_a0__39 H locs hp_40 _ hP hD hS hz_ hk_ => ?_)
            replace hP : va_P D vwCl [(m0, .inr (12, [.ref a0, .ref a1, .ref a2, .int (nI y3__31), .int f4, .ref a5, .int (nI 0), .int f7, .int f8, .int f9, .int f10, .int (nI u11), .int (nI u12), .int (nI u13), .ref a14, .ref a15, .ref a16, .ref a17, .int f18, .int f19, .ref a20, .ref a21, .int (nI u22), .ref a23, .ref a24, .ref a25, .int (nI u26), .int f27, .ref a28, .int (nI u29)])), (a0, .inl (κ 0, 21375, .inl g_a0__39)), (a2, .inl (κ 0, 128214, .inl g_a2__32)), (a5, .inl (κ 0, 800, .inl tp)), (a20, .inl (κ 0, 801, .inl g_a20__1))] H := hP.sub [3, 4, 0, 1, 2] rfl
            replace hD : va_D A [(m0, .inr (12, [.ref a0, .ref a1, .ref a2, .int (nI y3__31), .int f4, .ref a5, .int (nI 0), .int f7, .int f8, .int f9, .int f10, .int (nI u11), .int (nI u12), .int (nI u13), .ref a14, .ref a15, .ref a16, .ref a17, .int f18, .int f19, .ref a20, .ref a21, .int (nI u22), .ref a23, .ref a24, .ref a25, .int (nI u26), .int f27, .ref a28, .int (nI u29)])), (a0, .inl (κ 0, 21375, .inl g_a0__39)), (a2, .inl (κ 0, 128214, .inl g_a2__32)), (a5, .inl (κ 0, 800, .inl tp)), (a20, .inl (κ 0, 801, .inl g_a20__1))] := hD.sub [3, 4, 0, 1, 2] (by decide) rfl
            replace hp_40 : Pw g_a0__39 ∧ Dl dq g_a0__39 ∧ g_a0__39 (7123 * j_7 + 2) = ga0_52 (7123 * j_7 + 2) := hp_40
            obtain ⟨h_41, h_42, h_43⟩ := hp_40
            refine W.eq (g2 := F0 m 95 ls []) rfl ?_
            refine lv_iconst (v := 1) hx hb dX12_put_95 (by decide) ?_
            exact ct_iret hx hb hr hlk rfl hS hP hD (1, y3__31, g_a0__39, g_a2__32, g_a20__1) rfl ⟨(show y3__31 ≤ 6 from (by first | assumption | omega | rfl | exact Or.inl (by assumption) | exact Or.inr (by assumption))), (show Pw g_a0__39 from (by first | assumption | omega | rfl | exact Or.inl (by assumption) | exact Or.inr (by assumption))), (show Dl dq g_a0__39 from (by first | assumption | omega | rfl | exact Or.inl (by assumption) | exact Or.inr (by assumption))), (show Pu g_a2__32 from (by first | assumption | omega | rfl | exact Or.inl (by assumption) | exact Or.inr (by assumption))), (show Pb 1 800 g_a20__1 from (by first | assumption | omega | rfl | exact Or.inl (by assumption) | exact Or.inr (by assumption))), (by exact Or.inl (rfl))⟩ [0, 1, 2, 3, 4] rfl (by decide) trivial (Nat.le_of_ble_eq_true rfl) (Nat.le_of_ble_eq_true rfl) dX12_put_96
          · have nc_38 := cv_nlt (a := n_37) (b := k4_52) (by omega) (by omega) c_38
            refine lv_aload_n hx hb dX12_put_63 rfl (lv_at hl 1 rfl) ?_
            refine va_get (D := D) (ci := 12) (v := .ref a0) (C := RX12) (T := TX12) (N := 30) hx hb hts inlX12 hown hK hP 0 rfl rfl 0 (by decide) (hts _ mw_187) (fun _ h9 => h9) rfl dX12_put_64 ?_
            refine lv_iload_n hx hb dX12_put_67 rfl (lv_at hl 2 rfl) ?_
            refine lv_iload_n hx hb dX12_put_68 rfl (lv_at hl 3 rfl) ?_
            refine lv_iload_n hx hb dX12_put_69 rfl (lv_at hl 4 rfl) ?_
            refine cr_S (As := [.int (nI j_7), .int (nI rr_9), .int (nI c_18)]) (rest := [.ref a0]) hFX hKK (s_X12_cellAt l D κ j_7 rr_9 c_18) 3 gS_X12_167 hdS_X12_cellAt rfl rfl ⟨Nat.le_of_ble_eq_true rfl, Nat.le_of_ble_eq_true rfl⟩ rfl rfl (Nat.le_of_ble_eq_true rfl) dX12_put_70 ⟨Nat.le_of_ble_eq_true rfl, Nat.le_of_ble_eq_true rfl⟩ hl.1 (hP.sub [] rfl) (fun _ hp_44 => ?_)
            refine W.eq (g2 := F0 m 73 ls [.int (nI (7123 * j_7 + 403 + 21 * (8 * rr_9 + c_18))), .ref a0]) rfl ?_
            refine lv_iload hx hb dX12_put_73 (lv_at hl 0 rfl) ?_
            refine lv_iadd hx hb dX12_put_75 ?_
            refine ki (v := (nI (7123 * j_7 + 403 + 21 * (8 * rr_9 + c_18) + k4_52))) (nI_add (7123 * j_7 + 403 + 21 * (8 * rr_9 + c_18)) k4_52) ?_
            refine lv_aload_n hx hb dX12_put_76 rfl (lv_at hl 1 rfl) ?_
            refine va_get (D := D) (ci := 12) (v := .ref a20) (C := RX12) (T := TX12) (N := 30) hx hb hts inlX12 hown hK hP 0 rfl rfl 20 (by decide) (hts _ mw_198) (fun _ h9 => h9) rfl dX12_put_77 ?_
            refine lv_iload hx hb dX12_put_80 (lv_at hl 0 rfl) ?_
            refine va_iald hx hb hK hP 4 0 rfl rfl (i := nI k4_52) (vp_in_nI (n := k4_52) (by omega) (by omega)) dX12_put_82 ?_
            refine kv (v := .int (g_a20__1 k4_52)) (by rw [nI_clamp (by omega)]) ?_
            obtain ⟨x_45, ex_45⟩ : ∃ y9 : Int32, g_a20__1 k4_52 = y9 := ⟨_, rfl⟩
            refine kv (v := .int x_45) (congrArg Value.int ex_45) ?_
            refine va_iast hx hb hK hP hD hS 1 0 rfl rfl (i := nI (7123 * j_7 + 403 + 21 * (8 * rr_9 + c_18) + k4_52)) (x := x_45) (vp_in_nI (n := (7123 * j_7 + 403 + 21 * (8 * rr_9 + c_18) + k4_52)) (by omega) (by omega)) dX12_put_83 (fun H locs hP hD hS => ?_)
            rw [nI_clamp (by omega)] at hP hD
            have hP : va_P D vwCl [(m0, .inr (12, [.ref a0, .ref a1, .ref a2, .int (nI y3__31), .int f4, .ref a5, .int (nI 0), .int f7, .int f8, .int f9, .int f10, .int (nI u11), .int (nI u12), .int (nI u13), .ref a14, .ref a15, .ref a16, .ref a17, .int f18, .int f19, .ref a20, .ref a21, .int (nI u22), .ref a23, .ref a24, .ref a25, .int (nI u26), .int f27, .ref a28, .int (nI u29)])), (a0, .inl (κ 0, 21375, .inl (upd ga0_52 (7123 * j_7 + 403 + 21 * (8 * rr_9 + c_18) + k4_52) x_45))), (a2, .inl (κ 0, 128214, .inl g_a2__32)), (a5, .inl (κ 0, 800, .inl tp)), (a20, .inl (κ 0, 801, .inl g_a20__1))] H := hP
            have hD : va_D A [(m0, .inr (12, [.ref a0, .ref a1, .ref a2, .int (nI y3__31), .int f4, .ref a5, .int (nI 0), .int f7, .int f8, .int f9, .int f10, .int (nI u11), .int (nI u12), .int (nI u13), .ref a14, .ref a15, .ref a16, .ref a17, .int f18, .int f19, .ref a20, .ref a21, .int (nI u22), .ref a23, .ref a24, .ref a25, .int (nI u26), .int f27, .ref a28, .int (nI u29)])), (a0, .inl (κ 0, 21375, .inl (upd ga0_52 (7123 * j_7 + 403 + 21 * (8 * rr_9 + c_18) + k4_52) x_45))), (a2, .inl (κ 0, 128214, .inl g_a2__32)), (a5, .inl (κ 0, 800, .inl tp)), (a20, .inl (κ 0, 801, .inl g_a20__1))] := hD
            have hf_47 : Pw (upd ga0_52 (7123 * j_7 + 403 + 21 * (8 * rr_9 + c_18) + k4_52) x_45) := (Pw_cell hg52_0 (t := j_7) (i := (8 * rr_9 + c_18)) (k := k4_52) (by omega) (by omega) (by omega) (by omega) (head_val0 ex_45 (by assumption)))
            have hf_48 : Dl dq (upd ga0_52 (7123 * j_7 + 403 + 21 * (8 * rr_9 + c_18) + k4_52) x_45) := (Dl_upd hg52_1 (by omega))
            generalize upd ga0_52 (7123 * j_7 + 403 + 21 * (8 * rr_9 + c_18) + k4_52) x_45 = g_46 at hP hD hf_47 hf_48
            refine lv_iinc (v := (nI (k4_52 + 1))) (lv' := [(4, .int (nI (k4_52 + 1))), (0, .ref m0), (1, .int (nI j_7)), (2, .int (nI rr_9)), (3, .int (nI c_18))]) hx hb dX12_put_84 hl (k := 0) rfl (nI_i k4_52) (by decide) rfl (fun ls hl => ?_)
            refine lv_goto (tgt := 52) hx hb dX12_put_87 (by decide) ?_
            exact ih52 _ _ _ _ (by omega) ⟨(k4_52 + 1), g_46, (by omega), hf_47, hf_48, rfl, hP, hD, hS, lv_sub hl [0, 1, 2, 3, 4] rfl⟩
        · refine W.eq (g2 := F0 m 40 ls [.int 0]) rfl ?_
          refine lv_if_ne (tgt := 45) hx hb dX12_put_40 (by decide) (fun c_49 => absurd c_49 (by decide)) (fun c_49 => ?_)
          refine lv_iconst (v := 0) hx hb dX12_put_43 (by decide) ?_
          exact ct_iret hx hb hr hlk rfl hS hP hD (0, u3, w, un, g_a20__1) rfl ⟨(show u3 ≤ 6 from (by first | assumption | omega | rfl | exact Or.inl (by assumption) | exact Or.inr (by assumption))), (show Pw w from (by first | assumption | omega | rfl | exact Or.inl (by assumption) | exact Or.inr (by assumption))), (show Dl dq w from (by first | assumption | omega | rfl | exact Or.inl (by assumption) | exact Or.inr (by assumption))), (show Pu un from (by first | assumption | omega | rfl | exact Or.inl (by assumption) | exact Or.inr (by assumption))), (show Pb 1 800 g_a20__1 from (by first | assumption | omega | rfl | exact Or.inl (by assumption) | exact Or.inr (by assumption))), (by exact Or.inr ((rfl)))⟩ [0, 1, 2, 3, 4] rfl (by decide) trivial (Nat.le_of_ble_eq_true rfl) (Nat.le_of_ble_eq_true rfl) dX12_put_44
      · refine W.eq (g2 := F0 m 26 ls [.int 0]) rfl ?_
        refine lv_if_eq (tgt := 43) hx hb dX12_put_26 (by decide) (fun c_50 => ?_) (fun c_50 => absurd (by decide) c_50)
        refine lv_iconst (v := 0) hx hb dX12_put_43 (by decide) ?_
        exact ct_iret hx hb hr hlk rfl hS hP hD (0, u3, w, un, g_a20__1) rfl ⟨(show u3 ≤ 6 from (by first | assumption | omega | rfl | exact Or.inl (by assumption) | exact Or.inr (by assumption))), (show Pw w from (by first | assumption | omega | rfl | exact Or.inl (by assumption) | exact Or.inr (by assumption))), (show Dl dq w from (by first | assumption | omega | rfl | exact Or.inl (by assumption) | exact Or.inr (by assumption))), (show Pu un from (by first | assumption | omega | rfl | exact Or.inl (by assumption) | exact Or.inr (by assumption))), (show Pb 1 800 g_a20__1 from (by first | assumption | omega | rfl | exact Or.inl (by assumption) | exact Or.inr (by assumption))), (by exact Or.inr ((rfl)))⟩ [0, 1, 2, 3, 4] rfl (by decide) trivial (Nat.le_of_ble_eq_true rfl) (Nat.le_of_ble_eq_true rfl) dX12_put_44
    · refine W.eq (g2 := F0 m 19 ls [.int 0]) rfl ?_
      refine lv_if_eq (tgt := 43) hx hb dX12_put_19 (by decide) (fun c_51 => ?_) (fun c_51 => absurd (by decide) c_51)
      refine lv_iconst (v := 0) hx hb dX12_put_43 (by decide) ?_
      exact ct_iret hx hb hr hlk rfl hS hP hD (0, u3, w, un, g_a20__1) rfl ⟨(show u3 ≤ 6 from (by first | assumption | omega | rfl | exact Or.inl (by assumption) | exact Or.inr (by assumption))), (show Pw w from (by first | assumption | omega | rfl | exact Or.inl (by assumption) | exact Or.inr (by assumption))), (show Dl dq w from (by first | assumption | omega | rfl | exact Or.inl (by assumption) | exact Or.inr (by assumption))), (show Pu un from (by first | assumption | omega | rfl | exact Or.inl (by assumption) | exact Or.inr (by assumption))), (show Pb 1 800 g_a20__1 from (by first | assumption | omega | rfl | exact Or.inl (by assumption) | exact Or.inr (by assumption))), (by exact Or.inr ((rfl)))⟩ [0, 1, 2, 3, 4] rfl (by decide) trivial (Nat.le_of_ble_eq_true rfl) (Nat.le_of_ble_eq_true rfl) dX12_put_44
  · refine W.eq (g2 := F0 m 10 ls [.int 0]) rfl ?_
    refine lv_if_eq (tgt := 43) hx hb dX12_put_10 (by decide) (fun c_52 => ?_) (fun c_52 => absurd (by decide) c_52)
    refine lv_iconst (v := 0) hx hb dX12_put_43 (by decide) ?_
    exact ct_iret hx hb hr hlk rfl hS hP hD (0, u3, w, un, g_a20__1) rfl ⟨(show u3 ≤ 6 from (by first | assumption | omega | rfl | exact Or.inl (by assumption) | exact Or.inr (by assumption))), (show Pw w from (by first | assumption | omega | rfl | exact Or.inl (by assumption) | exact Or.inr (by assumption))), (show Dl dq w from (by first | assumption | omega | rfl | exact Or.inl (by assumption) | exact Or.inr (by assumption))), (show Pu un from (by first | assumption | omega | rfl | exact Or.inl (by assumption) | exact Or.inr (by assumption))), (show Pb 1 800 g_a20__1 from (by first | assumption | omega | rfl | exact Or.inl (by assumption) | exact Or.inr (by assumption))), (by exact Or.inr ((rfl)))⟩ [0, 1, 2, 3, 4] rfl (by decide) trivial (Nat.le_of_ble_eq_true rfl) (Nat.le_of_ble_eq_true rfl) dX12_put_44
set_option maxHeartbeats 4000000 in
set_option maxRecDepth 100000 in
theorem d_X12_name (l : Launch) (D : va_G) (κ : Nat → ClassId) (m0 : Nat) (a0 : Nat) (a1 : Nat) (a2 : Nat) (u3 : Nat) (f4 : Int32) (a5 : Nat) (u6 : Nat) (f7 : Int32) (f8 : Int32) (f9 : Int32) (f10 : Int32) (u11 : Nat) (u12 : Nat) (u13 : Nat) (a14 : Nat) (a15 : Nat) (a16 : Nat) (a17 : Nat) (f18 : Int32) (f19 : Int32) (a20 : Nat) (a21 : Nat) (u22 : Nat) (a23 : Nat) (a24 : Nat) (a25 : Nat) (u26 : Nat) (f27 : Int32) (a28 : Nat) (u29 : Nat) (w : Nat → Int32) (un : Nat → Int32) (tp : Nat → Int32) (td : Nat → Int32) (za : Int32) (zb : Int32) (dq : Nat → Int32) (h3 : u3 ≤ 6) (h6 : u6 ≤ 800) (h_a0 : Pw w) (h_a2 : Pu un) (h_a20 : Pb 1 800 td) (h_dl : Dl dq w) : Ct l yX12_name (wl yX12_name cX12_name 5 (some .boolean)) { frames := 4, cells := 0, slots := 0, locals := 87 } D κ [.ref m0, .int za, .int zb] [(m0, .inr (12, [.ref a0, .ref a1, .ref a2, .int (nI u3), .int f4, .ref a5, .int (nI u6), .int f7, .int f8, .int f9, .int f10, .int (nI u11), .int (nI u12), .int (nI u13), .ref a14, .ref a15, .ref a16, .ref a17, .int f18, .int f19, .ref a20, .ref a21, .int (nI u22), .ref a23, .ref a24, .ref a25, .int (nI u26), .int f27, .ref a28, .int (nI u29)])), (a0, .inl (κ 0, 21375, .inl w)), (a2, .inl (κ 0, 128214, .inl un)), (a5, .inl (κ 0, 800, .inl tp)), (a20, .inl (κ 0, 801, .inl td))] (fun _ => True) (fun u9 : Int32 × Nat × (Nat → Int32) × (Nat → Int32) × (Nat → Int32) => some (.int u9.1)) (fun u9 : Int32 × Nat × (Nat → Int32) × (Nat → Int32) × (Nat → Int32) => u9.2.1 ≤ 6 ∧ Pw u9.2.2.1 ∧ Dl dq u9.2.2.1 ∧ Pu u9.2.2.2.1 ∧ Pb 1 800 u9.2.2.2.2 ∧ ((u9.1 = 1) ∨ (u9.1 = 0))) (fun u9 : Int32 × Nat × (Nat → Int32) × (Nat → Int32) × (Nat → Int32) => [(m0, .inr (12, [.ref a0, .ref a1, .ref a2, .int (nI u9.2.1), .int f4, .ref a5, .int 0, .int f7, .int f8, .int f9, .int f10, .int (nI u11), .int (nI u12), .int (nI u13), .ref a14, .ref a15, .ref a16, .ref a17, .int f18, .int f19, .ref a20, .ref a21, .int (nI u22), .ref a23, .ref a24, .ref a25, .int (nI u26), .int f27, .ref a28, .int (nI u29)])), (a0, .inl (κ 0, 21375, .inl u9.2.2.1)), (a2, .inl (κ 0, 128214, .inl u9.2.2.2.1)), (a5, .inl (κ 0, 800, .inl tp)), (a20, .inl (κ 0, 801, .inl u9.2.2.2.2))]) (fun _ _ => True) := by
  refine ct_of (by decide +kernel) (Nat.le_of_ble_eq_true rfl) ?_
  intro p e s m args below meth c A ls hx hb hr hml hts hown hlk hin hKK hK hA hP hD hS hI hl
  have hS : va_S A s.heap s.heap [] := hS
  have hFX : FX p s m args c cX12_name 5 RX12 := ⟨hx, hb, hml, hown, hts⟩
  have hl : lv_has ls 5 [(0, .ref m0), (1, .int za), (2, .int zb)] := hl
  refine lv_aload_n hx hb dX12_name_0 rfl (lv_at hl 0 rfl) ?_
  refine ct_V (wr := [(a0, .inl (κ 0, 21375, .inl w)), (a2, .inl (κ 0, 128214, .inl un))]) (As := []) (rest := []) hFX hKK hP hD hS hA (s_X12_laysTape l D κ m0 a0 a1 a2 u3 f4 a5 u6 f7 f8 f9 f10 u11 u12 u13 a14 a15 a16 a17 f18 f19 a20 a21 u22 a23 a24 a25 u26 f27 a28 u29 tp td (by omega) h_a20) 0 gV_X12_306 hdV_X12_laysTape ⟨Nat.le_of_ble_eq_true rfl, Nat.le_of_ble_eq_true rfl⟩ rfl rfl (Nat.le_of_ble_eq_true rfl) dX12_name_1 ⟨Nat.le_of_ble_eq_true rfl, Nat.le_of_ble_eq_true rfl⟩ hl.1 [0, 3, 4] [1, 2] rfl rfl (by decide) (by decide) (by decide) 0 12 rfl rfl rfl trivial (fun g_a20__1 H locs hp_2 _ hP hD hS hz_ hk_ => ?_)
  replace hP : va_P D vwCl [(m0, .inr (12, [.ref a0, .ref a1, .ref a2, .int (nI u3), .int f4, .ref a5, .int 0, .int f7, .int f8, .int f9, .int f10, .int (nI u11), .int (nI u12), .int (nI u13), .ref a14, .ref a15, .ref a16, .ref a17, .int f18, .int f19, .ref a20, .ref a21, .int (nI u22), .ref a23, .ref a24, .ref a25, .int (nI u26), .int f27, .ref a28, .int (nI u29)])), (a0, .inl (κ 0, 21375, .inl w)), (a2, .inl (κ 0, 128214, .inl un)), (a5, .inl (κ 0, 800, .inl tp)), (a20, .inl (κ 0, 801, .inl g_a20__1))] H := hP.sub [2, 0, 1, 3, 4] rfl
  replace hD : va_D A [(m0, .inr (12, [.ref a0, .ref a1, .ref a2, .int (nI u3), .int f4, .ref a5, .int 0, .int f7, .int f8, .int f9, .int f10, .int (nI u11), .int (nI u12), .int (nI u13), .ref a14, .ref a15, .ref a16, .ref a17, .int f18, .int f19, .ref a20, .ref a21, .int (nI u22), .ref a23, .ref a24, .ref a25, .int (nI u26), .int f27, .ref a28, .int (nI u29)])), (a0, .inl (κ 0, 21375, .inl w)), (a2, .inl (κ 0, 128214, .inl un)), (a5, .inl (κ 0, 800, .inl tp)), (a20, .inl (κ 0, 801, .inl g_a20__1))] := hD.sub [2, 0, 1, 3, 4] (by decide) rfl
  replace hp_2 : Pb 1 800 g_a20__1 := hp_2
  have h_3 := hp_2
  clear hp_2
  refine W.eq (g2 := F0 m 4 ls []) rfl ?_
  refine lv_aload_n hx hb dX12_name_4 rfl (lv_at hl 0 rfl) ?_
  refine lv_iload_n hx hb dX12_name_5 rfl (lv_at hl 1 rfl) ?_
  refine lv_iload_n hx hb dX12_name_6 rfl (lv_at hl 2 rfl) ?_
  refine cr_V (As := [.int za, .int zb]) (rest := []) hFX hKK (s2_X12_isColumn l D κ m0 a0 a1 a2 u3 f4 a5 0 f7 f8 f9 f10 u11 u12 u13 a14 a15 a16 a17 f18 f19 a20 a21 u22 a23 a24 a25 u26 f27 a28 u29 w za zb h_a0) 2 gV_X12_312 hdV_X12_isColumn rfl rfl ⟨Nat.le_of_ble_eq_true rfl, Nat.le_of_ble_eq_true rfl⟩ rfl rfl (Nat.le_of_ble_eq_true rfl) dX12_name_7 ⟨Nat.le_of_ble_eq_true rfl, Nat.le_of_ble_eq_true rfl⟩ hl.1 hP 0 12 rfl rfl rfl (hP.sub [0, 1] rfl) (fun r__4 hp_5 => ?_)
  replace hp_5 : ((r__4 = 1 ∧ (∃ j : Nat, j < 3 ∧ za = nI j) ∧ (∃ c : Nat, (c < 8 ∧ ∀ j9 : Nat, za = nI j9 → j9 < 3 → c < nv (w (7123 * j9 + 1))) ∧ zb = nI c)) ∨ (r__4 = 0)) := hp_5
  have ha_6 := hp_5
  clear hp_5
  rcases ha_6 with ⟨rfl, ⟨j_7, hj_7, rfl⟩, ⟨c_9, ⟨hc_9, a_11⟩, rfl⟩⟩ | rfl
  · refine W.eq (g2 := F0 m 10 ls [.int 1]) rfl ?_
    refine lv_if_eq (tgt := 24) hx hb dX12_name_10 (by decide) (fun c_12 => absurd c_12 (by decide)) (fun c_12 => ?_)
    refine lv_aload_n hx hb dX12_name_13 rfl (lv_at hl 0 rfl) ?_
    refine va_get (D := D) (ci := 12) (v := .ref a20) (C := RX12) (T := TX12) (N := 30) hx hb hts inlX12 hown hK hP 0 rfl rfl 20 (by decide) (hts _ mw_198) (fun _ h9 => h9) rfl dX12_name_14 ?_
    refine lv_iconst (v := 0) hx hb dX12_name_17 (by decide) ?_
    refine cr_S (As := [.ref a20, .int 0]) (rest := []) hFX hKK (s_X12_isName l D κ a20 801 g_a20__1 0 800 (by first | assumption | omega) (by omega) (by omega) (h_3 0 (by omega))) 2 gS_X12_241 hdS_X12_isName rfl rfl ⟨Nat.le_of_ble_eq_true rfl, Nat.le_of_ble_eq_true rfl⟩ rfl rfl (Nat.le_of_ble_eq_true rfl) dX12_name_18 ⟨Nat.le_of_ble_eq_true rfl, Nat.le_of_ble_eq_true rfl⟩ hl.1 (hP.sub [4] rfl) (fun r__13 hp_14 => ?_)
    replace hp_14 : ((r__13 = 1 ∧ (∃ n9 : Nat, n9 ≤ 12 ∧ g_a20__1 0 = nI n9)) ∨ (r__13 = 0)) := hp_14
    have ha_15 := hp_14
    clear hp_14
    rcases ha_15 with ⟨rfl, a_16⟩ | rfl
    · refine W.eq (g2 := F0 m 21 ls [.int 1]) rfl ?_
      refine lv_if_ne (tgt := 26) hx hb dX12_name_21 (by decide) (fun c_17 => ?_) (fun c_17 => absurd c_17 (by decide))
      refine lv_aload_n hx hb dX12_name_26 rfl (lv_at hl 0 rfl) ?_
      refine lv_iload_n hx hb dX12_name_27 rfl (lv_at hl 1 rfl) ?_
      refine lv_aload_n hx hb dX12_name_28 rfl (lv_at hl 0 rfl) ?_
      refine va_get (D := D) (ci := 12) (v := .ref a20) (C := RX12) (T := TX12) (N := 30) hx hb hts inlX12 hown hK hP 0 rfl rfl 20 (by decide) (hts _ mw_198) (fun _ h9 => h9) rfl dX12_name_29 ?_
      refine lv_iconst (v := 0) hx hb dX12_name_32 (by decide) ?_
      refine cr_V (As := [.int (nI j_7), .ref a20, .int 0]) (rest := []) hFX hKK (s_X12_named l D κ m0 a0 a1 a2 u3 f4 a5 0 f7 f8 f9 f10 u11 u12 u13 a14 a15 a16 a17 f18 f19 a20 a21 u22 a23 a24 a25 u26 f27 a28 u29 w j_7 a20 801 0 g_a20__1 h_a0 (by omega) (by first | assumption | omega) (by omega) (h_3 0 (by omega))) 3 gV_X12_321 hdV_X12_named rfl rfl ⟨Nat.le_of_ble_eq_true rfl, Nat.le_of_ble_eq_true rfl⟩ rfl rfl (Nat.le_of_ble_eq_true rfl) dX12_name_33 ⟨Nat.le_of_ble_eq_true rfl, Nat.le_of_ble_eq_true rfl⟩ hl.1 hP 0 12 rfl rfl rfl (hP.sub [0, 1, 4] rfl) (fun r__18 hp_19 => ?_)
      refine W.eq (g2 := F0 m 36 ls [.int r__18]) rfl ?_
      refine lv_istore_n (lv' := [(3, .int r__18), (0, .ref m0), (1, .int (nI j_7)), (2, .int (nI c_9))]) hx hb dX12_name_36 rfl hl (by decide) rfl (fun ls hl => ?_)
      refine lv_iload_n hx hb dX12_name_37 rfl (lv_at hl 0 rfl) ?_
      refine lv_iconst (v := (-1)) hx hb dX12_name_38 (by decide) ?_
      refine lv_icmp_eq (tgt := 49) hx hb dX12_name_39 (by decide) (fun c_20 => ?_) (fun c_20 => ?_)
      · refine lv_aload_n hx hb dX12_name_49 rfl (lv_at hl 1 rfl) ?_
        refine ct_V (wr := [(a5, .inl (κ 0, 800, .inl tp)), (a20, .inl (κ 0, 801, .inl g_a20__1))]) (As := []) (rest := []) hFX hKK hP hD hS hA (s_X12_remembers l D κ m0 a0 a1 a2 u3 f4 a5 0 f7 f8 f9 f10 u11 u12 u13 a14 a15 a16 a17 f18 f19 a20 a21 u22 a23 a24 a25 u26 f27 a28 u29 w un (by omega) h_a0 h_a2) 0 gV_X12_296 hdV_X12_remembers ⟨Nat.le_of_ble_eq_true rfl, Nat.le_of_ble_eq_true rfl⟩ rfl rfl (Nat.le_of_ble_eq_true rfl) dX12_name_50 ⟨Nat.le_of_ble_eq_true rfl, Nat.le_of_ble_eq_true rfl⟩ hl.1 [0, 1, 2] [3, 4] rfl rfl (by decide) (by decide) (by decide) 0 12 rfl rfl rfl trivial (fun u_23 H locs hp_24 _ hP hD hS hz_ hk_ => ?_)
        obtain ⟨y3__21, g_a2__22⟩ := u_23
        replace hP : va_P D vwCl [(m0, .inr (12, [.ref a0, .ref a1, .ref a2, .int (nI y3__21), .int f4, .ref a5, .int (nI 0), .int f7, .int f8, .int f9, .int f10, .int (nI u11), .int (nI u12), .int (nI u13), .ref a14, .ref a15, .ref a16, .ref a17, .int f18, .int f19, .ref a20, .ref a21, .int (nI u22), .ref a23, .ref a24, .ref a25, .int (nI u26), .int f27, .ref a28, .int (nI u29)])), (a0, .inl (κ 0, 21375, .inl w)), (a2, .inl (κ 0, 128214, .inl g_a2__22)), (a5, .inl (κ 0, 800, .inl tp)), (a20, .inl (κ 0, 801, .inl g_a20__1))] H := hP.sub [2, 3, 4, 0, 1] rfl
        replace hD : va_D A [(m0, .inr (12, [.ref a0, .ref a1, .ref a2, .int (nI y3__21), .int f4, .ref a5, .int (nI 0), .int f7, .int f8, .int f9, .int f10, .int (nI u11), .int (nI u12), .int (nI u13), .ref a14, .ref a15, .ref a16, .ref a17, .int f18, .int f19, .ref a20, .ref a21, .int (nI u22), .ref a23, .ref a24, .ref a25, .int (nI u26), .int f27, .ref a28, .int (nI u29)])), (a0, .inl (κ 0, 21375, .inl w)), (a2, .inl (κ 0, 128214, .inl g_a2__22)), (a5, .inl (κ 0, 800, .inl tp)), (a20, .inl (κ 0, 801, .inl g_a20__1))] := hD.sub [2, 3, 4, 0, 1] (by decide) rfl
        replace hp_24 : y3__21 ≤ 6 ∧ Pu g_a2__22 := hp_24
        obtain ⟨h_25, h_26⟩ := hp_24
        refine W.eq (g2 := F0 m 53 ls []) rfl ?_
        refine lv_iconst (v := 0) hx hb dX12_name_53 (by decide) ?_
        refine lv_istore (lv' := [(4, .int 0), (3, .int r__18), (0, .ref m0), (1, .int (nI j_7)), (2, .int (nI c_9))]) hx hb dX12_name_54 hl (by decide) rfl (fun ls hl => ?_)
        refine loop_dn (fun k9 H locs ls => ∃ (k4_56 : Nat), ∃ (ga0_56 : Nat → Int32), (k4_56 ≤ 13) ∧ Pw ga0_56 ∧ Dl dq ga0_56 ∧ 13 - k4_56 = k9 ∧ va_P D vwCl [(m0, .inr (12, [.ref a0, .ref a1, .ref a2, .int (nI y3__21), .int f4, .ref a5, .int (nI 0), .int f7, .int f8, .int f9, .int f10, .int (nI u11), .int (nI u12), .int (nI u13), .ref a14, .ref a15, .ref a16, .ref a17, .int f18, .int f19, .ref a20, .ref a21, .int (nI u22), .ref a23, .ref a24, .ref a25, .int (nI u26), .int f27, .ref a28, .int (nI u29)])), (a0, .inl (κ 0, 21375, .inl ga0_56)), (a2, .inl (κ 0, 128214, .inl g_a2__22)), (a5, .inl (κ 0, 800, .inl tp)), (a20, .inl (κ 0, 801, .inl g_a20__1))] H ∧ va_D A [(m0, .inr (12, [.ref a0, .ref a1, .ref a2, .int (nI y3__21), .int f4, .ref a5, .int (nI 0), .int f7, .int f8, .int f9, .int f10, .int (nI u11), .int (nI u12), .int (nI u13), .ref a14, .ref a15, .ref a16, .ref a17, .int f18, .int f19, .ref a20, .ref a21, .int (nI u22), .ref a23, .ref a24, .ref a25, .int (nI u26), .int f27, .ref a28, .int (nI u29)])), (a0, .inl (κ 0, 21375, .inl ga0_56)), (a2, .inl (κ 0, 128214, .inl g_a2__22)), (a5, .inl (κ 0, 800, .inl tp)), (a20, .inl (κ 0, 801, .inl g_a20__1))] ∧ va_S A s.heap H locs ∧ lv_has ls 5 [(4, .int (nI k4_56)), (3, .int r__18), (0, .ref m0), (1, .int (nI j_7)), (2, .int (nI c_9))]) (fun k9 H locs ls hI56 ih56 => ?_) (13 - 0) _ _ _ ⟨0, w, (by omega), h_a0, h_dl, rfl, hP, hD, hS, lv_sub hl [0, 1, 2, 3, 4] rfl⟩
        obtain ⟨k4_56, ga0_56, hl56_0, hg56_0, hg56_1, hm56, hP, hD, hS, hl⟩ := hI56
        refine lv_iload hx hb dX12_name_56 (lv_at hl 0 rfl) ?_
        refine lv_aload_n hx hb dX12_name_58 rfl (lv_at hl 2 rfl) ?_
        refine va_get (D := D) (ci := 12) (v := .ref a20) (C := RX12) (T := TX12) (N := 30) hx hb hts inlX12 hown hK hP 0 rfl rfl 20 (by decide) (hts _ mw_198) (fun _ h9 => h9) rfl dX12_name_59 ?_
        refine lv_iconst (v := 0) hx hb dX12_name_62 (by decide) ?_
        refine va_iald hx hb hK hP 4 0 rfl rfl (i := 0) (vp_k (by decide)) dX12_name_63 ?_
        obtain ⟨n_27, hn_27, en_27⟩ : ∃ n9 : Nat, n9 ≤ 12 ∧ g_a20__1 0 = nI n9 := id (a_16)
        refine kv (v := .int (nI n_27)) (congrArg Value.int en_27) ?_
        refine lv_icmp_gt (tgt := 93) hx hb dX12_name_64 (by decide) (fun c_28 => ?_) (fun c_28 => ?_)
        · have nc_28 := cv_lt (a := n_27) (b := k4_56) (by omega) (by omega) c_28
          refine lv_aload_n hx hb dX12_name_93 rfl (lv_at hl 2 rfl) ?_
          refine lv_iload_n hx hb dX12_name_94 rfl (lv_at hl 3 rfl) ?_
          refine ct_V (wr := [(a2, .inl (κ 0, 128214, .inl g_a2__22)), (a5, .inl (κ 0, 800, .inl tp)), (a20, .inl (κ 0, 801, .inl g_a20__1))]) (As := [.int (nI j_7)]) (rest := []) hFX hKK hP hD hS hA (d_X12_viewsOff l D κ m0 a0 a1 a2 y3__21 f4 a5 0 f7 f8 f9 f10 u11 u12 u13 a14 a15 a16 a17 f18 f19 a20 a21 u22 a23 a24 a25 u26 f27 a28 u29 ga0_56 j_7 dq hg56_0 hg56_1 (by omega)) 1 gV_X12_77 hdV_X12_viewsOff ⟨Nat.le_of_ble_eq_true rfl, Nat.le_of_ble_eq_true rfl⟩ rfl rfl (Nat.le_of_ble_eq_true rfl) dX12_name_95 ⟨Nat.le_of_ble_eq_true rfl, Nat.le_of_ble_eq_true rfl⟩ hl.1 [0, 1] [2, 3, 4] rfl rfl (by decide) (by decide) (by decide) 0 12 rfl rfl rfl trivial (fun g_a0__29 H locs hp_30 _ hP hD hS hz_ hk_ => ?_)
          replace hP : va_P D vwCl [(m0, .inr (12, [.ref a0, .ref a1, .ref a2, .int (nI y3__21), .int f4, .ref a5, .int (nI 0), .int f7, .int f8, .int f9, .int f10, .int (nI u11), .int (nI u12), .int (nI u13), .ref a14, .ref a15, .ref a16, .ref a17, .int f18, .int f19, .ref a20, .ref a21, .int (nI u22), .ref a23, .ref a24, .ref a25, .int (nI u26), .int f27, .ref a28, .int (nI u29)])), (a0, .inl (κ 0, 21375, .inl g_a0__29)), (a2, .inl (κ 0, 128214, .inl g_a2__22)), (a5, .inl (κ 0, 800, .inl tp)), (a20, .inl (κ 0, 801, .inl g_a20__1))] H := hP.sub [3, 4, 0, 1, 2] rfl
          replace hD : va_D A [(m0, .inr (12, [.ref a0, .ref a1, .ref a2, .int (nI y3__21), .int f4, .ref a5, .int (nI 0), .int f7, .int f8, .int f9, .int f10, .int (nI u11), .int (nI u12), .int (nI u13), .ref a14, .ref a15, .ref a16, .ref a17, .int f18, .int f19, .ref a20, .ref a21, .int (nI u22), .ref a23, .ref a24, .ref a25, .int (nI u26), .int f27, .ref a28, .int (nI u29)])), (a0, .inl (κ 0, 21375, .inl g_a0__29)), (a2, .inl (κ 0, 128214, .inl g_a2__22)), (a5, .inl (κ 0, 800, .inl tp)), (a20, .inl (κ 0, 801, .inl g_a20__1))] := hD.sub [3, 4, 0, 1, 2] (by decide) rfl
          replace hp_30 : Pw g_a0__29 ∧ Dl dq g_a0__29 ∧ g_a0__29 (7123 * j_7 + 2) = ga0_56 (7123 * j_7 + 2) := hp_30
          obtain ⟨h_31, h_32, h_33⟩ := hp_30
          refine W.eq (g2 := F0 m 98 ls []) rfl ?_
          refine lv_iconst (v := 1) hx hb dX12_name_98 (by decide) ?_
          exact ct_iret hx hb hr hlk rfl hS hP hD (1, y3__21, g_a0__29, g_a2__22, g_a20__1) rfl ⟨(show y3__21 ≤ 6 from (by first | assumption | omega | rfl | exact Or.inl (by assumption) | exact Or.inr (by assumption))), (show Pw g_a0__29 from (by first | assumption | omega | rfl | exact Or.inl (by assumption) | exact Or.inr (by assumption))), (show Dl dq g_a0__29 from (by first | assumption | omega | rfl | exact Or.inl (by assumption) | exact Or.inr (by assumption))), (show Pu g_a2__22 from (by first | assumption | omega | rfl | exact Or.inl (by assumption) | exact Or.inr (by assumption))), (show Pb 1 800 g_a20__1 from (by first | assumption | omega | rfl | exact Or.inl (by assumption) | exact Or.inr (by assumption))), (by exact Or.inl (rfl))⟩ [0, 1, 2, 3, 4] rfl (by decide) trivial (Nat.le_of_ble_eq_true rfl) (Nat.le_of_ble_eq_true rfl) dX12_name_99
        · have nc_28 := cv_nlt (a := n_27) (b := k4_56) (by omega) (by omega) c_28
          refine lv_aload_n hx hb dX12_name_67 rfl (lv_at hl 2 rfl) ?_
          refine va_get (D := D) (ci := 12) (v := .ref a0) (C := RX12) (T := TX12) (N := 30) hx hb hts inlX12 hown hK hP 0 rfl rfl 0 (by decide) (hts _ mw_187) (fun _ h9 => h9) rfl dX12_name_68 ?_
          refine lv_iload_n hx hb dX12_name_71 rfl (lv_at hl 3 rfl) ?_
          refine lv_iload_n hx hb dX12_name_72 rfl (lv_at hl 4 rfl) ?_
          refine cr_S (As := [.int (nI j_7), .int (nI c_9)]) (rest := [.ref a0]) hFX hKK (s_X12_nameAt l D κ j_7 c_9) 2 gS_X12_318 hdS_X12_nameAt rfl rfl ⟨Nat.le_of_ble_eq_true rfl, Nat.le_of_ble_eq_true rfl⟩ rfl rfl (Nat.le_of_ble_eq_true rfl) dX12_name_73 ⟨Nat.le_of_ble_eq_true rfl, Nat.le_of_ble_eq_true rfl⟩ hl.1 (hP.sub [] rfl) (fun _ hp_34 => ?_)
          refine W.eq (g2 := F0 m 76 ls [.int (nI (7123 * j_7 + 4 + 13 * c_9)), .ref a0]) rfl ?_
          refine lv_iload hx hb dX12_name_76 (lv_at hl 0 rfl) ?_
          refine lv_iadd hx hb dX12_name_78 ?_
          refine ki (v := (nI (7123 * j_7 + 4 + 13 * c_9 + k4_56))) (nI_add (7123 * j_7 + 4 + 13 * c_9) k4_56) ?_
          refine lv_aload_n hx hb dX12_name_79 rfl (lv_at hl 2 rfl) ?_
          refine va_get (D := D) (ci := 12) (v := .ref a20) (C := RX12) (T := TX12) (N := 30) hx hb hts inlX12 hown hK hP 0 rfl rfl 20 (by decide) (hts _ mw_198) (fun _ h9 => h9) rfl dX12_name_80 ?_
          refine lv_iload hx hb dX12_name_83 (lv_at hl 0 rfl) ?_
          refine va_iald hx hb hK hP 4 0 rfl rfl (i := nI k4_56) (vp_in_nI (n := k4_56) (by omega) (by omega)) dX12_name_85 ?_
          refine kv (v := .int (g_a20__1 k4_56)) (by rw [nI_clamp (by omega)]) ?_
          obtain ⟨x_35, ex_35⟩ : ∃ y9 : Int32, g_a20__1 k4_56 = y9 := ⟨_, rfl⟩
          refine kv (v := .int x_35) (congrArg Value.int ex_35) ?_
          refine va_iast hx hb hK hP hD hS 1 0 rfl rfl (i := nI (7123 * j_7 + 4 + 13 * c_9 + k4_56)) (x := x_35) (vp_in_nI (n := (7123 * j_7 + 4 + 13 * c_9 + k4_56)) (by omega) (by omega)) dX12_name_86 (fun H locs hP hD hS => ?_)
          rw [nI_clamp (by omega)] at hP hD
          have hP : va_P D vwCl [(m0, .inr (12, [.ref a0, .ref a1, .ref a2, .int (nI y3__21), .int f4, .ref a5, .int (nI 0), .int f7, .int f8, .int f9, .int f10, .int (nI u11), .int (nI u12), .int (nI u13), .ref a14, .ref a15, .ref a16, .ref a17, .int f18, .int f19, .ref a20, .ref a21, .int (nI u22), .ref a23, .ref a24, .ref a25, .int (nI u26), .int f27, .ref a28, .int (nI u29)])), (a0, .inl (κ 0, 21375, .inl (upd ga0_56 (7123 * j_7 + 4 + 13 * c_9 + k4_56) x_35))), (a2, .inl (κ 0, 128214, .inl g_a2__22)), (a5, .inl (κ 0, 800, .inl tp)), (a20, .inl (κ 0, 801, .inl g_a20__1))] H := hP
          have hD : va_D A [(m0, .inr (12, [.ref a0, .ref a1, .ref a2, .int (nI y3__21), .int f4, .ref a5, .int (nI 0), .int f7, .int f8, .int f9, .int f10, .int (nI u11), .int (nI u12), .int (nI u13), .ref a14, .ref a15, .ref a16, .ref a17, .int f18, .int f19, .ref a20, .ref a21, .int (nI u22), .ref a23, .ref a24, .ref a25, .int (nI u26), .int f27, .ref a28, .int (nI u29)])), (a0, .inl (κ 0, 21375, .inl (upd ga0_56 (7123 * j_7 + 4 + 13 * c_9 + k4_56) x_35))), (a2, .inl (κ 0, 128214, .inl g_a2__22)), (a5, .inl (κ 0, 800, .inl tp)), (a20, .inl (κ 0, 801, .inl g_a20__1))] := hD
          have hf_37 : Pw (upd ga0_56 (7123 * j_7 + 4 + 13 * c_9 + k4_56) x_35) := (Pw_name hg56_0 (t := j_7) (c := c_9) (k := k4_56) (by omega) (by omega) (by omega) (by omega) (head_val0 ex_35 (by assumption)))
          have hf_38 : Dl dq (upd ga0_56 (7123 * j_7 + 4 + 13 * c_9 + k4_56) x_35) := (Dl_upd hg56_1 (by omega))
          generalize upd ga0_56 (7123 * j_7 + 4 + 13 * c_9 + k4_56) x_35 = g_36 at hP hD hf_37 hf_38
          refine lv_iinc (v := (nI (k4_56 + 1))) (lv' := [(4, .int (nI (k4_56 + 1))), (3, .int r__18), (0, .ref m0), (1, .int (nI j_7)), (2, .int (nI c_9))]) hx hb dX12_name_87 hl (k := 0) rfl (nI_i k4_56) (by decide) rfl (fun ls hl => ?_)
          refine lv_goto (tgt := 56) hx hb dX12_name_90 (by decide) ?_
          exact ih56 _ _ _ _ (by omega) ⟨(k4_56 + 1), g_36, (by omega), hf_37, hf_38, rfl, hP, hD, hS, lv_sub hl [0, 1, 2, 3, 4] rfl⟩
      · refine lv_iload_n hx hb dX12_name_42 rfl (lv_at hl 0 rfl) ?_
        refine lv_iload_n hx hb dX12_name_43 rfl (lv_at hl 3 rfl) ?_
        refine lv_icmp_eq (tgt := 49) hx hb dX12_name_44 (by decide) (fun c_39 => ?_) (fun c_39 => ?_)
        · refine lv_aload_n hx hb dX12_name_49 rfl (lv_at hl 1 rfl) ?_
          refine ct_V (wr := [(a5, .inl (κ 0, 800, .inl tp)), (a20, .inl (κ 0, 801, .inl g_a20__1))]) (As := []) (rest := []) hFX hKK hP hD hS hA (s_X12_remembers l D κ m0 a0 a1 a2 u3 f4 a5 0 f7 f8 f9 f10 u11 u12 u13 a14 a15 a16 a17 f18 f19 a20 a21 u22 a23 a24 a25 u26 f27 a28 u29 w un (by omega) h_a0 h_a2) 0 gV_X12_296 hdV_X12_remembers ⟨Nat.le_of_ble_eq_true rfl, Nat.le_of_ble_eq_true rfl⟩ rfl rfl (Nat.le_of_ble_eq_true rfl) dX12_name_50 ⟨Nat.le_of_ble_eq_true rfl, Nat.le_of_ble_eq_true rfl⟩ hl.1 [0, 1, 2] [3, 4] rfl rfl (by decide) (by decide) (by decide) 0 12 rfl rfl rfl trivial (fun u_42 H locs hp_43 _ hP hD hS hz_ hk_ => ?_)
          obtain ⟨y3__40, g_a2__41⟩ := u_42
          replace hP : va_P D vwCl [(m0, .inr (12, [.ref a0, .ref a1, .ref a2, .int (nI y3__40), .int f4, .ref a5, .int (nI 0), .int f7, .int f8, .int f9, .int f10, .int (nI u11), .int (nI u12), .int (nI u13), .ref a14, .ref a15, .ref a16, .ref a17, .int f18, .int f19, .ref a20, .ref a21, .int (nI u22), .ref a23, .ref a24, .ref a25, .int (nI u26), .int f27, .ref a28, .int (nI u29)])), (a0, .inl (κ 0, 21375, .inl w)), (a2, .inl (κ 0, 128214, .inl g_a2__41)), (a5, .inl (κ 0, 800, .inl tp)), (a20, .inl (κ 0, 801, .inl g_a20__1))] H := hP.sub [2, 3, 4, 0, 1] rfl
          replace hD : va_D A [(m0, .inr (12, [.ref a0, .ref a1, .ref a2, .int (nI y3__40), .int f4, .ref a5, .int (nI 0), .int f7, .int f8, .int f9, .int f10, .int (nI u11), .int (nI u12), .int (nI u13), .ref a14, .ref a15, .ref a16, .ref a17, .int f18, .int f19, .ref a20, .ref a21, .int (nI u22), .ref a23, .ref a24, .ref a25, .int (nI u26), .int f27, .ref a28, .int (nI u29)])), (a0, .inl (κ 0, 21375, .inl w)), (a2, .inl (κ 0, 128214, .inl g_a2__41)), (a5, .inl (κ 0, 800, .inl tp)), (a20, .inl (κ 0, 801, .inl g_a20__1))] := hD.sub [2, 3, 4, 0, 1] (by decide) rfl
          replace hp_43 : y3__40 ≤ 6 ∧ Pu g_a2__41 := hp_43
          obtain ⟨h_44, h_45⟩ := hp_43
          refine W.eq (g2 := F0 m 53 ls []) rfl ?_
          refine lv_iconst (v := 0) hx hb dX12_name_53 (by decide) ?_
          refine lv_istore (lv' := [(4, .int 0), (3, .int r__18), (0, .ref m0), (1, .int (nI j_7)), (2, .int (nI c_9))]) hx hb dX12_name_54 hl (by decide) rfl (fun ls hl => ?_)
          refine loop_dn (fun k9 H locs ls => ∃ (k4_56 : Nat), ∃ (ga0_56 : Nat → Int32), (k4_56 ≤ 13) ∧ Pw ga0_56 ∧ Dl dq ga0_56 ∧ 13 - k4_56 = k9 ∧ va_P D vwCl [(m0, .inr (12, [.ref a0, .ref a1, .ref a2, .int (nI y3__40), .int f4, .ref a5, .int (nI 0), .int f7, .int f8, .int f9, .int f10, .int (nI u11), .int (nI u12), .int (nI u13), .ref a14, .ref a15, .ref a16, .ref a17, .int f18, .int f19, .ref a20, .ref a21, .int (nI u22), .ref a23, .ref a24, .ref a25, .int (nI u26), .int f27, .ref a28, .int (nI u29)])), (a0, .inl (κ 0, 21375, .inl ga0_56)), (a2, .inl (κ 0, 128214, .inl g_a2__41)), (a5, .inl (κ 0, 800, .inl tp)), (a20, .inl (κ 0, 801, .inl g_a20__1))] H ∧ va_D A [(m0, .inr (12, [.ref a0, .ref a1, .ref a2, .int (nI y3__40), .int f4, .ref a5, .int (nI 0), .int f7, .int f8, .int f9, .int f10, .int (nI u11), .int (nI u12), .int (nI u13), .ref a14, .ref a15, .ref a16, .ref a17, .int f18, .int f19, .ref a20, .ref a21, .int (nI u22), .ref a23, .ref a24, .ref a25, .int (nI u26), .int f27, .ref a28, .int (nI u29)])), (a0, .inl (κ 0, 21375, .inl ga0_56)), (a2, .inl (κ 0, 128214, .inl g_a2__41)), (a5, .inl (κ 0, 800, .inl tp)), (a20, .inl (κ 0, 801, .inl g_a20__1))] ∧ va_S A s.heap H locs ∧ lv_has ls 5 [(4, .int (nI k4_56)), (3, .int r__18), (0, .ref m0), (1, .int (nI j_7)), (2, .int (nI c_9))]) (fun k9 H locs ls hI56 ih56 => ?_) (13 - 0) _ _ _ ⟨0, w, (by omega), h_a0, h_dl, rfl, hP, hD, hS, lv_sub hl [0, 1, 2, 3, 4] rfl⟩
          obtain ⟨k4_56, ga0_56, hl56_0, hg56_0, hg56_1, hm56, hP, hD, hS, hl⟩ := hI56
          refine lv_iload hx hb dX12_name_56 (lv_at hl 0 rfl) ?_
          refine lv_aload_n hx hb dX12_name_58 rfl (lv_at hl 2 rfl) ?_
          refine va_get (D := D) (ci := 12) (v := .ref a20) (C := RX12) (T := TX12) (N := 30) hx hb hts inlX12 hown hK hP 0 rfl rfl 20 (by decide) (hts _ mw_198) (fun _ h9 => h9) rfl dX12_name_59 ?_
          refine lv_iconst (v := 0) hx hb dX12_name_62 (by decide) ?_
          refine va_iald hx hb hK hP 4 0 rfl rfl (i := 0) (vp_k (by decide)) dX12_name_63 ?_
          obtain ⟨n_46, hn_46, en_46⟩ : ∃ n9 : Nat, n9 ≤ 12 ∧ g_a20__1 0 = nI n9 := id (a_16)
          refine kv (v := .int (nI n_46)) (congrArg Value.int en_46) ?_
          refine lv_icmp_gt (tgt := 93) hx hb dX12_name_64 (by decide) (fun c_47 => ?_) (fun c_47 => ?_)
          · have nc_47 := cv_lt (a := n_46) (b := k4_56) (by omega) (by omega) c_47
            refine lv_aload_n hx hb dX12_name_93 rfl (lv_at hl 2 rfl) ?_
            refine lv_iload_n hx hb dX12_name_94 rfl (lv_at hl 3 rfl) ?_
            refine ct_V (wr := [(a2, .inl (κ 0, 128214, .inl g_a2__41)), (a5, .inl (κ 0, 800, .inl tp)), (a20, .inl (κ 0, 801, .inl g_a20__1))]) (As := [.int (nI j_7)]) (rest := []) hFX hKK hP hD hS hA (d_X12_viewsOff l D κ m0 a0 a1 a2 y3__40 f4 a5 0 f7 f8 f9 f10 u11 u12 u13 a14 a15 a16 a17 f18 f19 a20 a21 u22 a23 a24 a25 u26 f27 a28 u29 ga0_56 j_7 dq hg56_0 hg56_1 (by omega)) 1 gV_X12_77 hdV_X12_viewsOff ⟨Nat.le_of_ble_eq_true rfl, Nat.le_of_ble_eq_true rfl⟩ rfl rfl (Nat.le_of_ble_eq_true rfl) dX12_name_95 ⟨Nat.le_of_ble_eq_true rfl, Nat.le_of_ble_eq_true rfl⟩ hl.1 [0, 1] [2, 3, 4] rfl rfl (by decide) (by decide) (by decide) 0 12 rfl rfl rfl trivial (fun g_a0__48 H locs hp_49 _ hP hD hS hz_ hk_ => ?_)
            replace hP : va_P D vwCl [(m0, .inr (12, [.ref a0, .ref a1, .ref a2, .int (nI y3__40), .int f4, .ref a5, .int (nI 0), .int f7, .int f8, .int f9, .int f10, .int (nI u11), .int (nI u12), .int (nI u13), .ref a14, .ref a15, .ref a16, .ref a17, .int f18, .int f19, .ref a20, .ref a21, .int (nI u22), .ref a23, .ref a24, .ref a25, .int (nI u26), .int f27, .ref a28, .int (nI u29)])), (a0, .inl (κ 0, 21375, .inl g_a0__48)), (a2, .inl (κ 0, 128214, .inl g_a2__41)), (a5, .inl (κ 0, 800, .inl tp)), (a20, .inl (κ 0, 801, .inl g_a20__1))] H := hP.sub [3, 4, 0, 1, 2] rfl
            replace hD : va_D A [(m0, .inr (12, [.ref a0, .ref a1, .ref a2, .int (nI y3__40), .int f4, .ref a5, .int (nI 0), .int f7, .int f8, .int f9, .int f10, .int (nI u11), .int (nI u12), .int (nI u13), .ref a14, .ref a15, .ref a16, .ref a17, .int f18, .int f19, .ref a20, .ref a21, .int (nI u22), .ref a23, .ref a24, .ref a25, .int (nI u26), .int f27, .ref a28, .int (nI u29)])), (a0, .inl (κ 0, 21375, .inl g_a0__48)), (a2, .inl (κ 0, 128214, .inl g_a2__41)), (a5, .inl (κ 0, 800, .inl tp)), (a20, .inl (κ 0, 801, .inl g_a20__1))] := hD.sub [3, 4, 0, 1, 2] (by decide) rfl
            replace hp_49 : Pw g_a0__48 ∧ Dl dq g_a0__48 ∧ g_a0__48 (7123 * j_7 + 2) = ga0_56 (7123 * j_7 + 2) := hp_49
            obtain ⟨h_50, h_51, h_52⟩ := hp_49
            refine W.eq (g2 := F0 m 98 ls []) rfl ?_
            refine lv_iconst (v := 1) hx hb dX12_name_98 (by decide) ?_
            exact ct_iret hx hb hr hlk rfl hS hP hD (1, y3__40, g_a0__48, g_a2__41, g_a20__1) rfl ⟨(show y3__40 ≤ 6 from (by first | assumption | omega | rfl | exact Or.inl (by assumption) | exact Or.inr (by assumption))), (show Pw g_a0__48 from (by first | assumption | omega | rfl | exact Or.inl (by assumption) | exact Or.inr (by assumption))), (show Dl dq g_a0__48 from (by first | assumption | omega | rfl | exact Or.inl (by assumption) | exact Or.inr (by assumption))), (show Pu g_a2__41 from (by first | assumption | omega | rfl | exact Or.inl (by assumption) | exact Or.inr (by assumption))), (show Pb 1 800 g_a20__1 from (by first | assumption | omega | rfl | exact Or.inl (by assumption) | exact Or.inr (by assumption))), (by exact Or.inl (rfl))⟩ [0, 1, 2, 3, 4] rfl (by decide) trivial (Nat.le_of_ble_eq_true rfl) (Nat.le_of_ble_eq_true rfl) dX12_name_99
          · have nc_47 := cv_nlt (a := n_46) (b := k4_56) (by omega) (by omega) c_47
            refine lv_aload_n hx hb dX12_name_67 rfl (lv_at hl 2 rfl) ?_
            refine va_get (D := D) (ci := 12) (v := .ref a0) (C := RX12) (T := TX12) (N := 30) hx hb hts inlX12 hown hK hP 0 rfl rfl 0 (by decide) (hts _ mw_187) (fun _ h9 => h9) rfl dX12_name_68 ?_
            refine lv_iload_n hx hb dX12_name_71 rfl (lv_at hl 3 rfl) ?_
            refine lv_iload_n hx hb dX12_name_72 rfl (lv_at hl 4 rfl) ?_
            refine cr_S (As := [.int (nI j_7), .int (nI c_9)]) (rest := [.ref a0]) hFX hKK (s_X12_nameAt l D κ j_7 c_9) 2 gS_X12_318 hdS_X12_nameAt rfl rfl ⟨Nat.le_of_ble_eq_true rfl, Nat.le_of_ble_eq_true rfl⟩ rfl rfl (Nat.le_of_ble_eq_true rfl) dX12_name_73 ⟨Nat.le_of_ble_eq_true rfl, Nat.le_of_ble_eq_true rfl⟩ hl.1 (hP.sub [] rfl) (fun _ hp_53 => ?_)
            refine W.eq (g2 := F0 m 76 ls [.int (nI (7123 * j_7 + 4 + 13 * c_9)), .ref a0]) rfl ?_
            refine lv_iload hx hb dX12_name_76 (lv_at hl 0 rfl) ?_
            refine lv_iadd hx hb dX12_name_78 ?_
            refine ki (v := (nI (7123 * j_7 + 4 + 13 * c_9 + k4_56))) (nI_add (7123 * j_7 + 4 + 13 * c_9) k4_56) ?_
            refine lv_aload_n hx hb dX12_name_79 rfl (lv_at hl 2 rfl) ?_
            refine va_get (D := D) (ci := 12) (v := .ref a20) (C := RX12) (T := TX12) (N := 30) hx hb hts inlX12 hown hK hP 0 rfl rfl 20 (by decide) (hts _ mw_198) (fun _ h9 => h9) rfl dX12_name_80 ?_
            refine lv_iload hx hb dX12_name_83 (lv_at hl 0 rfl) ?_
            refine va_iald hx hb hK hP 4 0 rfl rfl (i := nI k4_56) (vp_in_nI (n := k4_56) (by omega) (by omega)) dX12_name_85 ?_
            refine kv (v := .int (g_a20__1 k4_56)) (by rw [nI_clamp (by omega)]) ?_
            obtain ⟨x_54, ex_54⟩ : ∃ y9 : Int32, g_a20__1 k4_56 = y9 := ⟨_, rfl⟩
            refine kv (v := .int x_54) (congrArg Value.int ex_54) ?_
            refine va_iast hx hb hK hP hD hS 1 0 rfl rfl (i := nI (7123 * j_7 + 4 + 13 * c_9 + k4_56)) (x := x_54) (vp_in_nI (n := (7123 * j_7 + 4 + 13 * c_9 + k4_56)) (by omega) (by omega)) dX12_name_86 (fun H locs hP hD hS => ?_)
            rw [nI_clamp (by omega)] at hP hD
            have hP : va_P D vwCl [(m0, .inr (12, [.ref a0, .ref a1, .ref a2, .int (nI y3__40), .int f4, .ref a5, .int (nI 0), .int f7, .int f8, .int f9, .int f10, .int (nI u11), .int (nI u12), .int (nI u13), .ref a14, .ref a15, .ref a16, .ref a17, .int f18, .int f19, .ref a20, .ref a21, .int (nI u22), .ref a23, .ref a24, .ref a25, .int (nI u26), .int f27, .ref a28, .int (nI u29)])), (a0, .inl (κ 0, 21375, .inl (upd ga0_56 (7123 * j_7 + 4 + 13 * c_9 + k4_56) x_54))), (a2, .inl (κ 0, 128214, .inl g_a2__41)), (a5, .inl (κ 0, 800, .inl tp)), (a20, .inl (κ 0, 801, .inl g_a20__1))] H := hP
            have hD : va_D A [(m0, .inr (12, [.ref a0, .ref a1, .ref a2, .int (nI y3__40), .int f4, .ref a5, .int (nI 0), .int f7, .int f8, .int f9, .int f10, .int (nI u11), .int (nI u12), .int (nI u13), .ref a14, .ref a15, .ref a16, .ref a17, .int f18, .int f19, .ref a20, .ref a21, .int (nI u22), .ref a23, .ref a24, .ref a25, .int (nI u26), .int f27, .ref a28, .int (nI u29)])), (a0, .inl (κ 0, 21375, .inl (upd ga0_56 (7123 * j_7 + 4 + 13 * c_9 + k4_56) x_54))), (a2, .inl (κ 0, 128214, .inl g_a2__41)), (a5, .inl (κ 0, 800, .inl tp)), (a20, .inl (κ 0, 801, .inl g_a20__1))] := hD
            have hf_56 : Pw (upd ga0_56 (7123 * j_7 + 4 + 13 * c_9 + k4_56) x_54) := (Pw_name hg56_0 (t := j_7) (c := c_9) (k := k4_56) (by omega) (by omega) (by omega) (by omega) (head_val0 ex_54 (by assumption)))
            have hf_57 : Dl dq (upd ga0_56 (7123 * j_7 + 4 + 13 * c_9 + k4_56) x_54) := (Dl_upd hg56_1 (by omega))
            generalize upd ga0_56 (7123 * j_7 + 4 + 13 * c_9 + k4_56) x_54 = g_55 at hP hD hf_56 hf_57
            refine lv_iinc (v := (nI (k4_56 + 1))) (lv' := [(4, .int (nI (k4_56 + 1))), (3, .int r__18), (0, .ref m0), (1, .int (nI j_7)), (2, .int (nI c_9))]) hx hb dX12_name_87 hl (k := 0) rfl (nI_i k4_56) (by decide) rfl (fun ls hl => ?_)
            refine lv_goto (tgt := 56) hx hb dX12_name_90 (by decide) ?_
            exact ih56 _ _ _ _ (by omega) ⟨(k4_56 + 1), g_55, (by omega), hf_56, hf_57, rfl, hP, hD, hS, lv_sub hl [0, 1, 2, 3, 4] rfl⟩
        · refine lv_iconst (v := 0) hx hb dX12_name_47 (by decide) ?_
          exact ct_iret hx hb hr hlk rfl hS hP hD (0, u3, w, un, g_a20__1) rfl ⟨(show u3 ≤ 6 from (by first | assumption | omega | rfl | exact Or.inl (by assumption) | exact Or.inr (by assumption))), (show Pw w from (by first | assumption | omega | rfl | exact Or.inl (by assumption) | exact Or.inr (by assumption))), (show Dl dq w from (by first | assumption | omega | rfl | exact Or.inl (by assumption) | exact Or.inr (by assumption))), (show Pu un from (by first | assumption | omega | rfl | exact Or.inl (by assumption) | exact Or.inr (by assumption))), (show Pb 1 800 g_a20__1 from (by first | assumption | omega | rfl | exact Or.inl (by assumption) | exact Or.inr (by assumption))), (by exact Or.inr ((rfl)))⟩ [0, 1, 2, 3, 4] rfl (by decide) trivial (Nat.le_of_ble_eq_true rfl) (Nat.le_of_ble_eq_true rfl) dX12_name_48
    · refine W.eq (g2 := F0 m 21 ls [.int 0]) rfl ?_
      refine lv_if_ne (tgt := 26) hx hb dX12_name_21 (by decide) (fun c_58 => absurd c_58 (by decide)) (fun c_58 => ?_)
      refine lv_iconst (v := 0) hx hb dX12_name_24 (by decide) ?_
      exact ct_iret hx hb hr hlk rfl hS hP hD (0, u3, w, un, g_a20__1) rfl ⟨(show u3 ≤ 6 from (by first | assumption | omega | rfl | exact Or.inl (by assumption) | exact Or.inr (by assumption))), (show Pw w from (by first | assumption | omega | rfl | exact Or.inl (by assumption) | exact Or.inr (by assumption))), (show Dl dq w from (by first | assumption | omega | rfl | exact Or.inl (by assumption) | exact Or.inr (by assumption))), (show Pu un from (by first | assumption | omega | rfl | exact Or.inl (by assumption) | exact Or.inr (by assumption))), (show Pb 1 800 g_a20__1 from (by first | assumption | omega | rfl | exact Or.inl (by assumption) | exact Or.inr (by assumption))), (by exact Or.inr ((rfl)))⟩ [0, 1, 2, 3, 4] rfl (by decide) trivial (Nat.le_of_ble_eq_true rfl) (Nat.le_of_ble_eq_true rfl) dX12_name_25
  · refine W.eq (g2 := F0 m 10 ls [.int 0]) rfl ?_
    refine lv_if_eq (tgt := 24) hx hb dX12_name_10 (by decide) (fun c_59 => ?_) (fun c_59 => absurd (by decide) c_59)
    refine lv_iconst (v := 0) hx hb dX12_name_24 (by decide) ?_
    exact ct_iret hx hb hr hlk rfl hS hP hD (0, u3, w, un, g_a20__1) rfl ⟨(show u3 ≤ 6 from (by first | assumption | omega | rfl | exact Or.inl (by assumption) | exact Or.inr (by assumption))), (show Pw w from (by first | assumption | omega | rfl | exact Or.inl (by assumption) | exact Or.inr (by assumption))), (show Dl dq w from (by first | assumption | omega | rfl | exact Or.inl (by assumption) | exact Or.inr (by assumption))), (show Pu un from (by first | assumption | omega | rfl | exact Or.inl (by assumption) | exact Or.inr (by assumption))), (show Pb 1 800 g_a20__1 from (by first | assumption | omega | rfl | exact Or.inl (by assumption) | exact Or.inr (by assumption))), (by exact Or.inr ((rfl)))⟩ [0, 1, 2, 3, 4] rfl (by decide) trivial (Nat.le_of_ble_eq_true rfl) (Nat.le_of_ble_eq_true rfl) dX12_name_25
set_option maxHeartbeats 4000000 in
set_option maxRecDepth 100000 in
theorem d_X12_out (l : Launch) (D : va_G) (κ : Nat → ClassId) (m0 : Nat) (a0 : Nat) (a1 : Nat) (a2 : Nat) (u3 : Nat) (f4 : Int32) (a5 : Nat) (u6 : Nat) (f7 : Int32) (f8 : Int32) (f9 : Int32) (f10 : Int32) (u11 : Nat) (u12 : Nat) (u13 : Nat) (a14 : Nat) (a15 : Nat) (a16 : Nat) (a17 : Nat) (f18 : Int32) (f19 : Int32) (a20 : Nat) (a21 : Nat) (u22 : Nat) (a23 : Nat) (a24 : Nat) (a25 : Nat) (u26 : Nat) (f27 : Int32) (a28 : Nat) (u29 : Nat) (w : Nat → Int32) (un : Nat → Int32) (za : Int32) (zb : Int32) (dq : Nat → Int32) (h3 : u3 ≤ 6) (h_a0 : Pw w) (h_a2 : Pu un) (h_dl : Dl dq w) : Ct l yX12_out (wl yX12_out cX12_out 6 (some .int)) { frames := 3, cells := 0, slots := 0, locals := 68 } D κ [.ref m0, .int za, .int zb] [(m0, .inr (12, [.ref a0, .ref a1, .ref a2, .int (nI u3), .int f4, .ref a5, .int (nI u6), .int f7, .int f8, .int f9, .int f10, .int (nI u11), .int (nI u12), .int (nI u13), .ref a14, .ref a15, .ref a16, .ref a17, .int f18, .int f19, .ref a20, .ref a21, .int (nI u22), .ref a23, .ref a24, .ref a25, .int (nI u26), .int f27, .ref a28, .int (nI u29)])), (a0, .inl (κ 0, 21375, .inl w)), (a2, .inl (κ 0, 128214, .inl un))] (fun _ => True) (fun u9 : Int32 × Nat × (Nat → Int32) × (Nat → Int32) => some (.int u9.1)) (fun u9 : Int32 × Nat × (Nat → Int32) × (Nat → Int32) => u9.2.1 ≤ 6 ∧ Pw u9.2.2.1 ∧ Dl dq u9.2.2.1 ∧ Pu u9.2.2.2) (fun u9 : Int32 × Nat × (Nat → Int32) × (Nat → Int32) => [(m0, .inr (12, [.ref a0, .ref a1, .ref a2, .int (nI u9.2.1), .int f4, .ref a5, .int (nI u6), .int f7, .int f8, .int f9, .int f10, .int (nI u11), .int (nI u12), .int (nI u13), .ref a14, .ref a15, .ref a16, .ref a17, .int f18, .int f19, .ref a20, .ref a21, .int (nI u22), .ref a23, .ref a24, .ref a25, .int (nI u26), .int f27, .ref a28, .int (nI u29)])), (a0, .inl (κ 0, 21375, .inl u9.2.2.1)), (a2, .inl (κ 0, 128214, .inl u9.2.2.2))]) (fun _ _ => True) := by
  refine ct_of (by decide +kernel) (Nat.le_of_ble_eq_true rfl) ?_
  intro p e s m args below meth c A ls hx hb hr hml hts hown hlk hin hKK hK hA hP hD hS hI hl
  have hS : va_S A s.heap s.heap [] := hS
  have hFX : FX p s m args c cX12_out 6 RX12 := ⟨hx, hb, hml, hown, hts⟩
  have hl : lv_has ls 6 [(0, .ref m0), (1, .int za), (2, .int zb)] := hl
  refine lv_aload_n hx hb dX12_out_0 rfl (lv_at hl 0 rfl) ?_
  refine lv_iload_n hx hb dX12_out_1 rfl (lv_at hl 1 rfl) ?_
  refine lv_iload_n hx hb dX12_out_2 rfl (lv_at hl 2 rfl) ?_
  refine cr_V (As := [.int za, .int zb]) (rest := []) hFX hKK (s2_X12_isRow l D κ m0 a0 a1 a2 u3 f4 a5 u6 f7 f8 f9 f10 u11 u12 u13 a14 a15 a16 a17 f18 f19 a20 a21 u22 a23 a24 a25 u26 f27 a28 u29 w za zb h_a0) 2 gV_X12_309 hdV_X12_isRow rfl rfl ⟨Nat.le_of_ble_eq_true rfl, Nat.le_of_ble_eq_true rfl⟩ rfl rfl (Nat.le_of_ble_eq_true rfl) dX12_out_3 ⟨Nat.le_of_ble_eq_true rfl, Nat.le_of_ble_eq_true rfl⟩ hl.1 hP 0 12 rfl rfl rfl (hP.sub [0, 1] rfl) (fun r__1 hp_2 => ?_)
  replace hp_2 : ((r__1 = 1 ∧ (∃ j : Nat, j < 3 ∧ za = nI j) ∧ (∃ rr : Nat, (rr < 40 ∧ ∀ j9 : Nat, za = nI j9 → j9 < 3 → rr < nv (w (7123 * j9 + 2))) ∧ zb = nI rr)) ∨ (r__1 = 0)) := hp_2
  have ha_3 := hp_2
  clear hp_2
  rcases ha_3 with ⟨rfl, ⟨j_4, hj_4, rfl⟩, ⟨rr_6, ⟨hrr_6, a_8⟩, rfl⟩⟩ | rfl
  · refine W.eq (g2 := F0 m 6 ls [.int 1]) rfl ?_
    refine lv_if_ne (tgt := 11) hx hb dX12_out_6 (by decide) (fun c_9 => ?_) (fun c_9 => absurd c_9 (by decide))
    refine lv_aload_n hx hb dX12_out_11 rfl (lv_at hl 0 rfl) ?_
    refine ct_V (wr := []) (As := []) (rest := []) hFX hKK hP hD hS hA (s_X12_remembers l D κ m0 a0 a1 a2 u3 f4 a5 u6 f7 f8 f9 f10 u11 u12 u13 a14 a15 a16 a17 f18 f19 a20 a21 u22 a23 a24 a25 u26 f27 a28 u29 w un (by omega) h_a0 h_a2) 0 gV_X12_296 hdV_X12_remembers ⟨Nat.le_of_ble_eq_true rfl, Nat.le_of_ble_eq_true rfl⟩ rfl rfl (Nat.le_of_ble_eq_true rfl) dX12_out_12 ⟨Nat.le_of_ble_eq_true rfl, Nat.le_of_ble_eq_true rfl⟩ hl.1 [0, 1, 2] [] rfl rfl (by decide) (by decide) (by decide) 0 12 rfl rfl rfl trivial (fun u_12 H locs hp_13 _ hP hD hS hz_ hk_ => ?_)
    obtain ⟨y3__10, g_a2__11⟩ := u_12
    replace hP : va_P D vwCl [(m0, .inr (12, [.ref a0, .ref a1, .ref a2, .int (nI y3__10), .int f4, .ref a5, .int (nI u6), .int f7, .int f8, .int f9, .int f10, .int (nI u11), .int (nI u12), .int (nI u13), .ref a14, .ref a15, .ref a16, .ref a17, .int f18, .int f19, .ref a20, .ref a21, .int (nI u22), .ref a23, .ref a24, .ref a25, .int (nI u26), .int f27, .ref a28, .int (nI u29)])), (a0, .inl (κ 0, 21375, .inl w)), (a2, .inl (κ 0, 128214, .inl g_a2__11))] H := hP
    replace hD : va_D A [(m0, .inr (12, [.ref a0, .ref a1, .ref a2, .int (nI y3__10), .int f4, .ref a5, .int (nI u6), .int f7, .int f8, .int f9, .int f10, .int (nI u11), .int (nI u12), .int (nI u13), .ref a14, .ref a15, .ref a16, .ref a17, .int f18, .int f19, .ref a20, .ref a21, .int (nI u22), .ref a23, .ref a24, .ref a25, .int (nI u26), .int f27, .ref a28, .int (nI u29)])), (a0, .inl (κ 0, 21375, .inl w)), (a2, .inl (κ 0, 128214, .inl g_a2__11))] := hD
    replace hp_13 : y3__10 ≤ 6 ∧ Pu g_a2__11 := hp_13
    obtain ⟨h_14, h_15⟩ := hp_13
    refine W.eq (g2 := F0 m 15 ls []) rfl ?_
    refine lv_sipush (v := 168) hx hb dX12_out_15 (by decide) ?_
    refine lv_istore_n (lv' := [(3, .int 168), (0, .ref m0), (1, .int (nI j_4)), (2, .int (nI rr_6))]) hx hb dX12_out_18 rfl hl (by decide) rfl (fun ls hl => ?_)
    refine lv_aload_n hx hb dX12_out_19 rfl (lv_at hl 1 rfl) ?_
    refine va_get (D := D) (ci := 12) (v := .ref a0) (C := RX12) (T := TX12) (N := 30) hx hb hts inlX12 hown hK hP 0 rfl rfl 0 (by decide) (hts _ mw_187) (fun _ h9 => h9) rfl dX12_out_20 ?_
    refine lv_iload_n hx hb dX12_out_23 rfl (lv_at hl 2 rfl) ?_
    refine lv_iconst (v := 2) hx hb dX12_out_24 (by decide) ?_
    refine cr_S (As := [.int (nI j_4), .int 2]) (rest := [.ref a0]) hFX hKK (s_X12_at l D κ j_4 2) 2 gS_X12_66 hdS_X12_at rfl rfl ⟨Nat.le_of_ble_eq_true rfl, Nat.le_of_ble_eq_true rfl⟩ rfl rfl (Nat.le_of_ble_eq_true rfl) dX12_out_25 ⟨Nat.le_of_ble_eq_true rfl, Nat.le_of_ble_eq_true rfl⟩ hl.1 (hP.sub [] rfl) (fun _ hp_16 => ?_)
    refine W.eq (g2 := F0 m 28 ls [.int (nI (7123 * j_4 + 2)), .ref a0]) rfl ?_
    refine va_iald hx hb hK hP 1 0 rfl rfl (i := nI (7123 * j_4 + 2)) (vp_in_nI (n := (7123 * j_4 + 2)) (by omega) (by omega)) dX12_out_28 ?_
    refine kv (v := .int (w (7123 * j_4 + 2))) (by rw [nI_clamp (by omega)]) ?_
    obtain ⟨n_17, hn_17, en_17⟩ : ∃ n9 : Nat, n9 ≤ 40 ∧ w (7123 * j_4 + 2) = nI n9 := id (h_a0 _ _ (mMANY (t := j_4) (by omega) (by omega)))
    refine kv (v := .int (nI n_17)) (congrArg Value.int en_17) ?_
    have hrn : rr_6 < n_17 := cn_of (a_8 j_4 rfl (by omega)) en_17 (by omega)
    refine lv_istore (lv' := [(4, .int (nI n_17)), (3, .int 168), (0, .ref m0), (1, .int (nI j_4)), (2, .int (nI rr_6))]) hx hb dX12_out_29 hl (by decide) rfl (fun ls hl => ?_)
    refine lv_iload_n hx hb dX12_out_31 rfl (lv_at hl 1 rfl) ?_
    refine lv_iload_n hx hb dX12_out_32 rfl (lv_at hl 4 rfl) ?_
    refine lv_imul hx hb dX12_out_33 ?_
    refine ki (v := (nI (168 * rr_6))) (pk_mul 168 rr_6) ?_
    refine lv_istore (lv' := [(5, .int (nI (168 * rr_6))), (4, .int (nI n_17)), (3, .int 168), (0, .ref m0), (1, .int (nI j_4)), (2, .int (nI rr_6))]) hx hb dX12_out_34 hl (by decide) rfl (fun ls hl => ?_)
    refine loop_dn (fun k9 H locs ls => ∃ (k5_36 : Nat), ∃ (ga0_36 : Nat → Int32), (168 * rr_6 ≤ k5_36) ∧ (ga0_36 (7123 * j_4 + 2) = nI n_17) ∧ (k5_36 ≤ 6720) ∧ Pw ga0_36 ∧ Dl dq ga0_36 ∧ 6720 - k5_36 = k9 ∧ va_P D vwCl [(m0, .inr (12, [.ref a0, .ref a1, .ref a2, .int (nI y3__10), .int f4, .ref a5, .int (nI u6), .int f7, .int f8, .int f9, .int f10, .int (nI u11), .int (nI u12), .int (nI u13), .ref a14, .ref a15, .ref a16, .ref a17, .int f18, .int f19, .ref a20, .ref a21, .int (nI u22), .ref a23, .ref a24, .ref a25, .int (nI u26), .int f27, .ref a28, .int (nI u29)])), (a0, .inl (κ 0, 21375, .inl ga0_36)), (a2, .inl (κ 0, 128214, .inl g_a2__11))] H ∧ va_D A [(m0, .inr (12, [.ref a0, .ref a1, .ref a2, .int (nI y3__10), .int f4, .ref a5, .int (nI u6), .int f7, .int f8, .int f9, .int f10, .int (nI u11), .int (nI u12), .int (nI u13), .ref a14, .ref a15, .ref a16, .ref a17, .int f18, .int f19, .ref a20, .ref a21, .int (nI u22), .ref a23, .ref a24, .ref a25, .int (nI u26), .int f27, .ref a28, .int (nI u29)])), (a0, .inl (κ 0, 21375, .inl ga0_36)), (a2, .inl (κ 0, 128214, .inl g_a2__11))] ∧ va_S A s.heap H locs ∧ lv_has ls 6 [(5, .int (nI k5_36)), (4, .int (nI n_17)), (3, .int 168), (0, .ref m0), (1, .int (nI j_4)), (2, .int (nI rr_6))]) (fun k9 H locs ls hI36 ih36 => ?_) (6720 - (168 * rr_6)) _ _ _ ⟨(168 * rr_6), w, (by omega), en_17, (by omega), h_a0, h_dl, rfl, hP, hD, hS, lv_sub hl [0, 1, 2, 3, 4, 5] rfl⟩
    obtain ⟨k5_36, ga0_36, hl36_0, hl36_1, hl36_2, hg36_0, hg36_1, hm36, hP, hD, hS, hl⟩ := hI36
    refine lv_iload hx hb dX12_out_36 (lv_at hl 0 rfl) ?_
    refine lv_iload_n hx hb dX12_out_38 rfl (lv_at hl 2 rfl) ?_
    refine lv_iload hx hb dX12_out_39 (lv_at hl 1 rfl) ?_
    refine lv_iconst (v := 1) hx hb dX12_out_41 (by decide) ?_
    refine lv_isub hx hb dX12_out_42 ?_
    refine ki (v := (nI (n_17 - 1))) (pk_sub (a := n_17) (b := 1) (by omega)) ?_
    refine lv_imul hx hb dX12_out_43 ?_
    refine ki (v := (nI (168 * (n_17 - 1)))) (pk_mul 168 (n_17 - 1)) ?_
    refine lv_icmp_ge (tgt := 85) hx hb dX12_out_44 (by decide) (fun c_18 => ?_) (fun c_18 => ?_)
    · have nc_18 := cv_le (a := (168 * (n_17 - 1))) (b := k5_36) (by omega) (by omega) c_18
      refine lv_aload_n hx hb dX12_out_85 rfl (lv_at hl 3 rfl) ?_
      refine va_get (D := D) (ci := 12) (v := .ref a0) (C := RX12) (T := TX12) (N := 30) hx hb hts inlX12 hown hK hP 0 rfl rfl 0 (by decide) (hts _ mw_187) (fun _ h9 => h9) rfl dX12_out_86 ?_
      refine lv_iload_n hx hb dX12_out_89 rfl (lv_at hl 4 rfl) ?_
      refine lv_iconst (v := 2) hx hb dX12_out_90 (by decide) ?_
      refine cr_S (As := [.int (nI j_4), .int 2]) (rest := [.ref a0]) hFX hKK (s_X12_at l D κ j_4 2) 2 gS_X12_66 hdS_X12_at rfl rfl ⟨Nat.le_of_ble_eq_true rfl, Nat.le_of_ble_eq_true rfl⟩ rfl rfl (Nat.le_of_ble_eq_true rfl) dX12_out_91 ⟨Nat.le_of_ble_eq_true rfl, Nat.le_of_ble_eq_true rfl⟩ hl.1 (hP.sub [] rfl) (fun _ hp_19 => ?_)
      refine W.eq (g2 := F0 m 94 ls [.int (nI (7123 * j_4 + 2)), .ref a0]) rfl ?_
      refine lv_dup2_11 hx hb dX12_out_94 rfl rfl ?_
      refine va_iald hx hb hK hP 1 0 rfl rfl (i := nI (7123 * j_4 + 2)) (vp_in_nI (n := (7123 * j_4 + 2)) (by omega) (by omega)) dX12_out_95 ?_
      refine kv (v := .int (ga0_36 (7123 * j_4 + 2))) (by rw [nI_clamp (by omega)]) ?_
      refine kv (v := .int (nI n_17)) (congrArg Value.int hl36_1) ?_
      refine lv_iconst (v := 1) hx hb dX12_out_96 (by decide) ?_
      refine lv_isub hx hb dX12_out_97 ?_
      refine ki (v := (nI (n_17 - 1))) (pk_sub (a := n_17) (b := 1) (by omega)) ?_
      refine va_iast hx hb hK hP hD hS 1 0 rfl rfl (i := nI (7123 * j_4 + 2)) (x := nI (n_17 - 1)) (vp_in_nI (n := (7123 * j_4 + 2)) (by omega) (by omega)) dX12_out_98 (fun H locs hP hD hS => ?_)
      rw [nI_clamp (by omega)] at hP hD
      have hP : va_P D vwCl [(m0, .inr (12, [.ref a0, .ref a1, .ref a2, .int (nI y3__10), .int f4, .ref a5, .int (nI u6), .int f7, .int f8, .int f9, .int f10, .int (nI u11), .int (nI u12), .int (nI u13), .ref a14, .ref a15, .ref a16, .ref a17, .int f18, .int f19, .ref a20, .ref a21, .int (nI u22), .ref a23, .ref a24, .ref a25, .int (nI u26), .int f27, .ref a28, .int (nI u29)])), (a0, .inl (κ 0, 21375, .inl (upd ga0_36 (7123 * j_4 + 2) (nI (n_17 - 1))))), (a2, .inl (κ 0, 128214, .inl g_a2__11))] H := hP
      have hD : va_D A [(m0, .inr (12, [.ref a0, .ref a1, .ref a2, .int (nI y3__10), .int f4, .ref a5, .int (nI u6), .int f7, .int f8, .int f9, .int f10, .int (nI u11), .int (nI u12), .int (nI u13), .ref a14, .ref a15, .ref a16, .ref a17, .int f18, .int f19, .ref a20, .ref a21, .int (nI u22), .ref a23, .ref a24, .ref a25, .int (nI u26), .int f27, .ref a28, .int (nI u29)])), (a0, .inl (κ 0, 21375, .inl (upd ga0_36 (7123 * j_4 + 2) (nI (n_17 - 1))))), (a2, .inl (κ 0, 128214, .inl g_a2__11))] := hD
      have hf_21 : Pw (upd ga0_36 (7123 * j_4 + 2) (nI (n_17 - 1))) := (Pw_upd hg36_0 (mMANY (t := j_4) (by omega) (by omega)) ⟨n_17 - 1, by omega, rfl⟩)
      have hf_22 : Dl dq (upd ga0_36 (7123 * j_4 + 2) (nI (n_17 - 1))) := (Dl_upd hg36_1 (by omega))
      generalize upd ga0_36 (7123 * j_4 + 2) (nI (n_17 - 1)) = g_20 at hP hD hf_21 hf_22
      refine lv_aload_n hx hb dX12_out_99 rfl (lv_at hl 3 rfl) ?_
      refine lv_iload_n hx hb dX12_out_100 rfl (lv_at hl 4 rfl) ?_
      refine ct_V (wr := [(a2, .inl (κ 0, 128214, .inl g_a2__11))]) (As := [.int (nI j_4)]) (rest := []) hFX hKK hP hD hS hA (d_X12_viewsOff l D κ m0 a0 a1 a2 y3__10 f4 a5 u6 f7 f8 f9 f10 u11 u12 u13 a14 a15 a16 a17 f18 f19 a20 a21 u22 a23 a24 a25 u26 f27 a28 u29 g_20 j_4 dq hf_21 hf_22 (by omega)) 1 gV_X12_77 hdV_X12_viewsOff ⟨Nat.le_of_ble_eq_true rfl, Nat.le_of_ble_eq_true rfl⟩ rfl rfl (Nat.le_of_ble_eq_true rfl) dX12_out_101 ⟨Nat.le_of_ble_eq_true rfl, Nat.le_of_ble_eq_true rfl⟩ hl.1 [0, 1] [2] rfl rfl (by decide) (by decide) (by decide) 0 12 rfl rfl rfl trivial (fun g_a0__23 H locs hp_24 _ hP hD hS hz_ hk_ => ?_)
      replace hP : va_P D vwCl [(m0, .inr (12, [.ref a0, .ref a1, .ref a2, .int (nI y3__10), .int f4, .ref a5, .int (nI u6), .int f7, .int f8, .int f9, .int f10, .int (nI u11), .int (nI u12), .int (nI u13), .ref a14, .ref a15, .ref a16, .ref a17, .int f18, .int f19, .ref a20, .ref a21, .int (nI u22), .ref a23, .ref a24, .ref a25, .int (nI u26), .int f27, .ref a28, .int (nI u29)])), (a0, .inl (κ 0, 21375, .inl g_a0__23)), (a2, .inl (κ 0, 128214, .inl g_a2__11))] H := hP.sub [1, 2, 0] rfl
      replace hD : va_D A [(m0, .inr (12, [.ref a0, .ref a1, .ref a2, .int (nI y3__10), .int f4, .ref a5, .int (nI u6), .int f7, .int f8, .int f9, .int f10, .int (nI u11), .int (nI u12), .int (nI u13), .ref a14, .ref a15, .ref a16, .ref a17, .int f18, .int f19, .ref a20, .ref a21, .int (nI u22), .ref a23, .ref a24, .ref a25, .int (nI u26), .int f27, .ref a28, .int (nI u29)])), (a0, .inl (κ 0, 21375, .inl g_a0__23)), (a2, .inl (κ 0, 128214, .inl g_a2__11))] := hD.sub [1, 2, 0] (by decide) rfl
      replace hp_24 : Pw g_a0__23 ∧ Dl dq g_a0__23 ∧ g_a0__23 (7123 * j_4 + 2) = g_20 (7123 * j_4 + 2) := hp_24
      obtain ⟨h_25, h_26, h_27⟩ := hp_24
      refine W.eq (g2 := F0 m 104 ls []) rfl ?_
      refine lv_iload hx hb dX12_out_104 (lv_at hl 1 rfl) ?_
      refine lv_iconst (v := 1) hx hb dX12_out_106 (by decide) ?_
      refine lv_isub hx hb dX12_out_107 ?_
      refine ki (v := (nI (n_17 - 1))) (pk_sub (a := n_17) (b := 1) (by omega)) ?_
      exact ct_iret hx hb hr hlk rfl hS hP hD (nI (n_17 - 1), y3__10, g_a0__23, g_a2__11) rfl ⟨(show y3__10 ≤ 6 from (by first | assumption | omega | rfl | exact Or.inl (by assumption) | exact Or.inr (by assumption))), (show Pw g_a0__23 from (by first | assumption | omega | rfl | exact Or.inl (by assumption) | exact Or.inr (by assumption))), (show Dl dq g_a0__23 from (by first | assumption | omega | rfl | exact Or.inl (by assumption) | exact Or.inr (by assumption))), (show Pu g_a2__11 from (by first | assumption | omega | rfl | exact Or.inl (by assumption) | exact Or.inr (by assumption)))⟩ [0, 1, 2] rfl (by decide) trivial (Nat.le_of_ble_eq_true rfl) (Nat.le_of_ble_eq_true rfl) dX12_out_108
    · have nc_18 := cv_nle (a := (168 * (n_17 - 1))) (b := k5_36) (by omega) (by omega) c_18
      refine lv_aload_n hx hb dX12_out_47 rfl (lv_at hl 3 rfl) ?_
      refine va_get (D := D) (ci := 12) (v := .ref a0) (C := RX12) (T := TX12) (N := 30) hx hb hts inlX12 hown hK hP 0 rfl rfl 0 (by decide) (hts _ mw_187) (fun _ h9 => h9) rfl dX12_out_48 ?_
      refine lv_iload_n hx hb dX12_out_51 rfl (lv_at hl 4 rfl) ?_
      refine lv_sipush (v := 403) hx hb dX12_out_52 (by decide) ?_
      refine cr_S (As := [.int (nI j_4), .int 403]) (rest := [.ref a0]) hFX hKK (s_X12_at l D κ j_4 403) 2 gS_X12_66 hdS_X12_at rfl rfl ⟨Nat.le_of_ble_eq_true rfl, Nat.le_of_ble_eq_true rfl⟩ rfl rfl (Nat.le_of_ble_eq_true rfl) dX12_out_55 ⟨Nat.le_of_ble_eq_true rfl, Nat.le_of_ble_eq_true rfl⟩ hl.1 (hP.sub [] rfl) (fun _ hp_28 => ?_)
      refine W.eq (g2 := F0 m 58 ls [.int (nI (7123 * j_4 + 403)), .ref a0]) rfl ?_
      refine lv_iload hx hb dX12_out_58 (lv_at hl 0 rfl) ?_
      refine lv_iadd hx hb dX12_out_60 ?_
      refine ki (v := (nI (7123 * j_4 + 403 + k5_36))) (nI_add (7123 * j_4 + 403) k5_36) ?_
      refine lv_aload_n hx hb dX12_out_61 rfl (lv_at hl 3 rfl) ?_
      refine va_get (D := D) (ci := 12) (v := .ref a0) (C := RX12) (T := TX12) (N := 30) hx hb hts inlX12 hown hK hP 0 rfl rfl 0 (by decide) (hts _ mw_187) (fun _ h9 => h9) rfl dX12_out_62 ?_
      refine lv_iload_n hx hb dX12_out_65 rfl (lv_at hl 4 rfl) ?_
      refine lv_sipush (v := 403) hx hb dX12_out_66 (by decide) ?_
      refine cr_S (As := [.int (nI j_4), .int 403]) (rest := [.ref a0, .int (nI (7123 * j_4 + 403 + k5_36)), .ref a0]) hFX hKK (s_X12_at l D κ j_4 403) 2 gS_X12_66 hdS_X12_at rfl rfl ⟨Nat.le_of_ble_eq_true rfl, Nat.le_of_ble_eq_true rfl⟩ rfl rfl (Nat.le_of_ble_eq_true rfl) dX12_out_69 ⟨Nat.le_of_ble_eq_true rfl, Nat.le_of_ble_eq_true rfl⟩ hl.1 (hP.sub [] rfl) (fun _ hp_29 => ?_)
      refine W.eq (g2 := F0 m 72 ls [.int (nI (7123 * j_4 + 403)), .ref a0, .int (nI (7123 * j_4 + 403 + k5_36)), .ref a0]) rfl ?_
      refine lv_iload hx hb dX12_out_72 (lv_at hl 0 rfl) ?_
      refine lv_iadd hx hb dX12_out_74 ?_
      refine ki (v := (nI (7123 * j_4 + 403 + k5_36))) (nI_add (7123 * j_4 + 403) k5_36) ?_
      refine lv_iload_n hx hb dX12_out_75 rfl (lv_at hl 2 rfl) ?_
      refine lv_iadd hx hb dX12_out_76 ?_
      refine ki (v := (nI (7123 * j_4 + 403 + k5_36 + 168))) (nI_add (7123 * j_4 + 403 + k5_36) 168) ?_
      refine va_iald hx hb hK hP 1 0 rfl rfl (i := nI (7123 * j_4 + 403 + k5_36 + 168)) (vp_in_nI (n := (7123 * j_4 + 403 + k5_36 + 168)) (by omega) (by omega)) dX12_out_77 ?_
      refine kv (v := .int (ga0_36 (7123 * j_4 + 403 + k5_36 + 168))) (by rw [nI_clamp (by omega)]) ?_
      obtain ⟨x_30, ex_30⟩ : ∃ y9 : Int32, ga0_36 (7123 * j_4 + 403 + k5_36 + 168) = y9 := ⟨_, rfl⟩
      refine kv (v := .int x_30) (congrArg Value.int ex_30) ?_
      refine va_iast hx hb hK hP hD hS 1 0 rfl rfl (i := nI (7123 * j_4 + 403 + k5_36)) (x := x_30) (vp_in_nI (n := (7123 * j_4 + 403 + k5_36)) (by omega) (by omega)) dX12_out_78 (fun H locs hP hD hS => ?_)
      rw [nI_clamp (by omega)] at hP hD
      have hP : va_P D vwCl [(m0, .inr (12, [.ref a0, .ref a1, .ref a2, .int (nI y3__10), .int f4, .ref a5, .int (nI u6), .int f7, .int f8, .int f9, .int f10, .int (nI u11), .int (nI u12), .int (nI u13), .ref a14, .ref a15, .ref a16, .ref a17, .int f18, .int f19, .ref a20, .ref a21, .int (nI u22), .ref a23, .ref a24, .ref a25, .int (nI u26), .int f27, .ref a28, .int (nI u29)])), (a0, .inl (κ 0, 21375, .inl (upd ga0_36 (7123 * j_4 + 403 + k5_36) x_30))), (a2, .inl (κ 0, 128214, .inl g_a2__11))] H := hP
      have hD : va_D A [(m0, .inr (12, [.ref a0, .ref a1, .ref a2, .int (nI y3__10), .int f4, .ref a5, .int (nI u6), .int f7, .int f8, .int f9, .int f10, .int (nI u11), .int (nI u12), .int (nI u13), .ref a14, .ref a15, .ref a16, .ref a17, .int f18, .int f19, .ref a20, .ref a21, .int (nI u22), .ref a23, .ref a24, .ref a25, .int (nI u26), .int f27, .ref a28, .int (nI u29)])), (a0, .inl (κ 0, 21375, .inl (upd ga0_36 (7123 * j_4 + 403 + k5_36) x_30))), (a2, .inl (κ 0, 128214, .inl g_a2__11))] := hD
      have hf_32 : Pw (upd ga0_36 (7123 * j_4 + 403 + k5_36) x_30) := (Pw_moveE hg36_0 hg36_0 ex_30 (like_cell (t := j_4) (i := k5_36) (d := 8) (by omega) (by omega) (by omega) (by omega)))
      have hf_33 : Dl dq (upd ga0_36 (7123 * j_4 + 403 + k5_36) x_30) := (Dl_upd hg36_1 (by omega))
      have hq : (upd ga0_36 (7123 * j_4 + 403 + k5_36) x_30) (7123 * j_4 + 2) = nI n_17 := ((pk_un (by omega)).trans hl36_1)
      generalize upd ga0_36 (7123 * j_4 + 403 + k5_36) x_30 = g_31 at hP hD hf_32 hf_33 hq
      refine lv_iinc (v := (nI (k5_36 + 1))) (lv' := [(5, .int (nI (k5_36 + 1))), (4, .int (nI n_17)), (3, .int 168), (0, .ref m0), (1, .int (nI j_4)), (2, .int (nI rr_6))]) hx hb dX12_out_79 hl (k := 0) rfl (nI_i k5_36) (by decide) rfl (fun ls hl => ?_)
      refine lv_goto (tgt := 36) hx hb dX12_out_82 (by decide) ?_
      exact ih36 _ _ _ _ (by omega) ⟨(k5_36 + 1), g_31, (by omega), hq, (by omega), hf_32, hf_33, rfl, hP, hD, hS, lv_sub hl [0, 1, 2, 3, 4, 5] rfl⟩
  · refine W.eq (g2 := F0 m 6 ls [.int 0]) rfl ?_
    refine lv_if_ne (tgt := 11) hx hb dX12_out_6 (by decide) (fun c_34 => absurd c_34 (by decide)) (fun c_34 => ?_)
    refine lv_iconst (v := (-1)) hx hb dX12_out_9 (by decide) ?_
    exact ct_iret hx hb hr hlk rfl hS hP hD ((-1), u3, w, un) rfl ⟨(show u3 ≤ 6 from (by first | assumption | omega | rfl | exact Or.inl (by assumption) | exact Or.inr (by assumption))), (show Pw w from (by first | assumption | omega | rfl | exact Or.inl (by assumption) | exact Or.inr (by assumption))), (show Dl dq w from (by first | assumption | omega | rfl | exact Or.inl (by assumption) | exact Or.inr (by assumption))), (show Pu un from (by first | assumption | omega | rfl | exact Or.inl (by assumption) | exact Or.inr (by assumption)))⟩ [0, 1, 2] rfl (by decide) trivial (Nat.le_of_ble_eq_true rfl) (Nat.le_of_ble_eq_true rfl) dX12_out_10
set_option maxHeartbeats 4000000 in
set_option maxRecDepth 100000 in
theorem d_X12_away (l : Launch) (D : va_G) (κ : Nat → ClassId) (m0 : Nat) (a0 : Nat) (a1 : Nat) (a2 : Nat) (u3 : Nat) (f4 : Int32) (a5 : Nat) (u6 : Nat) (f7 : Int32) (f8 : Int32) (f9 : Int32) (f10 : Int32) (u11 : Nat) (u12 : Nat) (u13 : Nat) (a14 : Nat) (a15 : Nat) (a16 : Nat) (a17 : Nat) (f18 : Int32) (f19 : Int32) (a20 : Nat) (a21 : Nat) (u22 : Nat) (a23 : Nat) (a24 : Nat) (a25 : Nat) (u26 : Nat) (f27 : Int32) (a28 : Nat) (u29 : Nat) (w : Nat → Int32) (un : Nat → Int32) (za : Int32) (zb : Int32) (dq : Nat → Int32) (h3 : u3 ≤ 6) (h_a0 : Pw w) (h_a2 : Pu un) (h_dl : Dl dq w) : Ct l yX12_away (wl yX12_away cX12_away 7 (some .int)) { frames := 3, cells := 0, slots := 0, locals := 68 } D κ [.ref m0, .int za, .int zb] [(m0, .inr (12, [.ref a0, .ref a1, .ref a2, .int (nI u3), .int f4, .ref a5, .int (nI u6), .int f7, .int f8, .int f9, .int f10, .int (nI u11), .int (nI u12), .int (nI u13), .ref a14, .ref a15, .ref a16, .ref a17, .int f18, .int f19, .ref a20, .ref a21, .int (nI u22), .ref a23, .ref a24, .ref a25, .int (nI u26), .int f27, .ref a28, .int (nI u29)])), (a0, .inl (κ 0, 21375, .inl w)), (a2, .inl (κ 0, 128214, .inl un))] (fun _ => True) (fun u9 : Int32 × Nat × (Nat → Int32) × (Nat → Int32) => some (.int u9.1)) (fun u9 : Int32 × Nat × (Nat → Int32) × (Nat → Int32) => u9.2.1 ≤ 6 ∧ Pw u9.2.2.1 ∧ Dl dq u9.2.2.1 ∧ Pu u9.2.2.2) (fun u9 : Int32 × Nat × (Nat → Int32) × (Nat → Int32) => [(m0, .inr (12, [.ref a0, .ref a1, .ref a2, .int (nI u9.2.1), .int f4, .ref a5, .int (nI u6), .int f7, .int f8, .int f9, .int f10, .int (nI u11), .int (nI u12), .int (nI u13), .ref a14, .ref a15, .ref a16, .ref a17, .int f18, .int f19, .ref a20, .ref a21, .int (nI u22), .ref a23, .ref a24, .ref a25, .int (nI u26), .int f27, .ref a28, .int (nI u29)])), (a0, .inl (κ 0, 21375, .inl u9.2.2.1)), (a2, .inl (κ 0, 128214, .inl u9.2.2.2))]) (fun _ _ => True) := by
  refine ct_of (by decide +kernel) (Nat.le_of_ble_eq_true rfl) ?_
  intro p e s m args below meth c A ls hx hb hr hml hts hown hlk hin hKK hK hA hP hD hS hI hl
  have hS : va_S A s.heap s.heap [] := hS
  have hFX : FX p s m args c cX12_away 7 RX12 := ⟨hx, hb, hml, hown, hts⟩
  have hl : lv_has ls 7 [(0, .ref m0), (1, .int za), (2, .int zb)] := hl
  refine lv_aload_n hx hb dX12_away_0 rfl (lv_at hl 0 rfl) ?_
  refine lv_iload_n hx hb dX12_away_1 rfl (lv_at hl 1 rfl) ?_
  refine lv_iload_n hx hb dX12_away_2 rfl (lv_at hl 2 rfl) ?_
  refine cr_V (As := [.int za, .int zb]) (rest := []) hFX hKK (s2_X12_isColumn l D κ m0 a0 a1 a2 u3 f4 a5 u6 f7 f8 f9 f10 u11 u12 u13 a14 a15 a16 a17 f18 f19 a20 a21 u22 a23 a24 a25 u26 f27 a28 u29 w za zb h_a0) 2 gV_X12_312 hdV_X12_isColumn rfl rfl ⟨Nat.le_of_ble_eq_true rfl, Nat.le_of_ble_eq_true rfl⟩ rfl rfl (Nat.le_of_ble_eq_true rfl) dX12_away_3 ⟨Nat.le_of_ble_eq_true rfl, Nat.le_of_ble_eq_true rfl⟩ hl.1 hP 0 12 rfl rfl rfl (hP.sub [0, 1] rfl) (fun r__1 hp_2 => ?_)
  replace hp_2 : ((r__1 = 1 ∧ (∃ j : Nat, j < 3 ∧ za = nI j) ∧ (∃ c : Nat, (c < 8 ∧ ∀ j9 : Nat, za = nI j9 → j9 < 3 → c < nv (w (7123 * j9 + 1))) ∧ zb = nI c)) ∨ (r__1 = 0)) := hp_2
  have ha_3 := hp_2
  clear hp_2
  rcases ha_3 with ⟨rfl, ⟨j_4, hj_4, rfl⟩, ⟨c_6, ⟨hc_6, a_8⟩, rfl⟩⟩ | rfl
  · refine W.eq (g2 := F0 m 6 ls [.int 1]) rfl ?_
    refine lv_if_eq (tgt := 23) hx hb dX12_away_6 (by decide) (fun c_9 => absurd c_9 (by decide)) (fun c_9 => ?_)
    refine lv_aload_n hx hb dX12_away_9 rfl (lv_at hl 0 rfl) ?_
    refine va_get (D := D) (ci := 12) (v := .ref a0) (C := RX12) (T := TX12) (N := 30) hx hb hts inlX12 hown hK hP 0 rfl rfl 0 (by decide) (hts _ mw_187) (fun _ h9 => h9) rfl dX12_away_10 ?_
    refine lv_iload_n hx hb dX12_away_13 rfl (lv_at hl 1 rfl) ?_
    refine lv_iconst (v := 1) hx hb dX12_away_14 (by decide) ?_
    refine cr_S (As := [.int (nI j_4), .int 1]) (rest := [.ref a0]) hFX hKK (s_X12_at l D κ j_4 1) 2 gS_X12_66 hdS_X12_at rfl rfl ⟨Nat.le_of_ble_eq_true rfl, Nat.le_of_ble_eq_true rfl⟩ rfl rfl (Nat.le_of_ble_eq_true rfl) dX12_away_15 ⟨Nat.le_of_ble_eq_true rfl, Nat.le_of_ble_eq_true rfl⟩ hl.1 (hP.sub [] rfl) (fun _ hp_10 => ?_)
    refine W.eq (g2 := F0 m 18 ls [.int (nI (7123 * j_4 + 1)), .ref a0]) rfl ?_
    refine va_iald hx hb hK hP 1 0 rfl rfl (i := nI (7123 * j_4 + 1)) (vp_in_nI (n := (7123 * j_4 + 1)) (by omega) (by omega)) dX12_away_18 ?_
    refine kv (v := .int (w (7123 * j_4 + 1))) (by rw [nI_clamp (by omega)]) ?_
    obtain ⟨n_11, hn_11, en_11⟩ : ∃ n9 : Nat, n9 ≤ 8 ∧ w (7123 * j_4 + 1) = nI n9 := id (h_a0 _ _ (mN (t := j_4) (by omega) (by omega)))
    refine kv (v := .int (nI n_11)) (congrArg Value.int en_11) ?_
    refine lv_iconst (v := 1) hx hb dX12_away_19 (by decide) ?_
    refine lv_icmp_ne (tgt := 25) hx hb dX12_away_20 (by decide) (fun c_12 => ?_) (fun c_12 => ?_)
    · have nc_12 := cv_ne (a := n_11) (b := 1) (by omega) (by omega) c_12
      refine lv_aload_n hx hb dX12_away_25 rfl (lv_at hl 0 rfl) ?_
      refine ct_V (wr := []) (As := []) (rest := []) hFX hKK hP hD hS hA (s_X12_remembers l D κ m0 a0 a1 a2 u3 f4 a5 u6 f7 f8 f9 f10 u11 u12 u13 a14 a15 a16 a17 f18 f19 a20 a21 u22 a23 a24 a25 u26 f27 a28 u29 w un (by omega) h_a0 h_a2) 0 gV_X12_296 hdV_X12_remembers ⟨Nat.le_of_ble_eq_true rfl, Nat.le_of_ble_eq_true rfl⟩ rfl rfl (Nat.le_of_ble_eq_true rfl) dX12_away_26 ⟨Nat.le_of_ble_eq_true rfl, Nat.le_of_ble_eq_true rfl⟩ hl.1 [0, 1, 2] [] rfl rfl (by decide) (by decide) (by decide) 0 12 rfl rfl rfl trivial (fun u_15 H locs hp_16 _ hP hD hS hz_ hk_ => ?_)
      obtain ⟨y3__13, g_a2__14⟩ := u_15
      replace hP : va_P D vwCl [(m0, .inr (12, [.ref a0, .ref a1, .ref a2, .int (nI y3__13), .int f4, .ref a5, .int (nI u6), .int f7, .int f8, .int f9, .int f10, .int (nI u11), .int (nI u12), .int (nI u13), .ref a14, .ref a15, .ref a16, .ref a17, .int f18, .int f19, .ref a20, .ref a21, .int (nI u22), .ref a23, .ref a24, .ref a25, .int (nI u26), .int f27, .ref a28, .int (nI u29)])), (a0, .inl (κ 0, 21375, .inl w)), (a2, .inl (κ 0, 128214, .inl g_a2__14))] H := hP
      replace hD : va_D A [(m0, .inr (12, [.ref a0, .ref a1, .ref a2, .int (nI y3__13), .int f4, .ref a5, .int (nI u6), .int f7, .int f8, .int f9, .int f10, .int (nI u11), .int (nI u12), .int (nI u13), .ref a14, .ref a15, .ref a16, .ref a17, .int f18, .int f19, .ref a20, .ref a21, .int (nI u22), .ref a23, .ref a24, .ref a25, .int (nI u26), .int f27, .ref a28, .int (nI u29)])), (a0, .inl (κ 0, 21375, .inl w)), (a2, .inl (κ 0, 128214, .inl g_a2__14))] := hD
      replace hp_16 : y3__13 ≤ 6 ∧ Pu g_a2__14 := hp_16
      obtain ⟨h_17, h_18⟩ := hp_16
      refine W.eq (g2 := F0 m 29 ls []) rfl ?_
      refine lv_aload_n hx hb dX12_away_29 rfl (lv_at hl 0 rfl) ?_
      refine va_get (D := D) (ci := 12) (v := .ref a0) (C := RX12) (T := TX12) (N := 30) hx hb hts inlX12 hown hK hP 0 rfl rfl 0 (by decide) (hts _ mw_187) (fun _ h9 => h9) rfl dX12_away_30 ?_
      refine lv_iload_n hx hb dX12_away_33 rfl (lv_at hl 1 rfl) ?_
      refine lv_iconst (v := 1) hx hb dX12_away_34 (by decide) ?_
      refine cr_S (As := [.int (nI j_4), .int 1]) (rest := [.ref a0]) hFX hKK (s_X12_at l D κ j_4 1) 2 gS_X12_66 hdS_X12_at rfl rfl ⟨Nat.le_of_ble_eq_true rfl, Nat.le_of_ble_eq_true rfl⟩ rfl rfl (Nat.le_of_ble_eq_true rfl) dX12_away_35 ⟨Nat.le_of_ble_eq_true rfl, Nat.le_of_ble_eq_true rfl⟩ hl.1 (hP.sub [] rfl) (fun _ hp_19 => ?_)
      refine W.eq (g2 := F0 m 38 ls [.int (nI (7123 * j_4 + 1)), .ref a0]) rfl ?_
      refine va_iald hx hb hK hP 1 0 rfl rfl (i := nI (7123 * j_4 + 1)) (vp_in_nI (n := (7123 * j_4 + 1)) (by omega) (by omega)) dX12_away_38 ?_
      refine kv (v := .int (nI n_11)) (by rw [nI_clamp (by omega), show w (7123 * j_4 + 1) = (nI n_11) from en_11]) ?_
      have hcn : c_6 < n_11 := cn_of (a_8 j_4 rfl (by omega)) en_11 (by omega)
      refine lv_istore_n (lv' := [(3, .int (nI n_11)), (0, .ref m0), (1, .int (nI j_4)), (2, .int (nI c_6))]) hx hb dX12_away_39 rfl hl (by decide) rfl (fun ls hl => ?_)
      refine lv_iload_n hx hb dX12_away_40 rfl (lv_at hl 3 rfl) ?_
      refine lv_istore (lv' := [(4, .int (nI c_6)), (3, .int (nI n_11)), (0, .ref m0), (1, .int (nI j_4)), (2, .int (nI c_6))]) hx hb dX12_away_41 hl (by decide) rfl (fun ls hl => ?_)
      refine loop_dn (fun k9 H locs ls => ∃ (k4_43 : Nat), ∃ (ga0_43 : Nat → Int32), (k4_43 < n_11) ∧ (ga0_43 (7123 * j_4 + 1) = nI n_11) ∧ Pw ga0_43 ∧ Dl dq ga0_43 ∧ n_11 - k4_43 = k9 ∧ va_P D vwCl [(m0, .inr (12, [.ref a0, .ref a1, .ref a2, .int (nI y3__13), .int f4, .ref a5, .int (nI u6), .int f7, .int f8, .int f9, .int f10, .int (nI u11), .int (nI u12), .int (nI u13), .ref a14, .ref a15, .ref a16, .ref a17, .int f18, .int f19, .ref a20, .ref a21, .int (nI u22), .ref a23, .ref a24, .ref a25, .int (nI u26), .int f27, .ref a28, .int (nI u29)])), (a0, .inl (κ 0, 21375, .inl ga0_43)), (a2, .inl (κ 0, 128214, .inl g_a2__14))] H ∧ va_D A [(m0, .inr (12, [.ref a0, .ref a1, .ref a2, .int (nI y3__13), .int f4, .ref a5, .int (nI u6), .int f7, .int f8, .int f9, .int f10, .int (nI u11), .int (nI u12), .int (nI u13), .ref a14, .ref a15, .ref a16, .ref a17, .int f18, .int f19, .ref a20, .ref a21, .int (nI u22), .ref a23, .ref a24, .ref a25, .int (nI u26), .int f27, .ref a28, .int (nI u29)])), (a0, .inl (κ 0, 21375, .inl ga0_43)), (a2, .inl (κ 0, 128214, .inl g_a2__14))] ∧ va_S A s.heap H locs ∧ lv_has ls 7 [(4, .int (nI k4_43)), (3, .int (nI n_11)), (0, .ref m0), (1, .int (nI j_4)), (2, .int (nI c_6))]) (fun k9 H locs ls hI43 ih43 => ?_) (n_11 - c_6) _ _ _ ⟨c_6, w, (by omega), en_11, h_a0, h_dl, rfl, hP, hD, hS, lv_sub hl [0, 1, 2, 3, 4] rfl⟩
      obtain ⟨k4_43, ga0_43, hl43_0, hl43_1, hg43_0, hg43_1, hm43, hP, hD, hS, hl⟩ := hI43
      refine lv_iload hx hb dX12_away_43 (lv_at hl 0 rfl) ?_
      refine lv_iconst (v := 1) hx hb dX12_away_45 (by decide) ?_
      refine lv_iadd hx hb dX12_away_46 ?_
      refine ki (v := (nI (k4_43 + 1))) (nI_add k4_43 1) ?_
      refine lv_iload_n hx hb dX12_away_47 rfl (lv_at hl 1 rfl) ?_
      refine lv_icmp_ge (tgt := 207) hx hb dX12_away_48 (by decide) (fun c_20 => ?_) (fun c_20 => ?_)
      · have nc_20 := cv_le (a := n_11) (b := (k4_43 + 1)) (by omega) (by omega) c_20
        refine lv_aload_n hx hb dX12_away_207 rfl (lv_at hl 2 rfl) ?_
        refine va_get (D := D) (ci := 12) (v := .ref a0) (C := RX12) (T := TX12) (N := 30) hx hb hts inlX12 hown hK hP 0 rfl rfl 0 (by decide) (hts _ mw_187) (fun _ h9 => h9) rfl dX12_away_208 ?_
        refine lv_iload_n hx hb dX12_away_211 rfl (lv_at hl 3 rfl) ?_
        refine lv_bipush (v := 108) hx hb dX12_away_212 (by decide) ?_
        refine cr_S (As := [.int (nI j_4), .int 108]) (rest := [.ref a0]) hFX hKK (s_X12_at l D κ j_4 108) 2 gS_X12_66 hdS_X12_at rfl rfl ⟨Nat.le_of_ble_eq_true rfl, Nat.le_of_ble_eq_true rfl⟩ rfl rfl (Nat.le_of_ble_eq_true rfl) dX12_away_214 ⟨Nat.le_of_ble_eq_true rfl, Nat.le_of_ble_eq_true rfl⟩ hl.1 (hP.sub [] rfl) (fun _ hp_21 => ?_)
        refine W.eq (g2 := F0 m 217 ls [.int (nI (7123 * j_4 + 108)), .ref a0]) rfl ?_
        refine lv_iload_n hx hb dX12_away_217 rfl (lv_at hl 1 rfl) ?_
        refine lv_iadd hx hb dX12_away_218 ?_
        refine ki (v := (nI (7123 * j_4 + 108 + n_11))) (nI_add (7123 * j_4 + 108) n_11) ?_
        refine lv_iconst (v := 1) hx hb dX12_away_219 (by decide) ?_
        refine lv_isub hx hb dX12_away_220 ?_
        refine ki (v := (nI (7123 * j_4 + 108 + n_11 - 1))) (pk_sub (a := (7123 * j_4 + 108 + n_11)) (b := 1) (by omega)) ?_
        refine lv_iconst (v := 0) hx hb dX12_away_221 (by decide) ?_
        refine va_iast hx hb hK hP hD hS 1 0 rfl rfl (i := nI (7123 * j_4 + 108 + n_11 - 1)) (x := 0) (vp_in_nI (n := (7123 * j_4 + 108 + n_11 - 1)) (by omega) (by omega)) dX12_away_222 (fun H locs hP hD hS => ?_)
        rw [nI_clamp (by omega)] at hP hD
        have hP : va_P D vwCl [(m0, .inr (12, [.ref a0, .ref a1, .ref a2, .int (nI y3__13), .int f4, .ref a5, .int (nI u6), .int f7, .int f8, .int f9, .int f10, .int (nI u11), .int (nI u12), .int (nI u13), .ref a14, .ref a15, .ref a16, .ref a17, .int f18, .int f19, .ref a20, .ref a21, .int (nI u22), .ref a23, .ref a24, .ref a25, .int (nI u26), .int f27, .ref a28, .int (nI u29)])), (a0, .inl (κ 0, 21375, .inl (upd ga0_43 (7123 * j_4 + 108 + n_11 - 1) 0))), (a2, .inl (κ 0, 128214, .inl g_a2__14))] H := hP
        have hD : va_D A [(m0, .inr (12, [.ref a0, .ref a1, .ref a2, .int (nI y3__13), .int f4, .ref a5, .int (nI u6), .int f7, .int f8, .int f9, .int f10, .int (nI u11), .int (nI u12), .int (nI u13), .ref a14, .ref a15, .ref a16, .ref a17, .int f18, .int f19, .ref a20, .ref a21, .int (nI u22), .ref a23, .ref a24, .ref a25, .int (nI u26), .int f27, .ref a28, .int (nI u29)])), (a0, .inl (κ 0, 21375, .inl (upd ga0_43 (7123 * j_4 + 108 + n_11 - 1) 0))), (a2, .inl (κ 0, 128214, .inl g_a2__14))] := hD
        have hf_23 : Pw (upd ga0_43 (7123 * j_4 + 108 + n_11 - 1) 0) := (Pw_upd hg43_0 (mTOLD (t := j_4) (c := n_11 - 1) (by omega) (by omega) (by omega)) ⟨0, by omega, by decide⟩)
        have hf_24 : Dl dq (upd ga0_43 (7123 * j_4 + 108 + n_11 - 1) 0) := (Dl_upd hg43_1 (by omega))
        have hq : (upd ga0_43 (7123 * j_4 + 108 + n_11 - 1) 0) (7123 * j_4 + 1) = nI n_11 := ((pk_un (by omega)).trans hl43_1)
        generalize upd ga0_43 (7123 * j_4 + 108 + n_11 - 1) 0 = g_22 at hP hD hf_23 hf_24 hq
        refine lv_aload_n hx hb dX12_away_223 rfl (lv_at hl 2 rfl) ?_
        refine va_get (D := D) (ci := 12) (v := .ref a0) (C := RX12) (T := TX12) (N := 30) hx hb hts inlX12 hown hK hP 0 rfl rfl 0 (by decide) (hts _ mw_187) (fun _ h9 => h9) rfl dX12_away_224 ?_
        refine lv_iload_n hx hb dX12_away_227 rfl (lv_at hl 3 rfl) ?_
        refine lv_iconst (v := 1) hx hb dX12_away_228 (by decide) ?_
        refine cr_S (As := [.int (nI j_4), .int 1]) (rest := [.ref a0]) hFX hKK (s_X12_at l D κ j_4 1) 2 gS_X12_66 hdS_X12_at rfl rfl ⟨Nat.le_of_ble_eq_true rfl, Nat.le_of_ble_eq_true rfl⟩ rfl rfl (Nat.le_of_ble_eq_true rfl) dX12_away_229 ⟨Nat.le_of_ble_eq_true rfl, Nat.le_of_ble_eq_true rfl⟩ hl.1 (hP.sub [] rfl) (fun _ hp_25 => ?_)
        refine W.eq (g2 := F0 m 232 ls [.int (nI (7123 * j_4 + 1)), .ref a0]) rfl ?_
        refine lv_dup2_11 hx hb dX12_away_232 rfl rfl ?_
        refine va_iald hx hb hK hP 1 0 rfl rfl (i := nI (7123 * j_4 + 1)) (vp_in_nI (n := (7123 * j_4 + 1)) (by omega) (by omega)) dX12_away_233 ?_
        refine kv (v := .int (g_22 (7123 * j_4 + 1))) (by rw [nI_clamp (by omega)]) ?_
        refine kv (v := .int (nI n_11)) (congrArg Value.int hq) ?_
        refine lv_iconst (v := 1) hx hb dX12_away_234 (by decide) ?_
        refine lv_isub hx hb dX12_away_235 ?_
        refine ki (v := (nI (n_11 - 1))) (pk_sub (a := n_11) (b := 1) (by omega)) ?_
        refine va_iast hx hb hK hP hD hS 1 0 rfl rfl (i := nI (7123 * j_4 + 1)) (x := nI (n_11 - 1)) (vp_in_nI (n := (7123 * j_4 + 1)) (by omega) (by omega)) dX12_away_236 (fun H locs hP hD hS => ?_)
        rw [nI_clamp (by omega)] at hP hD
        have hP : va_P D vwCl [(m0, .inr (12, [.ref a0, .ref a1, .ref a2, .int (nI y3__13), .int f4, .ref a5, .int (nI u6), .int f7, .int f8, .int f9, .int f10, .int (nI u11), .int (nI u12), .int (nI u13), .ref a14, .ref a15, .ref a16, .ref a17, .int f18, .int f19, .ref a20, .ref a21, .int (nI u22), .ref a23, .ref a24, .ref a25, .int (nI u26), .int f27, .ref a28, .int (nI u29)])), (a0, .inl (κ 0, 21375, .inl (upd g_22 (7123 * j_4 + 1) (nI (n_11 - 1))))), (a2, .inl (κ 0, 128214, .inl g_a2__14))] H := hP
        have hD : va_D A [(m0, .inr (12, [.ref a0, .ref a1, .ref a2, .int (nI y3__13), .int f4, .ref a5, .int (nI u6), .int f7, .int f8, .int f9, .int f10, .int (nI u11), .int (nI u12), .int (nI u13), .ref a14, .ref a15, .ref a16, .ref a17, .int f18, .int f19, .ref a20, .ref a21, .int (nI u22), .ref a23, .ref a24, .ref a25, .int (nI u26), .int f27, .ref a28, .int (nI u29)])), (a0, .inl (κ 0, 21375, .inl (upd g_22 (7123 * j_4 + 1) (nI (n_11 - 1))))), (a2, .inl (κ 0, 128214, .inl g_a2__14))] := hD
        have hf_27 : Pw (upd g_22 (7123 * j_4 + 1) (nI (n_11 - 1))) := (Pw_upd hf_23 (mN (t := j_4) (by omega) (by omega)) ⟨n_11 - 1, by omega, rfl⟩)
        have hf_28 : Dl dq (upd g_22 (7123 * j_4 + 1) (nI (n_11 - 1))) := (Dl_upd hf_24 (by omega))
        generalize upd g_22 (7123 * j_4 + 1) (nI (n_11 - 1)) = g_26 at hP hD hf_27 hf_28
        refine lv_aload_n hx hb dX12_away_237 rfl (lv_at hl 2 rfl) ?_
        refine lv_iload_n hx hb dX12_away_238 rfl (lv_at hl 3 rfl) ?_
        refine ct_V (wr := [(a2, .inl (κ 0, 128214, .inl g_a2__14))]) (As := [.int (nI j_4)]) (rest := []) hFX hKK hP hD hS hA (d_X12_viewsOff l D κ m0 a0 a1 a2 y3__13 f4 a5 u6 f7 f8 f9 f10 u11 u12 u13 a14 a15 a16 a17 f18 f19 a20 a21 u22 a23 a24 a25 u26 f27 a28 u29 g_26 j_4 dq hf_27 hf_28 (by omega)) 1 gV_X12_77 hdV_X12_viewsOff ⟨Nat.le_of_ble_eq_true rfl, Nat.le_of_ble_eq_true rfl⟩ rfl rfl (Nat.le_of_ble_eq_true rfl) dX12_away_239 ⟨Nat.le_of_ble_eq_true rfl, Nat.le_of_ble_eq_true rfl⟩ hl.1 [0, 1] [2] rfl rfl (by decide) (by decide) (by decide) 0 12 rfl rfl rfl trivial (fun g_a0__29 H locs hp_30 _ hP hD hS hz_ hk_ => ?_)
        replace hP : va_P D vwCl [(m0, .inr (12, [.ref a0, .ref a1, .ref a2, .int (nI y3__13), .int f4, .ref a5, .int (nI u6), .int f7, .int f8, .int f9, .int f10, .int (nI u11), .int (nI u12), .int (nI u13), .ref a14, .ref a15, .ref a16, .ref a17, .int f18, .int f19, .ref a20, .ref a21, .int (nI u22), .ref a23, .ref a24, .ref a25, .int (nI u26), .int f27, .ref a28, .int (nI u29)])), (a0, .inl (κ 0, 21375, .inl g_a0__29)), (a2, .inl (κ 0, 128214, .inl g_a2__14))] H := hP.sub [1, 2, 0] rfl
        replace hD : va_D A [(m0, .inr (12, [.ref a0, .ref a1, .ref a2, .int (nI y3__13), .int f4, .ref a5, .int (nI u6), .int f7, .int f8, .int f9, .int f10, .int (nI u11), .int (nI u12), .int (nI u13), .ref a14, .ref a15, .ref a16, .ref a17, .int f18, .int f19, .ref a20, .ref a21, .int (nI u22), .ref a23, .ref a24, .ref a25, .int (nI u26), .int f27, .ref a28, .int (nI u29)])), (a0, .inl (κ 0, 21375, .inl g_a0__29)), (a2, .inl (κ 0, 128214, .inl g_a2__14))] := hD.sub [1, 2, 0] (by decide) rfl
        replace hp_30 : Pw g_a0__29 ∧ Dl dq g_a0__29 ∧ g_a0__29 (7123 * j_4 + 2) = g_26 (7123 * j_4 + 2) := hp_30
        obtain ⟨h_31, h_32, h_33⟩ := hp_30
        refine W.eq (g2 := F0 m 242 ls []) rfl ?_
        refine lv_iload_n hx hb dX12_away_242 rfl (lv_at hl 1 rfl) ?_
        refine lv_iconst (v := 1) hx hb dX12_away_243 (by decide) ?_
        refine lv_isub hx hb dX12_away_244 ?_
        refine ki (v := (nI (n_11 - 1))) (pk_sub (a := n_11) (b := 1) (by omega)) ?_
        exact ct_iret hx hb hr hlk rfl hS hP hD (nI (n_11 - 1), y3__13, g_a0__29, g_a2__14) rfl ⟨(show y3__13 ≤ 6 from (by first | assumption | omega | rfl | exact Or.inl (by assumption) | exact Or.inr (by assumption))), (show Pw g_a0__29 from (by first | assumption | omega | rfl | exact Or.inl (by assumption) | exact Or.inr (by assumption))), (show Dl dq g_a0__29 from (by first | assumption | omega | rfl | exact Or.inl (by assumption) | exact Or.inr (by assumption))), (show Pu g_a2__14 from (by first | assumption | omega | rfl | exact Or.inl (by assumption) | exact Or.inr (by assumption)))⟩ [0, 1, 2] rfl (by decide) trivial (Nat.le_of_ble_eq_true rfl) (Nat.le_of_ble_eq_true rfl) dX12_away_245
      · have nc_20 := cv_nle (a := n_11) (b := (k4_43 + 1)) (by omega) (by omega) c_20
        refine lv_aload_n hx hb dX12_away_51 rfl (lv_at hl 2 rfl) ?_
        refine va_get (D := D) (ci := 12) (v := .ref a0) (C := RX12) (T := TX12) (N := 30) hx hb hts inlX12 hown hK hP 0 rfl rfl 0 (by decide) (hts _ mw_187) (fun _ h9 => h9) rfl dX12_away_52 ?_
        refine lv_iload_n hx hb dX12_away_55 rfl (lv_at hl 3 rfl) ?_
        refine lv_bipush (v := 108) hx hb dX12_away_56 (by decide) ?_
        refine cr_S (As := [.int (nI j_4), .int 108]) (rest := [.ref a0]) hFX hKK (s_X12_at l D κ j_4 108) 2 gS_X12_66 hdS_X12_at rfl rfl ⟨Nat.le_of_ble_eq_true rfl, Nat.le_of_ble_eq_true rfl⟩ rfl rfl (Nat.le_of_ble_eq_true rfl) dX12_away_58 ⟨Nat.le_of_ble_eq_true rfl, Nat.le_of_ble_eq_true rfl⟩ hl.1 (hP.sub [] rfl) (fun _ hp_34 => ?_)
        refine W.eq (g2 := F0 m 61 ls [.int (nI (7123 * j_4 + 108)), .ref a0]) rfl ?_
        refine lv_iload hx hb dX12_away_61 (lv_at hl 0 rfl) ?_
        refine lv_iadd hx hb dX12_away_63 ?_
        refine ki (v := (nI (7123 * j_4 + 108 + k4_43))) (nI_add (7123 * j_4 + 108) k4_43) ?_
        refine lv_aload_n hx hb dX12_away_64 rfl (lv_at hl 2 rfl) ?_
        refine va_get (D := D) (ci := 12) (v := .ref a0) (C := RX12) (T := TX12) (N := 30) hx hb hts inlX12 hown hK hP 0 rfl rfl 0 (by decide) (hts _ mw_187) (fun _ h9 => h9) rfl dX12_away_65 ?_
        refine lv_iload_n hx hb dX12_away_68 rfl (lv_at hl 3 rfl) ?_
        refine lv_bipush (v := 108) hx hb dX12_away_69 (by decide) ?_
        refine cr_S (As := [.int (nI j_4), .int 108]) (rest := [.ref a0, .int (nI (7123 * j_4 + 108 + k4_43)), .ref a0]) hFX hKK (s_X12_at l D κ j_4 108) 2 gS_X12_66 hdS_X12_at rfl rfl ⟨Nat.le_of_ble_eq_true rfl, Nat.le_of_ble_eq_true rfl⟩ rfl rfl (Nat.le_of_ble_eq_true rfl) dX12_away_71 ⟨Nat.le_of_ble_eq_true rfl, Nat.le_of_ble_eq_true rfl⟩ hl.1 (hP.sub [] rfl) (fun _ hp_35 => ?_)
        refine W.eq (g2 := F0 m 74 ls [.int (nI (7123 * j_4 + 108)), .ref a0, .int (nI (7123 * j_4 + 108 + k4_43)), .ref a0]) rfl ?_
        refine lv_iload hx hb dX12_away_74 (lv_at hl 0 rfl) ?_
        refine lv_iadd hx hb dX12_away_76 ?_
        refine ki (v := (nI (7123 * j_4 + 108 + k4_43))) (nI_add (7123 * j_4 + 108) k4_43) ?_
        refine lv_iconst (v := 1) hx hb dX12_away_77 (by decide) ?_
        refine lv_iadd hx hb dX12_away_78 ?_
        refine ki (v := (nI (7123 * j_4 + 108 + k4_43 + 1))) (nI_add (7123 * j_4 + 108 + k4_43) 1) ?_
        refine va_iald hx hb hK hP 1 0 rfl rfl (i := nI (7123 * j_4 + 108 + k4_43 + 1)) (vp_in_nI (n := (7123 * j_4 + 108 + k4_43 + 1)) (by omega) (by omega)) dX12_away_79 ?_
        refine kv (v := .int (ga0_43 (7123 * j_4 + 108 + k4_43 + 1))) (by rw [nI_clamp (by omega)]) ?_
        obtain ⟨n_36, hn_36, en_36⟩ : ∃ n9 : Nat, n9 ≤ 5 ∧ ga0_43 (7123 * j_4 + 108 + k4_43 + 1) = nI n9 := id (hg43_0 _ _ (mTOLD (t := j_4) (c := k4_43 + 1) (by omega) (by omega) (by omega)))
        refine kv (v := .int (nI n_36)) (congrArg Value.int en_36) ?_
        refine va_iast hx hb hK hP hD hS 1 0 rfl rfl (i := nI (7123 * j_4 + 108 + k4_43)) (x := nI n_36) (vp_in_nI (n := (7123 * j_4 + 108 + k4_43)) (by omega) (by omega)) dX12_away_80 (fun H locs hP hD hS => ?_)
        rw [nI_clamp (by omega)] at hP hD
        have hP : va_P D vwCl [(m0, .inr (12, [.ref a0, .ref a1, .ref a2, .int (nI y3__13), .int f4, .ref a5, .int (nI u6), .int f7, .int f8, .int f9, .int f10, .int (nI u11), .int (nI u12), .int (nI u13), .ref a14, .ref a15, .ref a16, .ref a17, .int f18, .int f19, .ref a20, .ref a21, .int (nI u22), .ref a23, .ref a24, .ref a25, .int (nI u26), .int f27, .ref a28, .int (nI u29)])), (a0, .inl (κ 0, 21375, .inl (upd ga0_43 (7123 * j_4 + 108 + k4_43) (nI n_36)))), (a2, .inl (κ 0, 128214, .inl g_a2__14))] H := hP
        have hD : va_D A [(m0, .inr (12, [.ref a0, .ref a1, .ref a2, .int (nI y3__13), .int f4, .ref a5, .int (nI u6), .int f7, .int f8, .int f9, .int f10, .int (nI u11), .int (nI u12), .int (nI u13), .ref a14, .ref a15, .ref a16, .ref a17, .int f18, .int f19, .ref a20, .ref a21, .int (nI u22), .ref a23, .ref a24, .ref a25, .int (nI u26), .int f27, .ref a28, .int (nI u29)])), (a0, .inl (κ 0, 21375, .inl (upd ga0_43 (7123 * j_4 + 108 + k4_43) (nI n_36)))), (a2, .inl (κ 0, 128214, .inl g_a2__14))] := hD
        have hf_38 : Pw (upd ga0_43 (7123 * j_4 + 108 + k4_43) (nI n_36)) := (Pw_upd hg43_0 (mTOLD (t := j_4) (c := k4_43) (by omega) (by omega) (by omega)) ⟨n_36, by omega, rfl⟩)
        have hf_39 : Dl dq (upd ga0_43 (7123 * j_4 + 108 + k4_43) (nI n_36)) := (Dl_upd hg43_1 (by omega))
        have hq : (upd ga0_43 (7123 * j_4 + 108 + k4_43) (nI n_36)) (7123 * j_4 + 1) = nI n_11 := ((pk_un (by omega)).trans hl43_1)
        generalize upd ga0_43 (7123 * j_4 + 108 + k4_43) (nI n_36) = g_37 at hP hD hf_38 hf_39 hq
        refine lv_iconst (v := 0) hx hb dX12_away_81 (by decide) ?_
        refine lv_istore (lv' := [(5, .int 0), (4, .int (nI k4_43)), (3, .int (nI n_11)), (0, .ref m0), (1, .int (nI j_4)), (2, .int (nI c_6))]) hx hb dX12_away_82 hl (by decide) rfl (fun ls hl => ?_)
        refine loop_dn (fun k9 H locs ls => ∃ (k5_84 : Nat), ∃ (ga0_84 : Nat → Int32), (k5_84 ≤ 13) ∧ (ga0_84 (7123 * j_4 + 1) = nI n_11) ∧ Pw ga0_84 ∧ Dl dq ga0_84 ∧ 13 - k5_84 = k9 ∧ va_P D vwCl [(m0, .inr (12, [.ref a0, .ref a1, .ref a2, .int (nI y3__13), .int f4, .ref a5, .int (nI u6), .int f7, .int f8, .int f9, .int f10, .int (nI u11), .int (nI u12), .int (nI u13), .ref a14, .ref a15, .ref a16, .ref a17, .int f18, .int f19, .ref a20, .ref a21, .int (nI u22), .ref a23, .ref a24, .ref a25, .int (nI u26), .int f27, .ref a28, .int (nI u29)])), (a0, .inl (κ 0, 21375, .inl ga0_84)), (a2, .inl (κ 0, 128214, .inl g_a2__14))] H ∧ va_D A [(m0, .inr (12, [.ref a0, .ref a1, .ref a2, .int (nI y3__13), .int f4, .ref a5, .int (nI u6), .int f7, .int f8, .int f9, .int f10, .int (nI u11), .int (nI u12), .int (nI u13), .ref a14, .ref a15, .ref a16, .ref a17, .int f18, .int f19, .ref a20, .ref a21, .int (nI u22), .ref a23, .ref a24, .ref a25, .int (nI u26), .int f27, .ref a28, .int (nI u29)])), (a0, .inl (κ 0, 21375, .inl ga0_84)), (a2, .inl (κ 0, 128214, .inl g_a2__14))] ∧ va_S A s.heap H locs ∧ lv_has ls 7 [(5, .int (nI k5_84)), (4, .int (nI k4_43)), (3, .int (nI n_11)), (0, .ref m0), (1, .int (nI j_4)), (2, .int (nI c_6))]) (fun k9 H locs ls hI84 ih84 => ?_) (13 - 0) _ _ _ ⟨0, g_37, (by omega), hq, hf_38, hf_39, rfl, hP, hD, hS, lv_sub hl [0, 1, 2, 3, 4, 5] rfl⟩
        obtain ⟨k5_84, ga0_84, hl84_0, hl84_1, hg84_0, hg84_1, hm84, hP, hD, hS, hl⟩ := hI84
        refine lv_iload hx hb dX12_away_84 (lv_at hl 0 rfl) ?_
        refine lv_bipush (v := 13) hx hb dX12_away_86 (by decide) ?_
        refine lv_icmp_ge (tgt := 127) hx hb dX12_away_88 (by decide) (fun c_40 => ?_) (fun c_40 => ?_)
        · have nc_40 := cv_le (a := 13) (b := k5_84) (by omega) (by omega) c_40
          refine lv_iconst (v := 0) hx hb dX12_away_127 (by decide) ?_
          refine lv_istore (lv' := [(5, .int 0), (4, .int (nI k4_43)), (3, .int (nI n_11)), (0, .ref m0), (1, .int (nI j_4)), (2, .int (nI c_6))]) hx hb dX12_away_128 hl (by decide) rfl (fun ls hl => ?_)
          refine loop_dn (fun k9 H locs ls => ∃ (k5_130 : Nat), ∃ (ga0_130 : Nat → Int32), (k5_130 ≤ 40) ∧ (ga0_130 (7123 * j_4 + 1) = nI n_11) ∧ Pw ga0_130 ∧ Dl dq ga0_130 ∧ 40 - k5_130 = k9 ∧ va_P D vwCl [(m0, .inr (12, [.ref a0, .ref a1, .ref a2, .int (nI y3__13), .int f4, .ref a5, .int (nI u6), .int f7, .int f8, .int f9, .int f10, .int (nI u11), .int (nI u12), .int (nI u13), .ref a14, .ref a15, .ref a16, .ref a17, .int f18, .int f19, .ref a20, .ref a21, .int (nI u22), .ref a23, .ref a24, .ref a25, .int (nI u26), .int f27, .ref a28, .int (nI u29)])), (a0, .inl (κ 0, 21375, .inl ga0_130)), (a2, .inl (κ 0, 128214, .inl g_a2__14))] H ∧ va_D A [(m0, .inr (12, [.ref a0, .ref a1, .ref a2, .int (nI y3__13), .int f4, .ref a5, .int (nI u6), .int f7, .int f8, .int f9, .int f10, .int (nI u11), .int (nI u12), .int (nI u13), .ref a14, .ref a15, .ref a16, .ref a17, .int f18, .int f19, .ref a20, .ref a21, .int (nI u22), .ref a23, .ref a24, .ref a25, .int (nI u26), .int f27, .ref a28, .int (nI u29)])), (a0, .inl (κ 0, 21375, .inl ga0_130)), (a2, .inl (κ 0, 128214, .inl g_a2__14))] ∧ va_S A s.heap H locs ∧ lv_has ls 7 [(5, .int (nI k5_130)), (4, .int (nI k4_43)), (3, .int (nI n_11)), (0, .ref m0), (1, .int (nI j_4)), (2, .int (nI c_6))]) (fun k9 H locs ls hI130 ih130 => ?_) (40 - 0) _ _ _ ⟨0, ga0_84, (by omega), hl84_1, hg84_0, hg84_1, rfl, hP, hD, hS, lv_sub hl [0, 1, 2, 3, 4, 5] rfl⟩
          obtain ⟨k5_130, ga0_130, hl130_0, hl130_1, hg130_0, hg130_1, hm130, hP, hD, hS, hl⟩ := hI130
          refine lv_iload hx hb dX12_away_130 (lv_at hl 0 rfl) ?_
          refine lv_aload_n hx hb dX12_away_132 rfl (lv_at hl 3 rfl) ?_
          refine va_get (D := D) (ci := 12) (v := .ref a0) (C := RX12) (T := TX12) (N := 30) hx hb hts inlX12 hown hK hP 0 rfl rfl 0 (by decide) (hts _ mw_187) (fun _ h9 => h9) rfl dX12_away_133 ?_
          refine lv_iload_n hx hb dX12_away_136 rfl (lv_at hl 4 rfl) ?_
          refine lv_iconst (v := 2) hx hb dX12_away_137 (by decide) ?_
          refine cr_S (As := [.int (nI j_4), .int 2]) (rest := [.ref a0, .int (nI k5_130)]) hFX hKK (s_X12_at l D κ j_4 2) 2 gS_X12_66 hdS_X12_at rfl rfl ⟨Nat.le_of_ble_eq_true rfl, Nat.le_of_ble_eq_true rfl⟩ rfl rfl (Nat.le_of_ble_eq_true rfl) dX12_away_138 ⟨Nat.le_of_ble_eq_true rfl, Nat.le_of_ble_eq_true rfl⟩ hl.1 (hP.sub [] rfl) (fun _ hp_41 => ?_)
          refine W.eq (g2 := F0 m 141 ls [.int (nI (7123 * j_4 + 2)), .ref a0, .int (nI k5_130)]) rfl ?_
          refine va_iald hx hb hK hP 1 0 rfl rfl (i := nI (7123 * j_4 + 2)) (vp_in_nI (n := (7123 * j_4 + 2)) (by omega) (by omega)) dX12_away_141 ?_
          refine kv (v := .int (ga0_130 (7123 * j_4 + 2))) (by rw [nI_clamp (by omega)]) ?_
          obtain ⟨n_42, hn_42, en_42⟩ : ∃ n9 : Nat, n9 ≤ 40 ∧ ga0_130 (7123 * j_4 + 2) = nI n9 := id (hg130_0 _ _ (mMANY (t := j_4) (by omega) (by omega)))
          refine kv (v := .int (nI n_42)) (congrArg Value.int en_42) ?_
          refine lv_icmp_ge (tgt := 201) hx hb dX12_away_142 (by decide) (fun c_43 => ?_) (fun c_43 => ?_)
          · have nc_43 := cv_le (a := n_42) (b := k5_130) (by omega) (by omega) c_43
            refine lv_iinc (v := (nI (k4_43 + 1))) (lv' := [(4, .int (nI (k4_43 + 1))), (5, .int (nI k5_130)), (3, .int (nI n_11)), (0, .ref m0), (1, .int (nI j_4)), (2, .int (nI c_6))]) hx hb dX12_away_201 hl (k := 1) rfl (nI_i k4_43) (by decide) rfl (fun ls hl => ?_)
            refine lv_goto (tgt := 43) hx hb dX12_away_204 (by decide) ?_
            exact ih43 _ _ _ _ (by omega) ⟨(k4_43 + 1), ga0_130, (by omega), hl130_1, hg130_0, hg130_1, rfl, hP, hD, hS, lv_sub hl [0, 2, 3, 4, 5] rfl⟩
          · have nc_43 := cv_nle (a := n_42) (b := k5_130) (by omega) (by omega) c_43
            refine lv_iconst (v := 0) hx hb dX12_away_145 (by decide) ?_
            refine lv_istore (lv' := [(6, .int 0), (5, .int (nI k5_130)), (4, .int (nI k4_43)), (3, .int (nI n_11)), (0, .ref m0), (1, .int (nI j_4)), (2, .int (nI c_6))]) hx hb dX12_away_146 hl (by decide) rfl (fun ls hl => ?_)
            refine loop_dn (fun k9 H locs ls => ∃ (k6_148 : Nat), ∃ (ga0_148 : Nat → Int32), (k6_148 ≤ 21) ∧ (ga0_148 (7123 * j_4 + 1) = nI n_11) ∧ Pw ga0_148 ∧ Dl dq ga0_148 ∧ 21 - k6_148 = k9 ∧ va_P D vwCl [(m0, .inr (12, [.ref a0, .ref a1, .ref a2, .int (nI y3__13), .int f4, .ref a5, .int (nI u6), .int f7, .int f8, .int f9, .int f10, .int (nI u11), .int (nI u12), .int (nI u13), .ref a14, .ref a15, .ref a16, .ref a17, .int f18, .int f19, .ref a20, .ref a21, .int (nI u22), .ref a23, .ref a24, .ref a25, .int (nI u26), .int f27, .ref a28, .int (nI u29)])), (a0, .inl (κ 0, 21375, .inl ga0_148)), (a2, .inl (κ 0, 128214, .inl g_a2__14))] H ∧ va_D A [(m0, .inr (12, [.ref a0, .ref a1, .ref a2, .int (nI y3__13), .int f4, .ref a5, .int (nI u6), .int f7, .int f8, .int f9, .int f10, .int (nI u11), .int (nI u12), .int (nI u13), .ref a14, .ref a15, .ref a16, .ref a17, .int f18, .int f19, .ref a20, .ref a21, .int (nI u22), .ref a23, .ref a24, .ref a25, .int (nI u26), .int f27, .ref a28, .int (nI u29)])), (a0, .inl (κ 0, 21375, .inl ga0_148)), (a2, .inl (κ 0, 128214, .inl g_a2__14))] ∧ va_S A s.heap H locs ∧ lv_has ls 7 [(6, .int (nI k6_148)), (5, .int (nI k5_130)), (4, .int (nI k4_43)), (3, .int (nI n_11)), (0, .ref m0), (1, .int (nI j_4)), (2, .int (nI c_6))]) (fun k9 H locs ls hI148 ih148 => ?_) (21 - 0) _ _ _ ⟨0, ga0_130, (by omega), hl130_1, hg130_0, hg130_1, rfl, hP, hD, hS, lv_sub hl [0, 1, 2, 3, 4, 5, 6] rfl⟩
            obtain ⟨k6_148, ga0_148, hl148_0, hl148_1, hg148_0, hg148_1, hm148, hP, hD, hS, hl⟩ := hI148
            refine lv_iload hx hb dX12_away_148 (lv_at hl 0 rfl) ?_
            refine lv_bipush (v := 21) hx hb dX12_away_150 (by decide) ?_
            refine lv_icmp_ge (tgt := 195) hx hb dX12_away_152 (by decide) (fun c_44 => ?_) (fun c_44 => ?_)
            · have nc_44 := cv_le (a := 21) (b := k6_148) (by omega) (by omega) c_44
              refine lv_iinc (v := (nI (k5_130 + 1))) (lv' := [(5, .int (nI (k5_130 + 1))), (6, .int (nI k6_148)), (4, .int (nI k4_43)), (3, .int (nI n_11)), (0, .ref m0), (1, .int (nI j_4)), (2, .int (nI c_6))]) hx hb dX12_away_195 hl (k := 1) rfl (nI_i k5_130) (by decide) rfl (fun ls hl => ?_)
              refine lv_goto (tgt := 130) hx hb dX12_away_198 (by decide) ?_
              exact ih130 _ _ _ _ (by omega) ⟨(k5_130 + 1), ga0_148, (by omega), hl148_1, hg148_0, hg148_1, rfl, hP, hD, hS, lv_sub hl [0, 2, 3, 4, 5, 6] rfl⟩
            · have nc_44 := cv_nle (a := 21) (b := k6_148) (by omega) (by omega) c_44
              refine lv_aload_n hx hb dX12_away_155 rfl (lv_at hl 4 rfl) ?_
              refine va_get (D := D) (ci := 12) (v := .ref a0) (C := RX12) (T := TX12) (N := 30) hx hb hts inlX12 hown hK hP 0 rfl rfl 0 (by decide) (hts _ mw_187) (fun _ h9 => h9) rfl dX12_away_156 ?_
              refine lv_iload_n hx hb dX12_away_159 rfl (lv_at hl 5 rfl) ?_
              refine lv_iload hx hb dX12_away_160 (lv_at hl 1 rfl) ?_
              refine lv_iload hx hb dX12_away_162 (lv_at hl 2 rfl) ?_
              refine cr_S (As := [.int (nI j_4), .int (nI k5_130), .int (nI k4_43)]) (rest := [.ref a0]) hFX hKK (s_X12_cellAt l D κ j_4 k5_130 k4_43) 3 gS_X12_167 hdS_X12_cellAt rfl rfl ⟨Nat.le_of_ble_eq_true rfl, Nat.le_of_ble_eq_true rfl⟩ rfl rfl (Nat.le_of_ble_eq_true rfl) dX12_away_164 ⟨Nat.le_of_ble_eq_true rfl, Nat.le_of_ble_eq_true rfl⟩ hl.1 (hP.sub [] rfl) (fun _ hp_45 => ?_)
              refine W.eq (g2 := F0 m 167 ls [.int (nI (7123 * j_4 + 403 + 21 * (8 * k5_130 + k4_43))), .ref a0]) rfl ?_
              refine lv_iload hx hb dX12_away_167 (lv_at hl 0 rfl) ?_
              refine lv_iadd hx hb dX12_away_169 ?_
              refine ki (v := (nI (7123 * j_4 + 403 + 21 * (8 * k5_130 + k4_43) + k6_148))) (nI_add (7123 * j_4 + 403 + 21 * (8 * k5_130 + k4_43)) k6_148) ?_
              refine lv_aload_n hx hb dX12_away_170 rfl (lv_at hl 4 rfl) ?_
              refine va_get (D := D) (ci := 12) (v := .ref a0) (C := RX12) (T := TX12) (N := 30) hx hb hts inlX12 hown hK hP 0 rfl rfl 0 (by decide) (hts _ mw_187) (fun _ h9 => h9) rfl dX12_away_171 ?_
              refine lv_iload_n hx hb dX12_away_174 rfl (lv_at hl 5 rfl) ?_
              refine lv_iload hx hb dX12_away_175 (lv_at hl 1 rfl) ?_
              refine lv_iload hx hb dX12_away_177 (lv_at hl 2 rfl) ?_
              refine lv_iconst (v := 1) hx hb dX12_away_179 (by decide) ?_
              refine lv_iadd hx hb dX12_away_180 ?_
              refine ki (v := (nI (k4_43 + 1))) (nI_add k4_43 1) ?_
              refine cr_S (As := [.int (nI j_4), .int (nI k5_130), .int (nI (k4_43 + 1))]) (rest := [.ref a0, .int (nI (7123 * j_4 + 403 + 21 * (8 * k5_130 + k4_43) + k6_148)), .ref a0]) hFX hKK (s_X12_cellAt l D κ j_4 k5_130 (k4_43 + 1)) 3 gS_X12_167 hdS_X12_cellAt rfl rfl ⟨Nat.le_of_ble_eq_true rfl, Nat.le_of_ble_eq_true rfl⟩ rfl rfl (Nat.le_of_ble_eq_true rfl) dX12_away_181 ⟨Nat.le_of_ble_eq_true rfl, Nat.le_of_ble_eq_true rfl⟩ hl.1 (hP.sub [] rfl) (fun _ hp_46 => ?_)
              refine W.eq (g2 := F0 m 184 ls [.int (nI (7123 * j_4 + 403 + 21 * (8 * k5_130 + (k4_43 + 1)))), .ref a0, .int (nI (7123 * j_4 + 403 + 21 * (8 * k5_130 + k4_43) + k6_148)), .ref a0]) rfl ?_
              refine lv_iload hx hb dX12_away_184 (lv_at hl 0 rfl) ?_
              refine lv_iadd hx hb dX12_away_186 ?_
              refine ki (v := (nI (7123 * j_4 + 403 + 21 * (8 * k5_130 + (k4_43 + 1)) + k6_148))) (nI_add (7123 * j_4 + 403 + 21 * (8 * k5_130 + (k4_43 + 1))) k6_148) ?_
              refine va_iald hx hb hK hP 1 0 rfl rfl (i := nI (7123 * j_4 + 403 + 21 * (8 * k5_130 + (k4_43 + 1)) + k6_148)) (vp_in_nI (n := (7123 * j_4 + 403 + 21 * (8 * k5_130 + (k4_43 + 1)) + k6_148)) (by omega) (by omega)) dX12_away_187 ?_
              refine kv (v := .int (ga0_148 (7123 * j_4 + 403 + 21 * (8 * k5_130 + (k4_43 + 1)) + k6_148))) (by rw [nI_clamp (by omega)]) ?_
              obtain ⟨x_47, ex_47⟩ : ∃ y9 : Int32, ga0_148 (7123 * j_4 + 403 + 21 * (8 * k5_130 + (k4_43 + 1)) + k6_148) = y9 := ⟨_, rfl⟩
              refine kv (v := .int x_47) (congrArg Value.int ex_47) ?_
              refine va_iast hx hb hK hP hD hS 1 0 rfl rfl (i := nI (7123 * j_4 + 403 + 21 * (8 * k5_130 + k4_43) + k6_148)) (x := x_47) (vp_in_nI (n := (7123 * j_4 + 403 + 21 * (8 * k5_130 + k4_43) + k6_148)) (by omega) (by omega)) dX12_away_188 (fun H locs hP hD hS => ?_)
              rw [nI_clamp (by omega)] at hP hD
              have hP : va_P D vwCl [(m0, .inr (12, [.ref a0, .ref a1, .ref a2, .int (nI y3__13), .int f4, .ref a5, .int (nI u6), .int f7, .int f8, .int f9, .int f10, .int (nI u11), .int (nI u12), .int (nI u13), .ref a14, .ref a15, .ref a16, .ref a17, .int f18, .int f19, .ref a20, .ref a21, .int (nI u22), .ref a23, .ref a24, .ref a25, .int (nI u26), .int f27, .ref a28, .int (nI u29)])), (a0, .inl (κ 0, 21375, .inl (upd ga0_148 (7123 * j_4 + 403 + 21 * (8 * k5_130 + k4_43) + k6_148) x_47))), (a2, .inl (κ 0, 128214, .inl g_a2__14))] H := hP
              have hD : va_D A [(m0, .inr (12, [.ref a0, .ref a1, .ref a2, .int (nI y3__13), .int f4, .ref a5, .int (nI u6), .int f7, .int f8, .int f9, .int f10, .int (nI u11), .int (nI u12), .int (nI u13), .ref a14, .ref a15, .ref a16, .ref a17, .int f18, .int f19, .ref a20, .ref a21, .int (nI u22), .ref a23, .ref a24, .ref a25, .int (nI u26), .int f27, .ref a28, .int (nI u29)])), (a0, .inl (κ 0, 21375, .inl (upd ga0_148 (7123 * j_4 + 403 + 21 * (8 * k5_130 + k4_43) + k6_148) x_47))), (a2, .inl (κ 0, 128214, .inl g_a2__14))] := hD
              have hf_49 : Pw (upd ga0_148 (7123 * j_4 + 403 + 21 * (8 * k5_130 + k4_43) + k6_148) x_47) := (Pw_moveE hg148_0 hg148_0 ex_47 (like_cell (t := j_4) (i := 21 * (8 * k5_130 + k4_43) + k6_148) (d := 1) (by omega) (by omega) (by omega) (by omega)))
              have hf_50 : Dl dq (upd ga0_148 (7123 * j_4 + 403 + 21 * (8 * k5_130 + k4_43) + k6_148) x_47) := (Dl_upd hg148_1 (by omega))
              have hq : (upd ga0_148 (7123 * j_4 + 403 + 21 * (8 * k5_130 + k4_43) + k6_148) x_47) (7123 * j_4 + 1) = nI n_11 := ((pk_un (by omega)).trans hl148_1)
              generalize upd ga0_148 (7123 * j_4 + 403 + 21 * (8 * k5_130 + k4_43) + k6_148) x_47 = g_48 at hP hD hf_49 hf_50 hq
              refine lv_iinc (v := (nI (k6_148 + 1))) (lv' := [(6, .int (nI (k6_148 + 1))), (5, .int (nI k5_130)), (4, .int (nI k4_43)), (3, .int (nI n_11)), (0, .ref m0), (1, .int (nI j_4)), (2, .int (nI c_6))]) hx hb dX12_away_189 hl (k := 0) rfl (nI_i k6_148) (by decide) rfl (fun ls hl => ?_)
              refine lv_goto (tgt := 148) hx hb dX12_away_192 (by decide) ?_
              exact ih148 _ _ _ _ (by omega) ⟨(k6_148 + 1), g_48, (by omega), hq, hf_49, hf_50, rfl, hP, hD, hS, lv_sub hl [0, 1, 2, 3, 4, 5, 6] rfl⟩
        · have nc_40 := cv_nle (a := 13) (b := k5_84) (by omega) (by omega) c_40
          refine lv_aload_n hx hb dX12_away_91 rfl (lv_at hl 3 rfl) ?_
          refine va_get (D := D) (ci := 12) (v := .ref a0) (C := RX12) (T := TX12) (N := 30) hx hb hts inlX12 hown hK hP 0 rfl rfl 0 (by decide) (hts _ mw_187) (fun _ h9 => h9) rfl dX12_away_92 ?_
          refine lv_iload_n hx hb dX12_away_95 rfl (lv_at hl 4 rfl) ?_
          refine lv_iload hx hb dX12_away_96 (lv_at hl 1 rfl) ?_
          refine cr_S (As := [.int (nI j_4), .int (nI k4_43)]) (rest := [.ref a0]) hFX hKK (s_X12_nameAt l D κ j_4 k4_43) 2 gS_X12_318 hdS_X12_nameAt rfl rfl ⟨Nat.le_of_ble_eq_true rfl, Nat.le_of_ble_eq_true rfl⟩ rfl rfl (Nat.le_of_ble_eq_true rfl) dX12_away_98 ⟨Nat.le_of_ble_eq_true rfl, Nat.le_of_ble_eq_true rfl⟩ hl.1 (hP.sub [] rfl) (fun _ hp_51 => ?_)
          refine W.eq (g2 := F0 m 101 ls [.int (nI (7123 * j_4 + 4 + 13 * k4_43)), .ref a0]) rfl ?_
          refine lv_iload hx hb dX12_away_101 (lv_at hl 0 rfl) ?_
          refine lv_iadd hx hb dX12_away_103 ?_
          refine ki (v := (nI (7123 * j_4 + 4 + 13 * k4_43 + k5_84))) (nI_add (7123 * j_4 + 4 + 13 * k4_43) k5_84) ?_
          refine lv_aload_n hx hb dX12_away_104 rfl (lv_at hl 3 rfl) ?_
          refine va_get (D := D) (ci := 12) (v := .ref a0) (C := RX12) (T := TX12) (N := 30) hx hb hts inlX12 hown hK hP 0 rfl rfl 0 (by decide) (hts _ mw_187) (fun _ h9 => h9) rfl dX12_away_105 ?_
          refine lv_iload_n hx hb dX12_away_108 rfl (lv_at hl 4 rfl) ?_
          refine lv_iload hx hb dX12_away_109 (lv_at hl 1 rfl) ?_
          refine lv_iconst (v := 1) hx hb dX12_away_111 (by decide) ?_
          refine lv_iadd hx hb dX12_away_112 ?_
          refine ki (v := (nI (k4_43 + 1))) (nI_add k4_43 1) ?_
          refine cr_S (As := [.int (nI j_4), .int (nI (k4_43 + 1))]) (rest := [.ref a0, .int (nI (7123 * j_4 + 4 + 13 * k4_43 + k5_84)), .ref a0]) hFX hKK (s_X12_nameAt l D κ j_4 (k4_43 + 1)) 2 gS_X12_318 hdS_X12_nameAt rfl rfl ⟨Nat.le_of_ble_eq_true rfl, Nat.le_of_ble_eq_true rfl⟩ rfl rfl (Nat.le_of_ble_eq_true rfl) dX12_away_113 ⟨Nat.le_of_ble_eq_true rfl, Nat.le_of_ble_eq_true rfl⟩ hl.1 (hP.sub [] rfl) (fun _ hp_52 => ?_)
          refine W.eq (g2 := F0 m 116 ls [.int (nI (7123 * j_4 + 4 + 13 * (k4_43 + 1))), .ref a0, .int (nI (7123 * j_4 + 4 + 13 * k4_43 + k5_84)), .ref a0]) rfl ?_
          refine lv_iload hx hb dX12_away_116 (lv_at hl 0 rfl) ?_
          refine lv_iadd hx hb dX12_away_118 ?_
          refine ki (v := (nI (7123 * j_4 + 4 + 13 * (k4_43 + 1) + k5_84))) (nI_add (7123 * j_4 + 4 + 13 * (k4_43 + 1)) k5_84) ?_
          refine va_iald hx hb hK hP 1 0 rfl rfl (i := nI (7123 * j_4 + 4 + 13 * (k4_43 + 1) + k5_84)) (vp_in_nI (n := (7123 * j_4 + 4 + 13 * (k4_43 + 1) + k5_84)) (by omega) (by omega)) dX12_away_119 ?_
          refine kv (v := .int (ga0_84 (7123 * j_4 + 4 + 13 * (k4_43 + 1) + k5_84))) (by rw [nI_clamp (by omega)]) ?_
          obtain ⟨x_53, ex_53⟩ : ∃ y9 : Int32, ga0_84 (7123 * j_4 + 4 + 13 * (k4_43 + 1) + k5_84) = y9 := ⟨_, rfl⟩
          refine kv (v := .int x_53) (congrArg Value.int ex_53) ?_
          refine va_iast hx hb hK hP hD hS 1 0 rfl rfl (i := nI (7123 * j_4 + 4 + 13 * k4_43 + k5_84)) (x := x_53) (vp_in_nI (n := (7123 * j_4 + 4 + 13 * k4_43 + k5_84)) (by omega) (by omega)) dX12_away_120 (fun H locs hP hD hS => ?_)
          rw [nI_clamp (by omega)] at hP hD
          have hP : va_P D vwCl [(m0, .inr (12, [.ref a0, .ref a1, .ref a2, .int (nI y3__13), .int f4, .ref a5, .int (nI u6), .int f7, .int f8, .int f9, .int f10, .int (nI u11), .int (nI u12), .int (nI u13), .ref a14, .ref a15, .ref a16, .ref a17, .int f18, .int f19, .ref a20, .ref a21, .int (nI u22), .ref a23, .ref a24, .ref a25, .int (nI u26), .int f27, .ref a28, .int (nI u29)])), (a0, .inl (κ 0, 21375, .inl (upd ga0_84 (7123 * j_4 + 4 + 13 * k4_43 + k5_84) x_53))), (a2, .inl (κ 0, 128214, .inl g_a2__14))] H := hP
          have hD : va_D A [(m0, .inr (12, [.ref a0, .ref a1, .ref a2, .int (nI y3__13), .int f4, .ref a5, .int (nI u6), .int f7, .int f8, .int f9, .int f10, .int (nI u11), .int (nI u12), .int (nI u13), .ref a14, .ref a15, .ref a16, .ref a17, .int f18, .int f19, .ref a20, .ref a21, .int (nI u22), .ref a23, .ref a24, .ref a25, .int (nI u26), .int f27, .ref a28, .int (nI u29)])), (a0, .inl (κ 0, 21375, .inl (upd ga0_84 (7123 * j_4 + 4 + 13 * k4_43 + k5_84) x_53))), (a2, .inl (κ 0, 128214, .inl g_a2__14))] := hD
          have hf_55 : Pw (upd ga0_84 (7123 * j_4 + 4 + 13 * k4_43 + k5_84) x_53) := (Pw_moveE hg84_0 hg84_0 ex_53 (like_name (t := j_4) (i := 13 * k4_43 + k5_84) (by omega) (by omega) (by omega) (by omega)))
          have hf_56 : Dl dq (upd ga0_84 (7123 * j_4 + 4 + 13 * k4_43 + k5_84) x_53) := (Dl_upd hg84_1 (by omega))
          have hq : (upd ga0_84 (7123 * j_4 + 4 + 13 * k4_43 + k5_84) x_53) (7123 * j_4 + 1) = nI n_11 := ((pk_un (by omega)).trans hl84_1)
          generalize upd ga0_84 (7123 * j_4 + 4 + 13 * k4_43 + k5_84) x_53 = g_54 at hP hD hf_55 hf_56 hq
          refine lv_iinc (v := (nI (k5_84 + 1))) (lv' := [(5, .int (nI (k5_84 + 1))), (4, .int (nI k4_43)), (3, .int (nI n_11)), (0, .ref m0), (1, .int (nI j_4)), (2, .int (nI c_6))]) hx hb dX12_away_121 hl (k := 0) rfl (nI_i k5_84) (by decide) rfl (fun ls hl => ?_)
          refine lv_goto (tgt := 84) hx hb dX12_away_124 (by decide) ?_
          exact ih84 _ _ _ _ (by omega) ⟨(k5_84 + 1), g_54, (by omega), hq, hf_55, hf_56, rfl, hP, hD, hS, lv_sub hl [0, 1, 2, 3, 4, 5] rfl⟩
    · have nc_12 := cv_eq (a := n_11) (b := 1) (by omega) (by omega) c_12
      refine lv_iconst (v := (-1)) hx hb dX12_away_23 (by decide) ?_
      exact ct_iret hx hb hr hlk rfl hS hP hD ((-1), u3, w, un) rfl ⟨(show u3 ≤ 6 from (by first | assumption | omega | rfl | exact Or.inl (by assumption) | exact Or.inr (by assumption))), (show Pw w from (by first | assumption | omega | rfl | exact Or.inl (by assumption) | exact Or.inr (by assumption))), (show Dl dq w from (by first | assumption | omega | rfl | exact Or.inl (by assumption) | exact Or.inr (by assumption))), (show Pu un from (by first | assumption | omega | rfl | exact Or.inl (by assumption) | exact Or.inr (by assumption)))⟩ [0, 1, 2] rfl (by decide) trivial (Nat.le_of_ble_eq_true rfl) (Nat.le_of_ble_eq_true rfl) dX12_away_24
  · refine W.eq (g2 := F0 m 6 ls [.int 0]) rfl ?_
    refine lv_if_eq (tgt := 23) hx hb dX12_away_6 (by decide) (fun c_57 => ?_) (fun c_57 => absurd (by decide) c_57)
    refine lv_iconst (v := (-1)) hx hb dX12_away_23 (by decide) ?_
    exact ct_iret hx hb hr hlk rfl hS hP hD ((-1), u3, w, un) rfl ⟨(show u3 ≤ 6 from (by first | assumption | omega | rfl | exact Or.inl (by assumption) | exact Or.inr (by assumption))), (show Pw w from (by first | assumption | omega | rfl | exact Or.inl (by assumption) | exact Or.inr (by assumption))), (show Dl dq w from (by first | assumption | omega | rfl | exact Or.inl (by assumption) | exact Or.inr (by assumption))), (show Pu un from (by first | assumption | omega | rfl | exact Or.inl (by assumption) | exact Or.inr (by assumption)))⟩ [0, 1, 2] rfl (by decide) trivial (Nat.le_of_ble_eq_true rfl) (Nat.le_of_ble_eq_true rfl) dX12_away_24
set_option maxHeartbeats 4000000 in
set_option maxRecDepth 100000 in
theorem d_X12_type (l : Launch) (D : va_G) (κ : Nat → ClassId) (m0 : Nat) (a0 : Nat) (a1 : Nat) (a2 : Nat) (u3 : Nat) (f4 : Int32) (a5 : Nat) (u6 : Nat) (f7 : Int32) (f8 : Int32) (f9 : Int32) (f10 : Int32) (u11 : Nat) (u12 : Nat) (u13 : Nat) (a14 : Nat) (a15 : Nat) (a16 : Nat) (a17 : Nat) (f18 : Int32) (f19 : Int32) (a20 : Nat) (a21 : Nat) (u22 : Nat) (a23 : Nat) (a24 : Nat) (a25 : Nat) (u26 : Nat) (f27 : Int32) (a28 : Nat) (u29 : Nat) (w : Nat → Int32) (un : Nat → Int32) (za : Int32) (zb : Int32) (zc : Int32) (dq : Nat → Int32) (h3 : u3 ≤ 6) (h_a0 : Pw w) (h_a2 : Pu un) (h_dl : Dl dq w) : Ct l yX12_type (wl yX12_type cX12_type 4 (some .boolean)) { frames := 7, cells := 0, slots := 0, locals := 164 } D κ [.ref m0, .int za, .int zb, .int zc] [(m0, .inr (12, [.ref a0, .ref a1, .ref a2, .int (nI u3), .int f4, .ref a5, .int (nI u6), .int f7, .int f8, .int f9, .int f10, .int (nI u11), .int (nI u12), .int (nI u13), .ref a14, .ref a15, .ref a16, .ref a17, .int f18, .int f19, .ref a20, .ref a21, .int (nI u22), .ref a23, .ref a24, .ref a25, .int (nI u26), .int f27, .ref a28, .int (nI u29)])), (a0, .inl (κ 0, 21375, .inl w)), (a2, .inl (κ 0, 128214, .inl un))] (fun _ => True) (fun u9 : Int32 × Nat × (Nat → Int32) × (Nat → Int32) => some (.int u9.1)) (fun u9 : Int32 × Nat × (Nat → Int32) × (Nat → Int32) => u9.2.1 ≤ 6 ∧ Pw u9.2.2.1 ∧ Dl dq u9.2.2.1 ∧ Pu u9.2.2.2 ∧ ((u9.1 = 1) ∨ (u9.1 = 0))) (fun u9 : Int32 × Nat × (Nat → Int32) × (Nat → Int32) => [(m0, .inr (12, [.ref a0, .ref a1, .ref a2, .int (nI u9.2.1), .int f4, .ref a5, .int (nI u6), .int f7, .int f8, .int f9, .int f10, .int (nI u11), .int (nI u12), .int (nI u13), .ref a14, .ref a15, .ref a16, .ref a17, .int f18, .int f19, .ref a20, .ref a21, .int (nI u22), .ref a23, .ref a24, .ref a25, .int (nI u26), .int f27, .ref a28, .int (nI u29)])), (a0, .inl (κ 0, 21375, .inl u9.2.2.1)), (a2, .inl (κ 0, 128214, .inl u9.2.2.2))]) (fun _ _ => True) := by
  refine ct_of (by decide +kernel) (Nat.le_of_ble_eq_true rfl) ?_
  intro p e s m args below meth c A ls hx hb hr hml hts hown hlk hin hKK hK hA hP hD hS hI hl
  have hS : va_S A s.heap s.heap [] := hS
  have hFX : FX p s m args c cX12_type 4 RX12 := ⟨hx, hb, hml, hown, hts⟩
  have hl : lv_has ls 4 [(0, .ref m0), (1, .int za), (2, .int zb), (3, .int zc)] := hl
  refine lv_aload_n hx hb dX12_type_0 rfl (lv_at hl 0 rfl) ?_
  refine lv_iload_n hx hb dX12_type_1 rfl (lv_at hl 1 rfl) ?_
  refine lv_iload_n hx hb dX12_type_2 rfl (lv_at hl 2 rfl) ?_
  refine cr_V (As := [.int za, .int zb]) (rest := []) hFX hKK (s2_X12_isColumn l D κ m0 a0 a1 a2 u3 f4 a5 u6 f7 f8 f9 f10 u11 u12 u13 a14 a15 a16 a17 f18 f19 a20 a21 u22 a23 a24 a25 u26 f27 a28 u29 w za zb h_a0) 2 gV_X12_312 hdV_X12_isColumn rfl rfl ⟨Nat.le_of_ble_eq_true rfl, Nat.le_of_ble_eq_true rfl⟩ rfl rfl (Nat.le_of_ble_eq_true rfl) dX12_type_3 ⟨Nat.le_of_ble_eq_true rfl, Nat.le_of_ble_eq_true rfl⟩ hl.1 hP 0 12 rfl rfl rfl (hP.sub [0, 1] rfl) (fun r__1 hp_2 => ?_)
  replace hp_2 : ((r__1 = 1 ∧ (∃ j : Nat, j < 3 ∧ za = nI j) ∧ (∃ c : Nat, (c < 8 ∧ ∀ j9 : Nat, za = nI j9 → j9 < 3 → c < nv (w (7123 * j9 + 1))) ∧ zb = nI c)) ∨ (r__1 = 0)) := hp_2
  have ha_3 := hp_2
  clear hp_2
  rcases ha_3 with ⟨rfl, ⟨j_4, hj_4, rfl⟩, ⟨c_6, ⟨hc_6, a_8⟩, rfl⟩⟩ | rfl
  · refine W.eq (g2 := F0 m 6 ls [.int 1]) rfl ?_
    refine lv_if_eq (tgt := 26) hx hb dX12_type_6 (by decide) (fun c_9 => absurd c_9 (by decide)) (fun c_9 => ?_)
    refine lv_iload_n hx hb dX12_type_9 rfl (lv_at hl 3 rfl) ?_
    refine lv_iconst (v := (-1)) hx hb dX12_type_10 (by decide) ?_
    refine lv_icmp_eq (tgt := 28) hx hb dX12_type_11 (by decide) (fun c_10 => ?_) (fun c_10 => ?_)
    · refine lv_iload_n hx hb dX12_type_28 rfl (lv_at hl 3 rfl) ?_
      refine lv_iconst (v := (-1)) hx hb dX12_type_29 (by decide) ?_
      refine lv_icmp_ne (tgt := 52) hx hb dX12_type_30 (by decide) (fun c_11 => absurd c_10 c_11) (fun c_11 => ?_)
      refine lv_aload_n hx hb dX12_type_33 rfl (lv_at hl 0 rfl) ?_
      refine va_get (D := D) (ci := 12) (v := .ref a0) (C := RX12) (T := TX12) (N := 30) hx hb hts inlX12 hown hK hP 0 rfl rfl 0 (by decide) (hts _ mw_187) (fun _ h9 => h9) rfl dX12_type_34 ?_
      refine lv_iload_n hx hb dX12_type_37 rfl (lv_at hl 1 rfl) ?_
      refine lv_bipush (v := 108) hx hb dX12_type_38 (by decide) ?_
      refine cr_S (As := [.int (nI j_4), .int 108]) (rest := [.ref a0]) hFX hKK (s_X12_at l D κ j_4 108) 2 gS_X12_66 hdS_X12_at rfl rfl ⟨Nat.le_of_ble_eq_true rfl, Nat.le_of_ble_eq_true rfl⟩ rfl rfl (Nat.le_of_ble_eq_true rfl) dX12_type_40 ⟨Nat.le_of_ble_eq_true rfl, Nat.le_of_ble_eq_true rfl⟩ hl.1 (hP.sub [] rfl) (fun _ hp_12 => ?_)
      refine W.eq (g2 := F0 m 43 ls [.int (nI (7123 * j_4 + 108)), .ref a0]) rfl ?_
      refine lv_iload_n hx hb dX12_type_43 rfl (lv_at hl 2 rfl) ?_
      refine lv_iadd hx hb dX12_type_44 ?_
      refine ki (v := (nI (7123 * j_4 + 108 + c_6))) (nI_add (7123 * j_4 + 108) c_6) ?_
      refine va_iald hx hb hK hP 1 0 rfl rfl (i := nI (7123 * j_4 + 108 + c_6)) (vp_in_nI (n := (7123 * j_4 + 108 + c_6)) (by omega) (by omega)) dX12_type_45 ?_
      refine kv (v := .int (w (7123 * j_4 + 108 + c_6))) (by rw [nI_clamp (by omega)]) ?_
      obtain ⟨n_13, hn_13, en_13⟩ : ∃ n9 : Nat, n9 ≤ 5 ∧ w (7123 * j_4 + 108 + c_6) = nI n9 := id (h_a0 _ _ (mTOLD (t := j_4) (c := c_6) (by omega) (by omega) (by omega)))
      refine kv (v := .int (nI n_13)) (congrArg Value.int en_13) ?_
      refine lv_if_ne (tgt := 65) hx hb dX12_type_46 (by decide) (fun c_14 => ?_) (fun c_14 => ?_)
      · have nc_14 := cv_ne (a := n_13) (b := 0) (by omega) (by omega) c_14
        refine lv_aload_n hx hb dX12_type_65 rfl (lv_at hl 0 rfl) ?_
        refine ct_V (wr := []) (As := []) (rest := []) hFX hKK hP hD hS hA (s_X12_remembers l D κ m0 a0 a1 a2 u3 f4 a5 u6 f7 f8 f9 f10 u11 u12 u13 a14 a15 a16 a17 f18 f19 a20 a21 u22 a23 a24 a25 u26 f27 a28 u29 w un (by omega) h_a0 h_a2) 0 gV_X12_296 hdV_X12_remembers ⟨Nat.le_of_ble_eq_true rfl, Nat.le_of_ble_eq_true rfl⟩ rfl rfl (Nat.le_of_ble_eq_true rfl) dX12_type_66 ⟨Nat.le_of_ble_eq_true rfl, Nat.le_of_ble_eq_true rfl⟩ hl.1 [0, 1, 2] [] rfl rfl (by decide) (by decide) (by decide) 0 12 rfl rfl rfl trivial (fun u_17 H locs hp_18 _ hP hD hS hz_ hk_ => ?_)
        obtain ⟨y3__15, g_a2__16⟩ := u_17
        replace hP : va_P D vwCl [(m0, .inr (12, [.ref a0, .ref a1, .ref a2, .int (nI y3__15), .int f4, .ref a5, .int (nI u6), .int f7, .int f8, .int f9, .int f10, .int (nI u11), .int (nI u12), .int (nI u13), .ref a14, .ref a15, .ref a16, .ref a17, .int f18, .int f19, .ref a20, .ref a21, .int (nI u22), .ref a23, .ref a24, .ref a25, .int (nI u26), .int f27, .ref a28, .int (nI u29)])), (a0, .inl (κ 0, 21375, .inl w)), (a2, .inl (κ 0, 128214, .inl g_a2__16))] H := hP
        replace hD : va_D A [(m0, .inr (12, [.ref a0, .ref a1, .ref a2, .int (nI y3__15), .int f4, .ref a5, .int (nI u6), .int f7, .int f8, .int f9, .int f10, .int (nI u11), .int (nI u12), .int (nI u13), .ref a14, .ref a15, .ref a16, .ref a17, .int f18, .int f19, .ref a20, .ref a21, .int (nI u22), .ref a23, .ref a24, .ref a25, .int (nI u26), .int f27, .ref a28, .int (nI u29)])), (a0, .inl (κ 0, 21375, .inl w)), (a2, .inl (κ 0, 128214, .inl g_a2__16))] := hD
        replace hp_18 : y3__15 ≤ 6 ∧ Pu g_a2__16 := hp_18
        obtain ⟨h_19, h_20⟩ := hp_18
        refine W.eq (g2 := F0 m 69 ls []) rfl ?_
        refine lv_aload_n hx hb dX12_type_69 rfl (lv_at hl 0 rfl) ?_
        refine va_get (D := D) (ci := 12) (v := .ref a0) (C := RX12) (T := TX12) (N := 30) hx hb hts inlX12 hown hK hP 0 rfl rfl 0 (by decide) (hts _ mw_187) (fun _ h9 => h9) rfl dX12_type_70 ?_
        refine lv_iload_n hx hb dX12_type_73 rfl (lv_at hl 1 rfl) ?_
        refine lv_bipush (v := 108) hx hb dX12_type_74 (by decide) ?_
        refine cr_S (As := [.int (nI j_4), .int 108]) (rest := [.ref a0]) hFX hKK (s_X12_at l D κ j_4 108) 2 gS_X12_66 hdS_X12_at rfl rfl ⟨Nat.le_of_ble_eq_true rfl, Nat.le_of_ble_eq_true rfl⟩ rfl rfl (Nat.le_of_ble_eq_true rfl) dX12_type_76 ⟨Nat.le_of_ble_eq_true rfl, Nat.le_of_ble_eq_true rfl⟩ hl.1 (hP.sub [] rfl) (fun _ hp_21 => ?_)
        refine W.eq (g2 := F0 m 79 ls [.int (nI (7123 * j_4 + 108)), .ref a0]) rfl ?_
        refine lv_iload_n hx hb dX12_type_79 rfl (lv_at hl 2 rfl) ?_
        refine lv_iadd hx hb dX12_type_80 ?_
        refine ki (v := (nI (7123 * j_4 + 108 + c_6))) (nI_add (7123 * j_4 + 108) c_6) ?_
        refine lv_iload_n hx hb dX12_type_81 rfl (lv_at hl 3 rfl) ?_
        refine lv_iconst (v := (-1)) hx hb dX12_type_82 (by decide) ?_
        refine lv_icmp_ne (tgt := 90) hx hb dX12_type_83 (by decide) (fun c_22 => absurd c_10 c_22) (fun c_22 => ?_)
        refine lv_iconst (v := 0) hx hb dX12_type_86 (by decide) ?_
        refine lv_goto (tgt := 91) hx hb dX12_type_87 (by decide) ?_
        refine va_iast hx hb hK hP hD hS 1 0 rfl rfl (i := nI (7123 * j_4 + 108 + c_6)) (x := 0) (vp_in_nI (n := (7123 * j_4 + 108 + c_6)) (by omega) (by omega)) dX12_type_91 (fun H locs hP hD hS => ?_)
        rw [nI_clamp (by omega)] at hP hD
        have hP : va_P D vwCl [(m0, .inr (12, [.ref a0, .ref a1, .ref a2, .int (nI y3__15), .int f4, .ref a5, .int (nI u6), .int f7, .int f8, .int f9, .int f10, .int (nI u11), .int (nI u12), .int (nI u13), .ref a14, .ref a15, .ref a16, .ref a17, .int f18, .int f19, .ref a20, .ref a21, .int (nI u22), .ref a23, .ref a24, .ref a25, .int (nI u26), .int f27, .ref a28, .int (nI u29)])), (a0, .inl (κ 0, 21375, .inl (upd w (7123 * j_4 + 108 + c_6) 0))), (a2, .inl (κ 0, 128214, .inl g_a2__16))] H := hP
        have hD : va_D A [(m0, .inr (12, [.ref a0, .ref a1, .ref a2, .int (nI y3__15), .int f4, .ref a5, .int (nI u6), .int f7, .int f8, .int f9, .int f10, .int (nI u11), .int (nI u12), .int (nI u13), .ref a14, .ref a15, .ref a16, .ref a17, .int f18, .int f19, .ref a20, .ref a21, .int (nI u22), .ref a23, .ref a24, .ref a25, .int (nI u26), .int f27, .ref a28, .int (nI u29)])), (a0, .inl (κ 0, 21375, .inl (upd w (7123 * j_4 + 108 + c_6) 0))), (a2, .inl (κ 0, 128214, .inl g_a2__16))] := hD
        have hf_24 : Pw (upd w (7123 * j_4 + 108 + c_6) 0) := (Pw_upd h_a0 (mTOLD (t := j_4) (c := c_6) (by omega) (by omega) (by omega)) ⟨0, by omega, by decide⟩)
        have hf_25 : Dl dq (upd w (7123 * j_4 + 108 + c_6) 0) := (Dl_upd h_dl (by omega))
        generalize upd w (7123 * j_4 + 108 + c_6) 0 = g_23 at hP hD hf_24 hf_25
        refine lv_aload_n hx hb dX12_type_92 rfl (lv_at hl 0 rfl) ?_
        refine lv_iload_n hx hb dX12_type_93 rfl (lv_at hl 1 rfl) ?_
        refine ct_V (wr := [(a2, .inl (κ 0, 128214, .inl g_a2__16))]) (As := [.int (nI j_4)]) (rest := []) hFX hKK hP hD hS hA (d_X12_viewsOff l D κ m0 a0 a1 a2 y3__15 f4 a5 u6 f7 f8 f9 f10 u11 u12 u13 a14 a15 a16 a17 f18 f19 a20 a21 u22 a23 a24 a25 u26 f27 a28 u29 g_23 j_4 dq hf_24 hf_25 (by omega)) 1 gV_X12_77 hdV_X12_viewsOff ⟨Nat.le_of_ble_eq_true rfl, Nat.le_of_ble_eq_true rfl⟩ rfl rfl (Nat.le_of_ble_eq_true rfl) dX12_type_94 ⟨Nat.le_of_ble_eq_true rfl, Nat.le_of_ble_eq_true rfl⟩ hl.1 [0, 1] [2] rfl rfl (by decide) (by decide) (by decide) 0 12 rfl rfl rfl trivial (fun g_a0__26 H locs hp_27 _ hP hD hS hz_ hk_ => ?_)
        replace hP : va_P D vwCl [(m0, .inr (12, [.ref a0, .ref a1, .ref a2, .int (nI y3__15), .int f4, .ref a5, .int (nI u6), .int f7, .int f8, .int f9, .int f10, .int (nI u11), .int (nI u12), .int (nI u13), .ref a14, .ref a15, .ref a16, .ref a17, .int f18, .int f19, .ref a20, .ref a21, .int (nI u22), .ref a23, .ref a24, .ref a25, .int (nI u26), .int f27, .ref a28, .int (nI u29)])), (a0, .inl (κ 0, 21375, .inl g_a0__26)), (a2, .inl (κ 0, 128214, .inl g_a2__16))] H := hP.sub [1, 2, 0] rfl
        replace hD : va_D A [(m0, .inr (12, [.ref a0, .ref a1, .ref a2, .int (nI y3__15), .int f4, .ref a5, .int (nI u6), .int f7, .int f8, .int f9, .int f10, .int (nI u11), .int (nI u12), .int (nI u13), .ref a14, .ref a15, .ref a16, .ref a17, .int f18, .int f19, .ref a20, .ref a21, .int (nI u22), .ref a23, .ref a24, .ref a25, .int (nI u26), .int f27, .ref a28, .int (nI u29)])), (a0, .inl (κ 0, 21375, .inl g_a0__26)), (a2, .inl (κ 0, 128214, .inl g_a2__16))] := hD.sub [1, 2, 0] (by decide) rfl
        replace hp_27 : Pw g_a0__26 ∧ Dl dq g_a0__26 ∧ g_a0__26 (7123 * j_4 + 2) = g_23 (7123 * j_4 + 2) := hp_27
        obtain ⟨h_28, h_29, h_30⟩ := hp_27
        refine W.eq (g2 := F0 m 97 ls []) rfl ?_
        refine lv_iconst (v := 1) hx hb dX12_type_97 (by decide) ?_
        exact ct_iret hx hb hr hlk rfl hS hP hD (1, y3__15, g_a0__26, g_a2__16) rfl ⟨(show y3__15 ≤ 6 from (by first | assumption | omega | rfl | exact Or.inl (by assumption) | exact Or.inr (by assumption))), (show Pw g_a0__26 from (by first | assumption | omega | rfl | exact Or.inl (by assumption) | exact Or.inr (by assumption))), (show Dl dq g_a0__26 from (by first | assumption | omega | rfl | exact Or.inl (by assumption) | exact Or.inr (by assumption))), (show Pu g_a2__16 from (by first | assumption | omega | rfl | exact Or.inl (by assumption) | exact Or.inr (by assumption))), (by exact Or.inl (rfl))⟩ [0, 1, 2] rfl (by decide) trivial (Nat.le_of_ble_eq_true rfl) (Nat.le_of_ble_eq_true rfl) dX12_type_98
      · have nc_14 := cv_eq (a := n_13) (b := 0) (by omega) (by omega) c_14
        refine lv_goto (tgt := 63) hx hb dX12_type_49 (by decide) ?_
        refine lv_iconst (v := 0) hx hb dX12_type_63 (by decide) ?_
        exact ct_iret hx hb hr hlk rfl hS hP hD (0, u3, w, un) rfl ⟨(show u3 ≤ 6 from (by first | assumption | omega | rfl | exact Or.inl (by assumption) | exact Or.inr (by assumption))), (show Pw w from (by first | assumption | omega | rfl | exact Or.inl (by assumption) | exact Or.inr (by assumption))), (show Dl dq w from (by first | assumption | omega | rfl | exact Or.inl (by assumption) | exact Or.inr (by assumption))), (show Pu un from (by first | assumption | omega | rfl | exact Or.inl (by assumption) | exact Or.inr (by assumption))), (by exact Or.inr ((rfl)))⟩ [0, 1, 2] rfl (by decide) trivial (Nat.le_of_ble_eq_true rfl) (Nat.le_of_ble_eq_true rfl) dX12_type_64
    · refine lv_iload_n hx hb dX12_type_14 rfl (lv_at hl 3 rfl) ?_
      refine lv_i2l (v := zc.toInt64) hx hb dX12_type_15 rfl ?_
      refine lv_lconst (v := 1) hx hb dX12_type_16 (by decide) ?_
      refine lv_ldc2 hx hb hown (hts _ mw_772) dX12_type_17 ?_
      refine cr_S (As := [.long zc.toInt64, .long 1, .long 5]) (rest := []) hFX hKK (s_X12_isIn l D κ zc.toInt64 1 5) 3 gS_X12_62 hdS_X12_isIn rfl rfl ⟨Nat.le_of_ble_eq_true rfl, Nat.le_of_ble_eq_true rfl⟩ rfl rfl (Nat.le_of_ble_eq_true rfl) dX12_type_20 ⟨Nat.le_of_ble_eq_true rfl, Nat.le_of_ble_eq_true rfl⟩ hl.1 (hP.sub [] rfl) (fun r__31 hp_32 => ?_)
      replace hp_32 : ((r__31 = 1 ∧ ¬ lg_cmp zc.toInt64 (1 : Int64) < 0 ∧ ¬ 0 < lg_cmp zc.toInt64 (5 : Int64)) ∨ (r__31 = 0 ∧ (lg_cmp zc.toInt64 (1 : Int64) < 0 ∨ 0 < lg_cmp zc.toInt64 (5 : Int64)))) := hp_32
      have ha_33 := hp_32
      clear hp_32
      rcases ha_33 with ⟨rfl, a_34, a_35⟩ | ⟨rfl, a_36⟩
      · refine W.eq (g2 := F0 m 23 ls [.int 1]) rfl ?_
        have hin_37 : (1 : Int) ≤ zc.toInt ∧ zc.toInt ≤ (5 : Int) := l_in (l_of rfl) (by decide) (by decide) a_34 a_35
        obtain ⟨j_38, hj_38, rfl⟩ : ∃ j9 : Nat, (j9 : Int) ≤ (5 : Int) ∧ zc = nI j9 := i_nat (by omega) (by omega)
        refine lv_if_ne (tgt := 28) hx hb dX12_type_23 (by decide) (fun c_39 => ?_) (fun c_39 => absurd c_39 (by decide))
        refine lv_iload_n hx hb dX12_type_28 rfl (lv_at hl 3 rfl) ?_
        refine lv_iconst (v := (-1)) hx hb dX12_type_29 (by decide) ?_
        refine lv_icmp_ne (tgt := 52) hx hb dX12_type_30 (by decide) (fun c_40 => ?_) (fun c_40 => absurd c_40 c_10)
        refine lv_aload_n hx hb dX12_type_52 rfl (lv_at hl 0 rfl) ?_
        refine lv_iload_n hx hb dX12_type_53 rfl (lv_at hl 1 rfl) ?_
        refine lv_iload_n hx hb dX12_type_54 rfl (lv_at hl 2 rfl) ?_
        refine lv_iload_n hx hb dX12_type_55 rfl (lv_at hl 3 rfl) ?_
        refine cr_V (As := [.int (nI j_4), .int (nI c_6), .int (nI j_38)]) (rest := []) hFX hKK (s_X12_againstOf l D κ m0 a0 a1 a2 u3 f4 a5 u6 f7 f8 f9 f10 u11 u12 u13 a14 a15 a16 a17 f18 f19 a20 a21 u22 a23 a24 a25 u26 f27 a28 u29 w j_4 c_6 j_38 h_a0 (by omega) (by omega) (by omega)) 3 gV_X12_327 hdV_X12_againstOf rfl rfl ⟨Nat.le_of_ble_eq_true rfl, Nat.le_of_ble_eq_true rfl⟩ rfl rfl (Nat.le_of_ble_eq_true rfl) dX12_type_56 ⟨Nat.le_of_ble_eq_true rfl, Nat.le_of_ble_eq_true rfl⟩ hl.1 hP 0 12 rfl rfl rfl (hP.sub [0, 1] rfl) (fun r__41 hp_42 => ?_)
        refine W.eq (g2 := F0 m 59 ls [.int r__41]) rfl ?_
        refine lv_iconst (v := (-1)) hx hb dX12_type_59 (by decide) ?_
        refine lv_icmp_eq (tgt := 65) hx hb dX12_type_60 (by decide) (fun c_43 => ?_) (fun c_43 => ?_)
        · refine lv_aload_n hx hb dX12_type_65 rfl (lv_at hl 0 rfl) ?_
          refine ct_V (wr := []) (As := []) (rest := []) hFX hKK hP hD hS hA (s_X12_remembers l D κ m0 a0 a1 a2 u3 f4 a5 u6 f7 f8 f9 f10 u11 u12 u13 a14 a15 a16 a17 f18 f19 a20 a21 u22 a23 a24 a25 u26 f27 a28 u29 w un (by omega) h_a0 h_a2) 0 gV_X12_296 hdV_X12_remembers ⟨Nat.le_of_ble_eq_true rfl, Nat.le_of_ble_eq_true rfl⟩ rfl rfl (Nat.le_of_ble_eq_true rfl) dX12_type_66 ⟨Nat.le_of_ble_eq_true rfl, Nat.le_of_ble_eq_true rfl⟩ hl.1 [0, 1, 2] [] rfl rfl (by decide) (by decide) (by decide) 0 12 rfl rfl rfl trivial (fun u_46 H locs hp_47 _ hP hD hS hz_ hk_ => ?_)
          obtain ⟨y3__44, g_a2__45⟩ := u_46
          replace hP : va_P D vwCl [(m0, .inr (12, [.ref a0, .ref a1, .ref a2, .int (nI y3__44), .int f4, .ref a5, .int (nI u6), .int f7, .int f8, .int f9, .int f10, .int (nI u11), .int (nI u12), .int (nI u13), .ref a14, .ref a15, .ref a16, .ref a17, .int f18, .int f19, .ref a20, .ref a21, .int (nI u22), .ref a23, .ref a24, .ref a25, .int (nI u26), .int f27, .ref a28, .int (nI u29)])), (a0, .inl (κ 0, 21375, .inl w)), (a2, .inl (κ 0, 128214, .inl g_a2__45))] H := hP
          replace hD : va_D A [(m0, .inr (12, [.ref a0, .ref a1, .ref a2, .int (nI y3__44), .int f4, .ref a5, .int (nI u6), .int f7, .int f8, .int f9, .int f10, .int (nI u11), .int (nI u12), .int (nI u13), .ref a14, .ref a15, .ref a16, .ref a17, .int f18, .int f19, .ref a20, .ref a21, .int (nI u22), .ref a23, .ref a24, .ref a25, .int (nI u26), .int f27, .ref a28, .int (nI u29)])), (a0, .inl (κ 0, 21375, .inl w)), (a2, .inl (κ 0, 128214, .inl g_a2__45))] := hD
          replace hp_47 : y3__44 ≤ 6 ∧ Pu g_a2__45 := hp_47
          obtain ⟨h_48, h_49⟩ := hp_47
          refine W.eq (g2 := F0 m 69 ls []) rfl ?_
          refine lv_aload_n hx hb dX12_type_69 rfl (lv_at hl 0 rfl) ?_
          refine va_get (D := D) (ci := 12) (v := .ref a0) (C := RX12) (T := TX12) (N := 30) hx hb hts inlX12 hown hK hP 0 rfl rfl 0 (by decide) (hts _ mw_187) (fun _ h9 => h9) rfl dX12_type_70 ?_
          refine lv_iload_n hx hb dX12_type_73 rfl (lv_at hl 1 rfl) ?_
          refine lv_bipush (v := 108) hx hb dX12_type_74 (by decide) ?_
          refine cr_S (As := [.int (nI j_4), .int 108]) (rest := [.ref a0]) hFX hKK (s_X12_at l D κ j_4 108) 2 gS_X12_66 hdS_X12_at rfl rfl ⟨Nat.le_of_ble_eq_true rfl, Nat.le_of_ble_eq_true rfl⟩ rfl rfl (Nat.le_of_ble_eq_true rfl) dX12_type_76 ⟨Nat.le_of_ble_eq_true rfl, Nat.le_of_ble_eq_true rfl⟩ hl.1 (hP.sub [] rfl) (fun _ hp_50 => ?_)
          refine W.eq (g2 := F0 m 79 ls [.int (nI (7123 * j_4 + 108)), .ref a0]) rfl ?_
          refine lv_iload_n hx hb dX12_type_79 rfl (lv_at hl 2 rfl) ?_
          refine lv_iadd hx hb dX12_type_80 ?_
          refine ki (v := (nI (7123 * j_4 + 108 + c_6))) (nI_add (7123 * j_4 + 108) c_6) ?_
          refine lv_iload_n hx hb dX12_type_81 rfl (lv_at hl 3 rfl) ?_
          refine lv_iconst (v := (-1)) hx hb dX12_type_82 (by decide) ?_
          refine lv_icmp_ne (tgt := 90) hx hb dX12_type_83 (by decide) (fun c_51 => ?_) (fun c_51 => absurd c_51 c_10)
          refine lv_iload_n hx hb dX12_type_90 rfl (lv_at hl 3 rfl) ?_
          refine va_iast hx hb hK hP hD hS 1 0 rfl rfl (i := nI (7123 * j_4 + 108 + c_6)) (x := nI j_38) (vp_in_nI (n := (7123 * j_4 + 108 + c_6)) (by omega) (by omega)) dX12_type_91 (fun H locs hP hD hS => ?_)
          rw [nI_clamp (by omega)] at hP hD
          have hP : va_P D vwCl [(m0, .inr (12, [.ref a0, .ref a1, .ref a2, .int (nI y3__44), .int f4, .ref a5, .int (nI u6), .int f7, .int f8, .int f9, .int f10, .int (nI u11), .int (nI u12), .int (nI u13), .ref a14, .ref a15, .ref a16, .ref a17, .int f18, .int f19, .ref a20, .ref a21, .int (nI u22), .ref a23, .ref a24, .ref a25, .int (nI u26), .int f27, .ref a28, .int (nI u29)])), (a0, .inl (κ 0, 21375, .inl (upd w (7123 * j_4 + 108 + c_6) (nI j_38)))), (a2, .inl (κ 0, 128214, .inl g_a2__45))] H := hP
          have hD : va_D A [(m0, .inr (12, [.ref a0, .ref a1, .ref a2, .int (nI y3__44), .int f4, .ref a5, .int (nI u6), .int f7, .int f8, .int f9, .int f10, .int (nI u11), .int (nI u12), .int (nI u13), .ref a14, .ref a15, .ref a16, .ref a17, .int f18, .int f19, .ref a20, .ref a21, .int (nI u22), .ref a23, .ref a24, .ref a25, .int (nI u26), .int f27, .ref a28, .int (nI u29)])), (a0, .inl (κ 0, 21375, .inl (upd w (7123 * j_4 + 108 + c_6) (nI j_38)))), (a2, .inl (κ 0, 128214, .inl g_a2__45))] := hD
          have hf_53 : Pw (upd w (7123 * j_4 + 108 + c_6) (nI j_38)) := (Pw_upd h_a0 (mTOLD (t := j_4) (c := c_6) (by omega) (by omega) (by omega)) ⟨j_38, by omega, rfl⟩)
          have hf_54 : Dl dq (upd w (7123 * j_4 + 108 + c_6) (nI j_38)) := (Dl_upd h_dl (by omega))
          generalize upd w (7123 * j_4 + 108 + c_6) (nI j_38) = g_52 at hP hD hf_53 hf_54
          refine lv_aload_n hx hb dX12_type_92 rfl (lv_at hl 0 rfl) ?_
          refine lv_iload_n hx hb dX12_type_93 rfl (lv_at hl 1 rfl) ?_
          refine ct_V (wr := [(a2, .inl (κ 0, 128214, .inl g_a2__45))]) (As := [.int (nI j_4)]) (rest := []) hFX hKK hP hD hS hA (d_X12_viewsOff l D κ m0 a0 a1 a2 y3__44 f4 a5 u6 f7 f8 f9 f10 u11 u12 u13 a14 a15 a16 a17 f18 f19 a20 a21 u22 a23 a24 a25 u26 f27 a28 u29 g_52 j_4 dq hf_53 hf_54 (by omega)) 1 gV_X12_77 hdV_X12_viewsOff ⟨Nat.le_of_ble_eq_true rfl, Nat.le_of_ble_eq_true rfl⟩ rfl rfl (Nat.le_of_ble_eq_true rfl) dX12_type_94 ⟨Nat.le_of_ble_eq_true rfl, Nat.le_of_ble_eq_true rfl⟩ hl.1 [0, 1] [2] rfl rfl (by decide) (by decide) (by decide) 0 12 rfl rfl rfl trivial (fun g_a0__55 H locs hp_56 _ hP hD hS hz_ hk_ => ?_)
          replace hP : va_P D vwCl [(m0, .inr (12, [.ref a0, .ref a1, .ref a2, .int (nI y3__44), .int f4, .ref a5, .int (nI u6), .int f7, .int f8, .int f9, .int f10, .int (nI u11), .int (nI u12), .int (nI u13), .ref a14, .ref a15, .ref a16, .ref a17, .int f18, .int f19, .ref a20, .ref a21, .int (nI u22), .ref a23, .ref a24, .ref a25, .int (nI u26), .int f27, .ref a28, .int (nI u29)])), (a0, .inl (κ 0, 21375, .inl g_a0__55)), (a2, .inl (κ 0, 128214, .inl g_a2__45))] H := hP.sub [1, 2, 0] rfl
          replace hD : va_D A [(m0, .inr (12, [.ref a0, .ref a1, .ref a2, .int (nI y3__44), .int f4, .ref a5, .int (nI u6), .int f7, .int f8, .int f9, .int f10, .int (nI u11), .int (nI u12), .int (nI u13), .ref a14, .ref a15, .ref a16, .ref a17, .int f18, .int f19, .ref a20, .ref a21, .int (nI u22), .ref a23, .ref a24, .ref a25, .int (nI u26), .int f27, .ref a28, .int (nI u29)])), (a0, .inl (κ 0, 21375, .inl g_a0__55)), (a2, .inl (κ 0, 128214, .inl g_a2__45))] := hD.sub [1, 2, 0] (by decide) rfl
          replace hp_56 : Pw g_a0__55 ∧ Dl dq g_a0__55 ∧ g_a0__55 (7123 * j_4 + 2) = g_52 (7123 * j_4 + 2) := hp_56
          obtain ⟨h_57, h_58, h_59⟩ := hp_56
          refine W.eq (g2 := F0 m 97 ls []) rfl ?_
          refine lv_iconst (v := 1) hx hb dX12_type_97 (by decide) ?_
          exact ct_iret hx hb hr hlk rfl hS hP hD (1, y3__44, g_a0__55, g_a2__45) rfl ⟨(show y3__44 ≤ 6 from (by first | assumption | omega | rfl | exact Or.inl (by assumption) | exact Or.inr (by assumption))), (show Pw g_a0__55 from (by first | assumption | omega | rfl | exact Or.inl (by assumption) | exact Or.inr (by assumption))), (show Dl dq g_a0__55 from (by first | assumption | omega | rfl | exact Or.inl (by assumption) | exact Or.inr (by assumption))), (show Pu g_a2__45 from (by first | assumption | omega | rfl | exact Or.inl (by assumption) | exact Or.inr (by assumption))), (by exact Or.inl (rfl))⟩ [0, 1, 2] rfl (by decide) trivial (Nat.le_of_ble_eq_true rfl) (Nat.le_of_ble_eq_true rfl) dX12_type_98
        · refine lv_iconst (v := 0) hx hb dX12_type_63 (by decide) ?_
          exact ct_iret hx hb hr hlk rfl hS hP hD (0, u3, w, un) rfl ⟨(show u3 ≤ 6 from (by first | assumption | omega | rfl | exact Or.inl (by assumption) | exact Or.inr (by assumption))), (show Pw w from (by first | assumption | omega | rfl | exact Or.inl (by assumption) | exact Or.inr (by assumption))), (show Dl dq w from (by first | assumption | omega | rfl | exact Or.inl (by assumption) | exact Or.inr (by assumption))), (show Pu un from (by first | assumption | omega | rfl | exact Or.inl (by assumption) | exact Or.inr (by assumption))), (by exact Or.inr ((rfl)))⟩ [0, 1, 2] rfl (by decide) trivial (Nat.le_of_ble_eq_true rfl) (Nat.le_of_ble_eq_true rfl) dX12_type_64
      · refine W.eq (g2 := F0 m 23 ls [.int 0]) rfl ?_
        have hin_60 : zc.toInt < (1 : Int) ∨ (5 : Int) < zc.toInt := l_out (l_of rfl) (by decide) (by decide) a_36
        refine lv_if_ne (tgt := 28) hx hb dX12_type_23 (by decide) (fun c_61 => absurd c_61 (by decide)) (fun c_61 => ?_)
        refine lv_iconst (v := 0) hx hb dX12_type_26 (by decide) ?_
        exact ct_iret hx hb hr hlk rfl hS hP hD (0, u3, w, un) rfl ⟨(show u3 ≤ 6 from (by first | assumption | omega | rfl | exact Or.inl (by assumption) | exact Or.inr (by assumption))), (show Pw w from (by first | assumption | omega | rfl | exact Or.inl (by assumption) | exact Or.inr (by assumption))), (show Dl dq w from (by first | assumption | omega | rfl | exact Or.inl (by assumption) | exact Or.inr (by assumption))), (show Pu un from (by first | assumption | omega | rfl | exact Or.inl (by assumption) | exact Or.inr (by assumption))), (by exact Or.inr ((rfl)))⟩ [0, 1, 2] rfl (by decide) trivial (Nat.le_of_ble_eq_true rfl) (Nat.le_of_ble_eq_true rfl) dX12_type_27
  · refine W.eq (g2 := F0 m 6 ls [.int 0]) rfl ?_
    refine lv_if_eq (tgt := 26) hx hb dX12_type_6 (by decide) (fun c_62 => ?_) (fun c_62 => absurd (by decide) c_62)
    refine lv_iconst (v := 0) hx hb dX12_type_26 (by decide) ?_
    exact ct_iret hx hb hr hlk rfl hS hP hD (0, u3, w, un) rfl ⟨(show u3 ≤ 6 from (by first | assumption | omega | rfl | exact Or.inl (by assumption) | exact Or.inr (by assumption))), (show Pw w from (by first | assumption | omega | rfl | exact Or.inl (by assumption) | exact Or.inr (by assumption))), (show Dl dq w from (by first | assumption | omega | rfl | exact Or.inl (by assumption) | exact Or.inr (by assumption))), (show Pu un from (by first | assumption | omega | rfl | exact Or.inl (by assumption) | exact Or.inr (by assumption))), (by exact Or.inr ((rfl)))⟩ [0, 1, 2] rfl (by decide) trivial (Nat.le_of_ble_eq_true rfl) (Nat.le_of_ble_eq_true rfl) dX12_type_27
set_option maxHeartbeats 4000000 in
set_option maxRecDepth 100000 in
theorem d_X12_lays (l : Launch) (D : va_G) (κ : Nat → ClassId) (m0 : Nat) (a0 : Nat) (a1 : Nat) (a2 : Nat) (u3 : Nat) (f4 : Int32) (a5 : Nat) (u6 : Nat) (f7 : Int32) (f8 : Int32) (f9 : Int32) (f10 : Int32) (u11 : Nat) (u12 : Nat) (u13 : Nat) (a14 : Nat) (a15 : Nat) (a16 : Nat) (a17 : Nat) (f18 : Int32) (f19 : Int32) (a20 : Nat) (a21 : Nat) (u22 : Nat) (a23 : Nat) (a24 : Nat) (a25 : Nat) (u26 : Nat) (f27 : Int32) (a28 : Nat) (u29 : Nat) (w : Nat → Int32) (nx : Nat → Int32) (a : Nat) (dq : Nat → Int32) (h22 : u22 ≤ 40) (h_a0 : Pw w) (h_a21 : Pb 40 39 nx) (h_dl : Dl dq w) (ht : a < 3) (ht5 : ∃ n9 : Nat, n9 ≤ 5 ∧ w (7123 * a + 3) = nI n9) : Ct l yX12_lays (wl yX12_lays cX12_lays 3 (some .int)) { frames := 1, cells := 0, slots := 0, locals := 21 } D κ [.ref m0, .int (nI a)] [(m0, .inr (12, [.ref a0, .ref a1, .ref a2, .int (nI u3), .int f4, .ref a5, .int (nI u6), .int f7, .int f8, .int f9, .int f10, .int (nI u11), .int (nI u12), .int (nI u13), .ref a14, .ref a15, .ref a16, .ref a17, .int f18, .int f19, .ref a20, .ref a21, .int (nI u22), .ref a23, .ref a24, .ref a25, .int (nI u26), .int f27, .ref a28, .int (nI u29)])), (a0, .inl (κ 0, 21375, .inl w)), (a21, .inl (κ 0, 40, .inl nx))] (fun _ => True) (fun u9 : Int32 × (Nat → Int32) => some (.int u9.1)) (fun u9 : Int32 × (Nat → Int32) => Pw u9.2 ∧ Dl dq u9.2) (fun u9 : Int32 × (Nat → Int32) => [(m0, .inr (12, [.ref a0, .ref a1, .ref a2, .int (nI u3), .int f4, .ref a5, .int (nI u6), .int f7, .int f8, .int f9, .int f10, .int (nI u11), .int (nI u12), .int (nI u13), .ref a14, .ref a15, .ref a16, .ref a17, .int f18, .int f19, .ref a20, .ref a21, .int (nI u22), .ref a23, .ref a24, .ref a25, .int (nI u26), .int f27, .ref a28, .int (nI u29)])), (a0, .inl (κ 0, 21375, .inl u9.2)), (a21, .inl (κ 0, 40, .inl nx))]) (fun _ _ => True) := by
  refine ct_of (by decide +kernel) (Nat.le_of_ble_eq_true rfl) ?_
  intro p e s m args below meth c A ls hx hb hr hml hts hown hlk hin hKK hK hA hP hD hS hI hl
  have hS : va_S A s.heap s.heap [] := hS
  have hFX : FX p s m args c cX12_lays 3 RX12 := ⟨hx, hb, hml, hown, hts⟩
  have hl : lv_has ls 3 [(0, .ref m0), (1, .int (nI a))] := hl
  refine lv_aload_n hx hb dX12_lays_0 rfl (lv_at hl 0 rfl) ?_
  refine va_get (D := D) (ci := 12) (v := .ref a0) (C := RX12) (T := TX12) (N := 30) hx hb hts inlX12 hown hK hP 0 rfl rfl 0 (by decide) (hts _ mw_187) (fun _ h9 => h9) rfl dX12_lays_1 ?_
  refine lv_iload_n hx hb dX12_lays_4 rfl (lv_at hl 1 rfl) ?_
  refine lv_iconst (v := 3) hx hb dX12_lays_5 (by decide) ?_
  refine cr_S (As := [.int (nI a), .int 3]) (rest := [.ref a0]) hFX hKK (s_X12_at l D κ a 3) 2 gS_X12_66 hdS_X12_at rfl rfl ⟨Nat.le_of_ble_eq_true rfl, Nat.le_of_ble_eq_true rfl⟩ rfl rfl (Nat.le_of_ble_eq_true rfl) dX12_lays_6 ⟨Nat.le_of_ble_eq_true rfl, Nat.le_of_ble_eq_true rfl⟩ hl.1 (hP.sub [] rfl) (fun _ hp_1 => ?_)
  refine W.eq (g2 := F0 m 9 ls [.int (nI (7123 * a + 3)), .ref a0]) rfl ?_
  refine lv_dup2_11 hx hb dX12_lays_9 rfl rfl ?_
  refine va_iald hx hb hK hP 1 0 rfl rfl (i := nI (7123 * a + 3)) (vp_in_nI (n := (7123 * a + 3)) (by omega) (by omega)) dX12_lays_10 ?_
  refine kv (v := .int (w (7123 * a + 3))) (by rw [nI_clamp (by omega)]) ?_
  obtain ⟨n_2, hn_2, en_2⟩ : ∃ n9 : Nat, n9 ≤ 5 ∧ w (7123 * a + 3) = nI n9 := id (ht5)
  refine kv (v := .int (nI n_2)) (congrArg Value.int en_2) ?_
  refine lv_iconst (v := 1) hx hb dX12_lays_11 (by decide) ?_
  refine lv_iadd hx hb dX12_lays_12 ?_
  refine ki (v := (nI (n_2 + 1))) (nI_add n_2 1) ?_
  refine va_iast hx hb hK hP hD hS 1 0 rfl rfl (i := nI (7123 * a + 3)) (x := nI (n_2 + 1)) (vp_in_nI (n := (7123 * a + 3)) (by omega) (by omega)) dX12_lays_13 (fun H locs hP hD hS => ?_)
  rw [nI_clamp (by omega)] at hP hD
  have hP : va_P D vwCl [(m0, .inr (12, [.ref a0, .ref a1, .ref a2, .int (nI u3), .int f4, .ref a5, .int (nI u6), .int f7, .int f8, .int f9, .int f10, .int (nI u11), .int (nI u12), .int (nI u13), .ref a14, .ref a15, .ref a16, .ref a17, .int f18, .int f19, .ref a20, .ref a21, .int (nI u22), .ref a23, .ref a24, .ref a25, .int (nI u26), .int f27, .ref a28, .int (nI u29)])), (a0, .inl (κ 0, 21375, .inl (upd w (7123 * a + 3) (nI (n_2 + 1))))), (a21, .inl (κ 0, 40, .inl nx))] H := hP
  have hD : va_D A [(m0, .inr (12, [.ref a0, .ref a1, .ref a2, .int (nI u3), .int f4, .ref a5, .int (nI u6), .int f7, .int f8, .int f9, .int f10, .int (nI u11), .int (nI u12), .int (nI u13), .ref a14, .ref a15, .ref a16, .ref a17, .int f18, .int f19, .ref a20, .ref a21, .int (nI u22), .ref a23, .ref a24, .ref a25, .int (nI u26), .int f27, .ref a28, .int (nI u29)])), (a0, .inl (κ 0, 21375, .inl (upd w (7123 * a + 3) (nI (n_2 + 1))))), (a21, .inl (κ 0, 40, .inl nx))] := hD
  have hf_4 : Pw (upd w (7123 * a + 3) (nI (n_2 + 1))) := (Pw_upd h_a0 (mTOP (t := a) (by omega) (by omega)) ⟨n_2 + 1, by omega, rfl⟩)
  have hf_5 : Dl dq (upd w (7123 * a + 3) (nI (n_2 + 1))) := (Dl_upd h_dl (by omega))
  generalize upd w (7123 * a + 3) (nI (n_2 + 1)) = g_3 at hP hD hf_4 hf_5
  refine lv_aload_n hx hb dX12_lays_14 rfl (lv_at hl 0 rfl) ?_
  refine va_get (D := D) (ci := 12) (v := .ref a0) (C := RX12) (T := TX12) (N := 30) hx hb hts inlX12 hown hK hP 0 rfl rfl 0 (by decide) (hts _ mw_187) (fun _ h9 => h9) rfl dX12_lays_15 ?_
  refine lv_iload_n hx hb dX12_lays_18 rfl (lv_at hl 1 rfl) ?_
  refine lv_bipush (v := 116) hx hb dX12_lays_19 (by decide) ?_
  refine cr_S (As := [.int (nI a), .int 116]) (rest := [.ref a0]) hFX hKK (s_X12_at l D κ a 116) 2 gS_X12_66 hdS_X12_at rfl rfl ⟨Nat.le_of_ble_eq_true rfl, Nat.le_of_ble_eq_true rfl⟩ rfl rfl (Nat.le_of_ble_eq_true rfl) dX12_lays_21 ⟨Nat.le_of_ble_eq_true rfl, Nat.le_of_ble_eq_true rfl⟩ hl.1 (hP.sub [] rfl) (fun _ hp_6 => ?_)
  refine W.eq (g2 := F0 m 24 ls [.int (nI (7123 * a + 116)), .ref a0]) rfl ?_
  refine lv_aload_n hx hb dX12_lays_24 rfl (lv_at hl 0 rfl) ?_
  refine va_get (D := D) (ci := 12) (v := .ref a0) (C := RX12) (T := TX12) (N := 30) hx hb hts inlX12 hown hK hP 0 rfl rfl 0 (by decide) (hts _ mw_187) (fun _ h9 => h9) rfl dX12_lays_25 ?_
  refine lv_iload_n hx hb dX12_lays_28 rfl (lv_at hl 1 rfl) ?_
  refine lv_iconst (v := 3) hx hb dX12_lays_29 (by decide) ?_
  refine cr_S (As := [.int (nI a), .int 3]) (rest := [.ref a0, .int (nI (7123 * a + 116)), .ref a0]) hFX hKK (s_X12_at l D κ a 3) 2 gS_X12_66 hdS_X12_at rfl rfl ⟨Nat.le_of_ble_eq_true rfl, Nat.le_of_ble_eq_true rfl⟩ rfl rfl (Nat.le_of_ble_eq_true rfl) dX12_lays_30 ⟨Nat.le_of_ble_eq_true rfl, Nat.le_of_ble_eq_true rfl⟩ hl.1 (hP.sub [] rfl) (fun _ hp_7 => ?_)
  refine W.eq (g2 := F0 m 33 ls [.int (nI (7123 * a + 3)), .ref a0, .int (nI (7123 * a + 116)), .ref a0]) rfl ?_
  refine va_iald hx hb hK hP 1 0 rfl rfl (i := nI (7123 * a + 3)) (vp_in_nI (n := (7123 * a + 3)) (by omega) (by omega)) dX12_lays_33 ?_
  refine kv (v := .int (g_3 (7123 * a + 3))) (by rw [nI_clamp (by omega)]) ?_
  obtain ⟨n_8, hn_8, en_8⟩ : ∃ n9 : Nat, n9 ≤ 6 ∧ g_3 (7123 * a + 3) = nI n9 := id (hf_4 _ _ (mTOP (t := a) (by omega) (by omega)))
  refine kv (v := .int (nI n_8)) (congrArg Value.int en_8) ?_
  refine lv_iadd hx hb dX12_lays_34 ?_
  refine ki (v := (nI (7123 * a + 116 + n_8))) (nI_add (7123 * a + 116) n_8) ?_
  refine lv_aload_n hx hb dX12_lays_35 rfl (lv_at hl 0 rfl) ?_
  refine va_get (D := D) (ci := 12) (v := .int (nI u22)) (C := RX12) (T := TX12) (N := 30) hx hb hts inlX12 hown hK hP 0 rfl rfl 22 (by decide) (hts _ mw_1029) (fun _ h9 => h9) rfl dX12_lays_36 ?_
  refine va_iast hx hb hK hP hD hS 1 0 rfl rfl (i := nI (7123 * a + 116 + n_8)) (x := nI u22) (vp_in_nI (n := (7123 * a + 116 + n_8)) (by omega) (by omega)) dX12_lays_39 (fun H locs hP hD hS => ?_)
  rw [nI_clamp (by omega)] at hP hD
  have hP : va_P D vwCl [(m0, .inr (12, [.ref a0, .ref a1, .ref a2, .int (nI u3), .int f4, .ref a5, .int (nI u6), .int f7, .int f8, .int f9, .int f10, .int (nI u11), .int (nI u12), .int (nI u13), .ref a14, .ref a15, .ref a16, .ref a17, .int f18, .int f19, .ref a20, .ref a21, .int (nI u22), .ref a23, .ref a24, .ref a25, .int (nI u26), .int f27, .ref a28, .int (nI u29)])), (a0, .inl (κ 0, 21375, .inl (upd g_3 (7123 * a + 116 + n_8) (nI u22)))), (a21, .inl (κ 0, 40, .inl nx))] H := hP
  have hD : va_D A [(m0, .inr (12, [.ref a0, .ref a1, .ref a2, .int (nI u3), .int f4, .ref a5, .int (nI u6), .int f7, .int f8, .int f9, .int f10, .int (nI u11), .int (nI u12), .int (nI u13), .ref a14, .ref a15, .ref a16, .ref a17, .int f18, .int f19, .ref a20, .ref a21, .int (nI u22), .ref a23, .ref a24, .ref a25, .int (nI u26), .int f27, .ref a28, .int (nI u29)])), (a0, .inl (κ 0, 21375, .inl (upd g_3 (7123 * a + 116 + n_8) (nI u22)))), (a21, .inl (κ 0, 40, .inl nx))] := hD
  have hf_10 : Pw (upd g_3 (7123 * a + 116 + n_8) (nI u22)) := (Pw_upd hf_4 (mVM (t := a) (k := n_8) (by omega) (by omega) (by omega)) ⟨u22, by omega, rfl⟩)
  have hf_11 : Dl dq (upd g_3 (7123 * a + 116 + n_8) (nI u22)) := (Dl_upd hf_5 (by omega))
  generalize upd g_3 (7123 * a + 116 + n_8) (nI u22) = g_9 at hP hD hf_10 hf_11
  refine lv_iconst (v := 0) hx hb dX12_lays_40 (by decide) ?_
  refine lv_istore_n (lv' := [(2, .int 0), (0, .ref m0), (1, .int (nI a))]) hx hb dX12_lays_41 rfl hl (by decide) rfl (fun ls hl => ?_)
  refine loop_dn (fun k9 H locs ls => ∃ (k2_42 : Nat), ∃ (ga0_42 : Nat → Int32), (k2_42 ≤ u22) ∧ Pw ga0_42 ∧ Dl dq ga0_42 ∧ u22 - k2_42 = k9 ∧ va_P D vwCl [(m0, .inr (12, [.ref a0, .ref a1, .ref a2, .int (nI u3), .int f4, .ref a5, .int (nI u6), .int f7, .int f8, .int f9, .int f10, .int (nI u11), .int (nI u12), .int (nI u13), .ref a14, .ref a15, .ref a16, .ref a17, .int f18, .int f19, .ref a20, .ref a21, .int (nI u22), .ref a23, .ref a24, .ref a25, .int (nI u26), .int f27, .ref a28, .int (nI u29)])), (a0, .inl (κ 0, 21375, .inl ga0_42)), (a21, .inl (κ 0, 40, .inl nx))] H ∧ va_D A [(m0, .inr (12, [.ref a0, .ref a1, .ref a2, .int (nI u3), .int f4, .ref a5, .int (nI u6), .int f7, .int f8, .int f9, .int f10, .int (nI u11), .int (nI u12), .int (nI u13), .ref a14, .ref a15, .ref a16, .ref a17, .int f18, .int f19, .ref a20, .ref a21, .int (nI u22), .ref a23, .ref a24, .ref a25, .int (nI u26), .int f27, .ref a28, .int (nI u29)])), (a0, .inl (κ 0, 21375, .inl ga0_42)), (a21, .inl (κ 0, 40, .inl nx))] ∧ va_S A s.heap H locs ∧ lv_has ls 3 [(2, .int (nI k2_42)), (0, .ref m0), (1, .int (nI a))]) (fun k9 H locs ls hI42 ih42 => ?_) (u22 - 0) _ _ _ ⟨0, g_9, (by omega), hf_10, hf_11, rfl, hP, hD, hS, lv_sub hl [0, 1, 2] rfl⟩
  obtain ⟨k2_42, ga0_42, hl42_0, hg42_0, hg42_1, hm42, hP, hD, hS, hl⟩ := hI42
  refine lv_iload_n hx hb dX12_lays_42 rfl (lv_at hl 0 rfl) ?_
  refine lv_aload_n hx hb dX12_lays_43 rfl (lv_at hl 1 rfl) ?_
  refine va_get (D := D) (ci := 12) (v := .int (nI u22)) (C := RX12) (T := TX12) (N := 30) hx hb hts inlX12 hown hK hP 0 rfl rfl 22 (by decide) (hts _ mw_1029) (fun _ h9 => h9) rfl dX12_lays_44 ?_
  refine lv_icmp_ge (tgt := 89) hx hb dX12_lays_47 (by decide) (fun c_12 => ?_) (fun c_12 => ?_)
  · have nc_12 := cv_le (a := u22) (b := k2_42) (by omega) (by omega) c_12
    refine lv_aload_n hx hb dX12_lays_89 rfl (lv_at hl 1 rfl) ?_
    refine va_get (D := D) (ci := 12) (v := .int (nI u22)) (C := RX12) (T := TX12) (N := 30) hx hb hts inlX12 hown hK hP 0 rfl rfl 22 (by decide) (hts _ mw_1029) (fun _ h9 => h9) rfl dX12_lays_90 ?_
    exact ct_iret hx hb hr hlk rfl hS hP hD (nI u22, ga0_42) rfl ⟨(show Pw ga0_42 from (by first | assumption | omega | rfl | exact Or.inl (by assumption) | exact Or.inr (by assumption))), (show Dl dq ga0_42 from (by first | assumption | omega | rfl | exact Or.inl (by assumption) | exact Or.inr (by assumption)))⟩ [0, 1, 2] rfl (by decide) trivial (Nat.le_of_ble_eq_true rfl) (Nat.le_of_ble_eq_true rfl) dX12_lays_93
  · have nc_12 := cv_nle (a := u22) (b := k2_42) (by omega) (by omega) c_12
    refine lv_aload_n hx hb dX12_lays_50 rfl (lv_at hl 1 rfl) ?_
    refine va_get (D := D) (ci := 12) (v := .ref a0) (C := RX12) (T := TX12) (N := 30) hx hb hts inlX12 hown hK hP 0 rfl rfl 0 (by decide) (hts _ mw_187) (fun _ h9 => h9) rfl dX12_lays_51 ?_
    refine lv_iload_n hx hb dX12_lays_54 rfl (lv_at hl 2 rfl) ?_
    refine lv_bipush (v := 123) hx hb dX12_lays_55 (by decide) ?_
    refine cr_S (As := [.int (nI a), .int 123]) (rest := [.ref a0]) hFX hKK (s_X12_at l D κ a 123) 2 gS_X12_66 hdS_X12_at rfl rfl ⟨Nat.le_of_ble_eq_true rfl, Nat.le_of_ble_eq_true rfl⟩ rfl rfl (Nat.le_of_ble_eq_true rfl) dX12_lays_57 ⟨Nat.le_of_ble_eq_true rfl, Nat.le_of_ble_eq_true rfl⟩ hl.1 (hP.sub [] rfl) (fun _ hp_13 => ?_)
    refine W.eq (g2 := F0 m 60 ls [.int (nI (7123 * a + 123)), .ref a0]) rfl ?_
    refine lv_bipush (v := 40) hx hb dX12_lays_60 (by decide) ?_
    refine lv_aload_n hx hb dX12_lays_62 rfl (lv_at hl 1 rfl) ?_
    refine va_get (D := D) (ci := 12) (v := .ref a0) (C := RX12) (T := TX12) (N := 30) hx hb hts inlX12 hown hK hP 0 rfl rfl 0 (by decide) (hts _ mw_187) (fun _ h9 => h9) rfl dX12_lays_63 ?_
    refine lv_iload_n hx hb dX12_lays_66 rfl (lv_at hl 2 rfl) ?_
    refine lv_iconst (v := 3) hx hb dX12_lays_67 (by decide) ?_
    refine cr_S (As := [.int (nI a), .int 3]) (rest := [.ref a0, .int 40, .int (nI (7123 * a + 123)), .ref a0]) hFX hKK (s_X12_at l D κ a 3) 2 gS_X12_66 hdS_X12_at rfl rfl ⟨Nat.le_of_ble_eq_true rfl, Nat.le_of_ble_eq_true rfl⟩ rfl rfl (Nat.le_of_ble_eq_true rfl) dX12_lays_68 ⟨Nat.le_of_ble_eq_true rfl, Nat.le_of_ble_eq_true rfl⟩ hl.1 (hP.sub [] rfl) (fun _ hp_14 => ?_)
    refine W.eq (g2 := F0 m 71 ls [.int (nI (7123 * a + 3)), .ref a0, .int 40, .int (nI (7123 * a + 123)), .ref a0]) rfl ?_
    refine va_iald hx hb hK hP 1 0 rfl rfl (i := nI (7123 * a + 3)) (vp_in_nI (n := (7123 * a + 3)) (by omega) (by omega)) dX12_lays_71 ?_
    refine kv (v := .int (ga0_42 (7123 * a + 3))) (by rw [nI_clamp (by omega)]) ?_
    obtain ⟨n_15, hn_15, en_15⟩ : ∃ n9 : Nat, n9 ≤ 6 ∧ ga0_42 (7123 * a + 3) = nI n9 := id (hg42_0 _ _ (mTOP (t := a) (by omega) (by omega)))
    refine kv (v := .int (nI n_15)) (congrArg Value.int en_15) ?_
    refine lv_imul hx hb dX12_lays_72 ?_
    refine ki (v := (nI (40 * n_15))) (pk_mul 40 n_15) ?_
    refine lv_iadd hx hb dX12_lays_73 ?_
    refine ki (v := (nI (7123 * a + 123 + (40 * n_15)))) (nI_add (7123 * a + 123) (40 * n_15)) ?_
    refine lv_iload_n hx hb dX12_lays_74 rfl (lv_at hl 0 rfl) ?_
    refine lv_iadd hx hb dX12_lays_75 ?_
    refine ki (v := (nI (7123 * a + 123 + (40 * n_15) + k2_42))) (nI_add (7123 * a + 123 + (40 * n_15)) k2_42) ?_
    refine lv_aload_n hx hb dX12_lays_76 rfl (lv_at hl 1 rfl) ?_
    refine va_get (D := D) (ci := 12) (v := .ref a21) (C := RX12) (T := TX12) (N := 30) hx hb hts inlX12 hown hK hP 0 rfl rfl 21 (by decide) (hts _ mw_199) (fun _ h9 => h9) rfl dX12_lays_77 ?_
    refine lv_iload_n hx hb dX12_lays_80 rfl (lv_at hl 0 rfl) ?_
    refine va_iald hx hb hK hP 2 0 rfl rfl (i := nI k2_42) (vp_in_nI (n := k2_42) (by omega) (by omega)) dX12_lays_81 ?_
    refine kv (v := .int (nx k2_42)) (by rw [nI_clamp (by omega)]) ?_
    obtain ⟨n_16, hn_16, en_16⟩ : ∃ n9 : Nat, n9 ≤ 39 ∧ nx k2_42 = nI n9 := id (h_a21 k2_42 (by omega))
    refine kv (v := .int (nI n_16)) (congrArg Value.int en_16) ?_
    refine va_iast hx hb hK hP hD hS 1 0 rfl rfl (i := nI (7123 * a + 123 + (40 * n_15) + k2_42)) (x := nI n_16) (vp_in_nI (n := (7123 * a + 123 + (40 * n_15) + k2_42)) (by omega) (by omega)) dX12_lays_82 (fun H locs hP hD hS => ?_)
    rw [nI_clamp (by omega)] at hP hD
    have hP : va_P D vwCl [(m0, .inr (12, [.ref a0, .ref a1, .ref a2, .int (nI u3), .int f4, .ref a5, .int (nI u6), .int f7, .int f8, .int f9, .int f10, .int (nI u11), .int (nI u12), .int (nI u13), .ref a14, .ref a15, .ref a16, .ref a17, .int f18, .int f19, .ref a20, .ref a21, .int (nI u22), .ref a23, .ref a24, .ref a25, .int (nI u26), .int f27, .ref a28, .int (nI u29)])), (a0, .inl (κ 0, 21375, .inl (upd ga0_42 (7123 * a + 123 + (40 * n_15) + k2_42) (nI n_16)))), (a21, .inl (κ 0, 40, .inl nx))] H := hP
    have hD : va_D A [(m0, .inr (12, [.ref a0, .ref a1, .ref a2, .int (nI u3), .int f4, .ref a5, .int (nI u6), .int f7, .int f8, .int f9, .int f10, .int (nI u11), .int (nI u12), .int (nI u13), .ref a14, .ref a15, .ref a16, .ref a17, .int f18, .int f19, .ref a20, .ref a21, .int (nI u22), .ref a23, .ref a24, .ref a25, .int (nI u26), .int f27, .ref a28, .int (nI u29)])), (a0, .inl (κ 0, 21375, .inl (upd ga0_42 (7123 * a + 123 + (40 * n_15) + k2_42) (nI n_16)))), (a21, .inl (κ 0, 40, .inl nx))] := hD
    have hf_18 : Pw (upd ga0_42 (7123 * a + 123 + (40 * n_15) + k2_42) (nI n_16)) := (Pw_upd hg42_0 (mVIEW (t := a) (i := 40 * n_15 + k2_42) (by omega) (by omega) (by omega)) ⟨n_16, by omega, rfl⟩)
    have hf_19 : Dl dq (upd ga0_42 (7123 * a + 123 + (40 * n_15) + k2_42) (nI n_16)) := (Dl_upd hg42_1 (by omega))
    generalize upd ga0_42 (7123 * a + 123 + (40 * n_15) + k2_42) (nI n_16) = g_17 at hP hD hf_18 hf_19
    refine lv_iinc (v := (nI (k2_42 + 1))) (lv' := [(2, .int (nI (k2_42 + 1))), (0, .ref m0), (1, .int (nI a))]) hx hb dX12_lays_83 hl (k := 0) rfl (nI_i k2_42) (by decide) rfl (fun ls hl => ?_)
    refine lv_goto (tgt := 42) hx hb dX12_lays_86 (by decide) ?_
    exact ih42 _ _ _ _ (by omega) ⟨(k2_42 + 1), g_17, (by omega), hf_18, hf_19, rfl, hP, hD, hS, lv_sub hl [0, 1, 2] rfl⟩
set_option maxHeartbeats 4000000 in
set_option maxRecDepth 100000 in
theorem d_X12_narrow (l : Launch) (D : va_G) (κ : Nat → ClassId) (m0 : Nat) (a0 : Nat) (a1 : Nat) (a2 : Nat) (u3 : Nat) (f4 : Int32) (a5 : Nat) (u6 : Nat) (f7 : Int32) (f8 : Int32) (f9 : Int32) (f10 : Int32) (u11 : Nat) (u12 : Nat) (u13 : Nat) (a14 : Nat) (a15 : Nat) (a16 : Nat) (a17 : Nat) (f18 : Int32) (f19 : Int32) (a20 : Nat) (a21 : Nat) (u22 : Nat) (a23 : Nat) (a24 : Nat) (a25 : Nat) (u26 : Nat) (f27 : Int32) (a28 : Nat) (u29 : Nat) (w : Nat → Int32) (tp : Nat → Int32) (td : Nat → Int32) (nx : Nat → Int32) (za : Int32) (zb : Int32) (zc : Int32) (dq : Nat → Int32) (h6 : u6 ≤ 800) (h22 : u22 ≤ 40) (h_a0 : Pw w) (h_a20 : Pb 1 800 td) (h_a21 : Pb 40 39 nx) (h_dl : Dl dq w) : Ct l yX12_narrow (wl yX12_narrow cX12_narrow 6 (some .int)) { frames := 8, cells := 0, slots := 0, locals := 187 } D κ [.ref m0, .int za, .int zb, .int zc] [(m0, .inr (12, [.ref a0, .ref a1, .ref a2, .int (nI u3), .int f4, .ref a5, .int (nI u6), .int f7, .int f8, .int f9, .int f10, .int (nI u11), .int (nI u12), .int (nI u13), .ref a14, .ref a15, .ref a16, .ref a17, .int f18, .int f19, .ref a20, .ref a21, .int (nI u22), .ref a23, .ref a24, .ref a25, .int (nI u26), .int f27, .ref a28, .int (nI u29)])), (a0, .inl (κ 0, 21375, .inl w)), (a5, .inl (κ 0, 800, .inl tp)), (a20, .inl (κ 0, 801, .inl td)), (a21, .inl (κ 0, 40, .inl nx))] (fun _ => True) (fun u9 : Int32 × Nat × (Nat → Int32) × (Nat → Int32) × (Nat → Int32) => some (.int u9.1)) (fun u9 : Int32 × Nat × (Nat → Int32) × (Nat → Int32) × (Nat → Int32) => u9.2.1 ≤ 40 ∧ Pw u9.2.2.1 ∧ Dl dq u9.2.2.1 ∧ Pb 1 800 u9.2.2.2.1 ∧ Pb 40 39 u9.2.2.2.2) (fun u9 : Int32 × Nat × (Nat → Int32) × (Nat → Int32) × (Nat → Int32) => [(m0, .inr (12, [.ref a0, .ref a1, .ref a2, .int (nI u3), .int f4, .ref a5, .int 0, .int f7, .int f8, .int f9, .int f10, .int (nI u11), .int (nI u12), .int (nI u13), .ref a14, .ref a15, .ref a16, .ref a17, .int f18, .int f19, .ref a20, .ref a21, .int (nI u9.2.1), .ref a23, .ref a24, .ref a25, .int (nI u26), .int f27, .ref a28, .int (nI u29)])), (a0, .inl (κ 0, 21375, .inl u9.2.2.1)), (a5, .inl (κ 0, 800, .inl tp)), (a20, .inl (κ 0, 801, .inl u9.2.2.2.1)), (a21, .inl (κ 0, 40, .inl u9.2.2.2.2))]) (fun _ _ => True) := by
  refine ct_of (by decide +kernel) (Nat.le_of_ble_eq_true rfl) ?_
  intro p e s m args below meth c A ls hx hb hr hml hts hown hlk hin hKK hK hA hP hD hS hI hl
  have hS : va_S A s.heap s.heap [] := hS
  have hFX : FX p s m args c cX12_narrow 6 RX12 := ⟨hx, hb, hml, hown, hts⟩
  have hl : lv_has ls 6 [(0, .ref m0), (1, .int za), (2, .int zb), (3, .int zc)] := hl
  refine lv_aload_n hx hb dX12_narrow_0 rfl (lv_at hl 0 rfl) ?_
  refine ct_V (wr := [(a0, .inl (κ 0, 21375, .inl w)), (a21, .inl (κ 0, 40, .inl nx))]) (As := []) (rest := []) hFX hKK hP hD hS hA (s_X12_laysTape l D κ m0 a0 a1 a2 u3 f4 a5 u6 f7 f8 f9 f10 u11 u12 u13 a14 a15 a16 a17 f18 f19 a20 a21 u22 a23 a24 a25 u26 f27 a28 u29 tp td (by omega) h_a20) 0 gV_X12_306 hdV_X12_laysTape ⟨Nat.le_of_ble_eq_true rfl, Nat.le_of_ble_eq_true rfl⟩ rfl rfl (Nat.le_of_ble_eq_true rfl) dX12_narrow_1 ⟨Nat.le_of_ble_eq_true rfl, Nat.le_of_ble_eq_true rfl⟩ hl.1 [0, 2, 3] [1, 4] rfl rfl (by decide) (by decide) (by decide) 0 12 rfl rfl rfl trivial (fun g_a20__1 H locs hp_2 _ hP hD hS hz_ hk_ => ?_)
  replace hP : va_P D vwCl [(m0, .inr (12, [.ref a0, .ref a1, .ref a2, .int (nI u3), .int f4, .ref a5, .int 0, .int f7, .int f8, .int f9, .int f10, .int (nI u11), .int (nI u12), .int (nI u13), .ref a14, .ref a15, .ref a16, .ref a17, .int f18, .int f19, .ref a20, .ref a21, .int (nI u22), .ref a23, .ref a24, .ref a25, .int (nI u26), .int f27, .ref a28, .int (nI u29)])), (a0, .inl (κ 0, 21375, .inl w)), (a5, .inl (κ 0, 800, .inl tp)), (a20, .inl (κ 0, 801, .inl g_a20__1)), (a21, .inl (κ 0, 40, .inl nx))] H := hP.sub [2, 0, 3, 4, 1] rfl
  replace hD : va_D A [(m0, .inr (12, [.ref a0, .ref a1, .ref a2, .int (nI u3), .int f4, .ref a5, .int 0, .int f7, .int f8, .int f9, .int f10, .int (nI u11), .int (nI u12), .int (nI u13), .ref a14, .ref a15, .ref a16, .ref a17, .int f18, .int f19, .ref a20, .ref a21, .int (nI u22), .ref a23, .ref a24, .ref a25, .int (nI u26), .int f27, .ref a28, .int (nI u29)])), (a0, .inl (κ 0, 21375, .inl w)), (a5, .inl (κ 0, 800, .inl tp)), (a20, .inl (κ 0, 801, .inl g_a20__1)), (a21, .inl (κ 0, 40, .inl nx))] := hD.sub [2, 0, 3, 4, 1] (by decide) rfl
  replace hp_2 : Pb 1 800 g_a20__1 := hp_2
  have h_3 := hp_2
  clear hp_2
  refine W.eq (g2 := F0 m 4 ls []) rfl ?_
  refine lv_aload_n hx hb dX12_narrow_4 rfl (lv_at hl 0 rfl) ?_
  refine lv_iload_n hx hb dX12_narrow_5 rfl (lv_at hl 1 rfl) ?_
  refine lv_iload_n hx hb dX12_narrow_6 rfl (lv_at hl 2 rfl) ?_
  refine cr_V (As := [.int za, .int zb]) (rest := []) hFX hKK (s_X12_mayView l D κ m0 a0 a1 a2 u3 f4 a5 0 f7 f8 f9 f10 u11 u12 u13 a14 a15 a16 a17 f18 f19 a20 a21 u22 a23 a24 a25 u26 f27 a28 u29 w za zb h_a0) 2 gV_X12_336 hdV_X12_mayView rfl rfl ⟨Nat.le_of_ble_eq_true rfl, Nat.le_of_ble_eq_true rfl⟩ rfl rfl (Nat.le_of_ble_eq_true rfl) dX12_narrow_7 ⟨Nat.le_of_ble_eq_true rfl, Nat.le_of_ble_eq_true rfl⟩ hl.1 hP 0 12 rfl rfl rfl (hP.sub [0, 1] rfl) (fun r__4 hp_5 => ?_)
  replace hp_5 : ((r__4 = 1 ∧ (∃ j : Nat, (j < 3 ∧ ∃ n9 : Nat, n9 ≤ 5 ∧ w (7123 * j + 3) = nI n9) ∧ za = nI j) ∧ (∃ c : Nat, c < 8 ∧ zb = nI c)) ∨ (r__4 = 0)) := hp_5
  have ha_6 := hp_5
  clear hp_5
  rcases ha_6 with ⟨rfl, ⟨j_7, ⟨hj_7, a_9⟩, rfl⟩, ⟨c_10, hc_10, rfl⟩⟩ | rfl
  · refine W.eq (g2 := F0 m 10 ls [.int 1]) rfl ?_
    refine lv_if_eq (tgt := 25) hx hb dX12_narrow_10 (by decide) (fun c_12 => absurd c_12 (by decide)) (fun c_12 => ?_)
    refine lv_iload_n hx hb dX12_narrow_13 rfl (lv_at hl 3 rfl) ?_
    refine lv_i2l (v := zc.toInt64) hx hb dX12_narrow_14 rfl ?_
    refine lv_lconst (v := 0) hx hb dX12_narrow_15 (by decide) ?_
    refine lv_ldc2 hx hb hown (hts _ mw_1028) dX12_narrow_16 ?_
    refine cr_S (As := [.long zc.toInt64, .long 0, .long 7]) (rest := []) hFX hKK (s_X12_isIn l D κ zc.toInt64 0 7) 3 gS_X12_62 hdS_X12_isIn rfl rfl ⟨Nat.le_of_ble_eq_true rfl, Nat.le_of_ble_eq_true rfl⟩ rfl rfl (Nat.le_of_ble_eq_true rfl) dX12_narrow_19 ⟨Nat.le_of_ble_eq_true rfl, Nat.le_of_ble_eq_true rfl⟩ hl.1 (hP.sub [] rfl) (fun r__13 hp_14 => ?_)
    replace hp_14 : ((r__13 = 1 ∧ ¬ lg_cmp zc.toInt64 (0 : Int64) < 0 ∧ ¬ 0 < lg_cmp zc.toInt64 (7 : Int64)) ∨ (r__13 = 0 ∧ (lg_cmp zc.toInt64 (0 : Int64) < 0 ∨ 0 < lg_cmp zc.toInt64 (7 : Int64)))) := hp_14
    have ha_15 := hp_14
    clear hp_14
    rcases ha_15 with ⟨rfl, a_16, a_17⟩ | ⟨rfl, a_18⟩
    · refine W.eq (g2 := F0 m 22 ls [.int 1]) rfl ?_
      have hin_19 : (0 : Int) ≤ zc.toInt ∧ zc.toInt ≤ (7 : Int) := l_in (l_of rfl) (by decide) (by decide) a_16 a_17
      obtain ⟨j_20, hj_20, rfl⟩ : ∃ j9 : Nat, (j9 : Int) ≤ (7 : Int) ∧ zc = nI j9 := i_nat (by omega) (by omega)
      refine lv_if_ne (tgt := 27) hx hb dX12_narrow_22 (by decide) (fun c_21 => ?_) (fun c_21 => absurd c_21 (by decide))
      refine lv_aload_n hx hb dX12_narrow_27 rfl (lv_at hl 0 rfl) ?_
      refine lv_iload_n hx hb dX12_narrow_28 rfl (lv_at hl 1 rfl) ?_
      refine lv_iload_n hx hb dX12_narrow_29 rfl (lv_at hl 2 rfl) ?_
      refine cr_V (As := [.int (nI j_7), .int (nI c_10)]) (rest := []) hFX hKK (s_X12_typeOfColumn l D κ m0 a0 a1 a2 u3 f4 a5 0 f7 f8 f9 f10 u11 u12 u13 a14 a15 a16 a17 f18 f19 a20 a21 u22 a23 a24 a25 u26 f27 a28 u29 w j_7 c_10 h_a0 (by omega) (by omega)) 2 gV_X12_181 hdV_X12_typeOfColumn rfl rfl ⟨Nat.le_of_ble_eq_true rfl, Nat.le_of_ble_eq_true rfl⟩ rfl rfl (Nat.le_of_ble_eq_true rfl) dX12_narrow_30 ⟨Nat.le_of_ble_eq_true rfl, Nat.le_of_ble_eq_true rfl⟩ hl.1 hP 0 12 rfl rfl rfl (hP.sub [0, 1] rfl) (fun n__22 hp_23 => ?_)
      replace hp_23 : n__22 ≤ 5 := hp_23
      have h_24 := hp_23
      clear hp_23
      refine W.eq (g2 := F0 m 33 ls [.int (nI n__22)]) rfl ?_
      refine lv_istore (lv' := [(4, .int (nI n__22)), (0, .ref m0), (1, .int (nI j_7)), (2, .int (nI c_10)), (3, .int (nI j_20))]) hx hb dX12_narrow_33 hl (by decide) rfl (fun ls hl => ?_)
      refine lv_iload_n hx hb dX12_narrow_35 rfl (lv_at hl 4 rfl) ?_
      refine lv_bipush (v := 7) hx hb dX12_narrow_36 (by decide) ?_
      refine lv_icmp_ge (tgt := 59) hx hb dX12_narrow_38 (by decide) (fun c_25 => ?_) (fun c_25 => ?_)
      · have nc_25 := cv_le (a := 7) (b := j_20) (by omega) (by omega) c_25
        refine lv_iload_n hx hb dX12_narrow_59 rfl (lv_at hl 4 rfl) ?_
        refine lv_bipush (v := 6) hx hb dX12_narrow_60 (by decide) ?_
        refine lv_icmp_ge (tgt := 83) hx hb dX12_narrow_62 (by decide) (fun c_26 => ?_) (fun c_26 => ?_)
        · have nc_26 := cv_le (a := 6) (b := j_20) (by omega) (by omega) c_26
          refine lv_aload_n hx hb dX12_narrow_83 rfl (lv_at hl 1 rfl) ?_
          refine lv_iconst (v := 0) hx hb dX12_narrow_84 (by decide) ?_
          refine va_put (D := D) (ci := 12) (v := .int 0) (ty := tyX12 22) (C := RX12) (T := TX12) (N := 30) hx hb hts inlX12 tyX12 tyX12_ok nmX12 hown hK hP hD hS 0 rfl rfl 22 (by decide) (hts _ mw_1029) (fun _ h9 => h9) rfl (tyX12_ok 22 (by decide)) rfl rfl (Nat.le_of_ble_eq_true rfl) dX12_narrow_85 (fun H locs hP hD hS => ?_)
          have hP : va_P D vwCl [(m0, .inr (12, [.ref a0, .ref a1, .ref a2, .int (nI u3), .int f4, .ref a5, .int 0, .int f7, .int f8, .int f9, .int f10, .int (nI u11), .int (nI u12), .int (nI u13), .ref a14, .ref a15, .ref a16, .ref a17, .int f18, .int f19, .ref a20, .ref a21, .int 0, .ref a23, .ref a24, .ref a25, .int (nI u26), .int f27, .ref a28, .int (nI u29)])), (a0, .inl (κ 0, 21375, .inl w)), (a5, .inl (κ 0, 800, .inl tp)), (a20, .inl (κ 0, 801, .inl g_a20__1)), (a21, .inl (κ 0, 40, .inl nx))] H := hP
          have hD : va_D A [(m0, .inr (12, [.ref a0, .ref a1, .ref a2, .int (nI u3), .int f4, .ref a5, .int 0, .int f7, .int f8, .int f9, .int f10, .int (nI u11), .int (nI u12), .int (nI u13), .ref a14, .ref a15, .ref a16, .ref a17, .int f18, .int f19, .ref a20, .ref a21, .int 0, .ref a23, .ref a24, .ref a25, .int (nI u26), .int f27, .ref a28, .int (nI u29)])), (a0, .inl (κ 0, 21375, .inl w)), (a5, .inl (κ 0, 800, .inl tp)), (a20, .inl (κ 0, 801, .inl g_a20__1)), (a21, .inl (κ 0, 40, .inl nx))] := hD
          refine lv_iconst (v := 0) hx hb dX12_narrow_88 (by decide) ?_
          refine lv_istore (lv' := [(5, .int 0), (4, .int (nI n__22)), (0, .ref m0), (1, .int (nI j_7)), (2, .int (nI c_10)), (3, .int (nI j_20))]) hx hb dX12_narrow_89 hl (by decide) rfl (fun ls hl => ?_)
          refine loop_dn (fun k9 H locs ls => ∃ (k5_91 : Nat), ∃ (v22_91 : Nat), ∃ (ga21_91 : Nat → Int32), (v22_91 ≤ k5_91) ∧ (k5_91 ≤ 40) ∧ Pb 40 39 ga21_91 ∧ 41 - k5_91 = k9 ∧ va_P D vwCl [(m0, .inr (12, [.ref a0, .ref a1, .ref a2, .int (nI u3), .int f4, .ref a5, .int 0, .int f7, .int f8, .int f9, .int f10, .int (nI u11), .int (nI u12), .int (nI u13), .ref a14, .ref a15, .ref a16, .ref a17, .int f18, .int f19, .ref a20, .ref a21, .int (nI v22_91), .ref a23, .ref a24, .ref a25, .int (nI u26), .int f27, .ref a28, .int (nI u29)])), (a0, .inl (κ 0, 21375, .inl w)), (a5, .inl (κ 0, 800, .inl tp)), (a20, .inl (κ 0, 801, .inl g_a20__1)), (a21, .inl (κ 0, 40, .inl ga21_91))] H ∧ va_D A [(m0, .inr (12, [.ref a0, .ref a1, .ref a2, .int (nI u3), .int f4, .ref a5, .int 0, .int f7, .int f8, .int f9, .int f10, .int (nI u11), .int (nI u12), .int (nI u13), .ref a14, .ref a15, .ref a16, .ref a17, .int f18, .int f19, .ref a20, .ref a21, .int (nI v22_91), .ref a23, .ref a24, .ref a25, .int (nI u26), .int f27, .ref a28, .int (nI u29)])), (a0, .inl (κ 0, 21375, .inl w)), (a5, .inl (κ 0, 800, .inl tp)), (a20, .inl (κ 0, 801, .inl g_a20__1)), (a21, .inl (κ 0, 40, .inl ga21_91))] ∧ va_S A s.heap H locs ∧ lv_has ls 6 [(5, .int (nI k5_91)), (4, .int (nI n__22)), (0, .ref m0), (1, .int (nI j_7)), (2, .int (nI c_10)), (3, .int (nI j_20))]) (fun k9 H locs ls hI91 ih91 => ?_) (41 - 0) _ _ _ ⟨0, 0, nx, (by omega), (by omega), h_a21, rfl, hP, hD, hS, lv_sub hl [0, 1, 2, 3, 4, 5] rfl⟩
          obtain ⟨k5_91, v22_91, ga21_91, hl91_0, hl91_1, hg91_0, hm91, hP, hD, hS, hl⟩ := hI91
          refine lv_iload hx hb dX12_narrow_91 (lv_at hl 0 rfl) ?_
          refine lv_aload_n hx hb dX12_narrow_93 rfl (lv_at hl 2 rfl) ?_
          refine lv_iload_n hx hb dX12_narrow_94 rfl (lv_at hl 3 rfl) ?_
          refine cr_V (As := [.int (nI j_7)]) (rest := [.int (nI k5_91)]) hFX hKK (s2_X12_viewMany l D κ m0 a0 a1 a2 u3 f4 a5 0 f7 f8 f9 f10 u11 u12 u13 a14 a15 a16 a17 f18 f19 a20 a21 v22_91 a23 a24 a25 u26 f27 a28 u29 w j_7 h_a0 (by omega)) 1 gV_X12_341 hdV_X12_viewMany rfl rfl ⟨Nat.le_of_ble_eq_true rfl, Nat.le_of_ble_eq_true rfl⟩ rfl rfl (Nat.le_of_ble_eq_true rfl) dX12_narrow_95 ⟨Nat.le_of_ble_eq_true rfl, Nat.le_of_ble_eq_true rfl⟩ hl.1 hP 0 12 rfl rfl rfl (hP.sub [0, 1] rfl) (fun n__27 hp_28 => ?_)
          replace hp_28 : n__27 ≤ 40 ∧ n__27 = vmF w j_7 := hp_28
          obtain ⟨h_29, h_30⟩ := hp_28
          refine W.eq (g2 := F0 m 98 ls [.int (nI n__27), .int (nI k5_91)]) rfl ?_
          refine lv_icmp_ge (tgt := 158) hx hb dX12_narrow_98 (by decide) (fun c_31 => ?_) (fun c_31 => ?_)
          · have nc_31 := cv_le (a := n__27) (b := k5_91) (by omega) (by omega) c_31
            refine lv_aload_n hx hb dX12_narrow_158 rfl (lv_at hl 2 rfl) ?_
            refine lv_iload_n hx hb dX12_narrow_159 rfl (lv_at hl 3 rfl) ?_
            refine ct_V (wr := [(a5, .inl (κ 0, 800, .inl tp)), (a20, .inl (κ 0, 801, .inl g_a20__1))]) (As := [.int (nI j_7)]) (rest := []) hFX hKK hP hD hS hA (d_X12_lays l D κ m0 a0 a1 a2 u3 f4 a5 0 f7 f8 f9 f10 u11 u12 u13 a14 a15 a16 a17 f18 f19 a20 a21 v22_91 a23 a24 a25 u26 f27 a28 u29 w ga21_91 j_7 dq (by omega) h_a0 hg91_0 h_dl (by omega) (by assumption)) 1 gV_X12_351 hdV_X12_lays ⟨Nat.le_of_ble_eq_true rfl, Nat.le_of_ble_eq_true rfl⟩ rfl rfl (Nat.le_of_ble_eq_true rfl) dX12_narrow_160 ⟨Nat.le_of_ble_eq_true rfl, Nat.le_of_ble_eq_true rfl⟩ hl.1 [0, 1, 4] [2, 3] rfl rfl (by decide) (by decide) (by decide) 0 12 rfl rfl rfl trivial (fun u_34 H locs hp_35 _ hP hD hS hz_ hk_ => ?_)
            obtain ⟨r__32, g_a0__33⟩ := u_34
            replace hP : va_P D vwCl [(m0, .inr (12, [.ref a0, .ref a1, .ref a2, .int (nI u3), .int f4, .ref a5, .int (nI 0), .int f7, .int f8, .int f9, .int f10, .int (nI u11), .int (nI u12), .int (nI u13), .ref a14, .ref a15, .ref a16, .ref a17, .int f18, .int f19, .ref a20, .ref a21, .int (nI v22_91), .ref a23, .ref a24, .ref a25, .int (nI u26), .int f27, .ref a28, .int (nI u29)])), (a0, .inl (κ 0, 21375, .inl g_a0__33)), (a5, .inl (κ 0, 800, .inl tp)), (a20, .inl (κ 0, 801, .inl g_a20__1)), (a21, .inl (κ 0, 40, .inl ga21_91))] H := hP.sub [2, 3, 0, 1, 4] rfl
            replace hD : va_D A [(m0, .inr (12, [.ref a0, .ref a1, .ref a2, .int (nI u3), .int f4, .ref a5, .int (nI 0), .int f7, .int f8, .int f9, .int f10, .int (nI u11), .int (nI u12), .int (nI u13), .ref a14, .ref a15, .ref a16, .ref a17, .int f18, .int f19, .ref a20, .ref a21, .int (nI v22_91), .ref a23, .ref a24, .ref a25, .int (nI u26), .int f27, .ref a28, .int (nI u29)])), (a0, .inl (κ 0, 21375, .inl g_a0__33)), (a5, .inl (κ 0, 800, .inl tp)), (a20, .inl (κ 0, 801, .inl g_a20__1)), (a21, .inl (κ 0, 40, .inl ga21_91))] := hD.sub [2, 3, 0, 1, 4] (by decide) rfl
            replace hp_35 : Pw g_a0__33 ∧ Dl dq g_a0__33 := hp_35
            obtain ⟨h_36, h_37⟩ := hp_35
            refine W.eq (g2 := F0 m 163 ls [.int r__32]) rfl ?_
            exact ct_iret hx hb hr hlk rfl hS hP hD (r__32, v22_91, g_a0__33, g_a20__1, ga21_91) rfl ⟨(show v22_91 ≤ 40 from (by first | assumption | omega | rfl | exact Or.inl (by assumption) | exact Or.inr (by assumption))), (show Pw g_a0__33 from (by first | assumption | omega | rfl | exact Or.inl (by assumption) | exact Or.inr (by assumption))), (show Dl dq g_a0__33 from (by first | assumption | omega | rfl | exact Or.inl (by assumption) | exact Or.inr (by assumption))), (show Pb 1 800 g_a20__1 from (by first | assumption | omega | rfl | exact Or.inl (by assumption) | exact Or.inr (by assumption))), (show Pb 40 39 ga21_91 from (by first | assumption | omega | rfl | exact Or.inl (by assumption) | exact Or.inr (by assumption)))⟩ [0, 1, 2, 3, 4] rfl (by decide) trivial (Nat.le_of_ble_eq_true rfl) (Nat.le_of_ble_eq_true rfl) dX12_narrow_163
          · have nc_31 := cv_nle (a := n__27) (b := k5_91) (by omega) (by omega) c_31
            refine lv_aload_n hx hb dX12_narrow_101 rfl (lv_at hl 2 rfl) ?_
            refine lv_iload_n hx hb dX12_narrow_102 rfl (lv_at hl 3 rfl) ?_
            refine lv_aload_n hx hb dX12_narrow_103 rfl (lv_at hl 2 rfl) ?_
            refine lv_iload_n hx hb dX12_narrow_104 rfl (lv_at hl 3 rfl) ?_
            refine lv_iload hx hb dX12_narrow_105 (lv_at hl 0 rfl) ?_
            refine cr_V (As := [.int (nI j_7), .int (nI k5_91)]) (rest := [.int (nI j_7), .ref m0]) hFX hKK (s2_X12_viewed l D κ m0 a0 a1 a2 u3 f4 a5 0 f7 f8 f9 f10 u11 u12 u13 a14 a15 a16 a17 f18 f19 a20 a21 v22_91 a23 a24 a25 u26 f27 a28 u29 w j_7 k5_91 h_a0 (by omega) (by omega)) 2 gV_X12_345 hdV_X12_viewed rfl rfl ⟨Nat.le_of_ble_eq_true rfl, Nat.le_of_ble_eq_true rfl⟩ rfl rfl (Nat.le_of_ble_eq_true rfl) dX12_narrow_107 ⟨Nat.le_of_ble_eq_true rfl, Nat.le_of_ble_eq_true rfl⟩ hl.1 hP 0 12 rfl rfl rfl (hP.sub [0, 1] rfl) (fun n__38 hp_39 => ?_)
            replace hp_39 : n__38 ≤ 39 ∧ n__38 = vwF w j_7 k5_91 := hp_39
            obtain ⟨h_40, h_41⟩ := hp_39
            refine W.eq (g2 := F0 m 110 ls [.int (nI n__38), .int (nI j_7), .ref m0]) rfl ?_
            refine lv_iload_n hx hb dX12_narrow_110 rfl (lv_at hl 4 rfl) ?_
            refine cr_S (As := [.int (nI j_7), .int (nI n__38), .int (nI c_10)]) (rest := [.ref m0]) hFX hKK (s_X12_cellAt l D κ j_7 n__38 c_10) 3 gS_X12_167 hdS_X12_cellAt rfl rfl ⟨Nat.le_of_ble_eq_true rfl, Nat.le_of_ble_eq_true rfl⟩ rfl rfl (Nat.le_of_ble_eq_true rfl) dX12_narrow_111 ⟨Nat.le_of_ble_eq_true rfl, Nat.le_of_ble_eq_true rfl⟩ hl.1 (hP.sub [] rfl) (fun _ hp_42 => ?_)
            refine W.eq (g2 := F0 m 114 ls [.int (nI (7123 * j_7 + 403 + 21 * (8 * n__38 + c_10))), .ref m0]) rfl ?_
            refine lv_iload_n hx hb dX12_narrow_114 rfl (lv_at hl 5 rfl) ?_
            refine lv_iload hx hb dX12_narrow_115 (lv_at hl 1 rfl) ?_
            refine cr_V (As := [.int (nI (7123 * j_7 + 403 + 21 * (8 * n__38 + c_10))), .int (nI j_20), .int (nI n__22)]) (rest := []) hFX hKK (s_X12_isSo l D κ m0 a0 a1 a2 u3 f4 a5 0 f7 f8 f9 f10 u11 u12 u13 a14 a15 a16 a17 f18 f19 a20 a21 v22_91 a23 a24 a25 u26 f27 a28 u29 w g_a20__1 (nI n__22) (7123 * j_7 + 403 + 21 * (8 * n__38 + c_10)) j_20 h_a0 h_3 (by omega) (h_a0 _ _ (mCELL (t := j_7) (i := (8 * n__38 + c_10)) (by omega) (by omega) (by omega))) (by omega) (by first | exact Or.inr (by assumption) | exact Or.inl (by omega))) 3 gV_X12_348 hdV_X12_isSo rfl rfl ⟨Nat.le_of_ble_eq_true rfl, Nat.le_of_ble_eq_true rfl⟩ rfl rfl (Nat.le_of_ble_eq_true rfl) dX12_narrow_117 ⟨Nat.le_of_ble_eq_true rfl, Nat.le_of_ble_eq_true rfl⟩ hl.1 hP 0 12 rfl rfl rfl (hP.sub [0, 1, 3] rfl) (fun r__43 hp_44 => ?_)
            replace hp_44 : ((r__43 = 1) ∨ (r__43 = 0)) := hp_44
            have ha_45 := hp_44
            clear hp_44
            rcases ha_45 with rfl | rfl
            · refine W.eq (g2 := F0 m 120 ls [.int 1]) rfl ?_
              refine lv_if_ne (tgt := 126) hx hb dX12_narrow_120 (by decide) (fun c_46 => ?_) (fun c_46 => absurd c_46 (by decide))
              refine lv_aload_n hx hb dX12_narrow_126 rfl (lv_at hl 2 rfl) ?_
              refine va_get (D := D) (ci := 12) (v := .ref a21) (C := RX12) (T := TX12) (N := 30) hx hb hts inlX12 hown hK hP 0 rfl rfl 21 (by decide) (hts _ mw_199) (fun _ h9 => h9) rfl dX12_narrow_127 ?_
              refine lv_aload_n hx hb dX12_narrow_130 rfl (lv_at hl 2 rfl) ?_
              refine va_get (D := D) (ci := 12) (v := .int (nI v22_91)) (C := RX12) (T := TX12) (N := 30) hx hb hts inlX12 hown hK hP 0 rfl rfl 22 (by decide) (hts _ mw_1029) (fun _ h9 => h9) rfl dX12_narrow_131 ?_
              refine lv_aload_n hx hb dX12_narrow_134 rfl (lv_at hl 2 rfl) ?_
              refine lv_iload_n hx hb dX12_narrow_135 rfl (lv_at hl 3 rfl) ?_
              refine lv_iload hx hb dX12_narrow_136 (lv_at hl 0 rfl) ?_
              refine cr_V (As := [.int (nI j_7), .int (nI k5_91)]) (rest := [.int (nI v22_91), .ref a21]) hFX hKK (s2_X12_viewed l D κ m0 a0 a1 a2 u3 f4 a5 0 f7 f8 f9 f10 u11 u12 u13 a14 a15 a16 a17 f18 f19 a20 a21 v22_91 a23 a24 a25 u26 f27 a28 u29 w j_7 k5_91 h_a0 (by omega) (by omega)) 2 gV_X12_345 hdV_X12_viewed rfl rfl ⟨Nat.le_of_ble_eq_true rfl, Nat.le_of_ble_eq_true rfl⟩ rfl rfl (Nat.le_of_ble_eq_true rfl) dX12_narrow_138 ⟨Nat.le_of_ble_eq_true rfl, Nat.le_of_ble_eq_true rfl⟩ hl.1 hP 0 12 rfl rfl rfl (hP.sub [0, 1] rfl) (fun n__47 hp_48 => ?_)
              replace hp_48 : n__47 ≤ 39 ∧ n__47 = vwF w j_7 k5_91 := hp_48
              obtain ⟨h_49, h_50⟩ := hp_48
              refine W.eq (g2 := F0 m 141 ls [.int (nI n__47), .int (nI v22_91), .ref a21]) rfl ?_
              refine va_iast hx hb hK hP hD hS 4 0 rfl rfl (i := nI v22_91) (x := nI n__47) (vp_in_nI (n := v22_91) (by omega) (by omega)) dX12_narrow_141 (fun H locs hP hD hS => ?_)
              rw [nI_clamp (by omega)] at hP hD
              have hP : va_P D vwCl [(m0, .inr (12, [.ref a0, .ref a1, .ref a2, .int (nI u3), .int f4, .ref a5, .int 0, .int f7, .int f8, .int f9, .int f10, .int (nI u11), .int (nI u12), .int (nI u13), .ref a14, .ref a15, .ref a16, .ref a17, .int f18, .int f19, .ref a20, .ref a21, .int (nI v22_91), .ref a23, .ref a24, .ref a25, .int (nI u26), .int f27, .ref a28, .int (nI u29)])), (a0, .inl (κ 0, 21375, .inl w)), (a5, .inl (κ 0, 800, .inl tp)), (a20, .inl (κ 0, 801, .inl g_a20__1)), (a21, .inl (κ 0, 40, .inl (upd ga21_91 v22_91 (nI n__47))))] H := hP
              have hD : va_D A [(m0, .inr (12, [.ref a0, .ref a1, .ref a2, .int (nI u3), .int f4, .ref a5, .int 0, .int f7, .int f8, .int f9, .int f10, .int (nI u11), .int (nI u12), .int (nI u13), .ref a14, .ref a15, .ref a16, .ref a17, .int f18, .int f19, .ref a20, .ref a21, .int (nI v22_91), .ref a23, .ref a24, .ref a25, .int (nI u26), .int f27, .ref a28, .int (nI u29)])), (a0, .inl (κ 0, 21375, .inl w)), (a5, .inl (κ 0, 800, .inl tp)), (a20, .inl (κ 0, 801, .inl g_a20__1)), (a21, .inl (κ 0, 40, .inl (upd ga21_91 v22_91 (nI n__47))))] := hD
              have hf_52 : Pb 40 39 (upd ga21_91 v22_91 (nI n__47)) := (Pb_upd hg91_0 (fun _ => ⟨n__47, by omega, rfl⟩))
              generalize upd ga21_91 v22_91 (nI n__47) = g_51 at hP hD hf_52
              refine lv_aload_n hx hb dX12_narrow_142 rfl (lv_at hl 2 rfl) ?_
              refine lv_dup hx hb dX12_narrow_143 rfl ?_
              refine va_get (D := D) (ci := 12) (v := .int (nI v22_91)) (C := RX12) (T := TX12) (N := 30) hx hb hts inlX12 hown hK hP 0 rfl rfl 22 (by decide) (hts _ mw_1029) (fun _ h9 => h9) rfl dX12_narrow_144 ?_
              refine lv_iconst (v := 1) hx hb dX12_narrow_147 (by decide) ?_
              refine lv_iadd hx hb dX12_narrow_148 ?_
              refine ki (v := (nI (v22_91 + 1))) (nI_add v22_91 1) ?_
              refine va_put (D := D) (ci := 12) (v := .int (nI (v22_91 + 1))) (ty := tyX12 22) (C := RX12) (T := TX12) (N := 30) hx hb hts inlX12 tyX12 tyX12_ok nmX12 hown hK hP hD hS 0 rfl rfl 22 (by decide) (hts _ mw_1029) (fun _ h9 => h9) rfl (tyX12_ok 22 (by decide)) rfl rfl (Nat.le_of_ble_eq_true rfl) dX12_narrow_149 (fun H locs hP hD hS => ?_)
              have hP : va_P D vwCl [(m0, .inr (12, [.ref a0, .ref a1, .ref a2, .int (nI u3), .int f4, .ref a5, .int 0, .int f7, .int f8, .int f9, .int f10, .int (nI u11), .int (nI u12), .int (nI u13), .ref a14, .ref a15, .ref a16, .ref a17, .int f18, .int f19, .ref a20, .ref a21, .int (nI (v22_91 + 1)), .ref a23, .ref a24, .ref a25, .int (nI u26), .int f27, .ref a28, .int (nI u29)])), (a0, .inl (κ 0, 21375, .inl w)), (a5, .inl (κ 0, 800, .inl tp)), (a20, .inl (κ 0, 801, .inl g_a20__1)), (a21, .inl (κ 0, 40, .inl g_51))] H := hP
              have hD : va_D A [(m0, .inr (12, [.ref a0, .ref a1, .ref a2, .int (nI u3), .int f4, .ref a5, .int 0, .int f7, .int f8, .int f9, .int f10, .int (nI u11), .int (nI u12), .int (nI u13), .ref a14, .ref a15, .ref a16, .ref a17, .int f18, .int f19, .ref a20, .ref a21, .int (nI (v22_91 + 1)), .ref a23, .ref a24, .ref a25, .int (nI u26), .int f27, .ref a28, .int (nI u29)])), (a0, .inl (κ 0, 21375, .inl w)), (a5, .inl (κ 0, 800, .inl tp)), (a20, .inl (κ 0, 801, .inl g_a20__1)), (a21, .inl (κ 0, 40, .inl g_51))] := hD
              refine lv_iinc (v := (nI (k5_91 + 1))) (lv' := [(5, .int (nI (k5_91 + 1))), (4, .int (nI n__22)), (0, .ref m0), (1, .int (nI j_7)), (2, .int (nI c_10)), (3, .int (nI j_20))]) hx hb dX12_narrow_152 hl (k := 0) rfl (nI_i k5_91) (by decide) rfl (fun ls hl => ?_)
              refine lv_goto (tgt := 91) hx hb dX12_narrow_155 (by decide) ?_
              exact ih91 _ _ _ _ (by omega) ⟨(k5_91 + 1), (v22_91 + 1), g_51, (by omega), (by omega), hf_52, rfl, hP, hD, hS, lv_sub hl [0, 1, 2, 3, 4, 5] rfl⟩
            · refine W.eq (g2 := F0 m 120 ls [.int 0]) rfl ?_
              refine lv_if_ne (tgt := 126) hx hb dX12_narrow_120 (by decide) (fun c_53 => absurd c_53 (by decide)) (fun c_53 => ?_)
              refine lv_goto (tgt := 152) hx hb dX12_narrow_123 (by decide) ?_
              refine lv_iinc (v := (nI (k5_91 + 1))) (lv' := [(5, .int (nI (k5_91 + 1))), (4, .int (nI n__22)), (0, .ref m0), (1, .int (nI j_7)), (2, .int (nI c_10)), (3, .int (nI j_20))]) hx hb dX12_narrow_152 hl (k := 0) rfl (nI_i k5_91) (by decide) rfl (fun ls hl => ?_)
              refine lv_goto (tgt := 91) hx hb dX12_narrow_155 (by decide) ?_
              exact ih91 _ _ _ _ (by omega) ⟨(k5_91 + 1), v22_91, ga21_91, (by omega), (by omega), hg91_0, rfl, hP, hD, hS, lv_sub hl [0, 1, 2, 3, 4, 5] rfl⟩
        · have nc_26 := cv_nle (a := 6) (b := j_20) (by omega) (by omega) c_26
          refine lv_iload hx hb dX12_narrow_65 (lv_at hl 0 rfl) ?_
          refine lv_aload_n hx hb dX12_narrow_67 rfl (lv_at hl 1 rfl) ?_
          refine va_get (D := D) (ci := 12) (v := .ref a20) (C := RX12) (T := TX12) (N := 30) hx hb hts inlX12 hown hK hP 0 rfl rfl 20 (by decide) (hts _ mw_198) (fun _ h9 => h9) rfl dX12_narrow_68 ?_
          refine lv_iconst (v := 0) hx hb dX12_narrow_71 (by decide) ?_
          refine cr_S (As := [.ref a20, .int 0]) (rest := [.int (nI n__22)]) hFX hKK (s_X12_typeOf l D κ a20 801 g_a20__1 0 (by first | assumption | omega) (by omega) (ex_le (by omega) (h_3 0 (by omega)))) 2 gS_X12_171 hdS_X12_typeOf rfl rfl ⟨Nat.le_of_ble_eq_true rfl, Nat.le_of_ble_eq_true rfl⟩ rfl rfl (Nat.le_of_ble_eq_true rfl) dX12_narrow_72 ⟨Nat.le_of_ble_eq_true rfl, Nat.le_of_ble_eq_true rfl⟩ hl.1 (hP.sub [3] rfl) (fun n__54 hp_55 => ?_)
          replace hp_55 : n__54 ≤ 5 := hp_55
          have h_56 := hp_55
          clear hp_55
          refine W.eq (g2 := F0 m 75 ls [.int (nI n__54), .int (nI n__22)]) rfl ?_
          refine cr_S (As := [.int (nI n__22), .int (nI n__54)]) (rest := []) hFX hKK (s_X12_doesHold l D κ n__22 n__54 (by omega) (by omega)) 2 gS_X12_188 hdS_X12_doesHold rfl rfl ⟨Nat.le_of_ble_eq_true rfl, Nat.le_of_ble_eq_true rfl⟩ rfl rfl (Nat.le_of_ble_eq_true rfl) dX12_narrow_75 ⟨Nat.le_of_ble_eq_true rfl, Nat.le_of_ble_eq_true rfl⟩ hl.1 (hP.sub [] rfl) (fun r__57 hp_58 => ?_)
          replace hp_58 : ((r__57 = 1) ∨ (r__57 = 0)) := hp_58
          have ha_59 := hp_58
          clear hp_58
          rcases ha_59 with rfl | rfl
          · refine W.eq (g2 := F0 m 78 ls [.int 1]) rfl ?_
            refine lv_if_ne (tgt := 83) hx hb dX12_narrow_78 (by decide) (fun c_60 => ?_) (fun c_60 => absurd c_60 (by decide))
            refine lv_aload_n hx hb dX12_narrow_83 rfl (lv_at hl 1 rfl) ?_
            refine lv_iconst (v := 0) hx hb dX12_narrow_84 (by decide) ?_
            refine va_put (D := D) (ci := 12) (v := .int 0) (ty := tyX12 22) (C := RX12) (T := TX12) (N := 30) hx hb hts inlX12 tyX12 tyX12_ok nmX12 hown hK hP hD hS 0 rfl rfl 22 (by decide) (hts _ mw_1029) (fun _ h9 => h9) rfl (tyX12_ok 22 (by decide)) rfl rfl (Nat.le_of_ble_eq_true rfl) dX12_narrow_85 (fun H locs hP hD hS => ?_)
            have hP : va_P D vwCl [(m0, .inr (12, [.ref a0, .ref a1, .ref a2, .int (nI u3), .int f4, .ref a5, .int 0, .int f7, .int f8, .int f9, .int f10, .int (nI u11), .int (nI u12), .int (nI u13), .ref a14, .ref a15, .ref a16, .ref a17, .int f18, .int f19, .ref a20, .ref a21, .int 0, .ref a23, .ref a24, .ref a25, .int (nI u26), .int f27, .ref a28, .int (nI u29)])), (a0, .inl (κ 0, 21375, .inl w)), (a5, .inl (κ 0, 800, .inl tp)), (a20, .inl (κ 0, 801, .inl g_a20__1)), (a21, .inl (κ 0, 40, .inl nx))] H := hP
            have hD : va_D A [(m0, .inr (12, [.ref a0, .ref a1, .ref a2, .int (nI u3), .int f4, .ref a5, .int 0, .int f7, .int f8, .int f9, .int f10, .int (nI u11), .int (nI u12), .int (nI u13), .ref a14, .ref a15, .ref a16, .ref a17, .int f18, .int f19, .ref a20, .ref a21, .int 0, .ref a23, .ref a24, .ref a25, .int (nI u26), .int f27, .ref a28, .int (nI u29)])), (a0, .inl (κ 0, 21375, .inl w)), (a5, .inl (κ 0, 800, .inl tp)), (a20, .inl (κ 0, 801, .inl g_a20__1)), (a21, .inl (κ 0, 40, .inl nx))] := hD
            refine lv_iconst (v := 0) hx hb dX12_narrow_88 (by decide) ?_
            refine lv_istore (lv' := [(5, .int 0), (4, .int (nI n__22)), (0, .ref m0), (1, .int (nI j_7)), (2, .int (nI c_10)), (3, .int (nI j_20))]) hx hb dX12_narrow_89 hl (by decide) rfl (fun ls hl => ?_)
            refine loop_dn (fun k9 H locs ls => ∃ (k5_91 : Nat), ∃ (v22_91 : Nat), ∃ (ga21_91 : Nat → Int32), (v22_91 ≤ k5_91) ∧ (k5_91 ≤ 40) ∧ Pb 40 39 ga21_91 ∧ 41 - k5_91 = k9 ∧ va_P D vwCl [(m0, .inr (12, [.ref a0, .ref a1, .ref a2, .int (nI u3), .int f4, .ref a5, .int 0, .int f7, .int f8, .int f9, .int f10, .int (nI u11), .int (nI u12), .int (nI u13), .ref a14, .ref a15, .ref a16, .ref a17, .int f18, .int f19, .ref a20, .ref a21, .int (nI v22_91), .ref a23, .ref a24, .ref a25, .int (nI u26), .int f27, .ref a28, .int (nI u29)])), (a0, .inl (κ 0, 21375, .inl w)), (a5, .inl (κ 0, 800, .inl tp)), (a20, .inl (κ 0, 801, .inl g_a20__1)), (a21, .inl (κ 0, 40, .inl ga21_91))] H ∧ va_D A [(m0, .inr (12, [.ref a0, .ref a1, .ref a2, .int (nI u3), .int f4, .ref a5, .int 0, .int f7, .int f8, .int f9, .int f10, .int (nI u11), .int (nI u12), .int (nI u13), .ref a14, .ref a15, .ref a16, .ref a17, .int f18, .int f19, .ref a20, .ref a21, .int (nI v22_91), .ref a23, .ref a24, .ref a25, .int (nI u26), .int f27, .ref a28, .int (nI u29)])), (a0, .inl (κ 0, 21375, .inl w)), (a5, .inl (κ 0, 800, .inl tp)), (a20, .inl (κ 0, 801, .inl g_a20__1)), (a21, .inl (κ 0, 40, .inl ga21_91))] ∧ va_S A s.heap H locs ∧ lv_has ls 6 [(5, .int (nI k5_91)), (4, .int (nI n__22)), (0, .ref m0), (1, .int (nI j_7)), (2, .int (nI c_10)), (3, .int (nI j_20))]) (fun k9 H locs ls hI91 ih91 => ?_) (41 - 0) _ _ _ ⟨0, 0, nx, (by omega), (by omega), h_a21, rfl, hP, hD, hS, lv_sub hl [0, 1, 2, 3, 4, 5] rfl⟩
            obtain ⟨k5_91, v22_91, ga21_91, hl91_0, hl91_1, hg91_0, hm91, hP, hD, hS, hl⟩ := hI91
            refine lv_iload hx hb dX12_narrow_91 (lv_at hl 0 rfl) ?_
            refine lv_aload_n hx hb dX12_narrow_93 rfl (lv_at hl 2 rfl) ?_
            refine lv_iload_n hx hb dX12_narrow_94 rfl (lv_at hl 3 rfl) ?_
            refine cr_V (As := [.int (nI j_7)]) (rest := [.int (nI k5_91)]) hFX hKK (s2_X12_viewMany l D κ m0 a0 a1 a2 u3 f4 a5 0 f7 f8 f9 f10 u11 u12 u13 a14 a15 a16 a17 f18 f19 a20 a21 v22_91 a23 a24 a25 u26 f27 a28 u29 w j_7 h_a0 (by omega)) 1 gV_X12_341 hdV_X12_viewMany rfl rfl ⟨Nat.le_of_ble_eq_true rfl, Nat.le_of_ble_eq_true rfl⟩ rfl rfl (Nat.le_of_ble_eq_true rfl) dX12_narrow_95 ⟨Nat.le_of_ble_eq_true rfl, Nat.le_of_ble_eq_true rfl⟩ hl.1 hP 0 12 rfl rfl rfl (hP.sub [0, 1] rfl) (fun n__61 hp_62 => ?_)
            replace hp_62 : n__61 ≤ 40 ∧ n__61 = vmF w j_7 := hp_62
            obtain ⟨h_63, h_64⟩ := hp_62
            refine W.eq (g2 := F0 m 98 ls [.int (nI n__61), .int (nI k5_91)]) rfl ?_
            refine lv_icmp_ge (tgt := 158) hx hb dX12_narrow_98 (by decide) (fun c_65 => ?_) (fun c_65 => ?_)
            · have nc_65 := cv_le (a := n__61) (b := k5_91) (by omega) (by omega) c_65
              refine lv_aload_n hx hb dX12_narrow_158 rfl (lv_at hl 2 rfl) ?_
              refine lv_iload_n hx hb dX12_narrow_159 rfl (lv_at hl 3 rfl) ?_
              refine ct_V (wr := [(a5, .inl (κ 0, 800, .inl tp)), (a20, .inl (κ 0, 801, .inl g_a20__1))]) (As := [.int (nI j_7)]) (rest := []) hFX hKK hP hD hS hA (d_X12_lays l D κ m0 a0 a1 a2 u3 f4 a5 0 f7 f8 f9 f10 u11 u12 u13 a14 a15 a16 a17 f18 f19 a20 a21 v22_91 a23 a24 a25 u26 f27 a28 u29 w ga21_91 j_7 dq (by omega) h_a0 hg91_0 h_dl (by omega) (by assumption)) 1 gV_X12_351 hdV_X12_lays ⟨Nat.le_of_ble_eq_true rfl, Nat.le_of_ble_eq_true rfl⟩ rfl rfl (Nat.le_of_ble_eq_true rfl) dX12_narrow_160 ⟨Nat.le_of_ble_eq_true rfl, Nat.le_of_ble_eq_true rfl⟩ hl.1 [0, 1, 4] [2, 3] rfl rfl (by decide) (by decide) (by decide) 0 12 rfl rfl rfl trivial (fun u_68 H locs hp_69 _ hP hD hS hz_ hk_ => ?_)
              obtain ⟨r__66, g_a0__67⟩ := u_68
              replace hP : va_P D vwCl [(m0, .inr (12, [.ref a0, .ref a1, .ref a2, .int (nI u3), .int f4, .ref a5, .int (nI 0), .int f7, .int f8, .int f9, .int f10, .int (nI u11), .int (nI u12), .int (nI u13), .ref a14, .ref a15, .ref a16, .ref a17, .int f18, .int f19, .ref a20, .ref a21, .int (nI v22_91), .ref a23, .ref a24, .ref a25, .int (nI u26), .int f27, .ref a28, .int (nI u29)])), (a0, .inl (κ 0, 21375, .inl g_a0__67)), (a5, .inl (κ 0, 800, .inl tp)), (a20, .inl (κ 0, 801, .inl g_a20__1)), (a21, .inl (κ 0, 40, .inl ga21_91))] H := hP.sub [2, 3, 0, 1, 4] rfl
              replace hD : va_D A [(m0, .inr (12, [.ref a0, .ref a1, .ref a2, .int (nI u3), .int f4, .ref a5, .int (nI 0), .int f7, .int f8, .int f9, .int f10, .int (nI u11), .int (nI u12), .int (nI u13), .ref a14, .ref a15, .ref a16, .ref a17, .int f18, .int f19, .ref a20, .ref a21, .int (nI v22_91), .ref a23, .ref a24, .ref a25, .int (nI u26), .int f27, .ref a28, .int (nI u29)])), (a0, .inl (κ 0, 21375, .inl g_a0__67)), (a5, .inl (κ 0, 800, .inl tp)), (a20, .inl (κ 0, 801, .inl g_a20__1)), (a21, .inl (κ 0, 40, .inl ga21_91))] := hD.sub [2, 3, 0, 1, 4] (by decide) rfl
              replace hp_69 : Pw g_a0__67 ∧ Dl dq g_a0__67 := hp_69
              obtain ⟨h_70, h_71⟩ := hp_69
              refine W.eq (g2 := F0 m 163 ls [.int r__66]) rfl ?_
              exact ct_iret hx hb hr hlk rfl hS hP hD (r__66, v22_91, g_a0__67, g_a20__1, ga21_91) rfl ⟨(show v22_91 ≤ 40 from (by first | assumption | omega | rfl | exact Or.inl (by assumption) | exact Or.inr (by assumption))), (show Pw g_a0__67 from (by first | assumption | omega | rfl | exact Or.inl (by assumption) | exact Or.inr (by assumption))), (show Dl dq g_a0__67 from (by first | assumption | omega | rfl | exact Or.inl (by assumption) | exact Or.inr (by assumption))), (show Pb 1 800 g_a20__1 from (by first | assumption | omega | rfl | exact Or.inl (by assumption) | exact Or.inr (by assumption))), (show Pb 40 39 ga21_91 from (by first | assumption | omega | rfl | exact Or.inl (by assumption) | exact Or.inr (by assumption)))⟩ [0, 1, 2, 3, 4] rfl (by decide) trivial (Nat.le_of_ble_eq_true rfl) (Nat.le_of_ble_eq_true rfl) dX12_narrow_163
            · have nc_65 := cv_nle (a := n__61) (b := k5_91) (by omega) (by omega) c_65
              refine lv_aload_n hx hb dX12_narrow_101 rfl (lv_at hl 2 rfl) ?_
              refine lv_iload_n hx hb dX12_narrow_102 rfl (lv_at hl 3 rfl) ?_
              refine lv_aload_n hx hb dX12_narrow_103 rfl (lv_at hl 2 rfl) ?_
              refine lv_iload_n hx hb dX12_narrow_104 rfl (lv_at hl 3 rfl) ?_
              refine lv_iload hx hb dX12_narrow_105 (lv_at hl 0 rfl) ?_
              refine cr_V (As := [.int (nI j_7), .int (nI k5_91)]) (rest := [.int (nI j_7), .ref m0]) hFX hKK (s2_X12_viewed l D κ m0 a0 a1 a2 u3 f4 a5 0 f7 f8 f9 f10 u11 u12 u13 a14 a15 a16 a17 f18 f19 a20 a21 v22_91 a23 a24 a25 u26 f27 a28 u29 w j_7 k5_91 h_a0 (by omega) (by omega)) 2 gV_X12_345 hdV_X12_viewed rfl rfl ⟨Nat.le_of_ble_eq_true rfl, Nat.le_of_ble_eq_true rfl⟩ rfl rfl (Nat.le_of_ble_eq_true rfl) dX12_narrow_107 ⟨Nat.le_of_ble_eq_true rfl, Nat.le_of_ble_eq_true rfl⟩ hl.1 hP 0 12 rfl rfl rfl (hP.sub [0, 1] rfl) (fun n__72 hp_73 => ?_)
              replace hp_73 : n__72 ≤ 39 ∧ n__72 = vwF w j_7 k5_91 := hp_73
              obtain ⟨h_74, h_75⟩ := hp_73
              refine W.eq (g2 := F0 m 110 ls [.int (nI n__72), .int (nI j_7), .ref m0]) rfl ?_
              refine lv_iload_n hx hb dX12_narrow_110 rfl (lv_at hl 4 rfl) ?_
              refine cr_S (As := [.int (nI j_7), .int (nI n__72), .int (nI c_10)]) (rest := [.ref m0]) hFX hKK (s_X12_cellAt l D κ j_7 n__72 c_10) 3 gS_X12_167 hdS_X12_cellAt rfl rfl ⟨Nat.le_of_ble_eq_true rfl, Nat.le_of_ble_eq_true rfl⟩ rfl rfl (Nat.le_of_ble_eq_true rfl) dX12_narrow_111 ⟨Nat.le_of_ble_eq_true rfl, Nat.le_of_ble_eq_true rfl⟩ hl.1 (hP.sub [] rfl) (fun _ hp_76 => ?_)
              refine W.eq (g2 := F0 m 114 ls [.int (nI (7123 * j_7 + 403 + 21 * (8 * n__72 + c_10))), .ref m0]) rfl ?_
              refine lv_iload_n hx hb dX12_narrow_114 rfl (lv_at hl 5 rfl) ?_
              refine lv_iload hx hb dX12_narrow_115 (lv_at hl 1 rfl) ?_
              refine cr_V (As := [.int (nI (7123 * j_7 + 403 + 21 * (8 * n__72 + c_10))), .int (nI j_20), .int (nI n__22)]) (rest := []) hFX hKK (s_X12_isSo l D κ m0 a0 a1 a2 u3 f4 a5 0 f7 f8 f9 f10 u11 u12 u13 a14 a15 a16 a17 f18 f19 a20 a21 v22_91 a23 a24 a25 u26 f27 a28 u29 w g_a20__1 (nI n__22) (7123 * j_7 + 403 + 21 * (8 * n__72 + c_10)) j_20 h_a0 h_3 (by omega) (h_a0 _ _ (mCELL (t := j_7) (i := (8 * n__72 + c_10)) (by omega) (by omega) (by omega))) (by omega) (by first | exact Or.inr (by assumption) | exact Or.inl (by omega))) 3 gV_X12_348 hdV_X12_isSo rfl rfl ⟨Nat.le_of_ble_eq_true rfl, Nat.le_of_ble_eq_true rfl⟩ rfl rfl (Nat.le_of_ble_eq_true rfl) dX12_narrow_117 ⟨Nat.le_of_ble_eq_true rfl, Nat.le_of_ble_eq_true rfl⟩ hl.1 hP 0 12 rfl rfl rfl (hP.sub [0, 1, 3] rfl) (fun r__77 hp_78 => ?_)
              replace hp_78 : ((r__77 = 1) ∨ (r__77 = 0)) := hp_78
              have ha_79 := hp_78
              clear hp_78
              rcases ha_79 with rfl | rfl
              · refine W.eq (g2 := F0 m 120 ls [.int 1]) rfl ?_
                refine lv_if_ne (tgt := 126) hx hb dX12_narrow_120 (by decide) (fun c_80 => ?_) (fun c_80 => absurd c_80 (by decide))
                refine lv_aload_n hx hb dX12_narrow_126 rfl (lv_at hl 2 rfl) ?_
                refine va_get (D := D) (ci := 12) (v := .ref a21) (C := RX12) (T := TX12) (N := 30) hx hb hts inlX12 hown hK hP 0 rfl rfl 21 (by decide) (hts _ mw_199) (fun _ h9 => h9) rfl dX12_narrow_127 ?_
                refine lv_aload_n hx hb dX12_narrow_130 rfl (lv_at hl 2 rfl) ?_
                refine va_get (D := D) (ci := 12) (v := .int (nI v22_91)) (C := RX12) (T := TX12) (N := 30) hx hb hts inlX12 hown hK hP 0 rfl rfl 22 (by decide) (hts _ mw_1029) (fun _ h9 => h9) rfl dX12_narrow_131 ?_
                refine lv_aload_n hx hb dX12_narrow_134 rfl (lv_at hl 2 rfl) ?_
                refine lv_iload_n hx hb dX12_narrow_135 rfl (lv_at hl 3 rfl) ?_
                refine lv_iload hx hb dX12_narrow_136 (lv_at hl 0 rfl) ?_
                refine cr_V (As := [.int (nI j_7), .int (nI k5_91)]) (rest := [.int (nI v22_91), .ref a21]) hFX hKK (s2_X12_viewed l D κ m0 a0 a1 a2 u3 f4 a5 0 f7 f8 f9 f10 u11 u12 u13 a14 a15 a16 a17 f18 f19 a20 a21 v22_91 a23 a24 a25 u26 f27 a28 u29 w j_7 k5_91 h_a0 (by omega) (by omega)) 2 gV_X12_345 hdV_X12_viewed rfl rfl ⟨Nat.le_of_ble_eq_true rfl, Nat.le_of_ble_eq_true rfl⟩ rfl rfl (Nat.le_of_ble_eq_true rfl) dX12_narrow_138 ⟨Nat.le_of_ble_eq_true rfl, Nat.le_of_ble_eq_true rfl⟩ hl.1 hP 0 12 rfl rfl rfl (hP.sub [0, 1] rfl) (fun n__81 hp_82 => ?_)
                replace hp_82 : n__81 ≤ 39 ∧ n__81 = vwF w j_7 k5_91 := hp_82
                obtain ⟨h_83, h_84⟩ := hp_82
                refine W.eq (g2 := F0 m 141 ls [.int (nI n__81), .int (nI v22_91), .ref a21]) rfl ?_
                refine va_iast hx hb hK hP hD hS 4 0 rfl rfl (i := nI v22_91) (x := nI n__81) (vp_in_nI (n := v22_91) (by omega) (by omega)) dX12_narrow_141 (fun H locs hP hD hS => ?_)
                rw [nI_clamp (by omega)] at hP hD
                have hP : va_P D vwCl [(m0, .inr (12, [.ref a0, .ref a1, .ref a2, .int (nI u3), .int f4, .ref a5, .int 0, .int f7, .int f8, .int f9, .int f10, .int (nI u11), .int (nI u12), .int (nI u13), .ref a14, .ref a15, .ref a16, .ref a17, .int f18, .int f19, .ref a20, .ref a21, .int (nI v22_91), .ref a23, .ref a24, .ref a25, .int (nI u26), .int f27, .ref a28, .int (nI u29)])), (a0, .inl (κ 0, 21375, .inl w)), (a5, .inl (κ 0, 800, .inl tp)), (a20, .inl (κ 0, 801, .inl g_a20__1)), (a21, .inl (κ 0, 40, .inl (upd ga21_91 v22_91 (nI n__81))))] H := hP
                have hD : va_D A [(m0, .inr (12, [.ref a0, .ref a1, .ref a2, .int (nI u3), .int f4, .ref a5, .int 0, .int f7, .int f8, .int f9, .int f10, .int (nI u11), .int (nI u12), .int (nI u13), .ref a14, .ref a15, .ref a16, .ref a17, .int f18, .int f19, .ref a20, .ref a21, .int (nI v22_91), .ref a23, .ref a24, .ref a25, .int (nI u26), .int f27, .ref a28, .int (nI u29)])), (a0, .inl (κ 0, 21375, .inl w)), (a5, .inl (κ 0, 800, .inl tp)), (a20, .inl (κ 0, 801, .inl g_a20__1)), (a21, .inl (κ 0, 40, .inl (upd ga21_91 v22_91 (nI n__81))))] := hD
                have hf_86 : Pb 40 39 (upd ga21_91 v22_91 (nI n__81)) := (Pb_upd hg91_0 (fun _ => ⟨n__81, by omega, rfl⟩))
                generalize upd ga21_91 v22_91 (nI n__81) = g_85 at hP hD hf_86
                refine lv_aload_n hx hb dX12_narrow_142 rfl (lv_at hl 2 rfl) ?_
                refine lv_dup hx hb dX12_narrow_143 rfl ?_
                refine va_get (D := D) (ci := 12) (v := .int (nI v22_91)) (C := RX12) (T := TX12) (N := 30) hx hb hts inlX12 hown hK hP 0 rfl rfl 22 (by decide) (hts _ mw_1029) (fun _ h9 => h9) rfl dX12_narrow_144 ?_
                refine lv_iconst (v := 1) hx hb dX12_narrow_147 (by decide) ?_
                refine lv_iadd hx hb dX12_narrow_148 ?_
                refine ki (v := (nI (v22_91 + 1))) (nI_add v22_91 1) ?_
                refine va_put (D := D) (ci := 12) (v := .int (nI (v22_91 + 1))) (ty := tyX12 22) (C := RX12) (T := TX12) (N := 30) hx hb hts inlX12 tyX12 tyX12_ok nmX12 hown hK hP hD hS 0 rfl rfl 22 (by decide) (hts _ mw_1029) (fun _ h9 => h9) rfl (tyX12_ok 22 (by decide)) rfl rfl (Nat.le_of_ble_eq_true rfl) dX12_narrow_149 (fun H locs hP hD hS => ?_)
                have hP : va_P D vwCl [(m0, .inr (12, [.ref a0, .ref a1, .ref a2, .int (nI u3), .int f4, .ref a5, .int 0, .int f7, .int f8, .int f9, .int f10, .int (nI u11), .int (nI u12), .int (nI u13), .ref a14, .ref a15, .ref a16, .ref a17, .int f18, .int f19, .ref a20, .ref a21, .int (nI (v22_91 + 1)), .ref a23, .ref a24, .ref a25, .int (nI u26), .int f27, .ref a28, .int (nI u29)])), (a0, .inl (κ 0, 21375, .inl w)), (a5, .inl (κ 0, 800, .inl tp)), (a20, .inl (κ 0, 801, .inl g_a20__1)), (a21, .inl (κ 0, 40, .inl g_85))] H := hP
                have hD : va_D A [(m0, .inr (12, [.ref a0, .ref a1, .ref a2, .int (nI u3), .int f4, .ref a5, .int 0, .int f7, .int f8, .int f9, .int f10, .int (nI u11), .int (nI u12), .int (nI u13), .ref a14, .ref a15, .ref a16, .ref a17, .int f18, .int f19, .ref a20, .ref a21, .int (nI (v22_91 + 1)), .ref a23, .ref a24, .ref a25, .int (nI u26), .int f27, .ref a28, .int (nI u29)])), (a0, .inl (κ 0, 21375, .inl w)), (a5, .inl (κ 0, 800, .inl tp)), (a20, .inl (κ 0, 801, .inl g_a20__1)), (a21, .inl (κ 0, 40, .inl g_85))] := hD
                refine lv_iinc (v := (nI (k5_91 + 1))) (lv' := [(5, .int (nI (k5_91 + 1))), (4, .int (nI n__22)), (0, .ref m0), (1, .int (nI j_7)), (2, .int (nI c_10)), (3, .int (nI j_20))]) hx hb dX12_narrow_152 hl (k := 0) rfl (nI_i k5_91) (by decide) rfl (fun ls hl => ?_)
                refine lv_goto (tgt := 91) hx hb dX12_narrow_155 (by decide) ?_
                exact ih91 _ _ _ _ (by omega) ⟨(k5_91 + 1), (v22_91 + 1), g_85, (by omega), (by omega), hf_86, rfl, hP, hD, hS, lv_sub hl [0, 1, 2, 3, 4, 5] rfl⟩
              · refine W.eq (g2 := F0 m 120 ls [.int 0]) rfl ?_
                refine lv_if_ne (tgt := 126) hx hb dX12_narrow_120 (by decide) (fun c_87 => absurd c_87 (by decide)) (fun c_87 => ?_)
                refine lv_goto (tgt := 152) hx hb dX12_narrow_123 (by decide) ?_
                refine lv_iinc (v := (nI (k5_91 + 1))) (lv' := [(5, .int (nI (k5_91 + 1))), (4, .int (nI n__22)), (0, .ref m0), (1, .int (nI j_7)), (2, .int (nI c_10)), (3, .int (nI j_20))]) hx hb dX12_narrow_152 hl (k := 0) rfl (nI_i k5_91) (by decide) rfl (fun ls hl => ?_)
                refine lv_goto (tgt := 91) hx hb dX12_narrow_155 (by decide) ?_
                exact ih91 _ _ _ _ (by omega) ⟨(k5_91 + 1), v22_91, ga21_91, (by omega), (by omega), hg91_0, rfl, hP, hD, hS, lv_sub hl [0, 1, 2, 3, 4, 5] rfl⟩
          · refine W.eq (g2 := F0 m 78 ls [.int 0]) rfl ?_
            refine lv_if_ne (tgt := 83) hx hb dX12_narrow_78 (by decide) (fun c_88 => absurd c_88 (by decide)) (fun c_88 => ?_)
            refine lv_iconst (v := (-1)) hx hb dX12_narrow_81 (by decide) ?_
            exact ct_iret hx hb hr hlk rfl hS hP hD ((-1), u22, w, g_a20__1, nx) rfl ⟨(show u22 ≤ 40 from (by first | assumption | omega | rfl | exact Or.inl (by assumption) | exact Or.inr (by assumption))), (show Pw w from (by first | assumption | omega | rfl | exact Or.inl (by assumption) | exact Or.inr (by assumption))), (show Dl dq w from (by first | assumption | omega | rfl | exact Or.inl (by assumption) | exact Or.inr (by assumption))), (show Pb 1 800 g_a20__1 from (by first | assumption | omega | rfl | exact Or.inl (by assumption) | exact Or.inr (by assumption))), (show Pb 40 39 nx from (by first | assumption | omega | rfl | exact Or.inl (by assumption) | exact Or.inr (by assumption)))⟩ [0, 1, 2, 3, 4] rfl (by decide) trivial (Nat.le_of_ble_eq_true rfl) (Nat.le_of_ble_eq_true rfl) dX12_narrow_82
      · have nc_25 := cv_nle (a := 7) (b := j_20) (by omega) (by omega) c_25
        refine lv_aload_n hx hb dX12_narrow_41 rfl (lv_at hl 1 rfl) ?_
        refine cr_V (As := []) (rest := []) hFX hKK (s_X12_isCell l D κ m0 a0 a1 a2 u3 f4 a5 0 f7 f8 f9 f10 u11 u12 u13 a14 a15 a16 a17 f18 f19 a20 a21 u22 a23 a24 a25 u26 f27 a28 u29 g_a20__1 h_3) 0 gV_X12_315 hdV_X12_isCell rfl rfl ⟨Nat.le_of_ble_eq_true rfl, Nat.le_of_ble_eq_true rfl⟩ rfl rfl (Nat.le_of_ble_eq_true rfl) dX12_narrow_42 ⟨Nat.le_of_ble_eq_true rfl, Nat.le_of_ble_eq_true rfl⟩ hl.1 hP 0 12 rfl rfl rfl (hP.sub [0, 3] rfl) (fun r__89 hp_90 => ?_)
        replace hp_90 : ((r__89 = 1 ∧ (∃ n9 : Nat, n9 ≤ 20 ∧ g_a20__1 0 = nI n9)) ∨ (r__89 = 0)) := hp_90
        have ha_91 := hp_90
        clear hp_90
        rcases ha_91 with ⟨rfl, a_92⟩ | rfl
        · refine W.eq (g2 := F0 m 45 ls [.int 1]) rfl ?_
          refine lv_if_eq (tgt := 57) hx hb dX12_narrow_45 (by decide) (fun c_93 => absurd c_93 (by decide)) (fun c_93 => ?_)
          refine lv_aload_n hx hb dX12_narrow_48 rfl (lv_at hl 1 rfl) ?_
          refine va_get (D := D) (ci := 12) (v := .ref a20) (C := RX12) (T := TX12) (N := 30) hx hb hts inlX12 hown hK hP 0 rfl rfl 20 (by decide) (hts _ mw_198) (fun _ h9 => h9) rfl dX12_narrow_49 ?_
          refine lv_iconst (v := 0) hx hb dX12_narrow_52 (by decide) ?_
          refine va_iald hx hb hK hP 3 0 rfl rfl (i := 0) (vp_k (by decide)) dX12_narrow_53 ?_
          obtain ⟨n_94, hn_94, en_94⟩ : ∃ n9 : Nat, n9 ≤ 20 ∧ g_a20__1 0 = nI n9 := id (a_92)
          refine kv (v := .int (nI n_94)) (congrArg Value.int en_94) ?_
          refine lv_if_ne (tgt := 59) hx hb dX12_narrow_54 (by decide) (fun c_95 => ?_) (fun c_95 => ?_)
          · have nc_95 := cv_ne (a := n_94) (b := 0) (by omega) (by omega) c_95
            refine lv_iload_n hx hb dX12_narrow_59 rfl (lv_at hl 4 rfl) ?_
            refine lv_bipush (v := 6) hx hb dX12_narrow_60 (by decide) ?_
            refine lv_icmp_ge (tgt := 83) hx hb dX12_narrow_62 (by decide) (fun c_96 => ?_) (fun c_96 => ?_)
            · have nc_96 := cv_le (a := 6) (b := j_20) (by omega) (by omega) c_96
              refine lv_aload_n hx hb dX12_narrow_83 rfl (lv_at hl 1 rfl) ?_
              refine lv_iconst (v := 0) hx hb dX12_narrow_84 (by decide) ?_
              refine va_put (D := D) (ci := 12) (v := .int 0) (ty := tyX12 22) (C := RX12) (T := TX12) (N := 30) hx hb hts inlX12 tyX12 tyX12_ok nmX12 hown hK hP hD hS 0 rfl rfl 22 (by decide) (hts _ mw_1029) (fun _ h9 => h9) rfl (tyX12_ok 22 (by decide)) rfl rfl (Nat.le_of_ble_eq_true rfl) dX12_narrow_85 (fun H locs hP hD hS => ?_)
              have hP : va_P D vwCl [(m0, .inr (12, [.ref a0, .ref a1, .ref a2, .int (nI u3), .int f4, .ref a5, .int 0, .int f7, .int f8, .int f9, .int f10, .int (nI u11), .int (nI u12), .int (nI u13), .ref a14, .ref a15, .ref a16, .ref a17, .int f18, .int f19, .ref a20, .ref a21, .int 0, .ref a23, .ref a24, .ref a25, .int (nI u26), .int f27, .ref a28, .int (nI u29)])), (a0, .inl (κ 0, 21375, .inl w)), (a5, .inl (κ 0, 800, .inl tp)), (a20, .inl (κ 0, 801, .inl g_a20__1)), (a21, .inl (κ 0, 40, .inl nx))] H := hP
              have hD : va_D A [(m0, .inr (12, [.ref a0, .ref a1, .ref a2, .int (nI u3), .int f4, .ref a5, .int 0, .int f7, .int f8, .int f9, .int f10, .int (nI u11), .int (nI u12), .int (nI u13), .ref a14, .ref a15, .ref a16, .ref a17, .int f18, .int f19, .ref a20, .ref a21, .int 0, .ref a23, .ref a24, .ref a25, .int (nI u26), .int f27, .ref a28, .int (nI u29)])), (a0, .inl (κ 0, 21375, .inl w)), (a5, .inl (κ 0, 800, .inl tp)), (a20, .inl (κ 0, 801, .inl g_a20__1)), (a21, .inl (κ 0, 40, .inl nx))] := hD
              refine lv_iconst (v := 0) hx hb dX12_narrow_88 (by decide) ?_
              refine lv_istore (lv' := [(5, .int 0), (4, .int (nI n__22)), (0, .ref m0), (1, .int (nI j_7)), (2, .int (nI c_10)), (3, .int (nI j_20))]) hx hb dX12_narrow_89 hl (by decide) rfl (fun ls hl => ?_)
              refine loop_dn (fun k9 H locs ls => ∃ (k5_91 : Nat), ∃ (v22_91 : Nat), ∃ (ga21_91 : Nat → Int32), (v22_91 ≤ k5_91) ∧ (k5_91 ≤ 40) ∧ Pb 40 39 ga21_91 ∧ 41 - k5_91 = k9 ∧ va_P D vwCl [(m0, .inr (12, [.ref a0, .ref a1, .ref a2, .int (nI u3), .int f4, .ref a5, .int 0, .int f7, .int f8, .int f9, .int f10, .int (nI u11), .int (nI u12), .int (nI u13), .ref a14, .ref a15, .ref a16, .ref a17, .int f18, .int f19, .ref a20, .ref a21, .int (nI v22_91), .ref a23, .ref a24, .ref a25, .int (nI u26), .int f27, .ref a28, .int (nI u29)])), (a0, .inl (κ 0, 21375, .inl w)), (a5, .inl (κ 0, 800, .inl tp)), (a20, .inl (κ 0, 801, .inl g_a20__1)), (a21, .inl (κ 0, 40, .inl ga21_91))] H ∧ va_D A [(m0, .inr (12, [.ref a0, .ref a1, .ref a2, .int (nI u3), .int f4, .ref a5, .int 0, .int f7, .int f8, .int f9, .int f10, .int (nI u11), .int (nI u12), .int (nI u13), .ref a14, .ref a15, .ref a16, .ref a17, .int f18, .int f19, .ref a20, .ref a21, .int (nI v22_91), .ref a23, .ref a24, .ref a25, .int (nI u26), .int f27, .ref a28, .int (nI u29)])), (a0, .inl (κ 0, 21375, .inl w)), (a5, .inl (κ 0, 800, .inl tp)), (a20, .inl (κ 0, 801, .inl g_a20__1)), (a21, .inl (κ 0, 40, .inl ga21_91))] ∧ va_S A s.heap H locs ∧ lv_has ls 6 [(5, .int (nI k5_91)), (4, .int (nI n__22)), (0, .ref m0), (1, .int (nI j_7)), (2, .int (nI c_10)), (3, .int (nI j_20))]) (fun k9 H locs ls hI91 ih91 => ?_) (41 - 0) _ _ _ ⟨0, 0, nx, (by omega), (by omega), h_a21, rfl, hP, hD, hS, lv_sub hl [0, 1, 2, 3, 4, 5] rfl⟩
              obtain ⟨k5_91, v22_91, ga21_91, hl91_0, hl91_1, hg91_0, hm91, hP, hD, hS, hl⟩ := hI91
              refine lv_iload hx hb dX12_narrow_91 (lv_at hl 0 rfl) ?_
              refine lv_aload_n hx hb dX12_narrow_93 rfl (lv_at hl 2 rfl) ?_
              refine lv_iload_n hx hb dX12_narrow_94 rfl (lv_at hl 3 rfl) ?_
              refine cr_V (As := [.int (nI j_7)]) (rest := [.int (nI k5_91)]) hFX hKK (s2_X12_viewMany l D κ m0 a0 a1 a2 u3 f4 a5 0 f7 f8 f9 f10 u11 u12 u13 a14 a15 a16 a17 f18 f19 a20 a21 v22_91 a23 a24 a25 u26 f27 a28 u29 w j_7 h_a0 (by omega)) 1 gV_X12_341 hdV_X12_viewMany rfl rfl ⟨Nat.le_of_ble_eq_true rfl, Nat.le_of_ble_eq_true rfl⟩ rfl rfl (Nat.le_of_ble_eq_true rfl) dX12_narrow_95 ⟨Nat.le_of_ble_eq_true rfl, Nat.le_of_ble_eq_true rfl⟩ hl.1 hP 0 12 rfl rfl rfl (hP.sub [0, 1] rfl) (fun n__97 hp_98 => ?_)
              replace hp_98 : n__97 ≤ 40 ∧ n__97 = vmF w j_7 := hp_98
              obtain ⟨h_99, h_100⟩ := hp_98
              refine W.eq (g2 := F0 m 98 ls [.int (nI n__97), .int (nI k5_91)]) rfl ?_
              refine lv_icmp_ge (tgt := 158) hx hb dX12_narrow_98 (by decide) (fun c_101 => ?_) (fun c_101 => ?_)
              · have nc_101 := cv_le (a := n__97) (b := k5_91) (by omega) (by omega) c_101
                refine lv_aload_n hx hb dX12_narrow_158 rfl (lv_at hl 2 rfl) ?_
                refine lv_iload_n hx hb dX12_narrow_159 rfl (lv_at hl 3 rfl) ?_
                refine ct_V (wr := [(a5, .inl (κ 0, 800, .inl tp)), (a20, .inl (κ 0, 801, .inl g_a20__1))]) (As := [.int (nI j_7)]) (rest := []) hFX hKK hP hD hS hA (d_X12_lays l D κ m0 a0 a1 a2 u3 f4 a5 0 f7 f8 f9 f10 u11 u12 u13 a14 a15 a16 a17 f18 f19 a20 a21 v22_91 a23 a24 a25 u26 f27 a28 u29 w ga21_91 j_7 dq (by omega) h_a0 hg91_0 h_dl (by omega) (by assumption)) 1 gV_X12_351 hdV_X12_lays ⟨Nat.le_of_ble_eq_true rfl, Nat.le_of_ble_eq_true rfl⟩ rfl rfl (Nat.le_of_ble_eq_true rfl) dX12_narrow_160 ⟨Nat.le_of_ble_eq_true rfl, Nat.le_of_ble_eq_true rfl⟩ hl.1 [0, 1, 4] [2, 3] rfl rfl (by decide) (by decide) (by decide) 0 12 rfl rfl rfl trivial (fun u_104 H locs hp_105 _ hP hD hS hz_ hk_ => ?_)
                obtain ⟨r__102, g_a0__103⟩ := u_104
                replace hP : va_P D vwCl [(m0, .inr (12, [.ref a0, .ref a1, .ref a2, .int (nI u3), .int f4, .ref a5, .int (nI 0), .int f7, .int f8, .int f9, .int f10, .int (nI u11), .int (nI u12), .int (nI u13), .ref a14, .ref a15, .ref a16, .ref a17, .int f18, .int f19, .ref a20, .ref a21, .int (nI v22_91), .ref a23, .ref a24, .ref a25, .int (nI u26), .int f27, .ref a28, .int (nI u29)])), (a0, .inl (κ 0, 21375, .inl g_a0__103)), (a5, .inl (κ 0, 800, .inl tp)), (a20, .inl (κ 0, 801, .inl g_a20__1)), (a21, .inl (κ 0, 40, .inl ga21_91))] H := hP.sub [2, 3, 0, 1, 4] rfl
                replace hD : va_D A [(m0, .inr (12, [.ref a0, .ref a1, .ref a2, .int (nI u3), .int f4, .ref a5, .int (nI 0), .int f7, .int f8, .int f9, .int f10, .int (nI u11), .int (nI u12), .int (nI u13), .ref a14, .ref a15, .ref a16, .ref a17, .int f18, .int f19, .ref a20, .ref a21, .int (nI v22_91), .ref a23, .ref a24, .ref a25, .int (nI u26), .int f27, .ref a28, .int (nI u29)])), (a0, .inl (κ 0, 21375, .inl g_a0__103)), (a5, .inl (κ 0, 800, .inl tp)), (a20, .inl (κ 0, 801, .inl g_a20__1)), (a21, .inl (κ 0, 40, .inl ga21_91))] := hD.sub [2, 3, 0, 1, 4] (by decide) rfl
                replace hp_105 : Pw g_a0__103 ∧ Dl dq g_a0__103 := hp_105
                obtain ⟨h_106, h_107⟩ := hp_105
                refine W.eq (g2 := F0 m 163 ls [.int r__102]) rfl ?_
                exact ct_iret hx hb hr hlk rfl hS hP hD (r__102, v22_91, g_a0__103, g_a20__1, ga21_91) rfl ⟨(show v22_91 ≤ 40 from (by first | assumption | omega | rfl | exact Or.inl (by assumption) | exact Or.inr (by assumption))), (show Pw g_a0__103 from (by first | assumption | omega | rfl | exact Or.inl (by assumption) | exact Or.inr (by assumption))), (show Dl dq g_a0__103 from (by first | assumption | omega | rfl | exact Or.inl (by assumption) | exact Or.inr (by assumption))), (show Pb 1 800 g_a20__1 from (by first | assumption | omega | rfl | exact Or.inl (by assumption) | exact Or.inr (by assumption))), (show Pb 40 39 ga21_91 from (by first | assumption | omega | rfl | exact Or.inl (by assumption) | exact Or.inr (by assumption)))⟩ [0, 1, 2, 3, 4] rfl (by decide) trivial (Nat.le_of_ble_eq_true rfl) (Nat.le_of_ble_eq_true rfl) dX12_narrow_163
              · have nc_101 := cv_nle (a := n__97) (b := k5_91) (by omega) (by omega) c_101
                refine lv_aload_n hx hb dX12_narrow_101 rfl (lv_at hl 2 rfl) ?_
                refine lv_iload_n hx hb dX12_narrow_102 rfl (lv_at hl 3 rfl) ?_
                refine lv_aload_n hx hb dX12_narrow_103 rfl (lv_at hl 2 rfl) ?_
                refine lv_iload_n hx hb dX12_narrow_104 rfl (lv_at hl 3 rfl) ?_
                refine lv_iload hx hb dX12_narrow_105 (lv_at hl 0 rfl) ?_
                refine cr_V (As := [.int (nI j_7), .int (nI k5_91)]) (rest := [.int (nI j_7), .ref m0]) hFX hKK (s2_X12_viewed l D κ m0 a0 a1 a2 u3 f4 a5 0 f7 f8 f9 f10 u11 u12 u13 a14 a15 a16 a17 f18 f19 a20 a21 v22_91 a23 a24 a25 u26 f27 a28 u29 w j_7 k5_91 h_a0 (by omega) (by omega)) 2 gV_X12_345 hdV_X12_viewed rfl rfl ⟨Nat.le_of_ble_eq_true rfl, Nat.le_of_ble_eq_true rfl⟩ rfl rfl (Nat.le_of_ble_eq_true rfl) dX12_narrow_107 ⟨Nat.le_of_ble_eq_true rfl, Nat.le_of_ble_eq_true rfl⟩ hl.1 hP 0 12 rfl rfl rfl (hP.sub [0, 1] rfl) (fun n__108 hp_109 => ?_)
                replace hp_109 : n__108 ≤ 39 ∧ n__108 = vwF w j_7 k5_91 := hp_109
                obtain ⟨h_110, h_111⟩ := hp_109
                refine W.eq (g2 := F0 m 110 ls [.int (nI n__108), .int (nI j_7), .ref m0]) rfl ?_
                refine lv_iload_n hx hb dX12_narrow_110 rfl (lv_at hl 4 rfl) ?_
                refine cr_S (As := [.int (nI j_7), .int (nI n__108), .int (nI c_10)]) (rest := [.ref m0]) hFX hKK (s_X12_cellAt l D κ j_7 n__108 c_10) 3 gS_X12_167 hdS_X12_cellAt rfl rfl ⟨Nat.le_of_ble_eq_true rfl, Nat.le_of_ble_eq_true rfl⟩ rfl rfl (Nat.le_of_ble_eq_true rfl) dX12_narrow_111 ⟨Nat.le_of_ble_eq_true rfl, Nat.le_of_ble_eq_true rfl⟩ hl.1 (hP.sub [] rfl) (fun _ hp_112 => ?_)
                refine W.eq (g2 := F0 m 114 ls [.int (nI (7123 * j_7 + 403 + 21 * (8 * n__108 + c_10))), .ref m0]) rfl ?_
                refine lv_iload_n hx hb dX12_narrow_114 rfl (lv_at hl 5 rfl) ?_
                refine lv_iload hx hb dX12_narrow_115 (lv_at hl 1 rfl) ?_
                refine cr_V (As := [.int (nI (7123 * j_7 + 403 + 21 * (8 * n__108 + c_10))), .int (nI j_20), .int (nI n__22)]) (rest := []) hFX hKK (s_X12_isSo l D κ m0 a0 a1 a2 u3 f4 a5 0 f7 f8 f9 f10 u11 u12 u13 a14 a15 a16 a17 f18 f19 a20 a21 v22_91 a23 a24 a25 u26 f27 a28 u29 w g_a20__1 (nI n__22) (7123 * j_7 + 403 + 21 * (8 * n__108 + c_10)) j_20 h_a0 h_3 (by omega) (h_a0 _ _ (mCELL (t := j_7) (i := (8 * n__108 + c_10)) (by omega) (by omega) (by omega))) (by omega) (by first | exact Or.inr (by assumption) | exact Or.inl (by omega))) 3 gV_X12_348 hdV_X12_isSo rfl rfl ⟨Nat.le_of_ble_eq_true rfl, Nat.le_of_ble_eq_true rfl⟩ rfl rfl (Nat.le_of_ble_eq_true rfl) dX12_narrow_117 ⟨Nat.le_of_ble_eq_true rfl, Nat.le_of_ble_eq_true rfl⟩ hl.1 hP 0 12 rfl rfl rfl (hP.sub [0, 1, 3] rfl) (fun r__113 hp_114 => ?_)
                replace hp_114 : ((r__113 = 1) ∨ (r__113 = 0)) := hp_114
                have ha_115 := hp_114
                clear hp_114
                rcases ha_115 with rfl | rfl
                · refine W.eq (g2 := F0 m 120 ls [.int 1]) rfl ?_
                  refine lv_if_ne (tgt := 126) hx hb dX12_narrow_120 (by decide) (fun c_116 => ?_) (fun c_116 => absurd c_116 (by decide))
                  refine lv_aload_n hx hb dX12_narrow_126 rfl (lv_at hl 2 rfl) ?_
                  refine va_get (D := D) (ci := 12) (v := .ref a21) (C := RX12) (T := TX12) (N := 30) hx hb hts inlX12 hown hK hP 0 rfl rfl 21 (by decide) (hts _ mw_199) (fun _ h9 => h9) rfl dX12_narrow_127 ?_
                  refine lv_aload_n hx hb dX12_narrow_130 rfl (lv_at hl 2 rfl) ?_
                  refine va_get (D := D) (ci := 12) (v := .int (nI v22_91)) (C := RX12) (T := TX12) (N := 30) hx hb hts inlX12 hown hK hP 0 rfl rfl 22 (by decide) (hts _ mw_1029) (fun _ h9 => h9) rfl dX12_narrow_131 ?_
                  refine lv_aload_n hx hb dX12_narrow_134 rfl (lv_at hl 2 rfl) ?_
                  refine lv_iload_n hx hb dX12_narrow_135 rfl (lv_at hl 3 rfl) ?_
                  refine lv_iload hx hb dX12_narrow_136 (lv_at hl 0 rfl) ?_
                  refine cr_V (As := [.int (nI j_7), .int (nI k5_91)]) (rest := [.int (nI v22_91), .ref a21]) hFX hKK (s2_X12_viewed l D κ m0 a0 a1 a2 u3 f4 a5 0 f7 f8 f9 f10 u11 u12 u13 a14 a15 a16 a17 f18 f19 a20 a21 v22_91 a23 a24 a25 u26 f27 a28 u29 w j_7 k5_91 h_a0 (by omega) (by omega)) 2 gV_X12_345 hdV_X12_viewed rfl rfl ⟨Nat.le_of_ble_eq_true rfl, Nat.le_of_ble_eq_true rfl⟩ rfl rfl (Nat.le_of_ble_eq_true rfl) dX12_narrow_138 ⟨Nat.le_of_ble_eq_true rfl, Nat.le_of_ble_eq_true rfl⟩ hl.1 hP 0 12 rfl rfl rfl (hP.sub [0, 1] rfl) (fun n__117 hp_118 => ?_)
                  replace hp_118 : n__117 ≤ 39 ∧ n__117 = vwF w j_7 k5_91 := hp_118
                  obtain ⟨h_119, h_120⟩ := hp_118
                  refine W.eq (g2 := F0 m 141 ls [.int (nI n__117), .int (nI v22_91), .ref a21]) rfl ?_
                  refine va_iast hx hb hK hP hD hS 4 0 rfl rfl (i := nI v22_91) (x := nI n__117) (vp_in_nI (n := v22_91) (by omega) (by omega)) dX12_narrow_141 (fun H locs hP hD hS => ?_)
                  rw [nI_clamp (by omega)] at hP hD
                  have hP : va_P D vwCl [(m0, .inr (12, [.ref a0, .ref a1, .ref a2, .int (nI u3), .int f4, .ref a5, .int 0, .int f7, .int f8, .int f9, .int f10, .int (nI u11), .int (nI u12), .int (nI u13), .ref a14, .ref a15, .ref a16, .ref a17, .int f18, .int f19, .ref a20, .ref a21, .int (nI v22_91), .ref a23, .ref a24, .ref a25, .int (nI u26), .int f27, .ref a28, .int (nI u29)])), (a0, .inl (κ 0, 21375, .inl w)), (a5, .inl (κ 0, 800, .inl tp)), (a20, .inl (κ 0, 801, .inl g_a20__1)), (a21, .inl (κ 0, 40, .inl (upd ga21_91 v22_91 (nI n__117))))] H := hP
                  have hD : va_D A [(m0, .inr (12, [.ref a0, .ref a1, .ref a2, .int (nI u3), .int f4, .ref a5, .int 0, .int f7, .int f8, .int f9, .int f10, .int (nI u11), .int (nI u12), .int (nI u13), .ref a14, .ref a15, .ref a16, .ref a17, .int f18, .int f19, .ref a20, .ref a21, .int (nI v22_91), .ref a23, .ref a24, .ref a25, .int (nI u26), .int f27, .ref a28, .int (nI u29)])), (a0, .inl (κ 0, 21375, .inl w)), (a5, .inl (κ 0, 800, .inl tp)), (a20, .inl (κ 0, 801, .inl g_a20__1)), (a21, .inl (κ 0, 40, .inl (upd ga21_91 v22_91 (nI n__117))))] := hD
                  have hf_122 : Pb 40 39 (upd ga21_91 v22_91 (nI n__117)) := (Pb_upd hg91_0 (fun _ => ⟨n__117, by omega, rfl⟩))
                  generalize upd ga21_91 v22_91 (nI n__117) = g_121 at hP hD hf_122
                  refine lv_aload_n hx hb dX12_narrow_142 rfl (lv_at hl 2 rfl) ?_
                  refine lv_dup hx hb dX12_narrow_143 rfl ?_
                  refine va_get (D := D) (ci := 12) (v := .int (nI v22_91)) (C := RX12) (T := TX12) (N := 30) hx hb hts inlX12 hown hK hP 0 rfl rfl 22 (by decide) (hts _ mw_1029) (fun _ h9 => h9) rfl dX12_narrow_144 ?_
                  refine lv_iconst (v := 1) hx hb dX12_narrow_147 (by decide) ?_
                  refine lv_iadd hx hb dX12_narrow_148 ?_
                  refine ki (v := (nI (v22_91 + 1))) (nI_add v22_91 1) ?_
                  refine va_put (D := D) (ci := 12) (v := .int (nI (v22_91 + 1))) (ty := tyX12 22) (C := RX12) (T := TX12) (N := 30) hx hb hts inlX12 tyX12 tyX12_ok nmX12 hown hK hP hD hS 0 rfl rfl 22 (by decide) (hts _ mw_1029) (fun _ h9 => h9) rfl (tyX12_ok 22 (by decide)) rfl rfl (Nat.le_of_ble_eq_true rfl) dX12_narrow_149 (fun H locs hP hD hS => ?_)
                  have hP : va_P D vwCl [(m0, .inr (12, [.ref a0, .ref a1, .ref a2, .int (nI u3), .int f4, .ref a5, .int 0, .int f7, .int f8, .int f9, .int f10, .int (nI u11), .int (nI u12), .int (nI u13), .ref a14, .ref a15, .ref a16, .ref a17, .int f18, .int f19, .ref a20, .ref a21, .int (nI (v22_91 + 1)), .ref a23, .ref a24, .ref a25, .int (nI u26), .int f27, .ref a28, .int (nI u29)])), (a0, .inl (κ 0, 21375, .inl w)), (a5, .inl (κ 0, 800, .inl tp)), (a20, .inl (κ 0, 801, .inl g_a20__1)), (a21, .inl (κ 0, 40, .inl g_121))] H := hP
                  have hD : va_D A [(m0, .inr (12, [.ref a0, .ref a1, .ref a2, .int (nI u3), .int f4, .ref a5, .int 0, .int f7, .int f8, .int f9, .int f10, .int (nI u11), .int (nI u12), .int (nI u13), .ref a14, .ref a15, .ref a16, .ref a17, .int f18, .int f19, .ref a20, .ref a21, .int (nI (v22_91 + 1)), .ref a23, .ref a24, .ref a25, .int (nI u26), .int f27, .ref a28, .int (nI u29)])), (a0, .inl (κ 0, 21375, .inl w)), (a5, .inl (κ 0, 800, .inl tp)), (a20, .inl (κ 0, 801, .inl g_a20__1)), (a21, .inl (κ 0, 40, .inl g_121))] := hD
                  refine lv_iinc (v := (nI (k5_91 + 1))) (lv' := [(5, .int (nI (k5_91 + 1))), (4, .int (nI n__22)), (0, .ref m0), (1, .int (nI j_7)), (2, .int (nI c_10)), (3, .int (nI j_20))]) hx hb dX12_narrow_152 hl (k := 0) rfl (nI_i k5_91) (by decide) rfl (fun ls hl => ?_)
                  refine lv_goto (tgt := 91) hx hb dX12_narrow_155 (by decide) ?_
                  exact ih91 _ _ _ _ (by omega) ⟨(k5_91 + 1), (v22_91 + 1), g_121, (by omega), (by omega), hf_122, rfl, hP, hD, hS, lv_sub hl [0, 1, 2, 3, 4, 5] rfl⟩
                · refine W.eq (g2 := F0 m 120 ls [.int 0]) rfl ?_
                  refine lv_if_ne (tgt := 126) hx hb dX12_narrow_120 (by decide) (fun c_123 => absurd c_123 (by decide)) (fun c_123 => ?_)
                  refine lv_goto (tgt := 152) hx hb dX12_narrow_123 (by decide) ?_
                  refine lv_iinc (v := (nI (k5_91 + 1))) (lv' := [(5, .int (nI (k5_91 + 1))), (4, .int (nI n__22)), (0, .ref m0), (1, .int (nI j_7)), (2, .int (nI c_10)), (3, .int (nI j_20))]) hx hb dX12_narrow_152 hl (k := 0) rfl (nI_i k5_91) (by decide) rfl (fun ls hl => ?_)
                  refine lv_goto (tgt := 91) hx hb dX12_narrow_155 (by decide) ?_
                  exact ih91 _ _ _ _ (by omega) ⟨(k5_91 + 1), v22_91, ga21_91, (by omega), (by omega), hg91_0, rfl, hP, hD, hS, lv_sub hl [0, 1, 2, 3, 4, 5] rfl⟩
            · have nc_96 := cv_nle (a := 6) (b := j_20) (by omega) (by omega) c_96
              refine lv_iload hx hb dX12_narrow_65 (lv_at hl 0 rfl) ?_
              refine lv_aload_n hx hb dX12_narrow_67 rfl (lv_at hl 1 rfl) ?_
              refine va_get (D := D) (ci := 12) (v := .ref a20) (C := RX12) (T := TX12) (N := 30) hx hb hts inlX12 hown hK hP 0 rfl rfl 20 (by decide) (hts _ mw_198) (fun _ h9 => h9) rfl dX12_narrow_68 ?_
              refine lv_iconst (v := 0) hx hb dX12_narrow_71 (by decide) ?_
              refine cr_S (As := [.ref a20, .int 0]) (rest := [.int (nI n__22)]) hFX hKK (s_X12_typeOf l D κ a20 801 g_a20__1 0 (by first | assumption | omega) (by omega) (by assumption)) 2 gS_X12_171 hdS_X12_typeOf rfl rfl ⟨Nat.le_of_ble_eq_true rfl, Nat.le_of_ble_eq_true rfl⟩ rfl rfl (Nat.le_of_ble_eq_true rfl) dX12_narrow_72 ⟨Nat.le_of_ble_eq_true rfl, Nat.le_of_ble_eq_true rfl⟩ hl.1 (hP.sub [3] rfl) (fun n__124 hp_125 => ?_)
              replace hp_125 : n__124 ≤ 5 := hp_125
              have h_126 := hp_125
              clear hp_125
              refine W.eq (g2 := F0 m 75 ls [.int (nI n__124), .int (nI n__22)]) rfl ?_
              refine cr_S (As := [.int (nI n__22), .int (nI n__124)]) (rest := []) hFX hKK (s_X12_doesHold l D κ n__22 n__124 (by omega) (by omega)) 2 gS_X12_188 hdS_X12_doesHold rfl rfl ⟨Nat.le_of_ble_eq_true rfl, Nat.le_of_ble_eq_true rfl⟩ rfl rfl (Nat.le_of_ble_eq_true rfl) dX12_narrow_75 ⟨Nat.le_of_ble_eq_true rfl, Nat.le_of_ble_eq_true rfl⟩ hl.1 (hP.sub [] rfl) (fun r__127 hp_128 => ?_)
              replace hp_128 : ((r__127 = 1) ∨ (r__127 = 0)) := hp_128
              have ha_129 := hp_128
              clear hp_128
              rcases ha_129 with rfl | rfl
              · refine W.eq (g2 := F0 m 78 ls [.int 1]) rfl ?_
                refine lv_if_ne (tgt := 83) hx hb dX12_narrow_78 (by decide) (fun c_130 => ?_) (fun c_130 => absurd c_130 (by decide))
                refine lv_aload_n hx hb dX12_narrow_83 rfl (lv_at hl 1 rfl) ?_
                refine lv_iconst (v := 0) hx hb dX12_narrow_84 (by decide) ?_
                refine va_put (D := D) (ci := 12) (v := .int 0) (ty := tyX12 22) (C := RX12) (T := TX12) (N := 30) hx hb hts inlX12 tyX12 tyX12_ok nmX12 hown hK hP hD hS 0 rfl rfl 22 (by decide) (hts _ mw_1029) (fun _ h9 => h9) rfl (tyX12_ok 22 (by decide)) rfl rfl (Nat.le_of_ble_eq_true rfl) dX12_narrow_85 (fun H locs hP hD hS => ?_)
                have hP : va_P D vwCl [(m0, .inr (12, [.ref a0, .ref a1, .ref a2, .int (nI u3), .int f4, .ref a5, .int 0, .int f7, .int f8, .int f9, .int f10, .int (nI u11), .int (nI u12), .int (nI u13), .ref a14, .ref a15, .ref a16, .ref a17, .int f18, .int f19, .ref a20, .ref a21, .int 0, .ref a23, .ref a24, .ref a25, .int (nI u26), .int f27, .ref a28, .int (nI u29)])), (a0, .inl (κ 0, 21375, .inl w)), (a5, .inl (κ 0, 800, .inl tp)), (a20, .inl (κ 0, 801, .inl g_a20__1)), (a21, .inl (κ 0, 40, .inl nx))] H := hP
                have hD : va_D A [(m0, .inr (12, [.ref a0, .ref a1, .ref a2, .int (nI u3), .int f4, .ref a5, .int 0, .int f7, .int f8, .int f9, .int f10, .int (nI u11), .int (nI u12), .int (nI u13), .ref a14, .ref a15, .ref a16, .ref a17, .int f18, .int f19, .ref a20, .ref a21, .int 0, .ref a23, .ref a24, .ref a25, .int (nI u26), .int f27, .ref a28, .int (nI u29)])), (a0, .inl (κ 0, 21375, .inl w)), (a5, .inl (κ 0, 800, .inl tp)), (a20, .inl (κ 0, 801, .inl g_a20__1)), (a21, .inl (κ 0, 40, .inl nx))] := hD
                refine lv_iconst (v := 0) hx hb dX12_narrow_88 (by decide) ?_
                refine lv_istore (lv' := [(5, .int 0), (4, .int (nI n__22)), (0, .ref m0), (1, .int (nI j_7)), (2, .int (nI c_10)), (3, .int (nI j_20))]) hx hb dX12_narrow_89 hl (by decide) rfl (fun ls hl => ?_)
                refine loop_dn (fun k9 H locs ls => ∃ (k5_91 : Nat), ∃ (v22_91 : Nat), ∃ (ga21_91 : Nat → Int32), (v22_91 ≤ k5_91) ∧ (k5_91 ≤ 40) ∧ Pb 40 39 ga21_91 ∧ 41 - k5_91 = k9 ∧ va_P D vwCl [(m0, .inr (12, [.ref a0, .ref a1, .ref a2, .int (nI u3), .int f4, .ref a5, .int 0, .int f7, .int f8, .int f9, .int f10, .int (nI u11), .int (nI u12), .int (nI u13), .ref a14, .ref a15, .ref a16, .ref a17, .int f18, .int f19, .ref a20, .ref a21, .int (nI v22_91), .ref a23, .ref a24, .ref a25, .int (nI u26), .int f27, .ref a28, .int (nI u29)])), (a0, .inl (κ 0, 21375, .inl w)), (a5, .inl (κ 0, 800, .inl tp)), (a20, .inl (κ 0, 801, .inl g_a20__1)), (a21, .inl (κ 0, 40, .inl ga21_91))] H ∧ va_D A [(m0, .inr (12, [.ref a0, .ref a1, .ref a2, .int (nI u3), .int f4, .ref a5, .int 0, .int f7, .int f8, .int f9, .int f10, .int (nI u11), .int (nI u12), .int (nI u13), .ref a14, .ref a15, .ref a16, .ref a17, .int f18, .int f19, .ref a20, .ref a21, .int (nI v22_91), .ref a23, .ref a24, .ref a25, .int (nI u26), .int f27, .ref a28, .int (nI u29)])), (a0, .inl (κ 0, 21375, .inl w)), (a5, .inl (κ 0, 800, .inl tp)), (a20, .inl (κ 0, 801, .inl g_a20__1)), (a21, .inl (κ 0, 40, .inl ga21_91))] ∧ va_S A s.heap H locs ∧ lv_has ls 6 [(5, .int (nI k5_91)), (4, .int (nI n__22)), (0, .ref m0), (1, .int (nI j_7)), (2, .int (nI c_10)), (3, .int (nI j_20))]) (fun k9 H locs ls hI91 ih91 => ?_) (41 - 0) _ _ _ ⟨0, 0, nx, (by omega), (by omega), h_a21, rfl, hP, hD, hS, lv_sub hl [0, 1, 2, 3, 4, 5] rfl⟩
                obtain ⟨k5_91, v22_91, ga21_91, hl91_0, hl91_1, hg91_0, hm91, hP, hD, hS, hl⟩ := hI91
                refine lv_iload hx hb dX12_narrow_91 (lv_at hl 0 rfl) ?_
                refine lv_aload_n hx hb dX12_narrow_93 rfl (lv_at hl 2 rfl) ?_
                refine lv_iload_n hx hb dX12_narrow_94 rfl (lv_at hl 3 rfl) ?_
                refine cr_V (As := [.int (nI j_7)]) (rest := [.int (nI k5_91)]) hFX hKK (s2_X12_viewMany l D κ m0 a0 a1 a2 u3 f4 a5 0 f7 f8 f9 f10 u11 u12 u13 a14 a15 a16 a17 f18 f19 a20 a21 v22_91 a23 a24 a25 u26 f27 a28 u29 w j_7 h_a0 (by omega)) 1 gV_X12_341 hdV_X12_viewMany rfl rfl ⟨Nat.le_of_ble_eq_true rfl, Nat.le_of_ble_eq_true rfl⟩ rfl rfl (Nat.le_of_ble_eq_true rfl) dX12_narrow_95 ⟨Nat.le_of_ble_eq_true rfl, Nat.le_of_ble_eq_true rfl⟩ hl.1 hP 0 12 rfl rfl rfl (hP.sub [0, 1] rfl) (fun n__131 hp_132 => ?_)
                replace hp_132 : n__131 ≤ 40 ∧ n__131 = vmF w j_7 := hp_132
                obtain ⟨h_133, h_134⟩ := hp_132
                refine W.eq (g2 := F0 m 98 ls [.int (nI n__131), .int (nI k5_91)]) rfl ?_
                refine lv_icmp_ge (tgt := 158) hx hb dX12_narrow_98 (by decide) (fun c_135 => ?_) (fun c_135 => ?_)
                · have nc_135 := cv_le (a := n__131) (b := k5_91) (by omega) (by omega) c_135
                  refine lv_aload_n hx hb dX12_narrow_158 rfl (lv_at hl 2 rfl) ?_
                  refine lv_iload_n hx hb dX12_narrow_159 rfl (lv_at hl 3 rfl) ?_
                  refine ct_V (wr := [(a5, .inl (κ 0, 800, .inl tp)), (a20, .inl (κ 0, 801, .inl g_a20__1))]) (As := [.int (nI j_7)]) (rest := []) hFX hKK hP hD hS hA (d_X12_lays l D κ m0 a0 a1 a2 u3 f4 a5 0 f7 f8 f9 f10 u11 u12 u13 a14 a15 a16 a17 f18 f19 a20 a21 v22_91 a23 a24 a25 u26 f27 a28 u29 w ga21_91 j_7 dq (by omega) h_a0 hg91_0 h_dl (by omega) (by assumption)) 1 gV_X12_351 hdV_X12_lays ⟨Nat.le_of_ble_eq_true rfl, Nat.le_of_ble_eq_true rfl⟩ rfl rfl (Nat.le_of_ble_eq_true rfl) dX12_narrow_160 ⟨Nat.le_of_ble_eq_true rfl, Nat.le_of_ble_eq_true rfl⟩ hl.1 [0, 1, 4] [2, 3] rfl rfl (by decide) (by decide) (by decide) 0 12 rfl rfl rfl trivial (fun u_138 H locs hp_139 _ hP hD hS hz_ hk_ => ?_)
                  obtain ⟨r__136, g_a0__137⟩ := u_138
                  replace hP : va_P D vwCl [(m0, .inr (12, [.ref a0, .ref a1, .ref a2, .int (nI u3), .int f4, .ref a5, .int (nI 0), .int f7, .int f8, .int f9, .int f10, .int (nI u11), .int (nI u12), .int (nI u13), .ref a14, .ref a15, .ref a16, .ref a17, .int f18, .int f19, .ref a20, .ref a21, .int (nI v22_91), .ref a23, .ref a24, .ref a25, .int (nI u26), .int f27, .ref a28, .int (nI u29)])), (a0, .inl (κ 0, 21375, .inl g_a0__137)), (a5, .inl (κ 0, 800, .inl tp)), (a20, .inl (κ 0, 801, .inl g_a20__1)), (a21, .inl (κ 0, 40, .inl ga21_91))] H := hP.sub [2, 3, 0, 1, 4] rfl
                  replace hD : va_D A [(m0, .inr (12, [.ref a0, .ref a1, .ref a2, .int (nI u3), .int f4, .ref a5, .int (nI 0), .int f7, .int f8, .int f9, .int f10, .int (nI u11), .int (nI u12), .int (nI u13), .ref a14, .ref a15, .ref a16, .ref a17, .int f18, .int f19, .ref a20, .ref a21, .int (nI v22_91), .ref a23, .ref a24, .ref a25, .int (nI u26), .int f27, .ref a28, .int (nI u29)])), (a0, .inl (κ 0, 21375, .inl g_a0__137)), (a5, .inl (κ 0, 800, .inl tp)), (a20, .inl (κ 0, 801, .inl g_a20__1)), (a21, .inl (κ 0, 40, .inl ga21_91))] := hD.sub [2, 3, 0, 1, 4] (by decide) rfl
                  replace hp_139 : Pw g_a0__137 ∧ Dl dq g_a0__137 := hp_139
                  obtain ⟨h_140, h_141⟩ := hp_139
                  refine W.eq (g2 := F0 m 163 ls [.int r__136]) rfl ?_
                  exact ct_iret hx hb hr hlk rfl hS hP hD (r__136, v22_91, g_a0__137, g_a20__1, ga21_91) rfl ⟨(show v22_91 ≤ 40 from (by first | assumption | omega | rfl | exact Or.inl (by assumption) | exact Or.inr (by assumption))), (show Pw g_a0__137 from (by first | assumption | omega | rfl | exact Or.inl (by assumption) | exact Or.inr (by assumption))), (show Dl dq g_a0__137 from (by first | assumption | omega | rfl | exact Or.inl (by assumption) | exact Or.inr (by assumption))), (show Pb 1 800 g_a20__1 from (by first | assumption | omega | rfl | exact Or.inl (by assumption) | exact Or.inr (by assumption))), (show Pb 40 39 ga21_91 from (by first | assumption | omega | rfl | exact Or.inl (by assumption) | exact Or.inr (by assumption)))⟩ [0, 1, 2, 3, 4] rfl (by decide) trivial (Nat.le_of_ble_eq_true rfl) (Nat.le_of_ble_eq_true rfl) dX12_narrow_163
                · have nc_135 := cv_nle (a := n__131) (b := k5_91) (by omega) (by omega) c_135
                  refine lv_aload_n hx hb dX12_narrow_101 rfl (lv_at hl 2 rfl) ?_
                  refine lv_iload_n hx hb dX12_narrow_102 rfl (lv_at hl 3 rfl) ?_
                  refine lv_aload_n hx hb dX12_narrow_103 rfl (lv_at hl 2 rfl) ?_
                  refine lv_iload_n hx hb dX12_narrow_104 rfl (lv_at hl 3 rfl) ?_
                  refine lv_iload hx hb dX12_narrow_105 (lv_at hl 0 rfl) ?_
                  refine cr_V (As := [.int (nI j_7), .int (nI k5_91)]) (rest := [.int (nI j_7), .ref m0]) hFX hKK (s2_X12_viewed l D κ m0 a0 a1 a2 u3 f4 a5 0 f7 f8 f9 f10 u11 u12 u13 a14 a15 a16 a17 f18 f19 a20 a21 v22_91 a23 a24 a25 u26 f27 a28 u29 w j_7 k5_91 h_a0 (by omega) (by omega)) 2 gV_X12_345 hdV_X12_viewed rfl rfl ⟨Nat.le_of_ble_eq_true rfl, Nat.le_of_ble_eq_true rfl⟩ rfl rfl (Nat.le_of_ble_eq_true rfl) dX12_narrow_107 ⟨Nat.le_of_ble_eq_true rfl, Nat.le_of_ble_eq_true rfl⟩ hl.1 hP 0 12 rfl rfl rfl (hP.sub [0, 1] rfl) (fun n__142 hp_143 => ?_)
                  replace hp_143 : n__142 ≤ 39 ∧ n__142 = vwF w j_7 k5_91 := hp_143
                  obtain ⟨h_144, h_145⟩ := hp_143
                  refine W.eq (g2 := F0 m 110 ls [.int (nI n__142), .int (nI j_7), .ref m0]) rfl ?_
                  refine lv_iload_n hx hb dX12_narrow_110 rfl (lv_at hl 4 rfl) ?_
                  refine cr_S (As := [.int (nI j_7), .int (nI n__142), .int (nI c_10)]) (rest := [.ref m0]) hFX hKK (s_X12_cellAt l D κ j_7 n__142 c_10) 3 gS_X12_167 hdS_X12_cellAt rfl rfl ⟨Nat.le_of_ble_eq_true rfl, Nat.le_of_ble_eq_true rfl⟩ rfl rfl (Nat.le_of_ble_eq_true rfl) dX12_narrow_111 ⟨Nat.le_of_ble_eq_true rfl, Nat.le_of_ble_eq_true rfl⟩ hl.1 (hP.sub [] rfl) (fun _ hp_146 => ?_)
                  refine W.eq (g2 := F0 m 114 ls [.int (nI (7123 * j_7 + 403 + 21 * (8 * n__142 + c_10))), .ref m0]) rfl ?_
                  refine lv_iload_n hx hb dX12_narrow_114 rfl (lv_at hl 5 rfl) ?_
                  refine lv_iload hx hb dX12_narrow_115 (lv_at hl 1 rfl) ?_
                  refine cr_V (As := [.int (nI (7123 * j_7 + 403 + 21 * (8 * n__142 + c_10))), .int (nI j_20), .int (nI n__22)]) (rest := []) hFX hKK (s_X12_isSo l D κ m0 a0 a1 a2 u3 f4 a5 0 f7 f8 f9 f10 u11 u12 u13 a14 a15 a16 a17 f18 f19 a20 a21 v22_91 a23 a24 a25 u26 f27 a28 u29 w g_a20__1 (nI n__22) (7123 * j_7 + 403 + 21 * (8 * n__142 + c_10)) j_20 h_a0 h_3 (by omega) (h_a0 _ _ (mCELL (t := j_7) (i := (8 * n__142 + c_10)) (by omega) (by omega) (by omega))) (by omega) (by first | exact Or.inr (by assumption) | exact Or.inl (by omega))) 3 gV_X12_348 hdV_X12_isSo rfl rfl ⟨Nat.le_of_ble_eq_true rfl, Nat.le_of_ble_eq_true rfl⟩ rfl rfl (Nat.le_of_ble_eq_true rfl) dX12_narrow_117 ⟨Nat.le_of_ble_eq_true rfl, Nat.le_of_ble_eq_true rfl⟩ hl.1 hP 0 12 rfl rfl rfl (hP.sub [0, 1, 3] rfl) (fun r__147 hp_148 => ?_)
                  replace hp_148 : ((r__147 = 1) ∨ (r__147 = 0)) := hp_148
                  have ha_149 := hp_148
                  clear hp_148
                  rcases ha_149 with rfl | rfl
                  · refine W.eq (g2 := F0 m 120 ls [.int 1]) rfl ?_
                    refine lv_if_ne (tgt := 126) hx hb dX12_narrow_120 (by decide) (fun c_150 => ?_) (fun c_150 => absurd c_150 (by decide))
                    refine lv_aload_n hx hb dX12_narrow_126 rfl (lv_at hl 2 rfl) ?_
                    refine va_get (D := D) (ci := 12) (v := .ref a21) (C := RX12) (T := TX12) (N := 30) hx hb hts inlX12 hown hK hP 0 rfl rfl 21 (by decide) (hts _ mw_199) (fun _ h9 => h9) rfl dX12_narrow_127 ?_
                    refine lv_aload_n hx hb dX12_narrow_130 rfl (lv_at hl 2 rfl) ?_
                    refine va_get (D := D) (ci := 12) (v := .int (nI v22_91)) (C := RX12) (T := TX12) (N := 30) hx hb hts inlX12 hown hK hP 0 rfl rfl 22 (by decide) (hts _ mw_1029) (fun _ h9 => h9) rfl dX12_narrow_131 ?_
                    refine lv_aload_n hx hb dX12_narrow_134 rfl (lv_at hl 2 rfl) ?_
                    refine lv_iload_n hx hb dX12_narrow_135 rfl (lv_at hl 3 rfl) ?_
                    refine lv_iload hx hb dX12_narrow_136 (lv_at hl 0 rfl) ?_
                    refine cr_V (As := [.int (nI j_7), .int (nI k5_91)]) (rest := [.int (nI v22_91), .ref a21]) hFX hKK (s2_X12_viewed l D κ m0 a0 a1 a2 u3 f4 a5 0 f7 f8 f9 f10 u11 u12 u13 a14 a15 a16 a17 f18 f19 a20 a21 v22_91 a23 a24 a25 u26 f27 a28 u29 w j_7 k5_91 h_a0 (by omega) (by omega)) 2 gV_X12_345 hdV_X12_viewed rfl rfl ⟨Nat.le_of_ble_eq_true rfl, Nat.le_of_ble_eq_true rfl⟩ rfl rfl (Nat.le_of_ble_eq_true rfl) dX12_narrow_138 ⟨Nat.le_of_ble_eq_true rfl, Nat.le_of_ble_eq_true rfl⟩ hl.1 hP 0 12 rfl rfl rfl (hP.sub [0, 1] rfl) (fun n__151 hp_152 => ?_)
                    replace hp_152 : n__151 ≤ 39 ∧ n__151 = vwF w j_7 k5_91 := hp_152
                    obtain ⟨h_153, h_154⟩ := hp_152
                    refine W.eq (g2 := F0 m 141 ls [.int (nI n__151), .int (nI v22_91), .ref a21]) rfl ?_
                    refine va_iast hx hb hK hP hD hS 4 0 rfl rfl (i := nI v22_91) (x := nI n__151) (vp_in_nI (n := v22_91) (by omega) (by omega)) dX12_narrow_141 (fun H locs hP hD hS => ?_)
                    rw [nI_clamp (by omega)] at hP hD
                    have hP : va_P D vwCl [(m0, .inr (12, [.ref a0, .ref a1, .ref a2, .int (nI u3), .int f4, .ref a5, .int 0, .int f7, .int f8, .int f9, .int f10, .int (nI u11), .int (nI u12), .int (nI u13), .ref a14, .ref a15, .ref a16, .ref a17, .int f18, .int f19, .ref a20, .ref a21, .int (nI v22_91), .ref a23, .ref a24, .ref a25, .int (nI u26), .int f27, .ref a28, .int (nI u29)])), (a0, .inl (κ 0, 21375, .inl w)), (a5, .inl (κ 0, 800, .inl tp)), (a20, .inl (κ 0, 801, .inl g_a20__1)), (a21, .inl (κ 0, 40, .inl (upd ga21_91 v22_91 (nI n__151))))] H := hP
                    have hD : va_D A [(m0, .inr (12, [.ref a0, .ref a1, .ref a2, .int (nI u3), .int f4, .ref a5, .int 0, .int f7, .int f8, .int f9, .int f10, .int (nI u11), .int (nI u12), .int (nI u13), .ref a14, .ref a15, .ref a16, .ref a17, .int f18, .int f19, .ref a20, .ref a21, .int (nI v22_91), .ref a23, .ref a24, .ref a25, .int (nI u26), .int f27, .ref a28, .int (nI u29)])), (a0, .inl (κ 0, 21375, .inl w)), (a5, .inl (κ 0, 800, .inl tp)), (a20, .inl (κ 0, 801, .inl g_a20__1)), (a21, .inl (κ 0, 40, .inl (upd ga21_91 v22_91 (nI n__151))))] := hD
                    have hf_156 : Pb 40 39 (upd ga21_91 v22_91 (nI n__151)) := (Pb_upd hg91_0 (fun _ => ⟨n__151, by omega, rfl⟩))
                    generalize upd ga21_91 v22_91 (nI n__151) = g_155 at hP hD hf_156
                    refine lv_aload_n hx hb dX12_narrow_142 rfl (lv_at hl 2 rfl) ?_
                    refine lv_dup hx hb dX12_narrow_143 rfl ?_
                    refine va_get (D := D) (ci := 12) (v := .int (nI v22_91)) (C := RX12) (T := TX12) (N := 30) hx hb hts inlX12 hown hK hP 0 rfl rfl 22 (by decide) (hts _ mw_1029) (fun _ h9 => h9) rfl dX12_narrow_144 ?_
                    refine lv_iconst (v := 1) hx hb dX12_narrow_147 (by decide) ?_
                    refine lv_iadd hx hb dX12_narrow_148 ?_
                    refine ki (v := (nI (v22_91 + 1))) (nI_add v22_91 1) ?_
                    refine va_put (D := D) (ci := 12) (v := .int (nI (v22_91 + 1))) (ty := tyX12 22) (C := RX12) (T := TX12) (N := 30) hx hb hts inlX12 tyX12 tyX12_ok nmX12 hown hK hP hD hS 0 rfl rfl 22 (by decide) (hts _ mw_1029) (fun _ h9 => h9) rfl (tyX12_ok 22 (by decide)) rfl rfl (Nat.le_of_ble_eq_true rfl) dX12_narrow_149 (fun H locs hP hD hS => ?_)
                    have hP : va_P D vwCl [(m0, .inr (12, [.ref a0, .ref a1, .ref a2, .int (nI u3), .int f4, .ref a5, .int 0, .int f7, .int f8, .int f9, .int f10, .int (nI u11), .int (nI u12), .int (nI u13), .ref a14, .ref a15, .ref a16, .ref a17, .int f18, .int f19, .ref a20, .ref a21, .int (nI (v22_91 + 1)), .ref a23, .ref a24, .ref a25, .int (nI u26), .int f27, .ref a28, .int (nI u29)])), (a0, .inl (κ 0, 21375, .inl w)), (a5, .inl (κ 0, 800, .inl tp)), (a20, .inl (κ 0, 801, .inl g_a20__1)), (a21, .inl (κ 0, 40, .inl g_155))] H := hP
                    have hD : va_D A [(m0, .inr (12, [.ref a0, .ref a1, .ref a2, .int (nI u3), .int f4, .ref a5, .int 0, .int f7, .int f8, .int f9, .int f10, .int (nI u11), .int (nI u12), .int (nI u13), .ref a14, .ref a15, .ref a16, .ref a17, .int f18, .int f19, .ref a20, .ref a21, .int (nI (v22_91 + 1)), .ref a23, .ref a24, .ref a25, .int (nI u26), .int f27, .ref a28, .int (nI u29)])), (a0, .inl (κ 0, 21375, .inl w)), (a5, .inl (κ 0, 800, .inl tp)), (a20, .inl (κ 0, 801, .inl g_a20__1)), (a21, .inl (κ 0, 40, .inl g_155))] := hD
                    refine lv_iinc (v := (nI (k5_91 + 1))) (lv' := [(5, .int (nI (k5_91 + 1))), (4, .int (nI n__22)), (0, .ref m0), (1, .int (nI j_7)), (2, .int (nI c_10)), (3, .int (nI j_20))]) hx hb dX12_narrow_152 hl (k := 0) rfl (nI_i k5_91) (by decide) rfl (fun ls hl => ?_)
                    refine lv_goto (tgt := 91) hx hb dX12_narrow_155 (by decide) ?_
                    exact ih91 _ _ _ _ (by omega) ⟨(k5_91 + 1), (v22_91 + 1), g_155, (by omega), (by omega), hf_156, rfl, hP, hD, hS, lv_sub hl [0, 1, 2, 3, 4, 5] rfl⟩
                  · refine W.eq (g2 := F0 m 120 ls [.int 0]) rfl ?_
                    refine lv_if_ne (tgt := 126) hx hb dX12_narrow_120 (by decide) (fun c_157 => absurd c_157 (by decide)) (fun c_157 => ?_)
                    refine lv_goto (tgt := 152) hx hb dX12_narrow_123 (by decide) ?_
                    refine lv_iinc (v := (nI (k5_91 + 1))) (lv' := [(5, .int (nI (k5_91 + 1))), (4, .int (nI n__22)), (0, .ref m0), (1, .int (nI j_7)), (2, .int (nI c_10)), (3, .int (nI j_20))]) hx hb dX12_narrow_152 hl (k := 0) rfl (nI_i k5_91) (by decide) rfl (fun ls hl => ?_)
                    refine lv_goto (tgt := 91) hx hb dX12_narrow_155 (by decide) ?_
                    exact ih91 _ _ _ _ (by omega) ⟨(k5_91 + 1), v22_91, ga21_91, (by omega), (by omega), hg91_0, rfl, hP, hD, hS, lv_sub hl [0, 1, 2, 3, 4, 5] rfl⟩
              · refine W.eq (g2 := F0 m 78 ls [.int 0]) rfl ?_
                refine lv_if_ne (tgt := 83) hx hb dX12_narrow_78 (by decide) (fun c_158 => absurd c_158 (by decide)) (fun c_158 => ?_)
                refine lv_iconst (v := (-1)) hx hb dX12_narrow_81 (by decide) ?_
                exact ct_iret hx hb hr hlk rfl hS hP hD ((-1), u22, w, g_a20__1, nx) rfl ⟨(show u22 ≤ 40 from (by first | assumption | omega | rfl | exact Or.inl (by assumption) | exact Or.inr (by assumption))), (show Pw w from (by first | assumption | omega | rfl | exact Or.inl (by assumption) | exact Or.inr (by assumption))), (show Dl dq w from (by first | assumption | omega | rfl | exact Or.inl (by assumption) | exact Or.inr (by assumption))), (show Pb 1 800 g_a20__1 from (by first | assumption | omega | rfl | exact Or.inl (by assumption) | exact Or.inr (by assumption))), (show Pb 40 39 nx from (by first | assumption | omega | rfl | exact Or.inl (by assumption) | exact Or.inr (by assumption)))⟩ [0, 1, 2, 3, 4] rfl (by decide) trivial (Nat.le_of_ble_eq_true rfl) (Nat.le_of_ble_eq_true rfl) dX12_narrow_82
          · have nc_95 := cv_eq (a := n_94) (b := 0) (by omega) (by omega) c_95
            refine lv_iconst (v := (-1)) hx hb dX12_narrow_57 (by decide) ?_
            exact ct_iret hx hb hr hlk rfl hS hP hD ((-1), u22, w, g_a20__1, nx) rfl ⟨(show u22 ≤ 40 from (by first | assumption | omega | rfl | exact Or.inl (by assumption) | exact Or.inr (by assumption))), (show Pw w from (by first | assumption | omega | rfl | exact Or.inl (by assumption) | exact Or.inr (by assumption))), (show Dl dq w from (by first | assumption | omega | rfl | exact Or.inl (by assumption) | exact Or.inr (by assumption))), (show Pb 1 800 g_a20__1 from (by first | assumption | omega | rfl | exact Or.inl (by assumption) | exact Or.inr (by assumption))), (show Pb 40 39 nx from (by first | assumption | omega | rfl | exact Or.inl (by assumption) | exact Or.inr (by assumption)))⟩ [0, 1, 2, 3, 4] rfl (by decide) trivial (Nat.le_of_ble_eq_true rfl) (Nat.le_of_ble_eq_true rfl) dX12_narrow_58
        · refine W.eq (g2 := F0 m 45 ls [.int 0]) rfl ?_
          refine lv_if_eq (tgt := 57) hx hb dX12_narrow_45 (by decide) (fun c_159 => ?_) (fun c_159 => absurd (by decide) c_159)
          refine lv_iconst (v := (-1)) hx hb dX12_narrow_57 (by decide) ?_
          exact ct_iret hx hb hr hlk rfl hS hP hD ((-1), u22, w, g_a20__1, nx) rfl ⟨(show u22 ≤ 40 from (by first | assumption | omega | rfl | exact Or.inl (by assumption) | exact Or.inr (by assumption))), (show Pw w from (by first | assumption | omega | rfl | exact Or.inl (by assumption) | exact Or.inr (by assumption))), (show Dl dq w from (by first | assumption | omega | rfl | exact Or.inl (by assumption) | exact Or.inr (by assumption))), (show Pb 1 800 g_a20__1 from (by first | assumption | omega | rfl | exact Or.inl (by assumption) | exact Or.inr (by assumption))), (show Pb 40 39 nx from (by first | assumption | omega | rfl | exact Or.inl (by assumption) | exact Or.inr (by assumption)))⟩ [0, 1, 2, 3, 4] rfl (by decide) trivial (Nat.le_of_ble_eq_true rfl) (Nat.le_of_ble_eq_true rfl) dX12_narrow_58
    · refine W.eq (g2 := F0 m 22 ls [.int 0]) rfl ?_
      have hin_160 : zc.toInt < (0 : Int) ∨ (7 : Int) < zc.toInt := l_out (l_of rfl) (by decide) (by decide) a_18
      refine lv_if_ne (tgt := 27) hx hb dX12_narrow_22 (by decide) (fun c_161 => absurd c_161 (by decide)) (fun c_161 => ?_)
      refine lv_iconst (v := (-1)) hx hb dX12_narrow_25 (by decide) ?_
      exact ct_iret hx hb hr hlk rfl hS hP hD ((-1), u22, w, g_a20__1, nx) rfl ⟨(show u22 ≤ 40 from (by first | assumption | omega | rfl | exact Or.inl (by assumption) | exact Or.inr (by assumption))), (show Pw w from (by first | assumption | omega | rfl | exact Or.inl (by assumption) | exact Or.inr (by assumption))), (show Dl dq w from (by first | assumption | omega | rfl | exact Or.inl (by assumption) | exact Or.inr (by assumption))), (show Pb 1 800 g_a20__1 from (by first | assumption | omega | rfl | exact Or.inl (by assumption) | exact Or.inr (by assumption))), (show Pb 40 39 nx from (by first | assumption | omega | rfl | exact Or.inl (by assumption) | exact Or.inr (by assumption)))⟩ [0, 1, 2, 3, 4] rfl (by decide) trivial (Nat.le_of_ble_eq_true rfl) (Nat.le_of_ble_eq_true rfl) dX12_narrow_26
  · refine W.eq (g2 := F0 m 10 ls [.int 0]) rfl ?_
    refine lv_if_eq (tgt := 25) hx hb dX12_narrow_10 (by decide) (fun c_162 => ?_) (fun c_162 => absurd (by decide) c_162)
    refine lv_iconst (v := (-1)) hx hb dX12_narrow_25 (by decide) ?_
    exact ct_iret hx hb hr hlk rfl hS hP hD ((-1), u22, w, g_a20__1, nx) rfl ⟨(show u22 ≤ 40 from (by first | assumption | omega | rfl | exact Or.inl (by assumption) | exact Or.inr (by assumption))), (show Pw w from (by first | assumption | omega | rfl | exact Or.inl (by assumption) | exact Or.inr (by assumption))), (show Dl dq w from (by first | assumption | omega | rfl | exact Or.inl (by assumption) | exact Or.inr (by assumption))), (show Pb 1 800 g_a20__1 from (by first | assumption | omega | rfl | exact Or.inl (by assumption) | exact Or.inr (by assumption))), (show Pb 40 39 nx from (by first | assumption | omega | rfl | exact Or.inl (by assumption) | exact Or.inr (by assumption)))⟩ [0, 1, 2, 3, 4] rfl (by decide) trivial (Nat.le_of_ble_eq_true rfl) (Nat.le_of_ble_eq_true rfl) dX12_narrow_26
set_option maxHeartbeats 4000000 in
set_option maxRecDepth 100000 in
theorem d_X12_order (l : Launch) (D : va_G) (κ : Nat → ClassId) (m0 : Nat) (a0 : Nat) (a1 : Nat) (a2 : Nat) (u3 : Nat) (f4 : Int32) (a5 : Nat) (u6 : Nat) (f7 : Int32) (f8 : Int32) (f9 : Int32) (f10 : Int32) (u11 : Nat) (u12 : Nat) (u13 : Nat) (a14 : Nat) (a15 : Nat) (a16 : Nat) (a17 : Nat) (f18 : Int32) (f19 : Int32) (a20 : Nat) (a21 : Nat) (u22 : Nat) (a23 : Nat) (a24 : Nat) (a25 : Nat) (u26 : Nat) (f27 : Int32) (a28 : Nat) (u29 : Nat) (w : Nat → Int32) (nx : Nat → Int32) (za : Int32) (zb : Int32) (zd : Int32) (dq : Nat → Int32) (h22 : u22 ≤ 40) (h_a0 : Pw w) (h_a21 : Pb 40 39 nx) (h_dl : Dl dq w) : Ct l yX12_order (wl yX12_order cX12_order 4 (some .int)) { frames := 11, cells := 0, slots := 0, locals := 264 } D κ [.ref m0, .int za, .int zb, .int zd] [(m0, .inr (12, [.ref a0, .ref a1, .ref a2, .int (nI u3), .int f4, .ref a5, .int (nI u6), .int f7, .int f8, .int f9, .int f10, .int (nI u11), .int (nI u12), .int (nI u13), .ref a14, .ref a15, .ref a16, .ref a17, .int f18, .int f19, .ref a20, .ref a21, .int (nI u22), .ref a23, .ref a24, .ref a25, .int (nI u26), .int f27, .ref a28, .int (nI u29)])), (a0, .inl (κ 0, 21375, .inl w)), (a21, .inl (κ 0, 40, .inl nx))] (fun _ => True) (fun u9 : Int32 × Nat × (Nat → Int32) × (Nat → Int32) => some (.int u9.1)) (fun u9 : Int32 × Nat × (Nat → Int32) × (Nat → Int32) => u9.2.1 ≤ 40 ∧ Pw u9.2.2.1 ∧ Dl dq u9.2.2.1 ∧ Pb 40 39 u9.2.2.2) (fun u9 : Int32 × Nat × (Nat → Int32) × (Nat → Int32) => [(m0, .inr (12, [.ref a0, .ref a1, .ref a2, .int (nI u3), .int f4, .ref a5, .int (nI u6), .int f7, .int f8, .int f9, .int f10, .int (nI u11), .int (nI u12), .int (nI u13), .ref a14, .ref a15, .ref a16, .ref a17, .int f18, .int f19, .ref a20, .ref a21, .int (nI u9.2.1), .ref a23, .ref a24, .ref a25, .int (nI u26), .int f27, .ref a28, .int (nI u29)])), (a0, .inl (κ 0, 21375, .inl u9.2.2.1)), (a21, .inl (κ 0, 40, .inl u9.2.2.2))]) (fun _ _ => True) := by
  refine ct_of (by decide +kernel) (Nat.le_of_ble_eq_true rfl) ?_
  intro p e s m args below meth c A ls hx hb hr hml hts hown hlk hin hKK hK hA hP hD hS hI hl
  have hS : va_S A s.heap s.heap [] := hS
  have hFX : FX p s m args c cX12_order 4 RX12 := ⟨hx, hb, hml, hown, hts⟩
  have hl : lv_has ls 4 [(0, .ref m0), (1, .int za), (2, .int zb), (3, .int zd)] := hl
  refine lv_aload_n hx hb dX12_order_0 rfl (lv_at hl 0 rfl) ?_
  refine lv_iload_n hx hb dX12_order_1 rfl (lv_at hl 1 rfl) ?_
  refine lv_iload_n hx hb dX12_order_2 rfl (lv_at hl 2 rfl) ?_
  refine cr_V (As := [.int za, .int zb]) (rest := []) hFX hKK (s_X12_mayView l D κ m0 a0 a1 a2 u3 f4 a5 u6 f7 f8 f9 f10 u11 u12 u13 a14 a15 a16 a17 f18 f19 a20 a21 u22 a23 a24 a25 u26 f27 a28 u29 w za zb h_a0) 2 gV_X12_336 hdV_X12_mayView rfl rfl ⟨Nat.le_of_ble_eq_true rfl, Nat.le_of_ble_eq_true rfl⟩ rfl rfl (Nat.le_of_ble_eq_true rfl) dX12_order_3 ⟨Nat.le_of_ble_eq_true rfl, Nat.le_of_ble_eq_true rfl⟩ hl.1 hP 0 12 rfl rfl rfl (hP.sub [0, 1] rfl) (fun r__1 hp_2 => ?_)
  replace hp_2 : ((r__1 = 1 ∧ (∃ j : Nat, (j < 3 ∧ ∃ n9 : Nat, n9 ≤ 5 ∧ w (7123 * j + 3) = nI n9) ∧ za = nI j) ∧ (∃ c : Nat, c < 8 ∧ zb = nI c)) ∨ (r__1 = 0)) := hp_2
  have ha_3 := hp_2
  clear hp_2
  rcases ha_3 with ⟨rfl, ⟨j_4, ⟨hj_4, a_6⟩, rfl⟩, ⟨c_7, hc_7, rfl⟩⟩ | rfl
  · refine W.eq (g2 := F0 m 6 ls [.int 1]) rfl ?_
    refine lv_if_ne (tgt := 11) hx hb dX12_order_6 (by decide) (fun c_9 => ?_) (fun c_9 => absurd c_9 (by decide))
    refine lv_aload_n hx hb dX12_order_11 rfl (lv_at hl 0 rfl) ?_
    refine lv_iload_n hx hb dX12_order_12 rfl (lv_at hl 1 rfl) ?_
    refine lv_iload_n hx hb dX12_order_13 rfl (lv_at hl 2 rfl) ?_
    refine lv_iload_n hx hb dX12_order_14 rfl (lv_at hl 3 rfl) ?_
    refine ct_V (wr := []) (As := [.int (nI j_4), .int (nI c_7), .int zd]) (rest := []) hFX hKK hP hD hS hA (s_X12_laysOrder l D κ m0 a0 a1 a2 u3 f4 a5 u6 f7 f8 f9 f10 u11 u12 u13 a14 a15 a16 a17 f18 f19 a20 a21 u22 a23 a24 a25 u26 f27 a28 u29 w nx zd j_4 c_7 h_a0 h_a21 (by omega) (by omega)) 3 gV_X12_362 hdV_X12_laysOrder ⟨Nat.le_of_ble_eq_true rfl, Nat.le_of_ble_eq_true rfl⟩ rfl rfl (Nat.le_of_ble_eq_true rfl) dX12_order_15 ⟨Nat.le_of_ble_eq_true rfl, Nat.le_of_ble_eq_true rfl⟩ hl.1 [0, 1, 2] [] rfl rfl (by decide) (by decide) (by decide) 0 12 rfl rfl rfl trivial (fun u_12 H locs hp_13 _ hP hD hS hz_ hk_ => ?_)
    obtain ⟨y22__10, g_a21__11⟩ := u_12
    replace hP : va_P D vwCl [(m0, .inr (12, [.ref a0, .ref a1, .ref a2, .int (nI u3), .int f4, .ref a5, .int (nI u6), .int f7, .int f8, .int f9, .int f10, .int (nI u11), .int (nI u12), .int (nI u13), .ref a14, .ref a15, .ref a16, .ref a17, .int f18, .int f19, .ref a20, .ref a21, .int (nI y22__10), .ref a23, .ref a24, .ref a25, .int (nI u26), .int f27, .ref a28, .int (nI u29)])), (a0, .inl (κ 0, 21375, .inl w)), (a21, .inl (κ 0, 40, .inl g_a21__11))] H := hP
    replace hD : va_D A [(m0, .inr (12, [.ref a0, .ref a1, .ref a2, .int (nI u3), .int f4, .ref a5, .int (nI u6), .int f7, .int f8, .int f9, .int f10, .int (nI u11), .int (nI u12), .int (nI u13), .ref a14, .ref a15, .ref a16, .ref a17, .int f18, .int f19, .ref a20, .ref a21, .int (nI y22__10), .ref a23, .ref a24, .ref a25, .int (nI u26), .int f27, .ref a28, .int (nI u29)])), (a0, .inl (κ 0, 21375, .inl w)), (a21, .inl (κ 0, 40, .inl g_a21__11))] := hD
    replace hp_13 : y22__10 ≤ 40 ∧ Pb 40 39 g_a21__11 ∧ y22__10 = vmF w j_4 := hp_13
    obtain ⟨h_14, h_15, h_16⟩ := hp_13
    refine W.eq (g2 := F0 m 18 ls []) rfl ?_
    refine lv_aload_n hx hb dX12_order_18 rfl (lv_at hl 0 rfl) ?_
    refine lv_iload_n hx hb dX12_order_19 rfl (lv_at hl 1 rfl) ?_
    refine ct_V (wr := []) (As := [.int (nI j_4)]) (rest := []) hFX hKK hP hD hS hA (d_X12_lays l D κ m0 a0 a1 a2 u3 f4 a5 u6 f7 f8 f9 f10 u11 u12 u13 a14 a15 a16 a17 f18 f19 a20 a21 y22__10 a23 a24 a25 u26 f27 a28 u29 w g_a21__11 j_4 dq (by omega) h_a0 h_15 h_dl (by omega) (by assumption)) 1 gV_X12_351 hdV_X12_lays ⟨Nat.le_of_ble_eq_true rfl, Nat.le_of_ble_eq_true rfl⟩ rfl rfl (Nat.le_of_ble_eq_true rfl) dX12_order_20 ⟨Nat.le_of_ble_eq_true rfl, Nat.le_of_ble_eq_true rfl⟩ hl.1 [0, 1, 2] [] rfl rfl (by decide) (by decide) (by decide) 0 12 rfl rfl rfl trivial (fun u_19 H locs hp_20 _ hP hD hS hz_ hk_ => ?_)
    obtain ⟨r__17, g_a0__18⟩ := u_19
    replace hP : va_P D vwCl [(m0, .inr (12, [.ref a0, .ref a1, .ref a2, .int (nI u3), .int f4, .ref a5, .int (nI u6), .int f7, .int f8, .int f9, .int f10, .int (nI u11), .int (nI u12), .int (nI u13), .ref a14, .ref a15, .ref a16, .ref a17, .int f18, .int f19, .ref a20, .ref a21, .int (nI y22__10), .ref a23, .ref a24, .ref a25, .int (nI u26), .int f27, .ref a28, .int (nI u29)])), (a0, .inl (κ 0, 21375, .inl g_a0__18)), (a21, .inl (κ 0, 40, .inl g_a21__11))] H := hP
    replace hD : va_D A [(m0, .inr (12, [.ref a0, .ref a1, .ref a2, .int (nI u3), .int f4, .ref a5, .int (nI u6), .int f7, .int f8, .int f9, .int f10, .int (nI u11), .int (nI u12), .int (nI u13), .ref a14, .ref a15, .ref a16, .ref a17, .int f18, .int f19, .ref a20, .ref a21, .int (nI y22__10), .ref a23, .ref a24, .ref a25, .int (nI u26), .int f27, .ref a28, .int (nI u29)])), (a0, .inl (κ 0, 21375, .inl g_a0__18)), (a21, .inl (κ 0, 40, .inl g_a21__11))] := hD
    replace hp_20 : Pw g_a0__18 ∧ Dl dq g_a0__18 := hp_20
    obtain ⟨h_21, h_22⟩ := hp_20
    refine W.eq (g2 := F0 m 23 ls [.int r__17]) rfl ?_
    exact ct_iret hx hb hr hlk rfl hS hP hD (r__17, y22__10, g_a0__18, g_a21__11) rfl ⟨(show y22__10 ≤ 40 from (by first | assumption | omega | rfl | exact Or.inl (by assumption) | exact Or.inr (by assumption))), (show Pw g_a0__18 from (by first | assumption | omega | rfl | exact Or.inl (by assumption) | exact Or.inr (by assumption))), (show Dl dq g_a0__18 from (by first | assumption | omega | rfl | exact Or.inl (by assumption) | exact Or.inr (by assumption))), (show Pb 40 39 g_a21__11 from (by first | assumption | omega | rfl | exact Or.inl (by assumption) | exact Or.inr (by assumption)))⟩ [0, 1, 2] rfl (by decide) trivial (Nat.le_of_ble_eq_true rfl) (Nat.le_of_ble_eq_true rfl) dX12_order_23
  · refine W.eq (g2 := F0 m 6 ls [.int 0]) rfl ?_
    refine lv_if_ne (tgt := 11) hx hb dX12_order_6 (by decide) (fun c_23 => absurd c_23 (by decide)) (fun c_23 => ?_)
    refine lv_iconst (v := (-1)) hx hb dX12_order_9 (by decide) ?_
    exact ct_iret hx hb hr hlk rfl hS hP hD ((-1), u22, w, nx) rfl ⟨(show u22 ≤ 40 from (by first | assumption | omega | rfl | exact Or.inl (by assumption) | exact Or.inr (by assumption))), (show Pw w from (by first | assumption | omega | rfl | exact Or.inl (by assumption) | exact Or.inr (by assumption))), (show Dl dq w from (by first | assumption | omega | rfl | exact Or.inl (by assumption) | exact Or.inr (by assumption))), (show Pb 40 39 nx from (by first | assumption | omega | rfl | exact Or.inl (by assumption) | exact Or.inr (by assumption)))⟩ [0, 1, 2] rfl (by decide) trivial (Nat.le_of_ble_eq_true rfl) (Nat.le_of_ble_eq_true rfl) dX12_order_10
set_option maxHeartbeats 4000000 in
set_option maxRecDepth 100000 in
theorem d_X12_cut (l : Launch) (D : va_G) (κ : Nat → ClassId) (m0 : Nat) (a0 : Nat) (a1 : Nat) (a2 : Nat) (u3 : Nat) (f4 : Int32) (a5 : Nat) (u6 : Nat) (f7 : Int32) (f8 : Int32) (f9 : Int32) (f10 : Int32) (u11 : Nat) (u12 : Nat) (u13 : Nat) (a14 : Nat) (a15 : Nat) (a16 : Nat) (a17 : Nat) (f18 : Int32) (f19 : Int32) (a20 : Nat) (a21 : Nat) (u22 : Nat) (a23 : Nat) (a24 : Nat) (a25 : Nat) (u26 : Nat) (f27 : Int32) (a28 : Nat) (u29 : Nat) (w : Nat → Int32) (nx : Nat → Int32) (za : Int32) (zb : Int32) (zc : Int32) (dq : Nat → Int32) (h22 : u22 ≤ 40) (h_a0 : Pw w) (h_a21 : Pb 40 39 nx) (h_dl : Dl dq w) : Ct l yX12_cut (wl yX12_cut cX12_cut 5 (some .int)) { frames := 2, cells := 0, slots := 0, locals := 46 } D κ [.ref m0, .int za, .int zb, .int zc] [(m0, .inr (12, [.ref a0, .ref a1, .ref a2, .int (nI u3), .int f4, .ref a5, .int (nI u6), .int f7, .int f8, .int f9, .int f10, .int (nI u11), .int (nI u12), .int (nI u13), .ref a14, .ref a15, .ref a16, .ref a17, .int f18, .int f19, .ref a20, .ref a21, .int (nI u22), .ref a23, .ref a24, .ref a25, .int (nI u26), .int f27, .ref a28, .int (nI u29)])), (a0, .inl (κ 0, 21375, .inl w)), (a21, .inl (κ 0, 40, .inl nx))] (fun _ => True) (fun u9 : Int32 × Nat × (Nat → Int32) × (Nat → Int32) => some (.int u9.1)) (fun u9 : Int32 × Nat × (Nat → Int32) × (Nat → Int32) => u9.2.1 ≤ 40 ∧ Pw u9.2.2.1 ∧ Dl dq u9.2.2.1 ∧ Pb 40 39 u9.2.2.2) (fun u9 : Int32 × Nat × (Nat → Int32) × (Nat → Int32) => [(m0, .inr (12, [.ref a0, .ref a1, .ref a2, .int (nI u3), .int f4, .ref a5, .int (nI u6), .int f7, .int f8, .int f9, .int f10, .int (nI u11), .int (nI u12), .int (nI u13), .ref a14, .ref a15, .ref a16, .ref a17, .int f18, .int f19, .ref a20, .ref a21, .int (nI u9.2.1), .ref a23, .ref a24, .ref a25, .int (nI u26), .int f27, .ref a28, .int (nI u29)])), (a0, .inl (κ 0, 21375, .inl u9.2.2.1)), (a21, .inl (κ 0, 40, .inl u9.2.2.2))]) (fun _ _ => True) := by
  refine ct_of (by decide +kernel) (Nat.le_of_ble_eq_true rfl) ?_
  intro p e s m args below meth c A ls hx hb hr hml hts hown hlk hin hKK hK hA hP hD hS hI hl
  have hS : va_S A s.heap s.heap [] := hS
  have hFX : FX p s m args c cX12_cut 5 RX12 := ⟨hx, hb, hml, hown, hts⟩
  have hl : lv_has ls 5 [(0, .ref m0), (1, .int za), (2, .int zb), (3, .int zc)] := hl
  refine lv_aload_n hx hb dX12_cut_0 rfl (lv_at hl 0 rfl) ?_
  refine lv_iload_n hx hb dX12_cut_1 rfl (lv_at hl 1 rfl) ?_
  refine cr_V (As := [.int za]) (rest := []) hFX hKK (s_X12_isTable l D κ m0 a0 a1 a2 u3 f4 a5 u6 f7 f8 f9 f10 u11 u12 u13 a14 a15 a16 a17 f18 f19 a20 a21 u22 a23 a24 a25 u26 f27 a28 u29 w za h_a0) 1 gV_X12_70 hdV_X12_isTable rfl rfl ⟨Nat.le_of_ble_eq_true rfl, Nat.le_of_ble_eq_true rfl⟩ rfl rfl (Nat.le_of_ble_eq_true rfl) dX12_cut_2 ⟨Nat.le_of_ble_eq_true rfl, Nat.le_of_ble_eq_true rfl⟩ hl.1 hP 0 12 rfl rfl rfl (hP.sub [0, 1] rfl) (fun r__1 hp_2 => ?_)
  replace hp_2 : ((r__1 = 1 ∧ (∃ j : Nat, j < 3 ∧ za = nI j)) ∨ (r__1 = 0)) := hp_2
  have ha_3 := hp_2
  clear hp_2
  rcases ha_3 with ⟨rfl, ⟨j_4, hj_4, rfl⟩⟩ | rfl
  · refine W.eq (g2 := F0 m 5 ls [.int 1]) rfl ?_
    refine lv_if_eq (tgt := 31) hx hb dX12_cut_5 (by decide) (fun c_6 => absurd c_6 (by decide)) (fun c_6 => ?_)
    refine lv_aload_n hx hb dX12_cut_8 rfl (lv_at hl 0 rfl) ?_
    refine va_get (D := D) (ci := 12) (v := .ref a0) (C := RX12) (T := TX12) (N := 30) hx hb hts inlX12 hown hK hP 0 rfl rfl 0 (by decide) (hts _ mw_187) (fun _ h9 => h9) rfl dX12_cut_9 ?_
    refine lv_iload_n hx hb dX12_cut_12 rfl (lv_at hl 1 rfl) ?_
    refine lv_iconst (v := 3) hx hb dX12_cut_13 (by decide) ?_
    refine cr_S (As := [.int (nI j_4), .int 3]) (rest := [.ref a0]) hFX hKK (s_X12_at l D κ j_4 3) 2 gS_X12_66 hdS_X12_at rfl rfl ⟨Nat.le_of_ble_eq_true rfl, Nat.le_of_ble_eq_true rfl⟩ rfl rfl (Nat.le_of_ble_eq_true rfl) dX12_cut_14 ⟨Nat.le_of_ble_eq_true rfl, Nat.le_of_ble_eq_true rfl⟩ hl.1 (hP.sub [] rfl) (fun _ hp_7 => ?_)
    refine W.eq (g2 := F0 m 17 ls [.int (nI (7123 * j_4 + 3)), .ref a0]) rfl ?_
    refine va_iald hx hb hK hP 1 0 rfl rfl (i := nI (7123 * j_4 + 3)) (vp_in_nI (n := (7123 * j_4 + 3)) (by omega) (by omega)) dX12_cut_17 ?_
    refine kv (v := .int (w (7123 * j_4 + 3))) (by rw [nI_clamp (by omega)]) ?_
    obtain ⟨n_8, hn_8, en_8⟩ : ∃ n9 : Nat, n9 ≤ 6 ∧ w (7123 * j_4 + 3) = nI n9 := id (h_a0 _ _ (mTOP (t := j_4) (by omega) (by omega)))
    refine kv (v := .int (nI n_8)) (congrArg Value.int en_8) ?_
    refine lv_bipush (v := 6) hx hb dX12_cut_18 (by decide) ?_
    refine lv_icmp_eq (tgt := 31) hx hb dX12_cut_20 (by decide) (fun c_9 => ?_) (fun c_9 => ?_)
    · have nc_9 := cv_eq (a := n_8) (b := 6) (by omega) (by omega) c_9
      refine lv_iconst (v := (-1)) hx hb dX12_cut_31 (by decide) ?_
      exact ct_iret hx hb hr hlk rfl hS hP hD ((-1), u22, w, nx) rfl ⟨(show u22 ≤ 40 from (by first | assumption | omega | rfl | exact Or.inl (by assumption) | exact Or.inr (by assumption))), (show Pw w from (by first | assumption | omega | rfl | exact Or.inl (by assumption) | exact Or.inr (by assumption))), (show Dl dq w from (by first | assumption | omega | rfl | exact Or.inl (by assumption) | exact Or.inr (by assumption))), (show Pb 40 39 nx from (by first | assumption | omega | rfl | exact Or.inl (by assumption) | exact Or.inr (by assumption)))⟩ [0, 1, 2] rfl (by decide) trivial (Nat.le_of_ble_eq_true rfl) (Nat.le_of_ble_eq_true rfl) dX12_cut_32
    · have nc_9 := cv_ne (a := n_8) (b := 6) (by omega) (by omega) c_9
      refine lv_iload_n hx hb dX12_cut_23 rfl (lv_at hl 2 rfl) ?_
      refine lv_if_lt (tgt := 31) hx hb dX12_cut_24 (by decide) (fun c_10 => ?_) (fun c_10 => ?_)
      · refine lv_iconst (v := (-1)) hx hb dX12_cut_31 (by decide) ?_
        exact ct_iret hx hb hr hlk rfl hS hP hD ((-1), u22, w, nx) rfl ⟨(show u22 ≤ 40 from (by first | assumption | omega | rfl | exact Or.inl (by assumption) | exact Or.inr (by assumption))), (show Pw w from (by first | assumption | omega | rfl | exact Or.inl (by assumption) | exact Or.inr (by assumption))), (show Dl dq w from (by first | assumption | omega | rfl | exact Or.inl (by assumption) | exact Or.inr (by assumption))), (show Pb 40 39 nx from (by first | assumption | omega | rfl | exact Or.inl (by assumption) | exact Or.inr (by assumption)))⟩ [0, 1, 2] rfl (by decide) trivial (Nat.le_of_ble_eq_true rfl) (Nat.le_of_ble_eq_true rfl) dX12_cut_32
      · refine lv_iload_n hx hb dX12_cut_27 rfl (lv_at hl 3 rfl) ?_
        refine lv_if_ge (tgt := 33) hx hb dX12_cut_28 (by decide) (fun c_11 => ?_) (fun c_11 => ?_)
        · refine lv_aload_n hx hb dX12_cut_33 rfl (lv_at hl 0 rfl) ?_
          refine lv_iconst (v := 0) hx hb dX12_cut_34 (by decide) ?_
          refine va_put (D := D) (ci := 12) (v := .int 0) (ty := tyX12 22) (C := RX12) (T := TX12) (N := 30) hx hb hts inlX12 tyX12 tyX12_ok nmX12 hown hK hP hD hS 0 rfl rfl 22 (by decide) (hts _ mw_1029) (fun _ h9 => h9) rfl (tyX12_ok 22 (by decide)) rfl rfl (Nat.le_of_ble_eq_true rfl) dX12_cut_35 (fun H locs hP hD hS => ?_)
          have hP : va_P D vwCl [(m0, .inr (12, [.ref a0, .ref a1, .ref a2, .int (nI u3), .int f4, .ref a5, .int (nI u6), .int f7, .int f8, .int f9, .int f10, .int (nI u11), .int (nI u12), .int (nI u13), .ref a14, .ref a15, .ref a16, .ref a17, .int f18, .int f19, .ref a20, .ref a21, .int 0, .ref a23, .ref a24, .ref a25, .int (nI u26), .int f27, .ref a28, .int (nI u29)])), (a0, .inl (κ 0, 21375, .inl w)), (a21, .inl (κ 0, 40, .inl nx))] H := hP
          have hD : va_D A [(m0, .inr (12, [.ref a0, .ref a1, .ref a2, .int (nI u3), .int f4, .ref a5, .int (nI u6), .int f7, .int f8, .int f9, .int f10, .int (nI u11), .int (nI u12), .int (nI u13), .ref a14, .ref a15, .ref a16, .ref a17, .int f18, .int f19, .ref a20, .ref a21, .int 0, .ref a23, .ref a24, .ref a25, .int (nI u26), .int f27, .ref a28, .int (nI u29)])), (a0, .inl (κ 0, 21375, .inl w)), (a21, .inl (κ 0, 40, .inl nx))] := hD
          refine lv_iconst (v := 0) hx hb dX12_cut_38 (by decide) ?_
          refine lv_istore (lv' := [(4, .int 0), (0, .ref m0), (1, .int (nI j_4)), (2, .int zb), (3, .int zc)]) hx hb dX12_cut_39 hl (by decide) rfl (fun ls hl => ?_)
          refine loop_dn (fun k9 H locs ls => ∃ (k4_41 : Nat), ∃ (v22_41 : Nat), ∃ (ga21_41 : Nat → Int32), (v22_41 ≤ k4_41) ∧ (k4_41 ≤ 40) ∧ Pb 40 39 ga21_41 ∧ 41 - k4_41 = k9 ∧ va_P D vwCl [(m0, .inr (12, [.ref a0, .ref a1, .ref a2, .int (nI u3), .int f4, .ref a5, .int (nI u6), .int f7, .int f8, .int f9, .int f10, .int (nI u11), .int (nI u12), .int (nI u13), .ref a14, .ref a15, .ref a16, .ref a17, .int f18, .int f19, .ref a20, .ref a21, .int (nI v22_41), .ref a23, .ref a24, .ref a25, .int (nI u26), .int f27, .ref a28, .int (nI u29)])), (a0, .inl (κ 0, 21375, .inl w)), (a21, .inl (κ 0, 40, .inl ga21_41))] H ∧ va_D A [(m0, .inr (12, [.ref a0, .ref a1, .ref a2, .int (nI u3), .int f4, .ref a5, .int (nI u6), .int f7, .int f8, .int f9, .int f10, .int (nI u11), .int (nI u12), .int (nI u13), .ref a14, .ref a15, .ref a16, .ref a17, .int f18, .int f19, .ref a20, .ref a21, .int (nI v22_41), .ref a23, .ref a24, .ref a25, .int (nI u26), .int f27, .ref a28, .int (nI u29)])), (a0, .inl (κ 0, 21375, .inl w)), (a21, .inl (κ 0, 40, .inl ga21_41))] ∧ va_S A s.heap H locs ∧ lv_has ls 5 [(4, .int (nI k4_41)), (0, .ref m0), (1, .int (nI j_4)), (2, .int zb), (3, .int zc)]) (fun k9 H locs ls hI41 ih41 => ?_) (41 - 0) _ _ _ ⟨0, 0, nx, (by omega), (by omega), h_a21, rfl, hP, hD, hS, lv_sub hl [0, 1, 2, 3, 4] rfl⟩
          obtain ⟨k4_41, v22_41, ga21_41, hl41_0, hl41_1, hg41_0, hm41, hP, hD, hS, hl⟩ := hI41
          refine lv_iload hx hb dX12_cut_41 (lv_at hl 0 rfl) ?_
          refine lv_aload_n hx hb dX12_cut_43 rfl (lv_at hl 1 rfl) ?_
          refine lv_iload_n hx hb dX12_cut_44 rfl (lv_at hl 2 rfl) ?_
          refine cr_V (As := [.int (nI j_4)]) (rest := [.int (nI k4_41)]) hFX hKK (s2_X12_viewMany l D κ m0 a0 a1 a2 u3 f4 a5 u6 f7 f8 f9 f10 u11 u12 u13 a14 a15 a16 a17 f18 f19 a20 a21 v22_41 a23 a24 a25 u26 f27 a28 u29 w j_4 h_a0 (by omega)) 1 gV_X12_341 hdV_X12_viewMany rfl rfl ⟨Nat.le_of_ble_eq_true rfl, Nat.le_of_ble_eq_true rfl⟩ rfl rfl (Nat.le_of_ble_eq_true rfl) dX12_cut_45 ⟨Nat.le_of_ble_eq_true rfl, Nat.le_of_ble_eq_true rfl⟩ hl.1 hP 0 12 rfl rfl rfl (hP.sub [0, 1] rfl) (fun n__12 hp_13 => ?_)
          replace hp_13 : n__12 ≤ 40 ∧ n__12 = vmF w j_4 := hp_13
          obtain ⟨h_14, h_15⟩ := hp_13
          refine W.eq (g2 := F0 m 48 ls [.int (nI n__12), .int (nI k4_41)]) rfl ?_
          refine lv_icmp_ge (tgt := 100) hx hb dX12_cut_48 (by decide) (fun c_16 => ?_) (fun c_16 => ?_)
          · have nc_16 := cv_le (a := n__12) (b := k4_41) (by omega) (by omega) c_16
            refine lv_aload_n hx hb dX12_cut_100 rfl (lv_at hl 1 rfl) ?_
            refine lv_iload_n hx hb dX12_cut_101 rfl (lv_at hl 2 rfl) ?_
            refine ct_V (wr := []) (As := [.int (nI j_4)]) (rest := []) hFX hKK hP hD hS hA (d_X12_lays l D κ m0 a0 a1 a2 u3 f4 a5 u6 f7 f8 f9 f10 u11 u12 u13 a14 a15 a16 a17 f18 f19 a20 a21 v22_41 a23 a24 a25 u26 f27 a28 u29 w ga21_41 j_4 dq (by omega) h_a0 hg41_0 h_dl (by omega) ⟨_, (by omega), en_8⟩) 1 gV_X12_351 hdV_X12_lays ⟨Nat.le_of_ble_eq_true rfl, Nat.le_of_ble_eq_true rfl⟩ rfl rfl (Nat.le_of_ble_eq_true rfl) dX12_cut_102 ⟨Nat.le_of_ble_eq_true rfl, Nat.le_of_ble_eq_true rfl⟩ hl.1 [0, 1, 2] [] rfl rfl (by decide) (by decide) (by decide) 0 12 rfl rfl rfl trivial (fun u_19 H locs hp_20 _ hP hD hS hz_ hk_ => ?_)
            obtain ⟨r__17, g_a0__18⟩ := u_19
            replace hP : va_P D vwCl [(m0, .inr (12, [.ref a0, .ref a1, .ref a2, .int (nI u3), .int f4, .ref a5, .int (nI u6), .int f7, .int f8, .int f9, .int f10, .int (nI u11), .int (nI u12), .int (nI u13), .ref a14, .ref a15, .ref a16, .ref a17, .int f18, .int f19, .ref a20, .ref a21, .int (nI v22_41), .ref a23, .ref a24, .ref a25, .int (nI u26), .int f27, .ref a28, .int (nI u29)])), (a0, .inl (κ 0, 21375, .inl g_a0__18)), (a21, .inl (κ 0, 40, .inl ga21_41))] H := hP
            replace hD : va_D A [(m0, .inr (12, [.ref a0, .ref a1, .ref a2, .int (nI u3), .int f4, .ref a5, .int (nI u6), .int f7, .int f8, .int f9, .int f10, .int (nI u11), .int (nI u12), .int (nI u13), .ref a14, .ref a15, .ref a16, .ref a17, .int f18, .int f19, .ref a20, .ref a21, .int (nI v22_41), .ref a23, .ref a24, .ref a25, .int (nI u26), .int f27, .ref a28, .int (nI u29)])), (a0, .inl (κ 0, 21375, .inl g_a0__18)), (a21, .inl (κ 0, 40, .inl ga21_41))] := hD
            replace hp_20 : Pw g_a0__18 ∧ Dl dq g_a0__18 := hp_20
            obtain ⟨h_21, h_22⟩ := hp_20
            refine W.eq (g2 := F0 m 105 ls [.int r__17]) rfl ?_
            exact ct_iret hx hb hr hlk rfl hS hP hD (r__17, v22_41, g_a0__18, ga21_41) rfl ⟨(show v22_41 ≤ 40 from (by first | assumption | omega | rfl | exact Or.inl (by assumption) | exact Or.inr (by assumption))), (show Pw g_a0__18 from (by first | assumption | omega | rfl | exact Or.inl (by assumption) | exact Or.inr (by assumption))), (show Dl dq g_a0__18 from (by first | assumption | omega | rfl | exact Or.inl (by assumption) | exact Or.inr (by assumption))), (show Pb 40 39 ga21_41 from (by first | assumption | omega | rfl | exact Or.inl (by assumption) | exact Or.inr (by assumption)))⟩ [0, 1, 2] rfl (by decide) trivial (Nat.le_of_ble_eq_true rfl) (Nat.le_of_ble_eq_true rfl) dX12_cut_105
          · have nc_16 := cv_nle (a := n__12) (b := k4_41) (by omega) (by omega) c_16
            refine lv_iload hx hb dX12_cut_51 (lv_at hl 0 rfl) ?_
            refine lv_iload_n hx hb dX12_cut_53 rfl (lv_at hl 3 rfl) ?_
            refine lv_icmp_lt (tgt := 94) hx hb dX12_cut_54 (by decide) (fun c_23 => ?_) (fun c_23 => ?_)
            · refine lv_iinc (v := (nI (k4_41 + 1))) (lv' := [(4, .int (nI (k4_41 + 1))), (0, .ref m0), (1, .int (nI j_4)), (2, .int zb), (3, .int zc)]) hx hb dX12_cut_94 hl (k := 0) rfl (nI_i k4_41) (by decide) rfl (fun ls hl => ?_)
              refine lv_goto (tgt := 41) hx hb dX12_cut_97 (by decide) ?_
              exact ih41 _ _ _ _ (by omega) ⟨(k4_41 + 1), v22_41, ga21_41, (by omega), (by omega), hg41_0, rfl, hP, hD, hS, lv_sub hl [0, 1, 2, 3, 4] rfl⟩
            · refine lv_iload hx hb dX12_cut_57 (lv_at hl 0 rfl) ?_
              refine lv_iload_n hx hb dX12_cut_59 rfl (lv_at hl 3 rfl) ?_
              refine lv_isub hx hb dX12_cut_60 ?_
              refine lv_topi (fun x_24 ex_24 => ?_)
              refine lv_iload_n hx hb dX12_cut_61 rfl (lv_at hl 4 rfl) ?_
              refine lv_icmp_lt (tgt := 68) hx hb dX12_cut_62 (by decide) (fun c_25 => ?_) (fun c_25 => ?_)
              · refine lv_aload_n hx hb dX12_cut_68 rfl (lv_at hl 1 rfl) ?_
                refine va_get (D := D) (ci := 12) (v := .ref a21) (C := RX12) (T := TX12) (N := 30) hx hb hts inlX12 hown hK hP 0 rfl rfl 21 (by decide) (hts _ mw_199) (fun _ h9 => h9) rfl dX12_cut_69 ?_
                refine lv_aload_n hx hb dX12_cut_72 rfl (lv_at hl 1 rfl) ?_
                refine va_get (D := D) (ci := 12) (v := .int (nI v22_41)) (C := RX12) (T := TX12) (N := 30) hx hb hts inlX12 hown hK hP 0 rfl rfl 22 (by decide) (hts _ mw_1029) (fun _ h9 => h9) rfl dX12_cut_73 ?_
                refine lv_aload_n hx hb dX12_cut_76 rfl (lv_at hl 1 rfl) ?_
                refine lv_iload_n hx hb dX12_cut_77 rfl (lv_at hl 2 rfl) ?_
                refine lv_iload hx hb dX12_cut_78 (lv_at hl 0 rfl) ?_
                refine cr_V (As := [.int (nI j_4), .int (nI k4_41)]) (rest := [.int (nI v22_41), .ref a21]) hFX hKK (s2_X12_viewed l D κ m0 a0 a1 a2 u3 f4 a5 u6 f7 f8 f9 f10 u11 u12 u13 a14 a15 a16 a17 f18 f19 a20 a21 v22_41 a23 a24 a25 u26 f27 a28 u29 w j_4 k4_41 h_a0 (by omega) (by omega)) 2 gV_X12_345 hdV_X12_viewed rfl rfl ⟨Nat.le_of_ble_eq_true rfl, Nat.le_of_ble_eq_true rfl⟩ rfl rfl (Nat.le_of_ble_eq_true rfl) dX12_cut_80 ⟨Nat.le_of_ble_eq_true rfl, Nat.le_of_ble_eq_true rfl⟩ hl.1 hP 0 12 rfl rfl rfl (hP.sub [0, 1] rfl) (fun n__26 hp_27 => ?_)
                replace hp_27 : n__26 ≤ 39 ∧ n__26 = vwF w j_4 k4_41 := hp_27
                obtain ⟨h_28, h_29⟩ := hp_27
                refine W.eq (g2 := F0 m 83 ls [.int (nI n__26), .int (nI v22_41), .ref a21]) rfl ?_
                refine va_iast hx hb hK hP hD hS 2 0 rfl rfl (i := nI v22_41) (x := nI n__26) (vp_in_nI (n := v22_41) (by omega) (by omega)) dX12_cut_83 (fun H locs hP hD hS => ?_)
                rw [nI_clamp (by omega)] at hP hD
                have hP : va_P D vwCl [(m0, .inr (12, [.ref a0, .ref a1, .ref a2, .int (nI u3), .int f4, .ref a5, .int (nI u6), .int f7, .int f8, .int f9, .int f10, .int (nI u11), .int (nI u12), .int (nI u13), .ref a14, .ref a15, .ref a16, .ref a17, .int f18, .int f19, .ref a20, .ref a21, .int (nI v22_41), .ref a23, .ref a24, .ref a25, .int (nI u26), .int f27, .ref a28, .int (nI u29)])), (a0, .inl (κ 0, 21375, .inl w)), (a21, .inl (κ 0, 40, .inl (upd ga21_41 v22_41 (nI n__26))))] H := hP
                have hD : va_D A [(m0, .inr (12, [.ref a0, .ref a1, .ref a2, .int (nI u3), .int f4, .ref a5, .int (nI u6), .int f7, .int f8, .int f9, .int f10, .int (nI u11), .int (nI u12), .int (nI u13), .ref a14, .ref a15, .ref a16, .ref a17, .int f18, .int f19, .ref a20, .ref a21, .int (nI v22_41), .ref a23, .ref a24, .ref a25, .int (nI u26), .int f27, .ref a28, .int (nI u29)])), (a0, .inl (κ 0, 21375, .inl w)), (a21, .inl (κ 0, 40, .inl (upd ga21_41 v22_41 (nI n__26))))] := hD
                have hf_31 : Pb 40 39 (upd ga21_41 v22_41 (nI n__26)) := (Pb_upd hg41_0 (fun _ => ⟨n__26, by omega, rfl⟩))
                generalize upd ga21_41 v22_41 (nI n__26) = g_30 at hP hD hf_31
                refine lv_aload_n hx hb dX12_cut_84 rfl (lv_at hl 1 rfl) ?_
                refine lv_dup hx hb dX12_cut_85 rfl ?_
                refine va_get (D := D) (ci := 12) (v := .int (nI v22_41)) (C := RX12) (T := TX12) (N := 30) hx hb hts inlX12 hown hK hP 0 rfl rfl 22 (by decide) (hts _ mw_1029) (fun _ h9 => h9) rfl dX12_cut_86 ?_
                refine lv_iconst (v := 1) hx hb dX12_cut_89 (by decide) ?_
                refine lv_iadd hx hb dX12_cut_90 ?_
                refine ki (v := (nI (v22_41 + 1))) (nI_add v22_41 1) ?_
                refine va_put (D := D) (ci := 12) (v := .int (nI (v22_41 + 1))) (ty := tyX12 22) (C := RX12) (T := TX12) (N := 30) hx hb hts inlX12 tyX12 tyX12_ok nmX12 hown hK hP hD hS 0 rfl rfl 22 (by decide) (hts _ mw_1029) (fun _ h9 => h9) rfl (tyX12_ok 22 (by decide)) rfl rfl (Nat.le_of_ble_eq_true rfl) dX12_cut_91 (fun H locs hP hD hS => ?_)
                have hP : va_P D vwCl [(m0, .inr (12, [.ref a0, .ref a1, .ref a2, .int (nI u3), .int f4, .ref a5, .int (nI u6), .int f7, .int f8, .int f9, .int f10, .int (nI u11), .int (nI u12), .int (nI u13), .ref a14, .ref a15, .ref a16, .ref a17, .int f18, .int f19, .ref a20, .ref a21, .int (nI (v22_41 + 1)), .ref a23, .ref a24, .ref a25, .int (nI u26), .int f27, .ref a28, .int (nI u29)])), (a0, .inl (κ 0, 21375, .inl w)), (a21, .inl (κ 0, 40, .inl g_30))] H := hP
                have hD : va_D A [(m0, .inr (12, [.ref a0, .ref a1, .ref a2, .int (nI u3), .int f4, .ref a5, .int (nI u6), .int f7, .int f8, .int f9, .int f10, .int (nI u11), .int (nI u12), .int (nI u13), .ref a14, .ref a15, .ref a16, .ref a17, .int f18, .int f19, .ref a20, .ref a21, .int (nI (v22_41 + 1)), .ref a23, .ref a24, .ref a25, .int (nI u26), .int f27, .ref a28, .int (nI u29)])), (a0, .inl (κ 0, 21375, .inl w)), (a21, .inl (κ 0, 40, .inl g_30))] := hD
                refine lv_iinc (v := (nI (k4_41 + 1))) (lv' := [(4, .int (nI (k4_41 + 1))), (0, .ref m0), (1, .int (nI j_4)), (2, .int zb), (3, .int zc)]) hx hb dX12_cut_94 hl (k := 0) rfl (nI_i k4_41) (by decide) rfl (fun ls hl => ?_)
                refine lv_goto (tgt := 41) hx hb dX12_cut_97 (by decide) ?_
                exact ih41 _ _ _ _ (by omega) ⟨(k4_41 + 1), (v22_41 + 1), g_30, (by omega), (by omega), hf_31, rfl, hP, hD, hS, lv_sub hl [0, 1, 2, 3, 4] rfl⟩
              · refine lv_goto (tgt := 94) hx hb dX12_cut_65 (by decide) ?_
                refine lv_iinc (v := (nI (k4_41 + 1))) (lv' := [(4, .int (nI (k4_41 + 1))), (0, .ref m0), (1, .int (nI j_4)), (2, .int zb), (3, .int zc)]) hx hb dX12_cut_94 hl (k := 0) rfl (nI_i k4_41) (by decide) rfl (fun ls hl => ?_)
                refine lv_goto (tgt := 41) hx hb dX12_cut_97 (by decide) ?_
                exact ih41 _ _ _ _ (by omega) ⟨(k4_41 + 1), v22_41, ga21_41, (by omega), (by omega), hg41_0, rfl, hP, hD, hS, lv_sub hl [0, 1, 2, 3, 4] rfl⟩
        · refine lv_iconst (v := (-1)) hx hb dX12_cut_31 (by decide) ?_
          exact ct_iret hx hb hr hlk rfl hS hP hD ((-1), u22, w, nx) rfl ⟨(show u22 ≤ 40 from (by first | assumption | omega | rfl | exact Or.inl (by assumption) | exact Or.inr (by assumption))), (show Pw w from (by first | assumption | omega | rfl | exact Or.inl (by assumption) | exact Or.inr (by assumption))), (show Dl dq w from (by first | assumption | omega | rfl | exact Or.inl (by assumption) | exact Or.inr (by assumption))), (show Pb 40 39 nx from (by first | assumption | omega | rfl | exact Or.inl (by assumption) | exact Or.inr (by assumption)))⟩ [0, 1, 2] rfl (by decide) trivial (Nat.le_of_ble_eq_true rfl) (Nat.le_of_ble_eq_true rfl) dX12_cut_32
  · refine W.eq (g2 := F0 m 5 ls [.int 0]) rfl ?_
    refine lv_if_eq (tgt := 31) hx hb dX12_cut_5 (by decide) (fun c_32 => ?_) (fun c_32 => absurd (by decide) c_32)
    refine lv_iconst (v := (-1)) hx hb dX12_cut_31 (by decide) ?_
    exact ct_iret hx hb hr hlk rfl hS hP hD ((-1), u22, w, nx) rfl ⟨(show u22 ≤ 40 from (by first | assumption | omega | rfl | exact Or.inl (by assumption) | exact Or.inr (by assumption))), (show Pw w from (by first | assumption | omega | rfl | exact Or.inl (by assumption) | exact Or.inr (by assumption))), (show Dl dq w from (by first | assumption | omega | rfl | exact Or.inl (by assumption) | exact Or.inr (by assumption))), (show Pb 40 39 nx from (by first | assumption | omega | rfl | exact Or.inl (by assumption) | exact Or.inr (by assumption)))⟩ [0, 1, 2] rfl (by decide) trivial (Nat.le_of_ble_eq_true rfl) (Nat.le_of_ble_eq_true rfl) dX12_cut_32
set_option maxHeartbeats 4000000 in
set_option maxRecDepth 100000 in
theorem d_X12_unlike (l : Launch) (D : va_G) (κ : Nat → ClassId) (m0 : Nat) (a0 : Nat) (a1 : Nat) (a2 : Nat) (u3 : Nat) (f4 : Int32) (a5 : Nat) (u6 : Nat) (f7 : Int32) (f8 : Int32) (f9 : Int32) (f10 : Int32) (u11 : Nat) (u12 : Nat) (u13 : Nat) (a14 : Nat) (a15 : Nat) (a16 : Nat) (a17 : Nat) (f18 : Int32) (f19 : Int32) (a20 : Nat) (a21 : Nat) (u22 : Nat) (a23 : Nat) (a24 : Nat) (a25 : Nat) (u26 : Nat) (f27 : Int32) (a28 : Nat) (u29 : Nat) (w : Nat → Int32) (nx : Nat → Int32) (za : Int32) (zb : Int32) (dq : Nat → Int32) (h22 : u22 ≤ 40) (h_a0 : Pw w) (h_a21 : Pb 40 39 nx) (h_dl : Dl dq w) : Ct l yX12_unlike (wl yX12_unlike cX12_unlike 3 (some .int)) { frames := 10, cells := 0, slots := 0, locals := 237 } D κ [.ref m0, .int za, .int zb] [(m0, .inr (12, [.ref a0, .ref a1, .ref a2, .int (nI u3), .int f4, .ref a5, .int (nI u6), .int f7, .int f8, .int f9, .int f10, .int (nI u11), .int (nI u12), .int (nI u13), .ref a14, .ref a15, .ref a16, .ref a17, .int f18, .int f19, .ref a20, .ref a21, .int (nI u22), .ref a23, .ref a24, .ref a25, .int (nI u26), .int f27, .ref a28, .int (nI u29)])), (a0, .inl (κ 0, 21375, .inl w)), (a21, .inl (κ 0, 40, .inl nx))] (fun _ => True) (fun u9 : Int32 × Nat × (Nat → Int32) × (Nat → Int32) => some (.int u9.1)) (fun u9 : Int32 × Nat × (Nat → Int32) × (Nat → Int32) => u9.2.1 ≤ 40 ∧ Pw u9.2.2.1 ∧ Dl dq u9.2.2.1 ∧ Pb 40 39 u9.2.2.2) (fun u9 : Int32 × Nat × (Nat → Int32) × (Nat → Int32) => [(m0, .inr (12, [.ref a0, .ref a1, .ref a2, .int (nI u3), .int f4, .ref a5, .int (nI u6), .int f7, .int f8, .int f9, .int f10, .int (nI u11), .int (nI u12), .int (nI u13), .ref a14, .ref a15, .ref a16, .ref a17, .int f18, .int f19, .ref a20, .ref a21, .int (nI u9.2.1), .ref a23, .ref a24, .ref a25, .int (nI u26), .int f27, .ref a28, .int (nI u29)])), (a0, .inl (κ 0, 21375, .inl u9.2.2.1)), (a21, .inl (κ 0, 40, .inl u9.2.2.2))]) (fun _ _ => True) := by
  refine ct_of (by decide +kernel) (Nat.le_of_ble_eq_true rfl) ?_
  intro p e s m args below meth c A ls hx hb hr hml hts hown hlk hin hKK hK hA hP hD hS hI hl
  have hS : va_S A s.heap s.heap [] := hS
  have hFX : FX p s m args c cX12_unlike 3 RX12 := ⟨hx, hb, hml, hown, hts⟩
  have hl : lv_has ls 3 [(0, .ref m0), (1, .int za), (2, .int zb)] := hl
  refine lv_aload_n hx hb dX12_unlike_0 rfl (lv_at hl 0 rfl) ?_
  refine lv_iload_n hx hb dX12_unlike_1 rfl (lv_at hl 1 rfl) ?_
  refine lv_iload_n hx hb dX12_unlike_2 rfl (lv_at hl 2 rfl) ?_
  refine cr_V (As := [.int za, .int zb]) (rest := []) hFX hKK (s_X12_mayView l D κ m0 a0 a1 a2 u3 f4 a5 u6 f7 f8 f9 f10 u11 u12 u13 a14 a15 a16 a17 f18 f19 a20 a21 u22 a23 a24 a25 u26 f27 a28 u29 w za zb h_a0) 2 gV_X12_336 hdV_X12_mayView rfl rfl ⟨Nat.le_of_ble_eq_true rfl, Nat.le_of_ble_eq_true rfl⟩ rfl rfl (Nat.le_of_ble_eq_true rfl) dX12_unlike_3 ⟨Nat.le_of_ble_eq_true rfl, Nat.le_of_ble_eq_true rfl⟩ hl.1 hP 0 12 rfl rfl rfl (hP.sub [0, 1] rfl) (fun r__1 hp_2 => ?_)
  replace hp_2 : ((r__1 = 1 ∧ (∃ j : Nat, (j < 3 ∧ ∃ n9 : Nat, n9 ≤ 5 ∧ w (7123 * j + 3) = nI n9) ∧ za = nI j) ∧ (∃ c : Nat, c < 8 ∧ zb = nI c)) ∨ (r__1 = 0)) := hp_2
  have ha_3 := hp_2
  clear hp_2
  rcases ha_3 with ⟨rfl, ⟨j_4, ⟨hj_4, a_6⟩, rfl⟩, ⟨c_7, hc_7, rfl⟩⟩ | rfl
  · refine W.eq (g2 := F0 m 6 ls [.int 1]) rfl ?_
    refine lv_if_ne (tgt := 11) hx hb dX12_unlike_6 (by decide) (fun c_9 => ?_) (fun c_9 => absurd c_9 (by decide))
    refine lv_aload_n hx hb dX12_unlike_11 rfl (lv_at hl 0 rfl) ?_
    refine lv_iload_n hx hb dX12_unlike_12 rfl (lv_at hl 1 rfl) ?_
    refine lv_iload_n hx hb dX12_unlike_13 rfl (lv_at hl 2 rfl) ?_
    refine ct_V (wr := []) (As := [.int (nI j_4), .int (nI c_7)]) (rest := []) hFX hKK hP hD hS hA (s_X12_laysUnlike l D κ m0 a0 a1 a2 u3 f4 a5 u6 f7 f8 f9 f10 u11 u12 u13 a14 a15 a16 a17 f18 f19 a20 a21 u22 a23 a24 a25 u26 f27 a28 u29 w nx j_4 c_7 h_a0 h_a21 (by omega) (by omega)) 2 gV_X12_366 hdV_X12_laysUnlike ⟨Nat.le_of_ble_eq_true rfl, Nat.le_of_ble_eq_true rfl⟩ rfl rfl (Nat.le_of_ble_eq_true rfl) dX12_unlike_14 ⟨Nat.le_of_ble_eq_true rfl, Nat.le_of_ble_eq_true rfl⟩ hl.1 [0, 1, 2] [] rfl rfl (by decide) (by decide) (by decide) 0 12 rfl rfl rfl trivial (fun u_12 H locs hp_13 _ hP hD hS hz_ hk_ => ?_)
    obtain ⟨y22__10, g_a21__11⟩ := u_12
    replace hP : va_P D vwCl [(m0, .inr (12, [.ref a0, .ref a1, .ref a2, .int (nI u3), .int f4, .ref a5, .int (nI u6), .int f7, .int f8, .int f9, .int f10, .int (nI u11), .int (nI u12), .int (nI u13), .ref a14, .ref a15, .ref a16, .ref a17, .int f18, .int f19, .ref a20, .ref a21, .int (nI y22__10), .ref a23, .ref a24, .ref a25, .int (nI u26), .int f27, .ref a28, .int (nI u29)])), (a0, .inl (κ 0, 21375, .inl w)), (a21, .inl (κ 0, 40, .inl g_a21__11))] H := hP
    replace hD : va_D A [(m0, .inr (12, [.ref a0, .ref a1, .ref a2, .int (nI u3), .int f4, .ref a5, .int (nI u6), .int f7, .int f8, .int f9, .int f10, .int (nI u11), .int (nI u12), .int (nI u13), .ref a14, .ref a15, .ref a16, .ref a17, .int f18, .int f19, .ref a20, .ref a21, .int (nI y22__10), .ref a23, .ref a24, .ref a25, .int (nI u26), .int f27, .ref a28, .int (nI u29)])), (a0, .inl (κ 0, 21375, .inl w)), (a21, .inl (κ 0, 40, .inl g_a21__11))] := hD
    replace hp_13 : y22__10 ≤ 40 ∧ Pb 40 39 g_a21__11 := hp_13
    obtain ⟨h_14, h_15⟩ := hp_13
    refine W.eq (g2 := F0 m 17 ls []) rfl ?_
    refine lv_aload_n hx hb dX12_unlike_17 rfl (lv_at hl 0 rfl) ?_
    refine lv_iload_n hx hb dX12_unlike_18 rfl (lv_at hl 1 rfl) ?_
    refine ct_V (wr := []) (As := [.int (nI j_4)]) (rest := []) hFX hKK hP hD hS hA (d_X12_lays l D κ m0 a0 a1 a2 u3 f4 a5 u6 f7 f8 f9 f10 u11 u12 u13 a14 a15 a16 a17 f18 f19 a20 a21 y22__10 a23 a24 a25 u26 f27 a28 u29 w g_a21__11 j_4 dq (by omega) h_a0 h_15 h_dl (by omega) (by assumption)) 1 gV_X12_351 hdV_X12_lays ⟨Nat.le_of_ble_eq_true rfl, Nat.le_of_ble_eq_true rfl⟩ rfl rfl (Nat.le_of_ble_eq_true rfl) dX12_unlike_19 ⟨Nat.le_of_ble_eq_true rfl, Nat.le_of_ble_eq_true rfl⟩ hl.1 [0, 1, 2] [] rfl rfl (by decide) (by decide) (by decide) 0 12 rfl rfl rfl trivial (fun u_18 H locs hp_19 _ hP hD hS hz_ hk_ => ?_)
    obtain ⟨r__16, g_a0__17⟩ := u_18
    replace hP : va_P D vwCl [(m0, .inr (12, [.ref a0, .ref a1, .ref a2, .int (nI u3), .int f4, .ref a5, .int (nI u6), .int f7, .int f8, .int f9, .int f10, .int (nI u11), .int (nI u12), .int (nI u13), .ref a14, .ref a15, .ref a16, .ref a17, .int f18, .int f19, .ref a20, .ref a21, .int (nI y22__10), .ref a23, .ref a24, .ref a25, .int (nI u26), .int f27, .ref a28, .int (nI u29)])), (a0, .inl (κ 0, 21375, .inl g_a0__17)), (a21, .inl (κ 0, 40, .inl g_a21__11))] H := hP
    replace hD : va_D A [(m0, .inr (12, [.ref a0, .ref a1, .ref a2, .int (nI u3), .int f4, .ref a5, .int (nI u6), .int f7, .int f8, .int f9, .int f10, .int (nI u11), .int (nI u12), .int (nI u13), .ref a14, .ref a15, .ref a16, .ref a17, .int f18, .int f19, .ref a20, .ref a21, .int (nI y22__10), .ref a23, .ref a24, .ref a25, .int (nI u26), .int f27, .ref a28, .int (nI u29)])), (a0, .inl (κ 0, 21375, .inl g_a0__17)), (a21, .inl (κ 0, 40, .inl g_a21__11))] := hD
    replace hp_19 : Pw g_a0__17 ∧ Dl dq g_a0__17 := hp_19
    obtain ⟨h_20, h_21⟩ := hp_19
    refine W.eq (g2 := F0 m 22 ls [.int r__16]) rfl ?_
    exact ct_iret hx hb hr hlk rfl hS hP hD (r__16, y22__10, g_a0__17, g_a21__11) rfl ⟨(show y22__10 ≤ 40 from (by first | assumption | omega | rfl | exact Or.inl (by assumption) | exact Or.inr (by assumption))), (show Pw g_a0__17 from (by first | assumption | omega | rfl | exact Or.inl (by assumption) | exact Or.inr (by assumption))), (show Dl dq g_a0__17 from (by first | assumption | omega | rfl | exact Or.inl (by assumption) | exact Or.inr (by assumption))), (show Pb 40 39 g_a21__11 from (by first | assumption | omega | rfl | exact Or.inl (by assumption) | exact Or.inr (by assumption)))⟩ [0, 1, 2] rfl (by decide) trivial (Nat.le_of_ble_eq_true rfl) (Nat.le_of_ble_eq_true rfl) dX12_unlike_22
  · refine W.eq (g2 := F0 m 6 ls [.int 0]) rfl ?_
    refine lv_if_ne (tgt := 11) hx hb dX12_unlike_6 (by decide) (fun c_22 => absurd c_22 (by decide)) (fun c_22 => ?_)
    refine lv_iconst (v := (-1)) hx hb dX12_unlike_9 (by decide) ?_
    exact ct_iret hx hb hr hlk rfl hS hP hD ((-1), u22, w, nx) rfl ⟨(show u22 ≤ 40 from (by first | assumption | omega | rfl | exact Or.inl (by assumption) | exact Or.inr (by assumption))), (show Pw w from (by first | assumption | omega | rfl | exact Or.inl (by assumption) | exact Or.inr (by assumption))), (show Dl dq w from (by first | assumption | omega | rfl | exact Or.inl (by assumption) | exact Or.inr (by assumption))), (show Pb 40 39 nx from (by first | assumption | omega | rfl | exact Or.inl (by assumption) | exact Or.inr (by assumption)))⟩ [0, 1, 2] rfl (by decide) trivial (Nat.le_of_ble_eq_true rfl) (Nat.le_of_ble_eq_true rfl) dX12_unlike_10
set_option maxHeartbeats 4000000 in
set_option maxRecDepth 100000 in
theorem d_X12_back (l : Launch) (D : va_G) (κ : Nat → ClassId) (m0 : Nat) (a0 : Nat) (a1 : Nat) (a2 : Nat) (u3 : Nat) (f4 : Int32) (a5 : Nat) (u6 : Nat) (f7 : Int32) (f8 : Int32) (f9 : Int32) (f10 : Int32) (u11 : Nat) (u12 : Nat) (u13 : Nat) (a14 : Nat) (a15 : Nat) (a16 : Nat) (a17 : Nat) (f18 : Int32) (f19 : Int32) (a20 : Nat) (a21 : Nat) (u22 : Nat) (a23 : Nat) (a24 : Nat) (a25 : Nat) (u26 : Nat) (f27 : Int32) (a28 : Nat) (u29 : Nat) (w : Nat → Int32) (za : Int32) (dq : Nat → Int32) (h_a0 : Pw w) (h_dl : Dl dq w) : Ct l yX12_back (wl yX12_back cX12_back 2 (some .int)) { frames := 2, cells := 0, slots := 0, locals := 46 } D κ [.ref m0, .int za] [(m0, .inr (12, [.ref a0, .ref a1, .ref a2, .int (nI u3), .int f4, .ref a5, .int (nI u6), .int f7, .int f8, .int f9, .int f10, .int (nI u11), .int (nI u12), .int (nI u13), .ref a14, .ref a15, .ref a16, .ref a17, .int f18, .int f19, .ref a20, .ref a21, .int (nI u22), .ref a23, .ref a24, .ref a25, .int (nI u26), .int f27, .ref a28, .int (nI u29)])), (a0, .inl (κ 0, 21375, .inl w))] (fun _ => True) (fun u9 : Int32 × (Nat → Int32) => some (.int u9.1)) (fun u9 : Int32 × (Nat → Int32) => Pw u9.2 ∧ Dl dq u9.2) (fun u9 : Int32 × (Nat → Int32) => [(m0, .inr (12, [.ref a0, .ref a1, .ref a2, .int (nI u3), .int f4, .ref a5, .int (nI u6), .int f7, .int f8, .int f9, .int f10, .int (nI u11), .int (nI u12), .int (nI u13), .ref a14, .ref a15, .ref a16, .ref a17, .int f18, .int f19, .ref a20, .ref a21, .int (nI u22), .ref a23, .ref a24, .ref a25, .int (nI u26), .int f27, .ref a28, .int (nI u29)])), (a0, .inl (κ 0, 21375, .inl u9.2))]) (fun _ _ => True) := by
  refine ct_of (by decide +kernel) (Nat.le_of_ble_eq_true rfl) ?_
  intro p e s m args below meth c A ls hx hb hr hml hts hown hlk hin hKK hK hA hP hD hS hI hl
  have hS : va_S A s.heap s.heap [] := hS
  have hFX : FX p s m args c cX12_back 2 RX12 := ⟨hx, hb, hml, hown, hts⟩
  have hl : lv_has ls 2 [(0, .ref m0), (1, .int za)] := hl
  refine lv_aload_n hx hb dX12_back_0 rfl (lv_at hl 0 rfl) ?_
  refine lv_iload_n hx hb dX12_back_1 rfl (lv_at hl 1 rfl) ?_
  refine cr_V (As := [.int za]) (rest := []) hFX hKK (s_X12_isTable l D κ m0 a0 a1 a2 u3 f4 a5 u6 f7 f8 f9 f10 u11 u12 u13 a14 a15 a16 a17 f18 f19 a20 a21 u22 a23 a24 a25 u26 f27 a28 u29 w za h_a0) 1 gV_X12_70 hdV_X12_isTable rfl rfl ⟨Nat.le_of_ble_eq_true rfl, Nat.le_of_ble_eq_true rfl⟩ rfl rfl (Nat.le_of_ble_eq_true rfl) dX12_back_2 ⟨Nat.le_of_ble_eq_true rfl, Nat.le_of_ble_eq_true rfl⟩ hl.1 hP 0 12 rfl rfl rfl (hP.sub [0, 1] rfl) (fun r__1 hp_2 => ?_)
  replace hp_2 : ((r__1 = 1 ∧ (∃ j : Nat, j < 3 ∧ za = nI j)) ∨ (r__1 = 0)) := hp_2
  have ha_3 := hp_2
  clear hp_2
  rcases ha_3 with ⟨rfl, ⟨j_4, hj_4, rfl⟩⟩ | rfl
  · refine W.eq (g2 := F0 m 5 ls [.int 1]) rfl ?_
    refine lv_if_eq (tgt := 21) hx hb dX12_back_5 (by decide) (fun c_6 => absurd c_6 (by decide)) (fun c_6 => ?_)
    refine lv_aload_n hx hb dX12_back_8 rfl (lv_at hl 0 rfl) ?_
    refine va_get (D := D) (ci := 12) (v := .ref a0) (C := RX12) (T := TX12) (N := 30) hx hb hts inlX12 hown hK hP 0 rfl rfl 0 (by decide) (hts _ mw_187) (fun _ h9 => h9) rfl dX12_back_9 ?_
    refine lv_iload_n hx hb dX12_back_12 rfl (lv_at hl 1 rfl) ?_
    refine lv_iconst (v := 3) hx hb dX12_back_13 (by decide) ?_
    refine cr_S (As := [.int (nI j_4), .int 3]) (rest := [.ref a0]) hFX hKK (s_X12_at l D κ j_4 3) 2 gS_X12_66 hdS_X12_at rfl rfl ⟨Nat.le_of_ble_eq_true rfl, Nat.le_of_ble_eq_true rfl⟩ rfl rfl (Nat.le_of_ble_eq_true rfl) dX12_back_14 ⟨Nat.le_of_ble_eq_true rfl, Nat.le_of_ble_eq_true rfl⟩ hl.1 (hP.sub [] rfl) (fun _ hp_7 => ?_)
    refine W.eq (g2 := F0 m 17 ls [.int (nI (7123 * j_4 + 3)), .ref a0]) rfl ?_
    refine va_iald hx hb hK hP 1 0 rfl rfl (i := nI (7123 * j_4 + 3)) (vp_in_nI (n := (7123 * j_4 + 3)) (by omega) (by omega)) dX12_back_17 ?_
    refine kv (v := .int (w (7123 * j_4 + 3))) (by rw [nI_clamp (by omega)]) ?_
    obtain ⟨n_8, hn_8, en_8⟩ : ∃ n9 : Nat, n9 ≤ 6 ∧ w (7123 * j_4 + 3) = nI n9 := id (h_a0 _ _ (mTOP (t := j_4) (by omega) (by omega)))
    refine kv (v := .int (nI n_8)) (congrArg Value.int en_8) ?_
    refine lv_if_ne (tgt := 23) hx hb dX12_back_18 (by decide) (fun c_9 => ?_) (fun c_9 => ?_)
    · have nc_9 := cv_ne (a := n_8) (b := 0) (by omega) (by omega) c_9
      refine lv_aload_n hx hb dX12_back_23 rfl (lv_at hl 0 rfl) ?_
      refine va_get (D := D) (ci := 12) (v := .ref a0) (C := RX12) (T := TX12) (N := 30) hx hb hts inlX12 hown hK hP 0 rfl rfl 0 (by decide) (hts _ mw_187) (fun _ h9 => h9) rfl dX12_back_24 ?_
      refine lv_iload_n hx hb dX12_back_27 rfl (lv_at hl 1 rfl) ?_
      refine lv_iconst (v := 3) hx hb dX12_back_28 (by decide) ?_
      refine cr_S (As := [.int (nI j_4), .int 3]) (rest := [.ref a0]) hFX hKK (s_X12_at l D κ j_4 3) 2 gS_X12_66 hdS_X12_at rfl rfl ⟨Nat.le_of_ble_eq_true rfl, Nat.le_of_ble_eq_true rfl⟩ rfl rfl (Nat.le_of_ble_eq_true rfl) dX12_back_29 ⟨Nat.le_of_ble_eq_true rfl, Nat.le_of_ble_eq_true rfl⟩ hl.1 (hP.sub [] rfl) (fun _ hp_10 => ?_)
      refine W.eq (g2 := F0 m 32 ls [.int (nI (7123 * j_4 + 3)), .ref a0]) rfl ?_
      refine lv_dup2_11 hx hb dX12_back_32 rfl rfl ?_
      refine va_iald hx hb hK hP 1 0 rfl rfl (i := nI (7123 * j_4 + 3)) (vp_in_nI (n := (7123 * j_4 + 3)) (by omega) (by omega)) dX12_back_33 ?_
      refine kv (v := .int (nI n_8)) (by rw [nI_clamp (by omega), show w (7123 * j_4 + 3) = (nI n_8) from en_8]) ?_
      refine lv_iconst (v := 1) hx hb dX12_back_34 (by decide) ?_
      refine lv_isub hx hb dX12_back_35 ?_
      refine ki (v := (nI (n_8 - 1))) (pk_sub (a := n_8) (b := 1) (by omega)) ?_
      refine va_iast hx hb hK hP hD hS 1 0 rfl rfl (i := nI (7123 * j_4 + 3)) (x := nI (n_8 - 1)) (vp_in_nI (n := (7123 * j_4 + 3)) (by omega) (by omega)) dX12_back_36 (fun H locs hP hD hS => ?_)
      rw [nI_clamp (by omega)] at hP hD
      have hP : va_P D vwCl [(m0, .inr (12, [.ref a0, .ref a1, .ref a2, .int (nI u3), .int f4, .ref a5, .int (nI u6), .int f7, .int f8, .int f9, .int f10, .int (nI u11), .int (nI u12), .int (nI u13), .ref a14, .ref a15, .ref a16, .ref a17, .int f18, .int f19, .ref a20, .ref a21, .int (nI u22), .ref a23, .ref a24, .ref a25, .int (nI u26), .int f27, .ref a28, .int (nI u29)])), (a0, .inl (κ 0, 21375, .inl (upd w (7123 * j_4 + 3) (nI (n_8 - 1)))))] H := hP
      have hD : va_D A [(m0, .inr (12, [.ref a0, .ref a1, .ref a2, .int (nI u3), .int f4, .ref a5, .int (nI u6), .int f7, .int f8, .int f9, .int f10, .int (nI u11), .int (nI u12), .int (nI u13), .ref a14, .ref a15, .ref a16, .ref a17, .int f18, .int f19, .ref a20, .ref a21, .int (nI u22), .ref a23, .ref a24, .ref a25, .int (nI u26), .int f27, .ref a28, .int (nI u29)])), (a0, .inl (κ 0, 21375, .inl (upd w (7123 * j_4 + 3) (nI (n_8 - 1)))))] := hD
      have hf_12 : Pw (upd w (7123 * j_4 + 3) (nI (n_8 - 1))) := (Pw_upd h_a0 (mTOP (t := j_4) (by omega) (by omega)) ⟨n_8 - 1, by omega, rfl⟩)
      have hf_13 : Dl dq (upd w (7123 * j_4 + 3) (nI (n_8 - 1))) := (Dl_upd h_dl (by omega))
      generalize upd w (7123 * j_4 + 3) (nI (n_8 - 1)) = g_11 at hP hD hf_12 hf_13
      refine lv_aload_n hx hb dX12_back_37 rfl (lv_at hl 0 rfl) ?_
      refine va_get (D := D) (ci := 12) (v := .ref a0) (C := RX12) (T := TX12) (N := 30) hx hb hts inlX12 hown hK hP 0 rfl rfl 0 (by decide) (hts _ mw_187) (fun _ h9 => h9) rfl dX12_back_38 ?_
      refine lv_iload_n hx hb dX12_back_41 rfl (lv_at hl 1 rfl) ?_
      refine lv_iconst (v := 3) hx hb dX12_back_42 (by decide) ?_
      refine cr_S (As := [.int (nI j_4), .int 3]) (rest := [.ref a0]) hFX hKK (s_X12_at l D κ j_4 3) 2 gS_X12_66 hdS_X12_at rfl rfl ⟨Nat.le_of_ble_eq_true rfl, Nat.le_of_ble_eq_true rfl⟩ rfl rfl (Nat.le_of_ble_eq_true rfl) dX12_back_43 ⟨Nat.le_of_ble_eq_true rfl, Nat.le_of_ble_eq_true rfl⟩ hl.1 (hP.sub [] rfl) (fun _ hp_14 => ?_)
      refine W.eq (g2 := F0 m 46 ls [.int (nI (7123 * j_4 + 3)), .ref a0]) rfl ?_
      refine va_iald hx hb hK hP 1 0 rfl rfl (i := nI (7123 * j_4 + 3)) (vp_in_nI (n := (7123 * j_4 + 3)) (by omega) (by omega)) dX12_back_46 ?_
      refine kv (v := .int (g_11 (7123 * j_4 + 3))) (by rw [nI_clamp (by omega)]) ?_
      obtain ⟨n_15, hn_15, en_15⟩ : ∃ n9 : Nat, n9 ≤ 6 ∧ g_11 (7123 * j_4 + 3) = nI n9 := id (hf_12 _ _ (mTOP (t := j_4) (by omega) (by omega)))
      refine kv (v := .int (nI n_15)) (congrArg Value.int en_15) ?_
      exact ct_iret hx hb hr hlk rfl hS hP hD (nI n_15, g_11) rfl ⟨(show Pw g_11 from (by first | assumption | omega | rfl | exact Or.inl (by assumption) | exact Or.inr (by assumption))), (show Dl dq g_11 from (by first | assumption | omega | rfl | exact Or.inl (by assumption) | exact Or.inr (by assumption)))⟩ [0, 1] rfl (by decide) trivial (Nat.le_of_ble_eq_true rfl) (Nat.le_of_ble_eq_true rfl) dX12_back_47
    · have nc_9 := cv_eq (a := n_8) (b := 0) (by omega) (by omega) c_9
      refine lv_iconst (v := (-1)) hx hb dX12_back_21 (by decide) ?_
      exact ct_iret hx hb hr hlk rfl hS hP hD ((-1), w) rfl ⟨(show Pw w from (by first | assumption | omega | rfl | exact Or.inl (by assumption) | exact Or.inr (by assumption))), (show Dl dq w from (by first | assumption | omega | rfl | exact Or.inl (by assumption) | exact Or.inr (by assumption)))⟩ [0, 1] rfl (by decide) trivial (Nat.le_of_ble_eq_true rfl) (Nat.le_of_ble_eq_true rfl) dX12_back_22
  · refine W.eq (g2 := F0 m 5 ls [.int 0]) rfl ?_
    refine lv_if_eq (tgt := 21) hx hb dX12_back_5 (by decide) (fun c_16 => ?_) (fun c_16 => absurd (by decide) c_16)
    refine lv_iconst (v := (-1)) hx hb dX12_back_21 (by decide) ?_
    exact ct_iret hx hb hr hlk rfl hS hP hD ((-1), w) rfl ⟨(show Pw w from (by first | assumption | omega | rfl | exact Or.inl (by assumption) | exact Or.inr (by assumption))), (show Dl dq w from (by first | assumption | omega | rfl | exact Or.inl (by assumption) | exact Or.inr (by assumption)))⟩ [0, 1] rfl (by decide) trivial (Nat.le_of_ble_eq_true rfl) (Nat.le_of_ble_eq_true rfl) dX12_back_22
set_option maxHeartbeats 4000000 in
set_option maxRecDepth 100000 in
theorem d_X12_joined (l : Launch) (D : va_G) (κ : Nat → ClassId) (m0 : Nat) (a0 : Nat) (a1 : Nat) (a2 : Nat) (u3 : Nat) (f4 : Int32) (a5 : Nat) (u6 : Nat) (f7 : Int32) (f8 : Int32) (f9 : Int32) (f10 : Int32) (u11 : Nat) (u12 : Nat) (u13 : Nat) (a14 : Nat) (a15 : Nat) (a16 : Nat) (a17 : Nat) (f18 : Int32) (f19 : Int32) (a20 : Nat) (a21 : Nat) (u22 : Nat) (a23 : Nat) (a24 : Nat) (a25 : Nat) (u26 : Nat) (f27 : Int32) (a28 : Nat) (u29 : Nat) (w : Nat → Int32) (un : Nat → Int32) (dr : Nat → Int32) (za : Int32) (zb : Int32) (zc : Int32) (zd : Int32) (ze : Int32) (dq : Nat → Int32) (h3 : u3 ≤ 6) (h_a0 : Pw w) (h_a2 : Pu un) (h_a17 : Pd dr) (h_dl : Dl dq w) : Ct l yX12_joined (wl yX12_joined cX12_joined 8 (some .int)) { frames := 9, cells := 0, slots := 0, locals := 213 } D κ [.ref m0, .int za, .int zb, .int zc, .int zd, .int ze] [(m0, .inr (12, [.ref a0, .ref a1, .ref a2, .int (nI u3), .int f4, .ref a5, .int (nI u6), .int f7, .int f8, .int f9, .int f10, .int (nI u11), .int (nI u12), .int (nI u13), .ref a14, .ref a15, .ref a16, .ref a17, .int f18, .int f19, .ref a20, .ref a21, .int (nI u22), .ref a23, .ref a24, .ref a25, .int (nI u26), .int f27, .ref a28, .int (nI u29)])), (a0, .inl (κ 0, 21375, .inl w)), (a2, .inl (κ 0, 128214, .inl un)), (a17, .inl (κ 0, 7123, .inl dr))] (fun _ => True) (fun u9 : Int32 × Nat × (Nat → Int32) × (Nat → Int32) × (Nat → Int32) => some (.int u9.1)) (fun u9 : Int32 × Nat × (Nat → Int32) × (Nat → Int32) × (Nat → Int32) => u9.2.1 ≤ 6 ∧ Pw u9.2.2.1 ∧ Dl dq u9.2.2.1 ∧ Pu u9.2.2.2.1 ∧ Pd u9.2.2.2.2) (fun u9 : Int32 × Nat × (Nat → Int32) × (Nat → Int32) × (Nat → Int32) => [(m0, .inr (12, [.ref a0, .ref a1, .ref a2, .int (nI u9.2.1), .int f4, .ref a5, .int (nI u6), .int f7, .int f8, .int f9, .int f10, .int (nI u11), .int (nI u12), .int (nI u13), .ref a14, .ref a15, .ref a16, .ref a17, .int f18, .int f19, .ref a20, .ref a21, .int (nI u22), .ref a23, .ref a24, .ref a25, .int (nI u26), .int f27, .ref a28, .int (nI u29)])), (a0, .inl (κ 0, 21375, .inl u9.2.2.1)), (a2, .inl (κ 0, 128214, .inl u9.2.2.2.1)), (a17, .inl (κ 0, 7123, .inl u9.2.2.2.2))]) (fun _ _ => True) := by
  refine ct_of (by decide +kernel) (Nat.le_of_ble_eq_true rfl) ?_
  intro p e s m args below meth c A ls hx hb hr hml hts hown hlk hin hKK hK hA hP hD hS hI hl
  have hS : va_S A s.heap s.heap [] := hS
  have hFX : FX p s m args c cX12_joined 8 RX12 := ⟨hx, hb, hml, hown, hts⟩
  have hl : lv_has ls 8 [(0, .ref m0), (1, .int za), (2, .int zb), (3, .int zc), (4, .int zd), (5, .int ze)] := hl
  refine lv_aload_n hx hb dX12_joined_0 rfl (lv_at hl 0 rfl) ?_
  refine lv_iload_n hx hb dX12_joined_1 rfl (lv_at hl 1 rfl) ?_
  refine lv_iload_n hx hb dX12_joined_2 rfl (lv_at hl 2 rfl) ?_
  refine cr_V (As := [.int za, .int zb]) (rest := []) hFX hKK (s2_X12_isColumn l D κ m0 a0 a1 a2 u3 f4 a5 u6 f7 f8 f9 f10 u11 u12 u13 a14 a15 a16 a17 f18 f19 a20 a21 u22 a23 a24 a25 u26 f27 a28 u29 w za zb h_a0) 2 gV_X12_312 hdV_X12_isColumn rfl rfl ⟨Nat.le_of_ble_eq_true rfl, Nat.le_of_ble_eq_true rfl⟩ rfl rfl (Nat.le_of_ble_eq_true rfl) dX12_joined_3 ⟨Nat.le_of_ble_eq_true rfl, Nat.le_of_ble_eq_true rfl⟩ hl.1 hP 0 12 rfl rfl rfl (hP.sub [0, 1] rfl) (fun r__1 hp_2 => ?_)
  replace hp_2 : ((r__1 = 1 ∧ (∃ j : Nat, j < 3 ∧ za = nI j) ∧ (∃ c : Nat, (c < 8 ∧ ∀ j9 : Nat, za = nI j9 → j9 < 3 → c < nv (w (7123 * j9 + 1))) ∧ zb = nI c)) ∨ (r__1 = 0)) := hp_2
  have ha_3 := hp_2
  clear hp_2
  rcases ha_3 with ⟨rfl, ⟨j_4, hj_4, rfl⟩, ⟨c_6, ⟨hc_6, a_8⟩, rfl⟩⟩ | rfl
  · refine W.eq (g2 := F0 m 6 ls [.int 1]) rfl ?_
    refine lv_if_eq (tgt := 44) hx hb dX12_joined_6 (by decide) (fun c_9 => absurd c_9 (by decide)) (fun c_9 => ?_)
    refine lv_aload_n hx hb dX12_joined_9 rfl (lv_at hl 0 rfl) ?_
    refine lv_iload_n hx hb dX12_joined_10 rfl (lv_at hl 3 rfl) ?_
    refine lv_iload hx hb dX12_joined_11 (lv_at hl 4 rfl) ?_
    refine cr_V (As := [.int zc, .int zd]) (rest := []) hFX hKK (s2_X12_isColumn l D κ m0 a0 a1 a2 u3 f4 a5 u6 f7 f8 f9 f10 u11 u12 u13 a14 a15 a16 a17 f18 f19 a20 a21 u22 a23 a24 a25 u26 f27 a28 u29 w zc zd h_a0) 2 gV_X12_312 hdV_X12_isColumn rfl rfl ⟨Nat.le_of_ble_eq_true rfl, Nat.le_of_ble_eq_true rfl⟩ rfl rfl (Nat.le_of_ble_eq_true rfl) dX12_joined_13 ⟨Nat.le_of_ble_eq_true rfl, Nat.le_of_ble_eq_true rfl⟩ hl.1 hP 0 12 rfl rfl rfl (hP.sub [0, 1] rfl) (fun r__10 hp_11 => ?_)
    replace hp_11 : ((r__10 = 1 ∧ (∃ j : Nat, j < 3 ∧ zc = nI j) ∧ (∃ c : Nat, (c < 8 ∧ ∀ j9 : Nat, zc = nI j9 → j9 < 3 → c < nv (w (7123 * j9 + 1))) ∧ zd = nI c)) ∨ (r__10 = 0)) := hp_11
    have ha_12 := hp_11
    clear hp_11
    rcases ha_12 with ⟨rfl, ⟨j_13, hj_13, rfl⟩, ⟨c_15, ⟨hc_15, a_17⟩, rfl⟩⟩ | rfl
    · refine W.eq (g2 := F0 m 16 ls [.int 1]) rfl ?_
      refine lv_if_eq (tgt := 44) hx hb dX12_joined_16 (by decide) (fun c_18 => absurd c_18 (by decide)) (fun c_18 => ?_)
      refine lv_iload hx hb dX12_joined_19 (lv_at hl 5 rfl) ?_
      refine lv_i2l (v := ze.toInt64) hx hb dX12_joined_21 rfl ?_
      refine lv_lconst (v := 0) hx hb dX12_joined_22 (by decide) ?_
      refine lv_ldc2 hx hb hown (hts _ mw_413) dX12_joined_23 ?_
      refine cr_S (As := [.long ze.toInt64, .long 0, .long 2]) (rest := []) hFX hKK (s_X12_isIn l D κ ze.toInt64 0 2) 3 gS_X12_62 hdS_X12_isIn rfl rfl ⟨Nat.le_of_ble_eq_true rfl, Nat.le_of_ble_eq_true rfl⟩ rfl rfl (Nat.le_of_ble_eq_true rfl) dX12_joined_26 ⟨Nat.le_of_ble_eq_true rfl, Nat.le_of_ble_eq_true rfl⟩ hl.1 (hP.sub [] rfl) (fun r__19 hp_20 => ?_)
      replace hp_20 : ((r__19 = 1 ∧ ¬ lg_cmp ze.toInt64 (0 : Int64) < 0 ∧ ¬ 0 < lg_cmp ze.toInt64 (2 : Int64)) ∨ (r__19 = 0 ∧ (lg_cmp ze.toInt64 (0 : Int64) < 0 ∨ 0 < lg_cmp ze.toInt64 (2 : Int64)))) := hp_20
      have ha_21 := hp_20
      clear hp_20
      rcases ha_21 with ⟨rfl, a_22, a_23⟩ | ⟨rfl, a_24⟩
      · refine W.eq (g2 := F0 m 29 ls [.int 1]) rfl ?_
        have hin_25 : (0 : Int) ≤ ze.toInt ∧ ze.toInt ≤ (2 : Int) := l_in (l_of rfl) (by decide) (by decide) a_22 a_23
        obtain ⟨j_26, hj_26, rfl⟩ : ∃ j9 : Nat, (j9 : Int) ≤ (2 : Int) ∧ ze = nI j9 := i_nat (by omega) (by omega)
        refine lv_if_eq (tgt := 44) hx hb dX12_joined_29 (by decide) (fun c_27 => absurd c_27 (by decide)) (fun c_27 => ?_)
        refine lv_iload hx hb dX12_joined_32 (lv_at hl 5 rfl) ?_
        refine lv_iload_n hx hb dX12_joined_34 rfl (lv_at hl 1 rfl) ?_
        refine lv_icmp_eq (tgt := 44) hx hb dX12_joined_35 (by decide) (fun c_28 => ?_) (fun c_28 => ?_)
        · have nc_28 := cv_eq (a := j_26) (b := j_4) (by omega) (by omega) c_28
          refine lv_iconst (v := (-1)) hx hb dX12_joined_44 (by decide) ?_
          exact ct_iret hx hb hr hlk rfl hS hP hD ((-1), u3, w, un, dr) rfl ⟨(show u3 ≤ 6 from (by first | assumption | omega | rfl | exact Or.inl (by assumption) | exact Or.inr (by assumption))), (show Pw w from (by first | assumption | omega | rfl | exact Or.inl (by assumption) | exact Or.inr (by assumption))), (show Dl dq w from (by first | assumption | omega | rfl | exact Or.inl (by assumption) | exact Or.inr (by assumption))), (show Pu un from (by first | assumption | omega | rfl | exact Or.inl (by assumption) | exact Or.inr (by assumption))), (show Pd dr from (by first | assumption | omega | rfl | exact Or.inl (by assumption) | exact Or.inr (by assumption)))⟩ [0, 1, 2, 3] rfl (by decide) trivial (Nat.le_of_ble_eq_true rfl) (Nat.le_of_ble_eq_true rfl) dX12_joined_45
        · have nc_28 := cv_ne (a := j_26) (b := j_4) (by omega) (by omega) c_28
          refine lv_iload hx hb dX12_joined_38 (lv_at hl 5 rfl) ?_
          refine lv_iload_n hx hb dX12_joined_40 rfl (lv_at hl 3 rfl) ?_
          refine lv_icmp_ne (tgt := 46) hx hb dX12_joined_41 (by decide) (fun c_29 => ?_) (fun c_29 => ?_)
          · have nc_29 := cv_ne (a := j_26) (b := j_13) (by omega) (by omega) c_29
            refine lv_aload_n hx hb dX12_joined_46 rfl (lv_at hl 0 rfl) ?_
            refine lv_iload_n hx hb dX12_joined_47 rfl (lv_at hl 1 rfl) ?_
            refine lv_iload_n hx hb dX12_joined_48 rfl (lv_at hl 2 rfl) ?_
            refine lv_iload_n hx hb dX12_joined_49 rfl (lv_at hl 3 rfl) ?_
            refine lv_iload hx hb dX12_joined_50 (lv_at hl 4 rfl) ?_
            refine cr_V (As := [.int (nI j_4), .int (nI c_6), .int (nI j_13), .int (nI c_15)]) (rest := []) hFX hKK (s_X12_matching l D κ m0 a0 a1 a2 u3 f4 a5 u6 f7 f8 f9 f10 u11 u12 u13 a14 a15 a16 a17 f18 f19 a20 a21 u22 a23 a24 a25 u26 f27 a28 u29 w j_4 c_6 j_13 c_15 h_a0 (by omega) (by omega) (by omega) (by omega)) 4 gV_X12_411 hdV_X12_matching rfl rfl ⟨Nat.le_of_ble_eq_true rfl, Nat.le_of_ble_eq_true rfl⟩ rfl rfl (Nat.le_of_ble_eq_true rfl) dX12_joined_52 ⟨Nat.le_of_ble_eq_true rfl, Nat.le_of_ble_eq_true rfl⟩ hl.1 hP 0 12 rfl rfl rfl (hP.sub [0, 1] rfl) (fun r__30 hp_31 => ?_)
            refine W.eq (g2 := F0 m 55 ls [.int r__30]) rfl ?_
            refine lv_istore (lv' := [(6, .int r__30), (0, .ref m0), (1, .int (nI j_4)), (2, .int (nI c_6)), (3, .int (nI j_13)), (4, .int (nI c_15)), (5, .int (nI j_26))]) hx hb dX12_joined_55 hl (by decide) rfl (fun ls hl => ?_)
            refine lv_iload hx hb dX12_joined_57 (lv_at hl 0 rfl) ?_
            refine lv_iconst (v := (-1)) hx hb dX12_joined_59 (by decide) ?_
            refine lv_icmp_eq (tgt := 77) hx hb dX12_joined_60 (by decide) (fun c_32 => ?_) (fun c_32 => ?_)
            · refine lv_iconst (v := (-1)) hx hb dX12_joined_77 (by decide) ?_
              exact ct_iret hx hb hr hlk rfl hS hP hD ((-1), u3, w, un, dr) rfl ⟨(show u3 ≤ 6 from (by first | assumption | omega | rfl | exact Or.inl (by assumption) | exact Or.inr (by assumption))), (show Pw w from (by first | assumption | omega | rfl | exact Or.inl (by assumption) | exact Or.inr (by assumption))), (show Dl dq w from (by first | assumption | omega | rfl | exact Or.inl (by assumption) | exact Or.inr (by assumption))), (show Pu un from (by first | assumption | omega | rfl | exact Or.inl (by assumption) | exact Or.inr (by assumption))), (show Pd dr from (by first | assumption | omega | rfl | exact Or.inl (by assumption) | exact Or.inr (by assumption)))⟩ [0, 1, 2, 3] rfl (by decide) trivial (Nat.le_of_ble_eq_true rfl) (Nat.le_of_ble_eq_true rfl) dX12_joined_78
            · refine lv_aload_n hx hb dX12_joined_63 rfl (lv_at hl 1 rfl) ?_
              refine lv_iload_n hx hb dX12_joined_64 rfl (lv_at hl 2 rfl) ?_
              refine lv_iload_n hx hb dX12_joined_65 rfl (lv_at hl 3 rfl) ?_
              refine lv_iload_n hx hb dX12_joined_66 rfl (lv_at hl 4 rfl) ?_
              refine lv_iload hx hb dX12_joined_67 (lv_at hl 5 rfl) ?_
              refine lv_iload hx hb dX12_joined_69 (lv_at hl 0 rfl) ?_
              refine ct_V (wr := [(a2, .inl (κ 0, 128214, .inl un))]) (As := [.int (nI j_4), .int (nI c_6), .int (nI j_13), .int (nI c_15), .int r__30]) (rest := []) hFX hKK hP hD hS hA (s_X12_joins l D κ m0 a0 a1 a2 u3 f4 a5 u6 f7 f8 f9 f10 u11 u12 u13 a14 a15 a16 a17 f18 f19 a20 a21 u22 a23 a24 a25 u26 f27 a28 u29 w dr r__30 j_4 c_6 j_13 c_15 h_a0 h_a17 (by omega) (by omega) (by omega) (by omega) (a_17 _ rfl (by omega))) 5 gV_X12_428 hdV_X12_joins ⟨Nat.le_of_ble_eq_true rfl, Nat.le_of_ble_eq_true rfl⟩ rfl rfl (Nat.le_of_ble_eq_true rfl) dX12_joined_71 ⟨Nat.le_of_ble_eq_true rfl, Nat.le_of_ble_eq_true rfl⟩ hl.1 [0, 1, 3] [2] rfl rfl (by decide) (by decide) (by decide) 0 12 rfl rfl rfl trivial (fun u_35 H locs hp_36 _ hP hD hS hz_ hk_ => ?_)
              obtain ⟨r__33, g_a17__34⟩ := u_35
              replace hP : va_P D vwCl [(m0, .inr (12, [.ref a0, .ref a1, .ref a2, .int (nI u3), .int f4, .ref a5, .int (nI u6), .int f7, .int f8, .int f9, .int f10, .int (nI u11), .int (nI u12), .int (nI u13), .ref a14, .ref a15, .ref a16, .ref a17, .int f18, .int f19, .ref a20, .ref a21, .int (nI u22), .ref a23, .ref a24, .ref a25, .int (nI u26), .int f27, .ref a28, .int (nI u29)])), (a0, .inl (κ 0, 21375, .inl w)), (a2, .inl (κ 0, 128214, .inl un)), (a17, .inl (κ 0, 7123, .inl g_a17__34))] H := hP.sub [1, 2, 0, 3] rfl
              replace hD : va_D A [(m0, .inr (12, [.ref a0, .ref a1, .ref a2, .int (nI u3), .int f4, .ref a5, .int (nI u6), .int f7, .int f8, .int f9, .int f10, .int (nI u11), .int (nI u12), .int (nI u13), .ref a14, .ref a15, .ref a16, .ref a17, .int f18, .int f19, .ref a20, .ref a21, .int (nI u22), .ref a23, .ref a24, .ref a25, .int (nI u26), .int f27, .ref a28, .int (nI u29)])), (a0, .inl (κ 0, 21375, .inl w)), (a2, .inl (κ 0, 128214, .inl un)), (a17, .inl (κ 0, 7123, .inl g_a17__34))] := hD.sub [1, 2, 0, 3] (by decide) rfl
              replace hp_36 : Pd g_a17__34 ∧ ((r__33 = 1) ∨ (r__33 = 0)) := hp_36
              obtain ⟨h_37, ha_38⟩ := hp_36
              rcases ha_38 with rfl | rfl
              · refine W.eq (g2 := F0 m 74 ls [.int 1]) rfl ?_
                refine lv_if_ne (tgt := 79) hx hb dX12_joined_74 (by decide) (fun c_39 => ?_) (fun c_39 => absurd c_39 (by decide))
                refine lv_aload_n hx hb dX12_joined_79 rfl (lv_at hl 1 rfl) ?_
                refine ct_V (wr := [(a17, .inl (κ 0, 7123, .inl g_a17__34))]) (As := []) (rest := []) hFX hKK hP hD hS hA (s_X12_remembers l D κ m0 a0 a1 a2 u3 f4 a5 u6 f7 f8 f9 f10 u11 u12 u13 a14 a15 a16 a17 f18 f19 a20 a21 u22 a23 a24 a25 u26 f27 a28 u29 w un (by omega) h_a0 h_a2) 0 gV_X12_296 hdV_X12_remembers ⟨Nat.le_of_ble_eq_true rfl, Nat.le_of_ble_eq_true rfl⟩ rfl rfl (Nat.le_of_ble_eq_true rfl) dX12_joined_80 ⟨Nat.le_of_ble_eq_true rfl, Nat.le_of_ble_eq_true rfl⟩ hl.1 [0, 1, 2] [3] rfl rfl (by decide) (by decide) (by decide) 0 12 rfl rfl rfl trivial (fun u_42 H locs hp_43 _ hP hD hS hz_ hk_ => ?_)
                obtain ⟨y3__40, g_a2__41⟩ := u_42
                replace hP : va_P D vwCl [(m0, .inr (12, [.ref a0, .ref a1, .ref a2, .int (nI y3__40), .int f4, .ref a5, .int (nI u6), .int f7, .int f8, .int f9, .int f10, .int (nI u11), .int (nI u12), .int (nI u13), .ref a14, .ref a15, .ref a16, .ref a17, .int f18, .int f19, .ref a20, .ref a21, .int (nI u22), .ref a23, .ref a24, .ref a25, .int (nI u26), .int f27, .ref a28, .int (nI u29)])), (a0, .inl (κ 0, 21375, .inl w)), (a2, .inl (κ 0, 128214, .inl g_a2__41)), (a17, .inl (κ 0, 7123, .inl g_a17__34))] H := hP.sub [1, 2, 3, 0] rfl
                replace hD : va_D A [(m0, .inr (12, [.ref a0, .ref a1, .ref a2, .int (nI y3__40), .int f4, .ref a5, .int (nI u6), .int f7, .int f8, .int f9, .int f10, .int (nI u11), .int (nI u12), .int (nI u13), .ref a14, .ref a15, .ref a16, .ref a17, .int f18, .int f19, .ref a20, .ref a21, .int (nI u22), .ref a23, .ref a24, .ref a25, .int (nI u26), .int f27, .ref a28, .int (nI u29)])), (a0, .inl (κ 0, 21375, .inl w)), (a2, .inl (κ 0, 128214, .inl g_a2__41)), (a17, .inl (κ 0, 7123, .inl g_a17__34))] := hD.sub [1, 2, 3, 0] (by decide) rfl
                replace hp_43 : y3__40 ≤ 6 ∧ Pu g_a2__41 := hp_43
                obtain ⟨h_44, h_45⟩ := hp_43
                refine W.eq (g2 := F0 m 83 ls []) rfl ?_
                refine lv_iconst (v := 0) hx hb dX12_joined_83 (by decide) ?_
                refine lv_istore (lv' := [(7, .int 0), (6, .int r__30), (0, .ref m0), (1, .int (nI j_4)), (2, .int (nI c_6)), (3, .int (nI j_13)), (4, .int (nI c_15)), (5, .int (nI j_26))]) hx hb dX12_joined_84 hl (by decide) rfl (fun ls hl => ?_)
                refine loop_dn (fun k9 H locs ls => ∃ (k7_86 : Nat), ∃ (ga0_86 : Nat → Int32), (k7_86 ≤ 7123) ∧ Pw ga0_86 ∧ Dl dq ga0_86 ∧ 7123 - k7_86 = k9 ∧ va_P D vwCl [(m0, .inr (12, [.ref a0, .ref a1, .ref a2, .int (nI y3__40), .int f4, .ref a5, .int (nI u6), .int f7, .int f8, .int f9, .int f10, .int (nI u11), .int (nI u12), .int (nI u13), .ref a14, .ref a15, .ref a16, .ref a17, .int f18, .int f19, .ref a20, .ref a21, .int (nI u22), .ref a23, .ref a24, .ref a25, .int (nI u26), .int f27, .ref a28, .int (nI u29)])), (a0, .inl (κ 0, 21375, .inl ga0_86)), (a2, .inl (κ 0, 128214, .inl g_a2__41)), (a17, .inl (κ 0, 7123, .inl g_a17__34))] H ∧ va_D A [(m0, .inr (12, [.ref a0, .ref a1, .ref a2, .int (nI y3__40), .int f4, .ref a5, .int (nI u6), .int f7, .int f8, .int f9, .int f10, .int (nI u11), .int (nI u12), .int (nI u13), .ref a14, .ref a15, .ref a16, .ref a17, .int f18, .int f19, .ref a20, .ref a21, .int (nI u22), .ref a23, .ref a24, .ref a25, .int (nI u26), .int f27, .ref a28, .int (nI u29)])), (a0, .inl (κ 0, 21375, .inl ga0_86)), (a2, .inl (κ 0, 128214, .inl g_a2__41)), (a17, .inl (κ 0, 7123, .inl g_a17__34))] ∧ va_S A s.heap H locs ∧ lv_has ls 8 [(7, .int (nI k7_86)), (6, .int r__30), (0, .ref m0), (1, .int (nI j_4)), (2, .int (nI c_6)), (3, .int (nI j_13)), (4, .int (nI c_15)), (5, .int (nI j_26))]) (fun k9 H locs ls hI86 ih86 => ?_) (7123 - 0) _ _ _ ⟨0, w, (by omega), h_a0, h_dl, rfl, hP, hD, hS, lv_sub hl [0, 1, 2, 3, 4, 5, 6, 7] rfl⟩
                obtain ⟨k7_86, ga0_86, hl86_0, hg86_0, hg86_1, hm86, hP, hD, hS, hl⟩ := hI86
                refine lv_iload hx hb dX12_joined_86 (lv_at hl 0 rfl) ?_
                refine lv_sipush (v := 7123) hx hb dX12_joined_88 (by decide) ?_
                refine lv_icmp_ge (tgt := 119) hx hb dX12_joined_91 (by decide) (fun c_46 => ?_) (fun c_46 => ?_)
                · have nc_46 := cv_le (a := 7123) (b := k7_86) (by omega) (by omega) c_46
                  refine lv_aload_n hx hb dX12_joined_119 rfl (lv_at hl 2 rfl) ?_
                  refine lv_iload hx hb dX12_joined_120 (lv_at hl 7 rfl) ?_
                  refine ct_V (wr := [(a2, .inl (κ 0, 128214, .inl g_a2__41)), (a17, .inl (κ 0, 7123, .inl g_a17__34))]) (As := [.int (nI j_26)]) (rest := []) hFX hKK hP hD hS hA (d_X12_viewsOff l D κ m0 a0 a1 a2 y3__40 f4 a5 u6 f7 f8 f9 f10 u11 u12 u13 a14 a15 a16 a17 f18 f19 a20 a21 u22 a23 a24 a25 u26 f27 a28 u29 ga0_86 j_26 dq hg86_0 hg86_1 (by omega)) 1 gV_X12_77 hdV_X12_viewsOff ⟨Nat.le_of_ble_eq_true rfl, Nat.le_of_ble_eq_true rfl⟩ rfl rfl (Nat.le_of_ble_eq_true rfl) dX12_joined_122 ⟨Nat.le_of_ble_eq_true rfl, Nat.le_of_ble_eq_true rfl⟩ hl.1 [0, 1] [2, 3] rfl rfl (by decide) (by decide) (by decide) 0 12 rfl rfl rfl trivial (fun g_a0__47 H locs hp_48 _ hP hD hS hz_ hk_ => ?_)
                  replace hP : va_P D vwCl [(m0, .inr (12, [.ref a0, .ref a1, .ref a2, .int (nI y3__40), .int f4, .ref a5, .int (nI u6), .int f7, .int f8, .int f9, .int f10, .int (nI u11), .int (nI u12), .int (nI u13), .ref a14, .ref a15, .ref a16, .ref a17, .int f18, .int f19, .ref a20, .ref a21, .int (nI u22), .ref a23, .ref a24, .ref a25, .int (nI u26), .int f27, .ref a28, .int (nI u29)])), (a0, .inl (κ 0, 21375, .inl g_a0__47)), (a2, .inl (κ 0, 128214, .inl g_a2__41)), (a17, .inl (κ 0, 7123, .inl g_a17__34))] H := hP.sub [2, 3, 0, 1] rfl
                  replace hD : va_D A [(m0, .inr (12, [.ref a0, .ref a1, .ref a2, .int (nI y3__40), .int f4, .ref a5, .int (nI u6), .int f7, .int f8, .int f9, .int f10, .int (nI u11), .int (nI u12), .int (nI u13), .ref a14, .ref a15, .ref a16, .ref a17, .int f18, .int f19, .ref a20, .ref a21, .int (nI u22), .ref a23, .ref a24, .ref a25, .int (nI u26), .int f27, .ref a28, .int (nI u29)])), (a0, .inl (κ 0, 21375, .inl g_a0__47)), (a2, .inl (κ 0, 128214, .inl g_a2__41)), (a17, .inl (κ 0, 7123, .inl g_a17__34))] := hD.sub [2, 3, 0, 1] (by decide) rfl
                  replace hp_48 : Pw g_a0__47 ∧ Dl dq g_a0__47 ∧ g_a0__47 (7123 * j_26 + 2) = ga0_86 (7123 * j_26 + 2) := hp_48
                  obtain ⟨h_49, h_50, h_51⟩ := hp_48
                  refine W.eq (g2 := F0 m 125 ls []) rfl ?_
                  refine lv_aload_n hx hb dX12_joined_125 rfl (lv_at hl 2 rfl) ?_
                  refine va_get (D := D) (ci := 12) (v := .ref a0) (C := RX12) (T := TX12) (N := 30) hx hb hts inlX12 hown hK hP 0 rfl rfl 0 (by decide) (hts _ mw_187) (fun _ h9 => h9) rfl dX12_joined_126 ?_
                  refine lv_iload hx hb dX12_joined_129 (lv_at hl 7 rfl) ?_
                  refine lv_iconst (v := 2) hx hb dX12_joined_131 (by decide) ?_
                  refine cr_S (As := [.int (nI j_26), .int 2]) (rest := [.ref a0]) hFX hKK (s_X12_at l D κ j_26 2) 2 gS_X12_66 hdS_X12_at rfl rfl ⟨Nat.le_of_ble_eq_true rfl, Nat.le_of_ble_eq_true rfl⟩ rfl rfl (Nat.le_of_ble_eq_true rfl) dX12_joined_132 ⟨Nat.le_of_ble_eq_true rfl, Nat.le_of_ble_eq_true rfl⟩ hl.1 (hP.sub [] rfl) (fun _ hp_52 => ?_)
                  refine W.eq (g2 := F0 m 135 ls [.int (nI (7123 * j_26 + 2)), .ref a0]) rfl ?_
                  refine va_iald hx hb hK hP 1 0 rfl rfl (i := nI (7123 * j_26 + 2)) (vp_in_nI (n := (7123 * j_26 + 2)) (by omega) (by omega)) dX12_joined_135 ?_
                  refine kv (v := .int (g_a0__47 (7123 * j_26 + 2))) (by rw [nI_clamp (by omega)]) ?_
                  obtain ⟨n_53, hn_53, en_53⟩ : ∃ n9 : Nat, n9 ≤ 40 ∧ g_a0__47 (7123 * j_26 + 2) = nI n9 := id (h_49 _ _ (mMANY (t := j_26) (by omega) (by omega)))
                  refine kv (v := .int (nI n_53)) (congrArg Value.int en_53) ?_
                  exact ct_iret hx hb hr hlk rfl hS hP hD (nI n_53, y3__40, g_a0__47, g_a2__41, g_a17__34) rfl ⟨(show y3__40 ≤ 6 from (by first | assumption | omega | rfl | exact Or.inl (by assumption) | exact Or.inr (by assumption))), (show Pw g_a0__47 from (by first | assumption | omega | rfl | exact Or.inl (by assumption) | exact Or.inr (by assumption))), (show Dl dq g_a0__47 from (by first | assumption | omega | rfl | exact Or.inl (by assumption) | exact Or.inr (by assumption))), (show Pu g_a2__41 from (by first | assumption | omega | rfl | exact Or.inl (by assumption) | exact Or.inr (by assumption))), (show Pd g_a17__34 from (by first | assumption | omega | rfl | exact Or.inl (by assumption) | exact Or.inr (by assumption)))⟩ [0, 1, 2, 3] rfl (by decide) trivial (Nat.le_of_ble_eq_true rfl) (Nat.le_of_ble_eq_true rfl) dX12_joined_136
                · have nc_46 := cv_nle (a := 7123) (b := k7_86) (by omega) (by omega) c_46
                  refine lv_aload_n hx hb dX12_joined_94 rfl (lv_at hl 2 rfl) ?_
                  refine va_get (D := D) (ci := 12) (v := .ref a0) (C := RX12) (T := TX12) (N := 30) hx hb hts inlX12 hown hK hP 0 rfl rfl 0 (by decide) (hts _ mw_187) (fun _ h9 => h9) rfl dX12_joined_95 ?_
                  refine lv_iload hx hb dX12_joined_98 (lv_at hl 7 rfl) ?_
                  refine lv_iload hx hb dX12_joined_100 (lv_at hl 0 rfl) ?_
                  refine cr_S (As := [.int (nI j_26), .int (nI k7_86)]) (rest := [.ref a0]) hFX hKK (s_X12_at l D κ j_26 k7_86) 2 gS_X12_66 hdS_X12_at rfl rfl ⟨Nat.le_of_ble_eq_true rfl, Nat.le_of_ble_eq_true rfl⟩ rfl rfl (Nat.le_of_ble_eq_true rfl) dX12_joined_102 ⟨Nat.le_of_ble_eq_true rfl, Nat.le_of_ble_eq_true rfl⟩ hl.1 (hP.sub [] rfl) (fun _ hp_54 => ?_)
                  refine W.eq (g2 := F0 m 105 ls [.int (nI (7123 * j_26 + k7_86)), .ref a0]) rfl ?_
                  refine lv_aload_n hx hb dX12_joined_105 rfl (lv_at hl 2 rfl) ?_
                  refine va_get (D := D) (ci := 12) (v := .ref a17) (C := RX12) (T := TX12) (N := 30) hx hb hts inlX12 hown hK hP 0 rfl rfl 17 (by decide) (hts _ mw_197) (fun _ h9 => h9) rfl dX12_joined_106 ?_
                  refine lv_iload hx hb dX12_joined_109 (lv_at hl 0 rfl) ?_
                  refine va_iald hx hb hK hP 3 0 rfl rfl (i := nI k7_86) (vp_in_nI (n := k7_86) (by omega) (by omega)) dX12_joined_111 ?_
                  refine kv (v := .int (g_a17__34 k7_86)) (by rw [nI_clamp (by omega)]) ?_
                  obtain ⟨x_55, ex_55⟩ : ∃ y9 : Int32, g_a17__34 k7_86 = y9 := ⟨_, rfl⟩
                  refine kv (v := .int x_55) (congrArg Value.int ex_55) ?_
                  refine va_iast hx hb hK hP hD hS 1 0 rfl rfl (i := nI (7123 * j_26 + k7_86)) (x := x_55) (vp_in_nI (n := (7123 * j_26 + k7_86)) (by omega) (by omega)) dX12_joined_112 (fun H locs hP hD hS => ?_)
                  rw [nI_clamp (by omega)] at hP hD
                  have hP : va_P D vwCl [(m0, .inr (12, [.ref a0, .ref a1, .ref a2, .int (nI y3__40), .int f4, .ref a5, .int (nI u6), .int f7, .int f8, .int f9, .int f10, .int (nI u11), .int (nI u12), .int (nI u13), .ref a14, .ref a15, .ref a16, .ref a17, .int f18, .int f19, .ref a20, .ref a21, .int (nI u22), .ref a23, .ref a24, .ref a25, .int (nI u26), .int f27, .ref a28, .int (nI u29)])), (a0, .inl (κ 0, 21375, .inl (upd ga0_86 (7123 * j_26 + k7_86) x_55))), (a2, .inl (κ 0, 128214, .inl g_a2__41)), (a17, .inl (κ 0, 7123, .inl g_a17__34))] H := hP
                  have hD : va_D A [(m0, .inr (12, [.ref a0, .ref a1, .ref a2, .int (nI y3__40), .int f4, .ref a5, .int (nI u6), .int f7, .int f8, .int f9, .int f10, .int (nI u11), .int (nI u12), .int (nI u13), .ref a14, .ref a15, .ref a16, .ref a17, .int f18, .int f19, .ref a20, .ref a21, .int (nI u22), .ref a23, .ref a24, .ref a25, .int (nI u26), .int f27, .ref a28, .int (nI u29)])), (a0, .inl (κ 0, 21375, .inl (upd ga0_86 (7123 * j_26 + k7_86) x_55))), (a2, .inl (κ 0, 128214, .inl g_a2__41)), (a17, .inl (κ 0, 7123, .inl g_a17__34))] := hD
                  have hf_57 : Pw (upd ga0_86 (7123 * j_26 + k7_86) x_55) := (Pw_draftE hg86_0 h_37 ex_55 (t := j_26) (by omega) (by omega))
                  have hf_58 : Dl dq (upd ga0_86 (7123 * j_26 + k7_86) x_55) := (Dl_upd hg86_1 (by omega))
                  generalize upd ga0_86 (7123 * j_26 + k7_86) x_55 = g_56 at hP hD hf_57 hf_58
                  refine lv_iinc (v := (nI (k7_86 + 1))) (lv' := [(7, .int (nI (k7_86 + 1))), (6, .int r__30), (0, .ref m0), (1, .int (nI j_4)), (2, .int (nI c_6)), (3, .int (nI j_13)), (4, .int (nI c_15)), (5, .int (nI j_26))]) hx hb dX12_joined_113 hl (k := 0) rfl (nI_i k7_86) (by decide) rfl (fun ls hl => ?_)
                  refine lv_goto (tgt := 86) hx hb dX12_joined_116 (by decide) ?_
                  exact ih86 _ _ _ _ (by omega) ⟨(k7_86 + 1), g_56, (by omega), hf_57, hf_58, rfl, hP, hD, hS, lv_sub hl [0, 1, 2, 3, 4, 5, 6, 7] rfl⟩
              · refine W.eq (g2 := F0 m 74 ls [.int 0]) rfl ?_
                refine lv_if_ne (tgt := 79) hx hb dX12_joined_74 (by decide) (fun c_59 => absurd c_59 (by decide)) (fun c_59 => ?_)
                refine lv_iconst (v := (-1)) hx hb dX12_joined_77 (by decide) ?_
                exact ct_iret hx hb hr hlk rfl hS hP hD ((-1), u3, w, un, g_a17__34) rfl ⟨(show u3 ≤ 6 from (by first | assumption | omega | rfl | exact Or.inl (by assumption) | exact Or.inr (by assumption))), (show Pw w from (by first | assumption | omega | rfl | exact Or.inl (by assumption) | exact Or.inr (by assumption))), (show Dl dq w from (by first | assumption | omega | rfl | exact Or.inl (by assumption) | exact Or.inr (by assumption))), (show Pu un from (by first | assumption | omega | rfl | exact Or.inl (by assumption) | exact Or.inr (by assumption))), (show Pd g_a17__34 from (by first | assumption | omega | rfl | exact Or.inl (by assumption) | exact Or.inr (by assumption)))⟩ [0, 1, 2, 3] rfl (by decide) trivial (Nat.le_of_ble_eq_true rfl) (Nat.le_of_ble_eq_true rfl) dX12_joined_78
          · have nc_29 := cv_eq (a := j_26) (b := j_13) (by omega) (by omega) c_29
            refine lv_iconst (v := (-1)) hx hb dX12_joined_44 (by decide) ?_
            exact ct_iret hx hb hr hlk rfl hS hP hD ((-1), u3, w, un, dr) rfl ⟨(show u3 ≤ 6 from (by first | assumption | omega | rfl | exact Or.inl (by assumption) | exact Or.inr (by assumption))), (show Pw w from (by first | assumption | omega | rfl | exact Or.inl (by assumption) | exact Or.inr (by assumption))), (show Dl dq w from (by first | assumption | omega | rfl | exact Or.inl (by assumption) | exact Or.inr (by assumption))), (show Pu un from (by first | assumption | omega | rfl | exact Or.inl (by assumption) | exact Or.inr (by assumption))), (show Pd dr from (by first | assumption | omega | rfl | exact Or.inl (by assumption) | exact Or.inr (by assumption)))⟩ [0, 1, 2, 3] rfl (by decide) trivial (Nat.le_of_ble_eq_true rfl) (Nat.le_of_ble_eq_true rfl) dX12_joined_45
      · refine W.eq (g2 := F0 m 29 ls [.int 0]) rfl ?_
        have hin_60 : ze.toInt < (0 : Int) ∨ (2 : Int) < ze.toInt := l_out (l_of rfl) (by decide) (by decide) a_24
        refine lv_if_eq (tgt := 44) hx hb dX12_joined_29 (by decide) (fun c_61 => ?_) (fun c_61 => absurd (by decide) c_61)
        refine lv_iconst (v := (-1)) hx hb dX12_joined_44 (by decide) ?_
        exact ct_iret hx hb hr hlk rfl hS hP hD ((-1), u3, w, un, dr) rfl ⟨(show u3 ≤ 6 from (by first | assumption | omega | rfl | exact Or.inl (by assumption) | exact Or.inr (by assumption))), (show Pw w from (by first | assumption | omega | rfl | exact Or.inl (by assumption) | exact Or.inr (by assumption))), (show Dl dq w from (by first | assumption | omega | rfl | exact Or.inl (by assumption) | exact Or.inr (by assumption))), (show Pu un from (by first | assumption | omega | rfl | exact Or.inl (by assumption) | exact Or.inr (by assumption))), (show Pd dr from (by first | assumption | omega | rfl | exact Or.inl (by assumption) | exact Or.inr (by assumption)))⟩ [0, 1, 2, 3] rfl (by decide) trivial (Nat.le_of_ble_eq_true rfl) (Nat.le_of_ble_eq_true rfl) dX12_joined_45
    · refine W.eq (g2 := F0 m 16 ls [.int 0]) rfl ?_
      refine lv_if_eq (tgt := 44) hx hb dX12_joined_16 (by decide) (fun c_62 => ?_) (fun c_62 => absurd (by decide) c_62)
      refine lv_iconst (v := (-1)) hx hb dX12_joined_44 (by decide) ?_
      exact ct_iret hx hb hr hlk rfl hS hP hD ((-1), u3, w, un, dr) rfl ⟨(show u3 ≤ 6 from (by first | assumption | omega | rfl | exact Or.inl (by assumption) | exact Or.inr (by assumption))), (show Pw w from (by first | assumption | omega | rfl | exact Or.inl (by assumption) | exact Or.inr (by assumption))), (show Dl dq w from (by first | assumption | omega | rfl | exact Or.inl (by assumption) | exact Or.inr (by assumption))), (show Pu un from (by first | assumption | omega | rfl | exact Or.inl (by assumption) | exact Or.inr (by assumption))), (show Pd dr from (by first | assumption | omega | rfl | exact Or.inl (by assumption) | exact Or.inr (by assumption)))⟩ [0, 1, 2, 3] rfl (by decide) trivial (Nat.le_of_ble_eq_true rfl) (Nat.le_of_ble_eq_true rfl) dX12_joined_45
  · refine W.eq (g2 := F0 m 6 ls [.int 0]) rfl ?_
    refine lv_if_eq (tgt := 44) hx hb dX12_joined_6 (by decide) (fun c_63 => ?_) (fun c_63 => absurd (by decide) c_63)
    refine lv_iconst (v := (-1)) hx hb dX12_joined_44 (by decide) ?_
    exact ct_iret hx hb hr hlk rfl hS hP hD ((-1), u3, w, un, dr) rfl ⟨(show u3 ≤ 6 from (by first | assumption | omega | rfl | exact Or.inl (by assumption) | exact Or.inr (by assumption))), (show Pw w from (by first | assumption | omega | rfl | exact Or.inl (by assumption) | exact Or.inr (by assumption))), (show Dl dq w from (by first | assumption | omega | rfl | exact Or.inl (by assumption) | exact Or.inr (by assumption))), (show Pu un from (by first | assumption | omega | rfl | exact Or.inl (by assumption) | exact Or.inr (by assumption))), (show Pd dr from (by first | assumption | omega | rfl | exact Or.inl (by assumption) | exact Or.inr (by assumption)))⟩ [0, 1, 2, 3] rfl (by decide) trivial (Nat.le_of_ble_eq_true rfl) (Nat.le_of_ble_eq_true rfl) dX12_joined_45
set_option maxHeartbeats 4000000 in
set_option maxRecDepth 100000 in
theorem f_X12_dialect (l : Launch) (D : va_G) (κ : Nat → ClassId) (m0 : Nat) (a0 : Nat) (a1 : Nat) (a2 : Nat) (u3 : Nat) (f4 : Int32) (a5 : Nat) (u6 : Nat) (f7 : Int32) (f8 : Int32) (f9 : Int32) (f10 : Int32) (u11 : Nat) (u12 : Nat) (u13 : Nat) (a14 : Nat) (a15 : Nat) (a16 : Nat) (a17 : Nat) (f18 : Int32) (f19 : Int32) (a20 : Nat) (a21 : Nat) (u22 : Nat) (a23 : Nat) (a24 : Nat) (a25 : Nat) (u26 : Nat) (f27 : Int32) (a28 : Nat) (u29 : Nat) (w : Nat → Int32) (za : Int32) (zb : Int32) (h_a0 : Pw w) : Ct l yX12_dialect (wl yX12_dialect cX12_dialect 4 (some .boolean)) { frames := 1, cells := 0, slots := 0, locals := 25 } D κ [.ref m0, .int za, .int zb] [(m0, .inr (12, [.ref a0, .ref a1, .ref a2, .int (nI u3), .int f4, .ref a5, .int (nI u6), .int f7, .int f8, .int f9, .int f10, .int (nI u11), .int (nI u12), .int (nI u13), .ref a14, .ref a15, .ref a16, .ref a17, .int f18, .int f19, .ref a20, .ref a21, .int (nI u22), .ref a23, .ref a24, .ref a25, .int (nI u26), .int f27, .ref a28, .int (nI u29)])), (a0, .inl (κ 0, 21375, .inl w))] (fun _ => True) (fun u9 : Int32 × (Nat → Int32) => some (.int u9.1)) (fun u9 : Int32 × (Nat → Int32) => Pw u9.2 ∧ ((u9.1 = 1 ∧ dOk za zb ∧ dW u9.2 = upd (dW w) (Int32.toNatClampNeg za) zb) ∨ (u9.1 = 0 ∧ ¬ dOk za zb ∧ dW u9.2 = dW w))) (fun u9 : Int32 × (Nat → Int32) => [(m0, .inr (12, [.ref a0, .ref a1, .ref a2, .int (nI u3), .int f4, .ref a5, .int (nI u6), .int f7, .int f8, .int f9, .int f10, .int (nI u11), .int (nI u12), .int (nI u13), .ref a14, .ref a15, .ref a16, .ref a17, .int f18, .int f19, .ref a20, .ref a21, .int (nI u22), .ref a23, .ref a24, .ref a25, .int (nI u26), .int f27, .ref a28, .int (nI u29)])), (a0, .inl (κ 0, 21375, .inl u9.2))]) (fun _ _ => True) := by
  refine ct_of (by decide +kernel) (Nat.le_of_ble_eq_true rfl) ?_
  intro p e s m args below meth c A ls hx hb hr hml hts hown hlk hin hKK hK hA hP hD hS hI hl
  have hS : va_S A s.heap s.heap [] := hS
  have hFX : FX p s m args c cX12_dialect 4 RX12 := ⟨hx, hb, hml, hown, hts⟩
  have hl : lv_has ls 4 [(0, .ref m0), (1, .int za), (2, .int zb)] := hl
  refine lv_iload_n hx hb dX12_dialect_0 rfl (lv_at hl 1 rfl) ?_
  rcases Classical.em (za.toInt < 0 ∨ 5 < za.toInt) with c_1 | c_1
  · refine lv_tableOut (tgt := 156) hx hb dX12_dialect_1 c_1 (by decide) ?_
    refine lv_iconst (v := 0) hx hb dX12_dialect_156 (by decide) ?_
    refine lv_istore_n (lv' := [(3, .int 0), (0, .ref m0), (1, .int za), (2, .int zb)]) hx hb dX12_dialect_157 rfl hl (by decide) rfl (fun ls hl => ?_)
    refine lv_iload_n hx hb dX12_dialect_158 rfl (lv_at hl 0 rfl) ?_
    refine lv_if_eq (tgt := 173) hx hb dX12_dialect_159 (by decide) (fun c_2 => ?_) (fun c_2 => absurd (by decide) c_2)
    refine lv_iload_n hx hb dX12_dialect_173 rfl (lv_at hl 0 rfl) ?_
    exact ct_iret hx hb hr hlk rfl hS hP hD (0, w) rfl ⟨(show Pw w from (by first | assumption | omega | rfl | exact Or.inl (by assumption) | exact Or.inr (by assumption))), (by exact Or.inr ((⟨rfl, (show ¬ dOk za zb from (dOk_out c_1)), (show dW w = dW w from rfl)⟩)))⟩ [0, 1] rfl (by decide) trivial (Nat.le_of_ble_eq_true rfl) (Nat.le_of_ble_eq_true rfl) dX12_dialect_174
  · have e_3 : za = 0 ∨ za = 1 ∨ za = 2 ∨ za = 3 ∨ za = 4 ∨ za = 5 := by
      have q1 : ¬ za.toInt < 0 := fun h => c_1 (Or.inl h)
      have q2 : ¬ 5 < za.toInt := fun h => c_1 (Or.inr h)
      have q3 : ∀ v : Int32, za.toInt = v.toInt → za = v := fun v h => Int32.toInt_inj.mp h
      rcases (show za.toInt = 0 ∨ za.toInt = 1 ∨ za.toInt = 2 ∨ za.toInt = 3 ∨ za.toInt = 4 ∨ za.toInt = 5 by omega) with h | h | h | h | h | h
      · exact Or.inl (q3 0 (h.trans (by decide)))
      · exact Or.inr (Or.inl (q3 1 (h.trans (by decide))))
      · exact Or.inr (Or.inr (Or.inl (q3 2 (h.trans (by decide)))))
      · exact Or.inr (Or.inr (Or.inr (Or.inl (q3 3 (h.trans (by decide))))))
      · exact Or.inr (Or.inr (Or.inr (Or.inr (Or.inl (q3 4 (h.trans (by decide)))))))
      · exact Or.inr (Or.inr (Or.inr (Or.inr (Or.inr ((q3 5 (h.trans (by decide))))))))
    clear c_1
    rcases e_3 with rfl | rfl | rfl | rfl | rfl | rfl
    · refine lv_tableIn (tgt := 40) hx hb dX12_dialect_1 (by decide) (by decide) rfl (by decide) ?_
      refine lv_iload_n hx hb dX12_dialect_40 rfl (lv_at hl 2 rfl) ?_
      refine lv_bipush (v := 44) hx hb dX12_dialect_41 (by decide) ?_
      refine lv_icmp_eq (tgt := 64) hx hb dX12_dialect_43 (by decide) (fun c_4 => ?_) (fun c_4 => ?_)
      · refine lv_iconst (v := 1) hx hb dX12_dialect_64 (by decide) ?_
        refine lv_goto (tgt := 69) hx hb dX12_dialect_65 (by decide) ?_
        refine lv_istore_n (lv' := [(3, .int 1), (0, .ref m0), (1, .int 0), (2, .int zb)]) hx hb dX12_dialect_69 rfl hl (by decide) rfl (fun ls hl => ?_)
        refine lv_goto (tgt := 158) hx hb dX12_dialect_70 (by decide) ?_
        refine lv_iload_n hx hb dX12_dialect_158 rfl (lv_at hl 0 rfl) ?_
        refine lv_if_eq (tgt := 173) hx hb dX12_dialect_159 (by decide) (fun c_5 => absurd c_5 (by decide)) (fun c_5 => ?_)
        refine lv_aload_n hx hb dX12_dialect_162 rfl (lv_at hl 1 rfl) ?_
        refine va_get (D := D) (ci := 12) (v := .ref a0) (C := RX12) (T := TX12) (N := 30) hx hb hts inlX12 hown hK hP 0 rfl rfl 0 (by decide) (hts _ mw_187) (fun _ h9 => h9) rfl dX12_dialect_163 ?_
        refine lv_sipush (v := 21369) hx hb dX12_dialect_166 (by decide) ?_
        refine lv_iload_n hx hb dX12_dialect_169 rfl (lv_at hl 2 rfl) ?_
        refine lv_iadd hx hb dX12_dialect_170 ?_
        refine ki (v := 21369) (by decide) ?_
        refine lv_iload_n hx hb dX12_dialect_171 rfl (lv_at hl 3 rfl) ?_
        refine va_iast hx hb hK hP hD hS 1 0 rfl rfl (i := 21369) (x := zb) (vp_k (by decide)) dX12_dialect_172 (fun H locs hP hD hS => ?_)
        have hP : va_P D vwCl [(m0, .inr (12, [.ref a0, .ref a1, .ref a2, .int (nI u3), .int f4, .ref a5, .int (nI u6), .int f7, .int f8, .int f9, .int f10, .int (nI u11), .int (nI u12), .int (nI u13), .ref a14, .ref a15, .ref a16, .ref a17, .int f18, .int f19, .ref a20, .ref a21, .int (nI u22), .ref a23, .ref a24, .ref a25, .int (nI u26), .int f27, .ref a28, .int (nI u29)])), (a0, .inl (κ 0, 21375, .inl (upd w 21369 zb)))] H := hP
        have hD : va_D A [(m0, .inr (12, [.ref a0, .ref a1, .ref a2, .int (nI u3), .int f4, .ref a5, .int (nI u6), .int f7, .int f8, .int f9, .int f10, .int (nI u11), .int (nI u12), .int (nI u13), .ref a14, .ref a15, .ref a16, .ref a17, .int f18, .int f19, .ref a20, .ref a21, .int (nI u22), .ref a23, .ref a24, .ref a25, .int (nI u26), .int f27, .ref a28, .int (nI u29)])), (a0, .inl (κ 0, 21375, .inl (upd w 21369 zb)))] := hD
        have hf_7 : Pw (upd w 21369 zb) := (Pw_free h_a0 (fDIAL (by omega)))
        generalize hge_g_6 : upd w 21369 zb = g_6 at hP hD hf_7
        refine lv_iload_n hx hb dX12_dialect_173 rfl (lv_at hl 0 rfl) ?_
        exact ct_iret hx hb hr hlk rfl hS hP hD (1, g_6) rfl ⟨(show Pw g_6 from (by first | assumption | omega | rfl | exact Or.inl (by assumption) | exact Or.inr (by assumption))), (by exact Or.inl (⟨rfl, (show dOk 0 zb from (by first | exact dOk_4 (by omega) | (unfold dOk; simp_all; done))), (show dW g_6 = upd (dW w) (Int32.toNatClampNeg 0) zb from (by rw [← hge_g_6]; exact (dW_up (j := 0)).trans (congrArg (fun k9 => upd (dW w) k9 (zb)) (by decide))))⟩))⟩ [0, 1] rfl (by decide) trivial (Nat.le_of_ble_eq_true rfl) (Nat.le_of_ble_eq_true rfl) dX12_dialect_174
      · refine lv_iload_n hx hb dX12_dialect_46 rfl (lv_at hl 2 rfl) ?_
        refine lv_bipush (v := 59) hx hb dX12_dialect_47 (by decide) ?_
        refine lv_icmp_eq (tgt := 64) hx hb dX12_dialect_49 (by decide) (fun c_8 => ?_) (fun c_8 => ?_)
        · refine lv_iconst (v := 1) hx hb dX12_dialect_64 (by decide) ?_
          refine lv_goto (tgt := 69) hx hb dX12_dialect_65 (by decide) ?_
          refine lv_istore_n (lv' := [(3, .int 1), (0, .ref m0), (1, .int 0), (2, .int zb)]) hx hb dX12_dialect_69 rfl hl (by decide) rfl (fun ls hl => ?_)
          refine lv_goto (tgt := 158) hx hb dX12_dialect_70 (by decide) ?_
          refine lv_iload_n hx hb dX12_dialect_158 rfl (lv_at hl 0 rfl) ?_
          refine lv_if_eq (tgt := 173) hx hb dX12_dialect_159 (by decide) (fun c_9 => absurd c_9 (by decide)) (fun c_9 => ?_)
          refine lv_aload_n hx hb dX12_dialect_162 rfl (lv_at hl 1 rfl) ?_
          refine va_get (D := D) (ci := 12) (v := .ref a0) (C := RX12) (T := TX12) (N := 30) hx hb hts inlX12 hown hK hP 0 rfl rfl 0 (by decide) (hts _ mw_187) (fun _ h9 => h9) rfl dX12_dialect_163 ?_
          refine lv_sipush (v := 21369) hx hb dX12_dialect_166 (by decide) ?_
          refine lv_iload_n hx hb dX12_dialect_169 rfl (lv_at hl 2 rfl) ?_
          refine lv_iadd hx hb dX12_dialect_170 ?_
          refine ki (v := 21369) (by decide) ?_
          refine lv_iload_n hx hb dX12_dialect_171 rfl (lv_at hl 3 rfl) ?_
          refine va_iast hx hb hK hP hD hS 1 0 rfl rfl (i := 21369) (x := zb) (vp_k (by decide)) dX12_dialect_172 (fun H locs hP hD hS => ?_)
          have hP : va_P D vwCl [(m0, .inr (12, [.ref a0, .ref a1, .ref a2, .int (nI u3), .int f4, .ref a5, .int (nI u6), .int f7, .int f8, .int f9, .int f10, .int (nI u11), .int (nI u12), .int (nI u13), .ref a14, .ref a15, .ref a16, .ref a17, .int f18, .int f19, .ref a20, .ref a21, .int (nI u22), .ref a23, .ref a24, .ref a25, .int (nI u26), .int f27, .ref a28, .int (nI u29)])), (a0, .inl (κ 0, 21375, .inl (upd w 21369 zb)))] H := hP
          have hD : va_D A [(m0, .inr (12, [.ref a0, .ref a1, .ref a2, .int (nI u3), .int f4, .ref a5, .int (nI u6), .int f7, .int f8, .int f9, .int f10, .int (nI u11), .int (nI u12), .int (nI u13), .ref a14, .ref a15, .ref a16, .ref a17, .int f18, .int f19, .ref a20, .ref a21, .int (nI u22), .ref a23, .ref a24, .ref a25, .int (nI u26), .int f27, .ref a28, .int (nI u29)])), (a0, .inl (κ 0, 21375, .inl (upd w 21369 zb)))] := hD
          have hf_11 : Pw (upd w 21369 zb) := (Pw_free h_a0 (fDIAL (by omega)))
          generalize hge_g_10 : upd w 21369 zb = g_10 at hP hD hf_11
          refine lv_iload_n hx hb dX12_dialect_173 rfl (lv_at hl 0 rfl) ?_
          exact ct_iret hx hb hr hlk rfl hS hP hD (1, g_10) rfl ⟨(show Pw g_10 from (by first | assumption | omega | rfl | exact Or.inl (by assumption) | exact Or.inr (by assumption))), (by exact Or.inl (⟨rfl, (show dOk 0 zb from (by first | exact dOk_4 (by omega) | (unfold dOk; simp_all; done))), (show dW g_10 = upd (dW w) (Int32.toNatClampNeg 0) zb from (by rw [← hge_g_10]; exact (dW_up (j := 0)).trans (congrArg (fun k9 => upd (dW w) k9 (zb)) (by decide))))⟩))⟩ [0, 1] rfl (by decide) trivial (Nat.le_of_ble_eq_true rfl) (Nat.le_of_ble_eq_true rfl) dX12_dialect_174
        · refine lv_iload_n hx hb dX12_dialect_52 rfl (lv_at hl 2 rfl) ?_
          refine lv_bipush (v := 124) hx hb dX12_dialect_53 (by decide) ?_
          refine lv_icmp_eq (tgt := 64) hx hb dX12_dialect_55 (by decide) (fun c_12 => ?_) (fun c_12 => ?_)
          · refine lv_iconst (v := 1) hx hb dX12_dialect_64 (by decide) ?_
            refine lv_goto (tgt := 69) hx hb dX12_dialect_65 (by decide) ?_
            refine lv_istore_n (lv' := [(3, .int 1), (0, .ref m0), (1, .int 0), (2, .int zb)]) hx hb dX12_dialect_69 rfl hl (by decide) rfl (fun ls hl => ?_)
            refine lv_goto (tgt := 158) hx hb dX12_dialect_70 (by decide) ?_
            refine lv_iload_n hx hb dX12_dialect_158 rfl (lv_at hl 0 rfl) ?_
            refine lv_if_eq (tgt := 173) hx hb dX12_dialect_159 (by decide) (fun c_13 => absurd c_13 (by decide)) (fun c_13 => ?_)
            refine lv_aload_n hx hb dX12_dialect_162 rfl (lv_at hl 1 rfl) ?_
            refine va_get (D := D) (ci := 12) (v := .ref a0) (C := RX12) (T := TX12) (N := 30) hx hb hts inlX12 hown hK hP 0 rfl rfl 0 (by decide) (hts _ mw_187) (fun _ h9 => h9) rfl dX12_dialect_163 ?_
            refine lv_sipush (v := 21369) hx hb dX12_dialect_166 (by decide) ?_
            refine lv_iload_n hx hb dX12_dialect_169 rfl (lv_at hl 2 rfl) ?_
            refine lv_iadd hx hb dX12_dialect_170 ?_
            refine ki (v := 21369) (by decide) ?_
            refine lv_iload_n hx hb dX12_dialect_171 rfl (lv_at hl 3 rfl) ?_
            refine va_iast hx hb hK hP hD hS 1 0 rfl rfl (i := 21369) (x := zb) (vp_k (by decide)) dX12_dialect_172 (fun H locs hP hD hS => ?_)
            have hP : va_P D vwCl [(m0, .inr (12, [.ref a0, .ref a1, .ref a2, .int (nI u3), .int f4, .ref a5, .int (nI u6), .int f7, .int f8, .int f9, .int f10, .int (nI u11), .int (nI u12), .int (nI u13), .ref a14, .ref a15, .ref a16, .ref a17, .int f18, .int f19, .ref a20, .ref a21, .int (nI u22), .ref a23, .ref a24, .ref a25, .int (nI u26), .int f27, .ref a28, .int (nI u29)])), (a0, .inl (κ 0, 21375, .inl (upd w 21369 zb)))] H := hP
            have hD : va_D A [(m0, .inr (12, [.ref a0, .ref a1, .ref a2, .int (nI u3), .int f4, .ref a5, .int (nI u6), .int f7, .int f8, .int f9, .int f10, .int (nI u11), .int (nI u12), .int (nI u13), .ref a14, .ref a15, .ref a16, .ref a17, .int f18, .int f19, .ref a20, .ref a21, .int (nI u22), .ref a23, .ref a24, .ref a25, .int (nI u26), .int f27, .ref a28, .int (nI u29)])), (a0, .inl (κ 0, 21375, .inl (upd w 21369 zb)))] := hD
            have hf_15 : Pw (upd w 21369 zb) := (Pw_free h_a0 (fDIAL (by omega)))
            generalize hge_g_14 : upd w 21369 zb = g_14 at hP hD hf_15
            refine lv_iload_n hx hb dX12_dialect_173 rfl (lv_at hl 0 rfl) ?_
            exact ct_iret hx hb hr hlk rfl hS hP hD (1, g_14) rfl ⟨(show Pw g_14 from (by first | assumption | omega | rfl | exact Or.inl (by assumption) | exact Or.inr (by assumption))), (by exact Or.inl (⟨rfl, (show dOk 0 zb from (by first | exact dOk_4 (by omega) | (unfold dOk; simp_all; done))), (show dW g_14 = upd (dW w) (Int32.toNatClampNeg 0) zb from (by rw [← hge_g_14]; exact (dW_up (j := 0)).trans (congrArg (fun k9 => upd (dW w) k9 (zb)) (by decide))))⟩))⟩ [0, 1] rfl (by decide) trivial (Nat.le_of_ble_eq_true rfl) (Nat.le_of_ble_eq_true rfl) dX12_dialect_174
          · refine lv_iload_n hx hb dX12_dialect_58 rfl (lv_at hl 2 rfl) ?_
            refine lv_bipush (v := 9) hx hb dX12_dialect_59 (by decide) ?_
            refine lv_icmp_ne (tgt := 68) hx hb dX12_dialect_61 (by decide) (fun c_16 => ?_) (fun c_16 => ?_)
            · refine lv_iconst (v := 0) hx hb dX12_dialect_68 (by decide) ?_
              refine lv_istore_n (lv' := [(3, .int 0), (0, .ref m0), (1, .int 0), (2, .int zb)]) hx hb dX12_dialect_69 rfl hl (by decide) rfl (fun ls hl => ?_)
              refine lv_goto (tgt := 158) hx hb dX12_dialect_70 (by decide) ?_
              refine lv_iload_n hx hb dX12_dialect_158 rfl (lv_at hl 0 rfl) ?_
              refine lv_if_eq (tgt := 173) hx hb dX12_dialect_159 (by decide) (fun c_17 => ?_) (fun c_17 => absurd (by decide) c_17)
              refine lv_iload_n hx hb dX12_dialect_173 rfl (lv_at hl 0 rfl) ?_
              exact ct_iret hx hb hr hlk rfl hS hP hD (0, w) rfl ⟨(show Pw w from (by first | assumption | omega | rfl | exact Or.inl (by assumption) | exact Or.inr (by assumption))), (by exact Or.inr ((⟨rfl, (show ¬ dOk 0 zb from (by first | exact dOk_4n (by omega) | (unfold dOk; simp_all; done) | (unfold dOk; simp_all; decide))), (show dW w = dW w from rfl)⟩)))⟩ [0, 1] rfl (by decide) trivial (Nat.le_of_ble_eq_true rfl) (Nat.le_of_ble_eq_true rfl) dX12_dialect_174
            · refine lv_iconst (v := 1) hx hb dX12_dialect_64 (by decide) ?_
              refine lv_goto (tgt := 69) hx hb dX12_dialect_65 (by decide) ?_
              refine lv_istore_n (lv' := [(3, .int 1), (0, .ref m0), (1, .int 0), (2, .int zb)]) hx hb dX12_dialect_69 rfl hl (by decide) rfl (fun ls hl => ?_)
              refine lv_goto (tgt := 158) hx hb dX12_dialect_70 (by decide) ?_
              refine lv_iload_n hx hb dX12_dialect_158 rfl (lv_at hl 0 rfl) ?_
              refine lv_if_eq (tgt := 173) hx hb dX12_dialect_159 (by decide) (fun c_18 => absurd c_18 (by decide)) (fun c_18 => ?_)
              refine lv_aload_n hx hb dX12_dialect_162 rfl (lv_at hl 1 rfl) ?_
              refine va_get (D := D) (ci := 12) (v := .ref a0) (C := RX12) (T := TX12) (N := 30) hx hb hts inlX12 hown hK hP 0 rfl rfl 0 (by decide) (hts _ mw_187) (fun _ h9 => h9) rfl dX12_dialect_163 ?_
              refine lv_sipush (v := 21369) hx hb dX12_dialect_166 (by decide) ?_
              refine lv_iload_n hx hb dX12_dialect_169 rfl (lv_at hl 2 rfl) ?_
              refine lv_iadd hx hb dX12_dialect_170 ?_
              refine ki (v := 21369) (by decide) ?_
              refine lv_iload_n hx hb dX12_dialect_171 rfl (lv_at hl 3 rfl) ?_
              refine va_iast hx hb hK hP hD hS 1 0 rfl rfl (i := 21369) (x := zb) (vp_k (by decide)) dX12_dialect_172 (fun H locs hP hD hS => ?_)
              have hP : va_P D vwCl [(m0, .inr (12, [.ref a0, .ref a1, .ref a2, .int (nI u3), .int f4, .ref a5, .int (nI u6), .int f7, .int f8, .int f9, .int f10, .int (nI u11), .int (nI u12), .int (nI u13), .ref a14, .ref a15, .ref a16, .ref a17, .int f18, .int f19, .ref a20, .ref a21, .int (nI u22), .ref a23, .ref a24, .ref a25, .int (nI u26), .int f27, .ref a28, .int (nI u29)])), (a0, .inl (κ 0, 21375, .inl (upd w 21369 zb)))] H := hP
              have hD : va_D A [(m0, .inr (12, [.ref a0, .ref a1, .ref a2, .int (nI u3), .int f4, .ref a5, .int (nI u6), .int f7, .int f8, .int f9, .int f10, .int (nI u11), .int (nI u12), .int (nI u13), .ref a14, .ref a15, .ref a16, .ref a17, .int f18, .int f19, .ref a20, .ref a21, .int (nI u22), .ref a23, .ref a24, .ref a25, .int (nI u26), .int f27, .ref a28, .int (nI u29)])), (a0, .inl (κ 0, 21375, .inl (upd w 21369 zb)))] := hD
              have hf_20 : Pw (upd w 21369 zb) := (Pw_free h_a0 (fDIAL (by omega)))
              generalize hge_g_19 : upd w 21369 zb = g_19 at hP hD hf_20
              refine lv_iload_n hx hb dX12_dialect_173 rfl (lv_at hl 0 rfl) ?_
              exact ct_iret hx hb hr hlk rfl hS hP hD (1, g_19) rfl ⟨(show Pw g_19 from (by first | assumption | omega | rfl | exact Or.inl (by assumption) | exact Or.inr (by assumption))), (by exact Or.inl (⟨rfl, (show dOk 0 zb from (by first | exact dOk_4 (by omega) | (unfold dOk; simp_all; done))), (show dW g_19 = upd (dW w) (Int32.toNatClampNeg 0) zb from (by rw [← hge_g_19]; exact (dW_up (j := 0)).trans (congrArg (fun k9 => upd (dW w) k9 (zb)) (by decide))))⟩))⟩ [0, 1] rfl (by decide) trivial (Nat.le_of_ble_eq_true rfl) (Nat.le_of_ble_eq_true rfl) dX12_dialect_174
    · refine lv_tableIn (tgt := 73) hx hb dX12_dialect_1 (by decide) (by decide) rfl (by decide) ?_
      refine lv_iload_n hx hb dX12_dialect_73 rfl (lv_at hl 2 rfl) ?_
      refine lv_bipush (v := 34) hx hb dX12_dialect_74 (by decide) ?_
      refine lv_icmp_eq (tgt := 85) hx hb dX12_dialect_76 (by decide) (fun c_21 => ?_) (fun c_21 => ?_)
      · refine lv_iconst (v := 1) hx hb dX12_dialect_85 (by decide) ?_
        refine lv_goto (tgt := 90) hx hb dX12_dialect_86 (by decide) ?_
        refine lv_istore_n (lv' := [(3, .int 1), (0, .ref m0), (1, .int 1), (2, .int zb)]) hx hb dX12_dialect_90 rfl hl (by decide) rfl (fun ls hl => ?_)
        refine lv_goto (tgt := 158) hx hb dX12_dialect_91 (by decide) ?_
        refine lv_iload_n hx hb dX12_dialect_158 rfl (lv_at hl 0 rfl) ?_
        refine lv_if_eq (tgt := 173) hx hb dX12_dialect_159 (by decide) (fun c_22 => absurd c_22 (by decide)) (fun c_22 => ?_)
        refine lv_aload_n hx hb dX12_dialect_162 rfl (lv_at hl 1 rfl) ?_
        refine va_get (D := D) (ci := 12) (v := .ref a0) (C := RX12) (T := TX12) (N := 30) hx hb hts inlX12 hown hK hP 0 rfl rfl 0 (by decide) (hts _ mw_187) (fun _ h9 => h9) rfl dX12_dialect_163 ?_
        refine lv_sipush (v := 21369) hx hb dX12_dialect_166 (by decide) ?_
        refine lv_iload_n hx hb dX12_dialect_169 rfl (lv_at hl 2 rfl) ?_
        refine lv_iadd hx hb dX12_dialect_170 ?_
        refine ki (v := 21370) (by decide) ?_
        refine lv_iload_n hx hb dX12_dialect_171 rfl (lv_at hl 3 rfl) ?_
        refine va_iast hx hb hK hP hD hS 1 0 rfl rfl (i := 21370) (x := zb) (vp_k (by decide)) dX12_dialect_172 (fun H locs hP hD hS => ?_)
        have hP : va_P D vwCl [(m0, .inr (12, [.ref a0, .ref a1, .ref a2, .int (nI u3), .int f4, .ref a5, .int (nI u6), .int f7, .int f8, .int f9, .int f10, .int (nI u11), .int (nI u12), .int (nI u13), .ref a14, .ref a15, .ref a16, .ref a17, .int f18, .int f19, .ref a20, .ref a21, .int (nI u22), .ref a23, .ref a24, .ref a25, .int (nI u26), .int f27, .ref a28, .int (nI u29)])), (a0, .inl (κ 0, 21375, .inl (upd w 21370 zb)))] H := hP
        have hD : va_D A [(m0, .inr (12, [.ref a0, .ref a1, .ref a2, .int (nI u3), .int f4, .ref a5, .int (nI u6), .int f7, .int f8, .int f9, .int f10, .int (nI u11), .int (nI u12), .int (nI u13), .ref a14, .ref a15, .ref a16, .ref a17, .int f18, .int f19, .ref a20, .ref a21, .int (nI u22), .ref a23, .ref a24, .ref a25, .int (nI u26), .int f27, .ref a28, .int (nI u29)])), (a0, .inl (κ 0, 21375, .inl (upd w 21370 zb)))] := hD
        have hf_24 : Pw (upd w 21370 zb) := (Pw_free h_a0 (fDIAL (by omega)))
        generalize hge_g_23 : upd w 21370 zb = g_23 at hP hD hf_24
        refine lv_iload_n hx hb dX12_dialect_173 rfl (lv_at hl 0 rfl) ?_
        exact ct_iret hx hb hr hlk rfl hS hP hD (1, g_23) rfl ⟨(show Pw g_23 from (by first | assumption | omega | rfl | exact Or.inl (by assumption) | exact Or.inr (by assumption))), (by exact Or.inl (⟨rfl, (show dOk 1 zb from (by first | exact dOk_4 (by omega) | (unfold dOk; simp_all; done))), (show dW g_23 = upd (dW w) (Int32.toNatClampNeg 1) zb from (by rw [← hge_g_23]; exact (dW_up (j := 1)).trans (congrArg (fun k9 => upd (dW w) k9 (zb)) (by decide))))⟩))⟩ [0, 1] rfl (by decide) trivial (Nat.le_of_ble_eq_true rfl) (Nat.le_of_ble_eq_true rfl) dX12_dialect_174
      · refine lv_iload_n hx hb dX12_dialect_79 rfl (lv_at hl 2 rfl) ?_
        refine lv_bipush (v := 39) hx hb dX12_dialect_80 (by decide) ?_
        refine lv_icmp_ne (tgt := 89) hx hb dX12_dialect_82 (by decide) (fun c_25 => ?_) (fun c_25 => ?_)
        · refine lv_iconst (v := 0) hx hb dX12_dialect_89 (by decide) ?_
          refine lv_istore_n (lv' := [(3, .int 0), (0, .ref m0), (1, .int 1), (2, .int zb)]) hx hb dX12_dialect_90 rfl hl (by decide) rfl (fun ls hl => ?_)
          refine lv_goto (tgt := 158) hx hb dX12_dialect_91 (by decide) ?_
          refine lv_iload_n hx hb dX12_dialect_158 rfl (lv_at hl 0 rfl) ?_
          refine lv_if_eq (tgt := 173) hx hb dX12_dialect_159 (by decide) (fun c_26 => ?_) (fun c_26 => absurd (by decide) c_26)
          refine lv_iload_n hx hb dX12_dialect_173 rfl (lv_at hl 0 rfl) ?_
          exact ct_iret hx hb hr hlk rfl hS hP hD (0, w) rfl ⟨(show Pw w from (by first | assumption | omega | rfl | exact Or.inl (by assumption) | exact Or.inr (by assumption))), (by exact Or.inr ((⟨rfl, (show ¬ dOk 1 zb from (by first | exact dOk_4n (by omega) | (unfold dOk; simp_all; done) | (unfold dOk; simp_all; decide))), (show dW w = dW w from rfl)⟩)))⟩ [0, 1] rfl (by decide) trivial (Nat.le_of_ble_eq_true rfl) (Nat.le_of_ble_eq_true rfl) dX12_dialect_174
        · refine lv_iconst (v := 1) hx hb dX12_dialect_85 (by decide) ?_
          refine lv_goto (tgt := 90) hx hb dX12_dialect_86 (by decide) ?_
          refine lv_istore_n (lv' := [(3, .int 1), (0, .ref m0), (1, .int 1), (2, .int zb)]) hx hb dX12_dialect_90 rfl hl (by decide) rfl (fun ls hl => ?_)
          refine lv_goto (tgt := 158) hx hb dX12_dialect_91 (by decide) ?_
          refine lv_iload_n hx hb dX12_dialect_158 rfl (lv_at hl 0 rfl) ?_
          refine lv_if_eq (tgt := 173) hx hb dX12_dialect_159 (by decide) (fun c_27 => absurd c_27 (by decide)) (fun c_27 => ?_)
          refine lv_aload_n hx hb dX12_dialect_162 rfl (lv_at hl 1 rfl) ?_
          refine va_get (D := D) (ci := 12) (v := .ref a0) (C := RX12) (T := TX12) (N := 30) hx hb hts inlX12 hown hK hP 0 rfl rfl 0 (by decide) (hts _ mw_187) (fun _ h9 => h9) rfl dX12_dialect_163 ?_
          refine lv_sipush (v := 21369) hx hb dX12_dialect_166 (by decide) ?_
          refine lv_iload_n hx hb dX12_dialect_169 rfl (lv_at hl 2 rfl) ?_
          refine lv_iadd hx hb dX12_dialect_170 ?_
          refine ki (v := 21370) (by decide) ?_
          refine lv_iload_n hx hb dX12_dialect_171 rfl (lv_at hl 3 rfl) ?_
          refine va_iast hx hb hK hP hD hS 1 0 rfl rfl (i := 21370) (x := zb) (vp_k (by decide)) dX12_dialect_172 (fun H locs hP hD hS => ?_)
          have hP : va_P D vwCl [(m0, .inr (12, [.ref a0, .ref a1, .ref a2, .int (nI u3), .int f4, .ref a5, .int (nI u6), .int f7, .int f8, .int f9, .int f10, .int (nI u11), .int (nI u12), .int (nI u13), .ref a14, .ref a15, .ref a16, .ref a17, .int f18, .int f19, .ref a20, .ref a21, .int (nI u22), .ref a23, .ref a24, .ref a25, .int (nI u26), .int f27, .ref a28, .int (nI u29)])), (a0, .inl (κ 0, 21375, .inl (upd w 21370 zb)))] H := hP
          have hD : va_D A [(m0, .inr (12, [.ref a0, .ref a1, .ref a2, .int (nI u3), .int f4, .ref a5, .int (nI u6), .int f7, .int f8, .int f9, .int f10, .int (nI u11), .int (nI u12), .int (nI u13), .ref a14, .ref a15, .ref a16, .ref a17, .int f18, .int f19, .ref a20, .ref a21, .int (nI u22), .ref a23, .ref a24, .ref a25, .int (nI u26), .int f27, .ref a28, .int (nI u29)])), (a0, .inl (κ 0, 21375, .inl (upd w 21370 zb)))] := hD
          have hf_29 : Pw (upd w 21370 zb) := (Pw_free h_a0 (fDIAL (by omega)))
          generalize hge_g_28 : upd w 21370 zb = g_28 at hP hD hf_29
          refine lv_iload_n hx hb dX12_dialect_173 rfl (lv_at hl 0 rfl) ?_
          exact ct_iret hx hb hr hlk rfl hS hP hD (1, g_28) rfl ⟨(show Pw g_28 from (by first | assumption | omega | rfl | exact Or.inl (by assumption) | exact Or.inr (by assumption))), (by exact Or.inl (⟨rfl, (show dOk 1 zb from (by first | exact dOk_4 (by omega) | (unfold dOk; simp_all; done))), (show dW g_28 = upd (dW w) (Int32.toNatClampNeg 1) zb from (by rw [← hge_g_28]; exact (dW_up (j := 1)).trans (congrArg (fun k9 => upd (dW w) k9 (zb)) (by decide))))⟩))⟩ [0, 1] rfl (by decide) trivial (Nat.le_of_ble_eq_true rfl) (Nat.le_of_ble_eq_true rfl) dX12_dialect_174
    · refine lv_tableIn (tgt := 94) hx hb dX12_dialect_1 (by decide) (by decide) rfl (by decide) ?_
      refine lv_iload_n hx hb dX12_dialect_94 rfl (lv_at hl 2 rfl) ?_
      refine lv_if_eq (tgt := 103) hx hb dX12_dialect_95 (by decide) (fun c_30 => ?_) (fun c_30 => ?_)
      · refine lv_iconst (v := 1) hx hb dX12_dialect_103 (by decide) ?_
        refine lv_goto (tgt := 108) hx hb dX12_dialect_104 (by decide) ?_
        refine lv_istore_n (lv' := [(3, .int 1), (0, .ref m0), (1, .int 2), (2, .int zb)]) hx hb dX12_dialect_108 rfl hl (by decide) rfl (fun ls hl => ?_)
        refine lv_goto (tgt := 158) hx hb dX12_dialect_109 (by decide) ?_
        refine lv_iload_n hx hb dX12_dialect_158 rfl (lv_at hl 0 rfl) ?_
        refine lv_if_eq (tgt := 173) hx hb dX12_dialect_159 (by decide) (fun c_31 => absurd c_31 (by decide)) (fun c_31 => ?_)
        refine lv_aload_n hx hb dX12_dialect_162 rfl (lv_at hl 1 rfl) ?_
        refine va_get (D := D) (ci := 12) (v := .ref a0) (C := RX12) (T := TX12) (N := 30) hx hb hts inlX12 hown hK hP 0 rfl rfl 0 (by decide) (hts _ mw_187) (fun _ h9 => h9) rfl dX12_dialect_163 ?_
        refine lv_sipush (v := 21369) hx hb dX12_dialect_166 (by decide) ?_
        refine lv_iload_n hx hb dX12_dialect_169 rfl (lv_at hl 2 rfl) ?_
        refine lv_iadd hx hb dX12_dialect_170 ?_
        refine ki (v := 21371) (by decide) ?_
        refine lv_iload_n hx hb dX12_dialect_171 rfl (lv_at hl 3 rfl) ?_
        refine va_iast hx hb hK hP hD hS 1 0 rfl rfl (i := 21371) (x := zb) (vp_k (by decide)) dX12_dialect_172 (fun H locs hP hD hS => ?_)
        have hP : va_P D vwCl [(m0, .inr (12, [.ref a0, .ref a1, .ref a2, .int (nI u3), .int f4, .ref a5, .int (nI u6), .int f7, .int f8, .int f9, .int f10, .int (nI u11), .int (nI u12), .int (nI u13), .ref a14, .ref a15, .ref a16, .ref a17, .int f18, .int f19, .ref a20, .ref a21, .int (nI u22), .ref a23, .ref a24, .ref a25, .int (nI u26), .int f27, .ref a28, .int (nI u29)])), (a0, .inl (κ 0, 21375, .inl (upd w 21371 zb)))] H := hP
        have hD : va_D A [(m0, .inr (12, [.ref a0, .ref a1, .ref a2, .int (nI u3), .int f4, .ref a5, .int (nI u6), .int f7, .int f8, .int f9, .int f10, .int (nI u11), .int (nI u12), .int (nI u13), .ref a14, .ref a15, .ref a16, .ref a17, .int f18, .int f19, .ref a20, .ref a21, .int (nI u22), .ref a23, .ref a24, .ref a25, .int (nI u26), .int f27, .ref a28, .int (nI u29)])), (a0, .inl (κ 0, 21375, .inl (upd w 21371 zb)))] := hD
        have hf_33 : Pw (upd w 21371 zb) := (Pw_free h_a0 (fDIAL (by omega)))
        generalize hge_g_32 : upd w 21371 zb = g_32 at hP hD hf_33
        refine lv_iload_n hx hb dX12_dialect_173 rfl (lv_at hl 0 rfl) ?_
        exact ct_iret hx hb hr hlk rfl hS hP hD (1, g_32) rfl ⟨(show Pw g_32 from (by first | assumption | omega | rfl | exact Or.inl (by assumption) | exact Or.inr (by assumption))), (by exact Or.inl (⟨rfl, (show dOk 2 zb from (by first | exact dOk_4 (by omega) | (unfold dOk; simp_all; done))), (show dW g_32 = upd (dW w) (Int32.toNatClampNeg 2) zb from (by rw [← hge_g_32]; exact (dW_up (j := 2)).trans (congrArg (fun k9 => upd (dW w) k9 (zb)) (by decide))))⟩))⟩ [0, 1] rfl (by decide) trivial (Nat.le_of_ble_eq_true rfl) (Nat.le_of_ble_eq_true rfl) dX12_dialect_174
      · refine lv_iload_n hx hb dX12_dialect_98 rfl (lv_at hl 2 rfl) ?_
        refine lv_iconst (v := 1) hx hb dX12_dialect_99 (by decide) ?_
        refine lv_icmp_ne (tgt := 107) hx hb dX12_dialect_100 (by decide) (fun c_34 => ?_) (fun c_34 => ?_)
        · refine lv_iconst (v := 0) hx hb dX12_dialect_107 (by decide) ?_
          refine lv_istore_n (lv' := [(3, .int 0), (0, .ref m0), (1, .int 2), (2, .int zb)]) hx hb dX12_dialect_108 rfl hl (by decide) rfl (fun ls hl => ?_)
          refine lv_goto (tgt := 158) hx hb dX12_dialect_109 (by decide) ?_
          refine lv_iload_n hx hb dX12_dialect_158 rfl (lv_at hl 0 rfl) ?_
          refine lv_if_eq (tgt := 173) hx hb dX12_dialect_159 (by decide) (fun c_35 => ?_) (fun c_35 => absurd (by decide) c_35)
          refine lv_iload_n hx hb dX12_dialect_173 rfl (lv_at hl 0 rfl) ?_
          exact ct_iret hx hb hr hlk rfl hS hP hD (0, w) rfl ⟨(show Pw w from (by first | assumption | omega | rfl | exact Or.inl (by assumption) | exact Or.inr (by assumption))), (by exact Or.inr ((⟨rfl, (show ¬ dOk 2 zb from (by first | exact dOk_4n (by omega) | (unfold dOk; simp_all; done) | (unfold dOk; simp_all; decide))), (show dW w = dW w from rfl)⟩)))⟩ [0, 1] rfl (by decide) trivial (Nat.le_of_ble_eq_true rfl) (Nat.le_of_ble_eq_true rfl) dX12_dialect_174
        · refine lv_iconst (v := 1) hx hb dX12_dialect_103 (by decide) ?_
          refine lv_goto (tgt := 108) hx hb dX12_dialect_104 (by decide) ?_
          refine lv_istore_n (lv' := [(3, .int 1), (0, .ref m0), (1, .int 2), (2, .int zb)]) hx hb dX12_dialect_108 rfl hl (by decide) rfl (fun ls hl => ?_)
          refine lv_goto (tgt := 158) hx hb dX12_dialect_109 (by decide) ?_
          refine lv_iload_n hx hb dX12_dialect_158 rfl (lv_at hl 0 rfl) ?_
          refine lv_if_eq (tgt := 173) hx hb dX12_dialect_159 (by decide) (fun c_36 => absurd c_36 (by decide)) (fun c_36 => ?_)
          refine lv_aload_n hx hb dX12_dialect_162 rfl (lv_at hl 1 rfl) ?_
          refine va_get (D := D) (ci := 12) (v := .ref a0) (C := RX12) (T := TX12) (N := 30) hx hb hts inlX12 hown hK hP 0 rfl rfl 0 (by decide) (hts _ mw_187) (fun _ h9 => h9) rfl dX12_dialect_163 ?_
          refine lv_sipush (v := 21369) hx hb dX12_dialect_166 (by decide) ?_
          refine lv_iload_n hx hb dX12_dialect_169 rfl (lv_at hl 2 rfl) ?_
          refine lv_iadd hx hb dX12_dialect_170 ?_
          refine ki (v := 21371) (by decide) ?_
          refine lv_iload_n hx hb dX12_dialect_171 rfl (lv_at hl 3 rfl) ?_
          refine va_iast hx hb hK hP hD hS 1 0 rfl rfl (i := 21371) (x := zb) (vp_k (by decide)) dX12_dialect_172 (fun H locs hP hD hS => ?_)
          have hP : va_P D vwCl [(m0, .inr (12, [.ref a0, .ref a1, .ref a2, .int (nI u3), .int f4, .ref a5, .int (nI u6), .int f7, .int f8, .int f9, .int f10, .int (nI u11), .int (nI u12), .int (nI u13), .ref a14, .ref a15, .ref a16, .ref a17, .int f18, .int f19, .ref a20, .ref a21, .int (nI u22), .ref a23, .ref a24, .ref a25, .int (nI u26), .int f27, .ref a28, .int (nI u29)])), (a0, .inl (κ 0, 21375, .inl (upd w 21371 zb)))] H := hP
          have hD : va_D A [(m0, .inr (12, [.ref a0, .ref a1, .ref a2, .int (nI u3), .int f4, .ref a5, .int (nI u6), .int f7, .int f8, .int f9, .int f10, .int (nI u11), .int (nI u12), .int (nI u13), .ref a14, .ref a15, .ref a16, .ref a17, .int f18, .int f19, .ref a20, .ref a21, .int (nI u22), .ref a23, .ref a24, .ref a25, .int (nI u26), .int f27, .ref a28, .int (nI u29)])), (a0, .inl (κ 0, 21375, .inl (upd w 21371 zb)))] := hD
          have hf_38 : Pw (upd w 21371 zb) := (Pw_free h_a0 (fDIAL (by omega)))
          generalize hge_g_37 : upd w 21371 zb = g_37 at hP hD hf_38
          refine lv_iload_n hx hb dX12_dialect_173 rfl (lv_at hl 0 rfl) ?_
          exact ct_iret hx hb hr hlk rfl hS hP hD (1, g_37) rfl ⟨(show Pw g_37 from (by first | assumption | omega | rfl | exact Or.inl (by assumption) | exact Or.inr (by assumption))), (by exact Or.inl (⟨rfl, (show dOk 2 zb from (by first | exact dOk_4 (by omega) | (unfold dOk; simp_all; done))), (show dW g_37 = upd (dW w) (Int32.toNatClampNeg 2) zb from (by rw [← hge_g_37]; exact (dW_up (j := 2)).trans (congrArg (fun k9 => upd (dW w) k9 (zb)) (by decide))))⟩))⟩ [0, 1] rfl (by decide) trivial (Nat.le_of_ble_eq_true rfl) (Nat.le_of_ble_eq_true rfl) dX12_dialect_174
    · refine lv_tableIn (tgt := 94) hx hb dX12_dialect_1 (by decide) (by decide) rfl (by decide) ?_
      refine lv_iload_n hx hb dX12_dialect_94 rfl (lv_at hl 2 rfl) ?_
      refine lv_if_eq (tgt := 103) hx hb dX12_dialect_95 (by decide) (fun c_39 => ?_) (fun c_39 => ?_)
      · refine lv_iconst (v := 1) hx hb dX12_dialect_103 (by decide) ?_
        refine lv_goto (tgt := 108) hx hb dX12_dialect_104 (by decide) ?_
        refine lv_istore_n (lv' := [(3, .int 1), (0, .ref m0), (1, .int 3), (2, .int zb)]) hx hb dX12_dialect_108 rfl hl (by decide) rfl (fun ls hl => ?_)
        refine lv_goto (tgt := 158) hx hb dX12_dialect_109 (by decide) ?_
        refine lv_iload_n hx hb dX12_dialect_158 rfl (lv_at hl 0 rfl) ?_
        refine lv_if_eq (tgt := 173) hx hb dX12_dialect_159 (by decide) (fun c_40 => absurd c_40 (by decide)) (fun c_40 => ?_)
        refine lv_aload_n hx hb dX12_dialect_162 rfl (lv_at hl 1 rfl) ?_
        refine va_get (D := D) (ci := 12) (v := .ref a0) (C := RX12) (T := TX12) (N := 30) hx hb hts inlX12 hown hK hP 0 rfl rfl 0 (by decide) (hts _ mw_187) (fun _ h9 => h9) rfl dX12_dialect_163 ?_
        refine lv_sipush (v := 21369) hx hb dX12_dialect_166 (by decide) ?_
        refine lv_iload_n hx hb dX12_dialect_169 rfl (lv_at hl 2 rfl) ?_
        refine lv_iadd hx hb dX12_dialect_170 ?_
        refine ki (v := 21372) (by decide) ?_
        refine lv_iload_n hx hb dX12_dialect_171 rfl (lv_at hl 3 rfl) ?_
        refine va_iast hx hb hK hP hD hS 1 0 rfl rfl (i := 21372) (x := zb) (vp_k (by decide)) dX12_dialect_172 (fun H locs hP hD hS => ?_)
        have hP : va_P D vwCl [(m0, .inr (12, [.ref a0, .ref a1, .ref a2, .int (nI u3), .int f4, .ref a5, .int (nI u6), .int f7, .int f8, .int f9, .int f10, .int (nI u11), .int (nI u12), .int (nI u13), .ref a14, .ref a15, .ref a16, .ref a17, .int f18, .int f19, .ref a20, .ref a21, .int (nI u22), .ref a23, .ref a24, .ref a25, .int (nI u26), .int f27, .ref a28, .int (nI u29)])), (a0, .inl (κ 0, 21375, .inl (upd w 21372 zb)))] H := hP
        have hD : va_D A [(m0, .inr (12, [.ref a0, .ref a1, .ref a2, .int (nI u3), .int f4, .ref a5, .int (nI u6), .int f7, .int f8, .int f9, .int f10, .int (nI u11), .int (nI u12), .int (nI u13), .ref a14, .ref a15, .ref a16, .ref a17, .int f18, .int f19, .ref a20, .ref a21, .int (nI u22), .ref a23, .ref a24, .ref a25, .int (nI u26), .int f27, .ref a28, .int (nI u29)])), (a0, .inl (κ 0, 21375, .inl (upd w 21372 zb)))] := hD
        have hf_42 : Pw (upd w 21372 zb) := (Pw_free h_a0 (fDIAL (by omega)))
        generalize hge_g_41 : upd w 21372 zb = g_41 at hP hD hf_42
        refine lv_iload_n hx hb dX12_dialect_173 rfl (lv_at hl 0 rfl) ?_
        exact ct_iret hx hb hr hlk rfl hS hP hD (1, g_41) rfl ⟨(show Pw g_41 from (by first | assumption | omega | rfl | exact Or.inl (by assumption) | exact Or.inr (by assumption))), (by exact Or.inl (⟨rfl, (show dOk 3 zb from (by first | exact dOk_4 (by omega) | (unfold dOk; simp_all; done))), (show dW g_41 = upd (dW w) (Int32.toNatClampNeg 3) zb from (by rw [← hge_g_41]; exact (dW_up (j := 3)).trans (congrArg (fun k9 => upd (dW w) k9 (zb)) (by decide))))⟩))⟩ [0, 1] rfl (by decide) trivial (Nat.le_of_ble_eq_true rfl) (Nat.le_of_ble_eq_true rfl) dX12_dialect_174
      · refine lv_iload_n hx hb dX12_dialect_98 rfl (lv_at hl 2 rfl) ?_
        refine lv_iconst (v := 1) hx hb dX12_dialect_99 (by decide) ?_
        refine lv_icmp_ne (tgt := 107) hx hb dX12_dialect_100 (by decide) (fun c_43 => ?_) (fun c_43 => ?_)
        · refine lv_iconst (v := 0) hx hb dX12_dialect_107 (by decide) ?_
          refine lv_istore_n (lv' := [(3, .int 0), (0, .ref m0), (1, .int 3), (2, .int zb)]) hx hb dX12_dialect_108 rfl hl (by decide) rfl (fun ls hl => ?_)
          refine lv_goto (tgt := 158) hx hb dX12_dialect_109 (by decide) ?_
          refine lv_iload_n hx hb dX12_dialect_158 rfl (lv_at hl 0 rfl) ?_
          refine lv_if_eq (tgt := 173) hx hb dX12_dialect_159 (by decide) (fun c_44 => ?_) (fun c_44 => absurd (by decide) c_44)
          refine lv_iload_n hx hb dX12_dialect_173 rfl (lv_at hl 0 rfl) ?_
          exact ct_iret hx hb hr hlk rfl hS hP hD (0, w) rfl ⟨(show Pw w from (by first | assumption | omega | rfl | exact Or.inl (by assumption) | exact Or.inr (by assumption))), (by exact Or.inr ((⟨rfl, (show ¬ dOk 3 zb from (by first | exact dOk_4n (by omega) | (unfold dOk; simp_all; done) | (unfold dOk; simp_all; decide))), (show dW w = dW w from rfl)⟩)))⟩ [0, 1] rfl (by decide) trivial (Nat.le_of_ble_eq_true rfl) (Nat.le_of_ble_eq_true rfl) dX12_dialect_174
        · refine lv_iconst (v := 1) hx hb dX12_dialect_103 (by decide) ?_
          refine lv_goto (tgt := 108) hx hb dX12_dialect_104 (by decide) ?_
          refine lv_istore_n (lv' := [(3, .int 1), (0, .ref m0), (1, .int 3), (2, .int zb)]) hx hb dX12_dialect_108 rfl hl (by decide) rfl (fun ls hl => ?_)
          refine lv_goto (tgt := 158) hx hb dX12_dialect_109 (by decide) ?_
          refine lv_iload_n hx hb dX12_dialect_158 rfl (lv_at hl 0 rfl) ?_
          refine lv_if_eq (tgt := 173) hx hb dX12_dialect_159 (by decide) (fun c_45 => absurd c_45 (by decide)) (fun c_45 => ?_)
          refine lv_aload_n hx hb dX12_dialect_162 rfl (lv_at hl 1 rfl) ?_
          refine va_get (D := D) (ci := 12) (v := .ref a0) (C := RX12) (T := TX12) (N := 30) hx hb hts inlX12 hown hK hP 0 rfl rfl 0 (by decide) (hts _ mw_187) (fun _ h9 => h9) rfl dX12_dialect_163 ?_
          refine lv_sipush (v := 21369) hx hb dX12_dialect_166 (by decide) ?_
          refine lv_iload_n hx hb dX12_dialect_169 rfl (lv_at hl 2 rfl) ?_
          refine lv_iadd hx hb dX12_dialect_170 ?_
          refine ki (v := 21372) (by decide) ?_
          refine lv_iload_n hx hb dX12_dialect_171 rfl (lv_at hl 3 rfl) ?_
          refine va_iast hx hb hK hP hD hS 1 0 rfl rfl (i := 21372) (x := zb) (vp_k (by decide)) dX12_dialect_172 (fun H locs hP hD hS => ?_)
          have hP : va_P D vwCl [(m0, .inr (12, [.ref a0, .ref a1, .ref a2, .int (nI u3), .int f4, .ref a5, .int (nI u6), .int f7, .int f8, .int f9, .int f10, .int (nI u11), .int (nI u12), .int (nI u13), .ref a14, .ref a15, .ref a16, .ref a17, .int f18, .int f19, .ref a20, .ref a21, .int (nI u22), .ref a23, .ref a24, .ref a25, .int (nI u26), .int f27, .ref a28, .int (nI u29)])), (a0, .inl (κ 0, 21375, .inl (upd w 21372 zb)))] H := hP
          have hD : va_D A [(m0, .inr (12, [.ref a0, .ref a1, .ref a2, .int (nI u3), .int f4, .ref a5, .int (nI u6), .int f7, .int f8, .int f9, .int f10, .int (nI u11), .int (nI u12), .int (nI u13), .ref a14, .ref a15, .ref a16, .ref a17, .int f18, .int f19, .ref a20, .ref a21, .int (nI u22), .ref a23, .ref a24, .ref a25, .int (nI u26), .int f27, .ref a28, .int (nI u29)])), (a0, .inl (κ 0, 21375, .inl (upd w 21372 zb)))] := hD
          have hf_47 : Pw (upd w 21372 zb) := (Pw_free h_a0 (fDIAL (by omega)))
          generalize hge_g_46 : upd w 21372 zb = g_46 at hP hD hf_47
          refine lv_iload_n hx hb dX12_dialect_173 rfl (lv_at hl 0 rfl) ?_
          exact ct_iret hx hb hr hlk rfl hS hP hD (1, g_46) rfl ⟨(show Pw g_46 from (by first | assumption | omega | rfl | exact Or.inl (by assumption) | exact Or.inr (by assumption))), (by exact Or.inl (⟨rfl, (show dOk 3 zb from (by first | exact dOk_4 (by omega) | (unfold dOk; simp_all; done))), (show dW g_46 = upd (dW w) (Int32.toNatClampNeg 3) zb from (by rw [← hge_g_46]; exact (dW_up (j := 3)).trans (congrArg (fun k9 => upd (dW w) k9 (zb)) (by decide))))⟩))⟩ [0, 1] rfl (by decide) trivial (Nat.le_of_ble_eq_true rfl) (Nat.le_of_ble_eq_true rfl) dX12_dialect_174
    · refine lv_tableIn (tgt := 112) hx hb dX12_dialect_1 (by decide) (by decide) rfl (by decide) ?_
      refine lv_iload_n hx hb dX12_dialect_112 rfl (lv_at hl 2 rfl) ?_
      refine lv_i2l (v := zb.toInt64) hx hb dX12_dialect_113 rfl ?_
      refine lv_lconst (v := 0) hx hb dX12_dialect_114 (by decide) ?_
      refine lv_ldc2 hx hb hown (hts _ mw_215) dX12_dialect_115 ?_
      refine cr_S (As := [.long zb.toInt64, .long 0, .long 3]) (rest := []) hFX hKK (s_X12_isIn l D κ zb.toInt64 0 3) 3 gS_X12_62 hdS_X12_isIn rfl rfl ⟨Nat.le_of_ble_eq_true rfl, Nat.le_of_ble_eq_true rfl⟩ rfl rfl (Nat.le_of_ble_eq_true rfl) dX12_dialect_118 ⟨Nat.le_of_ble_eq_true rfl, Nat.le_of_ble_eq_true rfl⟩ hl.1 (hP.sub [] rfl) (fun r__48 hp_49 => ?_)
      replace hp_49 : ((r__48 = 1 ∧ ¬ lg_cmp zb.toInt64 (0 : Int64) < 0 ∧ ¬ 0 < lg_cmp zb.toInt64 (3 : Int64)) ∨ (r__48 = 0 ∧ (lg_cmp zb.toInt64 (0 : Int64) < 0 ∨ 0 < lg_cmp zb.toInt64 (3 : Int64)))) := hp_49
      have ha_50 := hp_49
      clear hp_49
      rcases ha_50 with ⟨rfl, a_51, a_52⟩ | ⟨rfl, a_53⟩
      · refine W.eq (g2 := F0 m 121 ls [.int 1]) rfl ?_
        have hin_54 : (0 : Int) ≤ zb.toInt ∧ zb.toInt ≤ (3 : Int) := l_in (l_of rfl) (by decide) (by decide) a_51 a_52
        obtain ⟨j_55, hj_55, rfl⟩ : ∃ j9 : Nat, (j9 : Int) ≤ (3 : Int) ∧ zb = nI j9 := i_nat (by omega) (by omega)
        refine lv_istore_n (lv' := [(3, .int 1), (0, .ref m0), (1, .int 4), (2, .int (nI j_55))]) hx hb dX12_dialect_121 rfl hl (by decide) rfl (fun ls hl => ?_)
        refine lv_goto (tgt := 158) hx hb dX12_dialect_122 (by decide) ?_
        refine lv_iload_n hx hb dX12_dialect_158 rfl (lv_at hl 0 rfl) ?_
        refine lv_if_eq (tgt := 173) hx hb dX12_dialect_159 (by decide) (fun c_56 => absurd c_56 (by decide)) (fun c_56 => ?_)
        refine lv_aload_n hx hb dX12_dialect_162 rfl (lv_at hl 1 rfl) ?_
        refine va_get (D := D) (ci := 12) (v := .ref a0) (C := RX12) (T := TX12) (N := 30) hx hb hts inlX12 hown hK hP 0 rfl rfl 0 (by decide) (hts _ mw_187) (fun _ h9 => h9) rfl dX12_dialect_163 ?_
        refine lv_sipush (v := 21369) hx hb dX12_dialect_166 (by decide) ?_
        refine lv_iload_n hx hb dX12_dialect_169 rfl (lv_at hl 2 rfl) ?_
        refine lv_iadd hx hb dX12_dialect_170 ?_
        refine ki (v := 21373) (by decide) ?_
        refine lv_iload_n hx hb dX12_dialect_171 rfl (lv_at hl 3 rfl) ?_
        refine va_iast hx hb hK hP hD hS 1 0 rfl rfl (i := 21373) (x := nI j_55) (vp_k (by decide)) dX12_dialect_172 (fun H locs hP hD hS => ?_)
        have hP : va_P D vwCl [(m0, .inr (12, [.ref a0, .ref a1, .ref a2, .int (nI u3), .int f4, .ref a5, .int (nI u6), .int f7, .int f8, .int f9, .int f10, .int (nI u11), .int (nI u12), .int (nI u13), .ref a14, .ref a15, .ref a16, .ref a17, .int f18, .int f19, .ref a20, .ref a21, .int (nI u22), .ref a23, .ref a24, .ref a25, .int (nI u26), .int f27, .ref a28, .int (nI u29)])), (a0, .inl (κ 0, 21375, .inl (upd w 21373 (nI j_55))))] H := hP
        have hD : va_D A [(m0, .inr (12, [.ref a0, .ref a1, .ref a2, .int (nI u3), .int f4, .ref a5, .int (nI u6), .int f7, .int f8, .int f9, .int f10, .int (nI u11), .int (nI u12), .int (nI u13), .ref a14, .ref a15, .ref a16, .ref a17, .int f18, .int f19, .ref a20, .ref a21, .int (nI u22), .ref a23, .ref a24, .ref a25, .int (nI u26), .int f27, .ref a28, .int (nI u29)])), (a0, .inl (κ 0, 21375, .inl (upd w 21373 (nI j_55))))] := hD
        have hf_58 : Pw (upd w 21373 (nI j_55)) := (Pw_free h_a0 (fDIAL (by omega)))
        generalize hge_g_57 : upd w 21373 (nI j_55) = g_57 at hP hD hf_58
        refine lv_iload_n hx hb dX12_dialect_173 rfl (lv_at hl 0 rfl) ?_
        exact ct_iret hx hb hr hlk rfl hS hP hD (1, g_57) rfl ⟨(show Pw g_57 from (by first | assumption | omega | rfl | exact Or.inl (by assumption) | exact Or.inr (by assumption))), (by exact Or.inl (⟨rfl, (show dOk 4 (nI j_55) from (by first | exact dOk_4 (by omega) | (unfold dOk; simp_all; done))), (show dW g_57 = upd (dW w) (Int32.toNatClampNeg 4) (nI j_55) from (by rw [← hge_g_57]; exact (dW_up (j := 4)).trans (congrArg (fun k9 => upd (dW w) k9 (nI j_55)) (by decide))))⟩))⟩ [0, 1] rfl (by decide) trivial (Nat.le_of_ble_eq_true rfl) (Nat.le_of_ble_eq_true rfl) dX12_dialect_174
      · refine W.eq (g2 := F0 m 121 ls [.int 0]) rfl ?_
        have hin_59 : zb.toInt < (0 : Int) ∨ (3 : Int) < zb.toInt := l_out (l_of rfl) (by decide) (by decide) a_53
        refine lv_istore_n (lv' := [(3, .int 0), (0, .ref m0), (1, .int 4), (2, .int zb)]) hx hb dX12_dialect_121 rfl hl (by decide) rfl (fun ls hl => ?_)
        refine lv_goto (tgt := 158) hx hb dX12_dialect_122 (by decide) ?_
        refine lv_iload_n hx hb dX12_dialect_158 rfl (lv_at hl 0 rfl) ?_
        refine lv_if_eq (tgt := 173) hx hb dX12_dialect_159 (by decide) (fun c_60 => ?_) (fun c_60 => absurd (by decide) c_60)
        refine lv_iload_n hx hb dX12_dialect_173 rfl (lv_at hl 0 rfl) ?_
        exact ct_iret hx hb hr hlk rfl hS hP hD (0, w) rfl ⟨(show Pw w from (by first | assumption | omega | rfl | exact Or.inl (by assumption) | exact Or.inr (by assumption))), (by exact Or.inr ((⟨rfl, (show ¬ dOk 4 zb from (by first | exact dOk_4n (by omega) | (unfold dOk; simp_all; done) | (unfold dOk; simp_all; decide))), (show dW w = dW w from rfl)⟩)))⟩ [0, 1] rfl (by decide) trivial (Nat.le_of_ble_eq_true rfl) (Nat.le_of_ble_eq_true rfl) dX12_dialect_174
    · refine lv_tableIn (tgt := 125) hx hb dX12_dialect_1 (by decide) (by decide) rfl (by decide) ?_
      refine lv_iload_n hx hb dX12_dialect_125 rfl (lv_at hl 2 rfl) ?_
      refine lv_if_eq (tgt := 147) hx hb dX12_dialect_126 (by decide) (fun c_61 => ?_) (fun c_61 => ?_)
      · refine lv_iconst (v := 1) hx hb dX12_dialect_147 (by decide) ?_
        refine lv_goto (tgt := 152) hx hb dX12_dialect_148 (by decide) ?_
        refine lv_istore_n (lv' := [(3, .int 1), (0, .ref m0), (1, .int 5), (2, .int zb)]) hx hb dX12_dialect_152 rfl hl (by decide) rfl (fun ls hl => ?_)
        refine lv_goto (tgt := 158) hx hb dX12_dialect_153 (by decide) ?_
        refine lv_iload_n hx hb dX12_dialect_158 rfl (lv_at hl 0 rfl) ?_
        refine lv_if_eq (tgt := 173) hx hb dX12_dialect_159 (by decide) (fun c_62 => absurd c_62 (by decide)) (fun c_62 => ?_)
        refine lv_aload_n hx hb dX12_dialect_162 rfl (lv_at hl 1 rfl) ?_
        refine va_get (D := D) (ci := 12) (v := .ref a0) (C := RX12) (T := TX12) (N := 30) hx hb hts inlX12 hown hK hP 0 rfl rfl 0 (by decide) (hts _ mw_187) (fun _ h9 => h9) rfl dX12_dialect_163 ?_
        refine lv_sipush (v := 21369) hx hb dX12_dialect_166 (by decide) ?_
        refine lv_iload_n hx hb dX12_dialect_169 rfl (lv_at hl 2 rfl) ?_
        refine lv_iadd hx hb dX12_dialect_170 ?_
        refine ki (v := 21374) (by decide) ?_
        refine lv_iload_n hx hb dX12_dialect_171 rfl (lv_at hl 3 rfl) ?_
        refine va_iast hx hb hK hP hD hS 1 0 rfl rfl (i := 21374) (x := zb) (vp_k (by decide)) dX12_dialect_172 (fun H locs hP hD hS => ?_)
        have hP : va_P D vwCl [(m0, .inr (12, [.ref a0, .ref a1, .ref a2, .int (nI u3), .int f4, .ref a5, .int (nI u6), .int f7, .int f8, .int f9, .int f10, .int (nI u11), .int (nI u12), .int (nI u13), .ref a14, .ref a15, .ref a16, .ref a17, .int f18, .int f19, .ref a20, .ref a21, .int (nI u22), .ref a23, .ref a24, .ref a25, .int (nI u26), .int f27, .ref a28, .int (nI u29)])), (a0, .inl (κ 0, 21375, .inl (upd w 21374 zb)))] H := hP
        have hD : va_D A [(m0, .inr (12, [.ref a0, .ref a1, .ref a2, .int (nI u3), .int f4, .ref a5, .int (nI u6), .int f7, .int f8, .int f9, .int f10, .int (nI u11), .int (nI u12), .int (nI u13), .ref a14, .ref a15, .ref a16, .ref a17, .int f18, .int f19, .ref a20, .ref a21, .int (nI u22), .ref a23, .ref a24, .ref a25, .int (nI u26), .int f27, .ref a28, .int (nI u29)])), (a0, .inl (κ 0, 21375, .inl (upd w 21374 zb)))] := hD
        have hf_64 : Pw (upd w 21374 zb) := (Pw_free h_a0 (fDIAL (by omega)))
        generalize hge_g_63 : upd w 21374 zb = g_63 at hP hD hf_64
        refine lv_iload_n hx hb dX12_dialect_173 rfl (lv_at hl 0 rfl) ?_
        exact ct_iret hx hb hr hlk rfl hS hP hD (1, g_63) rfl ⟨(show Pw g_63 from (by first | assumption | omega | rfl | exact Or.inl (by assumption) | exact Or.inr (by assumption))), (by exact Or.inl (⟨rfl, (show dOk 5 zb from (by first | exact dOk_4 (by omega) | (unfold dOk; simp_all; done))), (show dW g_63 = upd (dW w) (Int32.toNatClampNeg 5) zb from (by rw [← hge_g_63]; exact (dW_up (j := 5)).trans (congrArg (fun k9 => upd (dW w) k9 (zb)) (by decide))))⟩))⟩ [0, 1] rfl (by decide) trivial (Nat.le_of_ble_eq_true rfl) (Nat.le_of_ble_eq_true rfl) dX12_dialect_174
      · refine lv_iload_n hx hb dX12_dialect_129 rfl (lv_at hl 2 rfl) ?_
        refine lv_bipush (v := 35) hx hb dX12_dialect_130 (by decide) ?_
        refine lv_icmp_eq (tgt := 147) hx hb dX12_dialect_132 (by decide) (fun c_65 => ?_) (fun c_65 => ?_)
        · refine lv_iconst (v := 1) hx hb dX12_dialect_147 (by decide) ?_
          refine lv_goto (tgt := 152) hx hb dX12_dialect_148 (by decide) ?_
          refine lv_istore_n (lv' := [(3, .int 1), (0, .ref m0), (1, .int 5), (2, .int zb)]) hx hb dX12_dialect_152 rfl hl (by decide) rfl (fun ls hl => ?_)
          refine lv_goto (tgt := 158) hx hb dX12_dialect_153 (by decide) ?_
          refine lv_iload_n hx hb dX12_dialect_158 rfl (lv_at hl 0 rfl) ?_
          refine lv_if_eq (tgt := 173) hx hb dX12_dialect_159 (by decide) (fun c_66 => absurd c_66 (by decide)) (fun c_66 => ?_)
          refine lv_aload_n hx hb dX12_dialect_162 rfl (lv_at hl 1 rfl) ?_
          refine va_get (D := D) (ci := 12) (v := .ref a0) (C := RX12) (T := TX12) (N := 30) hx hb hts inlX12 hown hK hP 0 rfl rfl 0 (by decide) (hts _ mw_187) (fun _ h9 => h9) rfl dX12_dialect_163 ?_
          refine lv_sipush (v := 21369) hx hb dX12_dialect_166 (by decide) ?_
          refine lv_iload_n hx hb dX12_dialect_169 rfl (lv_at hl 2 rfl) ?_
          refine lv_iadd hx hb dX12_dialect_170 ?_
          refine ki (v := 21374) (by decide) ?_
          refine lv_iload_n hx hb dX12_dialect_171 rfl (lv_at hl 3 rfl) ?_
          refine va_iast hx hb hK hP hD hS 1 0 rfl rfl (i := 21374) (x := zb) (vp_k (by decide)) dX12_dialect_172 (fun H locs hP hD hS => ?_)
          have hP : va_P D vwCl [(m0, .inr (12, [.ref a0, .ref a1, .ref a2, .int (nI u3), .int f4, .ref a5, .int (nI u6), .int f7, .int f8, .int f9, .int f10, .int (nI u11), .int (nI u12), .int (nI u13), .ref a14, .ref a15, .ref a16, .ref a17, .int f18, .int f19, .ref a20, .ref a21, .int (nI u22), .ref a23, .ref a24, .ref a25, .int (nI u26), .int f27, .ref a28, .int (nI u29)])), (a0, .inl (κ 0, 21375, .inl (upd w 21374 zb)))] H := hP
          have hD : va_D A [(m0, .inr (12, [.ref a0, .ref a1, .ref a2, .int (nI u3), .int f4, .ref a5, .int (nI u6), .int f7, .int f8, .int f9, .int f10, .int (nI u11), .int (nI u12), .int (nI u13), .ref a14, .ref a15, .ref a16, .ref a17, .int f18, .int f19, .ref a20, .ref a21, .int (nI u22), .ref a23, .ref a24, .ref a25, .int (nI u26), .int f27, .ref a28, .int (nI u29)])), (a0, .inl (κ 0, 21375, .inl (upd w 21374 zb)))] := hD
          have hf_68 : Pw (upd w 21374 zb) := (Pw_free h_a0 (fDIAL (by omega)))
          generalize hge_g_67 : upd w 21374 zb = g_67 at hP hD hf_68
          refine lv_iload_n hx hb dX12_dialect_173 rfl (lv_at hl 0 rfl) ?_
          exact ct_iret hx hb hr hlk rfl hS hP hD (1, g_67) rfl ⟨(show Pw g_67 from (by first | assumption | omega | rfl | exact Or.inl (by assumption) | exact Or.inr (by assumption))), (by exact Or.inl (⟨rfl, (show dOk 5 zb from (by first | exact dOk_4 (by omega) | (unfold dOk; simp_all; done))), (show dW g_67 = upd (dW w) (Int32.toNatClampNeg 5) zb from (by rw [← hge_g_67]; exact (dW_up (j := 5)).trans (congrArg (fun k9 => upd (dW w) k9 (zb)) (by decide))))⟩))⟩ [0, 1] rfl (by decide) trivial (Nat.le_of_ble_eq_true rfl) (Nat.le_of_ble_eq_true rfl) dX12_dialect_174
        · refine lv_iload_n hx hb dX12_dialect_135 rfl (lv_at hl 2 rfl) ?_
          refine lv_bipush (v := 37) hx hb dX12_dialect_136 (by decide) ?_
          refine lv_icmp_eq (tgt := 147) hx hb dX12_dialect_138 (by decide) (fun c_69 => ?_) (fun c_69 => ?_)
          · refine lv_iconst (v := 1) hx hb dX12_dialect_147 (by decide) ?_
            refine lv_goto (tgt := 152) hx hb dX12_dialect_148 (by decide) ?_
            refine lv_istore_n (lv' := [(3, .int 1), (0, .ref m0), (1, .int 5), (2, .int zb)]) hx hb dX12_dialect_152 rfl hl (by decide) rfl (fun ls hl => ?_)
            refine lv_goto (tgt := 158) hx hb dX12_dialect_153 (by decide) ?_
            refine lv_iload_n hx hb dX12_dialect_158 rfl (lv_at hl 0 rfl) ?_
            refine lv_if_eq (tgt := 173) hx hb dX12_dialect_159 (by decide) (fun c_70 => absurd c_70 (by decide)) (fun c_70 => ?_)
            refine lv_aload_n hx hb dX12_dialect_162 rfl (lv_at hl 1 rfl) ?_
            refine va_get (D := D) (ci := 12) (v := .ref a0) (C := RX12) (T := TX12) (N := 30) hx hb hts inlX12 hown hK hP 0 rfl rfl 0 (by decide) (hts _ mw_187) (fun _ h9 => h9) rfl dX12_dialect_163 ?_
            refine lv_sipush (v := 21369) hx hb dX12_dialect_166 (by decide) ?_
            refine lv_iload_n hx hb dX12_dialect_169 rfl (lv_at hl 2 rfl) ?_
            refine lv_iadd hx hb dX12_dialect_170 ?_
            refine ki (v := 21374) (by decide) ?_
            refine lv_iload_n hx hb dX12_dialect_171 rfl (lv_at hl 3 rfl) ?_
            refine va_iast hx hb hK hP hD hS 1 0 rfl rfl (i := 21374) (x := zb) (vp_k (by decide)) dX12_dialect_172 (fun H locs hP hD hS => ?_)
            have hP : va_P D vwCl [(m0, .inr (12, [.ref a0, .ref a1, .ref a2, .int (nI u3), .int f4, .ref a5, .int (nI u6), .int f7, .int f8, .int f9, .int f10, .int (nI u11), .int (nI u12), .int (nI u13), .ref a14, .ref a15, .ref a16, .ref a17, .int f18, .int f19, .ref a20, .ref a21, .int (nI u22), .ref a23, .ref a24, .ref a25, .int (nI u26), .int f27, .ref a28, .int (nI u29)])), (a0, .inl (κ 0, 21375, .inl (upd w 21374 zb)))] H := hP
            have hD : va_D A [(m0, .inr (12, [.ref a0, .ref a1, .ref a2, .int (nI u3), .int f4, .ref a5, .int (nI u6), .int f7, .int f8, .int f9, .int f10, .int (nI u11), .int (nI u12), .int (nI u13), .ref a14, .ref a15, .ref a16, .ref a17, .int f18, .int f19, .ref a20, .ref a21, .int (nI u22), .ref a23, .ref a24, .ref a25, .int (nI u26), .int f27, .ref a28, .int (nI u29)])), (a0, .inl (κ 0, 21375, .inl (upd w 21374 zb)))] := hD
            have hf_72 : Pw (upd w 21374 zb) := (Pw_free h_a0 (fDIAL (by omega)))
            generalize hge_g_71 : upd w 21374 zb = g_71 at hP hD hf_72
            refine lv_iload_n hx hb dX12_dialect_173 rfl (lv_at hl 0 rfl) ?_
            exact ct_iret hx hb hr hlk rfl hS hP hD (1, g_71) rfl ⟨(show Pw g_71 from (by first | assumption | omega | rfl | exact Or.inl (by assumption) | exact Or.inr (by assumption))), (by exact Or.inl (⟨rfl, (show dOk 5 zb from (by first | exact dOk_4 (by omega) | (unfold dOk; simp_all; done))), (show dW g_71 = upd (dW w) (Int32.toNatClampNeg 5) zb from (by rw [← hge_g_71]; exact (dW_up (j := 5)).trans (congrArg (fun k9 => upd (dW w) k9 (zb)) (by decide))))⟩))⟩ [0, 1] rfl (by decide) trivial (Nat.le_of_ble_eq_true rfl) (Nat.le_of_ble_eq_true rfl) dX12_dialect_174
          · refine lv_iload_n hx hb dX12_dialect_141 rfl (lv_at hl 2 rfl) ?_
            refine lv_bipush (v := 42) hx hb dX12_dialect_142 (by decide) ?_
            refine lv_icmp_ne (tgt := 151) hx hb dX12_dialect_144 (by decide) (fun c_73 => ?_) (fun c_73 => ?_)
            · refine lv_iconst (v := 0) hx hb dX12_dialect_151 (by decide) ?_
              refine lv_istore_n (lv' := [(3, .int 0), (0, .ref m0), (1, .int 5), (2, .int zb)]) hx hb dX12_dialect_152 rfl hl (by decide) rfl (fun ls hl => ?_)
              refine lv_goto (tgt := 158) hx hb dX12_dialect_153 (by decide) ?_
              refine lv_iload_n hx hb dX12_dialect_158 rfl (lv_at hl 0 rfl) ?_
              refine lv_if_eq (tgt := 173) hx hb dX12_dialect_159 (by decide) (fun c_74 => ?_) (fun c_74 => absurd (by decide) c_74)
              refine lv_iload_n hx hb dX12_dialect_173 rfl (lv_at hl 0 rfl) ?_
              exact ct_iret hx hb hr hlk rfl hS hP hD (0, w) rfl ⟨(show Pw w from (by first | assumption | omega | rfl | exact Or.inl (by assumption) | exact Or.inr (by assumption))), (by exact Or.inr ((⟨rfl, (show ¬ dOk 5 zb from (by first | exact dOk_4n (by omega) | (unfold dOk; simp_all; done) | (unfold dOk; simp_all; decide))), (show dW w = dW w from rfl)⟩)))⟩ [0, 1] rfl (by decide) trivial (Nat.le_of_ble_eq_true rfl) (Nat.le_of_ble_eq_true rfl) dX12_dialect_174
            · refine lv_iconst (v := 1) hx hb dX12_dialect_147 (by decide) ?_
              refine lv_goto (tgt := 152) hx hb dX12_dialect_148 (by decide) ?_
              refine lv_istore_n (lv' := [(3, .int 1), (0, .ref m0), (1, .int 5), (2, .int zb)]) hx hb dX12_dialect_152 rfl hl (by decide) rfl (fun ls hl => ?_)
              refine lv_goto (tgt := 158) hx hb dX12_dialect_153 (by decide) ?_
              refine lv_iload_n hx hb dX12_dialect_158 rfl (lv_at hl 0 rfl) ?_
              refine lv_if_eq (tgt := 173) hx hb dX12_dialect_159 (by decide) (fun c_75 => absurd c_75 (by decide)) (fun c_75 => ?_)
              refine lv_aload_n hx hb dX12_dialect_162 rfl (lv_at hl 1 rfl) ?_
              refine va_get (D := D) (ci := 12) (v := .ref a0) (C := RX12) (T := TX12) (N := 30) hx hb hts inlX12 hown hK hP 0 rfl rfl 0 (by decide) (hts _ mw_187) (fun _ h9 => h9) rfl dX12_dialect_163 ?_
              refine lv_sipush (v := 21369) hx hb dX12_dialect_166 (by decide) ?_
              refine lv_iload_n hx hb dX12_dialect_169 rfl (lv_at hl 2 rfl) ?_
              refine lv_iadd hx hb dX12_dialect_170 ?_
              refine ki (v := 21374) (by decide) ?_
              refine lv_iload_n hx hb dX12_dialect_171 rfl (lv_at hl 3 rfl) ?_
              refine va_iast hx hb hK hP hD hS 1 0 rfl rfl (i := 21374) (x := zb) (vp_k (by decide)) dX12_dialect_172 (fun H locs hP hD hS => ?_)
              have hP : va_P D vwCl [(m0, .inr (12, [.ref a0, .ref a1, .ref a2, .int (nI u3), .int f4, .ref a5, .int (nI u6), .int f7, .int f8, .int f9, .int f10, .int (nI u11), .int (nI u12), .int (nI u13), .ref a14, .ref a15, .ref a16, .ref a17, .int f18, .int f19, .ref a20, .ref a21, .int (nI u22), .ref a23, .ref a24, .ref a25, .int (nI u26), .int f27, .ref a28, .int (nI u29)])), (a0, .inl (κ 0, 21375, .inl (upd w 21374 zb)))] H := hP
              have hD : va_D A [(m0, .inr (12, [.ref a0, .ref a1, .ref a2, .int (nI u3), .int f4, .ref a5, .int (nI u6), .int f7, .int f8, .int f9, .int f10, .int (nI u11), .int (nI u12), .int (nI u13), .ref a14, .ref a15, .ref a16, .ref a17, .int f18, .int f19, .ref a20, .ref a21, .int (nI u22), .ref a23, .ref a24, .ref a25, .int (nI u26), .int f27, .ref a28, .int (nI u29)])), (a0, .inl (κ 0, 21375, .inl (upd w 21374 zb)))] := hD
              have hf_77 : Pw (upd w 21374 zb) := (Pw_free h_a0 (fDIAL (by omega)))
              generalize hge_g_76 : upd w 21374 zb = g_76 at hP hD hf_77
              refine lv_iload_n hx hb dX12_dialect_173 rfl (lv_at hl 0 rfl) ?_
              exact ct_iret hx hb hr hlk rfl hS hP hD (1, g_76) rfl ⟨(show Pw g_76 from (by first | assumption | omega | rfl | exact Or.inl (by assumption) | exact Or.inr (by assumption))), (by exact Or.inl (⟨rfl, (show dOk 5 zb from (by first | exact dOk_4 (by omega) | (unfold dOk; simp_all; done))), (show dW g_76 = upd (dW w) (Int32.toNatClampNeg 5) zb from (by rw [← hge_g_76]; exact (dW_up (j := 5)).trans (congrArg (fun k9 => upd (dW w) k9 (zb)) (by decide))))⟩))⟩ [0, 1] rfl (by decide) trivial (Nat.le_of_ble_eq_true rfl) (Nat.le_of_ble_eq_true rfl) dX12_dialect_174
set_option maxHeartbeats 4000000 in
set_option maxRecDepth 100000 in
theorem f_X12_comes (l : Launch) (D : va_G) (κ : Nat → ClassId) (m0 : Nat) (a0 : Nat) (a1 : Nat) (a2 : Nat) (u3 : Nat) (f4 : Int32) (a5 : Nat) (u6 : Nat) (f7 : Int32) (f8 : Int32) (f9 : Int32) (f10 : Int32) (u11 : Nat) (u12 : Nat) (u13 : Nat) (a14 : Nat) (a15 : Nat) (a16 : Nat) (a17 : Nat) (f18 : Int32) (f19 : Int32) (a20 : Nat) (a21 : Nat) (u22 : Nat) (a23 : Nat) (a24 : Nat) (a25 : Nat) (u26 : Nat) (f27 : Int32) (a28 : Nat) (u29 : Nat) (tp : Nat → Int32) (za : Int32) (h6 : u6 ≤ 796) : Ct l yX12_comes (wl yX12_comes cX12_comes 3 none) { frames := 0, cells := 0, slots := 0, locals := 0 } D κ [.ref m0, .int za] [(m0, .inr (12, [.ref a0, .ref a1, .ref a2, .int (nI u3), .int f4, .ref a5, .int (nI u6), .int f7, .int f8, .int f9, .int f10, .int (nI u11), .int (nI u12), .int (nI u13), .ref a14, .ref a15, .ref a16, .ref a17, .int f18, .int f19, .ref a20, .ref a21, .int (nI u22), .ref a23, .ref a24, .ref a25, .int (nI u26), .int f27, .ref a28, .int (nI u29)])), (a5, .inl (κ 0, 800, .inl tp))] (fun _ => True) (fun g_a5 : (Nat → Int32) => none) (fun g_a5 : (Nat → Int32) => g_a5 = by4 tp u6 za) (fun g_a5 : (Nat → Int32) => [(m0, .inr (12, [.ref a0, .ref a1, .ref a2, .int (nI u3), .int f4, .ref a5, .int (nI (u6 + 4)), .int f7, .int f8, .int f9, .int f10, .int (nI u11), .int (nI u12), .int (nI u13), .ref a14, .ref a15, .ref a16, .ref a17, .int f18, .int f19, .ref a20, .ref a21, .int (nI u22), .ref a23, .ref a24, .ref a25, .int (nI u26), .int f27, .ref a28, .int (nI u29)])), (a5, .inl (κ 0, 800, .inl g_a5))]) (fun _ _ => True) := by
  refine ct_of (by decide +kernel) (Nat.le_of_ble_eq_true rfl) ?_
  intro p e s m args below meth c A ls hx hb hr hml hts hown hlk hin hKK hK hA hP hD hS hI hl
  have hS : va_S A s.heap s.heap [] := hS
  have hFX : FX p s m args c cX12_comes 3 RX12 := ⟨hx, hb, hml, hown, hts⟩
  have hl : lv_has ls 3 [(0, .ref m0), (1, .int za)] := hl
  refine lv_bipush (v := 24) hx hb dX12_comes_0 (by decide) ?_
  refine lv_istore_n (lv' := [(2, .int 24), (0, .ref m0), (1, .int za)]) hx hb dX12_comes_2 rfl hl (by decide) rfl (fun ls hl => ?_)
  refine lv_iload_n hx hb dX12_comes_3 rfl (lv_at hl 0 rfl) ?_
  refine lv_if_lt (tgt := 39) hx hb dX12_comes_4 (by decide) (fun c_1 => absurd c_1 (by decide)) (fun c_1 => ?_)
  refine lv_aload_n hx hb dX12_comes_7 rfl (lv_at hl 1 rfl) ?_
  refine va_get (D := D) (ci := 12) (v := .ref a5) (C := RX12) (T := TX12) (N := 30) hx hb hts inlX12 hown hK hP 0 rfl rfl 5 (by decide) (hts _ mw_191) (fun _ h9 => h9) rfl dX12_comes_8 ?_
  refine lv_aload_n hx hb dX12_comes_11 rfl (lv_at hl 1 rfl) ?_
  refine va_get (D := D) (ci := 12) (v := .int (nI u6)) (C := RX12) (T := TX12) (N := 30) hx hb hts inlX12 hown hK hP 0 rfl rfl 6 (by decide) (hts _ mw_236) (fun _ h9 => h9) rfl dX12_comes_12 ?_
  refine lv_iload_n hx hb dX12_comes_15 rfl (lv_at hl 2 rfl) ?_
  refine lv_iload_n hx hb dX12_comes_16 rfl (lv_at hl 0 rfl) ?_
  obtain ⟨x_2, ex_2⟩ : ∃ v9 : Int32, (za.toUInt32 >>> (Int32.toUInt32 24 &&& Int32.toUInt32 31)).toInt32 = v9 := ⟨_, rfl⟩
  refine lv_iushr (v := x_2) hx hb dX12_comes_17 ex_2 ?_
  refine lv_sipush (v := 255) hx hb dX12_comes_18 (by decide) ?_
  refine lv_iand hx hb dX12_comes_21 ?_
  refine lv_topi (fun x_3 ex_3 => ?_)
  refine va_iast hx hb hK hP hD hS 1 0 rfl rfl (i := nI u6) (x := x_3) (vp_in_nI (n := u6) (by omega) (by omega)) dX12_comes_22 (fun H locs hP hD hS => ?_)
  rw [nI_clamp (by omega)] at hP hD
  have hP : va_P D vwCl [(m0, .inr (12, [.ref a0, .ref a1, .ref a2, .int (nI u3), .int f4, .ref a5, .int (nI u6), .int f7, .int f8, .int f9, .int f10, .int (nI u11), .int (nI u12), .int (nI u13), .ref a14, .ref a15, .ref a16, .ref a17, .int f18, .int f19, .ref a20, .ref a21, .int (nI u22), .ref a23, .ref a24, .ref a25, .int (nI u26), .int f27, .ref a28, .int (nI u29)])), (a5, .inl (κ 0, 800, .inl (upd tp u6 x_3)))] H := hP
  have hD : va_D A [(m0, .inr (12, [.ref a0, .ref a1, .ref a2, .int (nI u3), .int f4, .ref a5, .int (nI u6), .int f7, .int f8, .int f9, .int f10, .int (nI u11), .int (nI u12), .int (nI u13), .ref a14, .ref a15, .ref a16, .ref a17, .int f18, .int f19, .ref a20, .ref a21, .int (nI u22), .ref a23, .ref a24, .ref a25, .int (nI u26), .int f27, .ref a28, .int (nI u29)])), (a5, .inl (κ 0, 800, .inl (upd tp u6 x_3)))] := hD
  generalize hge_g_4 : upd tp u6 x_3 = g_4 at hP hD 
  refine lv_aload_n hx hb dX12_comes_23 rfl (lv_at hl 1 rfl) ?_
  refine lv_dup hx hb dX12_comes_24 rfl ?_
  refine va_get (D := D) (ci := 12) (v := .int (nI u6)) (C := RX12) (T := TX12) (N := 30) hx hb hts inlX12 hown hK hP 0 rfl rfl 6 (by decide) (hts _ mw_236) (fun _ h9 => h9) rfl dX12_comes_25 ?_
  refine lv_iconst (v := 1) hx hb dX12_comes_28 (by decide) ?_
  refine lv_iadd hx hb dX12_comes_29 ?_
  refine ki (v := (nI (u6 + 1))) (nI_add u6 1) ?_
  refine va_put (D := D) (ci := 12) (v := .int (nI (u6 + 1))) (ty := tyX12 6) (C := RX12) (T := TX12) (N := 30) hx hb hts inlX12 tyX12 tyX12_ok nmX12 hown hK hP hD hS 0 rfl rfl 6 (by decide) (hts _ mw_236) (fun _ h9 => h9) rfl (tyX12_ok 6 (by decide)) rfl rfl (Nat.le_of_ble_eq_true rfl) dX12_comes_30 (fun H locs hP hD hS => ?_)
  have hP : va_P D vwCl [(m0, .inr (12, [.ref a0, .ref a1, .ref a2, .int (nI u3), .int f4, .ref a5, .int (nI (u6 + 1)), .int f7, .int f8, .int f9, .int f10, .int (nI u11), .int (nI u12), .int (nI u13), .ref a14, .ref a15, .ref a16, .ref a17, .int f18, .int f19, .ref a20, .ref a21, .int (nI u22), .ref a23, .ref a24, .ref a25, .int (nI u26), .int f27, .ref a28, .int (nI u29)])), (a5, .inl (κ 0, 800, .inl g_4))] H := hP
  have hD : va_D A [(m0, .inr (12, [.ref a0, .ref a1, .ref a2, .int (nI u3), .int f4, .ref a5, .int (nI (u6 + 1)), .int f7, .int f8, .int f9, .int f10, .int (nI u11), .int (nI u12), .int (nI u13), .ref a14, .ref a15, .ref a16, .ref a17, .int f18, .int f19, .ref a20, .ref a21, .int (nI u22), .ref a23, .ref a24, .ref a25, .int (nI u26), .int f27, .ref a28, .int (nI u29)])), (a5, .inl (κ 0, 800, .inl g_4))] := hD
  refine lv_iinc (v := 16) (lv' := [(2, .int 16), (0, .ref m0), (1, .int za)]) hx hb dX12_comes_33 hl (k := 0) rfl (by decide) (by decide) rfl (fun ls hl => ?_)
  refine lv_goto (tgt := 3) hx hb dX12_comes_36 (by decide) ?_
  refine lv_iload_n hx hb dX12_comes_3 rfl (lv_at hl 0 rfl) ?_
  refine lv_if_lt (tgt := 39) hx hb dX12_comes_4 (by decide) (fun c_5 => absurd c_5 (by decide)) (fun c_5 => ?_)
  refine lv_aload_n hx hb dX12_comes_7 rfl (lv_at hl 1 rfl) ?_
  refine va_get (D := D) (ci := 12) (v := .ref a5) (C := RX12) (T := TX12) (N := 30) hx hb hts inlX12 hown hK hP 0 rfl rfl 5 (by decide) (hts _ mw_191) (fun _ h9 => h9) rfl dX12_comes_8 ?_
  refine lv_aload_n hx hb dX12_comes_11 rfl (lv_at hl 1 rfl) ?_
  refine va_get (D := D) (ci := 12) (v := .int (nI (u6 + 1))) (C := RX12) (T := TX12) (N := 30) hx hb hts inlX12 hown hK hP 0 rfl rfl 6 (by decide) (hts _ mw_236) (fun _ h9 => h9) rfl dX12_comes_12 ?_
  refine lv_iload_n hx hb dX12_comes_15 rfl (lv_at hl 2 rfl) ?_
  refine lv_iload_n hx hb dX12_comes_16 rfl (lv_at hl 0 rfl) ?_
  obtain ⟨x_6, ex_6⟩ : ∃ v9 : Int32, (za.toUInt32 >>> (Int32.toUInt32 16 &&& Int32.toUInt32 31)).toInt32 = v9 := ⟨_, rfl⟩
  refine lv_iushr (v := x_6) hx hb dX12_comes_17 ex_6 ?_
  refine lv_sipush (v := 255) hx hb dX12_comes_18 (by decide) ?_
  refine lv_iand hx hb dX12_comes_21 ?_
  refine lv_topi (fun x_7 ex_7 => ?_)
  refine va_iast hx hb hK hP hD hS 1 0 rfl rfl (i := nI (u6 + 1)) (x := x_7) (vp_in_nI (n := (u6 + 1)) (by omega) (by omega)) dX12_comes_22 (fun H locs hP hD hS => ?_)
  rw [nI_clamp (by omega)] at hP hD
  have hP : va_P D vwCl [(m0, .inr (12, [.ref a0, .ref a1, .ref a2, .int (nI u3), .int f4, .ref a5, .int (nI (u6 + 1)), .int f7, .int f8, .int f9, .int f10, .int (nI u11), .int (nI u12), .int (nI u13), .ref a14, .ref a15, .ref a16, .ref a17, .int f18, .int f19, .ref a20, .ref a21, .int (nI u22), .ref a23, .ref a24, .ref a25, .int (nI u26), .int f27, .ref a28, .int (nI u29)])), (a5, .inl (κ 0, 800, .inl (upd g_4 (u6 + 1) x_7)))] H := hP
  have hD : va_D A [(m0, .inr (12, [.ref a0, .ref a1, .ref a2, .int (nI u3), .int f4, .ref a5, .int (nI (u6 + 1)), .int f7, .int f8, .int f9, .int f10, .int (nI u11), .int (nI u12), .int (nI u13), .ref a14, .ref a15, .ref a16, .ref a17, .int f18, .int f19, .ref a20, .ref a21, .int (nI u22), .ref a23, .ref a24, .ref a25, .int (nI u26), .int f27, .ref a28, .int (nI u29)])), (a5, .inl (κ 0, 800, .inl (upd g_4 (u6 + 1) x_7)))] := hD
  generalize hge_g_8 : upd g_4 (u6 + 1) x_7 = g_8 at hP hD 
  refine lv_aload_n hx hb dX12_comes_23 rfl (lv_at hl 1 rfl) ?_
  refine lv_dup hx hb dX12_comes_24 rfl ?_
  refine va_get (D := D) (ci := 12) (v := .int (nI (u6 + 1))) (C := RX12) (T := TX12) (N := 30) hx hb hts inlX12 hown hK hP 0 rfl rfl 6 (by decide) (hts _ mw_236) (fun _ h9 => h9) rfl dX12_comes_25 ?_
  refine lv_iconst (v := 1) hx hb dX12_comes_28 (by decide) ?_
  refine lv_iadd hx hb dX12_comes_29 ?_
  refine ki (v := (nI (u6 + 1 + 1))) (nI_add (u6 + 1) 1) ?_
  refine va_put (D := D) (ci := 12) (v := .int (nI (u6 + 1 + 1))) (ty := tyX12 6) (C := RX12) (T := TX12) (N := 30) hx hb hts inlX12 tyX12 tyX12_ok nmX12 hown hK hP hD hS 0 rfl rfl 6 (by decide) (hts _ mw_236) (fun _ h9 => h9) rfl (tyX12_ok 6 (by decide)) rfl rfl (Nat.le_of_ble_eq_true rfl) dX12_comes_30 (fun H locs hP hD hS => ?_)
  have hP : va_P D vwCl [(m0, .inr (12, [.ref a0, .ref a1, .ref a2, .int (nI u3), .int f4, .ref a5, .int (nI (u6 + 1 + 1)), .int f7, .int f8, .int f9, .int f10, .int (nI u11), .int (nI u12), .int (nI u13), .ref a14, .ref a15, .ref a16, .ref a17, .int f18, .int f19, .ref a20, .ref a21, .int (nI u22), .ref a23, .ref a24, .ref a25, .int (nI u26), .int f27, .ref a28, .int (nI u29)])), (a5, .inl (κ 0, 800, .inl g_8))] H := hP
  have hD : va_D A [(m0, .inr (12, [.ref a0, .ref a1, .ref a2, .int (nI u3), .int f4, .ref a5, .int (nI (u6 + 1 + 1)), .int f7, .int f8, .int f9, .int f10, .int (nI u11), .int (nI u12), .int (nI u13), .ref a14, .ref a15, .ref a16, .ref a17, .int f18, .int f19, .ref a20, .ref a21, .int (nI u22), .ref a23, .ref a24, .ref a25, .int (nI u26), .int f27, .ref a28, .int (nI u29)])), (a5, .inl (κ 0, 800, .inl g_8))] := hD
  refine lv_iinc (v := 8) (lv' := [(2, .int 8), (0, .ref m0), (1, .int za)]) hx hb dX12_comes_33 hl (k := 0) rfl (by decide) (by decide) rfl (fun ls hl => ?_)
  refine lv_goto (tgt := 3) hx hb dX12_comes_36 (by decide) ?_
  refine lv_iload_n hx hb dX12_comes_3 rfl (lv_at hl 0 rfl) ?_
  refine lv_if_lt (tgt := 39) hx hb dX12_comes_4 (by decide) (fun c_9 => absurd c_9 (by decide)) (fun c_9 => ?_)
  refine lv_aload_n hx hb dX12_comes_7 rfl (lv_at hl 1 rfl) ?_
  refine va_get (D := D) (ci := 12) (v := .ref a5) (C := RX12) (T := TX12) (N := 30) hx hb hts inlX12 hown hK hP 0 rfl rfl 5 (by decide) (hts _ mw_191) (fun _ h9 => h9) rfl dX12_comes_8 ?_
  refine lv_aload_n hx hb dX12_comes_11 rfl (lv_at hl 1 rfl) ?_
  refine va_get (D := D) (ci := 12) (v := .int (nI (u6 + 1 + 1))) (C := RX12) (T := TX12) (N := 30) hx hb hts inlX12 hown hK hP 0 rfl rfl 6 (by decide) (hts _ mw_236) (fun _ h9 => h9) rfl dX12_comes_12 ?_
  refine lv_iload_n hx hb dX12_comes_15 rfl (lv_at hl 2 rfl) ?_
  refine lv_iload_n hx hb dX12_comes_16 rfl (lv_at hl 0 rfl) ?_
  obtain ⟨x_10, ex_10⟩ : ∃ v9 : Int32, (za.toUInt32 >>> (Int32.toUInt32 8 &&& Int32.toUInt32 31)).toInt32 = v9 := ⟨_, rfl⟩
  refine lv_iushr (v := x_10) hx hb dX12_comes_17 ex_10 ?_
  refine lv_sipush (v := 255) hx hb dX12_comes_18 (by decide) ?_
  refine lv_iand hx hb dX12_comes_21 ?_
  refine lv_topi (fun x_11 ex_11 => ?_)
  refine va_iast hx hb hK hP hD hS 1 0 rfl rfl (i := nI (u6 + 1 + 1)) (x := x_11) (vp_in_nI (n := (u6 + 1 + 1)) (by omega) (by omega)) dX12_comes_22 (fun H locs hP hD hS => ?_)
  rw [nI_clamp (by omega)] at hP hD
  have hP : va_P D vwCl [(m0, .inr (12, [.ref a0, .ref a1, .ref a2, .int (nI u3), .int f4, .ref a5, .int (nI (u6 + 1 + 1)), .int f7, .int f8, .int f9, .int f10, .int (nI u11), .int (nI u12), .int (nI u13), .ref a14, .ref a15, .ref a16, .ref a17, .int f18, .int f19, .ref a20, .ref a21, .int (nI u22), .ref a23, .ref a24, .ref a25, .int (nI u26), .int f27, .ref a28, .int (nI u29)])), (a5, .inl (κ 0, 800, .inl (upd g_8 (u6 + 1 + 1) x_11)))] H := hP
  have hD : va_D A [(m0, .inr (12, [.ref a0, .ref a1, .ref a2, .int (nI u3), .int f4, .ref a5, .int (nI (u6 + 1 + 1)), .int f7, .int f8, .int f9, .int f10, .int (nI u11), .int (nI u12), .int (nI u13), .ref a14, .ref a15, .ref a16, .ref a17, .int f18, .int f19, .ref a20, .ref a21, .int (nI u22), .ref a23, .ref a24, .ref a25, .int (nI u26), .int f27, .ref a28, .int (nI u29)])), (a5, .inl (κ 0, 800, .inl (upd g_8 (u6 + 1 + 1) x_11)))] := hD
  generalize hge_g_12 : upd g_8 (u6 + 1 + 1) x_11 = g_12 at hP hD 
  refine lv_aload_n hx hb dX12_comes_23 rfl (lv_at hl 1 rfl) ?_
  refine lv_dup hx hb dX12_comes_24 rfl ?_
  refine va_get (D := D) (ci := 12) (v := .int (nI (u6 + 1 + 1))) (C := RX12) (T := TX12) (N := 30) hx hb hts inlX12 hown hK hP 0 rfl rfl 6 (by decide) (hts _ mw_236) (fun _ h9 => h9) rfl dX12_comes_25 ?_
  refine lv_iconst (v := 1) hx hb dX12_comes_28 (by decide) ?_
  refine lv_iadd hx hb dX12_comes_29 ?_
  refine ki (v := (nI (u6 + 1 + 1 + 1))) (nI_add (u6 + 1 + 1) 1) ?_
  refine va_put (D := D) (ci := 12) (v := .int (nI (u6 + 1 + 1 + 1))) (ty := tyX12 6) (C := RX12) (T := TX12) (N := 30) hx hb hts inlX12 tyX12 tyX12_ok nmX12 hown hK hP hD hS 0 rfl rfl 6 (by decide) (hts _ mw_236) (fun _ h9 => h9) rfl (tyX12_ok 6 (by decide)) rfl rfl (Nat.le_of_ble_eq_true rfl) dX12_comes_30 (fun H locs hP hD hS => ?_)
  have hP : va_P D vwCl [(m0, .inr (12, [.ref a0, .ref a1, .ref a2, .int (nI u3), .int f4, .ref a5, .int (nI (u6 + 1 + 1 + 1)), .int f7, .int f8, .int f9, .int f10, .int (nI u11), .int (nI u12), .int (nI u13), .ref a14, .ref a15, .ref a16, .ref a17, .int f18, .int f19, .ref a20, .ref a21, .int (nI u22), .ref a23, .ref a24, .ref a25, .int (nI u26), .int f27, .ref a28, .int (nI u29)])), (a5, .inl (κ 0, 800, .inl g_12))] H := hP
  have hD : va_D A [(m0, .inr (12, [.ref a0, .ref a1, .ref a2, .int (nI u3), .int f4, .ref a5, .int (nI (u6 + 1 + 1 + 1)), .int f7, .int f8, .int f9, .int f10, .int (nI u11), .int (nI u12), .int (nI u13), .ref a14, .ref a15, .ref a16, .ref a17, .int f18, .int f19, .ref a20, .ref a21, .int (nI u22), .ref a23, .ref a24, .ref a25, .int (nI u26), .int f27, .ref a28, .int (nI u29)])), (a5, .inl (κ 0, 800, .inl g_12))] := hD
  refine lv_iinc (v := 0) (lv' := [(2, .int 0), (0, .ref m0), (1, .int za)]) hx hb dX12_comes_33 hl (k := 0) rfl (by decide) (by decide) rfl (fun ls hl => ?_)
  refine lv_goto (tgt := 3) hx hb dX12_comes_36 (by decide) ?_
  refine lv_iload_n hx hb dX12_comes_3 rfl (lv_at hl 0 rfl) ?_
  refine lv_if_lt (tgt := 39) hx hb dX12_comes_4 (by decide) (fun c_13 => absurd c_13 (by decide)) (fun c_13 => ?_)
  refine lv_aload_n hx hb dX12_comes_7 rfl (lv_at hl 1 rfl) ?_
  refine va_get (D := D) (ci := 12) (v := .ref a5) (C := RX12) (T := TX12) (N := 30) hx hb hts inlX12 hown hK hP 0 rfl rfl 5 (by decide) (hts _ mw_191) (fun _ h9 => h9) rfl dX12_comes_8 ?_
  refine lv_aload_n hx hb dX12_comes_11 rfl (lv_at hl 1 rfl) ?_
  refine va_get (D := D) (ci := 12) (v := .int (nI (u6 + 1 + 1 + 1))) (C := RX12) (T := TX12) (N := 30) hx hb hts inlX12 hown hK hP 0 rfl rfl 6 (by decide) (hts _ mw_236) (fun _ h9 => h9) rfl dX12_comes_12 ?_
  refine lv_iload_n hx hb dX12_comes_15 rfl (lv_at hl 2 rfl) ?_
  refine lv_iload_n hx hb dX12_comes_16 rfl (lv_at hl 0 rfl) ?_
  obtain ⟨x_14, ex_14⟩ : ∃ v9 : Int32, (za.toUInt32 >>> (Int32.toUInt32 0 &&& Int32.toUInt32 31)).toInt32 = v9 := ⟨_, rfl⟩
  refine lv_iushr (v := x_14) hx hb dX12_comes_17 ex_14 ?_
  refine lv_sipush (v := 255) hx hb dX12_comes_18 (by decide) ?_
  refine lv_iand hx hb dX12_comes_21 ?_
  refine lv_topi (fun x_15 ex_15 => ?_)
  refine va_iast hx hb hK hP hD hS 1 0 rfl rfl (i := nI (u6 + 1 + 1 + 1)) (x := x_15) (vp_in_nI (n := (u6 + 1 + 1 + 1)) (by omega) (by omega)) dX12_comes_22 (fun H locs hP hD hS => ?_)
  rw [nI_clamp (by omega)] at hP hD
  have hP : va_P D vwCl [(m0, .inr (12, [.ref a0, .ref a1, .ref a2, .int (nI u3), .int f4, .ref a5, .int (nI (u6 + 1 + 1 + 1)), .int f7, .int f8, .int f9, .int f10, .int (nI u11), .int (nI u12), .int (nI u13), .ref a14, .ref a15, .ref a16, .ref a17, .int f18, .int f19, .ref a20, .ref a21, .int (nI u22), .ref a23, .ref a24, .ref a25, .int (nI u26), .int f27, .ref a28, .int (nI u29)])), (a5, .inl (κ 0, 800, .inl (upd g_12 (u6 + 1 + 1 + 1) x_15)))] H := hP
  have hD : va_D A [(m0, .inr (12, [.ref a0, .ref a1, .ref a2, .int (nI u3), .int f4, .ref a5, .int (nI (u6 + 1 + 1 + 1)), .int f7, .int f8, .int f9, .int f10, .int (nI u11), .int (nI u12), .int (nI u13), .ref a14, .ref a15, .ref a16, .ref a17, .int f18, .int f19, .ref a20, .ref a21, .int (nI u22), .ref a23, .ref a24, .ref a25, .int (nI u26), .int f27, .ref a28, .int (nI u29)])), (a5, .inl (κ 0, 800, .inl (upd g_12 (u6 + 1 + 1 + 1) x_15)))] := hD
  generalize hge_g_16 : upd g_12 (u6 + 1 + 1 + 1) x_15 = g_16 at hP hD 
  refine lv_aload_n hx hb dX12_comes_23 rfl (lv_at hl 1 rfl) ?_
  refine lv_dup hx hb dX12_comes_24 rfl ?_
  refine va_get (D := D) (ci := 12) (v := .int (nI (u6 + 1 + 1 + 1))) (C := RX12) (T := TX12) (N := 30) hx hb hts inlX12 hown hK hP 0 rfl rfl 6 (by decide) (hts _ mw_236) (fun _ h9 => h9) rfl dX12_comes_25 ?_
  refine lv_iconst (v := 1) hx hb dX12_comes_28 (by decide) ?_
  refine lv_iadd hx hb dX12_comes_29 ?_
  refine ki (v := (nI (u6 + 1 + 1 + 1 + 1))) (nI_add (u6 + 1 + 1 + 1) 1) ?_
  refine va_put (D := D) (ci := 12) (v := .int (nI (u6 + 1 + 1 + 1 + 1))) (ty := tyX12 6) (C := RX12) (T := TX12) (N := 30) hx hb hts inlX12 tyX12 tyX12_ok nmX12 hown hK hP hD hS 0 rfl rfl 6 (by decide) (hts _ mw_236) (fun _ h9 => h9) rfl (tyX12_ok 6 (by decide)) rfl rfl (Nat.le_of_ble_eq_true rfl) dX12_comes_30 (fun H locs hP hD hS => ?_)
  have hP : va_P D vwCl [(m0, .inr (12, [.ref a0, .ref a1, .ref a2, .int (nI u3), .int f4, .ref a5, .int (nI (u6 + 1 + 1 + 1 + 1)), .int f7, .int f8, .int f9, .int f10, .int (nI u11), .int (nI u12), .int (nI u13), .ref a14, .ref a15, .ref a16, .ref a17, .int f18, .int f19, .ref a20, .ref a21, .int (nI u22), .ref a23, .ref a24, .ref a25, .int (nI u26), .int f27, .ref a28, .int (nI u29)])), (a5, .inl (κ 0, 800, .inl g_16))] H := hP
  have hD : va_D A [(m0, .inr (12, [.ref a0, .ref a1, .ref a2, .int (nI u3), .int f4, .ref a5, .int (nI (u6 + 1 + 1 + 1 + 1)), .int f7, .int f8, .int f9, .int f10, .int (nI u11), .int (nI u12), .int (nI u13), .ref a14, .ref a15, .ref a16, .ref a17, .int f18, .int f19, .ref a20, .ref a21, .int (nI u22), .ref a23, .ref a24, .ref a25, .int (nI u26), .int f27, .ref a28, .int (nI u29)])), (a5, .inl (κ 0, 800, .inl g_16))] := hD
  refine lv_iinc (v := (-8)) (lv' := [(2, .int (-8)), (0, .ref m0), (1, .int za)]) hx hb dX12_comes_33 hl (k := 0) rfl (by decide) (by decide) rfl (fun ls hl => ?_)
  refine lv_goto (tgt := 3) hx hb dX12_comes_36 (by decide) ?_
  refine lv_iload_n hx hb dX12_comes_3 rfl (lv_at hl 0 rfl) ?_
  refine lv_if_lt (tgt := 39) hx hb dX12_comes_4 (by decide) (fun c_17 => ?_) (fun c_17 => absurd (by decide) c_17)
  exact ct_vret hx hb hr hlk hS hP hD g_16 rfl (show g_16 = by4 tp u6 za from (by rw [← hge_g_16, ← hge_g_12, ← hge_g_8, ← hge_g_4, ex_3, ex_7, ex_11, ex_15, ← ex_2, ← ex_6, ← ex_10, ← ex_14]; rfl)) [0, 1] rfl (by decide) trivial (Nat.le_of_ble_eq_true rfl) (Nat.le_of_ble_eq_true rfl) dX12_comes_39
set_option maxHeartbeats 4000000 in
set_option maxRecDepth 100000 in
theorem f_X12_feed (l : Launch) (D : va_G) (κ : Nat → ClassId) (m0 : Nat) (a0 : Nat) (a1 : Nat) (a2 : Nat) (u3 : Nat) (f4 : Int32) (a5 : Nat) (u6 : Nat) (f7 : Int32) (f8 : Int32) (f9 : Int32) (f10 : Int32) (u11 : Nat) (u12 : Nat) (u13 : Nat) (a14 : Nat) (a15 : Nat) (a16 : Nat) (a17 : Nat) (f18 : Int32) (f19 : Int32) (a20 : Nat) (a21 : Nat) (u22 : Nat) (a23 : Nat) (a24 : Nat) (a25 : Nat) (u26 : Nat) (f27 : Int32) (a28 : Nat) (u29 : Nat) (tp : Nat → Int32) (za : Int32) (zb : Int32) (zc : Int32) (zd : Int32) (ze : Int32) (h6 : u6 ≤ 800) : Ct l yX12_feed (wl yX12_feed cX12_feed 6 (some .int)) { frames := 1, cells := 0, slots := 0, locals := 22 } D κ [.ref m0, .int za, .int zb, .int zc, .int zd, .int ze] [(m0, .inr (12, [.ref a0, .ref a1, .ref a2, .int (nI u3), .int f4, .ref a5, .int (nI u6), .int f7, .int f8, .int f9, .int f10, .int (nI u11), .int (nI u12), .int (nI u13), .ref a14, .ref a15, .ref a16, .ref a17, .int f18, .int f19, .ref a20, .ref a21, .int (nI u22), .ref a23, .ref a24, .ref a25, .int (nI u26), .int f27, .ref a28, .int (nI u29)])), (a5, .inl (κ 0, 800, .inl tp))] (fun _ => True) (fun u9 : Int32 × Nat × (Nat → Int32) => some (.int u9.1)) (fun u9 : Int32 × Nat × (Nat → Int32) => u9.2.1 ≤ 800 ∧ ((u6 ≤ 780 ∧ u9.1 = nI (u6 + 20) ∧ u9.2.1 = u6 + 20 ∧ u9.2.2 = fd5 tp u6 za zb zc zd ze) ∨ (780 < u6 ∧ u9.1 = -1 ∧ u9.2.1 = u6 ∧ u9.2.2 = tp))) (fun u9 : Int32 × Nat × (Nat → Int32) => [(m0, .inr (12, [.ref a0, .ref a1, .ref a2, .int (nI u3), .int f4, .ref a5, .int (nI u9.2.1), .int f7, .int f8, .int f9, .int f10, .int (nI u11), .int (nI u12), .int (nI u13), .ref a14, .ref a15, .ref a16, .ref a17, .int f18, .int f19, .ref a20, .ref a21, .int (nI u22), .ref a23, .ref a24, .ref a25, .int (nI u26), .int f27, .ref a28, .int (nI u29)])), (a5, .inl (κ 0, 800, .inl u9.2.2))]) (fun _ _ => True) := by
  refine ct_of (by decide +kernel) (Nat.le_of_ble_eq_true rfl) ?_
  intro p e s m args below meth c A ls hx hb hr hml hts hown hlk hin hKK hK hA hP hD hS hI hl
  have hS : va_S A s.heap s.heap [] := hS
  have hFX : FX p s m args c cX12_feed 6 RX12 := ⟨hx, hb, hml, hown, hts⟩
  have hl : lv_has ls 6 [(0, .ref m0), (1, .int za), (2, .int zb), (3, .int zc), (4, .int zd), (5, .int ze)] := hl
  refine lv_aload_n hx hb dX12_feed_0 rfl (lv_at hl 0 rfl) ?_
  refine va_get (D := D) (ci := 12) (v := .int (nI u6)) (C := RX12) (T := TX12) (N := 30) hx hb hts inlX12 hown hK hP 0 rfl rfl 6 (by decide) (hts _ mw_236) (fun _ h9 => h9) rfl dX12_feed_1 ?_
  refine lv_bipush (v := 20) hx hb dX12_feed_4 (by decide) ?_
  refine lv_iadd hx hb dX12_feed_6 ?_
  refine ki (v := (nI (u6 + 20))) (nI_add u6 20) ?_
  refine lv_sipush (v := 800) hx hb dX12_feed_7 (by decide) ?_
  refine lv_icmp_le (tgt := 15) hx hb dX12_feed_10 (by decide) (fun c_1 => ?_) (fun c_1 => ?_)
  · have nc_1 := cv_le (a := (u6 + 20)) (b := 800) (by omega) (by omega) c_1
    refine lv_aload_n hx hb dX12_feed_15 rfl (lv_at hl 0 rfl) ?_
    refine lv_iload_n hx hb dX12_feed_16 rfl (lv_at hl 1 rfl) ?_
    refine ct_V (wr := []) (As := [.int za]) (rest := []) hFX hKK hP hD hS hA (f_X12_comes l D κ m0 a0 a1 a2 u3 f4 a5 u6 f7 f8 f9 f10 u11 u12 u13 a14 a15 a16 a17 f18 f19 a20 a21 u22 a23 a24 a25 u26 f27 a28 u29 tp za (by omega)) 1 gV_X12_86 hdV_X12_comes ⟨Nat.le_of_ble_eq_true rfl, Nat.le_of_ble_eq_true rfl⟩ rfl rfl (Nat.le_of_ble_eq_true rfl) dX12_feed_17 ⟨Nat.le_of_ble_eq_true rfl, Nat.le_of_ble_eq_true rfl⟩ hl.1 [0, 1] [] rfl rfl (by decide) (by decide) (by decide) 0 12 rfl rfl rfl trivial (fun g_a5__2 H locs hp_3 _ hP hD hS hz_ hk_ => ?_)
    replace hP : va_P D vwCl [(m0, .inr (12, [.ref a0, .ref a1, .ref a2, .int (nI u3), .int f4, .ref a5, .int (nI (u6 + 4)), .int f7, .int f8, .int f9, .int f10, .int (nI u11), .int (nI u12), .int (nI u13), .ref a14, .ref a15, .ref a16, .ref a17, .int f18, .int f19, .ref a20, .ref a21, .int (nI u22), .ref a23, .ref a24, .ref a25, .int (nI u26), .int f27, .ref a28, .int (nI u29)])), (a5, .inl (κ 0, 800, .inl g_a5__2))] H := hP
    replace hD : va_D A [(m0, .inr (12, [.ref a0, .ref a1, .ref a2, .int (nI u3), .int f4, .ref a5, .int (nI (u6 + 4)), .int f7, .int f8, .int f9, .int f10, .int (nI u11), .int (nI u12), .int (nI u13), .ref a14, .ref a15, .ref a16, .ref a17, .int f18, .int f19, .ref a20, .ref a21, .int (nI u22), .ref a23, .ref a24, .ref a25, .int (nI u26), .int f27, .ref a28, .int (nI u29)])), (a5, .inl (κ 0, 800, .inl g_a5__2))] := hD
    replace hp_3 : g_a5__2 = by4 tp u6 za := hp_3
    have h_4 := hp_3
    clear hp_3
    refine W.eq (g2 := F0 m 20 ls []) rfl ?_
    refine lv_aload_n hx hb dX12_feed_20 rfl (lv_at hl 0 rfl) ?_
    refine lv_iload_n hx hb dX12_feed_21 rfl (lv_at hl 2 rfl) ?_
    refine ct_V (wr := []) (As := [.int zb]) (rest := []) hFX hKK hP hD hS hA (f_X12_comes l D κ m0 a0 a1 a2 u3 f4 a5 (u6 + 4) f7 f8 f9 f10 u11 u12 u13 a14 a15 a16 a17 f18 f19 a20 a21 u22 a23 a24 a25 u26 f27 a28 u29 g_a5__2 zb (by omega)) 1 gV_X12_86 hdV_X12_comes ⟨Nat.le_of_ble_eq_true rfl, Nat.le_of_ble_eq_true rfl⟩ rfl rfl (Nat.le_of_ble_eq_true rfl) dX12_feed_22 ⟨Nat.le_of_ble_eq_true rfl, Nat.le_of_ble_eq_true rfl⟩ hl.1 [0, 1] [] rfl rfl (by decide) (by decide) (by decide) 0 12 rfl rfl rfl trivial (fun g_a5__5 H locs hp_6 _ hP hD hS hz_ hk_ => ?_)
    replace hP : va_P D vwCl [(m0, .inr (12, [.ref a0, .ref a1, .ref a2, .int (nI u3), .int f4, .ref a5, .int (nI ((u6 + 4) + 4)), .int f7, .int f8, .int f9, .int f10, .int (nI u11), .int (nI u12), .int (nI u13), .ref a14, .ref a15, .ref a16, .ref a17, .int f18, .int f19, .ref a20, .ref a21, .int (nI u22), .ref a23, .ref a24, .ref a25, .int (nI u26), .int f27, .ref a28, .int (nI u29)])), (a5, .inl (κ 0, 800, .inl g_a5__5))] H := hP
    replace hD : va_D A [(m0, .inr (12, [.ref a0, .ref a1, .ref a2, .int (nI u3), .int f4, .ref a5, .int (nI ((u6 + 4) + 4)), .int f7, .int f8, .int f9, .int f10, .int (nI u11), .int (nI u12), .int (nI u13), .ref a14, .ref a15, .ref a16, .ref a17, .int f18, .int f19, .ref a20, .ref a21, .int (nI u22), .ref a23, .ref a24, .ref a25, .int (nI u26), .int f27, .ref a28, .int (nI u29)])), (a5, .inl (κ 0, 800, .inl g_a5__5))] := hD
    replace hp_6 : g_a5__5 = by4 g_a5__2 (u6 + 4) zb := hp_6
    have h_7 := hp_6
    clear hp_6
    refine W.eq (g2 := F0 m 25 ls []) rfl ?_
    refine lv_aload_n hx hb dX12_feed_25 rfl (lv_at hl 0 rfl) ?_
    refine lv_iload_n hx hb dX12_feed_26 rfl (lv_at hl 3 rfl) ?_
    refine ct_V (wr := []) (As := [.int zc]) (rest := []) hFX hKK hP hD hS hA (f_X12_comes l D κ m0 a0 a1 a2 u3 f4 a5 ((u6 + 4) + 4) f7 f8 f9 f10 u11 u12 u13 a14 a15 a16 a17 f18 f19 a20 a21 u22 a23 a24 a25 u26 f27 a28 u29 g_a5__5 zc (by omega)) 1 gV_X12_86 hdV_X12_comes ⟨Nat.le_of_ble_eq_true rfl, Nat.le_of_ble_eq_true rfl⟩ rfl rfl (Nat.le_of_ble_eq_true rfl) dX12_feed_27 ⟨Nat.le_of_ble_eq_true rfl, Nat.le_of_ble_eq_true rfl⟩ hl.1 [0, 1] [] rfl rfl (by decide) (by decide) (by decide) 0 12 rfl rfl rfl trivial (fun g_a5__8 H locs hp_9 _ hP hD hS hz_ hk_ => ?_)
    replace hP : va_P D vwCl [(m0, .inr (12, [.ref a0, .ref a1, .ref a2, .int (nI u3), .int f4, .ref a5, .int (nI (((u6 + 4) + 4) + 4)), .int f7, .int f8, .int f9, .int f10, .int (nI u11), .int (nI u12), .int (nI u13), .ref a14, .ref a15, .ref a16, .ref a17, .int f18, .int f19, .ref a20, .ref a21, .int (nI u22), .ref a23, .ref a24, .ref a25, .int (nI u26), .int f27, .ref a28, .int (nI u29)])), (a5, .inl (κ 0, 800, .inl g_a5__8))] H := hP
    replace hD : va_D A [(m0, .inr (12, [.ref a0, .ref a1, .ref a2, .int (nI u3), .int f4, .ref a5, .int (nI (((u6 + 4) + 4) + 4)), .int f7, .int f8, .int f9, .int f10, .int (nI u11), .int (nI u12), .int (nI u13), .ref a14, .ref a15, .ref a16, .ref a17, .int f18, .int f19, .ref a20, .ref a21, .int (nI u22), .ref a23, .ref a24, .ref a25, .int (nI u26), .int f27, .ref a28, .int (nI u29)])), (a5, .inl (κ 0, 800, .inl g_a5__8))] := hD
    replace hp_9 : g_a5__8 = by4 g_a5__5 ((u6 + 4) + 4) zc := hp_9
    have h_10 := hp_9
    clear hp_9
    refine W.eq (g2 := F0 m 30 ls []) rfl ?_
    refine lv_aload_n hx hb dX12_feed_30 rfl (lv_at hl 0 rfl) ?_
    refine lv_iload hx hb dX12_feed_31 (lv_at hl 4 rfl) ?_
    refine ct_V (wr := []) (As := [.int zd]) (rest := []) hFX hKK hP hD hS hA (f_X12_comes l D κ m0 a0 a1 a2 u3 f4 a5 (((u6 + 4) + 4) + 4) f7 f8 f9 f10 u11 u12 u13 a14 a15 a16 a17 f18 f19 a20 a21 u22 a23 a24 a25 u26 f27 a28 u29 g_a5__8 zd (by omega)) 1 gV_X12_86 hdV_X12_comes ⟨Nat.le_of_ble_eq_true rfl, Nat.le_of_ble_eq_true rfl⟩ rfl rfl (Nat.le_of_ble_eq_true rfl) dX12_feed_33 ⟨Nat.le_of_ble_eq_true rfl, Nat.le_of_ble_eq_true rfl⟩ hl.1 [0, 1] [] rfl rfl (by decide) (by decide) (by decide) 0 12 rfl rfl rfl trivial (fun g_a5__11 H locs hp_12 _ hP hD hS hz_ hk_ => ?_)
    replace hP : va_P D vwCl [(m0, .inr (12, [.ref a0, .ref a1, .ref a2, .int (nI u3), .int f4, .ref a5, .int (nI ((((u6 + 4) + 4) + 4) + 4)), .int f7, .int f8, .int f9, .int f10, .int (nI u11), .int (nI u12), .int (nI u13), .ref a14, .ref a15, .ref a16, .ref a17, .int f18, .int f19, .ref a20, .ref a21, .int (nI u22), .ref a23, .ref a24, .ref a25, .int (nI u26), .int f27, .ref a28, .int (nI u29)])), (a5, .inl (κ 0, 800, .inl g_a5__11))] H := hP
    replace hD : va_D A [(m0, .inr (12, [.ref a0, .ref a1, .ref a2, .int (nI u3), .int f4, .ref a5, .int (nI ((((u6 + 4) + 4) + 4) + 4)), .int f7, .int f8, .int f9, .int f10, .int (nI u11), .int (nI u12), .int (nI u13), .ref a14, .ref a15, .ref a16, .ref a17, .int f18, .int f19, .ref a20, .ref a21, .int (nI u22), .ref a23, .ref a24, .ref a25, .int (nI u26), .int f27, .ref a28, .int (nI u29)])), (a5, .inl (κ 0, 800, .inl g_a5__11))] := hD
    replace hp_12 : g_a5__11 = by4 g_a5__8 (((u6 + 4) + 4) + 4) zd := hp_12
    have h_13 := hp_12
    clear hp_12
    refine W.eq (g2 := F0 m 36 ls []) rfl ?_
    refine lv_aload_n hx hb dX12_feed_36 rfl (lv_at hl 0 rfl) ?_
    refine lv_iload hx hb dX12_feed_37 (lv_at hl 5 rfl) ?_
    refine ct_V (wr := []) (As := [.int ze]) (rest := []) hFX hKK hP hD hS hA (f_X12_comes l D κ m0 a0 a1 a2 u3 f4 a5 ((((u6 + 4) + 4) + 4) + 4) f7 f8 f9 f10 u11 u12 u13 a14 a15 a16 a17 f18 f19 a20 a21 u22 a23 a24 a25 u26 f27 a28 u29 g_a5__11 ze (by omega)) 1 gV_X12_86 hdV_X12_comes ⟨Nat.le_of_ble_eq_true rfl, Nat.le_of_ble_eq_true rfl⟩ rfl rfl (Nat.le_of_ble_eq_true rfl) dX12_feed_39 ⟨Nat.le_of_ble_eq_true rfl, Nat.le_of_ble_eq_true rfl⟩ hl.1 [0, 1] [] rfl rfl (by decide) (by decide) (by decide) 0 12 rfl rfl rfl trivial (fun g_a5__14 H locs hp_15 _ hP hD hS hz_ hk_ => ?_)
    replace hP : va_P D vwCl [(m0, .inr (12, [.ref a0, .ref a1, .ref a2, .int (nI u3), .int f4, .ref a5, .int (nI (((((u6 + 4) + 4) + 4) + 4) + 4)), .int f7, .int f8, .int f9, .int f10, .int (nI u11), .int (nI u12), .int (nI u13), .ref a14, .ref a15, .ref a16, .ref a17, .int f18, .int f19, .ref a20, .ref a21, .int (nI u22), .ref a23, .ref a24, .ref a25, .int (nI u26), .int f27, .ref a28, .int (nI u29)])), (a5, .inl (κ 0, 800, .inl g_a5__14))] H := hP
    replace hD : va_D A [(m0, .inr (12, [.ref a0, .ref a1, .ref a2, .int (nI u3), .int f4, .ref a5, .int (nI (((((u6 + 4) + 4) + 4) + 4) + 4)), .int f7, .int f8, .int f9, .int f10, .int (nI u11), .int (nI u12), .int (nI u13), .ref a14, .ref a15, .ref a16, .ref a17, .int f18, .int f19, .ref a20, .ref a21, .int (nI u22), .ref a23, .ref a24, .ref a25, .int (nI u26), .int f27, .ref a28, .int (nI u29)])), (a5, .inl (κ 0, 800, .inl g_a5__14))] := hD
    replace hp_15 : g_a5__14 = by4 g_a5__11 ((((u6 + 4) + 4) + 4) + 4) ze := hp_15
    have h_16 := hp_15
    clear hp_15
    refine W.eq (g2 := F0 m 42 ls []) rfl ?_
    refine lv_aload_n hx hb dX12_feed_42 rfl (lv_at hl 0 rfl) ?_
    refine va_get (D := D) (ci := 12) (v := .int (nI (((((u6 + 4) + 4) + 4) + 4) + 4))) (C := RX12) (T := TX12) (N := 30) hx hb hts inlX12 hown hK hP 0 rfl rfl 6 (by decide) (hts _ mw_236) (fun _ h9 => h9) rfl dX12_feed_43 ?_
    exact ct_iret hx hb hr hlk rfl hS hP hD (nI (((((u6 + 4) + 4) + 4) + 4) + 4), ((((u6 + 4) + 4) + 4) + 4) + 4, g_a5__14) rfl ⟨(show (((((u6 + 4) + 4) + 4) + 4) + 4) ≤ 800 from (by first | assumption | omega | rfl | exact Or.inl (by assumption) | exact Or.inr (by assumption))), (show (u6 ≤ 780 ∧ (nI (((((u6 + 4) + 4) + 4) + 4) + 4)) = nI (u6 + 20) ∧ (((((u6 + 4) + 4) + 4) + 4) + 4) = u6 + 20 ∧ g_a5__14 = fd5 tp u6 za zb zc zd ze) ∨ (780 < u6 ∧ (nI (((((u6 + 4) + 4) + 4) + 4) + 4)) = -1 ∧ (((((u6 + 4) + 4) + 4) + 4) + 4) = u6 ∧ g_a5__14 = tp) from (Or.inl ⟨by omega, rfl, rfl, by rw [h_16, h_13, h_10, h_7, h_4]; rfl⟩))⟩ [0, 1] rfl (by decide) trivial (Nat.le_of_ble_eq_true rfl) (Nat.le_of_ble_eq_true rfl) dX12_feed_46
  · have nc_1 := cv_nle (a := (u6 + 20)) (b := 800) (by omega) (by omega) c_1
    refine lv_iconst (v := (-1)) hx hb dX12_feed_13 (by decide) ?_
    exact ct_iret hx hb hr hlk rfl hS hP hD ((-1), u6, tp) rfl ⟨(show u6 ≤ 800 from (by first | assumption | omega | rfl | exact Or.inl (by assumption) | exact Or.inr (by assumption))), (show (u6 ≤ 780 ∧ (-1 : Int32) = nI (u6 + 20) ∧ u6 = u6 + 20 ∧ tp = fd5 tp u6 za zb zc zd ze) ∨ (780 < u6 ∧ (-1 : Int32) = -1 ∧ u6 = u6 ∧ tp = tp) from (Or.inr ⟨by omega, rfl, rfl, rfl⟩))⟩ [0, 1] rfl (by decide) trivial (Nat.le_of_ble_eq_true rfl) (Nat.le_of_ble_eq_true rfl) dX12_feed_14
set_option maxHeartbeats 4000000 in
set_option maxRecDepth 100000 in
theorem f_X12_image (l : Launch) (D : va_G) (κ : Nat → ClassId) (m0 : Nat) (a0 : Nat) (a1 : Nat) (a2 : Nat) (u3 : Nat) (f4 : Int32) (a5 : Nat) (u6 : Nat) (f7 : Int32) (f8 : Int32) (f9 : Int32) (f10 : Int32) (u11 : Nat) (u12 : Nat) (u13 : Nat) (a14 : Nat) (a15 : Nat) (a16 : Nat) (a17 : Nat) (f18 : Int32) (f19 : Int32) (a20 : Nat) (a21 : Nat) (u22 : Nat) (a23 : Nat) (a24 : Nat) (a25 : Nat) (u26 : Nat) (f27 : Int32) (a28 : Nat) (u29 : Nat) (w : Nat → Int32) (kp : Nat → Int32) (za : Int32) (h3 : u3 ≤ 6) (h_a0 : Pw w) (h_a1 : Pw kp) : Ct l yX12_image (wl yX12_image cX12_image 3 (some .boolean)) { frames := 0, cells := 0, slots := 0, locals := 0 } D κ [.ref m0, .int za] [(m0, .inr (12, [.ref a0, .ref a1, .ref a2, .int (nI u3), .int f4, .ref a5, .int (nI u6), .int f7, .int f8, .int f9, .int f10, .int (nI u11), .int (nI u12), .int (nI u13), .ref a14, .ref a15, .ref a16, .ref a17, .int f18, .int f19, .ref a20, .ref a21, .int (nI u22), .ref a23, .ref a24, .ref a25, .int (nI u26), .int f27, .ref a28, .int (nI u29)])), (a0, .inl (κ 0, 21375, .inl w)), (a1, .inl (κ 0, 21375, .inl kp))] (fun _ => True) (fun u9 : Int32 × Nat × Int32 × (Nat → Int32) × (Nat → Int32) => some (.int u9.1)) (fun u9 : Int32 × Nat × Int32 × (Nat → Int32) × (Nat → Int32) => u9.2.1 ≤ 6 ∧ Pw u9.2.2.2.1 ∧ Pw u9.2.2.2.2 ∧ ((za = 0 → f4 = 0 → u9.2.2.2.1 = w) ∧ (¬ za = 0 → u9.2.2.2.1 = w ∧ u9.2.2.2.2 = va_cpy w kp 0 0 21375) ∧ (za = 0 → u9.2.2.2.2 = kp) ∧ (za = 0 → ¬ f4 = 0 → u9.2.2.2.1 = va_cpy kp w 0 0 21375)) ∧ ((u9.1 = 1 ∧ u9.2.2.1 = 1 ∧ (za ≠ 0 ∨ f4 ≠ 0)) ∨ (u9.1 = 0 ∧ u9.2.2.1 = f4 ∧ za = 0 ∧ f4 = 0))) (fun u9 : Int32 × Nat × Int32 × (Nat → Int32) × (Nat → Int32) => [(m0, .inr (12, [.ref a0, .ref a1, .ref a2, .int (nI u9.2.1), .int u9.2.2.1, .ref a5, .int (nI u6), .int f7, .int f8, .int f9, .int f10, .int (nI u11), .int (nI u12), .int (nI u13), .ref a14, .ref a15, .ref a16, .ref a17, .int f18, .int f19, .ref a20, .ref a21, .int (nI u22), .ref a23, .ref a24, .ref a25, .int (nI u26), .int f27, .ref a28, .int (nI u29)])), (a0, .inl (κ 0, 21375, .inl u9.2.2.2.1)), (a1, .inl (κ 0, 21375, .inl u9.2.2.2.2))]) (fun _ _ => True) := by
  refine ct_of (by decide +kernel) (Nat.le_of_ble_eq_true rfl) ?_
  intro p e s m args below meth c A ls hx hb hr hml hts hown hlk hin hKK hK hA hP hD hS hI hl
  have hS : va_S A s.heap s.heap [] := hS
  have hFX : FX p s m args c cX12_image 3 RX12 := ⟨hx, hb, hml, hown, hts⟩
  have hl : lv_has ls 3 [(0, .ref m0), (1, .int za)] := hl
  refine lv_iload_n hx hb dX12_image_0 rfl (lv_at hl 1 rfl) ?_
  refine lv_if_ne (tgt := 13) hx hb dX12_image_1 (by decide) (fun c_1 => ?_) (fun c_1 => ?_)
  · refine lv_iconst (v := 0) hx hb dX12_image_13 (by decide) ?_
    refine lv_istore_n (lv' := [(2, .int 0), (0, .ref m0), (1, .int za)]) hx hb dX12_image_14 rfl hl (by decide) rfl (fun ls hl => ?_)
    refine loop_dn (fun k9 H locs ls => ∃ (k2_15 : Nat), ∃ (ga0_15 : Nat → Int32), ∃ (ga1_15 : Nat → Int32), (k2_15 ≤ 21375) ∧ ((za = 0 → ga1_15 = kp ∧ ga0_15 = va_cpy kp w 0 0 k2_15) ∧ (¬ za = 0 → ga0_15 = w ∧ ga1_15 = va_cpy w kp 0 0 k2_15)) ∧ Pw ga0_15 ∧ Pw ga1_15 ∧ 21375 - k2_15 = k9 ∧ va_P D vwCl [(m0, .inr (12, [.ref a0, .ref a1, .ref a2, .int (nI u3), .int f4, .ref a5, .int (nI u6), .int f7, .int f8, .int f9, .int f10, .int (nI u11), .int (nI u12), .int (nI u13), .ref a14, .ref a15, .ref a16, .ref a17, .int f18, .int f19, .ref a20, .ref a21, .int (nI u22), .ref a23, .ref a24, .ref a25, .int (nI u26), .int f27, .ref a28, .int (nI u29)])), (a0, .inl (κ 0, 21375, .inl ga0_15)), (a1, .inl (κ 0, 21375, .inl ga1_15))] H ∧ va_D A [(m0, .inr (12, [.ref a0, .ref a1, .ref a2, .int (nI u3), .int f4, .ref a5, .int (nI u6), .int f7, .int f8, .int f9, .int f10, .int (nI u11), .int (nI u12), .int (nI u13), .ref a14, .ref a15, .ref a16, .ref a17, .int f18, .int f19, .ref a20, .ref a21, .int (nI u22), .ref a23, .ref a24, .ref a25, .int (nI u26), .int f27, .ref a28, .int (nI u29)])), (a0, .inl (κ 0, 21375, .inl ga0_15)), (a1, .inl (κ 0, 21375, .inl ga1_15))] ∧ va_S A s.heap H locs ∧ lv_has ls 3 [(2, .int (nI k2_15)), (0, .ref m0), (1, .int za)]) (fun k9 H locs ls hI15 ih15 => ?_) (21375 - 0) _ _ _ ⟨0, w, kp, (by omega), ⟨fun _ => ⟨rfl, cpy_0.symm⟩, fun _ => ⟨rfl, cpy_0.symm⟩⟩, h_a0, h_a1, rfl, hP, hD, hS, lv_sub hl [0, 1, 2] rfl⟩
    obtain ⟨k2_15, ga0_15, ga1_15, hl15_0, hl15_1, hg15_0, hg15_1, hm15, hP, hD, hS, hl⟩ := hI15
    refine lv_iload_n hx hb dX12_image_15 rfl (lv_at hl 0 rfl) ?_
    refine lv_sipush (v := 21375) hx hb dX12_image_16 (by decide) ?_
    refine lv_icmp_ge (tgt := 59) hx hb dX12_image_19 (by decide) (fun c_2 => ?_) (fun c_2 => ?_)
    · have nc_2 := cv_le (a := 21375) (b := k2_15) (by omega) (by omega) c_2
      refine lv_iload_n hx hb dX12_image_59 rfl (lv_at hl 2 rfl) ?_
      refine lv_if_ne (tgt := 68) hx hb dX12_image_60 (by decide) (fun c_3 => ?_) (fun c_3 => absurd c_3 c_1)
      refine lv_aload_n hx hb dX12_image_68 rfl (lv_at hl 1 rfl) ?_
      refine lv_iconst (v := 1) hx hb dX12_image_69 (by decide) ?_
      refine va_put (D := D) (ci := 12) (v := .int 1) (ty := tyX12 4) (C := RX12) (T := TX12) (N := 30) hx hb hts inlX12 tyX12 tyX12_ok nmX12 hown hK hP hD hS 0 rfl rfl 4 (by decide) (hts _ mw_1483) (fun _ h9 => h9) rfl (tyX12_ok 4 (by decide)) rfl rfl (Nat.le_of_ble_eq_true rfl) dX12_image_70 (fun H locs hP hD hS => ?_)
      have hP : va_P D vwCl [(m0, .inr (12, [.ref a0, .ref a1, .ref a2, .int (nI u3), .int 1, .ref a5, .int (nI u6), .int f7, .int f8, .int f9, .int f10, .int (nI u11), .int (nI u12), .int (nI u13), .ref a14, .ref a15, .ref a16, .ref a17, .int f18, .int f19, .ref a20, .ref a21, .int (nI u22), .ref a23, .ref a24, .ref a25, .int (nI u26), .int f27, .ref a28, .int (nI u29)])), (a0, .inl (κ 0, 21375, .inl ga0_15)), (a1, .inl (κ 0, 21375, .inl ga1_15))] H := hP
      have hD : va_D A [(m0, .inr (12, [.ref a0, .ref a1, .ref a2, .int (nI u3), .int 1, .ref a5, .int (nI u6), .int f7, .int f8, .int f9, .int f10, .int (nI u11), .int (nI u12), .int (nI u13), .ref a14, .ref a15, .ref a16, .ref a17, .int f18, .int f19, .ref a20, .ref a21, .int (nI u22), .ref a23, .ref a24, .ref a25, .int (nI u26), .int f27, .ref a28, .int (nI u29)])), (a0, .inl (κ 0, 21375, .inl ga0_15)), (a1, .inl (κ 0, 21375, .inl ga1_15))] := hD
      refine lv_iconst (v := 1) hx hb dX12_image_73 (by decide) ?_
      exact ct_iret hx hb hr hlk rfl hS hP hD (1, u3, 1, ga0_15, ga1_15) rfl ⟨(show u3 ≤ 6 from (by first | assumption | omega | rfl | exact Or.inl (by assumption) | exact Or.inr (by assumption))), (show Pw ga0_15 from (by first | assumption | omega | rfl | exact Or.inl (by assumption) | exact Or.inr (by assumption))), (show Pw ga1_15 from (by first | assumption | omega | rfl | exact Or.inl (by assumption) | exact Or.inr (by assumption))), (show (za = 0 → f4 = 0 → ga0_15 = w) ∧ (¬ za = 0 → ga0_15 = w ∧ ga1_15 = va_cpy w kp 0 0 21375) ∧ (za = 0 → ga1_15 = kp) ∧ (za = 0 → ¬ f4 = 0 → ga0_15 = va_cpy kp w 0 0 21375) from (by have q9 := hl15_1; rw [show k2_15 = 21375 by omega] at q9; exact ⟨fun h9 _ => absurd h9 c_1, fun h9 => q9.2 h9, fun h9 => absurd h9 c_1, fun h9 => absurd h9 c_1⟩)), (by exact Or.inl (⟨rfl, (show (1 : Int32) = 1 from (by first | assumption | omega | rfl | exact Or.inl (by assumption) | exact Or.inr (by assumption))), (show za ≠ 0 ∨ f4 ≠ 0 from (by first | assumption | omega | rfl | exact Or.inl (by assumption) | exact Or.inr (by assumption)))⟩))⟩ [0, 1, 2] rfl (by decide) trivial (Nat.le_of_ble_eq_true rfl) (Nat.le_of_ble_eq_true rfl) dX12_image_74
    · have nc_2 := cv_nle (a := 21375) (b := k2_15) (by omega) (by omega) c_2
      refine lv_iload_n hx hb dX12_image_22 rfl (lv_at hl 2 rfl) ?_
      refine lv_if_eq (tgt := 41) hx hb dX12_image_23 (by decide) (fun c_4 => absurd c_4 c_1) (fun c_4 => ?_)
      refine lv_aload_n hx hb dX12_image_26 rfl (lv_at hl 1 rfl) ?_
      refine va_get (D := D) (ci := 12) (v := .ref a1) (C := RX12) (T := TX12) (N := 30) hx hb hts inlX12 hown hK hP 0 rfl rfl 1 (by decide) (hts _ mw_188) (fun _ h9 => h9) rfl dX12_image_27 ?_
      refine lv_iload_n hx hb dX12_image_30 rfl (lv_at hl 0 rfl) ?_
      refine lv_aload_n hx hb dX12_image_31 rfl (lv_at hl 1 rfl) ?_
      refine va_get (D := D) (ci := 12) (v := .ref a0) (C := RX12) (T := TX12) (N := 30) hx hb hts inlX12 hown hK hP 0 rfl rfl 0 (by decide) (hts _ mw_187) (fun _ h9 => h9) rfl dX12_image_32 ?_
      refine lv_iload_n hx hb dX12_image_35 rfl (lv_at hl 0 rfl) ?_
      refine va_iald hx hb hK hP 1 0 rfl rfl (i := nI k2_15) (vp_in_nI (n := k2_15) (by omega) (by omega)) dX12_image_36 ?_
      refine kv (v := .int (ga0_15 k2_15)) (by rw [nI_clamp (by omega)]) ?_
      obtain ⟨x_5, ex_5⟩ : ∃ y9 : Int32, ga0_15 k2_15 = y9 := ⟨_, rfl⟩
      refine kv (v := .int x_5) (congrArg Value.int ex_5) ?_
      refine va_iast hx hb hK hP hD hS 2 0 rfl rfl (i := nI k2_15) (x := x_5) (vp_in_nI (n := k2_15) (by omega) (by omega)) dX12_image_37 (fun H locs hP hD hS => ?_)
      rw [nI_clamp (by omega)] at hP hD
      have hP : va_P D vwCl [(m0, .inr (12, [.ref a0, .ref a1, .ref a2, .int (nI u3), .int f4, .ref a5, .int (nI u6), .int f7, .int f8, .int f9, .int f10, .int (nI u11), .int (nI u12), .int (nI u13), .ref a14, .ref a15, .ref a16, .ref a17, .int f18, .int f19, .ref a20, .ref a21, .int (nI u22), .ref a23, .ref a24, .ref a25, .int (nI u26), .int f27, .ref a28, .int (nI u29)])), (a0, .inl (κ 0, 21375, .inl ga0_15)), (a1, .inl (κ 0, 21375, .inl (upd ga1_15 k2_15 x_5)))] H := hP
      have hD : va_D A [(m0, .inr (12, [.ref a0, .ref a1, .ref a2, .int (nI u3), .int f4, .ref a5, .int (nI u6), .int f7, .int f8, .int f9, .int f10, .int (nI u11), .int (nI u12), .int (nI u13), .ref a14, .ref a15, .ref a16, .ref a17, .int f18, .int f19, .ref a20, .ref a21, .int (nI u22), .ref a23, .ref a24, .ref a25, .int (nI u26), .int f27, .ref a28, .int (nI u29)])), (a0, .inl (κ 0, 21375, .inl ga0_15)), (a1, .inl (κ 0, 21375, .inl (upd ga1_15 k2_15 x_5)))] := hD
      have hf_7 : Pw (upd ga1_15 k2_15 x_5) := (Pw_copyE hg15_1 hg15_0 ex_5)
      have hq : va_cpy w kp 0 0 (k2_15 + 1) = (upd ga1_15 k2_15 x_5) := (by rw [(hl15_1.2 c_1).2]; exact (cpy_up ((congrFun (hl15_1.2 c_1).1 _).symm.trans ex_5)).symm)
      generalize upd ga1_15 k2_15 x_5 = g_6 at hP hD hf_7 hq
      refine lv_goto (tgt := 53) hx hb dX12_image_38 (by decide) ?_
      refine lv_iinc (v := (nI (k2_15 + 1))) (lv' := [(2, .int (nI (k2_15 + 1))), (0, .ref m0), (1, .int za)]) hx hb dX12_image_53 hl (k := 0) rfl (nI_i k2_15) (by decide) rfl (fun ls hl => ?_)
      refine lv_goto (tgt := 15) hx hb dX12_image_56 (by decide) ?_
      exact ih15 _ _ _ _ (by omega) ⟨(k2_15 + 1), ga0_15, g_6, (by omega), ⟨fun h9 => absurd h9 c_1, fun h9 => ⟨(hl15_1.2 h9).1, hq.symm⟩⟩, hg15_0, hf_7, rfl, hP, hD, hS, lv_sub hl [0, 1, 2] rfl⟩
  · refine lv_aload_n hx hb dX12_image_4 rfl (lv_at hl 0 rfl) ?_
    refine va_get (D := D) (ci := 12) (v := .int f4) (C := RX12) (T := TX12) (N := 30) hx hb hts inlX12 hown hK hP 0 rfl rfl 4 (by decide) (hts _ mw_1483) (fun _ h9 => h9) rfl dX12_image_5 ?_
    refine lv_if_ne (tgt := 13) hx hb dX12_image_8 (by decide) (fun c_8 => ?_) (fun c_8 => ?_)
    · refine lv_iconst (v := 0) hx hb dX12_image_13 (by decide) ?_
      refine lv_istore_n (lv' := [(2, .int 0), (0, .ref m0), (1, .int za)]) hx hb dX12_image_14 rfl hl (by decide) rfl (fun ls hl => ?_)
      refine loop_dn (fun k9 H locs ls => ∃ (k2_15 : Nat), ∃ (ga0_15 : Nat → Int32), ∃ (ga1_15 : Nat → Int32), (k2_15 ≤ 21375) ∧ ((za = 0 → ga1_15 = kp ∧ ga0_15 = va_cpy kp w 0 0 k2_15) ∧ (¬ za = 0 → ga0_15 = w ∧ ga1_15 = va_cpy w kp 0 0 k2_15)) ∧ Pw ga0_15 ∧ Pw ga1_15 ∧ 21375 - k2_15 = k9 ∧ va_P D vwCl [(m0, .inr (12, [.ref a0, .ref a1, .ref a2, .int (nI u3), .int f4, .ref a5, .int (nI u6), .int f7, .int f8, .int f9, .int f10, .int (nI u11), .int (nI u12), .int (nI u13), .ref a14, .ref a15, .ref a16, .ref a17, .int f18, .int f19, .ref a20, .ref a21, .int (nI u22), .ref a23, .ref a24, .ref a25, .int (nI u26), .int f27, .ref a28, .int (nI u29)])), (a0, .inl (κ 0, 21375, .inl ga0_15)), (a1, .inl (κ 0, 21375, .inl ga1_15))] H ∧ va_D A [(m0, .inr (12, [.ref a0, .ref a1, .ref a2, .int (nI u3), .int f4, .ref a5, .int (nI u6), .int f7, .int f8, .int f9, .int f10, .int (nI u11), .int (nI u12), .int (nI u13), .ref a14, .ref a15, .ref a16, .ref a17, .int f18, .int f19, .ref a20, .ref a21, .int (nI u22), .ref a23, .ref a24, .ref a25, .int (nI u26), .int f27, .ref a28, .int (nI u29)])), (a0, .inl (κ 0, 21375, .inl ga0_15)), (a1, .inl (κ 0, 21375, .inl ga1_15))] ∧ va_S A s.heap H locs ∧ lv_has ls 3 [(2, .int (nI k2_15)), (0, .ref m0), (1, .int za)]) (fun k9 H locs ls hI15 ih15 => ?_) (21375 - 0) _ _ _ ⟨0, w, kp, (by omega), ⟨fun _ => ⟨rfl, cpy_0.symm⟩, fun _ => ⟨rfl, cpy_0.symm⟩⟩, h_a0, h_a1, rfl, hP, hD, hS, lv_sub hl [0, 1, 2] rfl⟩
      obtain ⟨k2_15, ga0_15, ga1_15, hl15_0, hl15_1, hg15_0, hg15_1, hm15, hP, hD, hS, hl⟩ := hI15
      refine lv_iload_n hx hb dX12_image_15 rfl (lv_at hl 0 rfl) ?_
      refine lv_sipush (v := 21375) hx hb dX12_image_16 (by decide) ?_
      refine lv_icmp_ge (tgt := 59) hx hb dX12_image_19 (by decide) (fun c_9 => ?_) (fun c_9 => ?_)
      · have nc_9 := cv_le (a := 21375) (b := k2_15) (by omega) (by omega) c_9
        refine lv_iload_n hx hb dX12_image_59 rfl (lv_at hl 2 rfl) ?_
        refine lv_if_ne (tgt := 68) hx hb dX12_image_60 (by decide) (fun c_10 => absurd c_1 c_10) (fun c_10 => ?_)
        refine lv_aload_n hx hb dX12_image_63 rfl (lv_at hl 1 rfl) ?_
        refine lv_iconst (v := 0) hx hb dX12_image_64 (by decide) ?_
        refine va_put (D := D) (ci := 12) (v := .int 0) (ty := tyX12 3) (C := RX12) (T := TX12) (N := 30) hx hb hts inlX12 tyX12 tyX12_ok nmX12 hown hK hP hD hS 0 rfl rfl 3 (by decide) (hts _ mw_533) (fun _ h9 => h9) rfl (tyX12_ok 3 (by decide)) rfl rfl (Nat.le_of_ble_eq_true rfl) dX12_image_65 (fun H locs hP hD hS => ?_)
        have hP : va_P D vwCl [(m0, .inr (12, [.ref a0, .ref a1, .ref a2, .int 0, .int f4, .ref a5, .int (nI u6), .int f7, .int f8, .int f9, .int f10, .int (nI u11), .int (nI u12), .int (nI u13), .ref a14, .ref a15, .ref a16, .ref a17, .int f18, .int f19, .ref a20, .ref a21, .int (nI u22), .ref a23, .ref a24, .ref a25, .int (nI u26), .int f27, .ref a28, .int (nI u29)])), (a0, .inl (κ 0, 21375, .inl ga0_15)), (a1, .inl (κ 0, 21375, .inl ga1_15))] H := hP
        have hD : va_D A [(m0, .inr (12, [.ref a0, .ref a1, .ref a2, .int 0, .int f4, .ref a5, .int (nI u6), .int f7, .int f8, .int f9, .int f10, .int (nI u11), .int (nI u12), .int (nI u13), .ref a14, .ref a15, .ref a16, .ref a17, .int f18, .int f19, .ref a20, .ref a21, .int (nI u22), .ref a23, .ref a24, .ref a25, .int (nI u26), .int f27, .ref a28, .int (nI u29)])), (a0, .inl (κ 0, 21375, .inl ga0_15)), (a1, .inl (κ 0, 21375, .inl ga1_15))] := hD
        refine lv_aload_n hx hb dX12_image_68 rfl (lv_at hl 1 rfl) ?_
        refine lv_iconst (v := 1) hx hb dX12_image_69 (by decide) ?_
        refine va_put (D := D) (ci := 12) (v := .int 1) (ty := tyX12 4) (C := RX12) (T := TX12) (N := 30) hx hb hts inlX12 tyX12 tyX12_ok nmX12 hown hK hP hD hS 0 rfl rfl 4 (by decide) (hts _ mw_1483) (fun _ h9 => h9) rfl (tyX12_ok 4 (by decide)) rfl rfl (Nat.le_of_ble_eq_true rfl) dX12_image_70 (fun H locs hP hD hS => ?_)
        have hP : va_P D vwCl [(m0, .inr (12, [.ref a0, .ref a1, .ref a2, .int 0, .int 1, .ref a5, .int (nI u6), .int f7, .int f8, .int f9, .int f10, .int (nI u11), .int (nI u12), .int (nI u13), .ref a14, .ref a15, .ref a16, .ref a17, .int f18, .int f19, .ref a20, .ref a21, .int (nI u22), .ref a23, .ref a24, .ref a25, .int (nI u26), .int f27, .ref a28, .int (nI u29)])), (a0, .inl (κ 0, 21375, .inl ga0_15)), (a1, .inl (κ 0, 21375, .inl ga1_15))] H := hP
        have hD : va_D A [(m0, .inr (12, [.ref a0, .ref a1, .ref a2, .int 0, .int 1, .ref a5, .int (nI u6), .int f7, .int f8, .int f9, .int f10, .int (nI u11), .int (nI u12), .int (nI u13), .ref a14, .ref a15, .ref a16, .ref a17, .int f18, .int f19, .ref a20, .ref a21, .int (nI u22), .ref a23, .ref a24, .ref a25, .int (nI u26), .int f27, .ref a28, .int (nI u29)])), (a0, .inl (κ 0, 21375, .inl ga0_15)), (a1, .inl (κ 0, 21375, .inl ga1_15))] := hD
        refine lv_iconst (v := 1) hx hb dX12_image_73 (by decide) ?_
        exact ct_iret hx hb hr hlk rfl hS hP hD (1, 0, 1, ga0_15, ga1_15) rfl ⟨(show 0 ≤ 6 from (by first | assumption | omega | rfl | exact Or.inl (by assumption) | exact Or.inr (by assumption))), (show Pw ga0_15 from (by first | assumption | omega | rfl | exact Or.inl (by assumption) | exact Or.inr (by assumption))), (show Pw ga1_15 from (by first | assumption | omega | rfl | exact Or.inl (by assumption) | exact Or.inr (by assumption))), (show (za = 0 → f4 = 0 → ga0_15 = w) ∧ (¬ za = 0 → ga0_15 = w ∧ ga1_15 = va_cpy w kp 0 0 21375) ∧ (za = 0 → ga1_15 = kp) ∧ (za = 0 → ¬ f4 = 0 → ga0_15 = va_cpy kp w 0 0 21375) from (by have q9 := hl15_1; rw [show k2_15 = 21375 by omega] at q9; exact ⟨fun _ h9 => absurd h9 c_8, fun h9 => absurd c_1 h9, fun h9 => (q9.1 h9).1, fun h9 _ => (q9.1 h9).2⟩)), (by exact Or.inl (⟨rfl, (show (1 : Int32) = 1 from (by first | assumption | omega | rfl | exact Or.inl (by assumption) | exact Or.inr (by assumption))), (show za ≠ 0 ∨ f4 ≠ 0 from (by first | assumption | omega | rfl | exact Or.inl (by assumption) | exact Or.inr (by assumption)))⟩))⟩ [0, 1, 2] rfl (by decide) trivial (Nat.le_of_ble_eq_true rfl) (Nat.le_of_ble_eq_true rfl) dX12_image_74
      · have nc_9 := cv_nle (a := 21375) (b := k2_15) (by omega) (by omega) c_9
        refine lv_iload_n hx hb dX12_image_22 rfl (lv_at hl 2 rfl) ?_
        refine lv_if_eq (tgt := 41) hx hb dX12_image_23 (by decide) (fun c_11 => ?_) (fun c_11 => absurd c_1 c_11)
        refine lv_aload_n hx hb dX12_image_41 rfl (lv_at hl 1 rfl) ?_
        refine va_get (D := D) (ci := 12) (v := .ref a0) (C := RX12) (T := TX12) (N := 30) hx hb hts inlX12 hown hK hP 0 rfl rfl 0 (by decide) (hts _ mw_187) (fun _ h9 => h9) rfl dX12_image_42 ?_
        refine lv_iload_n hx hb dX12_image_45 rfl (lv_at hl 0 rfl) ?_
        refine lv_aload_n hx hb dX12_image_46 rfl (lv_at hl 1 rfl) ?_
        refine va_get (D := D) (ci := 12) (v := .ref a1) (C := RX12) (T := TX12) (N := 30) hx hb hts inlX12 hown hK hP 0 rfl rfl 1 (by decide) (hts _ mw_188) (fun _ h9 => h9) rfl dX12_image_47 ?_
        refine lv_iload_n hx hb dX12_image_50 rfl (lv_at hl 0 rfl) ?_
        refine va_iald hx hb hK hP 2 0 rfl rfl (i := nI k2_15) (vp_in_nI (n := k2_15) (by omega) (by omega)) dX12_image_51 ?_
        refine kv (v := .int (ga1_15 k2_15)) (by rw [nI_clamp (by omega)]) ?_
        obtain ⟨x_12, ex_12⟩ : ∃ y9 : Int32, ga1_15 k2_15 = y9 := ⟨_, rfl⟩
        refine kv (v := .int x_12) (congrArg Value.int ex_12) ?_
        refine va_iast hx hb hK hP hD hS 1 0 rfl rfl (i := nI k2_15) (x := x_12) (vp_in_nI (n := k2_15) (by omega) (by omega)) dX12_image_52 (fun H locs hP hD hS => ?_)
        rw [nI_clamp (by omega)] at hP hD
        have hP : va_P D vwCl [(m0, .inr (12, [.ref a0, .ref a1, .ref a2, .int (nI u3), .int f4, .ref a5, .int (nI u6), .int f7, .int f8, .int f9, .int f10, .int (nI u11), .int (nI u12), .int (nI u13), .ref a14, .ref a15, .ref a16, .ref a17, .int f18, .int f19, .ref a20, .ref a21, .int (nI u22), .ref a23, .ref a24, .ref a25, .int (nI u26), .int f27, .ref a28, .int (nI u29)])), (a0, .inl (κ 0, 21375, .inl (upd ga0_15 k2_15 x_12))), (a1, .inl (κ 0, 21375, .inl ga1_15))] H := hP
        have hD : va_D A [(m0, .inr (12, [.ref a0, .ref a1, .ref a2, .int (nI u3), .int f4, .ref a5, .int (nI u6), .int f7, .int f8, .int f9, .int f10, .int (nI u11), .int (nI u12), .int (nI u13), .ref a14, .ref a15, .ref a16, .ref a17, .int f18, .int f19, .ref a20, .ref a21, .int (nI u22), .ref a23, .ref a24, .ref a25, .int (nI u26), .int f27, .ref a28, .int (nI u29)])), (a0, .inl (κ 0, 21375, .inl (upd ga0_15 k2_15 x_12))), (a1, .inl (κ 0, 21375, .inl ga1_15))] := hD
        have hf_14 : Pw (upd ga0_15 k2_15 x_12) := (Pw_copyE hg15_0 hg15_1 ex_12)
        have hq : va_cpy kp w 0 0 (k2_15 + 1) = (upd ga0_15 k2_15 x_12) := (by rw [(hl15_1.1 c_1).2]; exact (cpy_up ((congrFun (hl15_1.1 c_1).1 _).symm.trans ex_12)).symm)
        generalize upd ga0_15 k2_15 x_12 = g_13 at hP hD hf_14 hq
        refine lv_iinc (v := (nI (k2_15 + 1))) (lv' := [(2, .int (nI (k2_15 + 1))), (0, .ref m0), (1, .int za)]) hx hb dX12_image_53 hl (k := 0) rfl (nI_i k2_15) (by decide) rfl (fun ls hl => ?_)
        refine lv_goto (tgt := 15) hx hb dX12_image_56 (by decide) ?_
        exact ih15 _ _ _ _ (by omega) ⟨(k2_15 + 1), g_13, ga1_15, (by omega), ⟨fun h9 => ⟨(hl15_1.1 h9).1, hq.symm⟩, fun h9 => absurd c_1 h9⟩, hf_14, hg15_1, rfl, hP, hD, hS, lv_sub hl [0, 1, 2] rfl⟩
    · refine lv_iconst (v := 0) hx hb dX12_image_11 (by decide) ?_
      exact ct_iret hx hb hr hlk rfl hS hP hD (0, u3, f4, w, kp) rfl ⟨(show u3 ≤ 6 from (by first | assumption | omega | rfl | exact Or.inl (by assumption) | exact Or.inr (by assumption))), (show Pw w from (by first | assumption | omega | rfl | exact Or.inl (by assumption) | exact Or.inr (by assumption))), (show Pw kp from (by first | assumption | omega | rfl | exact Or.inl (by assumption) | exact Or.inr (by assumption))), (show (za = 0 → f4 = 0 → w = w) ∧ (¬ za = 0 → w = w ∧ kp = va_cpy w kp 0 0 21375) ∧ (za = 0 → kp = kp) ∧ (za = 0 → ¬ f4 = 0 → w = va_cpy kp w 0 0 21375) from ⟨fun _ _ => rfl, fun h9 => absurd c_1 h9, fun _ => rfl, fun _ h9 => absurd c_8 h9⟩), (by exact Or.inr ((⟨rfl, (show f4 = f4 from (by first | assumption | omega | rfl | exact Or.inl (by assumption) | exact Or.inr (by assumption))), (show za = 0 from (by first | assumption | omega | rfl | exact Or.inl (by assumption) | exact Or.inr (by assumption))), (show f4 = 0 from (by first | assumption | omega | rfl | exact Or.inl (by assumption) | exact Or.inr (by assumption)))⟩)))⟩ [0, 1, 2] rfl (by decide) trivial (Nat.le_of_ble_eq_true rfl) (Nat.le_of_ble_eq_true rfl) dX12_image_12
