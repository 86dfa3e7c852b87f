theorem dX7_modeRow_0 : decode cX7_modeRow 0 = .ok (.iconst (-1), 1) := by decide +kernel
theorem dX7_modeRow_1 : decode cX7_modeRow 1 = .ok (.istore_n 1, 1) := by decide +kernel
theorem dX7_modeRow_2 : decode cX7_modeRow 2 = .ok (.iconst 0, 1) := by decide +kernel
theorem dX7_modeRow_3 : decode cX7_modeRow 3 = .ok (.istore_n 2, 1) := by decide +kernel
theorem dX7_modeRow_4 : decode cX7_modeRow 4 = .ok (.iconst 0, 1) := by decide +kernel
theorem dX7_modeRow_5 : decode cX7_modeRow 5 = .ok (.istore_n 3, 1) := by decide +kernel
theorem dX7_modeRow_6 : decode cX7_modeRow 6 = .ok (.iload_n 3, 1) := by decide +kernel
theorem dX7_modeRow_7 : decode cX7_modeRow 7 = .ok (.aload_n 0, 1) := by decide +kernel
theorem dX7_modeRow_8 : decode cX7_modeRow 8 = .ok (.getfield 19, 3) := by decide +kernel
theorem dX7_modeRow_11 : decode cX7_modeRow 11 = .ok (.arraylength, 1) := by decide +kernel
theorem dX7_modeRow_12 : decode cX7_modeRow 12 = .ok (.if_icmp .ge 37, 3) := by decide +kernel
theorem dX7_modeRow_49 : decode cX7_modeRow 49 = .ok (.iload_n 1, 1) := by decide +kernel
theorem dX7_modeRow_50 : decode cX7_modeRow 50 = .ok (.ireturn, 1) := by decide +kernel
theorem dX7_modeRow_15 : decode cX7_modeRow 15 = .ok (.aload_n 0, 1) := by decide +kernel
theorem dX7_modeRow_16 : decode cX7_modeRow 16 = .ok (.aload_n 0, 1) := by decide +kernel
theorem dX7_modeRow_17 : decode cX7_modeRow 17 = .ok (.getfield 19, 3) := by decide +kernel
theorem dX7_modeRow_20 : decode cX7_modeRow 20 = .ok (.iload_n 3, 1) := by decide +kernel
theorem dX7_modeRow_21 : decode cX7_modeRow 21 = .ok (.iaload, 1) := by decide +kernel
theorem dX7_modeRow_22 : decode cX7_modeRow 22 = .ok (.invokevirtual 107, 3) := by decide +kernel
theorem mw_1310 : Cond.code yX7_countLike cX7_countLike 4 (some .int) ∈ wsL_law := lrk_55 _ (List.mem_of_getElem? (i := 14) rfl)
theorem mw_1307 : Cond.methodLink RX7 107 yX7_countLike ∈ wsL_law := lrk_55 _ (List.mem_of_getElem? (i := 11) rfl)
theorem mw_1308 : Cond.instanceMethod yX7_countLike ∈ wsL_law := lrk_55 _ (List.mem_of_getElem? (i := 12) rfl)
theorem mw_1309 : Cond.selects RX7 yX7_countLike yX7_countLike ∈ wsL_law := lrk_55 _ (List.mem_of_getElem? (i := 13) rfl)
theorem gV_X7_107 : GoodIn wsL_law (wsV RX7 107 RX7 yX7_countLike (wl yX7_countLike cX7_countLike 4 (some .int))) := g_V mw_1307 mw_1308 mw_1309 mw_794 mw_1310
theorem hdV_X7_countLike : yX7_countLike.cls = RX7 ∧ okD yX7_countLike 1 := by decide +kernel
theorem dX7_modeRow_25 : decode cX7_modeRow 25 = .ok (.istore 4, 2) := by decide +kernel
theorem dX7_modeRow_27 : decode cX7_modeRow 27 = .ok (.iload 4, 2) := by decide +kernel
theorem dX7_modeRow_29 : decode cX7_modeRow 29 = .ok (.iload_n 2, 1) := by decide +kernel
theorem dX7_modeRow_30 : decode cX7_modeRow 30 = .ok (.if_icmp .le 13, 3) := by decide +kernel
theorem dX7_modeRow_43 : decode cX7_modeRow 43 = .ok (.iinc 3 1, 3) := by decide +kernel
theorem dX7_modeRow_46 : decode cX7_modeRow 46 = .ok (.goto (-40), 3) := by decide +kernel
theorem dX7_modeRow_33 : decode cX7_modeRow 33 = .ok (.aload_n 0, 1) := by decide +kernel
theorem dX7_modeRow_34 : decode cX7_modeRow 34 = .ok (.getfield 19, 3) := by decide +kernel
theorem dX7_modeRow_37 : decode cX7_modeRow 37 = .ok (.iload_n 3, 1) := by decide +kernel
theorem dX7_modeRow_38 : decode cX7_modeRow 38 = .ok (.iaload, 1) := by decide +kernel
theorem dX7_modeRow_39 : decode cX7_modeRow 39 = .ok (.istore_n 1, 1) := by decide +kernel
theorem dX7_modeRow_40 : decode cX7_modeRow 40 = .ok (.iload 4, 2) := by decide +kernel
theorem dX7_modeRow_42 : decode cX7_modeRow 42 = .ok (.istore_n 2, 1) := by decide +kernel
set_option maxHeartbeats 4000000 in
set_option maxRecDepth 100000 in
theorem c_X5_cellOf_F (l : Launch) (D : va_G) (κ : Nat → ClassId) (κq : Nat → Nat) (im : va_W) (S : Nat) (c9a : Nat) (x9a : Nat) (R : Nat) (v : Nat) (w : Nat) (g : Nat → Option Nat) (h : Nat → Option Nat) (r9 : Nat) (c9 : Nat) (hlc : Lc κ im h (R * w)) (hr9 : r9 < R) (hc9 : c9 < w) (hR4 : R ≤ 40) (hw8 : w ≤ 8) : Er l yX5_cellOf (wl yX5_cellOf cX5_cellOf 3 (some (.object "TypedTables$Cell"))) { frames := 0, cells := 0, slots := 0, locals := 0 } D κ κq [.ref S, .int (nI r9), .int (nI c9)] ([(S, .inr (5, [.ref c9a, .ref x9a, .int (nI R), .ref v])), (c9a, .inl (κ 3, w, .inr (.inr (.inr (.inr g))))), (x9a, .inl (κ 2, R * w, .inr (.inr (.inr (.inr h)))))] ++ im) (fun r : Option Nat => some (va_rf r)) (fun r : Option Nat => ((∃ (p : Nat), ∃ (k : Nat), ∃ (n : Nat), r = some p ∧ Cl κ im p k n ∧ h (r9 * w + c9) = some p))) := by
  refine er_of (by decide +kernel) (Nat.le_of_ble_eq_true rfl) ?_
  intro p e s m args below meth c A ls hx hb hr hml hts hown hlk hKK hK hP hE hl
  have hS : va_S A s.heap s.heap [] := va_S.rf
  have hP : va_P D vwCl ([(S, .inr (5, [.ref c9a, .ref x9a, .int (nI R), .ref v])), (c9a, .inl (κ 3, w, .inr (.inr (.inr (.inr g))))), (x9a, .inl (κ 2, R * w, .inr (.inr (.inr (.inr h)))))] ++ im) s.heap := hP
  have hFX : FX p s m args c cX5_cellOf 3 RX5 := ⟨hx, hb, hml, hown, hts⟩
  have hl : lv_has ls 3 [(0, .ref S), (1, .int (nI r9)), (2, .int (nI c9))] := hl
  have hrw9 := rw_le hR4 hw8
  refine lv_aload_n hx hb dX5_cellOf_0 rfl (lv_at hl 0 rfl) ?_
  refine va_get (D := D) (ci := 5) (v := .ref x9a) (C := RX5) (T := TX5) (N := 4) hx hb hts inlX5 hown hK hP 0 rfl rfl 1 (by decide) (hts _ mw_383) (fun _ h9 => h9) rfl dX5_cellOf_1 ?_
  refine lv_iload_n hx hb dX5_cellOf_4 rfl (lv_at hl 1 rfl) ?_
  refine lv_aload_n hx hb dX5_cellOf_5 rfl (lv_at hl 0 rfl) ?_
  refine va_get (D := D) (ci := 5) (v := .ref c9a) (C := RX5) (T := TX5) (N := 4) hx hb hts inlX5 hown hK hP 0 rfl rfl 0 (by decide) (hts _ mw_382) (fun _ h9 => h9) rfl dX5_cellOf_6 ?_
  refine va_alen hx hb hK hP 1 3 rfl rfl (v := nI w) rfl dX5_cellOf_9 ?_
  refine lv_imul hx hb dX5_cellOf_10 ?_
  refine ki (v := (nI (r9 * w))) (pk_mul r9 w) ?_
  refine lv_iload_n hx hb dX5_cellOf_11 rfl (lv_at hl 2 rfl) ?_
  refine lv_iadd hx hb dX5_cellOf_12 ?_
  refine ki (v := (nI (r9 * w + c9))) (nI_add (r9 * w) c9) ?_
  refine va_aldq hx hb hK hP 2 2 rfl rfl (i := nI (r9 * w + c9)) (vp_in_nI (n := r9 * w + c9) (ix_lt hr9 hc9) (by omega)) dX5_cellOf_13 ?_
  obtain ⟨q_1, e_2, k_3, m_4, h_5⟩ := hlc (r9 * w + c9) (ix_lt hr9 hc9)
  refine kv (v := .ref q_1) (by rw [nI_clamp (by have q9 := ix_lt hr9 hc9; omega)]; rw [e_2]; rfl) ?_
  exact cr_aret hx hb hr (by first | exact Or.inl ⟨_, rfl⟩ | exact Or.inr ⟨_, rfl⟩) hlk (by first | exact Or.inl rfl | exact Or.inr ⟨_, rfl⟩) (some q_1) rfl (by exact ⟨q_1, k_3, m_4, rfl, (show Cl κ im q_1 k_3 m_4 from h_5), (show h (r9 * w + c9) = some q_1 from e_2)⟩) dX5_cellOf_14
set_option maxHeartbeats 4000000 in
set_option maxRecDepth 100000 in
theorem c_X7_cellOf_F (l : Launch) (D : va_G) (κ : Nat → ClassId) (κq : Nat → Nat) (im : va_W) (q : Nat) (S : Nat) (c9a : Nat) (x9a : Nat) (R : Nat) (v : Nat) (w : Nat) (g : Nat → Option Nat) (h : Nat → Option Nat) (co : Nat) (ra : Nat) (ty : Nat) (r9 : Nat) (hlc : Lc κ im h (R * w)) (hr9 : r9 < R) (hco : co < w) (hR4 : R ≤ 40) (hw8 : w ≤ 8) : Er l yX7_cellOf (wl yX7_cellOf cX7_cellOf 2 (some (.object "TypedTables$Cell"))) { frames := 1, cells := 0, slots := 0, locals := 22 } D κ κq [.ref q, .int (nI r9)] ([(q, .inr (7, [.ref S, .int (nI co), .ref ra, .int (nI ty)])), (S, .inr (5, [.ref c9a, .ref x9a, .int (nI R), .ref v])), (c9a, .inl (κ 3, w, .inr (.inr (.inr (.inr g))))), (x9a, .inl (κ 2, R * w, .inr (.inr (.inr (.inr h)))))] ++ im) (fun r : Option Nat => some (va_rf r)) (fun r : Option Nat => ((∃ (p : Nat), ∃ (k : Nat), ∃ (n : Nat), r = some p ∧ Cl κ im p k n ∧ h (r9 * w + co) = some p))) := by
  refine er_of (by decide +kernel) (Nat.le_of_ble_eq_true rfl) ?_
  intro p e s m args below meth c A ls hx hb hr hml hts hown hlk hKK hK hP hE hl
  have hS : va_S A s.heap s.heap [] := va_S.rf
  have hP : va_P D vwCl ([(q, .inr (7, [.ref S, .int (nI co), .ref ra, .int (nI ty)])), (S, .inr (5, [.ref c9a, .ref x9a, .int (nI R), .ref v])), (c9a, .inl (κ 3, w, .inr (.inr (.inr (.inr g))))), (x9a, .inl (κ 2, R * w, .inr (.inr (.inr (.inr h)))))] ++ im) s.heap := hP
  have hFX : FX p s m args c cX7_cellOf 2 RX7 := ⟨hx, hb, hml, hown, hts⟩
  have hl : lv_has ls 2 [(0, .ref q), (1, .int (nI r9))] := hl
  refine lv_aload_n hx hb dX7_cellOf_0 rfl (lv_at hl 0 rfl) ?_
  refine va_get (D := D) (ci := 7) (v := .ref S) (C := RX7) (T := TX7) (N := 4) hx hb hts inlX7 hown hK hP 0 rfl rfl 0 (by decide) (hts _ mw_806) (fun _ h9 => h9) rfl dX7_cellOf_1 ?_
  refine lv_iload_n hx hb dX7_cellOf_4 rfl (lv_at hl 1 rfl) ?_
  refine lv_aload_n hx hb dX7_cellOf_5 rfl (lv_at hl 0 rfl) ?_
  refine va_get (D := D) (ci := 7) (v := .int (nI co)) (C := RX7) (T := TX7) (N := 4) hx hb hts inlX7 hown hK hP 0 rfl rfl 1 (by decide) (hts _ mw_807) (fun _ h9 => h9) rfl dX7_cellOf_6 ?_
  refine er_V (As := [.int (nI r9), .int (nI co)]) (rest := []) hFX hKK hE hS (c_X5_cellOf_F l D κ κq im S c9a x9a R v w g h r9 co hlc (by omega) (by omega) (by omega) (by omega)) 2 gV_X7_32 hdV_X5_cellOf rfl rfl ⟨Nat.le_of_ble_eq_true rfl, Nat.le_of_ble_eq_true rfl⟩ rfl rfl (Nat.le_of_ble_eq_true rfl) dX7_cellOf_9 ⟨Nat.le_of_ble_eq_true rfl, Nat.le_of_ble_eq_true rfl⟩ hl.1 hP 1 5 rfl rfl rfl (subP hP [1, 2, 3] rfl) (fun r__1 hp_2 => ?_)
  replace hp_2 : ((∃ (p : Nat), ∃ (k : Nat), ∃ (n : Nat), r__1 = some p ∧ Cl κ im p k n ∧ h (r9 * w + co) = some p)) := hp_2
  have ha_3 := hp_2
  clear hp_2
  rcases ha_3 with ⟨p__4, k__5, n__6, rfl, a_7, a_8⟩
  · refine W.eq (g2 := F0 m 12 ls [.ref p__4]) rfl ?_
    exact cr_aret hx hb hr (by first | exact Or.inl ⟨_, rfl⟩ | exact Or.inr ⟨_, rfl⟩) hlk (by first | exact Or.inl rfl | exact Or.inr ⟨_, rfl⟩) (some p__4) rfl (by exact ⟨p__4, k__5, n__6, rfl, (show Cl κ im p__4 k__5 n__6 from a_7), (show h (r9 * w + co) = some p__4 from a_8)⟩) dX7_cellOf_12
set_option maxHeartbeats 4000000 in
set_option maxRecDepth 100000 in
theorem c_X7_areLike_same (l : Launch) (D : va_G) (κ : Nat → ClassId) (κq : Nat → Nat) (im : va_W) (q : Nat) (S : Nat) (R : Nat) (w : Nat) (co : Nat) (ra : Nat) (mq : Nat) (ty : Nat) (r9 : Nat) (hsp : Sp κ im q S R w co ra mq ty) (hr9 : r9 < R) : Er l yX7_areLike (wl yX7_areLike cX7_areLike 3 (some .boolean)) { frames := 3, cells := 0, slots := 0, locals := 66 } D κ κq [.ref q, .int (nI r9), .int (nI r9)] ([] ++ im) (fun _ : Unit => some (.int 1)) (fun _ : Unit => True) := by
  refine er_of (by decide +kernel) (Nat.le_of_ble_eq_true rfl) ?_
  intro p e s m args below meth c A ls hx hb hr hml hts hown hlk hKK hK hP hE hl
  have hS : va_S A s.heap s.heap [] := va_S.rf
  have hP : va_P D vwCl ([] ++ im) s.heap := hP
  have hFX : FX p s m args c cX7_areLike 3 RX7 := ⟨hx, hb, hml, hown, hts⟩
  have hl : lv_has ls 3 [(0, .ref q), (1, .int (nI r9)), (2, .int (nI r9))] := hl
  obtain ⟨h_1, h_2, hm_3, h_4, h_5⟩ := id hsp
  obtain ⟨hb_6, c_7, x_8, v_9, g_10, h_11, hm_12, hm_13, hm_14, lo_15, lc_16, vw_17⟩ := id h_4
  obtain ⟨hb_6_1, hb_6_2, hb_6_3⟩ := hb_6
  have hrw_hb_6 := rw_le hb_6_1 hb_6_3
  refine lv_aload_n hx hb dX7_areLike_0 rfl (lv_at hl 0 rfl) ?_
  refine lv_iload_n hx hb dX7_areLike_1 rfl (lv_at hl 1 rfl) ?_
  refine er_V (As := [.int (nI r9)]) (rest := []) hFX hKK hE hS (c_X7_cellOf_F l D κ κq im q S c_7 x_8 R v_9 w g_10 h_11 co ra ty r9 lc_16 (by omega) (by omega) (by omega) (by omega)) 1 gV_X7_36 hdV_X7_cellOf rfl rfl ⟨Nat.le_of_ble_eq_true rfl, Nat.le_of_ble_eq_true rfl⟩ rfl rfl (Nat.le_of_ble_eq_true rfl) dX7_areLike_2 ⟨Nat.le_of_ble_eq_true rfl, Nat.le_of_ble_eq_true rfl⟩ hl.1 (oneP (C := []) hP hm_3) 0 7 rfl rfl rfl (va_P.app (w1 := [(q, .inr (7, [.ref S, .int (nI co), .ref ra, .int (nI ty)]))]) (oneP (C := []) hP hm_3) (va_P.app (w1 := [(S, .inr (5, [.ref c_7, .ref x_8, .int (nI R), .ref v_9]))]) (oneP (C := []) hP hm_12) (va_P.app (w1 := [(c_7, .inl (κ 3, w, .inr (.inr (.inr (.inr g_10)))))]) (oneP (C := []) hP hm_13) (va_P.app (w1 := [(x_8, .inl (κ 2, R * w, .inr (.inr (.inr (.inr h_11)))))]) (oneP (C := []) hP hm_14) (subP (C := []) (C' := []) hP [] rfl))))) (fun r__18 hp_19 => ?_)
  replace hp_19 : ((∃ (p : Nat), ∃ (k : Nat), ∃ (n : Nat), r__18 = some p ∧ Cl κ im p k n ∧ h_11 (r9 * w + co) = some p)) := hp_19
  have ha_20 := hp_19
  clear hp_19
  rcases ha_20 with ⟨p__21, k__22, n__23, rfl, a_24, a_25⟩
  · refine W.eq (g2 := F0 m 5 ls [.ref p__21]) rfl ?_
    refine lv_aload_n hx hb dX7_areLike_5 rfl (lv_at hl 0 rfl) ?_
    refine lv_iload_n hx hb dX7_areLike_6 rfl (lv_at hl 2 rfl) ?_
    refine er_V (As := [.int (nI r9)]) (rest := [.ref p__21]) hFX hKK hE hS (c_X7_cellOf_F l D κ κq im q S c_7 x_8 R v_9 w g_10 h_11 co ra ty r9 lc_16 (by omega) (by omega) (by omega) (by omega)) 1 gV_X7_36 hdV_X7_cellOf rfl rfl ⟨Nat.le_of_ble_eq_true rfl, Nat.le_of_ble_eq_true rfl⟩ rfl rfl (Nat.le_of_ble_eq_true rfl) dX7_areLike_7 ⟨Nat.le_of_ble_eq_true rfl, Nat.le_of_ble_eq_true rfl⟩ hl.1 (oneP (C := []) hP hm_3) 0 7 rfl rfl rfl (va_P.app (w1 := [(q, .inr (7, [.ref S, .int (nI co), .ref ra, .int (nI ty)]))]) (oneP (C := []) hP hm_3) (va_P.app (w1 := [(S, .inr (5, [.ref c_7, .ref x_8, .int (nI R), .ref v_9]))]) (oneP (C := []) hP hm_12) (va_P.app (w1 := [(c_7, .inl (κ 3, w, .inr (.inr (.inr (.inr g_10)))))]) (oneP (C := []) hP hm_13) (va_P.app (w1 := [(x_8, .inl (κ 2, R * w, .inr (.inr (.inr (.inr h_11)))))]) (oneP (C := []) hP hm_14) (subP (C := []) (C' := []) hP [] rfl))))) (fun r__26 hp_27 => ?_)
    replace hp_27 : ((∃ (p : Nat), ∃ (k : Nat), ∃ (n : Nat), r__26 = some p ∧ Cl κ im p k n ∧ h_11 (r9 * w + co) = some p)) := hp_27
    have ha_28 := hp_27
    clear hp_27
    rcases ha_28 with ⟨p__29, k__30, n__31, rfl, a_32, a_33⟩
    · refine W.eq (g2 := F0 m 10 ls [.ref p__29, .ref p__21]) rfl ?_
      obtain rfl : p__21 = p__29 := Option.some.inj (a_25.symm.trans a_33)
      refine lv_aload_n hx hb dX7_areLike_10 rfl (lv_at hl 0 rfl) ?_
      refine va_get (D := D) (ci := 7) (v := .int (nI ty)) (C := RX7) (T := TX7) (N := 4) hx hb hts inlX7 hown hK (oneP (C := []) hP hm_3) 0 rfl rfl 3 (by decide) (hts _ mw_809) (fun _ h9 => h9) rfl dX7_areLike_11 ?_
      obtain ⟨hk_34, b_35, x_36, hm_37, hb_38⟩ := id a_24
      have hn_b_35 := hb_38.1
      obtain ⟨hn_40, f_39, hm_41, hfit_42⟩ := id hb_38
      refine er_V (As := [.ref p__21, .int (nI ty)]) (rest := []) hFX hKK hE hS (c_X0_comparedTo_F l D κ κq p__21 b_35 k__22 n__23 x_36 f_39 p__21 b_35 k__22 n__23 x_36 f_39 (nI ty) (by omega) (by omega) (by omega) (by omega)) 2 gV_X7_39 hdV_X0_comparedTo rfl rfl ⟨Nat.le_of_ble_eq_true rfl, Nat.le_of_ble_eq_true rfl⟩ rfl rfl (Nat.le_of_ble_eq_true rfl) dX7_areLike_14 ⟨Nat.le_of_ble_eq_true rfl, Nat.le_of_ble_eq_true rfl⟩ hl.1 (oneP (C := []) hP hm_37) 0 0 rfl rfl rfl (va_P.app (oneP (C := []) hP hm_37) (va_P.app (oneP (C := []) hP hm_41) (va_P.app (oneP (C := []) hP hm_37) (oneP (C := []) hP hm_41)))) (fun r__43 hp_44 => ?_)
      replace hp_44 : r__43 = cpF k__22 n__23 x_36 f_39 k__22 n__23 x_36 f_39 (nI ty) := hp_44
      have h_45 := hp_44
      clear hp_44
      refine W.eq (g2 := F0 m 17 ls [.int r__43]) rfl ?_
      refine lv_if_ne (tgt := 24) hx hb dX7_areLike_17 (by decide) (fun c_46 => absurd (h_45.trans cpF_self) c_46) (fun c_46 => ?_)
      refine lv_iconst (v := 1) hx hb dX7_areLike_20 (by decide) ?_
      refine lv_goto (tgt := 25) hx hb dX7_areLike_21 (by decide) ?_
      exact cr_iret hx hb hr hlk rfl () rfl trivial dX7_areLike_25
set_option maxHeartbeats 4000000 in
set_option maxRecDepth 100000 in
theorem c_X7_countLike_F (l : Launch) (D : va_G) (κ : Nat → ClassId) (κq : Nat → Nat) (im : va_W) (q : Nat) (S : Nat) (R : Nat) (w : Nat) (co : Nat) (ra : Nat) (mq : Nat) (ty : Nat) (r9 : Nat) (j : Nat) (fr : Nat → Int32) (hsp : Sp κ im q S R w co ra mq ty) (hr9 : r9 < R) (hjm : j < mq) (hm4 : mq ≤ 40) (hrn : Rn mq R fr) (hfj : fr j = nI r9) : Er l yX7_countLike (wl yX7_countLike cX7_countLike 4 (some .int)) { frames := 4, cells := 0, slots := 0, locals := 88 } D κ κq [.ref q, .int (nI r9)] ([(ra, .inl (κ 0, mq, .inl fr))] ++ im) (fun r : Nat => some (.int (nI r))) (fun r : Nat => r ≤ mq ∧ 1 ≤ r) := by
  refine er_of (by decide +kernel) (Nat.le_of_ble_eq_true rfl) ?_
  intro p e s m args below meth c A ls hx hb hr hml hts hown hlk hKK hK hP hE hl
  have hS : va_S A s.heap s.heap [] := va_S.rf
  have hP : va_P D vwCl ([(ra, .inl (κ 0, mq, .inl fr))] ++ im) s.heap := hP
  have hFX : FX p s m args c cX7_countLike 4 RX7 := ⟨hx, hb, hml, hown, hts⟩
  have hl : lv_has ls 4 [(0, .ref q), (1, .int (nI r9))] := hl
  obtain ⟨h_1, h_2, hm_3, h_4, h_5⟩ := id hsp
  refine lv_iconst (v := 0) hx hb dX7_countLike_0 (by decide) ?_
  refine lv_istore_n (lv' := [(2, .int 0), (0, .ref q), (1, .int (nI r9))]) hx hb dX7_countLike_1 rfl hl (by decide) rfl (fun ls hl => ?_)
  refine lv_iconst (v := 0) hx hb dX7_countLike_2 (by decide) ?_
  refine lv_istore_n (lv' := [(3, .int 0), (2, .int 0), (0, .ref q), (1, .int (nI r9))]) hx hb dX7_countLike_3 rfl hl (by decide) rfl (fun ls hl => ?_)
  refine loop_r (fun k9 ls => ∃ (k3_4 : Nat), ∃ (k2_4 : Nat), (k3_4 ≤ mq) ∧ (k2_4 ≤ k3_4) ∧ (j < k3_4 → 1 ≤ k2_4) ∧ mq - k3_4 = k9 ∧ lv_has ls 4 [(3, .int (nI k3_4)), (2, .int (nI k2_4)), (0, .ref q), (1, .int (nI r9))]) (fun k9 ls hI4 ih4 => ?_) (mq - 0) _ ⟨0, 0, (by omega), (by omega), (fun _ => by omega), rfl, lv_sub hl [0, 1, 2, 3] rfl⟩
  obtain ⟨k3_4, k2_4, hl4_0, hl4_1, hl4_2, hm4, hl⟩ := hI4
  refine lv_iload_n hx hb dX7_countLike_4 rfl (lv_at hl 0 rfl) ?_
  refine lv_aload_n hx hb dX7_countLike_5 rfl (lv_at hl 2 rfl) ?_
  refine va_get (D := D) (ci := 7) (v := .ref ra) (C := RX7) (T := TX7) (N := 4) hx hb hts inlX7 hown hK (oneP (C := [(ra, .inl (κ 0, mq, .inl fr))]) hP hm_3) 0 rfl rfl 2 (by decide) (hts _ mw_808) (fun _ h9 => h9) rfl dX7_countLike_6 ?_
  refine va_alen hx hb hK hP 0 0 rfl rfl (v := nI mq) rfl dX7_countLike_9 ?_
  refine lv_icmp_ge (tgt := 41) hx hb dX7_countLike_10 (by decide) (fun c_6 => ?_) (fun c_6 => ?_)
  · have nc_6 := cv_le (a := mq) (b := k3_4) (by omega) (by omega) c_6
    refine lv_iload_n hx hb dX7_countLike_41 rfl (lv_at hl 1 rfl) ?_
    exact cr_iret hx hb hr hlk rfl k2_4 rfl ⟨(show k2_4 ≤ mq from (by first | assumption | omega | rfl | exact Or.inl (by assumption) | exact Or.inr (by assumption))), (show 1 ≤ k2_4 from (by first | assumption | omega | rfl | exact Or.inl (by assumption) | exact Or.inr (by assumption)))⟩ dX7_countLike_42
  · have nc_6 := cv_nle (a := mq) (b := k3_4) (by omega) (by omega) c_6
    rcases Nat.decEq k3_4 j with hij | hij
    · skip
      refine lv_iload_n hx hb dX7_countLike_13 rfl (lv_at hl 1 rfl) ?_
      refine lv_aload_n hx hb dX7_countLike_14 rfl (lv_at hl 2 rfl) ?_
      refine lv_aload_n hx hb dX7_countLike_15 rfl (lv_at hl 2 rfl) ?_
      refine va_get (D := D) (ci := 7) (v := .ref ra) (C := RX7) (T := TX7) (N := 4) hx hb hts inlX7 hown hK (oneP (C := [(ra, .inl (κ 0, mq, .inl fr))]) hP hm_3) 0 rfl rfl 2 (by decide) (hts _ mw_808) (fun _ h9 => h9) rfl dX7_countLike_16 ?_
      refine lv_iload_n hx hb dX7_countLike_19 rfl (lv_at hl 0 rfl) ?_
      refine va_iald hx hb hK hP 0 0 rfl rfl (i := nI k3_4) (vp_in_nI (n := k3_4) (by omega) (by omega)) dX7_countLike_20 ?_
      refine kv (v := .int (fr k3_4)) (by rw [nI_clamp (by omega)]) ?_
      obtain ⟨n_7, hn_7, en_7⟩ := hrn k3_4 (by omega)
      refine kv (v := .int (nI n_7)) (congrArg Value.int en_7) ?_
      refine lv_iload_n hx hb dX7_countLike_21 rfl (lv_at hl 3 rfl) ?_
      refine er_V (As := [.int (nI n_7), .int (nI r9)]) (rest := [.int (nI k2_4)]) hFX hKK hE hS (c_X7_areLike l D κ κq im q S R w co ra mq ty n_7 r9 hsp (by omega) (by omega)) 2 gV_X7_75 hdV_X7_areLike rfl rfl ⟨Nat.le_of_ble_eq_true rfl, Nat.le_of_ble_eq_true rfl⟩ rfl rfl (Nat.le_of_ble_eq_true rfl) dX7_countLike_22 ⟨Nat.le_of_ble_eq_true rfl, Nat.le_of_ble_eq_true rfl⟩ hl.1 (oneP (C := [(ra, .inl (κ 0, mq, .inl fr))]) hP hm_3) 0 7 rfl rfl rfl (subP hP [] rfl) (fun r__8 hp_9 => ?_)
      replace hp_9 : ((r__8 = 1) ∨ (r__8 = 0)) := hp_9
      have ha_10 := hp_9
      clear hp_9
      rcases ha_10 with rfl | rfl
      · refine W.eq (g2 := F0 m 25 ls [.int 1, .int (nI k2_4)]) rfl ?_
        refine lv_if_eq (tgt := 32) hx hb dX7_countLike_25 (by decide) (fun c_11 => absurd c_11 (by decide)) (fun c_11 => ?_)
        refine lv_iconst (v := 1) hx hb dX7_countLike_28 (by decide) ?_
        refine lv_goto (tgt := 33) hx hb dX7_countLike_29 (by decide) ?_
        refine lv_iadd hx hb dX7_countLike_33 ?_
        refine ki (v := (nI (k2_4 + 1))) (nI_add k2_4 1) ?_
        refine lv_istore_n (lv' := [(2, .int (nI (k2_4 + 1))), (3, .int (nI k3_4)), (0, .ref q), (1, .int (nI r9))]) hx hb dX7_countLike_34 rfl hl (by decide) rfl (fun ls hl => ?_)
        refine lv_iinc (v := (nI (k3_4 + 1))) (lv' := [(3, .int (nI (k3_4 + 1))), (2, .int (nI (k2_4 + 1))), (0, .ref q), (1, .int (nI r9))]) hx hb dX7_countLike_35 hl (k := 1) rfl (nI_i k3_4) (by decide) rfl (fun ls hl => ?_)
        refine lv_goto (tgt := 4) hx hb dX7_countLike_38 (by decide) ?_
        exact ih4 _ _ (by omega) ⟨(k3_4 + 1), (k2_4 + 1), (by omega), (by omega), (fun _ => by omega), rfl, lv_sub hl [0, 1, 2, 3] rfl⟩
      · refine W.eq (g2 := F0 m 25 ls [.int 0, .int (nI k2_4)]) rfl ?_
        refine lv_if_eq (tgt := 32) hx hb dX7_countLike_25 (by decide) (fun c_12 => ?_) (fun c_12 => absurd (by decide) c_12)
        refine lv_iconst (v := 0) hx hb dX7_countLike_32 (by decide) ?_
        refine lv_iadd hx hb dX7_countLike_33 ?_
        refine ki (v := (nI (k2_4 + 0))) (nI_add k2_4 0) ?_
        refine lv_istore_n (lv' := [(2, .int (nI (k2_4 + 0))), (3, .int (nI k3_4)), (0, .ref q), (1, .int (nI r9))]) hx hb dX7_countLike_34 rfl hl (by decide) rfl (fun ls hl => ?_)
        refine lv_iinc (v := (nI (k3_4 + 1))) (lv' := [(3, .int (nI (k3_4 + 1))), (2, .int (nI (k2_4 + 0))), (0, .ref q), (1, .int (nI r9))]) hx hb dX7_countLike_35 hl (k := 1) rfl (nI_i k3_4) (by decide) rfl (fun ls hl => ?_)
        refine lv_goto (tgt := 4) hx hb dX7_countLike_38 (by decide) ?_
        exact ih4 _ _ (by omega) ⟨(k3_4 + 1), (k2_4 + 0), (by omega), (by omega), (fun _ => by omega), rfl, lv_sub hl [0, 1, 2, 3] rfl⟩
    · obtain rfl : j = k3_4 := by omega
      refine lv_iload_n hx hb dX7_countLike_13 rfl (lv_at hl 1 rfl) ?_
      refine lv_aload_n hx hb dX7_countLike_14 rfl (lv_at hl 2 rfl) ?_
      refine lv_aload_n hx hb dX7_countLike_15 rfl (lv_at hl 2 rfl) ?_
      refine va_get (D := D) (ci := 7) (v := .ref ra) (C := RX7) (T := TX7) (N := 4) hx hb hts inlX7 hown hK (oneP (C := [(ra, .inl (κ 0, mq, .inl fr))]) hP hm_3) 0 rfl rfl 2 (by decide) (hts _ mw_808) (fun _ h9 => h9) rfl dX7_countLike_16 ?_
      refine lv_iload_n hx hb dX7_countLike_19 rfl (lv_at hl 0 rfl) ?_
      refine va_iald hx hb hK hP 0 0 rfl rfl (i := nI j) (vp_in_nI (n := j) (by omega) (by omega)) dX7_countLike_20 ?_
      refine kv (v := .int (nI r9)) (by rw [nI_clamp (by omega)]; exact congrArg Value.int hfj) ?_
      refine lv_iload_n hx hb dX7_countLike_21 rfl (lv_at hl 3 rfl) ?_
      refine er_V (As := [.int (nI r9), .int (nI r9)]) (rest := [.int (nI k2_4)]) hFX hKK hE hS (c_X7_areLike_same l D κ κq im q S R w co ra mq ty r9 hsp (by omega)) 2 gV_X7_75 hdV_X7_areLike rfl rfl ⟨Nat.le_of_ble_eq_true rfl, Nat.le_of_ble_eq_true rfl⟩ rfl rfl (Nat.le_of_ble_eq_true rfl) dX7_countLike_22 ⟨Nat.le_of_ble_eq_true rfl, Nat.le_of_ble_eq_true rfl⟩ hl.1 (oneP (C := [(ra, .inl (κ 0, mq, .inl fr))]) hP hm_3) 0 7 rfl rfl rfl (subP hP [] rfl) (fun _ hp_13 => ?_)
      refine W.eq (g2 := F0 m 25 ls [.int 1, .int (nI k2_4)]) rfl ?_
      refine lv_if_eq (tgt := 32) hx hb dX7_countLike_25 (by decide) (fun c_14 => absurd c_14 (by decide)) (fun c_14 => ?_)
      refine lv_iconst (v := 1) hx hb dX7_countLike_28 (by decide) ?_
      refine lv_goto (tgt := 33) hx hb dX7_countLike_29 (by decide) ?_
      refine lv_iadd hx hb dX7_countLike_33 ?_
      refine ki (v := (nI (k2_4 + 1))) (nI_add k2_4 1) ?_
      refine lv_istore_n (lv' := [(2, .int (nI (k2_4 + 1))), (3, .int (nI j)), (0, .ref q), (1, .int (nI r9))]) hx hb dX7_countLike_34 rfl hl (by decide) rfl (fun ls hl => ?_)
      refine lv_iinc (v := (nI (j + 1))) (lv' := [(3, .int (nI (j + 1))), (2, .int (nI (k2_4 + 1))), (0, .ref q), (1, .int (nI r9))]) hx hb dX7_countLike_35 hl (k := 1) rfl (nI_i j) (by decide) rfl (fun ls hl => ?_)
      refine lv_goto (tgt := 4) hx hb dX7_countLike_38 (by decide) ?_
      exact ih4 _ _ (by omega) ⟨(j + 1), (k2_4 + 1), (by omega), (by omega), (fun _ => by omega), rfl, lv_sub hl [0, 1, 2, 3] rfl⟩
set_option maxHeartbeats 4000000 in
set_option maxRecDepth 100000 in
theorem c_X7_modeRow (l : Launch) (D : va_G) (κ : Nat → ClassId) (κq : Nat → Nat) (im : va_W) (q : Nat) (S : Nat) (R : Nat) (w : Nat) (co : Nat) (ra : Nat) (mq : Nat) (ty : Nat) (hsp : Sp κ im q S R w co ra mq ty) : Er l yX7_modeRow (wl yX7_modeRow cX7_modeRow 5 (some .int)) { frames := 5, cells := 0, slots := 0, locals := 111 } D κ κq [.ref q] ([] ++ im) (fun r : Int32 => some (.int r)) (fun r : Int32 => (mq = 0 ∨ ∃ j : Nat, j < R ∧ r = nI j)) := by
  refine er_of (by decide +kernel) (Nat.le_of_ble_eq_true rfl) ?_
  intro p e s m args below meth c A ls hx hb hr hml hts hown hlk hKK hK hP hE hl
  have hS : va_S A s.heap s.heap [] := va_S.rf
  have hP : va_P D vwCl ([] ++ im) s.heap := hP
  have hFX : FX p s m args c cX7_modeRow 5 RX7 := ⟨hx, hb, hml, hown, hts⟩
  have hl : lv_has ls 5 [(0, .ref q)] := hl
  obtain ⟨h_1, h_2, hm_3, h_4, h_5⟩ := id hsp
  obtain ⟨hn_6, f_7, hm_8, hf_9⟩ := id h_5
  refine lv_iconst (v := (-1)) hx hb dX7_modeRow_0 (by decide) ?_
  refine lv_istore_n (lv' := [(1, .int (-1)), (0, .ref q)]) hx hb dX7_modeRow_1 rfl hl (by decide) rfl (fun ls hl => ?_)
  refine lv_iconst (v := 0) hx hb dX7_modeRow_2 (by decide) ?_
  refine lv_istore_n (lv' := [(2, .int 0), (1, .int (-1)), (0, .ref q)]) hx hb dX7_modeRow_3 rfl hl (by decide) rfl (fun ls hl => ?_)
  refine lv_iconst (v := 0) hx hb dX7_modeRow_4 (by decide) ?_
  refine lv_istore_n (lv' := [(3, .int 0), (2, .int 0), (1, .int (-1)), (0, .ref q)]) hx hb dX7_modeRow_5 rfl hl (by decide) rfl (fun ls hl => ?_)
  refine loop_r (fun k9 ls => ∃ (k3_6 : Nat), ∃ (k2_6 : Nat), ∃ (k1_6 : Int32), (k3_6 ≤ mq) ∧ ((k3_6 = 0 ∧ k2_6 = 0) ∨ ∃ j : Nat, j < R ∧ k1_6 = nI j) ∧ (k2_6 ≤ 40) ∧ mq - k3_6 = k9 ∧ lv_has ls 5 [(3, .int (nI k3_6)), (2, .int (nI k2_6)), (1, .int k1_6), (0, .ref q)]) (fun k9 ls hI6 ih6 => ?_) (mq - 0) _ ⟨0, 0, (-1), (by omega), (Or.inl ⟨rfl, rfl⟩), (by omega), rfl, lv_sub hl [0, 1, 2, 3] rfl⟩
  obtain ⟨k3_6, k2_6, k1_6, hl6_0, hl6_1, hl6_2, hm6, hl⟩ := hI6
  refine lv_iload_n hx hb dX7_modeRow_6 rfl (lv_at hl 0 rfl) ?_
  refine lv_aload_n hx hb dX7_modeRow_7 rfl (lv_at hl 3 rfl) ?_
  refine va_get (D := D) (ci := 7) (v := .ref ra) (C := RX7) (T := TX7) (N := 4) hx hb hts inlX7 hown hK (oneP (C := []) hP hm_3) 0 rfl rfl 2 (by decide) (hts _ mw_808) (fun _ h9 => h9) rfl dX7_modeRow_8 ?_
  refine va_alen hx hb hK (oneP (C := []) hP hm_8) 0 0 rfl rfl (v := nI mq) rfl dX7_modeRow_11 ?_
  refine lv_icmp_ge (tgt := 49) hx hb dX7_modeRow_12 (by decide) (fun c_10 => ?_) (fun c_10 => ?_)
  · have nc_10 := cv_le (a := mq) (b := k3_6) (by omega) (by omega) c_10
    refine lv_iload_n hx hb dX7_modeRow_49 rfl (lv_at hl 2 rfl) ?_
    exact cr_iret hx hb hr hlk rfl k1_6 rfl (show mq = 0 ∨ ∃ j : Nat, j < R ∧ k1_6 = nI j from (by rcases hl6_1 with h9 | h9; (exact Or.inl (by omega)); exact Or.inr h9)) dX7_modeRow_50
  · have nc_10 := cv_nle (a := mq) (b := k3_6) (by omega) (by omega) c_10
    refine lv_aload_n hx hb dX7_modeRow_15 rfl (lv_at hl 3 rfl) ?_
    refine lv_aload_n hx hb dX7_modeRow_16 rfl (lv_at hl 3 rfl) ?_
    refine va_get (D := D) (ci := 7) (v := .ref ra) (C := RX7) (T := TX7) (N := 4) hx hb hts inlX7 hown hK (oneP (C := []) hP hm_3) 0 rfl rfl 2 (by decide) (hts _ mw_808) (fun _ h9 => h9) rfl dX7_modeRow_17 ?_
    refine lv_iload_n hx hb dX7_modeRow_20 rfl (lv_at hl 0 rfl) ?_
    refine va_iald hx hb hK (oneP (C := []) hP hm_8) 0 0 rfl rfl (i := nI k3_6) (vp_in_nI (n := k3_6) (by omega) (by omega)) dX7_modeRow_21 ?_
    refine kv (v := .int (f_7 k3_6)) (by rw [nI_clamp (by omega)]) ?_
    obtain ⟨n_11, hn_11, en_11⟩ := hf_9 k3_6 (by omega)
    refine kv (v := .int (nI n_11)) (congrArg Value.int en_11) ?_
    refine er_V (As := [.int (nI n_11)]) (rest := []) hFX hKK hE hS (c_X7_countLike_F l D κ κq im q S R w co ra mq ty n_11 k3_6 f_7 hsp (by omega) (by omega) (by omega) hf_9 en_11) 1 gV_X7_107 hdV_X7_countLike rfl rfl ⟨Nat.le_of_ble_eq_true rfl, Nat.le_of_ble_eq_true rfl⟩ rfl rfl (Nat.le_of_ble_eq_true rfl) dX7_modeRow_22 ⟨Nat.le_of_ble_eq_true rfl, Nat.le_of_ble_eq_true rfl⟩ hl.1 (oneP (C := []) hP hm_3) 0 7 rfl rfl rfl (va_P.app (oneP (C := []) hP hm_8) (subP (C := []) (C' := []) hP [] rfl)) (fun r__12 hp_13 => ?_)
    replace hp_13 : r__12 ≤ mq ∧ 1 ≤ r__12 := hp_13
    obtain ⟨h_14, h_15⟩ := hp_13
    refine W.eq (g2 := F0 m 25 ls [.int (nI r__12)]) rfl ?_
    refine lv_istore (lv' := [(4, .int (nI r__12)), (3, .int (nI k3_6)), (2, .int (nI k2_6)), (1, .int k1_6), (0, .ref q)]) hx hb dX7_modeRow_25 hl (by decide) rfl (fun ls hl => ?_)
    refine lv_iload hx hb dX7_modeRow_27 (lv_at hl 0 rfl) ?_
    refine lv_iload_n hx hb dX7_modeRow_29 rfl (lv_at hl 2 rfl) ?_
    refine lv_icmp_le (tgt := 43) hx hb dX7_modeRow_30 (by decide) (fun c_16 => ?_) (fun c_16 => ?_)
    · have nc_16 := cv_le (a := r__12) (b := k2_6) (by omega) (by omega) c_16
      refine lv_iinc (v := (nI (k3_6 + 1))) (lv' := [(3, .int (nI (k3_6 + 1))), (4, .int (nI r__12)), (2, .int (nI k2_6)), (1, .int k1_6), (0, .ref q)]) hx hb dX7_modeRow_43 hl (k := 1) rfl (nI_i k3_6) (by decide) rfl (fun ls hl => ?_)
      refine lv_goto (tgt := 6) hx hb dX7_modeRow_46 (by decide) ?_
      exact ih6 _ _ (by omega) ⟨(k3_6 + 1), k2_6, k1_6, (by omega), (by rcases hl6_1 with h9 | h9; (exact absurd h9.2 (by omega)); exact Or.inr h9), (by omega), rfl, lv_sub hl [0, 2, 3, 4] rfl⟩
    · have nc_16 := cv_nle (a := r__12) (b := k2_6) (by omega) (by omega) c_16
      refine lv_aload_n hx hb dX7_modeRow_33 rfl (lv_at hl 4 rfl) ?_
      refine va_get (D := D) (ci := 7) (v := .ref ra) (C := RX7) (T := TX7) (N := 4) hx hb hts inlX7 hown hK (oneP (C := []) hP hm_3) 0 rfl rfl 2 (by decide) (hts _ mw_808) (fun _ h9 => h9) rfl dX7_modeRow_34 ?_
      refine lv_iload_n hx hb dX7_modeRow_37 rfl (lv_at hl 1 rfl) ?_
      refine va_iald hx hb hK (oneP (C := []) hP hm_8) 0 0 rfl rfl (i := nI k3_6) (vp_in_nI (n := k3_6) (by omega) (by omega)) dX7_modeRow_38 ?_
      refine kv (v := .int (nI n_11)) (by rw [nI_clamp (by omega)]; exact congrArg Value.int en_11) ?_
      refine lv_istore_n (lv' := [(1, .int (nI n_11)), (4, .int (nI r__12)), (3, .int (nI k3_6)), (2, .int (nI k2_6)), (0, .ref q)]) hx hb dX7_modeRow_39 rfl hl (by decide) rfl (fun ls hl => ?_)
      refine lv_iload hx hb dX7_modeRow_40 (lv_at hl 1 rfl) ?_
      refine lv_istore_n (lv' := [(2, .int (nI r__12)), (1, .int (nI n_11)), (4, .int (nI r__12)), (3, .int (nI k3_6)), (0, .ref q)]) hx hb dX7_modeRow_42 rfl hl (by decide) rfl (fun ls hl => ?_)
      refine lv_iinc (v := (nI (k3_6 + 1))) (lv' := [(3, .int (nI (k3_6 + 1))), (2, .int (nI r__12)), (1, .int (nI n_11)), (4, .int (nI r__12)), (0, .ref q)]) hx hb dX7_modeRow_43 hl (k := 3) rfl (nI_i k3_6) (by decide) rfl (fun ls hl => ?_)
      refine lv_goto (tgt := 6) hx hb dX7_modeRow_46 (by decide) ?_
      exact ih6 _ _ (by omega) ⟨(k3_6 + 1), r__12, (nI n_11), (by omega), (Or.inr ⟨_, (by omega), rfl⟩), (by omega), rfl, lv_sub hl [0, 1, 2, 4] rfl⟩
