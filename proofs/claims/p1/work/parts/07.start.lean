theorem dL_law_27 : decode cL_law 27 = .ok (.aload_n 0, 1) := by decide +kernel
theorem dL_law_28 : decode cL_law 28 = .ok (.iload_n 3, 1) := by decide +kernel
theorem dL_law_29 : decode cL_law 29 = .ok (.iaload, 1) := by decide +kernel
theorem dL_law_30 : decode cL_law 30 = .ok (.bipush 63, 2) := by decide +kernel
theorem dL_law_32 : decode cL_law 32 = .ok (.iand, 1) := by decide +kernel
theorem dL_law_33 : decode cL_law 33 = .ok (.tableswitch 1589 0 36 #[163, 196, 259, 282, 305, 328, 371, 394, 427, 460, 493, 536, 599, 612, 655, 714, 757, 790, 813, 846, 879, 922, 965, 988, 1041, 1084, 1137, 1190, 1234, 1287, 1331, 1395, 1448, 1481, 1504, 1527, 1566], 163) := by decide +kernel
theorem dL_law_0 : decode cL_law 0 = .ok (.new 7, 3) := by decide +kernel
theorem mw_0 : Cond.classLink RL 7 RX11 ∈ wsL_law := List.mem_of_getElem? (i := 0) (by decide +kernel)
theorem dL_law_3 : decode cL_law 3 = .ok (.dup, 1) := by decide +kernel
theorem dL_law_4 : decode cL_law 4 = .ok (.invokespecial 9, 3) := by decide +kernel
theorem hdI_X11_init : yX11_init.name = "<init>" ∧ okD yX11_init 0 := by decide +kernel
theorem mw_6 : Cond.methodLink RL 9 yX11_init ∈ wsL_law := List.mem_of_getElem? (i := 6) (by decide +kernel)
theorem mw_7 : Cond.instanceMethod yX11_init ∈ wsL_law := List.mem_of_getElem? (i := 7) (by decide +kernel)
theorem dL_law_7 : decode cL_law 7 = .ok (.astore_n 1, 1) := by decide +kernel
theorem dL_law_8 : decode cL_law 8 = .ok (.new 10, 3) := by decide +kernel
theorem mw_3 : Cond.classLink RL 10 RX12 ∈ wsL_law := List.mem_of_getElem? (i := 3) (by decide +kernel)
theorem dL_law_11 : decode cL_law 11 = .ok (.dup, 1) := by decide +kernel
theorem dL_law_12 : decode cL_law 12 = .ok (.invokespecial 12, 3) := by decide +kernel
theorem hdI_X12_init : yX12_init.name = "<init>" ∧ okD yX12_init 0 := by decide +kernel
theorem mw_183 : Cond.methodLink RL 12 yX12_init ∈ wsL_law := List.mem_of_getElem? (i := 183) (by decide +kernel)
theorem mw_184 : Cond.instanceMethod yX12_init ∈ wsL_law := List.mem_of_getElem? (i := 184) (by decide +kernel)
theorem dL_law_15 : decode cL_law 15 = .ok (.astore_n 2, 1) := by decide +kernel
theorem dL_law_16 : decode cL_law 16 = .ok (.iconst 0, 1) := by decide +kernel
theorem dL_law_17 : decode cL_law 17 = .ok (.istore_n 3, 1) := by decide +kernel
set_option maxHeartbeats 4000000 in
set_option maxRecDepth 100000 in
theorem law_head {p : Program} {l : Launch} {e : Env} {s : State} {m : MethodId} {below : List Frame} {meth : Method} {c : Code} {D : va_G} {κ : Nat → ClassId} {b L : Nat} {xs : Nat → Int32} (hL : L ≤ 6) (C0 : lw_At p s m meth c b L xs) (hKK : KK D κ s) {A : Nat → Prop} (hA : ∀ q : Nat, s.heap.size ≤ q → A q) (hAq : ∀ q : Nat, A q → s.heap.size ≤ q) (x0 n0 t0 f0 r0 w0 k0 n1 n2 n3 n4 n5 t1 b0 r1 r2 r3 r4 b1 w1 k1 k2 k3 k4 k5 m0 a0 a1 a2 a5 a14 a15 a16 a17 a20 a21 a23 a24 a25 a28 : Nat) {H : Heap} {locs : List Loc} {ls : Array Slot} (hP : va_P D vwCl [(x0, .inr (11, [.ref n0, .ref t0, .ref f0, .ref r0, .ref w0, .ref k0, .int 0])), (n0, .inr (6, [.ref n1, .ref n2, .ref n3, .ref n4, .ref n5, .int 0])), (n1, .inl (κ 0, 6, .inl dial0)), (n2, .inl (κ 4, 3, .inr (.inr (.inr (.inr (fun _ => none)))))), (n3, .inl (κ 5, 3, .inr (.inr (.inr (.inr (fun _ => none)))))), (n4, .inl (κ 0, 6, .inl (fun _ => 0))), (n5, .inl (κ 4, 6, .inr (.inr (.inr (.inr (fun _ => none)))))), (t0, .inr (8, [.ref t1, .int 0])), (t1, .inl (κ 0, 800, .inl (fun _ => 0))), (f0, .inr (2, [.int 0, .int (-1), .int (-1), .int (-1), .int (-1), .int 0])), (r0, .inr (4, [.ref t0, .ref n1, .ref f0, .ref b0, .int 0, .int (-1), .ref r1, .int 0, .ref r2, .ref r3, .int 0, .null, .ref r4, .int 0])), (b0, .inr (0, [.ref b1, .int 0, .long 0])), (b1, .inl (κ 1, 0, .inl (fun _ => 0))), (r1, .inl (κ 1, 20, .inl (fun _ => 0))), (r2, .inl (κ 2, 8, .inr (.inr (.inr (.inr (fun _ => none)))))), (r3, .inl (κ 0, 8, .inl (fun _ => 0))), (r4, .inl (κ 2, 320, .inr (.inr (.inr (.inr (fun _ => none)))))), (w0, .inr (10, [.ref n1, .ref w1, .int 0])), (w1, .inl (κ 1, 6000, .inl (fun _ => 0))), (k0, .inr (6, [.ref k1, .ref k2, .ref k3, .ref k4, .ref k5, .int 0])), (k1, .inl (κ 0, 6, .inl dial0)), (k2, .inl (κ 4, 3, .inr (.inr (.inr (.inr (fun _ => none)))))), (k3, .inl (κ 5, 3, .inr (.inr (.inr (.inr (fun _ => none)))))), (k4, .inl (κ 0, 6, .inl (fun _ => 0))), (k5, .inl (κ 4, 6, .inr (.inr (.inr (.inr (fun _ => none)))))), (m0, .inr (12, [.ref a0, .ref a1, .ref a2, .int 0, .int 0, .ref a5, .int 0, .int 0, .int (-1), .int (-1), .int 0, .int 0, .int 0, .int 0, .ref a14, .ref a15, .ref a16, .ref a17, .int 0, .int 0, .ref a20, .ref a21, .int 0, .ref a23, .ref a24, .ref a25, .int 0, .int 0, .ref a28, .int 0])), (a0, .inl (κ 0, 21375, .inl wf0)), (a1, .inl (κ 0, 21375, .inl (fun _ => 0))), (a2, .inl (κ 0, 128214, .inl (fun _ => 0))), (a5, .inl (κ 0, 800, .inl (fun _ => 0))), (a14, .inl (κ 0, 189, .inl (fun _ => 0))), (a15, .inl (κ 0, 9, .inl (fun _ => 0))), (a16, .inl (κ 0, 9, .inl (fun _ => 0))), (a17, .inl (κ 0, 7123, .inl (fun _ => 0))), (a20, .inl (κ 0, 801, .inl (fun _ => 0))), (a21, .inl (κ 0, 40, .inl (fun _ => 0))), (a23, .inl (κ 0, 40, .inl (fun _ => 0))), (a24, .inl (κ 0, 40, .inl (fun _ => 0))), (a25, .inl (κ 0, 6000, .inl (fun _ => 0))), (a28, .inl (κ 0, 400, .inl (fun _ => 0)))] H) (hD : va_D A [(x0, .inr (11, [.ref n0, .ref t0, .ref f0, .ref r0, .ref w0, .ref k0, .int 0])), (n0, .inr (6, [.ref n1, .ref n2, .ref n3, .ref n4, .ref n5, .int 0])), (n1, .inl (κ 0, 6, .inl dial0)), (n2, .inl (κ 4, 3, .inr (.inr (.inr (.inr (fun _ => none)))))), (n3, .inl (κ 5, 3, .inr (.inr (.inr (.inr (fun _ => none)))))), (n4, .inl (κ 0, 6, .inl (fun _ => 0))), (n5, .inl (κ 4, 6, .inr (.inr (.inr (.inr (fun _ => none)))))), (t0, .inr (8, [.ref t1, .int 0])), (t1, .inl (κ 0, 800, .inl (fun _ => 0))), (f0, .inr (2, [.int 0, .int (-1), .int (-1), .int (-1), .int (-1), .int 0])), (r0, .inr (4, [.ref t0, .ref n1, .ref f0, .ref b0, .int 0, .int (-1), .ref r1, .int 0, .ref r2, .ref r3, .int 0, .null, .ref r4, .int 0])), (b0, .inr (0, [.ref b1, .int 0, .long 0])), (b1, .inl (κ 1, 0, .inl (fun _ => 0))), (r1, .inl (κ 1, 20, .inl (fun _ => 0))), (r2, .inl (κ 2, 8, .inr (.inr (.inr (.inr (fun _ => none)))))), (r3, .inl (κ 0, 8, .inl (fun _ => 0))), (r4, .inl (κ 2, 320, .inr (.inr (.inr (.inr (fun _ => none)))))), (w0, .inr (10, [.ref n1, .ref w1, .int 0])), (w1, .inl (κ 1, 6000, .inl (fun _ => 0))), (k0, .inr (6, [.ref k1, .ref k2, .ref k3, .ref k4, .ref k5, .int 0])), (k1, .inl (κ 0, 6, .inl dial0)), (k2, .inl (κ 4, 3, .inr (.inr (.inr (.inr (fun _ => none)))))), (k3, .inl (κ 5, 3, .inr (.inr (.inr (.inr (fun _ => none)))))), (k4, .inl (κ 0, 6, .inl (fun _ => 0))), (k5, .inl (κ 4, 6, .inr (.inr (.inr (.inr (fun _ => none)))))), (m0, .inr (12, [.ref a0, .ref a1, .ref a2, .int 0, .int 0, .ref a5, .int 0, .int 0, .int (-1), .int (-1), .int 0, .int 0, .int 0, .int 0, .ref a14, .ref a15, .ref a16, .ref a17, .int 0, .int 0, .ref a20, .ref a21, .int 0, .ref a23, .ref a24, .ref a25, .int 0, .int 0, .ref a28, .int 0])), (a0, .inl (κ 0, 21375, .inl wf0)), (a1, .inl (κ 0, 21375, .inl (fun _ => 0))), (a2, .inl (κ 0, 128214, .inl (fun _ => 0))), (a5, .inl (κ 0, 800, .inl (fun _ => 0))), (a14, .inl (κ 0, 189, .inl (fun _ => 0))), (a15, .inl (κ 0, 9, .inl (fun _ => 0))), (a16, .inl (κ 0, 9, .inl (fun _ => 0))), (a17, .inl (κ 0, 7123, .inl (fun _ => 0))), (a20, .inl (κ 0, 801, .inl (fun _ => 0))), (a21, .inl (κ 0, 40, .inl (fun _ => 0))), (a23, .inl (κ 0, 40, .inl (fun _ => 0))), (a24, .inl (κ 0, 40, .inl (fun _ => 0))), (a25, .inl (κ 0, 6000, .inl (fun _ => 0))), (a28, .inl (κ 0, 400, .inl (fun _ => 0)))]) (hS : va_S A s.heap H locs) (hl : lv_has ls 4 [(3, .int 0), (2, .ref m0), (1, .ref x0), (0, .ref b)]) : W p l e room_1 s m #[Value.ref b] below meth c H locs 40 193696 (lw_Z below #[Value.ref b] s) (F0 m 18 ls []) := by
  obtain ⟨hx, hb0, hr, hml, hown, hts0, hX, hbl, hlk, hgv⟩ := id C0
  have hb : c.code = cL_law := hb0
  have hbA : ¬ A b := fun h => absurd (hAq b h) (Nat.not_le.mpr hbl)
  rcases (show L = 0 ∨ L = 1 ∨ L = 2 ∨ L = 3 ∨ L = 4 ∨ L = 5 ∨ L = 6 by omega) with rfl | rfl | rfl | rfl | rfl | rfl | rfl
  · refine lv_iload_n hx hb dL_law_18 rfl (lv_at hl 0 rfl) ?_
    refine lv_aload_n hx hb dL_law_19 rfl (lv_at hl 3 rfl) ?_
    refine va_slen hx hb hX hbl hbA hS dL_law_20 ?_
    refine ki (v := 0) (by decide) ?_
    refine lv_bipush (v := 6) hx hb dL_law_21 (by decide) ?_
    refine lv_isub hx hb dL_law_23 ?_
    refine ki (v := (-6)) (by decide) ?_
    refine lv_icmp_gt (tgt := 1628) hx hb dL_law_24 (by decide) (fun c_1 => ?_) (fun c_1 => absurd (by decide) c_1)
    refine lv_iconst (v := 1) hx hb dL_law_1628 (by decide) ?_
    refine va_forget (fun q hq => hAq _ (hS.2.2 q hq)) ?_
    refine W.widen (k := 600000) (n := 7302250) (Nat.le_of_ble_eq_true rfl) (Nat.le_of_ble_eq_true rfl) ?_
    exact lw_ret hx hb0 hr hlk dL_law_1629
  · refine lv_iload_n hx hb dL_law_18 rfl (lv_at hl 0 rfl) ?_
    refine lv_aload_n hx hb dL_law_19 rfl (lv_at hl 3 rfl) ?_
    refine va_slen hx hb hX hbl hbA hS dL_law_20 ?_
    refine ki (v := 1) (by decide) ?_
    refine lv_bipush (v := 6) hx hb dL_law_21 (by decide) ?_
    refine lv_isub hx hb dL_law_23 ?_
    refine ki (v := (-5)) (by decide) ?_
    refine lv_icmp_gt (tgt := 1628) hx hb dL_law_24 (by decide) (fun c_2 => ?_) (fun c_2 => absurd (by decide) c_2)
    refine lv_iconst (v := 1) hx hb dL_law_1628 (by decide) ?_
    refine va_forget (fun q hq => hAq _ (hS.2.2 q hq)) ?_
    refine W.widen (k := 600000) (n := 7302250) (Nat.le_of_ble_eq_true rfl) (Nat.le_of_ble_eq_true rfl) ?_
    exact lw_ret hx hb0 hr hlk dL_law_1629
  · refine lv_iload_n hx hb dL_law_18 rfl (lv_at hl 0 rfl) ?_
    refine lv_aload_n hx hb dL_law_19 rfl (lv_at hl 3 rfl) ?_
    refine va_slen hx hb hX hbl hbA hS dL_law_20 ?_
    refine ki (v := 2) (by decide) ?_
    refine lv_bipush (v := 6) hx hb dL_law_21 (by decide) ?_
    refine lv_isub hx hb dL_law_23 ?_
    refine ki (v := (-4)) (by decide) ?_
    refine lv_icmp_gt (tgt := 1628) hx hb dL_law_24 (by decide) (fun c_3 => ?_) (fun c_3 => absurd (by decide) c_3)
    refine lv_iconst (v := 1) hx hb dL_law_1628 (by decide) ?_
    refine va_forget (fun q hq => hAq _ (hS.2.2 q hq)) ?_
    refine W.widen (k := 600000) (n := 7302250) (Nat.le_of_ble_eq_true rfl) (Nat.le_of_ble_eq_true rfl) ?_
    exact lw_ret hx hb0 hr hlk dL_law_1629
  · refine lv_iload_n hx hb dL_law_18 rfl (lv_at hl 0 rfl) ?_
    refine lv_aload_n hx hb dL_law_19 rfl (lv_at hl 3 rfl) ?_
    refine va_slen hx hb hX hbl hbA hS dL_law_20 ?_
    refine ki (v := 3) (by decide) ?_
    refine lv_bipush (v := 6) hx hb dL_law_21 (by decide) ?_
    refine lv_isub hx hb dL_law_23 ?_
    refine ki (v := (-3)) (by decide) ?_
    refine lv_icmp_gt (tgt := 1628) hx hb dL_law_24 (by decide) (fun c_4 => ?_) (fun c_4 => absurd (by decide) c_4)
    refine lv_iconst (v := 1) hx hb dL_law_1628 (by decide) ?_
    refine va_forget (fun q hq => hAq _ (hS.2.2 q hq)) ?_
    refine W.widen (k := 600000) (n := 7302250) (Nat.le_of_ble_eq_true rfl) (Nat.le_of_ble_eq_true rfl) ?_
    exact lw_ret hx hb0 hr hlk dL_law_1629
  · refine lv_iload_n hx hb dL_law_18 rfl (lv_at hl 0 rfl) ?_
    refine lv_aload_n hx hb dL_law_19 rfl (lv_at hl 3 rfl) ?_
    refine va_slen hx hb hX hbl hbA hS dL_law_20 ?_
    refine ki (v := 4) (by decide) ?_
    refine lv_bipush (v := 6) hx hb dL_law_21 (by decide) ?_
    refine lv_isub hx hb dL_law_23 ?_
    refine ki (v := (-2)) (by decide) ?_
    refine lv_icmp_gt (tgt := 1628) hx hb dL_law_24 (by decide) (fun c_5 => ?_) (fun c_5 => absurd (by decide) c_5)
    refine lv_iconst (v := 1) hx hb dL_law_1628 (by decide) ?_
    refine va_forget (fun q hq => hAq _ (hS.2.2 q hq)) ?_
    refine W.widen (k := 600000) (n := 7302250) (Nat.le_of_ble_eq_true rfl) (Nat.le_of_ble_eq_true rfl) ?_
    exact lw_ret hx hb0 hr hlk dL_law_1629
  · refine lv_iload_n hx hb dL_law_18 rfl (lv_at hl 0 rfl) ?_
    refine lv_aload_n hx hb dL_law_19 rfl (lv_at hl 3 rfl) ?_
    refine va_slen hx hb hX hbl hbA hS dL_law_20 ?_
    refine ki (v := 5) (by decide) ?_
    refine lv_bipush (v := 6) hx hb dL_law_21 (by decide) ?_
    refine lv_isub hx hb dL_law_23 ?_
    refine ki (v := (-1)) (by decide) ?_
    refine lv_icmp_gt (tgt := 1628) hx hb dL_law_24 (by decide) (fun c_6 => ?_) (fun c_6 => absurd (by decide) c_6)
    refine lv_iconst (v := 1) hx hb dL_law_1628 (by decide) ?_
    refine va_forget (fun q hq => hAq _ (hS.2.2 q hq)) ?_
    refine W.widen (k := 600000) (n := 7302250) (Nat.le_of_ble_eq_true rfl) (Nat.le_of_ble_eq_true rfl) ?_
    exact lw_ret hx hb0 hr hlk dL_law_1629
  · refine lv_iload_n hx hb dL_law_18 rfl (lv_at hl 0 rfl) ?_
    refine lv_aload_n hx hb dL_law_19 rfl (lv_at hl 3 rfl) ?_
    refine va_slen hx hb hX hbl hbA hS dL_law_20 ?_
    refine ki (v := 6) (by decide) ?_
    refine lv_bipush (v := 6) hx hb dL_law_21 (by decide) ?_
    refine lv_isub hx hb dL_law_23 ?_
    refine ki (v := 0) (by decide) ?_
    refine lv_icmp_gt (tgt := 1628) hx hb dL_law_24 (by decide) (fun c_7 => absurd c_7 (by decide)) (fun c_7 => ?_)
    refine lv_aload_n hx hb dL_law_27 rfl (lv_at hl 3 rfl) ?_
    refine lv_iload_n hx hb dL_law_28 rfl (lv_at hl 0 rfl) ?_
    refine va_sld hx hb hX hbl hbA hS (i := 0) (vp_k (by decide)) dL_law_29 ?_
    refine kv (v := .int (xs 0)) rfl ?_
    refine lv_bipush (v := 63) hx hb dL_law_30 (by decide) ?_
    refine lv_iand hx hb dL_law_32 ?_
    refine lv_topi (fun x_8 ex_8 => ?_)
    rcases Classical.em (x_8.toInt < 0 ∨ 36 < x_8.toInt) with c_9 | c_9
    · refine lv_tableOut (tgt := 1622) hx hb dL_law_33 c_9 (by decide) ?_
      exact law_tail C0 hA hAq hS hl (Nat.le_of_ble_eq_true rfl) (Nat.le_of_ble_eq_true rfl)
    · have e_10 : x_8 = 0 ∨ x_8 = 1 ∨ x_8 = 2 ∨ x_8 = 3 ∨ x_8 = 4 ∨ x_8 = 5 ∨ x_8 = 6 ∨ x_8 = 7 ∨ x_8 = 8 ∨ x_8 = 9 ∨ x_8 = 10 ∨ x_8 = 11 ∨ x_8 = 12 ∨ x_8 = 13 ∨ x_8 = 14 ∨ x_8 = 15 ∨ x_8 = 16 ∨ x_8 = 17 ∨ x_8 = 18 ∨ x_8 = 19 ∨ x_8 = 20 ∨ x_8 = 21 ∨ x_8 = 22 ∨ x_8 = 23 ∨ x_8 = 24 ∨ x_8 = 25 ∨ x_8 = 26 ∨ x_8 = 27 ∨ x_8 = 28 ∨ x_8 = 29 ∨ x_8 = 30 ∨ x_8 = 31 ∨ x_8 = 32 ∨ x_8 = 33 ∨ x_8 = 34 ∨ x_8 = 35 ∨ x_8 = 36 := by
        have q1 : ¬ x_8.toInt < 0 := fun h => c_9 (Or.inl h)
        have q2 : ¬ 36 < x_8.toInt := fun h => c_9 (Or.inr h)
        have q3 : ∀ v : Int32, x_8.toInt = v.toInt → x_8 = v := fun v h => Int32.toInt_inj.mp h
        rcases (show x_8.toInt = 0 ∨ x_8.toInt = 1 ∨ x_8.toInt = 2 ∨ x_8.toInt = 3 ∨ x_8.toInt = 4 ∨ x_8.toInt = 5 ∨ x_8.toInt = 6 ∨ x_8.toInt = 7 ∨ x_8.toInt = 8 ∨ x_8.toInt = 9 ∨ x_8.toInt = 10 ∨ x_8.toInt = 11 ∨ x_8.toInt = 12 ∨ x_8.toInt = 13 ∨ x_8.toInt = 14 ∨ x_8.toInt = 15 ∨ x_8.toInt = 16 ∨ x_8.toInt = 17 ∨ x_8.toInt = 18 ∨ x_8.toInt = 19 ∨ x_8.toInt = 20 ∨ x_8.toInt = 21 ∨ x_8.toInt = 22 ∨ x_8.toInt = 23 ∨ x_8.toInt = 24 ∨ x_8.toInt = 25 ∨ x_8.toInt = 26 ∨ x_8.toInt = 27 ∨ x_8.toInt = 28 ∨ x_8.toInt = 29 ∨ x_8.toInt = 30 ∨ x_8.toInt = 31 ∨ x_8.toInt = 32 ∨ x_8.toInt = 33 ∨ x_8.toInt = 34 ∨ x_8.toInt = 35 ∨ x_8.toInt = 36 by omega) with h | h | h | h | h | h | h | h | h | h | h | h | h | h | h | h | h | h | h | h | h | h | h | h | h | h | h | h | h | h | h | h | h | h | h | h | h
        · exact Or.inl (q3 0 (h.trans (by decide)))
        · exact Or.inr (Or.inl (q3 1 (h.trans (by decide))))
        · exact Or.inr (Or.inr (Or.inl (q3 2 (h.trans (by decide)))))
        · exact Or.inr (Or.inr (Or.inr (Or.inl (q3 3 (h.trans (by decide))))))
        · exact Or.inr (Or.inr (Or.inr (Or.inr (Or.inl (q3 4 (h.trans (by decide)))))))
        · exact Or.inr (Or.inr (Or.inr (Or.inr (Or.inr (Or.inl (q3 5 (h.trans (by decide))))))))
        · exact Or.inr (Or.inr (Or.inr (Or.inr (Or.inr (Or.inr (Or.inl (q3 6 (h.trans (by decide)))))))))
        · exact Or.inr (Or.inr (Or.inr (Or.inr (Or.inr (Or.inr (Or.inr (Or.inl (q3 7 (h.trans (by decide))))))))))
        · exact Or.inr (Or.inr (Or.inr (Or.inr (Or.inr (Or.inr (Or.inr (Or.inr (Or.inl (q3 8 (h.trans (by decide)))))))))))
        · exact Or.inr (Or.inr (Or.inr (Or.inr (Or.inr (Or.inr (Or.inr (Or.inr (Or.inr (Or.inl (q3 9 (h.trans (by decide))))))))))))
        · exact Or.inr (Or.inr (Or.inr (Or.inr (Or.inr (Or.inr (Or.inr (Or.inr (Or.inr (Or.inr (Or.inl (q3 10 (h.trans (by decide)))))))))))))
        · exact Or.inr (Or.inr (Or.inr (Or.inr (Or.inr (Or.inr (Or.inr (Or.inr (Or.inr (Or.inr (Or.inr (Or.inl (q3 11 (h.trans (by decide))))))))))))))
        · exact Or.inr (Or.inr (Or.inr (Or.inr (Or.inr (Or.inr (Or.inr (Or.inr (Or.inr (Or.inr (Or.inr (Or.inr (Or.inl (q3 12 (h.trans (by decide)))))))))))))))
        · exact Or.inr (Or.inr (Or.inr (Or.inr (Or.inr (Or.inr (Or.inr (Or.inr (Or.inr (Or.inr (Or.inr (Or.inr (Or.inr (Or.inl (q3 13 (h.trans (by decide))))))))))))))))
        · exact Or.inr (Or.inr (Or.inr (Or.inr (Or.inr (Or.inr (Or.inr (Or.inr (Or.inr (Or.inr (Or.inr (Or.inr (Or.inr (Or.inr (Or.inl (q3 14 (h.trans (by decide)))))))))))))))))
        · exact Or.inr (Or.inr (Or.inr (Or.inr (Or.inr (Or.inr (Or.inr (Or.inr (Or.inr (Or.inr (Or.inr (Or.inr (Or.inr (Or.inr (Or.inr (Or.inl (q3 15 (h.trans (by decide))))))))))))))))))
        · exact Or.inr (Or.inr (Or.inr (Or.inr (Or.inr (Or.inr (Or.inr (Or.inr (Or.inr (Or.inr (Or.inr (Or.inr (Or.inr (Or.inr (Or.inr (Or.inr (Or.inl (q3 16 (h.trans (by decide)))))))))))))))))))
        · exact Or.inr (Or.inr (Or.inr (Or.inr (Or.inr (Or.inr (Or.inr (Or.inr (Or.inr (Or.inr (Or.inr (Or.inr (Or.inr (Or.inr (Or.inr (Or.inr (Or.inr (Or.inl (q3 17 (h.trans (by decide))))))))))))))))))))
        · exact Or.inr (Or.inr (Or.inr (Or.inr (Or.inr (Or.inr (Or.inr (Or.inr (Or.inr (Or.inr (Or.inr (Or.inr (Or.inr (Or.inr (Or.inr (Or.inr (Or.inr (Or.inr (Or.inl (q3 18 (h.trans (by decide)))))))))))))))))))))
        · exact Or.inr (Or.inr (Or.inr (Or.inr (Or.inr (Or.inr (Or.inr (Or.inr (Or.inr (Or.inr (Or.inr (Or.inr (Or.inr (Or.inr (Or.inr (Or.inr (Or.inr (Or.inr (Or.inr (Or.inl (q3 19 (h.trans (by decide))))))))))))))))))))))
        · exact Or.inr (Or.inr (Or.inr (Or.inr (Or.inr (Or.inr (Or.inr (Or.inr (Or.inr (Or.inr (Or.inr (Or.inr (Or.inr (Or.inr (Or.inr (Or.inr (Or.inr (Or.inr (Or.inr (Or.inr (Or.inl (q3 20 (h.trans (by decide)))))))))))))))))))))))
        · exact Or.inr (Or.inr (Or.inr (Or.inr (Or.inr (Or.inr (Or.inr (Or.inr (Or.inr (Or.inr (Or.inr (Or.inr (Or.inr (Or.inr (Or.inr (Or.inr (Or.inr (Or.inr (Or.inr (Or.inr (Or.inr (Or.inl (q3 21 (h.trans (by decide))))))))))))))))))))))))
        · exact Or.inr (Or.inr (Or.inr (Or.inr (Or.inr (Or.inr (Or.inr (Or.inr (Or.inr (Or.inr (Or.inr (Or.inr (Or.inr (Or.inr (Or.inr (Or.inr (Or.inr (Or.inr (Or.inr (Or.inr (Or.inr (Or.inr (Or.inl (q3 22 (h.trans (by decide)))))))))))))))))))))))))
        · exact Or.inr (Or.inr (Or.inr (Or.inr (Or.inr (Or.inr (Or.inr (Or.inr (Or.inr (Or.inr (Or.inr (Or.inr (Or.inr (Or.inr (Or.inr (Or.inr (Or.inr (Or.inr (Or.inr (Or.inr (Or.inr (Or.inr (Or.inr (Or.inl (q3 23 (h.trans (by decide))))))))))))))))))))))))))
        · exact Or.inr (Or.inr (Or.inr (Or.inr (Or.inr (Or.inr (Or.inr (Or.inr (Or.inr (Or.inr (Or.inr (Or.inr (Or.inr (Or.inr (Or.inr (Or.inr (Or.inr (Or.inr (Or.inr (Or.inr (Or.inr (Or.inr (Or.inr (Or.inr (Or.inl (q3 24 (h.trans (by decide)))))))))))))))))))))))))))
        · exact Or.inr (Or.inr (Or.inr (Or.inr (Or.inr (Or.inr (Or.inr (Or.inr (Or.inr (Or.inr (Or.inr (Or.inr (Or.inr (Or.inr (Or.inr (Or.inr (Or.inr (Or.inr (Or.inr (Or.inr (Or.inr (Or.inr (Or.inr (Or.inr (Or.inr (Or.inl (q3 25 (h.trans (by decide))))))))))))))))))))))))))))
        · exact Or.inr (Or.inr (Or.inr (Or.inr (Or.inr (Or.inr (Or.inr (Or.inr (Or.inr (Or.inr (Or.inr (Or.inr (Or.inr (Or.inr (Or.inr (Or.inr (Or.inr (Or.inr (Or.inr (Or.inr (Or.inr (Or.inr (Or.inr (Or.inr (Or.inr (Or.inr (Or.inl (q3 26 (h.trans (by decide)))))))))))))))))))))))))))))
        · exact Or.inr (Or.inr (Or.inr (Or.inr (Or.inr (Or.inr (Or.inr (Or.inr (Or.inr (Or.inr (Or.inr (Or.inr (Or.inr (Or.inr (Or.inr (Or.inr (Or.inr (Or.inr (Or.inr (Or.inr (Or.inr (Or.inr (Or.inr (Or.inr (Or.inr (Or.inr (Or.inr (Or.inl (q3 27 (h.trans (by decide))))))))))))))))))))))))))))))
        · exact Or.inr (Or.inr (Or.inr (Or.inr (Or.inr (Or.inr (Or.inr (Or.inr (Or.inr (Or.inr (Or.inr (Or.inr (Or.inr (Or.inr (Or.inr (Or.inr (Or.inr (Or.inr (Or.inr (Or.inr (Or.inr (Or.inr (Or.inr (Or.inr (Or.inr (Or.inr (Or.inr (Or.inr (Or.inl (q3 28 (h.trans (by decide)))))))))))))))))))))))))))))))
        · exact Or.inr (Or.inr (Or.inr (Or.inr (Or.inr (Or.inr (Or.inr (Or.inr (Or.inr (Or.inr (Or.inr (Or.inr (Or.inr (Or.inr (Or.inr (Or.inr (Or.inr (Or.inr (Or.inr (Or.inr (Or.inr (Or.inr (Or.inr (Or.inr (Or.inr (Or.inr (Or.inr (Or.inr (Or.inr (Or.inl (q3 29 (h.trans (by decide))))))))))))))))))))))))))))))))
        · exact Or.inr (Or.inr (Or.inr (Or.inr (Or.inr (Or.inr (Or.inr (Or.inr (Or.inr (Or.inr (Or.inr (Or.inr (Or.inr (Or.inr (Or.inr (Or.inr (Or.inr (Or.inr (Or.inr (Or.inr (Or.inr (Or.inr (Or.inr (Or.inr (Or.inr (Or.inr (Or.inr (Or.inr (Or.inr (Or.inr (Or.inl (q3 30 (h.trans (by decide)))))))))))))))))))))))))))))))))
        · exact Or.inr (Or.inr (Or.inr (Or.inr (Or.inr (Or.inr (Or.inr (Or.inr (Or.inr (Or.inr (Or.inr (Or.inr (Or.inr (Or.inr (Or.inr (Or.inr (Or.inr (Or.inr (Or.inr (Or.inr (Or.inr (Or.inr (Or.inr (Or.inr (Or.inr (Or.inr (Or.inr (Or.inr (Or.inr (Or.inr (Or.inr (Or.inl (q3 31 (h.trans (by decide))))))))))))))))))))))))))))))))))
        · exact Or.inr (Or.inr (Or.inr (Or.inr (Or.inr (Or.inr (Or.inr (Or.inr (Or.inr (Or.inr (Or.inr (Or.inr (Or.inr (Or.inr (Or.inr (Or.inr (Or.inr (Or.inr (Or.inr (Or.inr (Or.inr (Or.inr (Or.inr (Or.inr (Or.inr (Or.inr (Or.inr (Or.inr (Or.inr (Or.inr (Or.inr (Or.inr (Or.inl (q3 32 (h.trans (by decide)))))))))))))))))))))))))))))))))))
        · exact Or.inr (Or.inr (Or.inr (Or.inr (Or.inr (Or.inr (Or.inr (Or.inr (Or.inr (Or.inr (Or.inr (Or.inr (Or.inr (Or.inr (Or.inr (Or.inr (Or.inr (Or.inr (Or.inr (Or.inr (Or.inr (Or.inr (Or.inr (Or.inr (Or.inr (Or.inr (Or.inr (Or.inr (Or.inr (Or.inr (Or.inr (Or.inr (Or.inr (Or.inl (q3 33 (h.trans (by decide))))))))))))))))))))))))))))))))))))
        · exact Or.inr (Or.inr (Or.inr (Or.inr (Or.inr (Or.inr (Or.inr (Or.inr (Or.inr (Or.inr (Or.inr (Or.inr (Or.inr (Or.inr (Or.inr (Or.inr (Or.inr (Or.inr (Or.inr (Or.inr (Or.inr (Or.inr (Or.inr (Or.inr (Or.inr (Or.inr (Or.inr (Or.inr (Or.inr (Or.inr (Or.inr (Or.inr (Or.inr (Or.inr (Or.inl (q3 34 (h.trans (by decide)))))))))))))))))))))))))))))))))))))
        · exact Or.inr (Or.inr (Or.inr (Or.inr (Or.inr (Or.inr (Or.inr (Or.inr (Or.inr (Or.inr (Or.inr (Or.inr (Or.inr (Or.inr (Or.inr (Or.inr (Or.inr (Or.inr (Or.inr (Or.inr (Or.inr (Or.inr (Or.inr (Or.inr (Or.inr (Or.inr (Or.inr (Or.inr (Or.inr (Or.inr (Or.inr (Or.inr (Or.inr (Or.inr (Or.inr (Or.inl (q3 35 (h.trans (by decide))))))))))))))))))))))))))))))))))))))
        · exact Or.inr (Or.inr (Or.inr (Or.inr (Or.inr (Or.inr (Or.inr (Or.inr (Or.inr (Or.inr (Or.inr (Or.inr (Or.inr (Or.inr (Or.inr (Or.inr (Or.inr (Or.inr (Or.inr (Or.inr (Or.inr (Or.inr (Or.inr (Or.inr (Or.inr (Or.inr (Or.inr (Or.inr (Or.inr (Or.inr (Or.inr (Or.inr (Or.inr (Or.inr (Or.inr (Or.inr ((q3 36 (h.trans (by decide)))))))))))))))))))))))))))))))))))))))
      rcases e_10 with e_10 | e_10 | e_10 | e_10 | e_10 | e_10 | e_10 | e_10 | e_10 | e_10 | e_10 | e_10 | e_10 | e_10 | e_10 | e_10 | e_10 | e_10 | e_10 | e_10 | e_10 | e_10 | e_10 | e_10 | e_10 | e_10 | e_10 | e_10 | e_10 | e_10 | e_10 | e_10 | e_10 | e_10 | e_10 | e_10 | e_10
      · refine lv_tableIn (tgt := 196) hx hb dL_law_33 (by rw [e_10]; decide) (by rw [e_10]; decide) (by rw [e_10]; rfl) (by decide) ?_
        exact law_case_0 C0 hKK hA hAq x0 n0 t0 f0 r0 w0 k0 n1 n2 n3 n4 n5 t1 b0 r1 r2 r3 r4 b1 w1 k1 k2 k3 k4 k5 m0 a0 a1 a2 a5 a14 a15 a16 a17 a20 a21 a23 a24 a25 a28 hP hD hS hl
      · refine lv_tableIn (tgt := 229) hx hb dL_law_33 (by rw [e_10]; decide) (by rw [e_10]; decide) (by rw [e_10]; rfl) (by decide) ?_
        exact law_case_1 C0 hKK hA hAq x0 n0 t0 f0 r0 w0 k0 n1 n2 n3 n4 n5 t1 b0 r1 r2 r3 r4 b1 w1 k1 k2 k3 k4 k5 m0 a0 a1 a2 a5 a14 a15 a16 a17 a20 a21 a23 a24 a25 a28 hP hD hS hl
      · refine lv_tableIn (tgt := 292) hx hb dL_law_33 (by rw [e_10]; decide) (by rw [e_10]; decide) (by rw [e_10]; rfl) (by decide) ?_
        exact law_case_2 C0 hKK hA hAq x0 n0 t0 f0 r0 w0 k0 n1 n2 n3 n4 n5 t1 b0 r1 r2 r3 r4 b1 w1 k1 k2 k3 k4 k5 m0 a0 a1 a2 a5 a14 a15 a16 a17 a20 a21 a23 a24 a25 a28 hP hD hS hl
      · refine lv_tableIn (tgt := 315) hx hb dL_law_33 (by rw [e_10]; decide) (by rw [e_10]; decide) (by rw [e_10]; rfl) (by decide) ?_
        exact law_case_3 C0 hKK hA hAq x0 n0 t0 f0 r0 w0 k0 n1 n2 n3 n4 n5 t1 b0 r1 r2 r3 r4 b1 w1 k1 k2 k3 k4 k5 m0 a0 a1 a2 a5 a14 a15 a16 a17 a20 a21 a23 a24 a25 a28 hP hD hS hl
      · refine lv_tableIn (tgt := 338) hx hb dL_law_33 (by rw [e_10]; decide) (by rw [e_10]; decide) (by rw [e_10]; rfl) (by decide) ?_
        exact law_case_4 C0 hKK hA hAq x0 n0 t0 f0 r0 w0 k0 n1 n2 n3 n4 n5 t1 b0 r1 r2 r3 r4 b1 w1 k1 k2 k3 k4 k5 m0 a0 a1 a2 a5 a14 a15 a16 a17 a20 a21 a23 a24 a25 a28 hP hD hS hl
      · refine lv_tableIn (tgt := 361) hx hb dL_law_33 (by rw [e_10]; decide) (by rw [e_10]; decide) (by rw [e_10]; rfl) (by decide) ?_
        exact law_case_5 C0 hKK hA hAq x0 n0 t0 f0 r0 w0 k0 n1 n2 n3 n4 n5 t1 b0 r1 r2 r3 r4 b1 w1 k1 k2 k3 k4 k5 m0 a0 a1 a2 a5 a14 a15 a16 a17 a20 a21 a23 a24 a25 a28 hP hD hS hl
      · refine lv_tableIn (tgt := 404) hx hb dL_law_33 (by rw [e_10]; decide) (by rw [e_10]; decide) (by rw [e_10]; rfl) (by decide) ?_
        exact law_case_6 C0 hKK hA hAq x0 n0 t0 f0 r0 w0 k0 n1 n2 n3 n4 n5 t1 b0 r1 r2 r3 r4 b1 w1 k1 k2 k3 k4 k5 m0 a0 a1 a2 a5 a14 a15 a16 a17 a20 a21 a23 a24 a25 a28 hP hD hS hl
      · refine lv_tableIn (tgt := 427) hx hb dL_law_33 (by rw [e_10]; decide) (by rw [e_10]; decide) (by rw [e_10]; rfl) (by decide) ?_
        exact law_case_7 C0 hKK hA hAq x0 n0 t0 f0 r0 w0 k0 n1 n2 n3 n4 n5 t1 b0 r1 r2 r3 r4 b1 w1 k1 k2 k3 k4 k5 m0 a0 a1 a2 a5 a14 a15 a16 a17 a20 a21 a23 a24 a25 a28 hP hD hS hl
      · refine lv_tableIn (tgt := 460) hx hb dL_law_33 (by rw [e_10]; decide) (by rw [e_10]; decide) (by rw [e_10]; rfl) (by decide) ?_
        exact law_case_8 C0 hKK hA hAq x0 n0 t0 f0 r0 w0 k0 n1 n2 n3 n4 n5 t1 b0 r1 r2 r3 r4 b1 w1 k1 k2 k3 k4 k5 m0 a0 a1 a2 a5 a14 a15 a16 a17 a20 a21 a23 a24 a25 a28 hP hD hS hl
      · refine lv_tableIn (tgt := 493) hx hb dL_law_33 (by rw [e_10]; decide) (by rw [e_10]; decide) (by rw [e_10]; rfl) (by decide) ?_
        exact law_case_9 C0 hKK hA hAq x0 n0 t0 f0 r0 w0 k0 n1 n2 n3 n4 n5 t1 b0 r1 r2 r3 r4 b1 w1 k1 k2 k3 k4 k5 m0 a0 a1 a2 a5 a14 a15 a16 a17 a20 a21 a23 a24 a25 a28 hP hD hS hl
      · refine lv_tableIn (tgt := 526) hx hb dL_law_33 (by rw [e_10]; decide) (by rw [e_10]; decide) (by rw [e_10]; rfl) (by decide) ?_
        exact law_case_10 C0 hKK hA hAq x0 n0 t0 f0 r0 w0 k0 n1 n2 n3 n4 n5 t1 b0 r1 r2 r3 r4 b1 w1 k1 k2 k3 k4 k5 m0 a0 a1 a2 a5 a14 a15 a16 a17 a20 a21 a23 a24 a25 a28 hP hD hS hl
      · refine lv_tableIn (tgt := 569) hx hb dL_law_33 (by rw [e_10]; decide) (by rw [e_10]; decide) (by rw [e_10]; rfl) (by decide) ?_
        exact law_case_11 C0 hKK hA hAq x0 n0 t0 f0 r0 w0 k0 n1 n2 n3 n4 n5 t1 b0 r1 r2 r3 r4 b1 w1 k1 k2 k3 k4 k5 m0 a0 a1 a2 a5 a14 a15 a16 a17 a20 a21 a23 a24 a25 a28 hP hD hS hl
      · refine lv_tableIn (tgt := 632) hx hb dL_law_33 (by rw [e_10]; decide) (by rw [e_10]; decide) (by rw [e_10]; rfl) (by decide) ?_
        exact law_case_12 C0 hKK hA hAq x0 n0 t0 f0 r0 w0 k0 n1 n2 n3 n4 n5 t1 b0 r1 r2 r3 r4 b1 w1 k1 k2 k3 k4 k5 m0 a0 a1 a2 a5 a14 a15 a16 a17 a20 a21 a23 a24 a25 a28 hP hD hS hl
      · refine lv_tableIn (tgt := 645) hx hb dL_law_33 (by rw [e_10]; decide) (by rw [e_10]; decide) (by rw [e_10]; rfl) (by decide) ?_
        exact law_case_13 C0 hKK hA hAq x0 n0 t0 f0 r0 w0 k0 n1 n2 n3 n4 n5 t1 b0 r1 r2 r3 r4 b1 w1 k1 k2 k3 k4 k5 m0 a0 a1 a2 a5 a14 a15 a16 a17 a20 a21 a23 a24 a25 a28 hP hD hS hl
      · refine lv_tableIn (tgt := 688) hx hb dL_law_33 (by rw [e_10]; decide) (by rw [e_10]; decide) (by rw [e_10]; rfl) (by decide) ?_
        exact law_case_14 C0 hKK hA hAq x0 n0 t0 f0 r0 w0 k0 n1 n2 n3 n4 n5 t1 b0 r1 r2 r3 r4 b1 w1 k1 k2 k3 k4 k5 m0 a0 a1 a2 a5 a14 a15 a16 a17 a20 a21 a23 a24 a25 a28 hP hD hS hl
      · refine lv_tableIn (tgt := 747) hx hb dL_law_33 (by rw [e_10]; decide) (by rw [e_10]; decide) (by rw [e_10]; rfl) (by decide) ?_
        exact law_case_15 C0 hKK hA hAq x0 n0 t0 f0 r0 w0 k0 n1 n2 n3 n4 n5 t1 b0 r1 r2 r3 r4 b1 w1 k1 k2 k3 k4 k5 m0 a0 a1 a2 a5 a14 a15 a16 a17 a20 a21 a23 a24 a25 a28 hP hD hS hl
      · refine lv_tableIn (tgt := 790) hx hb dL_law_33 (by rw [e_10]; decide) (by rw [e_10]; decide) (by rw [e_10]; rfl) (by decide) ?_
        exact law_case_16 C0 hKK hA hAq x0 n0 t0 f0 r0 w0 k0 n1 n2 n3 n4 n5 t1 b0 r1 r2 r3 r4 b1 w1 k1 k2 k3 k4 k5 m0 a0 a1 a2 a5 a14 a15 a16 a17 a20 a21 a23 a24 a25 a28 hP hD hS hl
      · refine lv_tableIn (tgt := 823) hx hb dL_law_33 (by rw [e_10]; decide) (by rw [e_10]; decide) (by rw [e_10]; rfl) (by decide) ?_
        exact law_case_17 C0 hKK hA hAq x0 n0 t0 f0 r0 w0 k0 n1 n2 n3 n4 n5 t1 b0 r1 r2 r3 r4 b1 w1 k1 k2 k3 k4 k5 m0 a0 a1 a2 a5 a14 a15 a16 a17 a20 a21 a23 a24 a25 a28 hP hD hS hl
      · refine lv_tableIn (tgt := 846) hx hb dL_law_33 (by rw [e_10]; decide) (by rw [e_10]; decide) (by rw [e_10]; rfl) (by decide) ?_
        exact law_case_18 C0 hKK hA hAq x0 n0 t0 f0 r0 w0 k0 n1 n2 n3 n4 n5 t1 b0 r1 r2 r3 r4 b1 w1 k1 k2 k3 k4 k5 m0 a0 a1 a2 a5 a14 a15 a16 a17 a20 a21 a23 a24 a25 a28 hP hD hS hl
      · refine lv_tableIn (tgt := 879) hx hb dL_law_33 (by rw [e_10]; decide) (by rw [e_10]; decide) (by rw [e_10]; rfl) (by decide) ?_
        exact law_case_19 C0 hKK hA hAq x0 n0 t0 f0 r0 w0 k0 n1 n2 n3 n4 n5 t1 b0 r1 r2 r3 r4 b1 w1 k1 k2 k3 k4 k5 m0 a0 a1 a2 a5 a14 a15 a16 a17 a20 a21 a23 a24 a25 a28 hP hD hS hl
      · refine lv_tableIn (tgt := 912) hx hb dL_law_33 (by rw [e_10]; decide) (by rw [e_10]; decide) (by rw [e_10]; rfl) (by decide) ?_
        exact law_case_20 C0 hKK hA hAq x0 n0 t0 f0 r0 w0 k0 n1 n2 n3 n4 n5 t1 b0 r1 r2 r3 r4 b1 w1 k1 k2 k3 k4 k5 m0 a0 a1 a2 a5 a14 a15 a16 a17 a20 a21 a23 a24 a25 a28 hP hD hS hl
      · refine lv_tableIn (tgt := 955) hx hb dL_law_33 (by rw [e_10]; decide) (by rw [e_10]; decide) (by rw [e_10]; rfl) (by decide) ?_
        exact law_case_21 C0 hKK hA hAq x0 n0 t0 f0 r0 w0 k0 n1 n2 n3 n4 n5 t1 b0 r1 r2 r3 r4 b1 w1 k1 k2 k3 k4 k5 m0 a0 a1 a2 a5 a14 a15 a16 a17 a20 a21 a23 a24 a25 a28 hP hD hS hl
      · refine lv_tableIn (tgt := 998) hx hb dL_law_33 (by rw [e_10]; decide) (by rw [e_10]; decide) (by rw [e_10]; rfl) (by decide) ?_
        exact law_case_22 C0 hKK hA hAq x0 n0 t0 f0 r0 w0 k0 n1 n2 n3 n4 n5 t1 b0 r1 r2 r3 r4 b1 w1 k1 k2 k3 k4 k5 m0 a0 a1 a2 a5 a14 a15 a16 a17 a20 a21 a23 a24 a25 a28 hP hD hS hl
      · refine lv_tableIn (tgt := 1021) hx hb dL_law_33 (by rw [e_10]; decide) (by rw [e_10]; decide) (by rw [e_10]; rfl) (by decide) ?_
        exact law_case_23 C0 hKK hA hAq x0 n0 t0 f0 r0 w0 k0 n1 n2 n3 n4 n5 t1 b0 r1 r2 r3 r4 b1 w1 k1 k2 k3 k4 k5 m0 a0 a1 a2 a5 a14 a15 a16 a17 a20 a21 a23 a24 a25 a28 hP hD hS hl
      · refine lv_tableIn (tgt := 1074) hx hb dL_law_33 (by rw [e_10]; decide) (by rw [e_10]; decide) (by rw [e_10]; rfl) (by decide) ?_
        exact law_case_24 C0 hKK hA hAq x0 n0 t0 f0 r0 w0 k0 n1 n2 n3 n4 n5 t1 b0 r1 r2 r3 r4 b1 w1 k1 k2 k3 k4 k5 m0 a0 a1 a2 a5 a14 a15 a16 a17 a20 a21 a23 a24 a25 a28 hP hD hS hl
      · refine lv_tableIn (tgt := 1117) hx hb dL_law_33 (by rw [e_10]; decide) (by rw [e_10]; decide) (by rw [e_10]; rfl) (by decide) ?_
        exact law_case_25 C0 hKK hA hAq x0 n0 t0 f0 r0 w0 k0 n1 n2 n3 n4 n5 t1 b0 r1 r2 r3 r4 b1 w1 k1 k2 k3 k4 k5 m0 a0 a1 a2 a5 a14 a15 a16 a17 a20 a21 a23 a24 a25 a28 hP hD hS hl
      · refine lv_tableIn (tgt := 1170) hx hb dL_law_33 (by rw [e_10]; decide) (by rw [e_10]; decide) (by rw [e_10]; rfl) (by decide) ?_
        exact law_case_26 C0 hKK hA hAq x0 n0 t0 f0 r0 w0 k0 n1 n2 n3 n4 n5 t1 b0 r1 r2 r3 r4 b1 w1 k1 k2 k3 k4 k5 m0 a0 a1 a2 a5 a14 a15 a16 a17 a20 a21 a23 a24 a25 a28 hP hD hS hl
      · refine lv_tableIn (tgt := 1223) hx hb dL_law_33 (by rw [e_10]; decide) (by rw [e_10]; decide) (by rw [e_10]; rfl) (by decide) ?_
        exact law_case_27 C0 hKK hA hAq x0 n0 t0 f0 r0 w0 k0 n1 n2 n3 n4 n5 t1 b0 r1 r2 r3 r4 b1 w1 k1 k2 k3 k4 k5 m0 a0 a1 a2 a5 a14 a15 a16 a17 a20 a21 a23 a24 a25 a28 hP hD hS hl
      · refine lv_tableIn (tgt := 1267) hx hb dL_law_33 (by rw [e_10]; decide) (by rw [e_10]; decide) (by rw [e_10]; rfl) (by decide) ?_
        exact law_case_28 C0 hKK hA hAq x0 n0 t0 f0 r0 w0 k0 n1 n2 n3 n4 n5 t1 b0 r1 r2 r3 r4 b1 w1 k1 k2 k3 k4 k5 m0 a0 a1 a2 a5 a14 a15 a16 a17 a20 a21 a23 a24 a25 a28 hP hD hS hl
      · refine lv_tableIn (tgt := 1320) hx hb dL_law_33 (by rw [e_10]; decide) (by rw [e_10]; decide) (by rw [e_10]; rfl) (by decide) ?_
        exact law_case_29 C0 hKK hA hAq x0 n0 t0 f0 r0 w0 k0 n1 n2 n3 n4 n5 t1 b0 r1 r2 r3 r4 b1 w1 k1 k2 k3 k4 k5 m0 a0 a1 a2 a5 a14 a15 a16 a17 a20 a21 a23 a24 a25 a28 hP hD hS hl
      · refine lv_tableIn (tgt := 1364) hx hb dL_law_33 (by rw [e_10]; decide) (by rw [e_10]; decide) (by rw [e_10]; rfl) (by decide) ?_
        exact law_case_30 C0 hKK hA hAq x0 n0 t0 f0 r0 w0 k0 n1 n2 n3 n4 n5 t1 b0 r1 r2 r3 r4 b1 w1 k1 k2 k3 k4 k5 m0 a0 a1 a2 a5 a14 a15 a16 a17 a20 a21 a23 a24 a25 a28 hP hD hS hl
      · refine lv_tableIn (tgt := 1428) hx hb dL_law_33 (by rw [e_10]; decide) (by rw [e_10]; decide) (by rw [e_10]; rfl) (by decide) ?_
        exact law_case_31 C0 hKK hA hAq x0 n0 t0 f0 r0 w0 k0 n1 n2 n3 n4 n5 t1 b0 r1 r2 r3 r4 b1 w1 k1 k2 k3 k4 k5 m0 a0 a1 a2 a5 a14 a15 a16 a17 a20 a21 a23 a24 a25 a28 hP hD hS hl
      · refine lv_tableIn (tgt := 1481) hx hb dL_law_33 (by rw [e_10]; decide) (by rw [e_10]; decide) (by rw [e_10]; rfl) (by decide) ?_
        exact law_case_32 C0 hKK hA hAq x0 n0 t0 f0 r0 w0 k0 n1 n2 n3 n4 n5 t1 b0 r1 r2 r3 r4 b1 w1 k1 k2 k3 k4 k5 m0 a0 a1 a2 a5 a14 a15 a16 a17 a20 a21 a23 a24 a25 a28 hP hD hS hl
      · refine lv_tableIn (tgt := 1514) hx hb dL_law_33 (by rw [e_10]; decide) (by rw [e_10]; decide) (by rw [e_10]; rfl) (by decide) ?_
        exact law_case_33 C0 hKK hA hAq x0 n0 t0 f0 r0 w0 k0 n1 n2 n3 n4 n5 t1 b0 r1 r2 r3 r4 b1 w1 k1 k2 k3 k4 k5 m0 a0 a1 a2 a5 a14 a15 a16 a17 a20 a21 a23 a24 a25 a28 hP hD hS hl
      · refine lv_tableIn (tgt := 1537) hx hb dL_law_33 (by rw [e_10]; decide) (by rw [e_10]; decide) (by rw [e_10]; rfl) (by decide) ?_
        exact law_case_34 C0 hKK hA hAq x0 n0 t0 f0 r0 w0 k0 n1 n2 n3 n4 n5 t1 b0 r1 r2 r3 r4 b1 w1 k1 k2 k3 k4 k5 m0 a0 a1 a2 a5 a14 a15 a16 a17 a20 a21 a23 a24 a25 a28 hP hD hS hl
      · refine lv_tableIn (tgt := 1560) hx hb dL_law_33 (by rw [e_10]; decide) (by rw [e_10]; decide) (by rw [e_10]; rfl) (by decide) ?_
        exact law_case_35 C0 hKK hA hAq x0 n0 t0 f0 r0 w0 k0 n1 n2 n3 n4 n5 t1 b0 r1 r2 r3 r4 b1 w1 k1 k2 k3 k4 k5 m0 a0 a1 a2 a5 a14 a15 a16 a17 a20 a21 a23 a24 a25 a28 hP hD hS hl
      · refine lv_tableIn (tgt := 1599) hx hb dL_law_33 (by rw [e_10]; decide) (by rw [e_10]; decide) (by rw [e_10]; rfl) (by decide) ?_
        exact law_case_36 C0 hKK hA hAq x0 n0 t0 f0 r0 w0 k0 n1 n2 n3 n4 n5 t1 b0 r1 r2 r3 r4 b1 w1 k1 k2 k3 k4 k5 m0 a0 a1 a2 a5 a14 a15 a16 a17 a20 a21 a23 a24 a25 a28 hP hD hS hl
set_option maxHeartbeats 4000000 in
set_option maxRecDepth 100000 in
/-- from the entry, for every script of at most 6 ints, the law comes to its end with true -/
theorem whole_start {p : Program} {e : Env} {s : State} {m : MethodId} {below : List Frame} {meth : Method} {c : Code} (l : Launch) (hflags : l.flags = flags0) {b L : Nat} {xs : Nat → Int32} (hL : L ≤ 6) (C0 : lw_At p s m meth c b L xs) : W p l e room_1 s m #[Value.ref b] below meth c s.heap [] 0 0 (lw_Z below #[Value.ref b] s) (entryFrame m ([Value.ref b] : List Value).toArray 4) := by
  obtain ⟨hx, hb0, hr, hml, hown, hts0, hX, hbl, hlk, hgv⟩ := id C0
  have hb : c.code = cL_law := hb0
  have hts : ∀ w ∈ wsL_law, w.before #[Value.ref b] s = true := fun w h => hts0 w (wsL_law_in w h)
  have hown : s.vm.findClass RL = some m.cls := hown
  obtain ⟨D, κ, hKK⟩ := KK_start hts0
  have hK : va_K D vwCl (T0 κ) s := hKK.1
  obtain ⟨A, hA, hAq⟩ : ∃ A : Nat → Prop, (∀ q : Nat, s.heap.size ≤ q → A q) ∧ (∀ q : Nat, A q → s.heap.size ≤ q) := ⟨fun q => s.heap.size ≤ q, fun _ h => h, fun _ h => h⟩
  have hbA : ¬ A b := fun h => absurd (hAq b h) (Nat.not_le.mpr hbl)
  have hFX : FX p s m #[Value.ref b] c cL_law 4 RL := ⟨hx, hb, hml, hown, hts⟩
  have hS : va_S A s.heap s.heap [] := va_S.rf
  have hP : va_P D vwCl [] s.heap := fun k q h => by simp at h
  have hD : va_D A [] := ⟨fun i j p q h => by simp at h, fun k q h => by simp at h⟩
  have hl := lv_entry ([.ref b]) (n := 4) (Nat.le_of_ble_eq_true rfl)
  rw [lg_entry_eq]
  generalize (lg_sl ([.ref b]) ++ List.replicate (4 - (lg_sl ([.ref b])).length) Slot.unset).toArray = ls at hl ⊢
  have hl : lv_has ls 4 [(0, .ref b)] := hl
  refine va_new (ci := 11) (fs := [.null, .null, .null, .null, .null, .null, .int 0]) (C := RX11) (T := TX11) (N := 7) hx hb hts inlX11 tyX11 tyX11_ok hown (hts _ mw_0) (hts _ mw_1) (hts _ mw_2) hK hP hD hS hA rfl (fun j hj => by rcases (show j = 0 ∨ j = 1 ∨ j = 2 ∨ j = 3 ∨ j = 4 ∨ j = 5 ∨ j = 6 by omega) with rfl | rfl | rfl | rfl | rfl | rfl | rfl <;> rfl) (Nat.le_of_ble_eq_true rfl) (Nat.le_of_ble_eq_true rfl) dL_law_0 (fun q_1 H hP hD hS => ?_)
  have hP : va_P D vwCl [(q_1, .inr (11, [.null, .null, .null, .null, .null, .null, .int 0]))] H := hP
  have hD : va_D A [(q_1, .inr (11, [.null, .null, .null, .null, .null, .null, .int 0]))] := hD
  refine lv_dup hx hb dL_law_3 rfl ?_
  refine ct_I (wr := []) (As := []) (rest := [.ref q_1]) hFX hKK hP hD hS hA (c_X11_init l D κ q_1) 0 mw_6 mw_7 mw_2 mw_8 hdI_X11_init ⟨Nat.le_of_ble_eq_true rfl, Nat.le_of_ble_eq_true rfl⟩ rfl rfl (Nat.le_of_ble_eq_true rfl) dL_law_4 ⟨Nat.le_of_ble_eq_true rfl, Nat.le_of_ble_eq_true rfl⟩ hl.1 [0] [] rfl rfl (by decide) (by decide) (by decide) trivial (fun u_26 H locs hp_27 _ hP hD hS hz_ hk_ => ?_)
  obtain ⟨n0_2, t0_3, f0_4, r0_5, w0_6, k0_7, n1_8, n2_9, n3_10, n4_11, n5_12, t1_13, b0_14, r1_15, r2_16, r3_17, r4_18, b1_19, w1_20, k1_21, k2_22, k3_23, k4_24, k5_25⟩ := u_26
  have hP : va_P D vwCl [(q_1, .inr (11, [.ref n0_2, .ref t0_3, .ref f0_4, .ref r0_5, .ref w0_6, .ref k0_7, .int 0])), (n0_2, .inr (6, [.ref n1_8, .ref n2_9, .ref n3_10, .ref n4_11, .ref n5_12, .int 0])), (n1_8, .inl (κ 0, 6, .inl dial0)), (n2_9, .inl (κ 4, 3, .inr (.inr (.inr (.inr (fun _ => none)))))), (n3_10, .inl (κ 5, 3, .inr (.inr (.inr (.inr (fun _ => none)))))), (n4_11, .inl (κ 0, 6, .inl (fun _ => 0))), (n5_12, .inl (κ 4, 6, .inr (.inr (.inr (.inr (fun _ => none)))))), (t0_3, .inr (8, [.ref t1_13, .int 0])), (t1_13, .inl (κ 0, 800, .inl (fun _ => 0))), (f0_4, .inr (2, [.int 0, .int (-1), .int (-1), .int (-1), .int (-1), .int 0])), (r0_5, .inr (4, [.ref t0_3, .ref n1_8, .ref f0_4, .ref b0_14, .int 0, .int (-1), .ref r1_15, .int 0, .ref r2_16, .ref r3_17, .int 0, .null, .ref r4_18, .int 0])), (b0_14, .inr (0, [.ref b1_19, .int 0, .long 0])), (b1_19, .inl (κ 1, 0, .inl (fun _ => 0))), (r1_15, .inl (κ 1, 20, .inl (fun _ => 0))), (r2_16, .inl (κ 2, 8, .inr (.inr (.inr (.inr (fun _ => none)))))), (r3_17, .inl (κ 0, 8, .inl (fun _ => 0))), (r4_18, .inl (κ 2, 320, .inr (.inr (.inr (.inr (fun _ => none)))))), (w0_6, .inr (10, [.ref n1_8, .ref w1_20, .int 0])), (w1_20, .inl (κ 1, 6000, .inl (fun _ => 0))), (k0_7, .inr (6, [.ref k1_21, .ref k2_22, .ref k3_23, .ref k4_24, .ref k5_25, .int 0])), (k1_21, .inl (κ 0, 6, .inl dial0)), (k2_22, .inl (κ 4, 3, .inr (.inr (.inr (.inr (fun _ => none)))))), (k3_23, .inl (κ 5, 3, .inr (.inr (.inr (.inr (fun _ => none)))))), (k4_24, .inl (κ 0, 6, .inl (fun _ => 0))), (k5_25, .inl (κ 4, 6, .inr (.inr (.inr (.inr (fun _ => none))))))] H := hP
  have hD : va_D A [(q_1, .inr (11, [.ref n0_2, .ref t0_3, .ref f0_4, .ref r0_5, .ref w0_6, .ref k0_7, .int 0])), (n0_2, .inr (6, [.ref n1_8, .ref n2_9, .ref n3_10, .ref n4_11, .ref n5_12, .int 0])), (n1_8, .inl (κ 0, 6, .inl dial0)), (n2_9, .inl (κ 4, 3, .inr (.inr (.inr (.inr (fun _ => none)))))), (n3_10, .inl (κ 5, 3, .inr (.inr (.inr (.inr (fun _ => none)))))), (n4_11, .inl (κ 0, 6, .inl (fun _ => 0))), (n5_12, .inl (κ 4, 6, .inr (.inr (.inr (.inr (fun _ => none)))))), (t0_3, .inr (8, [.ref t1_13, .int 0])), (t1_13, .inl (κ 0, 800, .inl (fun _ => 0))), (f0_4, .inr (2, [.int 0, .int (-1), .int (-1), .int (-1), .int (-1), .int 0])), (r0_5, .inr (4, [.ref t0_3, .ref n1_8, .ref f0_4, .ref b0_14, .int 0, .int (-1), .ref r1_15, .int 0, .ref r2_16, .ref r3_17, .int 0, .null, .ref r4_18, .int 0])), (b0_14, .inr (0, [.ref b1_19, .int 0, .long 0])), (b1_19, .inl (κ 1, 0, .inl (fun _ => 0))), (r1_15, .inl (κ 1, 20, .inl (fun _ => 0))), (r2_16, .inl (κ 2, 8, .inr (.inr (.inr (.inr (fun _ => none)))))), (r3_17, .inl (κ 0, 8, .inl (fun _ => 0))), (r4_18, .inl (κ 2, 320, .inr (.inr (.inr (.inr (fun _ => none)))))), (w0_6, .inr (10, [.ref n1_8, .ref w1_20, .int 0])), (w1_20, .inl (κ 1, 6000, .inl (fun _ => 0))), (k0_7, .inr (6, [.ref k1_21, .ref k2_22, .ref k3_23, .ref k4_24, .ref k5_25, .int 0])), (k1_21, .inl (κ 0, 6, .inl dial0)), (k2_22, .inl (κ 4, 3, .inr (.inr (.inr (.inr (fun _ => none)))))), (k3_23, .inl (κ 5, 3, .inr (.inr (.inr (.inr (fun _ => none)))))), (k4_24, .inl (κ 0, 6, .inl (fun _ => 0))), (k5_25, .inl (κ 4, 6, .inr (.inr (.inr (.inr (fun _ => none))))))] := hD
  refine W.eq (g2 := F0 m 7 ls [.ref q_1]) rfl ?_
  refine lv_astore_n (lv' := [(1, .ref q_1), (0, .ref b)]) hx hb dL_law_7 rfl hl (by decide) rfl (fun ls hl => ?_)
  refine va_new (ci := 12) (fs := [.null, .null, .null, .int 0, .int 0, .null, .int 0, .int 0, .int 0, .int 0, .int 0, .int 0, .int 0, .int 0, .null, .null, .null, .null, .int 0, .int 0, .null, .null, .int 0, .null, .null, .null, .int 0, .int 0, .null, .int 0]) (C := RX12) (T := TX12) (N := 30) hx hb hts inlX12 tyX12 tyX12_ok hown (hts _ mw_3) (hts _ mw_4) (hts _ mw_5) hK hP hD hS hA rfl (fun j hj => by rcases (show j = 0 ∨ j = 1 ∨ j = 2 ∨ j = 3 ∨ j = 4 ∨ j = 5 ∨ j = 6 ∨ j = 7 ∨ j = 8 ∨ j = 9 ∨ j = 10 ∨ j = 11 ∨ j = 12 ∨ j = 13 ∨ j = 14 ∨ j = 15 ∨ j = 16 ∨ j = 17 ∨ j = 18 ∨ j = 19 ∨ j = 20 ∨ j = 21 ∨ j = 22 ∨ j = 23 ∨ j = 24 ∨ j = 25 ∨ j = 26 ∨ j = 27 ∨ j = 28 ∨ j = 29 by omega) with rfl | rfl | rfl | rfl | rfl | rfl | rfl | rfl | rfl | rfl | rfl | rfl | rfl | rfl | rfl | rfl | rfl | rfl | rfl | rfl | rfl | rfl | rfl | rfl | rfl | rfl | rfl | rfl | rfl | rfl <;> rfl) (Nat.le_of_ble_eq_true rfl) (Nat.le_of_ble_eq_true rfl) dL_law_8 (fun q_28 H hP hD hS => ?_)
  have hP : va_P D vwCl [(q_1, .inr (11, [.ref n0_2, .ref t0_3, .ref f0_4, .ref r0_5, .ref w0_6, .ref k0_7, .int 0])), (n0_2, .inr (6, [.ref n1_8, .ref n2_9, .ref n3_10, .ref n4_11, .ref n5_12, .int 0])), (n1_8, .inl (κ 0, 6, .inl dial0)), (n2_9, .inl (κ 4, 3, .inr (.inr (.inr (.inr (fun _ => none)))))), (n3_10, .inl (κ 5, 3, .inr (.inr (.inr (.inr (fun _ => none)))))), (n4_11, .inl (κ 0, 6, .inl (fun _ => 0))), (n5_12, .inl (κ 4, 6, .inr (.inr (.inr (.inr (fun _ => none)))))), (t0_3, .inr (8, [.ref t1_13, .int 0])), (t1_13, .inl (κ 0, 800, .inl (fun _ => 0))), (f0_4, .inr (2, [.int 0, .int (-1), .int (-1), .int (-1), .int (-1), .int 0])), (r0_5, .inr (4, [.ref t0_3, .ref n1_8, .ref f0_4, .ref b0_14, .int 0, .int (-1), .ref r1_15, .int 0, .ref r2_16, .ref r3_17, .int 0, .null, .ref r4_18, .int 0])), (b0_14, .inr (0, [.ref b1_19, .int 0, .long 0])), (b1_19, .inl (κ 1, 0, .inl (fun _ => 0))), (r1_15, .inl (κ 1, 20, .inl (fun _ => 0))), (r2_16, .inl (κ 2, 8, .inr (.inr (.inr (.inr (fun _ => none)))))), (r3_17, .inl (κ 0, 8, .inl (fun _ => 0))), (r4_18, .inl (κ 2, 320, .inr (.inr (.inr (.inr (fun _ => none)))))), (w0_6, .inr (10, [.ref n1_8, .ref w1_20, .int 0])), (w1_20, .inl (κ 1, 6000, .inl (fun _ => 0))), (k0_7, .inr (6, [.ref k1_21, .ref k2_22, .ref k3_23, .ref k4_24, .ref k5_25, .int 0])), (k1_21, .inl (κ 0, 6, .inl dial0)), (k2_22, .inl (κ 4, 3, .inr (.inr (.inr (.inr (fun _ => none)))))), (k3_23, .inl (κ 5, 3, .inr (.inr (.inr (.inr (fun _ => none)))))), (k4_24, .inl (κ 0, 6, .inl (fun _ => 0))), (k5_25, .inl (κ 4, 6, .inr (.inr (.inr (.inr (fun _ => none)))))), (q_28, .inr (12, [.null, .null, .null, .int 0, .int 0, .null, .int 0, .int 0, .int 0, .int 0, .int 0, .int 0, .int 0, .int 0, .null, .null, .null, .null, .int 0, .int 0, .null, .null, .int 0, .null, .null, .null, .int 0, .int 0, .null, .int 0]))] H := hP
  have hD : va_D A [(q_1, .inr (11, [.ref n0_2, .ref t0_3, .ref f0_4, .ref r0_5, .ref w0_6, .ref k0_7, .int 0])), (n0_2, .inr (6, [.ref n1_8, .ref n2_9, .ref n3_10, .ref n4_11, .ref n5_12, .int 0])), (n1_8, .inl (κ 0, 6, .inl dial0)), (n2_9, .inl (κ 4, 3, .inr (.inr (.inr (.inr (fun _ => none)))))), (n3_10, .inl (κ 5, 3, .inr (.inr (.inr (.inr (fun _ => none)))))), (n4_11, .inl (κ 0, 6, .inl (fun _ => 0))), (n5_12, .inl (κ 4, 6, .inr (.inr (.inr (.inr (fun _ => none)))))), (t0_3, .inr (8, [.ref t1_13, .int 0])), (t1_13, .inl (κ 0, 800, .inl (fun _ => 0))), (f0_4, .inr (2, [.int 0, .int (-1), .int (-1), .int (-1), .int (-1), .int 0])), (r0_5, .inr (4, [.ref t0_3, .ref n1_8, .ref f0_4, .ref b0_14, .int 0, .int (-1), .ref r1_15, .int 0, .ref r2_16, .ref r3_17, .int 0, .null, .ref r4_18, .int 0])), (b0_14, .inr (0, [.ref b1_19, .int 0, .long 0])), (b1_19, .inl (κ 1, 0, .inl (fun _ => 0))), (r1_15, .inl (κ 1, 20, .inl (fun _ => 0))), (r2_16, .inl (κ 2, 8, .inr (.inr (.inr (.inr (fun _ => none)))))), (r3_17, .inl (κ 0, 8, .inl (fun _ => 0))), (r4_18, .inl (κ 2, 320, .inr (.inr (.inr (.inr (fun _ => none)))))), (w0_6, .inr (10, [.ref n1_8, .ref w1_20, .int 0])), (w1_20, .inl (κ 1, 6000, .inl (fun _ => 0))), (k0_7, .inr (6, [.ref k1_21, .ref k2_22, .ref k3_23, .ref k4_24, .ref k5_25, .int 0])), (k1_21, .inl (κ 0, 6, .inl dial0)), (k2_22, .inl (κ 4, 3, .inr (.inr (.inr (.inr (fun _ => none)))))), (k3_23, .inl (κ 5, 3, .inr (.inr (.inr (.inr (fun _ => none)))))), (k4_24, .inl (κ 0, 6, .inl (fun _ => 0))), (k5_25, .inl (κ 4, 6, .inr (.inr (.inr (.inr (fun _ => none)))))), (q_28, .inr (12, [.null, .null, .null, .int 0, .int 0, .null, .int 0, .int 0, .int 0, .int 0, .int 0, .int 0, .int 0, .int 0, .null, .null, .null, .null, .int 0, .int 0, .null, .null, .int 0, .null, .null, .null, .int 0, .int 0, .null, .int 0]))] := hD
  refine lv_dup hx hb dL_law_11 rfl ?_
  refine ct_I (wr := [(q_1, .inr (11, [.ref n0_2, .ref t0_3, .ref f0_4, .ref r0_5, .ref w0_6, .ref k0_7, .int 0])), (n0_2, .inr (6, [.ref n1_8, .ref n2_9, .ref n3_10, .ref n4_11, .ref n5_12, .int 0])), (n1_8, .inl (κ 0, 6, .inl dial0)), (n2_9, .inl (κ 4, 3, .inr (.inr (.inr (.inr (fun _ => none)))))), (n3_10, .inl (κ 5, 3, .inr (.inr (.inr (.inr (fun _ => none)))))), (n4_11, .inl (κ 0, 6, .inl (fun _ => 0))), (n5_12, .inl (κ 4, 6, .inr (.inr (.inr (.inr (fun _ => none)))))), (t0_3, .inr (8, [.ref t1_13, .int 0])), (t1_13, .inl (κ 0, 800, .inl (fun _ => 0))), (f0_4, .inr (2, [.int 0, .int (-1), .int (-1), .int (-1), .int (-1), .int 0])), (r0_5, .inr (4, [.ref t0_3, .ref n1_8, .ref f0_4, .ref b0_14, .int 0, .int (-1), .ref r1_15, .int 0, .ref r2_16, .ref r3_17, .int 0, .null, .ref r4_18, .int 0])), (b0_14, .inr (0, [.ref b1_19, .int 0, .long 0])), (b1_19, .inl (κ 1, 0, .inl (fun _ => 0))), (r1_15, .inl (κ 1, 20, .inl (fun _ => 0))), (r2_16, .inl (κ 2, 8, .inr (.inr (.inr (.inr (fun _ => none)))))), (r3_17, .inl (κ 0, 8, .inl (fun _ => 0))), (r4_18, .inl (κ 2, 320, .inr (.inr (.inr (.inr (fun _ => none)))))), (w0_6, .inr (10, [.ref n1_8, .ref w1_20, .int 0])), (w1_20, .inl (κ 1, 6000, .inl (fun _ => 0))), (k0_7, .inr (6, [.ref k1_21, .ref k2_22, .ref k3_23, .ref k4_24, .ref k5_25, .int 0])), (k1_21, .inl (κ 0, 6, .inl dial0)), (k2_22, .inl (κ 4, 3, .inr (.inr (.inr (.inr (fun _ => none)))))), (k3_23, .inl (κ 5, 3, .inr (.inr (.inr (.inr (fun _ => none)))))), (k4_24, .inl (κ 0, 6, .inl (fun _ => 0))), (k5_25, .inl (κ 4, 6, .inr (.inr (.inr (.inr (fun _ => none))))))]) (As := []) (rest := [.ref q_28]) hFX hKK hP hD hS hA (c_X12_init l D κ q_28) 0 mw_183 mw_184 mw_5 mw_185 hdI_X12_init ⟨Nat.le_of_ble_eq_true rfl, Nat.le_of_ble_eq_true rfl⟩ rfl rfl (Nat.le_of_ble_eq_true rfl) dL_law_12 ⟨Nat.le_of_ble_eq_true rfl, Nat.le_of_ble_eq_true rfl⟩ hl.1 [25] [0, 1, 2, 3, 4, 5, 6, 7, 8, 9, 10, 11, 12, 13, 14, 15, 16, 17, 18, 19, 20, 21, 22, 23, 24] rfl rfl (by decide) (by decide) (by decide) trivial (fun u_43 H locs hp_44 _ hP hD hS hz_ hk_ => ?_)
  obtain ⟨a0_29, a1_30, a2_31, a5_32, a14_33, a15_34, a16_35, a17_36, a20_37, a21_38, a23_39, a24_40, a25_41, a28_42⟩ := u_43
  have hP : va_P D vwCl [(q_1, .inr (11, [.ref n0_2, .ref t0_3, .ref f0_4, .ref r0_5, .ref w0_6, .ref k0_7, .int 0])), (n0_2, .inr (6, [.ref n1_8, .ref n2_9, .ref n3_10, .ref n4_11, .ref n5_12, .int 0])), (n1_8, .inl (κ 0, 6, .inl dial0)), (n2_9, .inl (κ 4, 3, .inr (.inr (.inr (.inr (fun _ => none)))))), (n3_10, .inl (κ 5, 3, .inr (.inr (.inr (.inr (fun _ => none)))))), (n4_11, .inl (κ 0, 6, .inl (fun _ => 0))), (n5_12, .inl (κ 4, 6, .inr (.inr (.inr (.inr (fun _ => none)))))), (t0_3, .inr (8, [.ref t1_13, .int 0])), (t1_13, .inl (κ 0, 800, .inl (fun _ => 0))), (f0_4, .inr (2, [.int 0, .int (-1), .int (-1), .int (-1), .int (-1), .int 0])), (r0_5, .inr (4, [.ref t0_3, .ref n1_8, .ref f0_4, .ref b0_14, .int 0, .int (-1), .ref r1_15, .int 0, .ref r2_16, .ref r3_17, .int 0, .null, .ref r4_18, .int 0])), (b0_14, .inr (0, [.ref b1_19, .int 0, .long 0])), (b1_19, .inl (κ 1, 0, .inl (fun _ => 0))), (r1_15, .inl (κ 1, 20, .inl (fun _ => 0))), (r2_16, .inl (κ 2, 8, .inr (.inr (.inr (.inr (fun _ => none)))))), (r3_17, .inl (κ 0, 8, .inl (fun _ => 0))), (r4_18, .inl (κ 2, 320, .inr (.inr (.inr (.inr (fun _ => none)))))), (w0_6, .inr (10, [.ref n1_8, .ref w1_20, .int 0])), (w1_20, .inl (κ 1, 6000, .inl (fun _ => 0))), (k0_7, .inr (6, [.ref k1_21, .ref k2_22, .ref k3_23, .ref k4_24, .ref k5_25, .int 0])), (k1_21, .inl (κ 0, 6, .inl dial0)), (k2_22, .inl (κ 4, 3, .inr (.inr (.inr (.inr (fun _ => none)))))), (k3_23, .inl (κ 5, 3, .inr (.inr (.inr (.inr (fun _ => none)))))), (k4_24, .inl (κ 0, 6, .inl (fun _ => 0))), (k5_25, .inl (κ 4, 6, .inr (.inr (.inr (.inr (fun _ => none)))))), (q_28, .inr (12, [.ref a0_29, .ref a1_30, .ref a2_31, .int 0, .int 0, .ref a5_32, .int 0, .int 0, .int (-1), .int (-1), .int 0, .int 0, .int 0, .int 0, .ref a14_33, .ref a15_34, .ref a16_35, .ref a17_36, .int 0, .int 0, .ref a20_37, .ref a21_38, .int 0, .ref a23_39, .ref a24_40, .ref a25_41, .int 0, .int 0, .ref a28_42, .int 0])), (a0_29, .inl (κ 0, 21375, .inl wf0)), (a1_30, .inl (κ 0, 21375, .inl (fun _ => 0))), (a2_31, .inl (κ 0, 128214, .inl (fun _ => 0))), (a5_32, .inl (κ 0, 800, .inl (fun _ => 0))), (a14_33, .inl (κ 0, 189, .inl (fun _ => 0))), (a15_34, .inl (κ 0, 9, .inl (fun _ => 0))), (a16_35, .inl (κ 0, 9, .inl (fun _ => 0))), (a17_36, .inl (κ 0, 7123, .inl (fun _ => 0))), (a20_37, .inl (κ 0, 801, .inl (fun _ => 0))), (a21_38, .inl (κ 0, 40, .inl (fun _ => 0))), (a23_39, .inl (κ 0, 40, .inl (fun _ => 0))), (a24_40, .inl (κ 0, 40, .inl (fun _ => 0))), (a25_41, .inl (κ 0, 6000, .inl (fun _ => 0))), (a28_42, .inl (κ 0, 400, .inl (fun _ => 0)))] H := hP
  have hD : va_D A [(q_1, .inr (11, [.ref n0_2, .ref t0_3, .ref f0_4, .ref r0_5, .ref w0_6, .ref k0_7, .int 0])), (n0_2, .inr (6, [.ref n1_8, .ref n2_9, .ref n3_10, .ref n4_11, .ref n5_12, .int 0])), (n1_8, .inl (κ 0, 6, .inl dial0)), (n2_9, .inl (κ 4, 3, .inr (.inr (.inr (.inr (fun _ => none)))))), (n3_10, .inl (κ 5, 3, .inr (.inr (.inr (.inr (fun _ => none)))))), (n4_11, .inl (κ 0, 6, .inl (fun _ => 0))), (n5_12, .inl (κ 4, 6, .inr (.inr (.inr (.inr (fun _ => none)))))), (t0_3, .inr (8, [.ref t1_13, .int 0])), (t1_13, .inl (κ 0, 800, .inl (fun _ => 0))), (f0_4, .inr (2, [.int 0, .int (-1), .int (-1), .int (-1), .int (-1), .int 0])), (r0_5, .inr (4, [.ref t0_3, .ref n1_8, .ref f0_4, .ref b0_14, .int 0, .int (-1), .ref r1_15, .int 0, .ref r2_16, .ref r3_17, .int 0, .null, .ref r4_18, .int 0])), (b0_14, .inr (0, [.ref b1_19, .int 0, .long 0])), (b1_19, .inl (κ 1, 0, .inl (fun _ => 0))), (r1_15, .inl (κ 1, 20, .inl (fun _ => 0))), (r2_16, .inl (κ 2, 8, .inr (.inr (.inr (.inr (fun _ => none)))))), (r3_17, .inl (κ 0, 8, .inl (fun _ => 0))), (r4_18, .inl (κ 2, 320, .inr (.inr (.inr (.inr (fun _ => none)))))), (w0_6, .inr (10, [.ref n1_8, .ref w1_20, .int 0])), (w1_20, .inl (κ 1, 6000, .inl (fun _ => 0))), (k0_7, .inr (6, [.ref k1_21, .ref k2_22, .ref k3_23, .ref k4_24, .ref k5_25, .int 0])), (k1_21, .inl (κ 0, 6, .inl dial0)), (k2_22, .inl (κ 4, 3, .inr (.inr (.inr (.inr (fun _ => none)))))), (k3_23, .inl (κ 5, 3, .inr (.inr (.inr (.inr (fun _ => none)))))), (k4_24, .inl (κ 0, 6, .inl (fun _ => 0))), (k5_25, .inl (κ 4, 6, .inr (.inr (.inr (.inr (fun _ => none)))))), (q_28, .inr (12, [.ref a0_29, .ref a1_30, .ref a2_31, .int 0, .int 0, .ref a5_32, .int 0, .int 0, .int (-1), .int (-1), .int 0, .int 0, .int 0, .int 0, .ref a14_33, .ref a15_34, .ref a16_35, .ref a17_36, .int 0, .int 0, .ref a20_37, .ref a21_38, .int 0, .ref a23_39, .ref a24_40, .ref a25_41, .int 0, .int 0, .ref a28_42, .int 0])), (a0_29, .inl (κ 0, 21375, .inl wf0)), (a1_30, .inl (κ 0, 21375, .inl (fun _ => 0))), (a2_31, .inl (κ 0, 128214, .inl (fun _ => 0))), (a5_32, .inl (κ 0, 800, .inl (fun _ => 0))), (a14_33, .inl (κ 0, 189, .inl (fun _ => 0))), (a15_34, .inl (κ 0, 9, .inl (fun _ => 0))), (a16_35, .inl (κ 0, 9, .inl (fun _ => 0))), (a17_36, .inl (κ 0, 7123, .inl (fun _ => 0))), (a20_37, .inl (κ 0, 801, .inl (fun _ => 0))), (a21_38, .inl (κ 0, 40, .inl (fun _ => 0))), (a23_39, .inl (κ 0, 40, .inl (fun _ => 0))), (a24_40, .inl (κ 0, 40, .inl (fun _ => 0))), (a25_41, .inl (κ 0, 6000, .inl (fun _ => 0))), (a28_42, .inl (κ 0, 400, .inl (fun _ => 0)))] := hD
  refine W.eq (g2 := F0 m 15 ls [.ref q_28]) rfl ?_
  refine lv_astore_n (lv' := [(2, .ref q_28), (1, .ref q_1), (0, .ref b)]) hx hb dL_law_15 rfl hl (by decide) rfl (fun ls hl => ?_)
  refine lv_iconst (v := 0) hx hb dL_law_16 (by decide) ?_
  refine lv_istore_n (lv' := [(3, .int 0), (2, .ref q_28), (1, .ref q_1), (0, .ref b)]) hx hb dL_law_17 rfl hl (by decide) rfl (fun ls hl => ?_)
  refine W.widen (k := 40) (n := 193696) (Nat.le_of_ble_eq_true rfl) (Nat.le_of_ble_eq_true rfl) ?_
  have hP9 := hP.sub [0, 1, 2, 3, 4, 5, 6, 7, 8, 9, 10, 11, 12, 13, 14, 15, 16, 17, 18, 19, 20, 21, 22, 23, 24, 25, 26, 27, 28, 29, 30, 31, 32, 33, 34, 35, 36, 37, 38, 39] rfl
  have hP9 : va_P D vwCl [(q_1, .inr (11, [.ref n0_2, .ref t0_3, .ref f0_4, .ref r0_5, .ref w0_6, .ref k0_7, .int 0])), (n0_2, .inr (6, [.ref n1_8, .ref n2_9, .ref n3_10, .ref n4_11, .ref n5_12, .int 0])), (n1_8, .inl (κ 0, 6, .inl dial0)), (n2_9, .inl (κ 4, 3, .inr (.inr (.inr (.inr (fun _ => none)))))), (n3_10, .inl (κ 5, 3, .inr (.inr (.inr (.inr (fun _ => none)))))), (n4_11, .inl (κ 0, 6, .inl (fun _ => 0))), (n5_12, .inl (κ 4, 6, .inr (.inr (.inr (.inr (fun _ => none)))))), (t0_3, .inr (8, [.ref t1_13, .int 0])), (t1_13, .inl (κ 0, 800, .inl (fun _ => 0))), (f0_4, .inr (2, [.int 0, .int (-1), .int (-1), .int (-1), .int (-1), .int 0])), (r0_5, .inr (4, [.ref t0_3, .ref n1_8, .ref f0_4, .ref b0_14, .int 0, .int (-1), .ref r1_15, .int 0, .ref r2_16, .ref r3_17, .int 0, .null, .ref r4_18, .int 0])), (b0_14, .inr (0, [.ref b1_19, .int 0, .long 0])), (b1_19, .inl (κ 1, 0, .inl (fun _ => 0))), (r1_15, .inl (κ 1, 20, .inl (fun _ => 0))), (r2_16, .inl (κ 2, 8, .inr (.inr (.inr (.inr (fun _ => none)))))), (r3_17, .inl (κ 0, 8, .inl (fun _ => 0))), (r4_18, .inl (κ 2, 320, .inr (.inr (.inr (.inr (fun _ => none)))))), (w0_6, .inr (10, [.ref n1_8, .ref w1_20, .int 0])), (w1_20, .inl (κ 1, 6000, .inl (fun _ => 0))), (k0_7, .inr (6, [.ref k1_21, .ref k2_22, .ref k3_23, .ref k4_24, .ref k5_25, .int 0])), (k1_21, .inl (κ 0, 6, .inl dial0)), (k2_22, .inl (κ 4, 3, .inr (.inr (.inr (.inr (fun _ => none)))))), (k3_23, .inl (κ 5, 3, .inr (.inr (.inr (.inr (fun _ => none)))))), (k4_24, .inl (κ 0, 6, .inl (fun _ => 0))), (k5_25, .inl (κ 4, 6, .inr (.inr (.inr (.inr (fun _ => none)))))), (q_28, .inr (12, [.ref a0_29, .ref a1_30, .ref a2_31, .int 0, .int 0, .ref a5_32, .int 0, .int 0, .int (-1), .int (-1), .int 0, .int 0, .int 0, .int 0, .ref a14_33, .ref a15_34, .ref a16_35, .ref a17_36, .int 0, .int 0, .ref a20_37, .ref a21_38, .int 0, .ref a23_39, .ref a24_40, .ref a25_41, .int 0, .int 0, .ref a28_42, .int 0])), (a0_29, .inl (κ 0, 21375, .inl wf0)), (a1_30, .inl (κ 0, 21375, .inl (fun _ => 0))), (a2_31, .inl (κ 0, 128214, .inl (fun _ => 0))), (a5_32, .inl (κ 0, 800, .inl (fun _ => 0))), (a14_33, .inl (κ 0, 189, .inl (fun _ => 0))), (a15_34, .inl (κ 0, 9, .inl (fun _ => 0))), (a16_35, .inl (κ 0, 9, .inl (fun _ => 0))), (a17_36, .inl (κ 0, 7123, .inl (fun _ => 0))), (a20_37, .inl (κ 0, 801, .inl (fun _ => 0))), (a21_38, .inl (κ 0, 40, .inl (fun _ => 0))), (a23_39, .inl (κ 0, 40, .inl (fun _ => 0))), (a24_40, .inl (κ 0, 40, .inl (fun _ => 0))), (a25_41, .inl (κ 0, 6000, .inl (fun _ => 0))), (a28_42, .inl (κ 0, 400, .inl (fun _ => 0)))] H := hP9
  have hD9 : va_D A [(q_1, .inr (11, [.ref n0_2, .ref t0_3, .ref f0_4, .ref r0_5, .ref w0_6, .ref k0_7, .int 0])), (n0_2, .inr (6, [.ref n1_8, .ref n2_9, .ref n3_10, .ref n4_11, .ref n5_12, .int 0])), (n1_8, .inl (κ 0, 6, .inl dial0)), (n2_9, .inl (κ 4, 3, .inr (.inr (.inr (.inr (fun _ => none)))))), (n3_10, .inl (κ 5, 3, .inr (.inr (.inr (.inr (fun _ => none)))))), (n4_11, .inl (κ 0, 6, .inl (fun _ => 0))), (n5_12, .inl (κ 4, 6, .inr (.inr (.inr (.inr (fun _ => none)))))), (t0_3, .inr (8, [.ref t1_13, .int 0])), (t1_13, .inl (κ 0, 800, .inl (fun _ => 0))), (f0_4, .inr (2, [.int 0, .int (-1), .int (-1), .int (-1), .int (-1), .int 0])), (r0_5, .inr (4, [.ref t0_3, .ref n1_8, .ref f0_4, .ref b0_14, .int 0, .int (-1), .ref r1_15, .int 0, .ref r2_16, .ref r3_17, .int 0, .null, .ref r4_18, .int 0])), (b0_14, .inr (0, [.ref b1_19, .int 0, .long 0])), (b1_19, .inl (κ 1, 0, .inl (fun _ => 0))), (r1_15, .inl (κ 1, 20, .inl (fun _ => 0))), (r2_16, .inl (κ 2, 8, .inr (.inr (.inr (.inr (fun _ => none)))))), (r3_17, .inl (κ 0, 8, .inl (fun _ => 0))), (r4_18, .inl (κ 2, 320, .inr (.inr (.inr (.inr (fun _ => none)))))), (w0_6, .inr (10, [.ref n1_8, .ref w1_20, .int 0])), (w1_20, .inl (κ 1, 6000, .inl (fun _ => 0))), (k0_7, .inr (6, [.ref k1_21, .ref k2_22, .ref k3_23, .ref k4_24, .ref k5_25, .int 0])), (k1_21, .inl (κ 0, 6, .inl dial0)), (k2_22, .inl (κ 4, 3, .inr (.inr (.inr (.inr (fun _ => none)))))), (k3_23, .inl (κ 5, 3, .inr (.inr (.inr (.inr (fun _ => none)))))), (k4_24, .inl (κ 0, 6, .inl (fun _ => 0))), (k5_25, .inl (κ 4, 6, .inr (.inr (.inr (.inr (fun _ => none)))))), (q_28, .inr (12, [.ref a0_29, .ref a1_30, .ref a2_31, .int 0, .int 0, .ref a5_32, .int 0, .int 0, .int (-1), .int (-1), .int 0, .int 0, .int 0, .int 0, .ref a14_33, .ref a15_34, .ref a16_35, .ref a17_36, .int 0, .int 0, .ref a20_37, .ref a21_38, .int 0, .ref a23_39, .ref a24_40, .ref a25_41, .int 0, .int 0, .ref a28_42, .int 0])), (a0_29, .inl (κ 0, 21375, .inl wf0)), (a1_30, .inl (κ 0, 21375, .inl (fun _ => 0))), (a2_31, .inl (κ 0, 128214, .inl (fun _ => 0))), (a5_32, .inl (κ 0, 800, .inl (fun _ => 0))), (a14_33, .inl (κ 0, 189, .inl (fun _ => 0))), (a15_34, .inl (κ 0, 9, .inl (fun _ => 0))), (a16_35, .inl (κ 0, 9, .inl (fun _ => 0))), (a17_36, .inl (κ 0, 7123, .inl (fun _ => 0))), (a20_37, .inl (κ 0, 801, .inl (fun _ => 0))), (a21_38, .inl (κ 0, 40, .inl (fun _ => 0))), (a23_39, .inl (κ 0, 40, .inl (fun _ => 0))), (a24_40, .inl (κ 0, 40, .inl (fun _ => 0))), (a25_41, .inl (κ 0, 6000, .inl (fun _ => 0))), (a28_42, .inl (κ 0, 400, .inl (fun _ => 0)))] := hD.sub [0, 1, 2, 3, 4, 5, 6, 7, 8, 9, 10, 11, 12, 13, 14, 15, 16, 17, 18, 19, 20, 21, 22, 23, 24, 25, 26, 27, 28, 29, 30, 31, 32, 33, 34, 35, 36, 37, 38, 39] (by decide) rfl
  exact law_head hL C0 hKK hA hAq q_1 n0_2 t0_3 f0_4 r0_5 w0_6 k0_7 n1_8 n2_9 n3_10 n4_11 n5_12 t1_13 b0_14 r1_15 r2_16 r3_17 r4_18 b1_19 w1_20 k1_21 k2_22 k3_23 k4_24 k5_25 q_28 a0_29 a1_30 a2_31 a5_32 a14_33 a15_34 a16_35 a17_36 a20_37 a21_38 a23_39 a24_40 a25_41 a28_42 hP9 hD9 hS hl
set_option maxHeartbeats 4000000 in
theorem lw_walk (l : Launch) (hflags : l.flags = flags0) (b : Addr) (xs : List Int32) : MetFree l x (headSpec (Jvm.Cond.code x code maxLocals ret :: tables_1) room_1) (lw_P b xs) (fun _ _ _ _ _ => True) lw_Q := by
  refine MetFree.of_bodyS (code := code) (maxLocals := maxLocals) (ret := ret) (by decide) ?_ ?_
  · intro args s m h hn
    obtain ⟨meth, c, h1, h2, h3, h4, h5, h6, -, -⟩ := Cond.code_spec hn (atoms_spec (ws := Jvm.Cond.code x code maxLocals ret :: tables_1) h _ List.mem_cons_self)
    exact ⟨meth, c, h1, h2, h3, h4, h5, h6⟩
  · intro p e s m args below meth c s₁ B hml0 hP _
    obtain ⟨rfl, hx, hbd, hgv⟩ := hP
    obtain ⟨scr, harrAt, hlist, hof, hsmall⟩ := hx
    obtain ⟨hcb, hkn, -, -⟩ := State.arrayAt?_spec harrAt
    have hown : s.vm.findClass R_law = some m.cls := findClass_of_methodNamed B.named
    have hts0 : ∀ c ∈ (Jvm.Cond.code x code maxLocals ret :: tables_1), c.before #[Value.ref b] s = true := atoms_spec (ws := Jvm.Cond.code x code maxLocals ret :: tables_1) B.pre
    have hts : ∀ w ∈ lw_tbl, w.before #[Value.ref b] s = true := k2_hts_sels lw_privs (fun w hw => hts0 w (List.mem_cons_of_mem _ hw)) lw_privs_ok
    have hml : c.maxLocals = 4 := B.maxLocals_eq (hts0 _ List.mem_cons_self)
    have X₀ : Stand p l e room_1 s m #[Value.ref b] below meth c s₁ [] 0 0 := Stand.of_body B
    have hh0 : s₁.heap = s.heap := by rw [B.state]; rfl
    have hsz : scr.slots.size = xs.length := by rw [← Array.length_toList, hlist, List.length_map]
    have hval : ∀ j : Nat, j < xs.length → scr.slots[j]? = some (.int (xs.getD j 0)) := fun j hj => by
      rw [← Array.getElem?_toList, hlist]
      simp [hj]
    have hbl : b < s.heap.size := (Array.getElem?_eq_some_iff.mp hcb).1
    have hX : va_X b xs.length (fun j => xs.getD j 0) s s.heap := ⟨scr, hcb, hof, hkn, hsz, hval⟩
    have K : W p l e room_1 s m #[Value.ref b] below meth c s₁.heap [] 0 0 (lw_Z below #[Value.ref b] s) (entryFrame m ([Value.ref b] : List Value).toArray 4) := by
      rw [hh0]
      exact whole_start l hflags hbd ⟨B.exec, B.bytes, B.returns, hml, hown, hts, hX, hbl, B.notSynchronized, hgv⟩
    obtain ⟨t, a1, o, b1, b2, b3⟩ := K s₁ rfl X₀
    exact ⟨t, o, a1, b1, b2, b3⟩
theorem lw_pre_spec {args : Array Value} {s : State} (h : (Jvm.Cond.and given_1 narrow_1).before args s = true) (hr : rest_1_c.before args s = true) : ∃ (b : Addr) (xs : List Int32), lw_P b xs args s := by
  have hs := flat_of_before _ h
  have hq := flat_of_before _ hr
  have hc : (Cond.count 1).before args s = true := hs _ (by decide +kernel)
  have harr : (Cond.arrayOf (.arg 0) .int).before args s = true := hs _ (by decide +kernel)
  have hle : (Cond.le (.length (.arg 0)) (.int 6)).before args s = true := hs _ (by decide +kernel)
  have hlen : (Cond.isInt (.length (.arg 0))).before args s = true := hq _ (by decide +kernel)
  have hall : (Cond.all (.arg 0) (.isInt (.elem (.arg 0) (.index 0)))).before args s = true := hq _ (by decide +kernel)
  obtain ⟨b, xs, hb, hx⟩ := State.ints_of_pre rfl harr hlen hall
  have hsm : xs.length < 2 ^ 31 := hx.choose_spec.2.2.2
  have hev : (Term.length (.arg 0)).eval args s none [] s = some (.int xs.length.toInt32) := hx.length_eval hb
  have hv := Cond.le_ints hev (show (Term.int 6).eval args s none [] s = some (.int 6) from rfl)
  have hd : xs.length.toInt32 ≤ 6 := by
    simpa [Cond.before, Cond.holds, hv] using hle
  have hN : xs.length ≤ 6 := (Int32.ofNat_le_ofNat hsm (by decide)).mp (show Int32.ofNat xs.length ≤ Int32.ofNat 6 from hd)
  exact ⟨b, xs, Cond.one_arg hc (show args[0]? = some (.ref b) from hb), hx, hN, h⟩
theorem lw_comes (l : Launch) (hflags : l.flags = flags0) : Comes l x (Jvm.Cond.code x code maxLocals ret :: tables_1) room_1 (fun tb e args s => Calls_1 tb e args s ∧ rest_1 tb e args s ∧ Pre_1 tb e args s)
    (fun _ _ args s o t => lw_Q args s o t) := by
  intro p e ha hc hk s m args below hf hfit hheap happ hpre
  obtain ⟨b, xs, hP⟩ := lw_pre_spec hpre.2.2 hpre.2.1
  obtain ⟨k, o, h1, h2, h3, hQ⟩ := lw_walk l hflags b xs p e ha hc hk s m args below hf ((Spec.applies_iff_loose hf).mp happ).1 hP trivial
  exact ⟨k, o, h1, h2, h3, hQ⟩
theorem lw_frame {s t : State} {o : Outcome} {args : Array Value} (h : Framed s o t [] 600000 7302250) :
    Framed s o t (fieldLocs frame_1_writes args s ++ arrayLocs frame_1_arrays args s ++ staticLocs frame_1_statics s) 600000 7302250 := h
theorem lw_limb (L : Cond) (hL : ∀ (args : Array Value) (s t : State), L.after args s (.returned (some (.int 1))) t = true) :
    ArmFor flags0 classFile x code maxLocals ret World_1 tables_1 room_1 Calls_1 rest_1 Pre_1
      (fun tb e a s o t => postC L tb e a s o t ∧ Framed s o t (fieldLocs frame_1_writes a s ++ arrayLocs frame_1_arrays a s ++ staticLocs frame_1_statics s) 600000 7302250) := by
  intro l hflags _ _ p e ha hc hk s m args below hf hfit hheap happ hpre
  obtain ⟨k, o, h1, h2, h3, rfl, hF⟩ := lw_comes l hflags p e ha hc hk s m args below hf hfit hheap happ hpre
  exact ⟨k, _, h1, h2, h3, hL args s _, lw_frame hF⟩
theorem i_vc : Claimed_1_1 ∧ Claimed_1_2 := ⟨lw_limb limb_1_1 (fun args s t => by simp [limb_1_1, Cond.after, Cond.holds, Cond.value]), lw_limb limb_1_2 (fun args s t => Cond.after_iff.mpr (by
  first | (rw [show limb_1_2 = Cond.eq .result (.int 1) from rfl, Cond.eq_ints (x := 1) (y := 1) rfl rfl]; simp; done) | (simp [limb_1_2, Cond.value, Term.eval]; done)))⟩

