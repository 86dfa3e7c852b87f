def wf0 : Nat → Int32 := upd (upd (upd (fun _ => 0) 21369 44) 21370 34) 21371 1
theorem nI_i (k : Nat) : nI k + Int32.ofInt 1 = nI (k + 1) := by
  rw [show Int32.ofInt 1 = 1 from by decide]
  exact nI_1 k
theorem in_of {t : Int32} {lo hi : Int64} {a b : Int} (hlo : lo.toInt = a) (hhi : hi.toInt = b) (h1 : ¬ lg_cmp t.toInt64 lo < 0) (h2 : ¬ 0 < lg_cmp t.toInt64 hi) : a ≤ t.toInt ∧ t.toInt ≤ b := by
  rw [lg_cmp_lt, Int64.lt_iff_toInt_lt, Int32.toInt_toInt64, hlo] at h1
  rw [lg_cmp_gt, Int64.lt_iff_toInt_lt, Int32.toInt_toInt64, hhi] at h2
  omega
theorem in_no {t : Int32} {lo hi : Int64} {a b : Int} (hlo : lo.toInt = a) (hhi : hi.toInt = b) (h : lg_cmp t.toInt64 lo < 0 ∨ 0 < lg_cmp t.toInt64 hi) : t.toInt < a ∨ b < t.toInt := by
  rw [lg_cmp_lt, Int64.lt_iff_toInt_lt, Int32.toInt_toInt64, hlo, lg_cmp_gt, Int64.lt_iff_toInt_lt, Int32.toInt_toInt64, hhi] at h
  exact h
theorem mt_j {t r : Int32} (h1 : ¬ lg_cmp t.toInt64 0 < 0) (h2 : ¬ 0 < lg_cmp t.toInt64 2) (hr : r = 7123 * t + 0) : ∃ j : Nat, j ≤ 2 ∧ r = nI (7123 * j) := by
  obtain ⟨h3, h4⟩ := in_of (a := 0) (b := 2) (by decide) (by decide) h1 h2
  obtain ⟨j, hj, e, -⟩ := i_in (x := t) (n := 2) (by omega) (by omega)
  refine ⟨j, hj, ?_⟩
  rw [hr, e, Int32.add_zero]
  exact pk_mul 7123 j
theorem mt_in {t r : Int32} (h1 : ¬ lg_cmp t.toInt64 0 < 0) (h2 : ¬ 0 < lg_cmp t.toInt64 2) (hr : r = 7123 * t + 0) : vp_in r 21375 := by
  obtain ⟨j, hj, rfl⟩ := mt_j h1 h2 hr
  exact vp_in_nI (by omega) (by decide)
theorem mt_0 {t r : Int32} (h1 : ¬ lg_cmp t.toInt64 0 < 0) (h2 : ¬ 0 < lg_cmp t.toInt64 2) (hr : r = 7123 * t + 0) : wf0 r.toNatClampNeg = 0 := by
  obtain ⟨j, hj, rfl⟩ := mt_j h1 h2 hr
  rw [nI_clamp (by omega)]
  rcases (show j = 0 ∨ j = 1 ∨ j = 2 by omega) with rfl | rfl | rfl <;> decide
theorem look_o2 {a : Int32} (h : a.toInt < 6 ∨ 10 < a.toInt) (h2 : a.toInt < 0 ∨ 5 < a.toInt) : lookF a = -1 := by
  refine look_out h ?_
  rw [Int32.lt_iff_toInt_lt, Int32.le_iff_toInt_le, show (0 : Int32).toInt = 0 from by decide, show (6 : Int32).toInt = 6 from by decide]
  omega
theorem look_j {t r : Int32} (h1 : ¬ lg_cmp t.toInt64 0 < 0) (h2 : ¬ 0 < lg_cmp t.toInt64 5) (hr : r = 21369 + t) : ∃ j : Nat, j ≤ 5 ∧ t = nI j ∧ r = nI (21369 + j) := by
  obtain ⟨h3, h4⟩ := in_of (a := 0) (b := 5) (by decide) (by decide) h1 h2
  obtain ⟨j, hj, e, -⟩ := i_in (x := t) (n := 5) (by omega) (by omega)
  refine ⟨j, hj, e, ?_⟩
  rw [hr, e]
  exact nI_add 21369 j
theorem look_i {t r : Int32} (h1 : ¬ lg_cmp t.toInt64 0 < 0) (h2 : ¬ 0 < lg_cmp t.toInt64 5) (hr : r = 21369 + t) : vp_in r 21375 := by
  obtain ⟨j, hj, -, rfl⟩ := look_j h1 h2 hr
  exact vp_in_nI (by omega) (by decide)
theorem look_m {t r : Int32} (h1 : ¬ lg_cmp t.toInt64 0 < 0) (h2 : ¬ 0 < lg_cmp t.toInt64 5) (hr : r = 21369 + t) : wf0 r.toNatClampNeg = lookF t := by
  obtain ⟨j, hj, e, rfl⟩ := look_j h1 h2 hr
  rw [nI_clamp (by omega), e]
  rcases (show j = 0 ∨ j = 1 ∨ j = 2 ∨ j = 3 ∨ j = 4 ∨ j = 5 by omega) with rfl | rfl | rfl | rfl | rfl | rfl <;> decide
theorem end_0 {t : Int32} (h1 : ¬ lg_cmp t.toInt64 0 < 0) (h2 : ¬ 0 < lg_cmp t.toInt64 0) : t = 0 := by
  obtain ⟨h3, h4⟩ := in_of (a := 0) (b := 0) (by decide) (by decide) h1 h2
  exact Int32.toInt_inj.mp (by rw [show (0 : Int32).toInt = 0 from by decide]; omega)
theorem end_a {t : Int32} (h1 : ¬ lg_cmp t.toInt64 0 < 0) (h2 : ¬ 0 < lg_cmp t.toInt64 0) : ¬ t < 0 := by
  rw [end_0 h1 h2]; decide
theorem end_b {t : Int32} (h1 : ¬ lg_cmp t.toInt64 0 < 0) (h2 : ¬ 0 < lg_cmp t.toInt64 0) : t ≤ 0 := by
  rw [end_0 h1 h2]; decide
theorem end_c {t : Int32} (h : lg_cmp t.toInt64 0 < 0 ∨ 0 < lg_cmp t.toInt64 0) : t < 0 ∨ ¬ t ≤ 0 := by
  have h3 := in_no (a := 0) (b := 0) (by decide) (by decide) h
  rw [Int32.lt_iff_toInt_lt, Int32.le_iff_toInt_le, show (0 : Int32).toInt = 0 from by decide]
  omega
theorem canD4 {a b : Int32} (e : a = 4) (h1 : ¬ lg_cmp b.toInt64 0 < 0) (h2 : ¬ 0 < lg_cmp b.toInt64 3) : canD a b := by
  obtain ⟨h3, h4⟩ := in_of (a := 0) (b := 3) (by decide) (by decide) h1 h2
  refine Or.inr (Or.inr (Or.inr (Or.inr (Or.inl ⟨e, ?_, ?_⟩))))
  · rw [Int32.lt_iff_toInt_lt, show (0 : Int32).toInt = 0 from by decide]; omega
  · rw [Int32.le_iff_toInt_le, show (3 : Int32).toInt = 3 from by decide]; omega
theorem canDn {a b : Int32} (e : a = 4) (h : lg_cmp b.toInt64 0 < 0 ∨ 0 < lg_cmp b.toInt64 3) : ¬ canD a b := by
  have h3 := in_no (a := 0) (b := 3) (by decide) (by decide) h
  subst e
  rintro (⟨h, _⟩ | ⟨h, _⟩ | ⟨h, _⟩ | ⟨h, _⟩ | ⟨_, h1, h2⟩ | ⟨h, _⟩)
  · exact absurd h (by decide)
  · exact absurd h (by decide)
  · exact absurd h (by decide)
  · exact absurd h (by decide)
  · rw [Int32.lt_iff_toInt_lt, show (0 : Int32).toInt = 0 from by decide] at h1
    rw [Int32.le_iff_toInt_le, show (3 : Int32).toInt = 3 from by decide] at h2
    omega
  · exact absurd h (by decide)
theorem mw_218 : Cond.code yX12_isIn cX12_isIn 6 (some .boolean) ∈ wsL_law := List.mem_of_getElem? (i := 218) (by decide +kernel)
theorem dX12_isIn_0 : decode cX12_isIn 0 = .ok (.lload_n 0, 1) := by decide +kernel
theorem dX12_isIn_1 : decode cX12_isIn 1 = .ok (.lload_n 2, 1) := by decide +kernel
theorem dX12_isIn_2 : decode cX12_isIn 2 = .ok (.lcmp, 1) := by decide +kernel
theorem dX12_isIn_3 : decode cX12_isIn 3 = .ok (.ifCond .lt 14, 3) := by decide +kernel
theorem dX12_isIn_17 : decode cX12_isIn 17 = .ok (.iconst 0, 1) := by decide +kernel
theorem dX12_isIn_18 : decode cX12_isIn 18 = .ok (.ireturn, 1) := by decide +kernel
theorem dX12_isIn_6 : decode cX12_isIn 6 = .ok (.lload_n 0, 1) := by decide +kernel
theorem dX12_isIn_7 : decode cX12_isIn 7 = .ok (.lload 4, 2) := by decide +kernel
theorem dX12_isIn_9 : decode cX12_isIn 9 = .ok (.lcmp, 1) := by decide +kernel
theorem dX12_isIn_10 : decode cX12_isIn 10 = .ok (.ifCond .gt 7, 3) := by decide +kernel
theorem dX12_isIn_13 : decode cX12_isIn 13 = .ok (.iconst 1, 1) := by decide +kernel
theorem dX12_isIn_14 : decode cX12_isIn 14 = .ok (.goto 4, 3) := by decide +kernel
theorem mw_536 : Cond.code yX12_at cX12_at 2 (some .int) ∈ wsL_law := List.mem_of_getElem? (i := 536) (by decide +kernel)
theorem dX12_at_0 : decode cX12_at 0 = .ok (.sipush 7123, 3) := by decide +kernel
theorem dX12_at_3 : decode cX12_at 3 = .ok (.iload_n 0, 1) := by decide +kernel
theorem dX12_at_4 : decode cX12_at 4 = .ok (.imul, 1) := by decide +kernel
theorem dX12_at_5 : decode cX12_at 5 = .ok (.iload_n 1, 1) := by decide +kernel
theorem dX12_at_6 : decode cX12_at 6 = .ok (.iadd, 1) := by decide +kernel
theorem dX12_at_7 : decode cX12_at 7 = .ok (.ireturn, 1) := by decide +kernel
theorem mw_623 : Cond.code yX12_isTable cX12_isTable 2 (some .boolean) ∈ wsL_law := List.mem_of_getElem? (i := 623) (by decide +kernel)
theorem dX12_isTable_0 : decode cX12_isTable 0 = .ok (.iload_n 1, 1) := by decide +kernel
theorem dX12_isTable_1 : decode cX12_isTable 1 = .ok (.i2l, 1) := by decide +kernel
theorem dX12_isTable_2 : decode cX12_isTable 2 = .ok (.lconst 0, 1) := by decide +kernel
theorem dX12_isTable_3 : decode cX12_isTable 3 = .ok (.ldc2_w 60, 3) := by decide +kernel
theorem mw_413 : Cond.constantLong RX12 60 (2) ∈ wsL_law := List.mem_of_getElem? (i := 413) (by decide +kernel)
theorem dX12_isTable_6 : decode cX12_isTable 6 = .ok (.invokestatic 62, 3) := by decide +kernel
theorem mw_216 : Cond.methodLink RX12 62 yX12_isIn ∈ wsL_law := List.mem_of_getElem? (i := 216) (by decide +kernel)
theorem mw_5 : Cond.initialized RX12 ∈ wsL_law := List.mem_of_getElem? (i := 5) (by decide +kernel)
theorem mw_217 : Cond.static yX12_isIn ∈ wsL_law := List.mem_of_getElem? (i := 217) (by decide +kernel)
theorem gS_X12_62 : GoodIn wsL_law (va_wsS RX12 62 yX12_isIn (wl yX12_isIn cX12_isIn 6 (some .boolean))) := g_S mw_216 mw_217 mw_5 mw_218
theorem hdS_X12_isIn : okD yX12_isIn 3 := by decide +kernel
theorem dX12_isTable_9 : decode cX12_isTable 9 = .ok (.ifCond .eq 21, 3) := by decide +kernel
theorem dX12_isTable_12 : decode cX12_isTable 12 = .ok (.aload_n 0, 1) := by decide +kernel
theorem dX12_isTable_13 : decode cX12_isTable 13 = .ok (.getfield 9, 3) := by decide +kernel
theorem mw_187 : Cond.fieldLink RX12 9 "TypedTablesModel" "w" "[I" ∈ wsL_law := List.mem_of_getElem? (i := 187) (by decide +kernel)
theorem dX12_isTable_16 : decode cX12_isTable 16 = .ok (.iload_n 1, 1) := by decide +kernel
theorem dX12_isTable_17 : decode cX12_isTable 17 = .ok (.iconst 0, 1) := by decide +kernel
theorem dX12_isTable_18 : decode cX12_isTable 18 = .ok (.invokestatic 66, 3) := by decide +kernel
theorem mw_534 : Cond.methodLink RX12 66 yX12_at ∈ wsL_law := List.mem_of_getElem? (i := 534) (by decide +kernel)
theorem mw_535 : Cond.static yX12_at ∈ wsL_law := List.mem_of_getElem? (i := 535) (by decide +kernel)
theorem gS_X12_66 : GoodIn wsL_law (va_wsS RX12 66 yX12_at (wl yX12_at cX12_at 2 (some .int))) := g_S mw_534 mw_535 mw_5 mw_536
theorem hdS_X12_at : okD yX12_at 2 := by decide +kernel
theorem dX12_isTable_21 : decode cX12_isTable 21 = .ok (.iaload, 1) := by decide +kernel
theorem dX12_isTable_22 : decode cX12_isTable 22 = .ok (.iconst 1, 1) := by decide +kernel
theorem dX12_isTable_23 : decode cX12_isTable 23 = .ok (.if_icmp .ne 7, 3) := by decide +kernel
theorem dX12_isTable_30 : decode cX12_isTable 30 = .ok (.iconst 0, 1) := by decide +kernel
theorem dX12_isTable_31 : decode cX12_isTable 31 = .ok (.ireturn, 1) := by decide +kernel
theorem mw_627 : Cond.code yX12_isColumn cX12_isColumn 3 (some .boolean) ∈ wsL_law := List.mem_of_getElem? (i := 627) (by decide +kernel)
theorem dX12_isColumn_0 : decode cX12_isColumn 0 = .ok (.aload_n 0, 1) := by decide +kernel
theorem dX12_isColumn_1 : decode cX12_isColumn 1 = .ok (.iload_n 1, 1) := by decide +kernel
theorem dX12_isColumn_2 : decode cX12_isColumn 2 = .ok (.invokevirtual 70, 3) := by decide +kernel
theorem mw_620 : Cond.methodLink RX12 70 yX12_isTable ∈ wsL_law := List.mem_of_getElem? (i := 620) (by decide +kernel)
theorem mw_621 : Cond.instanceMethod yX12_isTable ∈ wsL_law := List.mem_of_getElem? (i := 621) (by decide +kernel)
theorem mw_622 : Cond.selects RX12 yX12_isTable yX12_isTable ∈ wsL_law := List.mem_of_getElem? (i := 622) (by decide +kernel)
theorem gV_X12_70 : GoodIn wsL_law (wsV RX12 70 RX12 yX12_isTable (wl yX12_isTable cX12_isTable 2 (some .boolean))) := g_V mw_620 mw_621 mw_622 mw_5 mw_623
theorem hdV_X12_isTable : yX12_isTable.cls = RX12 ∧ okD yX12_isTable 1 := by decide +kernel
theorem dX12_isColumn_5 : decode cX12_isColumn 5 = .ok (.ifCond .eq 29, 3) := by decide +kernel
theorem dX12_isColumn_34 : decode cX12_isColumn 34 = .ok (.iconst 0, 1) := by decide +kernel
theorem dX12_isColumn_35 : decode cX12_isColumn 35 = .ok (.ireturn, 1) := by decide +kernel
theorem mw_619 : Cond.code yX12_isRow cX12_isRow 3 (some .boolean) ∈ wsL_law := List.mem_of_getElem? (i := 619) (by decide +kernel)
theorem dX12_isRow_0 : decode cX12_isRow 0 = .ok (.aload_n 0, 1) := by decide +kernel
theorem dX12_isRow_1 : decode cX12_isRow 1 = .ok (.iload_n 1, 1) := by decide +kernel
theorem dX12_isRow_2 : decode cX12_isRow 2 = .ok (.invokevirtual 70, 3) := by decide +kernel
theorem dX12_isRow_5 : decode cX12_isRow 5 = .ok (.ifCond .eq 29, 3) := by decide +kernel
theorem dX12_isRow_34 : decode cX12_isRow 34 = .ok (.iconst 0, 1) := by decide +kernel
theorem dX12_isRow_35 : decode cX12_isRow 35 = .ok (.ireturn, 1) := by decide +kernel
theorem mw_1033 : Cond.code yX12_mayView cX12_mayView 3 (some .boolean) ∈ wsL_law := List.mem_of_getElem? (i := 1033) (by decide +kernel)
theorem dX12_mayView_0 : decode cX12_mayView 0 = .ok (.aload_n 0, 1) := by decide +kernel
theorem dX12_mayView_1 : decode cX12_mayView 1 = .ok (.iload_n 1, 1) := by decide +kernel
theorem dX12_mayView_2 : decode cX12_mayView 2 = .ok (.iload_n 2, 1) := by decide +kernel
theorem dX12_mayView_3 : decode cX12_mayView 3 = .ok (.invokevirtual 312, 3) := by decide +kernel
theorem mw_624 : Cond.methodLink RX12 312 yX12_isColumn ∈ wsL_law := List.mem_of_getElem? (i := 624) (by decide +kernel)
theorem mw_625 : Cond.instanceMethod yX12_isColumn ∈ wsL_law := List.mem_of_getElem? (i := 625) (by decide +kernel)
theorem mw_626 : Cond.selects RX12 yX12_isColumn yX12_isColumn ∈ wsL_law := List.mem_of_getElem? (i := 626) (by decide +kernel)
theorem gV_X12_312 : GoodIn wsL_law (wsV RX12 312 RX12 yX12_isColumn (wl yX12_isColumn cX12_isColumn 3 (some .boolean))) := g_V mw_624 mw_625 mw_626 mw_5 mw_627
theorem hdV_X12_isColumn : yX12_isColumn.cls = RX12 ∧ okD yX12_isColumn 2 := by decide +kernel
theorem dX12_mayView_6 : decode cX12_mayView 6 = .ok (.ifCond .eq 22, 3) := by decide +kernel
theorem dX12_mayView_28 : decode cX12_mayView 28 = .ok (.iconst 0, 1) := by decide +kernel
theorem dX12_mayView_29 : decode cX12_mayView 29 = .ok (.ireturn, 1) := by decide +kernel
theorem mw_708 : Cond.code yX12_out cX12_out 6 (some .int) ∈ wsL_law := List.mem_of_getElem? (i := 708) (by decide +kernel)
theorem dX12_out_0 : decode cX12_out 0 = .ok (.aload_n 0, 1) := by decide +kernel
theorem dX12_out_1 : decode cX12_out 1 = .ok (.iload_n 1, 1) := by decide +kernel
theorem dX12_out_2 : decode cX12_out 2 = .ok (.iload_n 2, 1) := by decide +kernel
theorem dX12_out_3 : decode cX12_out 3 = .ok (.invokevirtual 309, 3) := by decide +kernel
theorem mw_616 : Cond.methodLink RX12 309 yX12_isRow ∈ wsL_law := List.mem_of_getElem? (i := 616) (by decide +kernel)
theorem mw_617 : Cond.instanceMethod yX12_isRow ∈ wsL_law := List.mem_of_getElem? (i := 617) (by decide +kernel)
theorem mw_618 : Cond.selects RX12 yX12_isRow yX12_isRow ∈ wsL_law := List.mem_of_getElem? (i := 618) (by decide +kernel)
theorem gV_X12_309 : GoodIn wsL_law (wsV RX12 309 RX12 yX12_isRow (wl yX12_isRow cX12_isRow 3 (some .boolean))) := g_V mw_616 mw_617 mw_618 mw_5 mw_619
theorem hdV_X12_isRow : yX12_isRow.cls = RX12 ∧ okD yX12_isRow 2 := by decide +kernel
theorem dX12_out_6 : decode cX12_out 6 = .ok (.ifCond .ne 5, 3) := by decide +kernel
theorem dX12_out_9 : decode cX12_out 9 = .ok (.iconst (-1), 1) := by decide +kernel
theorem dX12_out_10 : decode cX12_out 10 = .ok (.ireturn, 1) := by decide +kernel
theorem mw_754 : Cond.code yX12_away cX12_away 7 (some .int) ∈ wsL_law := List.mem_of_getElem? (i := 754) (by decide +kernel)
theorem dX12_away_0 : decode cX12_away 0 = .ok (.aload_n 0, 1) := by decide +kernel
theorem dX12_away_1 : decode cX12_away 1 = .ok (.iload_n 1, 1) := by decide +kernel
theorem dX12_away_2 : decode cX12_away 2 = .ok (.iload_n 2, 1) := by decide +kernel
theorem dX12_away_3 : decode cX12_away 3 = .ok (.invokevirtual 312, 3) := by decide +kernel
theorem dX12_away_6 : decode cX12_away 6 = .ok (.ifCond .eq 17, 3) := by decide +kernel
theorem dX12_away_23 : decode cX12_away 23 = .ok (.iconst (-1), 1) := by decide +kernel
theorem dX12_away_24 : decode cX12_away 24 = .ok (.ireturn, 1) := by decide +kernel
theorem mw_771 : Cond.code yX12_type cX12_type 4 (some .boolean) ∈ wsL_law := List.mem_of_getElem? (i := 771) (by decide +kernel)
theorem dX12_type_0 : decode cX12_type 0 = .ok (.aload_n 0, 1) := by decide +kernel
theorem dX12_type_1 : decode cX12_type 1 = .ok (.iload_n 1, 1) := by decide +kernel
theorem dX12_type_2 : decode cX12_type 2 = .ok (.iload_n 2, 1) := by decide +kernel
theorem dX12_type_3 : decode cX12_type 3 = .ok (.invokevirtual 312, 3) := by decide +kernel
theorem dX12_type_6 : decode cX12_type 6 = .ok (.ifCond .eq 20, 3) := by decide +kernel
theorem dX12_type_26 : decode cX12_type 26 = .ok (.iconst 0, 1) := by decide +kernel
theorem dX12_type_27 : decode cX12_type 27 = .ok (.ireturn, 1) := by decide +kernel
theorem mw_905 : Cond.code yX12_joined cX12_joined 8 (some .int) ∈ wsL_law := List.mem_of_getElem? (i := 905) (by decide +kernel)
theorem dX12_joined_0 : decode cX12_joined 0 = .ok (.aload_n 0, 1) := by decide +kernel
theorem dX12_joined_1 : decode cX12_joined 1 = .ok (.iload_n 1, 1) := by decide +kernel
theorem dX12_joined_2 : decode cX12_joined 2 = .ok (.iload_n 2, 1) := by decide +kernel
theorem dX12_joined_3 : decode cX12_joined 3 = .ok (.invokevirtual 312, 3) := by decide +kernel
theorem dX12_joined_6 : decode cX12_joined 6 = .ok (.ifCond .eq 38, 3) := by decide +kernel
theorem dX12_joined_44 : decode cX12_joined 44 = .ok (.iconst (-1), 1) := by decide +kernel
theorem dX12_joined_45 : decode cX12_joined 45 = .ok (.ireturn, 1) := by decide +kernel
theorem mw_977 : Cond.code yX12_undo cX12_undo 2 (some .int) ∈ wsL_law := List.mem_of_getElem? (i := 977) (by decide +kernel)
theorem dX12_undo_0 : decode cX12_undo 0 = .ok (.aload_n 0, 1) := by decide +kernel
theorem dX12_undo_1 : decode cX12_undo 1 = .ok (.getfield 74, 3) := by decide +kernel
theorem mw_533 : Cond.fieldLink RX12 74 "TypedTablesModel" "undoMany" "I" ∈ wsL_law := List.mem_of_getElem? (i := 533) (by decide +kernel)
theorem dX12_undo_4 : decode cX12_undo 4 = .ok (.ifCond .ne 5, 3) := by decide +kernel
theorem dX12_undo_7 : decode cX12_undo 7 = .ok (.iconst (-1), 1) := by decide +kernel
theorem dX12_undo_8 : decode cX12_undo 8 = .ok (.ireturn, 1) := by decide +kernel
theorem mw_1061 : Cond.code yX12_order cX12_order 4 (some .int) ∈ wsL_law := List.mem_of_getElem? (i := 1061) (by decide +kernel)
theorem dX12_order_0 : decode cX12_order 0 = .ok (.aload_n 0, 1) := by decide +kernel
theorem dX12_order_1 : decode cX12_order 1 = .ok (.iload_n 1, 1) := by decide +kernel
theorem dX12_order_2 : decode cX12_order 2 = .ok (.iload_n 2, 1) := by decide +kernel
theorem dX12_order_3 : decode cX12_order 3 = .ok (.invokevirtual 336, 3) := by decide +kernel
theorem mw_1030 : Cond.methodLink RX12 336 yX12_mayView ∈ wsL_law := List.mem_of_getElem? (i := 1030) (by decide +kernel)
theorem mw_1031 : Cond.instanceMethod yX12_mayView ∈ wsL_law := List.mem_of_getElem? (i := 1031) (by decide +kernel)
theorem mw_1032 : Cond.selects RX12 yX12_mayView yX12_mayView ∈ wsL_law := List.mem_of_getElem? (i := 1032) (by decide +kernel)
theorem gV_X12_336 : GoodIn wsL_law (wsV RX12 336 RX12 yX12_mayView (wl yX12_mayView cX12_mayView 3 (some .boolean))) := g_V mw_1030 mw_1031 mw_1032 mw_5 mw_1033
theorem hdV_X12_mayView : yX12_mayView.cls = RX12 ∧ okD yX12_mayView 2 := by decide +kernel
theorem dX12_order_6 : decode cX12_order 6 = .ok (.ifCond .ne 5, 3) := by decide +kernel
theorem dX12_order_9 : decode cX12_order 9 = .ok (.iconst (-1), 1) := by decide +kernel
theorem dX12_order_10 : decode cX12_order 10 = .ok (.ireturn, 1) := by decide +kernel
theorem mw_1093 : Cond.code yX12_cut cX12_cut 5 (some .int) ∈ wsL_law := List.mem_of_getElem? (i := 1093) (by decide +kernel)
theorem dX12_cut_0 : decode cX12_cut 0 = .ok (.aload_n 0, 1) := by decide +kernel
theorem dX12_cut_1 : decode cX12_cut 1 = .ok (.iload_n 1, 1) := by decide +kernel
theorem dX12_cut_2 : decode cX12_cut 2 = .ok (.invokevirtual 70, 3) := by decide +kernel
theorem dX12_cut_5 : decode cX12_cut 5 = .ok (.ifCond .eq 26, 3) := by decide +kernel
theorem dX12_cut_31 : decode cX12_cut 31 = .ok (.iconst (-1), 1) := by decide +kernel
theorem dX12_cut_32 : decode cX12_cut 32 = .ok (.ireturn, 1) := by decide +kernel
theorem mw_1113 : Cond.code yX12_unlike cX12_unlike 3 (some .int) ∈ wsL_law := List.mem_of_getElem? (i := 1113) (by decide +kernel)
theorem dX12_unlike_0 : decode cX12_unlike 0 = .ok (.aload_n 0, 1) := by decide +kernel
theorem dX12_unlike_1 : decode cX12_unlike 1 = .ok (.iload_n 1, 1) := by decide +kernel
theorem dX12_unlike_2 : decode cX12_unlike 2 = .ok (.iload_n 2, 1) := by decide +kernel
theorem dX12_unlike_3 : decode cX12_unlike 3 = .ok (.invokevirtual 336, 3) := by decide +kernel
theorem dX12_unlike_6 : decode cX12_unlike 6 = .ok (.ifCond .ne 5, 3) := by decide +kernel
theorem dX12_unlike_9 : decode cX12_unlike 9 = .ok (.iconst (-1), 1) := by decide +kernel
theorem dX12_unlike_10 : decode cX12_unlike 10 = .ok (.ireturn, 1) := by decide +kernel
theorem mw_1131 : Cond.code yX12_back cX12_back 2 (some .int) ∈ wsL_law := List.mem_of_getElem? (i := 1131) (by decide +kernel)
theorem dX12_back_0 : decode cX12_back 0 = .ok (.aload_n 0, 1) := by decide +kernel
theorem dX12_back_1 : decode cX12_back 1 = .ok (.iload_n 1, 1) := by decide +kernel
theorem dX12_back_2 : decode cX12_back 2 = .ok (.invokevirtual 70, 3) := by decide +kernel
theorem dX12_back_5 : decode cX12_back 5 = .ok (.ifCond .eq 16, 3) := by decide +kernel
theorem dX12_back_21 : decode cX12_back 21 = .ok (.iconst (-1), 1) := by decide +kernel
theorem dX12_back_22 : decode cX12_back 22 = .ok (.ireturn, 1) := by decide +kernel
theorem mw_1139 : Cond.code yX12_view cX12_view 3 (some .int) ∈ wsL_law := List.mem_of_getElem? (i := 1139) (by decide +kernel)
theorem dX12_view_0 : decode cX12_view 0 = .ok (.aload_n 0, 1) := by decide +kernel
theorem dX12_view_1 : decode cX12_view 1 = .ok (.iload_n 1, 1) := by decide +kernel
theorem dX12_view_2 : decode cX12_view 2 = .ok (.invokevirtual 70, 3) := by decide +kernel
theorem dX12_view_5 : decode cX12_view 5 = .ok (.ifCond .ne 5, 3) := by decide +kernel
theorem dX12_view_8 : decode cX12_view 8 = .ok (.iconst (-1), 1) := by decide +kernel
theorem dX12_view_9 : decode cX12_view 9 = .ok (.ireturn, 1) := by decide +kernel
theorem mw_1152 : Cond.code yX12_table cX12_table 3 (some .int) ∈ wsL_law := List.mem_of_getElem? (i := 1152) (by decide +kernel)
theorem dX12_table_0 : decode cX12_table 0 = .ok (.aload_n 0, 1) := by decide +kernel
theorem dX12_table_1 : decode cX12_table 1 = .ok (.iload_n 1, 1) := by decide +kernel
theorem dX12_table_2 : decode cX12_table 2 = .ok (.invokevirtual 70, 3) := by decide +kernel
theorem dX12_table_5 : decode cX12_table 5 = .ok (.ifCond .ne 5, 3) := by decide +kernel
theorem dX12_table_8 : decode cX12_table 8 = .ok (.iconst (-1), 1) := by decide +kernel
theorem dX12_table_9 : decode cX12_table 9 = .ok (.ireturn, 1) := by decide +kernel
theorem mw_1179 : Cond.code yX12_column cX12_column 5 (some .int) ∈ wsL_law := List.mem_of_getElem? (i := 1179) (by decide +kernel)
theorem dX12_column_0 : decode cX12_column 0 = .ok (.aload_n 0, 1) := by decide +kernel
theorem dX12_column_1 : decode cX12_column 1 = .ok (.iload_n 1, 1) := by decide +kernel
theorem dX12_column_2 : decode cX12_column 2 = .ok (.iload_n 2, 1) := by decide +kernel
theorem dX12_column_3 : decode cX12_column 3 = .ok (.invokevirtual 312, 3) := by decide +kernel
theorem dX12_column_6 : decode cX12_column 6 = .ok (.ifCond .ne 5, 3) := by decide +kernel
theorem dX12_column_9 : decode cX12_column 9 = .ok (.iconst (-1), 1) := by decide +kernel
theorem dX12_column_10 : decode cX12_column 10 = .ok (.ireturn, 1) := by decide +kernel
theorem mw_1195 : Cond.code yX12_nameAt_ cX12_nameAt_ 4 (some .int) ∈ wsL_law := List.mem_of_getElem? (i := 1195) (by decide +kernel)
theorem dX12_nameAt__0 : decode cX12_nameAt_ 0 = .ok (.aload_n 0, 1) := by decide +kernel
theorem dX12_nameAt__1 : decode cX12_nameAt_ 1 = .ok (.iload_n 1, 1) := by decide +kernel
theorem dX12_nameAt__2 : decode cX12_nameAt_ 2 = .ok (.iload_n 2, 1) := by decide +kernel
theorem dX12_nameAt__3 : decode cX12_nameAt_ 3 = .ok (.invokevirtual 312, 3) := by decide +kernel
theorem dX12_nameAt__6 : decode cX12_nameAt_ 6 = .ok (.ifCond .eq 42, 3) := by decide +kernel
theorem dX12_nameAt__48 : decode cX12_nameAt_ 48 = .ok (.iconst (-1), 1) := by decide +kernel
theorem dX12_nameAt__49 : decode cX12_nameAt_ 49 = .ok (.ireturn, 1) := by decide +kernel
theorem mw_1212 : Cond.code yX12_proof cX12_proof 5 (some .int) ∈ wsL_law := List.mem_of_getElem? (i := 1212) (by decide +kernel)
theorem dX12_proof_0 : decode cX12_proof 0 = .ok (.aload_n 0, 1) := by decide +kernel
theorem dX12_proof_1 : decode cX12_proof 1 = .ok (.iload_n 1, 1) := by decide +kernel
theorem dX12_proof_2 : decode cX12_proof 2 = .ok (.iload_n 2, 1) := by decide +kernel
theorem dX12_proof_3 : decode cX12_proof 3 = .ok (.invokevirtual 312, 3) := by decide +kernel
theorem dX12_proof_6 : decode cX12_proof 6 = .ok (.ifCond .eq 21, 3) := by decide +kernel
theorem dX12_proof_27 : decode cX12_proof 27 = .ok (.iconst (-1), 1) := by decide +kernel
theorem dX12_proof_28 : decode cX12_proof 28 = .ok (.ireturn, 1) := by decide +kernel
theorem mw_1220 : Cond.code yX12_against cX12_against 4 (some .int) ∈ wsL_law := List.mem_of_getElem? (i := 1220) (by decide +kernel)
theorem dX12_against_0 : decode cX12_against 0 = .ok (.aload_n 0, 1) := by decide +kernel
theorem dX12_against_1 : decode cX12_against 1 = .ok (.iload_n 1, 1) := by decide +kernel
theorem dX12_against_2 : decode cX12_against 2 = .ok (.iload_n 2, 1) := by decide +kernel
theorem dX12_against_3 : decode cX12_against 3 = .ok (.invokevirtual 312, 3) := by decide +kernel
theorem dX12_against_6 : decode cX12_against 6 = .ok (.ifCond .eq 25, 3) := by decide +kernel
theorem dX12_against_31 : decode cX12_against 31 = .ok (.iconst (-1), 1) := by decide +kernel
theorem dX12_against_32 : decode cX12_against 32 = .ok (.ireturn, 1) := by decide +kernel
theorem mw_1235 : Cond.code yX12_cell cX12_cell 5 (some .int) ∈ wsL_law := List.mem_of_getElem? (i := 1235) (by decide +kernel)
theorem dX12_cell_0 : decode cX12_cell 0 = .ok (.aload_n 0, 1) := by decide +kernel
theorem dX12_cell_1 : decode cX12_cell 1 = .ok (.iload_n 1, 1) := by decide +kernel
theorem dX12_cell_2 : decode cX12_cell 2 = .ok (.iload_n 2, 1) := by decide +kernel
theorem dX12_cell_3 : decode cX12_cell 3 = .ok (.invokevirtual 309, 3) := by decide +kernel
theorem dX12_cell_6 : decode cX12_cell 6 = .ok (.ifCond .eq 12, 3) := by decide +kernel
theorem dX12_cell_18 : decode cX12_cell 18 = .ok (.iconst (-1), 1) := by decide +kernel
theorem dX12_cell_19 : decode cX12_cell 19 = .ok (.ireturn, 1) := by decide +kernel
theorem mw_1247 : Cond.code yX12_cellAt_ cX12_cellAt_ 5 (some .int) ∈ wsL_law := List.mem_of_getElem? (i := 1247) (by decide +kernel)
theorem dX12_cellAt__0 : decode cX12_cellAt_ 0 = .ok (.aload_n 0, 1) := by decide +kernel
theorem dX12_cellAt__1 : decode cX12_cellAt_ 1 = .ok (.iload_n 1, 1) := by decide +kernel
theorem dX12_cellAt__2 : decode cX12_cellAt_ 2 = .ok (.iload_n 2, 1) := by decide +kernel
theorem dX12_cellAt__3 : decode cX12_cellAt_ 3 = .ok (.invokevirtual 309, 3) := by decide +kernel
theorem dX12_cellAt__6 : decode cX12_cellAt_ 6 = .ok (.ifCond .eq 36, 3) := by decide +kernel
theorem dX12_cellAt__42 : decode cX12_cellAt_ 42 = .ok (.iconst (-1), 1) := by decide +kernel
theorem dX12_cellAt__43 : decode cX12_cellAt_ 43 = .ok (.ireturn, 1) := by decide +kernel
theorem mw_1258 : Cond.code yX12_value cX12_value 4 (some .long) ∈ wsL_law := List.mem_of_getElem? (i := 1258) (by decide +kernel)
theorem dX12_value_0 : decode cX12_value 0 = .ok (.aload_n 0, 1) := by decide +kernel
theorem dX12_value_1 : decode cX12_value 1 = .ok (.iload_n 1, 1) := by decide +kernel
theorem dX12_value_2 : decode cX12_value 2 = .ok (.iload_n 2, 1) := by decide +kernel
theorem dX12_value_3 : decode cX12_value 3 = .ok (.invokevirtual 309, 3) := by decide +kernel
theorem dX12_value_6 : decode cX12_value 6 = .ok (.ifCond .eq 26, 3) := by decide +kernel
theorem dX12_value_32 : decode cX12_value 32 = .ok (.ldc2_w 382, 3) := by decide +kernel
theorem mw_1259 : Cond.constantLong RX12 382 (-100000000000000) ∈ wsL_law := List.mem_of_getElem? (i := 1259) (by decide +kernel)
theorem dX12_value_35 : decode cX12_value 35 = .ok (.lreturn, 1) := by decide +kernel
theorem mw_1268 : Cond.code yX12_compare cX12_compare 5 (some .int) ∈ wsL_law := List.mem_of_getElem? (i := 1268) (by decide +kernel)
theorem dX12_compare_0 : decode cX12_compare 0 = .ok (.aload_n 0, 1) := by decide +kernel
theorem dX12_compare_1 : decode cX12_compare 1 = .ok (.iload_n 1, 1) := by decide +kernel
theorem dX12_compare_2 : decode cX12_compare 2 = .ok (.iload_n 2, 1) := by decide +kernel
theorem dX12_compare_3 : decode cX12_compare 3 = .ok (.invokevirtual 312, 3) := by decide +kernel
theorem dX12_compare_6 : decode cX12_compare 6 = .ok (.ifCond .eq 34, 3) := by decide +kernel
theorem dX12_compare_40 : decode cX12_compare 40 = .ok (.iconst (-1), 1) := by decide +kernel
theorem dX12_compare_41 : decode cX12_compare 41 = .ok (.ireturn, 1) := by decide +kernel
theorem mw_1315 : Cond.code yX12_over cX12_over 4 (some .long) ∈ wsL_law := List.mem_of_getElem? (i := 1315) (by decide +kernel)
theorem dX12_over_0 : decode cX12_over 0 = .ok (.aload_n 0, 1) := by decide +kernel
theorem dX12_over_1 : decode cX12_over 1 = .ok (.iload_n 1, 1) := by decide +kernel
theorem dX12_over_2 : decode cX12_over 2 = .ok (.iload_n 2, 1) := by decide +kernel
theorem dX12_over_3 : decode cX12_over 3 = .ok (.invokevirtual 312, 3) := by decide +kernel
theorem dX12_over_6 : decode cX12_over 6 = .ok (.ifCond .eq 15, 3) := by decide +kernel
theorem dX12_over_21 : decode cX12_over 21 = .ok (.ldc2_w 382, 3) := by decide +kernel
theorem dX12_over_24 : decode cX12_over 24 = .ok (.lreturn, 1) := by decide +kernel
theorem mw_1366 : Cond.code yX12_group cX12_group 11 (some .long) ∈ wsL_law := List.mem_of_getElem? (i := 1366) (by decide +kernel)
theorem dX12_group_0 : decode cX12_group 0 = .ok (.aload_n 0, 1) := by decide +kernel
theorem dX12_group_1 : decode cX12_group 1 = .ok (.iload_n 1, 1) := by decide +kernel
theorem dX12_group_2 : decode cX12_group 2 = .ok (.iload_n 2, 1) := by decide +kernel
theorem dX12_group_3 : decode cX12_group 3 = .ok (.invokevirtual 312, 3) := by decide +kernel
theorem dX12_group_6 : decode cX12_group 6 = .ok (.ifCond .ne 7, 3) := by decide +kernel
theorem dX12_group_9 : decode cX12_group 9 = .ok (.ldc2_w 382, 3) := by decide +kernel
theorem dX12_group_12 : decode cX12_group 12 = .ok (.lreturn, 1) := by decide +kernel
theorem mw_1376 : Cond.code yX12_matches cX12_matches 9 (some .int) ∈ wsL_law := List.mem_of_getElem? (i := 1376) (by decide +kernel)
theorem dX12_matches_0 : decode cX12_matches 0 = .ok (.aload_n 0, 1) := by decide +kernel
theorem dX12_matches_1 : decode cX12_matches 1 = .ok (.iload_n 1, 1) := by decide +kernel
theorem dX12_matches_2 : decode cX12_matches 2 = .ok (.iload_n 2, 1) := by decide +kernel
theorem dX12_matches_3 : decode cX12_matches 3 = .ok (.invokevirtual 312, 3) := by decide +kernel
theorem dX12_matches_6 : decode cX12_matches 6 = .ok (.ifCond .eq 13, 3) := by decide +kernel
theorem dX12_matches_19 : decode cX12_matches 19 = .ok (.iconst (-1), 1) := by decide +kernel
theorem dX12_matches_20 : decode cX12_matches 20 = .ok (.ireturn, 1) := by decide +kernel
theorem mw_1400 : Cond.code yX12_differ cX12_differ 8 (some .int) ∈ wsL_law := List.mem_of_getElem? (i := 1400) (by decide +kernel)
theorem dX12_differ_0 : decode cX12_differ 0 = .ok (.aload_n 0, 1) := by decide +kernel
theorem dX12_differ_1 : decode cX12_differ 1 = .ok (.iload_n 1, 1) := by decide +kernel
theorem dX12_differ_2 : decode cX12_differ 2 = .ok (.invokevirtual 70, 3) := by decide +kernel
theorem dX12_differ_5 : decode cX12_differ 5 = .ok (.ifCond .eq 11, 3) := by decide +kernel
theorem dX12_differ_16 : decode cX12_differ 16 = .ok (.iconst (-1), 1) := by decide +kernel
theorem dX12_differ_17 : decode cX12_differ 17 = .ok (.ireturn, 1) := by decide +kernel
theorem mw_1445 : Cond.code yX12_write cX12_write 5 (some .int) ∈ wsL_law := List.mem_of_getElem? (i := 1445) (by decide +kernel)
theorem dX12_write_0 : decode cX12_write 0 = .ok (.aload_n 0, 1) := by decide +kernel
theorem dX12_write_1 : decode cX12_write 1 = .ok (.iload_n 1, 1) := by decide +kernel
theorem dX12_write_2 : decode cX12_write 2 = .ok (.invokevirtual 70, 3) := by decide +kernel
theorem dX12_write_5 : decode cX12_write 5 = .ok (.ifCond .ne 5, 3) := by decide +kernel
theorem dX12_write_8 : decode cX12_write 8 = .ok (.iconst (-1), 1) := by decide +kernel
theorem dX12_write_9 : decode cX12_write 9 = .ok (.ireturn, 1) := by decide +kernel
set_option maxHeartbeats 4000000 in
set_option maxRecDepth 100000 in
theorem c_X12_isIn (l : Launch) (D : va_G) (κ : Nat → ClassId) (v : Int64) (lo : Int64) (hi : Int64) : Cr l yX12_isIn (wl yX12_isIn cX12_isIn 6 (some .boolean)) { frames := 0, cells := 0, slots := 0, locals := 0 } D κ [.long v, .long lo, .long hi] (va_P D vwCl []) (fun r : Int32 => some (.int r)) (fun r : Int32 => (r = 1 ∧ ¬ lg_cmp v lo < 0 ∧ ¬ 0 < lg_cmp v hi) ∨ (r = 0 ∧ (lg_cmp v lo < 0 ∨ 0 < lg_cmp v hi))) := by
  refine cr_of (by decide +kernel) (Nat.le_of_ble_eq_true rfl) ?_
  intro p e s m args below meth c ls hx hb hr hml hts hown hlk hKK hK hI hl
  have hP : va_P D vwCl [] s.heap := hI
  have hFX : FX p s m args c cX12_isIn 6 RX12 := ⟨hx, hb, hml, hown, hts⟩
  have hl : lv_has ls 6 [(0, .long v), (2, .long lo), (4, .long hi)] := hl
  refine lv_lload_n hx hb dX12_isIn_0 rfl (lv_at hl 0 rfl) ?_
  refine lv_lload_n hx hb dX12_isIn_1 rfl (lv_at hl 1 rfl) ?_
  refine W.lcmp hx hb dX12_isIn_2 ?_
  refine lv_if_lt (tgt := 17) hx hb dX12_isIn_3 (by decide) (fun c_1 => ?_) (fun c_1 => ?_)
  · refine lv_iconst (v := 0) hx hb dX12_isIn_17 (by decide) ?_
    exact cr_iret hx hb hr hlk rfl 0 rfl (by first | exact Or.inr ((⟨rfl, (by first | assumption | exact Or.inl (by assumption) | exact Or.inr (by assumption) | exact out_ne (by assumption) (by decide) (by decide) | (simp_all; done))⟩))) dX12_isIn_18
  · refine lv_lload_n hx hb dX12_isIn_6 rfl (lv_at hl 0 rfl) ?_
    refine lv_lload hx hb dX12_isIn_7 (lv_at hl 2 rfl) ?_
    refine W.lcmp hx hb dX12_isIn_9 ?_
    refine lv_if_gt (tgt := 17) hx hb dX12_isIn_10 (by decide) (fun c_2 => ?_) (fun c_2 => ?_)
    · refine lv_iconst (v := 0) hx hb dX12_isIn_17 (by decide) ?_
      exact cr_iret hx hb hr hlk rfl 0 rfl (by first | exact Or.inr ((⟨rfl, (by first | assumption | exact Or.inl (by assumption) | exact Or.inr (by assumption) | exact out_ne (by assumption) (by decide) (by decide) | (simp_all; done))⟩))) dX12_isIn_18
    · refine lv_iconst (v := 1) hx hb dX12_isIn_13 (by decide) ?_
      refine lv_goto (tgt := 18) hx hb dX12_isIn_14 (by decide) ?_
      exact cr_iret hx hb hr hlk rfl 1 rfl (by first | exact Or.inl (⟨rfl, (by first | assumption | exact Or.inl (by assumption) | exact Or.inr (by assumption) | exact out_ne (by assumption) (by decide) (by decide) | (simp_all; done)), (by first | assumption | exact Or.inl (by assumption) | exact Or.inr (by assumption) | exact out_ne (by assumption) (by decide) (by decide) | (simp_all; done))⟩)) dX12_isIn_18
set_option maxHeartbeats 4000000 in
set_option maxRecDepth 100000 in
theorem c_X12_at (l : Launch) (D : va_G) (κ : Nat → ClassId) (za : Int32) (zb : Int32) : Cr l yX12_at (wl yX12_at cX12_at 2 (some .int)) { frames := 0, cells := 0, slots := 0, locals := 0 } D κ [.int za, .int zb] (va_P D vwCl []) (fun r : Int32 => some (.int r)) (fun r : Int32 => r = 7123 * za + zb) := by
  refine cr_of (by decide +kernel) (Nat.le_of_ble_eq_true rfl) ?_
  intro p e s m args below meth c ls hx hb hr hml hts hown hlk hKK hK hI hl
  have hP : va_P D vwCl [] s.heap := hI
  have hFX : FX p s m args c cX12_at 2 RX12 := ⟨hx, hb, hml, hown, hts⟩
  have hl : lv_has ls 2 [(0, .int za), (1, .int zb)] := hl
  refine lv_sipush (v := 7123) hx hb dX12_at_0 (by decide) ?_
  refine lv_iload_n hx hb dX12_at_3 rfl (lv_at hl 0 rfl) ?_
  refine lv_imul hx hb dX12_at_4 ?_
  refine lv_topi (fun x_1 ex_1 => ?_)
  refine lv_iload_n hx hb dX12_at_5 rfl (lv_at hl 1 rfl) ?_
  refine lv_iadd hx hb dX12_at_6 ?_
  refine lv_topi (fun x_2 ex_2 => ?_)
  exact cr_iret hx hb hr hlk rfl x_2 rfl (by rw [ex_2, ex_1]) dX12_at_7
set_option maxHeartbeats 4000000 in
set_option maxRecDepth 100000 in
theorem c_X12_isTable (l : Launch) (D : va_G) (κ : Nat → ClassId) (m0 : Nat) (a0 : Nat) (a1 : Nat) (a2 : Nat) (a5 : Nat) (a14 : Nat) (a15 : Nat) (a16 : Nat) (a17 : Nat) (a20 : Nat) (a21 : Nat) (a23 : Nat) (a24 : Nat) (a25 : Nat) (a28 : Nat) (za : Int32) : Cr l yX12_isTable (wl yX12_isTable cX12_isTable 2 (some .boolean)) { frames := 1, cells := 0, slots := 0, locals := 25 } D κ [.ref m0, .int za] (va_P D vwCl [(m0, .inr (12, [.ref a0, .ref a1, .ref a2, .int 0, .int 0, .ref a5, .int 0, .int 0, .int (-1), .int (-1), .int 0, .int 0, .int 0, .int 0, .ref a14, .ref a15, .ref a16, .ref a17, .int 0, .int 0, .ref a20, .ref a21, .int 0, .ref a23, .ref a24, .ref a25, .int 0, .int 0, .ref a28, .int 0])), (a0, .inl (κ 0, 21375, .inl wf0))]) (fun _ : Unit => some (.int 0)) (fun _ : Unit => True) := by
  refine cr_of (by decide +kernel) (Nat.le_of_ble_eq_true rfl) ?_
  intro p e s m args below meth c ls hx hb hr hml hts hown hlk hKK hK hI hl
  have hP : va_P D vwCl [(m0, .inr (12, [.ref a0, .ref a1, .ref a2, .int 0, .int 0, .ref a5, .int 0, .int 0, .int (-1), .int (-1), .int 0, .int 0, .int 0, .int 0, .ref a14, .ref a15, .ref a16, .ref a17, .int 0, .int 0, .ref a20, .ref a21, .int 0, .ref a23, .ref a24, .ref a25, .int 0, .int 0, .ref a28, .int 0])), (a0, .inl (κ 0, 21375, .inl wf0))] s.heap := hI
  have hFX : FX p s m args c cX12_isTable 2 RX12 := ⟨hx, hb, hml, hown, hts⟩
  have hl : lv_has ls 2 [(0, .ref m0), (1, .int za)] := hl
  refine lv_iload_n hx hb dX12_isTable_0 rfl (lv_at hl 1 rfl) ?_
  refine lv_i2l (v := za.toInt64) hx hb dX12_isTable_1 rfl ?_
  refine lv_lconst (v := 0) hx hb dX12_isTable_2 (by decide) ?_
  refine lv_ldc2 hx hb hown (hts _ mw_413) dX12_isTable_3 ?_
  refine cr_S (As := [.long za.toInt64, .long 0, .long 2]) (rest := []) hFX hKK (c_X12_isIn l D κ za.toInt64 0 2) 3 gS_X12_62 hdS_X12_isIn rfl rfl ⟨Nat.le_of_ble_eq_true rfl, Nat.le_of_ble_eq_true rfl⟩ rfl rfl (Nat.le_of_ble_eq_true rfl) dX12_isTable_6 ⟨Nat.le_of_ble_eq_true rfl, Nat.le_of_ble_eq_true rfl⟩ hl.1 (hP.sub [] rfl) (fun r_1 hp_2 => ?_)
  have hp_2 : (r_1 = 1 ∧ ¬ lg_cmp za.toInt64 0 < 0 ∧ ¬ 0 < lg_cmp za.toInt64 2) ∨ (r_1 = 0 ∧ (lg_cmp za.toInt64 0 < 0 ∨ 0 < lg_cmp za.toInt64 2)) := hp_2
  rcases hp_2 with ⟨rfl, a_3, a_4⟩ | ⟨rfl, a_5⟩
  · refine W.eq (g2 := F0 m 9 ls [.int 1]) rfl ?_
    refine lv_if_eq (tgt := 30) hx hb dX12_isTable_9 (by decide) (fun c_6 => absurd c_6 (by decide)) (fun c_6 => ?_)
    refine lv_aload_n hx hb dX12_isTable_12 rfl (lv_at hl 0 rfl) ?_
    refine va_get (D := D) (ci := 12) (v := .ref a0) (C := RX12) (T := TX12) (N := 30) hx hb hts inlX12 hown hK hP 0 rfl rfl 0 (by decide) (hts _ mw_187) (fun _ h9 => h9) rfl dX12_isTable_13 ?_
    refine lv_iload_n hx hb dX12_isTable_16 rfl (lv_at hl 1 rfl) ?_
    refine lv_iconst (v := 0) hx hb dX12_isTable_17 (by decide) ?_
    refine cr_S (As := [.int za, .int 0]) (rest := [.ref a0]) hFX hKK (c_X12_at l D κ za 0) 2 gS_X12_66 hdS_X12_at rfl rfl ⟨Nat.le_of_ble_eq_true rfl, Nat.le_of_ble_eq_true rfl⟩ rfl rfl (Nat.le_of_ble_eq_true rfl) dX12_isTable_18 ⟨Nat.le_of_ble_eq_true rfl, Nat.le_of_ble_eq_true rfl⟩ hl.1 (hP.sub [] rfl) (fun r_7 hp_8 => ?_)
    have hp_8 : r_7 = 7123 * za + 0 := hp_8
    refine W.eq (g2 := F0 m 21 ls [.int r_7, .ref a0]) rfl ?_
    refine va_iald hx hb hK hP 1 0 rfl rfl (i := r_7) (mt_in (by assumption) (by assumption) hp_8) dX12_isTable_21 ?_
    refine kv (v := .int 0) (congrArg Value.int (mt_0 (by assumption) (by assumption) hp_8)) ?_
    refine lv_iconst (v := 1) hx hb dX12_isTable_22 (by decide) ?_
    refine lv_icmp_ne (tgt := 30) hx hb dX12_isTable_23 (by decide) (fun c_9 => ?_) (fun c_9 => absurd c_9 (by decide))
    refine lv_iconst (v := 0) hx hb dX12_isTable_30 (by decide) ?_
    exact cr_iret hx hb hr hlk rfl () rfl trivial dX12_isTable_31
  · refine W.eq (g2 := F0 m 9 ls [.int 0]) rfl ?_
    refine lv_if_eq (tgt := 30) hx hb dX12_isTable_9 (by decide) (fun c_10 => ?_) (fun c_10 => absurd (by decide) c_10)
    refine lv_iconst (v := 0) hx hb dX12_isTable_30 (by decide) ?_
    exact cr_iret hx hb hr hlk rfl () rfl trivial dX12_isTable_31
set_option maxHeartbeats 4000000 in
set_option maxRecDepth 100000 in
theorem c_X12_isColumn (l : Launch) (D : va_G) (κ : Nat → ClassId) (m0 : Nat) (a0 : Nat) (a1 : Nat) (a2 : Nat) (a5 : Nat) (a14 : Nat) (a15 : Nat) (a16 : Nat) (a17 : Nat) (a20 : Nat) (a21 : Nat) (a23 : Nat) (a24 : Nat) (a25 : Nat) (a28 : Nat) (za : Int32) (zb : Int32) : Cr l yX12_isColumn (wl yX12_isColumn cX12_isColumn 3 (some .boolean)) { frames := 2, cells := 0, slots := 0, locals := 46 } D κ [.ref m0, .int za, .int zb] (va_P D vwCl [(m0, .inr (12, [.ref a0, .ref a1, .ref a2, .int 0, .int 0, .ref a5, .int 0, .int 0, .int (-1), .int (-1), .int 0, .int 0, .int 0, .int 0, .ref a14, .ref a15, .ref a16, .ref a17, .int 0, .int 0, .ref a20, .ref a21, .int 0, .ref a23, .ref a24, .ref a25, .int 0, .int 0, .ref a28, .int 0])), (a0, .inl (κ 0, 21375, .inl wf0))]) (fun _ : Unit => some (.int 0)) (fun _ : Unit => True) := by
  refine cr_of (by decide +kernel) (Nat.le_of_ble_eq_true rfl) ?_
  intro p e s m args below meth c ls hx hb hr hml hts hown hlk hKK hK hI hl
  have hP : va_P D vwCl [(m0, .inr (12, [.ref a0, .ref a1, .ref a2, .int 0, .int 0, .ref a5, .int 0, .int 0, .int (-1), .int (-1), .int 0, .int 0, .int 0, .int 0, .ref a14, .ref a15, .ref a16, .ref a17, .int 0, .int 0, .ref a20, .ref a21, .int 0, .ref a23, .ref a24, .ref a25, .int 0, .int 0, .ref a28, .int 0])), (a0, .inl (κ 0, 21375, .inl wf0))] s.heap := hI
  have hFX : FX p s m args c cX12_isColumn 3 RX12 := ⟨hx, hb, hml, hown, hts⟩
  have hl : lv_has ls 3 [(0, .ref m0), (1, .int za), (2, .int zb)] := hl
  refine lv_aload_n hx hb dX12_isColumn_0 rfl (lv_at hl 0 rfl) ?_
  refine lv_iload_n hx hb dX12_isColumn_1 rfl (lv_at hl 1 rfl) ?_
  refine cr_V (As := [.int za]) (rest := []) hFX hKK (c_X12_isTable l D κ m0 a0 a1 a2 a5 a14 a15 a16 a17 a20 a21 a23 a24 a25 a28 za) 1 gV_X12_70 hdV_X12_isTable rfl rfl ⟨Nat.le_of_ble_eq_true rfl, Nat.le_of_ble_eq_true rfl⟩ rfl rfl (Nat.le_of_ble_eq_true rfl) dX12_isColumn_2 ⟨Nat.le_of_ble_eq_true rfl, Nat.le_of_ble_eq_true rfl⟩ hl.1 hP 0 12 rfl rfl rfl (hP.sub [0, 1] rfl) (fun _ hp_1 => ?_)
  refine W.eq (g2 := F0 m 5 ls [.int 0]) rfl ?_
  refine lv_if_eq (tgt := 34) hx hb dX12_isColumn_5 (by decide) (fun c_2 => ?_) (fun c_2 => absurd (by decide) c_2)
  refine lv_iconst (v := 0) hx hb dX12_isColumn_34 (by decide) ?_
  exact cr_iret hx hb hr hlk rfl () rfl trivial dX12_isColumn_35
set_option maxHeartbeats 4000000 in
set_option maxRecDepth 100000 in
theorem c_X12_isRow (l : Launch) (D : va_G) (κ : Nat → ClassId) (m0 : Nat) (a0 : Nat) (a1 : Nat) (a2 : Nat) (a5 : Nat) (a14 : Nat) (a15 : Nat) (a16 : Nat) (a17 : Nat) (a20 : Nat) (a21 : Nat) (a23 : Nat) (a24 : Nat) (a25 : Nat) (a28 : Nat) (za : Int32) (zb : Int32) : Cr l yX12_isRow (wl yX12_isRow cX12_isRow 3 (some .boolean)) { frames := 2, cells := 0, slots := 0, locals := 46 } D κ [.ref m0, .int za, .int zb] (va_P D vwCl [(m0, .inr (12, [.ref a0, .ref a1, .ref a2, .int 0, .int 0, .ref a5, .int 0, .int 0, .int (-1), .int (-1), .int 0, .int 0, .int 0, .int 0, .ref a14, .ref a15, .ref a16, .ref a17, .int 0, .int 0, .ref a20, .ref a21, .int 0, .ref a23, .ref a24, .ref a25, .int 0, .int 0, .ref a28, .int 0])), (a0, .inl (κ 0, 21375, .inl wf0))]) (fun _ : Unit => some (.int 0)) (fun _ : Unit => True) := by
  refine cr_of (by decide +kernel) (Nat.le_of_ble_eq_true rfl) ?_
  intro p e s m args below meth c ls hx hb hr hml hts hown hlk hKK hK hI hl
  have hP : va_P D vwCl [(m0, .inr (12, [.ref a0, .ref a1, .ref a2, .int 0, .int 0, .ref a5, .int 0, .int 0, .int (-1), .int (-1), .int 0, .int 0, .int 0, .int 0, .ref a14, .ref a15, .ref a16, .ref a17, .int 0, .int 0, .ref a20, .ref a21, .int 0, .ref a23, .ref a24, .ref a25, .int 0, .int 0, .ref a28, .int 0])), (a0, .inl (κ 0, 21375, .inl wf0))] s.heap := hI
  have hFX : FX p s m args c cX12_isRow 3 RX12 := ⟨hx, hb, hml, hown, hts⟩
  have hl : lv_has ls 3 [(0, .ref m0), (1, .int za), (2, .int zb)] := hl
  refine lv_aload_n hx hb dX12_isRow_0 rfl (lv_at hl 0 rfl) ?_
  refine lv_iload_n hx hb dX12_isRow_1 rfl (lv_at hl 1 rfl) ?_
  refine cr_V (As := [.int za]) (rest := []) hFX hKK (c_X12_isTable l D κ m0 a0 a1 a2 a5 a14 a15 a16 a17 a20 a21 a23 a24 a25 a28 za) 1 gV_X12_70 hdV_X12_isTable rfl rfl ⟨Nat.le_of_ble_eq_true rfl, Nat.le_of_ble_eq_true rfl⟩ rfl rfl (Nat.le_of_ble_eq_true rfl) dX12_isRow_2 ⟨Nat.le_of_ble_eq_true rfl, Nat.le_of_ble_eq_true rfl⟩ hl.1 hP 0 12 rfl rfl rfl (hP.sub [0, 1] rfl) (fun _ hp_1 => ?_)
  refine W.eq (g2 := F0 m 5 ls [.int 0]) rfl ?_
  refine lv_if_eq (tgt := 34) hx hb dX12_isRow_5 (by decide) (fun c_2 => ?_) (fun c_2 => absurd (by decide) c_2)
  refine lv_iconst (v := 0) hx hb dX12_isRow_34 (by decide) ?_
  exact cr_iret hx hb hr hlk rfl () rfl trivial dX12_isRow_35
set_option maxHeartbeats 4000000 in
set_option maxRecDepth 100000 in
theorem c_X12_mayView (l : Launch) (D : va_G) (κ : Nat → ClassId) (m0 : Nat) (a0 : Nat) (a1 : Nat) (a2 : Nat) (a5 : Nat) (a14 : Nat) (a15 : Nat) (a16 : Nat) (a17 : Nat) (a20 : Nat) (a21 : Nat) (a23 : Nat) (a24 : Nat) (a25 : Nat) (a28 : Nat) (za : Int32) (zb : Int32) : Cr l yX12_mayView (wl yX12_mayView cX12_mayView 3 (some .boolean)) { frames := 3, cells := 0, slots := 0, locals := 68 } D κ [.ref m0, .int za, .int zb] (va_P D vwCl [(m0, .inr (12, [.ref a0, .ref a1, .ref a2, .int 0, .int 0, .ref a5, .int 0, .int 0, .int (-1), .int (-1), .int 0, .int 0, .int 0, .int 0, .ref a14, .ref a15, .ref a16, .ref a17, .int 0, .int 0, .ref a20, .ref a21, .int 0, .ref a23, .ref a24, .ref a25, .int 0, .int 0, .ref a28, .int 0])), (a0, .inl (κ 0, 21375, .inl wf0))]) (fun _ : Unit => some (.int 0)) (fun _ : Unit => True) := by
  refine cr_of (by decide +kernel) (Nat.le_of_ble_eq_true rfl) ?_
  intro p e s m args below meth c ls hx hb hr hml hts hown hlk hKK hK hI hl
  have hP : va_P D vwCl [(m0, .inr (12, [.ref a0, .ref a1, .ref a2, .int 0, .int 0, .ref a5, .int 0, .int 0, .int (-1), .int (-1), .int 0, .int 0, .int 0, .int 0, .ref a14, .ref a15, .ref a16, .ref a17, .int 0, .int 0, .ref a20, .ref a21, .int 0, .ref a23, .ref a24, .ref a25, .int 0, .int 0, .ref a28, .int 0])), (a0, .inl (κ 0, 21375, .inl wf0))] s.heap := hI
  have hFX : FX p s m args c cX12_mayView 3 RX12 := ⟨hx, hb, hml, hown, hts⟩
  have hl : lv_has ls 3 [(0, .ref m0), (1, .int za), (2, .int zb)] := hl
  refine lv_aload_n hx hb dX12_mayView_0 rfl (lv_at hl 0 rfl) ?_
  refine lv_iload_n hx hb dX12_mayView_1 rfl (lv_at hl 1 rfl) ?_
  refine lv_iload_n hx hb dX12_mayView_2 rfl (lv_at hl 2 rfl) ?_
  refine cr_V (As := [.int za, .int zb]) (rest := []) hFX hKK (c_X12_isColumn l D κ m0 a0 a1 a2 a5 a14 a15 a16 a17 a20 a21 a23 a24 a25 a28 za zb) 2 gV_X12_312 hdV_X12_isColumn rfl rfl ⟨Nat.le_of_ble_eq_true rfl, Nat.le_of_ble_eq_true rfl⟩ rfl rfl (Nat.le_of_ble_eq_true rfl) dX12_mayView_3 ⟨Nat.le_of_ble_eq_true rfl, Nat.le_of_ble_eq_true rfl⟩ hl.1 hP 0 12 rfl rfl rfl (hP.sub [0, 1] rfl) (fun _ hp_1 => ?_)
  refine W.eq (g2 := F0 m 6 ls [.int 0]) rfl ?_
  refine lv_if_eq (tgt := 28) hx hb dX12_mayView_6 (by decide) (fun c_2 => ?_) (fun c_2 => absurd (by decide) c_2)
  refine lv_iconst (v := 0) hx hb dX12_mayView_28 (by decide) ?_
  exact cr_iret hx hb hr hlk rfl () rfl trivial dX12_mayView_29
set_option maxHeartbeats 4000000 in
set_option maxRecDepth 100000 in
theorem c_X12_out (l : Launch) (D : va_G) (κ : Nat → ClassId) (m0 : Nat) (a0 : Nat) (a1 : Nat) (a2 : Nat) (a5 : Nat) (a14 : Nat) (a15 : Nat) (a16 : Nat) (a17 : Nat) (a20 : Nat) (a21 : Nat) (a23 : Nat) (a24 : Nat) (a25 : Nat) (a28 : Nat) (za : Int32) (zb : Int32) : Cr l yX12_out (wl yX12_out cX12_out 6 (some .int)) { frames := 3, cells := 0, slots := 0, locals := 68 } D κ [.ref m0, .int za, .int zb] (va_P D vwCl [(m0, .inr (12, [.ref a0, .ref a1, .ref a2, .int 0, .int 0, .ref a5, .int 0, .int 0, .int (-1), .int (-1), .int 0, .int 0, .int 0, .int 0, .ref a14, .ref a15, .ref a16, .ref a17, .int 0, .int 0, .ref a20, .ref a21, .int 0, .ref a23, .ref a24, .ref a25, .int 0, .int 0, .ref a28, .int 0])), (a0, .inl (κ 0, 21375, .inl wf0))]) (fun _ : Unit => some (.int (-1))) (fun _ : Unit => True) := by
  refine cr_of (by decide +kernel) (Nat.le_of_ble_eq_true rfl) ?_
  intro p e s m args below meth c ls hx hb hr hml hts hown hlk hKK hK hI hl
  have hP : va_P D vwCl [(m0, .inr (12, [.ref a0, .ref a1, .ref a2, .int 0, .int 0, .ref a5, .int 0, .int 0, .int (-1), .int (-1), .int 0, .int 0, .int 0, .int 0, .ref a14, .ref a15, .ref a16, .ref a17, .int 0, .int 0, .ref a20, .ref a21, .int 0, .ref a23, .ref a24, .ref a25, .int 0, .int 0, .ref a28, .int 0])), (a0, .inl (κ 0, 21375, .inl wf0))] s.heap := hI
  have hFX : FX p s m args c cX12_out 6 RX12 := ⟨hx, hb, hml, hown, hts⟩
  have hl : lv_has ls 6 [(0, .ref m0), (1, .int za), (2, .int zb)] := hl
  refine lv_aload_n hx hb dX12_out_0 rfl (lv_at hl 0 rfl) ?_
  refine lv_iload_n hx hb dX12_out_1 rfl (lv_at hl 1 rfl) ?_
  refine lv_iload_n hx hb dX12_out_2 rfl (lv_at hl 2 rfl) ?_
  refine cr_V (As := [.int za, .int zb]) (rest := []) hFX hKK (c_X12_isRow l D κ m0 a0 a1 a2 a5 a14 a15 a16 a17 a20 a21 a23 a24 a25 a28 za zb) 2 gV_X12_309 hdV_X12_isRow rfl rfl ⟨Nat.le_of_ble_eq_true rfl, Nat.le_of_ble_eq_true rfl⟩ rfl rfl (Nat.le_of_ble_eq_true rfl) dX12_out_3 ⟨Nat.le_of_ble_eq_true rfl, Nat.le_of_ble_eq_true rfl⟩ hl.1 hP 0 12 rfl rfl rfl (hP.sub [0, 1] rfl) (fun _ hp_1 => ?_)
  refine W.eq (g2 := F0 m 6 ls [.int 0]) rfl ?_
  refine lv_if_ne (tgt := 11) hx hb dX12_out_6 (by decide) (fun c_2 => absurd (by decide) c_2) (fun c_2 => ?_)
  refine lv_iconst (v := (-1)) hx hb dX12_out_9 (by decide) ?_
  exact cr_iret hx hb hr hlk rfl () rfl trivial dX12_out_10
set_option maxHeartbeats 4000000 in
set_option maxRecDepth 100000 in
theorem c_X12_away (l : Launch) (D : va_G) (κ : Nat → ClassId) (m0 : Nat) (a0 : Nat) (a1 : Nat) (a2 : Nat) (a5 : Nat) (a14 : Nat) (a15 : Nat) (a16 : Nat) (a17 : Nat) (a20 : Nat) (a21 : Nat) (a23 : Nat) (a24 : Nat) (a25 : Nat) (a28 : Nat) (za : Int32) (zb : Int32) : Cr l yX12_away (wl yX12_away cX12_away 7 (some .int)) { frames := 3, cells := 0, slots := 0, locals := 68 } D κ [.ref m0, .int za, .int zb] (va_P D vwCl [(m0, .inr (12, [.ref a0, .ref a1, .ref a2, .int 0, .int 0, .ref a5, .int 0, .int 0, .int (-1), .int (-1), .int 0, .int 0, .int 0, .int 0, .ref a14, .ref a15, .ref a16, .ref a17, .int 0, .int 0, .ref a20, .ref a21, .int 0, .ref a23, .ref a24, .ref a25, .int 0, .int 0, .ref a28, .int 0])), (a0, .inl (κ 0, 21375, .inl wf0))]) (fun _ : Unit => some (.int (-1))) (fun _ : Unit => True) := by
  refine cr_of (by decide +kernel) (Nat.le_of_ble_eq_true rfl) ?_
  intro p e s m args below meth c ls hx hb hr hml hts hown hlk hKK hK hI hl
  have hP : va_P D vwCl [(m0, .inr (12, [.ref a0, .ref a1, .ref a2, .int 0, .int 0, .ref a5, .int 0, .int 0, .int (-1), .int (-1), .int 0, .int 0, .int 0, .int 0, .ref a14, .ref a15, .ref a16, .ref a17, .int 0, .int 0, .ref a20, .ref a21, .int 0, .ref a23, .ref a24, .ref a25, .int 0, .int 0, .ref a28, .int 0])), (a0, .inl (κ 0, 21375, .inl wf0))] s.heap := hI
  have hFX : FX p s m args c cX12_away 7 RX12 := ⟨hx, hb, hml, hown, hts⟩
  have hl : lv_has ls 7 [(0, .ref m0), (1, .int za), (2, .int zb)] := hl
  refine lv_aload_n hx hb dX12_away_0 rfl (lv_at hl 0 rfl) ?_
  refine lv_iload_n hx hb dX12_away_1 rfl (lv_at hl 1 rfl) ?_
  refine lv_iload_n hx hb dX12_away_2 rfl (lv_at hl 2 rfl) ?_
  refine cr_V (As := [.int za, .int zb]) (rest := []) hFX hKK (c_X12_isColumn l D κ m0 a0 a1 a2 a5 a14 a15 a16 a17 a20 a21 a23 a24 a25 a28 za zb) 2 gV_X12_312 hdV_X12_isColumn rfl rfl ⟨Nat.le_of_ble_eq_true rfl, Nat.le_of_ble_eq_true rfl⟩ rfl rfl (Nat.le_of_ble_eq_true rfl) dX12_away_3 ⟨Nat.le_of_ble_eq_true rfl, Nat.le_of_ble_eq_true rfl⟩ hl.1 hP 0 12 rfl rfl rfl (hP.sub [0, 1] rfl) (fun _ hp_1 => ?_)
  refine W.eq (g2 := F0 m 6 ls [.int 0]) rfl ?_
  refine lv_if_eq (tgt := 23) hx hb dX12_away_6 (by decide) (fun c_2 => ?_) (fun c_2 => absurd (by decide) c_2)
  refine lv_iconst (v := (-1)) hx hb dX12_away_23 (by decide) ?_
  exact cr_iret hx hb hr hlk rfl () rfl trivial dX12_away_24
set_option maxHeartbeats 4000000 in
set_option maxRecDepth 100000 in
theorem c_X12_type (l : Launch) (D : va_G) (κ : Nat → ClassId) (m0 : Nat) (a0 : Nat) (a1 : Nat) (a2 : Nat) (a5 : Nat) (a14 : Nat) (a15 : Nat) (a16 : Nat) (a17 : Nat) (a20 : Nat) (a21 : Nat) (a23 : Nat) (a24 : Nat) (a25 : Nat) (a28 : Nat) (za : Int32) (zb : Int32) (zc : Int32) : Cr l yX12_type (wl yX12_type cX12_type 4 (some .boolean)) { frames := 3, cells := 0, slots := 0, locals := 68 } D κ [.ref m0, .int za, .int zb, .int zc] (va_P D vwCl [(m0, .inr (12, [.ref a0, .ref a1, .ref a2, .int 0, .int 0, .ref a5, .int 0, .int 0, .int (-1), .int (-1), .int 0, .int 0, .int 0, .int 0, .ref a14, .ref a15, .ref a16, .ref a17, .int 0, .int 0, .ref a20, .ref a21, .int 0, .ref a23, .ref a24, .ref a25, .int 0, .int 0, .ref a28, .int 0])), (a0, .inl (κ 0, 21375, .inl wf0))]) (fun _ : Unit => some (.int 0)) (fun _ : Unit => True) := by
  refine cr_of (by decide +kernel) (Nat.le_of_ble_eq_true rfl) ?_
  intro p e s m args below meth c ls hx hb hr hml hts hown hlk hKK hK hI hl
  have hP : va_P D vwCl [(m0, .inr (12, [.ref a0, .ref a1, .ref a2, .int 0, .int 0, .ref a5, .int 0, .int 0, .int (-1), .int (-1), .int 0, .int 0, .int 0, .int 0, .ref a14, .ref a15, .ref a16, .ref a17, .int 0, .int 0, .ref a20, .ref a21, .int 0, .ref a23, .ref a24, .ref a25, .int 0, .int 0, .ref a28, .int 0])), (a0, .inl (κ 0, 21375, .inl wf0))] s.heap := hI
  have hFX : FX p s m args c cX12_type 4 RX12 := ⟨hx, hb, hml, hown, hts⟩
  have hl : lv_has ls 4 [(0, .ref m0), (1, .int za), (2, .int zb), (3, .int zc)] := hl
  refine lv_aload_n hx hb dX12_type_0 rfl (lv_at hl 0 rfl) ?_
  refine lv_iload_n hx hb dX12_type_1 rfl (lv_at hl 1 rfl) ?_
  refine lv_iload_n hx hb dX12_type_2 rfl (lv_at hl 2 rfl) ?_
  refine cr_V (As := [.int za, .int zb]) (rest := []) hFX hKK (c_X12_isColumn l D κ m0 a0 a1 a2 a5 a14 a15 a16 a17 a20 a21 a23 a24 a25 a28 za zb) 2 gV_X12_312 hdV_X12_isColumn rfl rfl ⟨Nat.le_of_ble_eq_true rfl, Nat.le_of_ble_eq_true rfl⟩ rfl rfl (Nat.le_of_ble_eq_true rfl) dX12_type_3 ⟨Nat.le_of_ble_eq_true rfl, Nat.le_of_ble_eq_true rfl⟩ hl.1 hP 0 12 rfl rfl rfl (hP.sub [0, 1] rfl) (fun _ hp_1 => ?_)
  refine W.eq (g2 := F0 m 6 ls [.int 0]) rfl ?_
  refine lv_if_eq (tgt := 26) hx hb dX12_type_6 (by decide) (fun c_2 => ?_) (fun c_2 => absurd (by decide) c_2)
  refine lv_iconst (v := 0) hx hb dX12_type_26 (by decide) ?_
  exact cr_iret hx hb hr hlk rfl () rfl trivial dX12_type_27
set_option maxHeartbeats 4000000 in
set_option maxRecDepth 100000 in
theorem c_X12_joined (l : Launch) (D : va_G) (κ : Nat → ClassId) (m0 : Nat) (a0 : Nat) (a1 : Nat) (a2 : Nat) (a5 : Nat) (a14 : Nat) (a15 : Nat) (a16 : Nat) (a17 : Nat) (a20 : Nat) (a21 : Nat) (a23 : Nat) (a24 : Nat) (a25 : Nat) (a28 : Nat) (za : Int32) (zb : Int32) (zc : Int32) (zd : Int32) (ze : Int32) : Cr l yX12_joined (wl yX12_joined cX12_joined 8 (some .int)) { frames := 3, cells := 0, slots := 0, locals := 68 } D κ [.ref m0, .int za, .int zb, .int zc, .int zd, .int ze] (va_P D vwCl [(m0, .inr (12, [.ref a0, .ref a1, .ref a2, .int 0, .int 0, .ref a5, .int 0, .int 0, .int (-1), .int (-1), .int 0, .int 0, .int 0, .int 0, .ref a14, .ref a15, .ref a16, .ref a17, .int 0, .int 0, .ref a20, .ref a21, .int 0, .ref a23, .ref a24, .ref a25, .int 0, .int 0, .ref a28, .int 0])), (a0, .inl (κ 0, 21375, .inl wf0))]) (fun _ : Unit => some (.int (-1))) (fun _ : Unit => True) := by
  refine cr_of (by decide +kernel) (Nat.le_of_ble_eq_true rfl) ?_
  intro p e s m args below meth c ls hx hb hr hml hts hown hlk hKK hK hI hl
  have hP : va_P D vwCl [(m0, .inr (12, [.ref a0, .ref a1, .ref a2, .int 0, .int 0, .ref a5, .int 0, .int 0, .int (-1), .int (-1), .int 0, .int 0, .int 0, .int 0, .ref a14, .ref a15, .ref a16, .ref a17, .int 0, .int 0, .ref a20, .ref a21, .int 0, .ref a23, .ref a24, .ref a25, .int 0, .int 0, .ref a28, .int 0])), (a0, .inl (κ 0, 21375, .inl wf0))] s.heap := hI
  have hFX : FX p s m args c cX12_joined 8 RX12 := ⟨hx, hb, hml, hown, hts⟩
  have hl : lv_has ls 8 [(0, .ref m0), (1, .int za), (2, .int zb), (3, .int zc), (4, .int zd), (5, .int ze)] := hl
  refine lv_aload_n hx hb dX12_joined_0 rfl (lv_at hl 0 rfl) ?_
  refine lv_iload_n hx hb dX12_joined_1 rfl (lv_at hl 1 rfl) ?_
  refine lv_iload_n hx hb dX12_joined_2 rfl (lv_at hl 2 rfl) ?_
  refine cr_V (As := [.int za, .int zb]) (rest := []) hFX hKK (c_X12_isColumn l D κ m0 a0 a1 a2 a5 a14 a15 a16 a17 a20 a21 a23 a24 a25 a28 za zb) 2 gV_X12_312 hdV_X12_isColumn rfl rfl ⟨Nat.le_of_ble_eq_true rfl, Nat.le_of_ble_eq_true rfl⟩ rfl rfl (Nat.le_of_ble_eq_true rfl) dX12_joined_3 ⟨Nat.le_of_ble_eq_true rfl, Nat.le_of_ble_eq_true rfl⟩ hl.1 hP 0 12 rfl rfl rfl (hP.sub [0, 1] rfl) (fun _ hp_1 => ?_)
  refine W.eq (g2 := F0 m 6 ls [.int 0]) rfl ?_
  refine lv_if_eq (tgt := 44) hx hb dX12_joined_6 (by decide) (fun c_2 => ?_) (fun c_2 => absurd (by decide) c_2)
  refine lv_iconst (v := (-1)) hx hb dX12_joined_44 (by decide) ?_
  exact cr_iret hx hb hr hlk rfl () rfl trivial dX12_joined_45
set_option maxHeartbeats 4000000 in
set_option maxRecDepth 100000 in
theorem c_X12_undo (l : Launch) (D : va_G) (κ : Nat → ClassId) (m0 : Nat) (a0 : Nat) (a1 : Nat) (a2 : Nat) (a5 : Nat) (a14 : Nat) (a15 : Nat) (a16 : Nat) (a17 : Nat) (a20 : Nat) (a21 : Nat) (a23 : Nat) (a24 : Nat) (a25 : Nat) (a28 : Nat) : Cr l yX12_undo (wl yX12_undo cX12_undo 2 (some .int)) { frames := 0, cells := 0, slots := 0, locals := 0 } D κ [.ref m0] (va_P D vwCl [(m0, .inr (12, [.ref a0, .ref a1, .ref a2, .int 0, .int 0, .ref a5, .int 0, .int 0, .int (-1), .int (-1), .int 0, .int 0, .int 0, .int 0, .ref a14, .ref a15, .ref a16, .ref a17, .int 0, .int 0, .ref a20, .ref a21, .int 0, .ref a23, .ref a24, .ref a25, .int 0, .int 0, .ref a28, .int 0])), (a0, .inl (κ 0, 21375, .inl wf0))]) (fun _ : Unit => some (.int (-1))) (fun _ : Unit => True) := by
  refine cr_of (by decide +kernel) (Nat.le_of_ble_eq_true rfl) ?_
  intro p e s m args below meth c ls hx hb hr hml hts hown hlk hKK hK hI hl
  have hP : va_P D vwCl [(m0, .inr (12, [.ref a0, .ref a1, .ref a2, .int 0, .int 0, .ref a5, .int 0, .int 0, .int (-1), .int (-1), .int 0, .int 0, .int 0, .int 0, .ref a14, .ref a15, .ref a16, .ref a17, .int 0, .int 0, .ref a20, .ref a21, .int 0, .ref a23, .ref a24, .ref a25, .int 0, .int 0, .ref a28, .int 0])), (a0, .inl (κ 0, 21375, .inl wf0))] s.heap := hI
  have hFX : FX p s m args c cX12_undo 2 RX12 := ⟨hx, hb, hml, hown, hts⟩
  have hl : lv_has ls 2 [(0, .ref m0)] := hl
  refine lv_aload_n hx hb dX12_undo_0 rfl (lv_at hl 0 rfl) ?_
  refine va_get (D := D) (ci := 12) (v := .int 0) (C := RX12) (T := TX12) (N := 30) hx hb hts inlX12 hown hK hP 0 rfl rfl 3 (by decide) (hts _ mw_533) (fun _ h9 => h9) rfl dX12_undo_1 ?_
  refine lv_if_ne (tgt := 9) hx hb dX12_undo_4 (by decide) (fun c_1 => absurd (by decide) c_1) (fun c_1 => ?_)
  refine lv_iconst (v := (-1)) hx hb dX12_undo_7 (by decide) ?_
  exact cr_iret hx hb hr hlk rfl () rfl trivial dX12_undo_8
set_option maxHeartbeats 4000000 in
set_option maxRecDepth 100000 in
theorem c_X12_order (l : Launch) (D : va_G) (κ : Nat → ClassId) (m0 : Nat) (a0 : Nat) (a1 : Nat) (a2 : Nat) (a5 : Nat) (a14 : Nat) (a15 : Nat) (a16 : Nat) (a17 : Nat) (a20 : Nat) (a21 : Nat) (a23 : Nat) (a24 : Nat) (a25 : Nat) (a28 : Nat) (za : Int32) (zb : Int32) (zc : Int32) : Cr l yX12_order (wl yX12_order cX12_order 4 (some .int)) { frames := 4, cells := 0, slots := 0, locals := 90 } D κ [.ref m0, .int za, .int zb, .int zc] (va_P D vwCl [(m0, .inr (12, [.ref a0, .ref a1, .ref a2, .int 0, .int 0, .ref a5, .int 0, .int 0, .int (-1), .int (-1), .int 0, .int 0, .int 0, .int 0, .ref a14, .ref a15, .ref a16, .ref a17, .int 0, .int 0, .ref a20, .ref a21, .int 0, .ref a23, .ref a24, .ref a25, .int 0, .int 0, .ref a28, .int 0])), (a0, .inl (κ 0, 21375, .inl wf0))]) (fun _ : Unit => some (.int (-1))) (fun _ : Unit => True) := by
  refine cr_of (by decide +kernel) (Nat.le_of_ble_eq_true rfl) ?_
  intro p e s m args below meth c ls hx hb hr hml hts hown hlk hKK hK hI hl
  have hP : va_P D vwCl [(m0, .inr (12, [.ref a0, .ref a1, .ref a2, .int 0, .int 0, .ref a5, .int 0, .int 0, .int (-1), .int (-1), .int 0, .int 0, .int 0, .int 0, .ref a14, .ref a15, .ref a16, .ref a17, .int 0, .int 0, .ref a20, .ref a21, .int 0, .ref a23, .ref a24, .ref a25, .int 0, .int 0, .ref a28, .int 0])), (a0, .inl (κ 0, 21375, .inl wf0))] s.heap := hI
  have hFX : FX p s m args c cX12_order 4 RX12 := ⟨hx, hb, hml, hown, hts⟩
  have hl : lv_has ls 4 [(0, .ref m0), (1, .int za), (2, .int zb), (3, .int zc)] := hl
  refine lv_aload_n hx hb dX12_order_0 rfl (lv_at hl 0 rfl) ?_
  refine lv_iload_n hx hb dX12_order_1 rfl (lv_at hl 1 rfl) ?_
  refine lv_iload_n hx hb dX12_order_2 rfl (lv_at hl 2 rfl) ?_
  refine cr_V (As := [.int za, .int zb]) (rest := []) hFX hKK (c_X12_mayView l D κ m0 a0 a1 a2 a5 a14 a15 a16 a17 a20 a21 a23 a24 a25 a28 za zb) 2 gV_X12_336 hdV_X12_mayView rfl rfl ⟨Nat.le_of_ble_eq_true rfl, Nat.le_of_ble_eq_true rfl⟩ rfl rfl (Nat.le_of_ble_eq_true rfl) dX12_order_3 ⟨Nat.le_of_ble_eq_true rfl, Nat.le_of_ble_eq_true rfl⟩ hl.1 hP 0 12 rfl rfl rfl (hP.sub [0, 1] rfl) (fun _ hp_1 => ?_)
  refine W.eq (g2 := F0 m 6 ls [.int 0]) rfl ?_
  refine lv_if_ne (tgt := 11) hx hb dX12_order_6 (by decide) (fun c_2 => absurd (by decide) c_2) (fun c_2 => ?_)
  refine lv_iconst (v := (-1)) hx hb dX12_order_9 (by decide) ?_
  exact cr_iret hx hb hr hlk rfl () rfl trivial dX12_order_10
set_option maxHeartbeats 4000000 in
set_option maxRecDepth 100000 in
theorem c_X12_cut (l : Launch) (D : va_G) (κ : Nat → ClassId) (m0 : Nat) (a0 : Nat) (a1 : Nat) (a2 : Nat) (a5 : Nat) (a14 : Nat) (a15 : Nat) (a16 : Nat) (a17 : Nat) (a20 : Nat) (a21 : Nat) (a23 : Nat) (a24 : Nat) (a25 : Nat) (a28 : Nat) (za : Int32) (zb : Int32) (zc : Int32) : Cr l yX12_cut (wl yX12_cut cX12_cut 5 (some .int)) { frames := 2, cells := 0, slots := 0, locals := 46 } D κ [.ref m0, .int za, .int zb, .int zc] (va_P D vwCl [(m0, .inr (12, [.ref a0, .ref a1, .ref a2, .int 0, .int 0, .ref a5, .int 0, .int 0, .int (-1), .int (-1), .int 0, .int 0, .int 0, .int 0, .ref a14, .ref a15, .ref a16, .ref a17, .int 0, .int 0, .ref a20, .ref a21, .int 0, .ref a23, .ref a24, .ref a25, .int 0, .int 0, .ref a28, .int 0])), (a0, .inl (κ 0, 21375, .inl wf0))]) (fun _ : Unit => some (.int (-1))) (fun _ : Unit => True) := by
  refine cr_of (by decide +kernel) (Nat.le_of_ble_eq_true rfl) ?_
  intro p e s m args below meth c ls hx hb hr hml hts hown hlk hKK hK hI hl
  have hP : va_P D vwCl [(m0, .inr (12, [.ref a0, .ref a1, .ref a2, .int 0, .int 0, .ref a5, .int 0, .int 0, .int (-1), .int (-1), .int 0, .int 0, .int 0, .int 0, .ref a14, .ref a15, .ref a16, .ref a17, .int 0, .int 0, .ref a20, .ref a21, .int 0, .ref a23, .ref a24, .ref a25, .int 0, .int 0, .ref a28, .int 0])), (a0, .inl (κ 0, 21375, .inl wf0))] s.heap := hI
  have hFX : FX p s m args c cX12_cut 5 RX12 := ⟨hx, hb, hml, hown, hts⟩
  have hl : lv_has ls 5 [(0, .ref m0), (1, .int za), (2, .int zb), (3, .int zc)] := hl
  refine lv_aload_n hx hb dX12_cut_0 rfl (lv_at hl 0 rfl) ?_
  refine lv_iload_n hx hb dX12_cut_1 rfl (lv_at hl 1 rfl) ?_
  refine cr_V (As := [.int za]) (rest := []) hFX hKK (c_X12_isTable l D κ m0 a0 a1 a2 a5 a14 a15 a16 a17 a20 a21 a23 a24 a25 a28 za) 1 gV_X12_70 hdV_X12_isTable rfl rfl ⟨Nat.le_of_ble_eq_true rfl, Nat.le_of_ble_eq_true rfl⟩ rfl rfl (Nat.le_of_ble_eq_true rfl) dX12_cut_2 ⟨Nat.le_of_ble_eq_true rfl, Nat.le_of_ble_eq_true rfl⟩ hl.1 hP 0 12 rfl rfl rfl (hP.sub [0, 1] rfl) (fun _ hp_1 => ?_)
  refine W.eq (g2 := F0 m 5 ls [.int 0]) rfl ?_
  refine lv_if_eq (tgt := 31) hx hb dX12_cut_5 (by decide) (fun c_2 => ?_) (fun c_2 => absurd (by decide) c_2)
  refine lv_iconst (v := (-1)) hx hb dX12_cut_31 (by decide) ?_
  exact cr_iret hx hb hr hlk rfl () rfl trivial dX12_cut_32
set_option maxHeartbeats 4000000 in
set_option maxRecDepth 100000 in
theorem c_X12_unlike (l : Launch) (D : va_G) (κ : Nat → ClassId) (m0 : Nat) (a0 : Nat) (a1 : Nat) (a2 : Nat) (a5 : Nat) (a14 : Nat) (a15 : Nat) (a16 : Nat) (a17 : Nat) (a20 : Nat) (a21 : Nat) (a23 : Nat) (a24 : Nat) (a25 : Nat) (a28 : Nat) (za : Int32) (zb : Int32) : Cr l yX12_unlike (wl yX12_unlike cX12_unlike 3 (some .int)) { frames := 4, cells := 0, slots := 0, locals := 90 } D κ [.ref m0, .int za, .int zb] (va_P D vwCl [(m0, .inr (12, [.ref a0, .ref a1, .ref a2, .int 0, .int 0, .ref a5, .int 0, .int 0, .int (-1), .int (-1), .int 0, .int 0, .int 0, .int 0, .ref a14, .ref a15, .ref a16, .ref a17, .int 0, .int 0, .ref a20, .ref a21, .int 0, .ref a23, .ref a24, .ref a25, .int 0, .int 0, .ref a28, .int 0])), (a0, .inl (κ 0, 21375, .inl wf0))]) (fun _ : Unit => some (.int (-1))) (fun _ : Unit => True) := by
  refine cr_of (by decide +kernel) (Nat.le_of_ble_eq_true rfl) ?_
  intro p e s m args below meth c ls hx hb hr hml hts hown hlk hKK hK hI hl
  have hP : va_P D vwCl [(m0, .inr (12, [.ref a0, .ref a1, .ref a2, .int 0, .int 0, .ref a5, .int 0, .int 0, .int (-1), .int (-1), .int 0, .int 0, .int 0, .int 0, .ref a14, .ref a15, .ref a16, .ref a17, .int 0, .int 0, .ref a20, .ref a21, .int 0, .ref a23, .ref a24, .ref a25, .int 0, .int 0, .ref a28, .int 0])), (a0, .inl (κ 0, 21375, .inl wf0))] s.heap := hI
  have hFX : FX p s m args c cX12_unlike 3 RX12 := ⟨hx, hb, hml, hown, hts⟩
  have hl : lv_has ls 3 [(0, .ref m0), (1, .int za), (2, .int zb)] := hl
  refine lv_aload_n hx hb dX12_unlike_0 rfl (lv_at hl 0 rfl) ?_
  refine lv_iload_n hx hb dX12_unlike_1 rfl (lv_at hl 1 rfl) ?_
  refine lv_iload_n hx hb dX12_unlike_2 rfl (lv_at hl 2 rfl) ?_
  refine cr_V (As := [.int za, .int zb]) (rest := []) hFX hKK (c_X12_mayView l D κ m0 a0 a1 a2 a5 a14 a15 a16 a17 a20 a21 a23 a24 a25 a28 za zb) 2 gV_X12_336 hdV_X12_mayView rfl rfl ⟨Nat.le_of_ble_eq_true rfl, Nat.le_of_ble_eq_true rfl⟩ rfl rfl (Nat.le_of_ble_eq_true rfl) dX12_unlike_3 ⟨Nat.le_of_ble_eq_true rfl, Nat.le_of_ble_eq_true rfl⟩ hl.1 hP 0 12 rfl rfl rfl (hP.sub [0, 1] rfl) (fun _ hp_1 => ?_)
  refine W.eq (g2 := F0 m 6 ls [.int 0]) rfl ?_
  refine lv_if_ne (tgt := 11) hx hb dX12_unlike_6 (by decide) (fun c_2 => absurd (by decide) c_2) (fun c_2 => ?_)
  refine lv_iconst (v := (-1)) hx hb dX12_unlike_9 (by decide) ?_
  exact cr_iret hx hb hr hlk rfl () rfl trivial dX12_unlike_10
set_option maxHeartbeats 4000000 in
set_option maxRecDepth 100000 in
theorem c_X12_back (l : Launch) (D : va_G) (κ : Nat → ClassId) (m0 : Nat) (a0 : Nat) (a1 : Nat) (a2 : Nat) (a5 : Nat) (a14 : Nat) (a15 : Nat) (a16 : Nat) (a17 : Nat) (a20 : Nat) (a21 : Nat) (a23 : Nat) (a24 : Nat) (a25 : Nat) (a28 : Nat) (za : Int32) : Cr l yX12_back (wl yX12_back cX12_back 2 (some .int)) { frames := 2, cells := 0, slots := 0, locals := 46 } D κ [.ref m0, .int za] (va_P D vwCl [(m0, .inr (12, [.ref a0, .ref a1, .ref a2, .int 0, .int 0, .ref a5, .int 0, .int 0, .int (-1), .int (-1), .int 0, .int 0, .int 0, .int 0, .ref a14, .ref a15, .ref a16, .ref a17, .int 0, .int 0, .ref a20, .ref a21, .int 0, .ref a23, .ref a24, .ref a25, .int 0, .int 0, .ref a28, .int 0])), (a0, .inl (κ 0, 21375, .inl wf0))]) (fun _ : Unit => some (.int (-1))) (fun _ : Unit => True) := by
  refine cr_of (by decide +kernel) (Nat.le_of_ble_eq_true rfl) ?_
  intro p e s m args below meth c ls hx hb hr hml hts hown hlk hKK hK hI hl
  have hP : va_P D vwCl [(m0, .inr (12, [.ref a0, .ref a1, .ref a2, .int 0, .int 0, .ref a5, .int 0, .int 0, .int (-1), .int (-1), .int 0, .int 0, .int 0, .int 0, .ref a14, .ref a15, .ref a16, .ref a17, .int 0, .int 0, .ref a20, .ref a21, .int 0, .ref a23, .ref a24, .ref a25, .int 0, .int 0, .ref a28, .int 0])), (a0, .inl (κ 0, 21375, .inl wf0))] s.heap := hI
  have hFX : FX p s m args c cX12_back 2 RX12 := ⟨hx, hb, hml, hown, hts⟩
  have hl : lv_has ls 2 [(0, .ref m0), (1, .int za)] := hl
  refine lv_aload_n hx hb dX12_back_0 rfl (lv_at hl 0 rfl) ?_
  refine lv_iload_n hx hb dX12_back_1 rfl (lv_at hl 1 rfl) ?_
  refine cr_V (As := [.int za]) (rest := []) hFX hKK (c_X12_isTable l D κ m0 a0 a1 a2 a5 a14 a15 a16 a17 a20 a21 a23 a24 a25 a28 za) 1 gV_X12_70 hdV_X12_isTable rfl rfl ⟨Nat.le_of_ble_eq_true rfl, Nat.le_of_ble_eq_true rfl⟩ rfl rfl (Nat.le_of_ble_eq_true rfl) dX12_back_2 ⟨Nat.le_of_ble_eq_true rfl, Nat.le_of_ble_eq_true rfl⟩ hl.1 hP 0 12 rfl rfl rfl (hP.sub [0, 1] rfl) (fun _ hp_1 => ?_)
  refine W.eq (g2 := F0 m 5 ls [.int 0]) rfl ?_
  refine lv_if_eq (tgt := 21) hx hb dX12_back_5 (by decide) (fun c_2 => ?_) (fun c_2 => absurd (by decide) c_2)
  refine lv_iconst (v := (-1)) hx hb dX12_back_21 (by decide) ?_
  exact cr_iret hx hb hr hlk rfl () rfl trivial dX12_back_22
set_option maxHeartbeats 4000000 in
set_option maxRecDepth 100000 in
theorem c_X12_view (l : Launch) (D : va_G) (κ : Nat → ClassId) (m0 : Nat) (a0 : Nat) (a1 : Nat) (a2 : Nat) (a5 : Nat) (a14 : Nat) (a15 : Nat) (a16 : Nat) (a17 : Nat) (a20 : Nat) (a21 : Nat) (a23 : Nat) (a24 : Nat) (a25 : Nat) (a28 : Nat) (za : Int32) (zb : Int32) : Cr l yX12_view (wl yX12_view cX12_view 3 (some .int)) { frames := 2, cells := 0, slots := 0, locals := 46 } D κ [.ref m0, .int za, .int zb] (va_P D vwCl [(m0, .inr (12, [.ref a0, .ref a1, .ref a2, .int 0, .int 0, .ref a5, .int 0, .int 0, .int (-1), .int (-1), .int 0, .int 0, .int 0, .int 0, .ref a14, .ref a15, .ref a16, .ref a17, .int 0, .int 0, .ref a20, .ref a21, .int 0, .ref a23, .ref a24, .ref a25, .int 0, .int 0, .ref a28, .int 0])), (a0, .inl (κ 0, 21375, .inl wf0))]) (fun _ : Unit => some (.int (-1))) (fun _ : Unit => True) := by
  refine cr_of (by decide +kernel) (Nat.le_of_ble_eq_true rfl) ?_
  intro p e s m args below meth c ls hx hb hr hml hts hown hlk hKK hK hI hl
  have hP : va_P D vwCl [(m0, .inr (12, [.ref a0, .ref a1, .ref a2, .int 0, .int 0, .ref a5, .int 0, .int 0, .int (-1), .int (-1), .int 0, .int 0, .int 0, .int 0, .ref a14, .ref a15, .ref a16, .ref a17, .int 0, .int 0, .ref a20, .ref a21, .int 0, .ref a23, .ref a24, .ref a25, .int 0, .int 0, .ref a28, .int 0])), (a0, .inl (κ 0, 21375, .inl wf0))] s.heap := hI
  have hFX : FX p s m args c cX12_view 3 RX12 := ⟨hx, hb, hml, hown, hts⟩
  have hl : lv_has ls 3 [(0, .ref m0), (1, .int za), (2, .int zb)] := hl
  refine lv_aload_n hx hb dX12_view_0 rfl (lv_at hl 0 rfl) ?_
  refine lv_iload_n hx hb dX12_view_1 rfl (lv_at hl 1 rfl) ?_
  refine cr_V (As := [.int za]) (rest := []) hFX hKK (c_X12_isTable l D κ m0 a0 a1 a2 a5 a14 a15 a16 a17 a20 a21 a23 a24 a25 a28 za) 1 gV_X12_70 hdV_X12_isTable rfl rfl ⟨Nat.le_of_ble_eq_true rfl, Nat.le_of_ble_eq_true rfl⟩ rfl rfl (Nat.le_of_ble_eq_true rfl) dX12_view_2 ⟨Nat.le_of_ble_eq_true rfl, Nat.le_of_ble_eq_true rfl⟩ hl.1 hP 0 12 rfl rfl rfl (hP.sub [0, 1] rfl) (fun _ hp_1 => ?_)
  refine W.eq (g2 := F0 m 5 ls [.int 0]) rfl ?_
  refine lv_if_ne (tgt := 10) hx hb dX12_view_5 (by decide) (fun c_2 => absurd (by decide) c_2) (fun c_2 => ?_)
  refine lv_iconst (v := (-1)) hx hb dX12_view_8 (by decide) ?_
  exact cr_iret hx hb hr hlk rfl () rfl trivial dX12_view_9
set_option maxHeartbeats 4000000 in
set_option maxRecDepth 100000 in
theorem c_X12_table (l : Launch) (D : va_G) (κ : Nat → ClassId) (m0 : Nat) (a0 : Nat) (a1 : Nat) (a2 : Nat) (a5 : Nat) (a14 : Nat) (a15 : Nat) (a16 : Nat) (a17 : Nat) (a20 : Nat) (a21 : Nat) (a23 : Nat) (a24 : Nat) (a25 : Nat) (a28 : Nat) (za : Int32) (zb : Int32) : Cr l yX12_table (wl yX12_table cX12_table 3 (some .int)) { frames := 2, cells := 0, slots := 0, locals := 46 } D κ [.ref m0, .int za, .int zb] (va_P D vwCl [(m0, .inr (12, [.ref a0, .ref a1, .ref a2, .int 0, .int 0, .ref a5, .int 0, .int 0, .int (-1), .int (-1), .int 0, .int 0, .int 0, .int 0, .ref a14, .ref a15, .ref a16, .ref a17, .int 0, .int 0, .ref a20, .ref a21, .int 0, .ref a23, .ref a24, .ref a25, .int 0, .int 0, .ref a28, .int 0])), (a0, .inl (κ 0, 21375, .inl wf0))]) (fun _ : Unit => some (.int (-1))) (fun _ : Unit => True) := by
  refine cr_of (by decide +kernel) (Nat.le_of_ble_eq_true rfl) ?_
  intro p e s m args below meth c ls hx hb hr hml hts hown hlk hKK hK hI hl
  have hP : va_P D vwCl [(m0, .inr (12, [.ref a0, .ref a1, .ref a2, .int 0, .int 0, .ref a5, .int 0, .int 0, .int (-1), .int (-1), .int 0, .int 0, .int 0, .int 0, .ref a14, .ref a15, .ref a16, .ref a17, .int 0, .int 0, .ref a20, .ref a21, .int 0, .ref a23, .ref a24, .ref a25, .int 0, .int 0, .ref a28, .int 0])), (a0, .inl (κ 0, 21375, .inl wf0))] s.heap := hI
  have hFX : FX p s m args c cX12_table 3 RX12 := ⟨hx, hb, hml, hown, hts⟩
  have hl : lv_has ls 3 [(0, .ref m0), (1, .int za), (2, .int zb)] := hl
  refine lv_aload_n hx hb dX12_table_0 rfl (lv_at hl 0 rfl) ?_
  refine lv_iload_n hx hb dX12_table_1 rfl (lv_at hl 1 rfl) ?_
  refine cr_V (As := [.int za]) (rest := []) hFX hKK (c_X12_isTable l D κ m0 a0 a1 a2 a5 a14 a15 a16 a17 a20 a21 a23 a24 a25 a28 za) 1 gV_X12_70 hdV_X12_isTable rfl rfl ⟨Nat.le_of_ble_eq_true rfl, Nat.le_of_ble_eq_true rfl⟩ rfl rfl (Nat.le_of_ble_eq_true rfl) dX12_table_2 ⟨Nat.le_of_ble_eq_true rfl, Nat.le_of_ble_eq_true rfl⟩ hl.1 hP 0 12 rfl rfl rfl (hP.sub [0, 1] rfl) (fun _ hp_1 => ?_)
  refine W.eq (g2 := F0 m 5 ls [.int 0]) rfl ?_
  refine lv_if_ne (tgt := 10) hx hb dX12_table_5 (by decide) (fun c_2 => absurd (by decide) c_2) (fun c_2 => ?_)
  refine lv_iconst (v := (-1)) hx hb dX12_table_8 (by decide) ?_
  exact cr_iret hx hb hr hlk rfl () rfl trivial dX12_table_9
set_option maxHeartbeats 4000000 in
set_option maxRecDepth 100000 in
theorem c_X12_column (l : Launch) (D : va_G) (κ : Nat → ClassId) (m0 : Nat) (a0 : Nat) (a1 : Nat) (a2 : Nat) (a5 : Nat) (a14 : Nat) (a15 : Nat) (a16 : Nat) (a17 : Nat) (a20 : Nat) (a21 : Nat) (a23 : Nat) (a24 : Nat) (a25 : Nat) (a28 : Nat) (za : Int32) (zb : Int32) (zc : Int32) : Cr l yX12_column (wl yX12_column cX12_column 5 (some .int)) { frames := 3, cells := 0, slots := 0, locals := 68 } D κ [.ref m0, .int za, .int zb, .int zc] (va_P D vwCl [(m0, .inr (12, [.ref a0, .ref a1, .ref a2, .int 0, .int 0, .ref a5, .int 0, .int 0, .int (-1), .int (-1), .int 0, .int 0, .int 0, .int 0, .ref a14, .ref a15, .ref a16, .ref a17, .int 0, .int 0, .ref a20, .ref a21, .int 0, .ref a23, .ref a24, .ref a25, .int 0, .int 0, .ref a28, .int 0])), (a0, .inl (κ 0, 21375, .inl wf0))]) (fun _ : Unit => some (.int (-1))) (fun _ : Unit => True) := by
  refine cr_of (by decide +kernel) (Nat.le_of_ble_eq_true rfl) ?_
  intro p e s m args below meth c ls hx hb hr hml hts hown hlk hKK hK hI hl
  have hP : va_P D vwCl [(m0, .inr (12, [.ref a0, .ref a1, .ref a2, .int 0, .int 0, .ref a5, .int 0, .int 0, .int (-1), .int (-1), .int 0, .int 0, .int 0, .int 0, .ref a14, .ref a15, .ref a16, .ref a17, .int 0, .int 0, .ref a20, .ref a21, .int 0, .ref a23, .ref a24, .ref a25, .int 0, .int 0, .ref a28, .int 0])), (a0, .inl (κ 0, 21375, .inl wf0))] s.heap := hI
  have hFX : FX p s m args c cX12_column 5 RX12 := ⟨hx, hb, hml, hown, hts⟩
  have hl : lv_has ls 5 [(0, .ref m0), (1, .int za), (2, .int zb), (3, .int zc)] := hl
  refine lv_aload_n hx hb dX12_column_0 rfl (lv_at hl 0 rfl) ?_
  refine lv_iload_n hx hb dX12_column_1 rfl (lv_at hl 1 rfl) ?_
  refine lv_iload_n hx hb dX12_column_2 rfl (lv_at hl 2 rfl) ?_
  refine cr_V (As := [.int za, .int zb]) (rest := []) hFX hKK (c_X12_isColumn l D κ m0 a0 a1 a2 a5 a14 a15 a16 a17 a20 a21 a23 a24 a25 a28 za zb) 2 gV_X12_312 hdV_X12_isColumn rfl rfl ⟨Nat.le_of_ble_eq_true rfl, Nat.le_of_ble_eq_true rfl⟩ rfl rfl (Nat.le_of_ble_eq_true rfl) dX12_column_3 ⟨Nat.le_of_ble_eq_true rfl, Nat.le_of_ble_eq_true rfl⟩ hl.1 hP 0 12 rfl rfl rfl (hP.sub [0, 1] rfl) (fun _ hp_1 => ?_)
  refine W.eq (g2 := F0 m 6 ls [.int 0]) rfl ?_
  refine lv_if_ne (tgt := 11) hx hb dX12_column_6 (by decide) (fun c_2 => absurd (by decide) c_2) (fun c_2 => ?_)
  refine lv_iconst (v := (-1)) hx hb dX12_column_9 (by decide) ?_
  exact cr_iret hx hb hr hlk rfl () rfl trivial dX12_column_10
set_option maxHeartbeats 4000000 in
set_option maxRecDepth 100000 in
theorem c_X12_nameAt_ (l : Launch) (D : va_G) (κ : Nat → ClassId) (m0 : Nat) (a0 : Nat) (a1 : Nat) (a2 : Nat) (a5 : Nat) (a14 : Nat) (a15 : Nat) (a16 : Nat) (a17 : Nat) (a20 : Nat) (a21 : Nat) (a23 : Nat) (a24 : Nat) (a25 : Nat) (a28 : Nat) (za : Int32) (zb : Int32) (zc : Int32) : Cr l yX12_nameAt_ (wl yX12_nameAt_ cX12_nameAt_ 4 (some .int)) { frames := 3, cells := 0, slots := 0, locals := 68 } D κ [.ref m0, .int za, .int zb, .int zc] (va_P D vwCl [(m0, .inr (12, [.ref a0, .ref a1, .ref a2, .int 0, .int 0, .ref a5, .int 0, .int 0, .int (-1), .int (-1), .int 0, .int 0, .int 0, .int 0, .ref a14, .ref a15, .ref a16, .ref a17, .int 0, .int 0, .ref a20, .ref a21, .int 0, .ref a23, .ref a24, .ref a25, .int 0, .int 0, .ref a28, .int 0])), (a0, .inl (κ 0, 21375, .inl wf0))]) (fun _ : Unit => some (.int (-1))) (fun _ : Unit => True) := by
  refine cr_of (by decide +kernel) (Nat.le_of_ble_eq_true rfl) ?_
  intro p e s m args below meth c ls hx hb hr hml hts hown hlk hKK hK hI hl
  have hP : va_P D vwCl [(m0, .inr (12, [.ref a0, .ref a1, .ref a2, .int 0, .int 0, .ref a5, .int 0, .int 0, .int (-1), .int (-1), .int 0, .int 0, .int 0, .int 0, .ref a14, .ref a15, .ref a16, .ref a17, .int 0, .int 0, .ref a20, .ref a21, .int 0, .ref a23, .ref a24, .ref a25, .int 0, .int 0, .ref a28, .int 0])), (a0, .inl (κ 0, 21375, .inl wf0))] s.heap := hI
  have hFX : FX p s m args c cX12_nameAt_ 4 RX12 := ⟨hx, hb, hml, hown, hts⟩
  have hl : lv_has ls 4 [(0, .ref m0), (1, .int za), (2, .int zb), (3, .int zc)] := hl
  refine lv_aload_n hx hb dX12_nameAt__0 rfl (lv_at hl 0 rfl) ?_
  refine lv_iload_n hx hb dX12_nameAt__1 rfl (lv_at hl 1 rfl) ?_
  refine lv_iload_n hx hb dX12_nameAt__2 rfl (lv_at hl 2 rfl) ?_
  refine cr_V (As := [.int za, .int zb]) (rest := []) hFX hKK (c_X12_isColumn l D κ m0 a0 a1 a2 a5 a14 a15 a16 a17 a20 a21 a23 a24 a25 a28 za zb) 2 gV_X12_312 hdV_X12_isColumn rfl rfl ⟨Nat.le_of_ble_eq_true rfl, Nat.le_of_ble_eq_true rfl⟩ rfl rfl (Nat.le_of_ble_eq_true rfl) dX12_nameAt__3 ⟨Nat.le_of_ble_eq_true rfl, Nat.le_of_ble_eq_true rfl⟩ hl.1 hP 0 12 rfl rfl rfl (hP.sub [0, 1] rfl) (fun _ hp_1 => ?_)
  refine W.eq (g2 := F0 m 6 ls [.int 0]) rfl ?_
  refine lv_if_eq (tgt := 48) hx hb dX12_nameAt__6 (by decide) (fun c_2 => ?_) (fun c_2 => absurd (by decide) c_2)
  refine lv_iconst (v := (-1)) hx hb dX12_nameAt__48 (by decide) ?_
  exact cr_iret hx hb hr hlk rfl () rfl trivial dX12_nameAt__49
set_option maxHeartbeats 4000000 in
set_option maxRecDepth 100000 in
theorem c_X12_proof (l : Launch) (D : va_G) (κ : Nat → ClassId) (m0 : Nat) (a0 : Nat) (a1 : Nat) (a2 : Nat) (a5 : Nat) (a14 : Nat) (a15 : Nat) (a16 : Nat) (a17 : Nat) (a20 : Nat) (a21 : Nat) (a23 : Nat) (a24 : Nat) (a25 : Nat) (a28 : Nat) (za : Int32) (zb : Int32) (zc : Int32) (zd : Int32) : Cr l yX12_proof (wl yX12_proof cX12_proof 5 (some .int)) { frames := 3, cells := 0, slots := 0, locals := 68 } D κ [.ref m0, .int za, .int zb, .int zc, .int zd] (va_P D vwCl [(m0, .inr (12, [.ref a0, .ref a1, .ref a2, .int 0, .int 0, .ref a5, .int 0, .int 0, .int (-1), .int (-1), .int 0, .int 0, .int 0, .int 0, .ref a14, .ref a15, .ref a16, .ref a17, .int 0, .int 0, .ref a20, .ref a21, .int 0, .ref a23, .ref a24, .ref a25, .int 0, .int 0, .ref a28, .int 0])), (a0, .inl (κ 0, 21375, .inl wf0))]) (fun _ : Unit => some (.int (-1))) (fun _ : Unit => True) := by
  refine cr_of (by decide +kernel) (Nat.le_of_ble_eq_true rfl) ?_
  intro p e s m args below meth c ls hx hb hr hml hts hown hlk hKK hK hI hl
  have hP : va_P D vwCl [(m0, .inr (12, [.ref a0, .ref a1, .ref a2, .int 0, .int 0, .ref a5, .int 0, .int 0, .int (-1), .int (-1), .int 0, .int 0, .int 0, .int 0, .ref a14, .ref a15, .ref a16, .ref a17, .int 0, .int 0, .ref a20, .ref a21, .int 0, .ref a23, .ref a24, .ref a25, .int 0, .int 0, .ref a28, .int 0])), (a0, .inl (κ 0, 21375, .inl wf0))] s.heap := hI
  have hFX : FX p s m args c cX12_proof 5 RX12 := ⟨hx, hb, hml, hown, hts⟩
  have hl : lv_has ls 5 [(0, .ref m0), (1, .int za), (2, .int zb), (3, .int zc), (4, .int zd)] := hl
  refine lv_aload_n hx hb dX12_proof_0 rfl (lv_at hl 0 rfl) ?_
  refine lv_iload_n hx hb dX12_proof_1 rfl (lv_at hl 1 rfl) ?_
  refine lv_iload_n hx hb dX12_proof_2 rfl (lv_at hl 2 rfl) ?_
  refine cr_V (As := [.int za, .int zb]) (rest := []) hFX hKK (c_X12_isColumn l D κ m0 a0 a1 a2 a5 a14 a15 a16 a17 a20 a21 a23 a24 a25 a28 za zb) 2 gV_X12_312 hdV_X12_isColumn rfl rfl ⟨Nat.le_of_ble_eq_true rfl, Nat.le_of_ble_eq_true rfl⟩ rfl rfl (Nat.le_of_ble_eq_true rfl) dX12_proof_3 ⟨Nat.le_of_ble_eq_true rfl, Nat.le_of_ble_eq_true rfl⟩ hl.1 hP 0 12 rfl rfl rfl (hP.sub [0, 1] rfl) (fun _ hp_1 => ?_)
  refine W.eq (g2 := F0 m 6 ls [.int 0]) rfl ?_
  refine lv_if_eq (tgt := 27) hx hb dX12_proof_6 (by decide) (fun c_2 => ?_) (fun c_2 => absurd (by decide) c_2)
  refine lv_iconst (v := (-1)) hx hb dX12_proof_27 (by decide) ?_
  exact cr_iret hx hb hr hlk rfl () rfl trivial dX12_proof_28
set_option maxHeartbeats 4000000 in
set_option maxRecDepth 100000 in
theorem c_X12_against (l : Launch) (D : va_G) (κ : Nat → ClassId) (m0 : Nat) (a0 : Nat) (a1 : Nat) (a2 : Nat) (a5 : Nat) (a14 : Nat) (a15 : Nat) (a16 : Nat) (a17 : Nat) (a20 : Nat) (a21 : Nat) (a23 : Nat) (a24 : Nat) (a25 : Nat) (a28 : Nat) (za : Int32) (zb : Int32) (zc : Int32) : Cr l yX12_against (wl yX12_against cX12_against 4 (some .int)) { frames := 3, cells := 0, slots := 0, locals := 68 } D κ [.ref m0, .int za, .int zb, .int zc] (va_P D vwCl [(m0, .inr (12, [.ref a0, .ref a1, .ref a2, .int 0, .int 0, .ref a5, .int 0, .int 0, .int (-1), .int (-1), .int 0, .int 0, .int 0, .int 0, .ref a14, .ref a15, .ref a16, .ref a17, .int 0, .int 0, .ref a20, .ref a21, .int 0, .ref a23, .ref a24, .ref a25, .int 0, .int 0, .ref a28, .int 0])), (a0, .inl (κ 0, 21375, .inl wf0))]) (fun _ : Unit => some (.int (-1))) (fun _ : Unit => True) := by
  refine cr_of (by decide +kernel) (Nat.le_of_ble_eq_true rfl) ?_
  intro p e s m args below meth c ls hx hb hr hml hts hown hlk hKK hK hI hl
  have hP : va_P D vwCl [(m0, .inr (12, [.ref a0, .ref a1, .ref a2, .int 0, .int 0, .ref a5, .int 0, .int 0, .int (-1), .int (-1), .int 0, .int 0, .int 0, .int 0, .ref a14, .ref a15, .ref a16, .ref a17, .int 0, .int 0, .ref a20, .ref a21, .int 0, .ref a23, .ref a24, .ref a25, .int 0, .int 0, .ref a28, .int 0])), (a0, .inl (κ 0, 21375, .inl wf0))] s.heap := hI
  have hFX : FX p s m args c cX12_against 4 RX12 := ⟨hx, hb, hml, hown, hts⟩
  have hl : lv_has ls 4 [(0, .ref m0), (1, .int za), (2, .int zb), (3, .int zc)] := hl
  refine lv_aload_n hx hb dX12_against_0 rfl (lv_at hl 0 rfl) ?_
  refine lv_iload_n hx hb dX12_against_1 rfl (lv_at hl 1 rfl) ?_
  refine lv_iload_n hx hb dX12_against_2 rfl (lv_at hl 2 rfl) ?_
  refine cr_V (As := [.int za, .int zb]) (rest := []) hFX hKK (c_X12_isColumn l D κ m0 a0 a1 a2 a5 a14 a15 a16 a17 a20 a21 a23 a24 a25 a28 za zb) 2 gV_X12_312 hdV_X12_isColumn rfl rfl ⟨Nat.le_of_ble_eq_true rfl, Nat.le_of_ble_eq_true rfl⟩ rfl rfl (Nat.le_of_ble_eq_true rfl) dX12_against_3 ⟨Nat.le_of_ble_eq_true rfl, Nat.le_of_ble_eq_true rfl⟩ hl.1 hP 0 12 rfl rfl rfl (hP.sub [0, 1] rfl) (fun _ hp_1 => ?_)
  refine W.eq (g2 := F0 m 6 ls [.int 0]) rfl ?_
  refine lv_if_eq (tgt := 31) hx hb dX12_against_6 (by decide) (fun c_2 => ?_) (fun c_2 => absurd (by decide) c_2)
  refine lv_iconst (v := (-1)) hx hb dX12_against_31 (by decide) ?_
  exact cr_iret hx hb hr hlk rfl () rfl trivial dX12_against_32
set_option maxHeartbeats 4000000 in
set_option maxRecDepth 100000 in
theorem c_X12_cell (l : Launch) (D : va_G) (κ : Nat → ClassId) (m0 : Nat) (a0 : Nat) (a1 : Nat) (a2 : Nat) (a5 : Nat) (a14 : Nat) (a15 : Nat) (a16 : Nat) (a17 : Nat) (a20 : Nat) (a21 : Nat) (a23 : Nat) (a24 : Nat) (a25 : Nat) (a28 : Nat) (za : Int32) (zb : Int32) (zc : Int32) (zd : Int32) : Cr l yX12_cell (wl yX12_cell cX12_cell 5 (some .int)) { frames := 3, cells := 0, slots := 0, locals := 68 } D κ [.ref m0, .int za, .int zb, .int zc, .int zd] (va_P D vwCl [(m0, .inr (12, [.ref a0, .ref a1, .ref a2, .int 0, .int 0, .ref a5, .int 0, .int 0, .int (-1), .int (-1), .int 0, .int 0, .int 0, .int 0, .ref a14, .ref a15, .ref a16, .ref a17, .int 0, .int 0, .ref a20, .ref a21, .int 0, .ref a23, .ref a24, .ref a25, .int 0, .int 0, .ref a28, .int 0])), (a0, .inl (κ 0, 21375, .inl wf0))]) (fun _ : Unit => some (.int (-1))) (fun _ : Unit => True) := by
  refine cr_of (by decide +kernel) (Nat.le_of_ble_eq_true rfl) ?_
  intro p e s m args below meth c ls hx hb hr hml hts hown hlk hKK hK hI hl
  have hP : va_P D vwCl [(m0, .inr (12, [.ref a0, .ref a1, .ref a2, .int 0, .int 0, .ref a5, .int 0, .int 0, .int (-1), .int (-1), .int 0, .int 0, .int 0, .int 0, .ref a14, .ref a15, .ref a16, .ref a17, .int 0, .int 0, .ref a20, .ref a21, .int 0, .ref a23, .ref a24, .ref a25, .int 0, .int 0, .ref a28, .int 0])), (a0, .inl (κ 0, 21375, .inl wf0))] s.heap := hI
  have hFX : FX p s m args c cX12_cell 5 RX12 := ⟨hx, hb, hml, hown, hts⟩
  have hl : lv_has ls 5 [(0, .ref m0), (1, .int za), (2, .int zb), (3, .int zc), (4, .int zd)] := hl
  refine lv_aload_n hx hb dX12_cell_0 rfl (lv_at hl 0 rfl) ?_
  refine lv_iload_n hx hb dX12_cell_1 rfl (lv_at hl 1 rfl) ?_
  refine lv_iload_n hx hb dX12_cell_2 rfl (lv_at hl 2 rfl) ?_
  refine cr_V (As := [.int za, .int zb]) (rest := []) hFX hKK (c_X12_isRow l D κ m0 a0 a1 a2 a5 a14 a15 a16 a17 a20 a21 a23 a24 a25 a28 za zb) 2 gV_X12_309 hdV_X12_isRow rfl rfl ⟨Nat.le_of_ble_eq_true rfl, Nat.le_of_ble_eq_true rfl⟩ rfl rfl (Nat.le_of_ble_eq_true rfl) dX12_cell_3 ⟨Nat.le_of_ble_eq_true rfl, Nat.le_of_ble_eq_true rfl⟩ hl.1 hP 0 12 rfl rfl rfl (hP.sub [0, 1] rfl) (fun _ hp_1 => ?_)
  refine W.eq (g2 := F0 m 6 ls [.int 0]) rfl ?_
  refine lv_if_eq (tgt := 18) hx hb dX12_cell_6 (by decide) (fun c_2 => ?_) (fun c_2 => absurd (by decide) c_2)
  refine lv_iconst (v := (-1)) hx hb dX12_cell_18 (by decide) ?_
  exact cr_iret hx hb hr hlk rfl () rfl trivial dX12_cell_19
set_option maxHeartbeats 4000000 in
set_option maxRecDepth 100000 in
theorem c_X12_cellAt_ (l : Launch) (D : va_G) (κ : Nat → ClassId) (m0 : Nat) (a0 : Nat) (a1 : Nat) (a2 : Nat) (a5 : Nat) (a14 : Nat) (a15 : Nat) (a16 : Nat) (a17 : Nat) (a20 : Nat) (a21 : Nat) (a23 : Nat) (a24 : Nat) (a25 : Nat) (a28 : Nat) (za : Int32) (zb : Int32) (zc : Int32) (zd : Int32) : Cr l yX12_cellAt_ (wl yX12_cellAt_ cX12_cellAt_ 5 (some .int)) { frames := 3, cells := 0, slots := 0, locals := 68 } D κ [.ref m0, .int za, .int zb, .int zc, .int zd] (va_P D vwCl [(m0, .inr (12, [.ref a0, .ref a1, .ref a2, .int 0, .int 0, .ref a5, .int 0, .int 0, .int (-1), .int (-1), .int 0, .int 0, .int 0, .int 0, .ref a14, .ref a15, .ref a16, .ref a17, .int 0, .int 0, .ref a20, .ref a21, .int 0, .ref a23, .ref a24, .ref a25, .int 0, .int 0, .ref a28, .int 0])), (a0, .inl (κ 0, 21375, .inl wf0))]) (fun _ : Unit => some (.int (-1))) (fun _ : Unit => True) := by
  refine cr_of (by decide +kernel) (Nat.le_of_ble_eq_true rfl) ?_
  intro p e s m args below meth c ls hx hb hr hml hts hown hlk hKK hK hI hl
  have hP : va_P D vwCl [(m0, .inr (12, [.ref a0, .ref a1, .ref a2, .int 0, .int 0, .ref a5, .int 0, .int 0, .int (-1), .int (-1), .int 0, .int 0, .int 0, .int 0, .ref a14, .ref a15, .ref a16, .ref a17, .int 0, .int 0, .ref a20, .ref a21, .int 0, .ref a23, .ref a24, .ref a25, .int 0, .int 0, .ref a28, .int 0])), (a0, .inl (κ 0, 21375, .inl wf0))] s.heap := hI
  have hFX : FX p s m args c cX12_cellAt_ 5 RX12 := ⟨hx, hb, hml, hown, hts⟩
  have hl : lv_has ls 5 [(0, .ref m0), (1, .int za), (2, .int zb), (3, .int zc), (4, .int zd)] := hl
  refine lv_aload_n hx hb dX12_cellAt__0 rfl (lv_at hl 0 rfl) ?_
  refine lv_iload_n hx hb dX12_cellAt__1 rfl (lv_at hl 1 rfl) ?_
  refine lv_iload_n hx hb dX12_cellAt__2 rfl (lv_at hl 2 rfl) ?_
  refine cr_V (As := [.int za, .int zb]) (rest := []) hFX hKK (c_X12_isRow l D κ m0 a0 a1 a2 a5 a14 a15 a16 a17 a20 a21 a23 a24 a25 a28 za zb) 2 gV_X12_309 hdV_X12_isRow rfl rfl ⟨Nat.le_of_ble_eq_true rfl, Nat.le_of_ble_eq_true rfl⟩ rfl rfl (Nat.le_of_ble_eq_true rfl) dX12_cellAt__3 ⟨Nat.le_of_ble_eq_true rfl, Nat.le_of_ble_eq_true rfl⟩ hl.1 hP 0 12 rfl rfl rfl (hP.sub [0, 1] rfl) (fun _ hp_1 => ?_)
  refine W.eq (g2 := F0 m 6 ls [.int 0]) rfl ?_
  refine lv_if_eq (tgt := 42) hx hb dX12_cellAt__6 (by decide) (fun c_2 => ?_) (fun c_2 => absurd (by decide) c_2)
  refine lv_iconst (v := (-1)) hx hb dX12_cellAt__42 (by decide) ?_
  exact cr_iret hx hb hr hlk rfl () rfl trivial dX12_cellAt__43
set_option maxHeartbeats 4000000 in
set_option maxRecDepth 100000 in
theorem c_X12_value (l : Launch) (D : va_G) (κ : Nat → ClassId) (m0 : Nat) (a0 : Nat) (a1 : Nat) (a2 : Nat) (a5 : Nat) (a14 : Nat) (a15 : Nat) (a16 : Nat) (a17 : Nat) (a20 : Nat) (a21 : Nat) (a23 : Nat) (a24 : Nat) (a25 : Nat) (a28 : Nat) (za : Int32) (zb : Int32) (zc : Int32) : Cr l yX12_value (wl yX12_value cX12_value 4 (some .long)) { frames := 3, cells := 0, slots := 0, locals := 68 } D κ [.ref m0, .int za, .int zb, .int zc] (va_P D vwCl [(m0, .inr (12, [.ref a0, .ref a1, .ref a2, .int 0, .int 0, .ref a5, .int 0, .int 0, .int (-1), .int (-1), .int 0, .int 0, .int 0, .int 0, .ref a14, .ref a15, .ref a16, .ref a17, .int 0, .int 0, .ref a20, .ref a21, .int 0, .ref a23, .ref a24, .ref a25, .int 0, .int 0, .ref a28, .int 0])), (a0, .inl (κ 0, 21375, .inl wf0))]) (fun _ : Unit => some (.long (-100000000000000))) (fun _ : Unit => True) := by
  refine cr_of (by decide +kernel) (Nat.le_of_ble_eq_true rfl) ?_
  intro p e s m args below meth c ls hx hb hr hml hts hown hlk hKK hK hI hl
  have hP : va_P D vwCl [(m0, .inr (12, [.ref a0, .ref a1, .ref a2, .int 0, .int 0, .ref a5, .int 0, .int 0, .int (-1), .int (-1), .int 0, .int 0, .int 0, .int 0, .ref a14, .ref a15, .ref a16, .ref a17, .int 0, .int 0, .ref a20, .ref a21, .int 0, .ref a23, .ref a24, .ref a25, .int 0, .int 0, .ref a28, .int 0])), (a0, .inl (κ 0, 21375, .inl wf0))] s.heap := hI
  have hFX : FX p s m args c cX12_value 4 RX12 := ⟨hx, hb, hml, hown, hts⟩
  have hl : lv_has ls 4 [(0, .ref m0), (1, .int za), (2, .int zb), (3, .int zc)] := hl
  refine lv_aload_n hx hb dX12_value_0 rfl (lv_at hl 0 rfl) ?_
  refine lv_iload_n hx hb dX12_value_1 rfl (lv_at hl 1 rfl) ?_
  refine lv_iload_n hx hb dX12_value_2 rfl (lv_at hl 2 rfl) ?_
  refine cr_V (As := [.int za, .int zb]) (rest := []) hFX hKK (c_X12_isRow l D κ m0 a0 a1 a2 a5 a14 a15 a16 a17 a20 a21 a23 a24 a25 a28 za zb) 2 gV_X12_309 hdV_X12_isRow rfl rfl ⟨Nat.le_of_ble_eq_true rfl, Nat.le_of_ble_eq_true rfl⟩ rfl rfl (Nat.le_of_ble_eq_true rfl) dX12_value_3 ⟨Nat.le_of_ble_eq_true rfl, Nat.le_of_ble_eq_true rfl⟩ hl.1 hP 0 12 rfl rfl rfl (hP.sub [0, 1] rfl) (fun _ hp_1 => ?_)
  refine W.eq (g2 := F0 m 6 ls [.int 0]) rfl ?_
  refine lv_if_eq (tgt := 32) hx hb dX12_value_6 (by decide) (fun c_2 => ?_) (fun c_2 => absurd (by decide) c_2)
  refine lv_ldc2 hx hb hown (hts _ mw_1259) dX12_value_32 ?_
  exact cr_lret hx hb hr hlk () rfl trivial dX12_value_35
set_option maxHeartbeats 4000000 in
set_option maxRecDepth 100000 in
theorem c_X12_compare (l : Launch) (D : va_G) (κ : Nat → ClassId) (m0 : Nat) (a0 : Nat) (a1 : Nat) (a2 : Nat) (a5 : Nat) (a14 : Nat) (a15 : Nat) (a16 : Nat) (a17 : Nat) (a20 : Nat) (a21 : Nat) (a23 : Nat) (a24 : Nat) (a25 : Nat) (a28 : Nat) (za : Int32) (zb : Int32) (zc : Int32) (zd : Int32) : Cr l yX12_compare (wl yX12_compare cX12_compare 5 (some .int)) { frames := 3, cells := 0, slots := 0, locals := 68 } D κ [.ref m0, .int za, .int zb, .int zc, .int zd] (va_P D vwCl [(m0, .inr (12, [.ref a0, .ref a1, .ref a2, .int 0, .int 0, .ref a5, .int 0, .int 0, .int (-1), .int (-1), .int 0, .int 0, .int 0, .int 0, .ref a14, .ref a15, .ref a16, .ref a17, .int 0, .int 0, .ref a20, .ref a21, .int 0, .ref a23, .ref a24, .ref a25, .int 0, .int 0, .ref a28, .int 0])), (a0, .inl (κ 0, 21375, .inl wf0))]) (fun _ : Unit => some (.int (-1))) (fun _ : Unit => True) := by
  refine cr_of (by decide +kernel) (Nat.le_of_ble_eq_true rfl) ?_
  intro p e s m args below meth c ls hx hb hr hml hts hown hlk hKK hK hI hl
  have hP : va_P D vwCl [(m0, .inr (12, [.ref a0, .ref a1, .ref a2, .int 0, .int 0, .ref a5, .int 0, .int 0, .int (-1), .int (-1), .int 0, .int 0, .int 0, .int 0, .ref a14, .ref a15, .ref a16, .ref a17, .int 0, .int 0, .ref a20, .ref a21, .int 0, .ref a23, .ref a24, .ref a25, .int 0, .int 0, .ref a28, .int 0])), (a0, .inl (κ 0, 21375, .inl wf0))] s.heap := hI
  have hFX : FX p s m args c cX12_compare 5 RX12 := ⟨hx, hb, hml, hown, hts⟩
  have hl : lv_has ls 5 [(0, .ref m0), (1, .int za), (2, .int zb), (3, .int zc), (4, .int zd)] := hl
  refine lv_aload_n hx hb dX12_compare_0 rfl (lv_at hl 0 rfl) ?_
  refine lv_iload_n hx hb dX12_compare_1 rfl (lv_at hl 1 rfl) ?_
  refine lv_iload_n hx hb dX12_compare_2 rfl (lv_at hl 2 rfl) ?_
  refine cr_V (As := [.int za, .int zb]) (rest := []) hFX hKK (c_X12_isColumn l D κ m0 a0 a1 a2 a5 a14 a15 a16 a17 a20 a21 a23 a24 a25 a28 za zb) 2 gV_X12_312 hdV_X12_isColumn rfl rfl ⟨Nat.le_of_ble_eq_true rfl, Nat.le_of_ble_eq_true rfl⟩ rfl rfl (Nat.le_of_ble_eq_true rfl) dX12_compare_3 ⟨Nat.le_of_ble_eq_true rfl, Nat.le_of_ble_eq_true rfl⟩ hl.1 hP 0 12 rfl rfl rfl (hP.sub [0, 1] rfl) (fun _ hp_1 => ?_)
  refine W.eq (g2 := F0 m 6 ls [.int 0]) rfl ?_
  refine lv_if_eq (tgt := 40) hx hb dX12_compare_6 (by decide) (fun c_2 => ?_) (fun c_2 => absurd (by decide) c_2)
  refine lv_iconst (v := (-1)) hx hb dX12_compare_40 (by decide) ?_
  exact cr_iret hx hb hr hlk rfl () rfl trivial dX12_compare_41
set_option maxHeartbeats 4000000 in
set_option maxRecDepth 100000 in
theorem c_X12_over (l : Launch) (D : va_G) (κ : Nat → ClassId) (m0 : Nat) (a0 : Nat) (a1 : Nat) (a2 : Nat) (a5 : Nat) (a14 : Nat) (a15 : Nat) (a16 : Nat) (a17 : Nat) (a20 : Nat) (a21 : Nat) (a23 : Nat) (a24 : Nat) (a25 : Nat) (a28 : Nat) (za : Int32) (zb : Int32) (zc : Int32) : Cr l yX12_over (wl yX12_over cX12_over 4 (some .long)) { frames := 3, cells := 0, slots := 0, locals := 68 } D κ [.ref m0, .int za, .int zb, .int zc] (va_P D vwCl [(m0, .inr (12, [.ref a0, .ref a1, .ref a2, .int 0, .int 0, .ref a5, .int 0, .int 0, .int (-1), .int (-1), .int 0, .int 0, .int 0, .int 0, .ref a14, .ref a15, .ref a16, .ref a17, .int 0, .int 0, .ref a20, .ref a21, .int 0, .ref a23, .ref a24, .ref a25, .int 0, .int 0, .ref a28, .int 0])), (a0, .inl (κ 0, 21375, .inl wf0))]) (fun _ : Unit => some (.long (-100000000000000))) (fun _ : Unit => True) := by
  refine cr_of (by decide +kernel) (Nat.le_of_ble_eq_true rfl) ?_
  intro p e s m args below meth c ls hx hb hr hml hts hown hlk hKK hK hI hl
  have hP : va_P D vwCl [(m0, .inr (12, [.ref a0, .ref a1, .ref a2, .int 0, .int 0, .ref a5, .int 0, .int 0, .int (-1), .int (-1), .int 0, .int 0, .int 0, .int 0, .ref a14, .ref a15, .ref a16, .ref a17, .int 0, .int 0, .ref a20, .ref a21, .int 0, .ref a23, .ref a24, .ref a25, .int 0, .int 0, .ref a28, .int 0])), (a0, .inl (κ 0, 21375, .inl wf0))] s.heap := hI
  have hFX : FX p s m args c cX12_over 4 RX12 := ⟨hx, hb, hml, hown, hts⟩
  have hl : lv_has ls 4 [(0, .ref m0), (1, .int za), (2, .int zb), (3, .int zc)] := hl
  refine lv_aload_n hx hb dX12_over_0 rfl (lv_at hl 0 rfl) ?_
  refine lv_iload_n hx hb dX12_over_1 rfl (lv_at hl 1 rfl) ?_
  refine lv_iload_n hx hb dX12_over_2 rfl (lv_at hl 2 rfl) ?_
  refine cr_V (As := [.int za, .int zb]) (rest := []) hFX hKK (c_X12_isColumn l D κ m0 a0 a1 a2 a5 a14 a15 a16 a17 a20 a21 a23 a24 a25 a28 za zb) 2 gV_X12_312 hdV_X12_isColumn rfl rfl ⟨Nat.le_of_ble_eq_true rfl, Nat.le_of_ble_eq_true rfl⟩ rfl rfl (Nat.le_of_ble_eq_true rfl) dX12_over_3 ⟨Nat.le_of_ble_eq_true rfl, Nat.le_of_ble_eq_true rfl⟩ hl.1 hP 0 12 rfl rfl rfl (hP.sub [0, 1] rfl) (fun _ hp_1 => ?_)
  refine W.eq (g2 := F0 m 6 ls [.int 0]) rfl ?_
  refine lv_if_eq (tgt := 21) hx hb dX12_over_6 (by decide) (fun c_2 => ?_) (fun c_2 => absurd (by decide) c_2)
  refine lv_ldc2 hx hb hown (hts _ mw_1259) dX12_over_21 ?_
  exact cr_lret hx hb hr hlk () rfl trivial dX12_over_24
set_option maxHeartbeats 4000000 in
set_option maxRecDepth 100000 in
theorem c_X12_group (l : Launch) (D : va_G) (κ : Nat → ClassId) (m0 : Nat) (a0 : Nat) (a1 : Nat) (a2 : Nat) (a5 : Nat) (a14 : Nat) (a15 : Nat) (a16 : Nat) (a17 : Nat) (a20 : Nat) (a21 : Nat) (a23 : Nat) (a24 : Nat) (a25 : Nat) (a28 : Nat) (za : Int32) (zb : Int32) (zc : Int32) (zd : Int32) (ze : Int32) : Cr l yX12_group (wl yX12_group cX12_group 11 (some .long)) { frames := 3, cells := 0, slots := 0, locals := 68 } D κ [.ref m0, .int za, .int zb, .int zc, .int zd, .int ze] (va_P D vwCl [(m0, .inr (12, [.ref a0, .ref a1, .ref a2, .int 0, .int 0, .ref a5, .int 0, .int 0, .int (-1), .int (-1), .int 0, .int 0, .int 0, .int 0, .ref a14, .ref a15, .ref a16, .ref a17, .int 0, .int 0, .ref a20, .ref a21, .int 0, .ref a23, .ref a24, .ref a25, .int 0, .int 0, .ref a28, .int 0])), (a0, .inl (κ 0, 21375, .inl wf0))]) (fun _ : Unit => some (.long (-100000000000000))) (fun _ : Unit => True) := by
  refine cr_of (by decide +kernel) (Nat.le_of_ble_eq_true rfl) ?_
  intro p e s m args below meth c ls hx hb hr hml hts hown hlk hKK hK hI hl
  have hP : va_P D vwCl [(m0, .inr (12, [.ref a0, .ref a1, .ref a2, .int 0, .int 0, .ref a5, .int 0, .int 0, .int (-1), .int (-1), .int 0, .int 0, .int 0, .int 0, .ref a14, .ref a15, .ref a16, .ref a17, .int 0, .int 0, .ref a20, .ref a21, .int 0, .ref a23, .ref a24, .ref a25, .int 0, .int 0, .ref a28, .int 0])), (a0, .inl (κ 0, 21375, .inl wf0))] s.heap := hI
  have hFX : FX p s m args c cX12_group 11 RX12 := ⟨hx, hb, hml, hown, hts⟩
  have hl : lv_has ls 11 [(0, .ref m0), (1, .int za), (2, .int zb), (3, .int zc), (4, .int zd), (5, .int ze)] := hl
  refine lv_aload_n hx hb dX12_group_0 rfl (lv_at hl 0 rfl) ?_
  refine lv_iload_n hx hb dX12_group_1 rfl (lv_at hl 1 rfl) ?_
  refine lv_iload_n hx hb dX12_group_2 rfl (lv_at hl 2 rfl) ?_
  refine cr_V (As := [.int za, .int zb]) (rest := []) hFX hKK (c_X12_isColumn l D κ m0 a0 a1 a2 a5 a14 a15 a16 a17 a20 a21 a23 a24 a25 a28 za zb) 2 gV_X12_312 hdV_X12_isColumn rfl rfl ⟨Nat.le_of_ble_eq_true rfl, Nat.le_of_ble_eq_true rfl⟩ rfl rfl (Nat.le_of_ble_eq_true rfl) dX12_group_3 ⟨Nat.le_of_ble_eq_true rfl, Nat.le_of_ble_eq_true rfl⟩ hl.1 hP 0 12 rfl rfl rfl (hP.sub [0, 1] rfl) (fun _ hp_1 => ?_)
  refine W.eq (g2 := F0 m 6 ls [.int 0]) rfl ?_
  refine lv_if_ne (tgt := 13) hx hb dX12_group_6 (by decide) (fun c_2 => absurd (by decide) c_2) (fun c_2 => ?_)
  refine lv_ldc2 hx hb hown (hts _ mw_1259) dX12_group_9 ?_
  exact cr_lret hx hb hr hlk () rfl trivial dX12_group_12
set_option maxHeartbeats 4000000 in
set_option maxRecDepth 100000 in
theorem c_X12_matches (l : Launch) (D : va_G) (κ : Nat → ClassId) (m0 : Nat) (a0 : Nat) (a1 : Nat) (a2 : Nat) (a5 : Nat) (a14 : Nat) (a15 : Nat) (a16 : Nat) (a17 : Nat) (a20 : Nat) (a21 : Nat) (a23 : Nat) (a24 : Nat) (a25 : Nat) (a28 : Nat) (za : Int32) (zb : Int32) (zc : Int32) (zd : Int32) : Cr l yX12_matches (wl yX12_matches cX12_matches 9 (some .int)) { frames := 3, cells := 0, slots := 0, locals := 68 } D κ [.ref m0, .int za, .int zb, .int zc, .int zd] (va_P D vwCl [(m0, .inr (12, [.ref a0, .ref a1, .ref a2, .int 0, .int 0, .ref a5, .int 0, .int 0, .int (-1), .int (-1), .int 0, .int 0, .int 0, .int 0, .ref a14, .ref a15, .ref a16, .ref a17, .int 0, .int 0, .ref a20, .ref a21, .int 0, .ref a23, .ref a24, .ref a25, .int 0, .int 0, .ref a28, .int 0])), (a0, .inl (κ 0, 21375, .inl wf0))]) (fun _ : Unit => some (.int (-1))) (fun _ : Unit => True) := by
  refine cr_of (by decide +kernel) (Nat.le_of_ble_eq_true rfl) ?_
  intro p e s m args below meth c ls hx hb hr hml hts hown hlk hKK hK hI hl
  have hP : va_P D vwCl [(m0, .inr (12, [.ref a0, .ref a1, .ref a2, .int 0, .int 0, .ref a5, .int 0, .int 0, .int (-1), .int (-1), .int 0, .int 0, .int 0, .int 0, .ref a14, .ref a15, .ref a16, .ref a17, .int 0, .int 0, .ref a20, .ref a21, .int 0, .ref a23, .ref a24, .ref a25, .int 0, .int 0, .ref a28, .int 0])), (a0, .inl (κ 0, 21375, .inl wf0))] s.heap := hI
  have hFX : FX p s m args c cX12_matches 9 RX12 := ⟨hx, hb, hml, hown, hts⟩
  have hl : lv_has ls 9 [(0, .ref m0), (1, .int za), (2, .int zb), (3, .int zc), (4, .int zd)] := hl
  refine lv_aload_n hx hb dX12_matches_0 rfl (lv_at hl 0 rfl) ?_
  refine lv_iload_n hx hb dX12_matches_1 rfl (lv_at hl 1 rfl) ?_
  refine lv_iload_n hx hb dX12_matches_2 rfl (lv_at hl 2 rfl) ?_
  refine cr_V (As := [.int za, .int zb]) (rest := []) hFX hKK (c_X12_isColumn l D κ m0 a0 a1 a2 a5 a14 a15 a16 a17 a20 a21 a23 a24 a25 a28 za zb) 2 gV_X12_312 hdV_X12_isColumn rfl rfl ⟨Nat.le_of_ble_eq_true rfl, Nat.le_of_ble_eq_true rfl⟩ rfl rfl (Nat.le_of_ble_eq_true rfl) dX12_matches_3 ⟨Nat.le_of_ble_eq_true rfl, Nat.le_of_ble_eq_true rfl⟩ hl.1 hP 0 12 rfl rfl rfl (hP.sub [0, 1] rfl) (fun _ hp_1 => ?_)
  refine W.eq (g2 := F0 m 6 ls [.int 0]) rfl ?_
  refine lv_if_eq (tgt := 19) hx hb dX12_matches_6 (by decide) (fun c_2 => ?_) (fun c_2 => absurd (by decide) c_2)
  refine lv_iconst (v := (-1)) hx hb dX12_matches_19 (by decide) ?_
  exact cr_iret hx hb hr hlk rfl () rfl trivial dX12_matches_20
set_option maxHeartbeats 4000000 in
set_option maxRecDepth 100000 in
theorem c_X12_differ (l : Launch) (D : va_G) (κ : Nat → ClassId) (m0 : Nat) (a0 : Nat) (a1 : Nat) (a2 : Nat) (a5 : Nat) (a14 : Nat) (a15 : Nat) (a16 : Nat) (a17 : Nat) (a20 : Nat) (a21 : Nat) (a23 : Nat) (a24 : Nat) (a25 : Nat) (a28 : Nat) (za : Int32) (zb : Int32) : Cr l yX12_differ (wl yX12_differ cX12_differ 8 (some .int)) { frames := 2, cells := 0, slots := 0, locals := 46 } D κ [.ref m0, .int za, .int zb] (va_P D vwCl [(m0, .inr (12, [.ref a0, .ref a1, .ref a2, .int 0, .int 0, .ref a5, .int 0, .int 0, .int (-1), .int (-1), .int 0, .int 0, .int 0, .int 0, .ref a14, .ref a15, .ref a16, .ref a17, .int 0, .int 0, .ref a20, .ref a21, .int 0, .ref a23, .ref a24, .ref a25, .int 0, .int 0, .ref a28, .int 0])), (a0, .inl (κ 0, 21375, .inl wf0))]) (fun _ : Unit => some (.int (-1))) (fun _ : Unit => True) := by
  refine cr_of (by decide +kernel) (Nat.le_of_ble_eq_true rfl) ?_
  intro p e s m args below meth c ls hx hb hr hml hts hown hlk hKK hK hI hl
  have hP : va_P D vwCl [(m0, .inr (12, [.ref a0, .ref a1, .ref a2, .int 0, .int 0, .ref a5, .int 0, .int 0, .int (-1), .int (-1), .int 0, .int 0, .int 0, .int 0, .ref a14, .ref a15, .ref a16, .ref a17, .int 0, .int 0, .ref a20, .ref a21, .int 0, .ref a23, .ref a24, .ref a25, .int 0, .int 0, .ref a28, .int 0])), (a0, .inl (κ 0, 21375, .inl wf0))] s.heap := hI
  have hFX : FX p s m args c cX12_differ 8 RX12 := ⟨hx, hb, hml, hown, hts⟩
  have hl : lv_has ls 8 [(0, .ref m0), (1, .int za), (2, .int zb)] := hl
  refine lv_aload_n hx hb dX12_differ_0 rfl (lv_at hl 0 rfl) ?_
  refine lv_iload_n hx hb dX12_differ_1 rfl (lv_at hl 1 rfl) ?_
  refine cr_V (As := [.int za]) (rest := []) hFX hKK (c_X12_isTable l D κ m0 a0 a1 a2 a5 a14 a15 a16 a17 a20 a21 a23 a24 a25 a28 za) 1 gV_X12_70 hdV_X12_isTable rfl rfl ⟨Nat.le_of_ble_eq_true rfl, Nat.le_of_ble_eq_true rfl⟩ rfl rfl (Nat.le_of_ble_eq_true rfl) dX12_differ_2 ⟨Nat.le_of_ble_eq_true rfl, Nat.le_of_ble_eq_true rfl⟩ hl.1 hP 0 12 rfl rfl rfl (hP.sub [0, 1] rfl) (fun _ hp_1 => ?_)
  refine W.eq (g2 := F0 m 5 ls [.int 0]) rfl ?_
  refine lv_if_eq (tgt := 16) hx hb dX12_differ_5 (by decide) (fun c_2 => ?_) (fun c_2 => absurd (by decide) c_2)
  refine lv_iconst (v := (-1)) hx hb dX12_differ_16 (by decide) ?_
  exact cr_iret hx hb hr hlk rfl () rfl trivial dX12_differ_17
set_option maxHeartbeats 4000000 in
set_option maxRecDepth 100000 in
theorem c_X12_write (l : Launch) (D : va_G) (κ : Nat → ClassId) (m0 : Nat) (a0 : Nat) (a1 : Nat) (a2 : Nat) (a5 : Nat) (a14 : Nat) (a15 : Nat) (a16 : Nat) (a17 : Nat) (a20 : Nat) (a21 : Nat) (a23 : Nat) (a24 : Nat) (a25 : Nat) (a28 : Nat) (za : Int32) : Cr l yX12_write (wl yX12_write cX12_write 5 (some .int)) { frames := 2, cells := 0, slots := 0, locals := 46 } D κ [.ref m0, .int za] (va_P D vwCl [(m0, .inr (12, [.ref a0, .ref a1, .ref a2, .int 0, .int 0, .ref a5, .int 0, .int 0, .int (-1), .int (-1), .int 0, .int 0, .int 0, .int 0, .ref a14, .ref a15, .ref a16, .ref a17, .int 0, .int 0, .ref a20, .ref a21, .int 0, .ref a23, .ref a24, .ref a25, .int 0, .int 0, .ref a28, .int 0])), (a0, .inl (κ 0, 21375, .inl wf0))]) (fun _ : Unit => some (.int (-1))) (fun _ : Unit => True) := by
  refine cr_of (by decide +kernel) (Nat.le_of_ble_eq_true rfl) ?_
  intro p e s m args below meth c ls hx hb hr hml hts hown hlk hKK hK hI hl
  have hP : va_P D vwCl [(m0, .inr (12, [.ref a0, .ref a1, .ref a2, .int 0, .int 0, .ref a5, .int 0, .int 0, .int (-1), .int (-1), .int 0, .int 0, .int 0, .int 0, .ref a14, .ref a15, .ref a16, .ref a17, .int 0, .int 0, .ref a20, .ref a21, .int 0, .ref a23, .ref a24, .ref a25, .int 0, .int 0, .ref a28, .int 0])), (a0, .inl (κ 0, 21375, .inl wf0))] s.heap := hI
  have hFX : FX p s m args c cX12_write 5 RX12 := ⟨hx, hb, hml, hown, hts⟩
  have hl : lv_has ls 5 [(0, .ref m0), (1, .int za)] := hl
  refine lv_aload_n hx hb dX12_write_0 rfl (lv_at hl 0 rfl) ?_
  refine lv_iload_n hx hb dX12_write_1 rfl (lv_at hl 1 rfl) ?_
  refine cr_V (As := [.int za]) (rest := []) hFX hKK (c_X12_isTable l D κ m0 a0 a1 a2 a5 a14 a15 a16 a17 a20 a21 a23 a24 a25 a28 za) 1 gV_X12_70 hdV_X12_isTable rfl rfl ⟨Nat.le_of_ble_eq_true rfl, Nat.le_of_ble_eq_true rfl⟩ rfl rfl (Nat.le_of_ble_eq_true rfl) dX12_write_2 ⟨Nat.le_of_ble_eq_true rfl, Nat.le_of_ble_eq_true rfl⟩ hl.1 hP 0 12 rfl rfl rfl (hP.sub [0, 1] rfl) (fun _ hp_1 => ?_)
  refine W.eq (g2 := F0 m 5 ls [.int 0]) rfl ?_
  refine lv_if_ne (tgt := 10) hx hb dX12_write_5 (by decide) (fun c_2 => absurd (by decide) c_2) (fun c_2 => ?_)
  refine lv_iconst (v := (-1)) hx hb dX12_write_8 (by decide) ?_
  exact cr_iret hx hb hr hlk rfl () rfl trivial dX12_write_9
