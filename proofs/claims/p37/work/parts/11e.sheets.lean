/-- what a dialect's part may be -/
def dOkC (a b : Int32) : Prop := (a = 0 ∧ (b = 44 ∨ b = 59 ∨ b = 124 ∨ b = 9)) ∨ (a = 1 ∧ (b = 34 ∨ b = 39)) ∨ (a = 2 ∧ (b = 0 ∨ b = 1)) ∨ (a = 3 ∧ (b = 0 ∨ b = 1)) ∨ (a = 4 ∧ 0 ≤ b.toInt ∧ b.toInt ≤ 3) ∨ (a = 5 ∧ (b = 0 ∨ b = 35 ∨ b = 37 ∨ b = 42))
theorem dX11_isWholeOrFixed_0 : decode cX11_isWholeOrFixed 0 = .ok (.iload_n 0, 1) := by decide +kernel
theorem dX11_isWholeOrFixed_1 : decode cX11_isWholeOrFixed 1 = .ok (.iconst 2, 1) := by decide +kernel
theorem dX11_isWholeOrFixed_2 : decode cX11_isWholeOrFixed 2 = .ok (.if_icmp .eq 8, 3) := by decide +kernel
theorem dX11_isWholeOrFixed_10 : decode cX11_isWholeOrFixed 10 = .ok (.iconst 1, 1) := by decide +kernel
theorem dX11_isWholeOrFixed_11 : decode cX11_isWholeOrFixed 11 = .ok (.goto 4, 3) := by decide +kernel
theorem dX11_isWholeOrFixed_15 : decode cX11_isWholeOrFixed 15 = .ok (.ireturn, 1) := by decide +kernel
theorem dX11_isWholeOrFixed_5 : decode cX11_isWholeOrFixed 5 = .ok (.iload_n 0, 1) := by decide +kernel
theorem dX11_isWholeOrFixed_6 : decode cX11_isWholeOrFixed 6 = .ok (.iconst 3, 1) := by decide +kernel
theorem dX11_isWholeOrFixed_7 : decode cX11_isWholeOrFixed 7 = .ok (.if_icmp .ne 7, 3) := by decide +kernel
theorem dX11_isWholeOrFixed_14 : decode cX11_isWholeOrFixed 14 = .ok (.iconst 0, 1) := by decide +kernel
theorem dX11_join_0 : decode cX11_join 0 = .ok (.iload_n 0, 1) := by decide +kernel
theorem dX11_join_1 : decode cX11_join 1 = .ok (.iload_n 1, 1) := by decide +kernel
theorem dX11_join_2 : decode cX11_join 2 = .ok (.if_icmp .eq 7, 3) := by decide +kernel
theorem dX11_join_9 : decode cX11_join 9 = .ok (.iload_n 0, 1) := by decide +kernel
theorem dX11_join_10 : decode cX11_join 10 = .ok (.ireturn, 1) := by decide +kernel
theorem dX11_join_5 : decode cX11_join 5 = .ok (.iload_n 1, 1) := by decide +kernel
theorem dX11_join_6 : decode cX11_join 6 = .ok (.ifCond .ne 5, 3) := by decide +kernel
theorem dX11_join_11 : decode cX11_join 11 = .ok (.iload_n 0, 1) := by decide +kernel
theorem dX11_join_12 : decode cX11_join 12 = .ok (.ifCond .ne 5, 3) := by decide +kernel
theorem dX11_join_17 : decode cX11_join 17 = .ok (.iload_n 0, 1) := by decide +kernel
theorem dX11_join_18 : decode cX11_join 18 = .ok (.invokestatic 369, 3) := by decide +kernel
theorem mw_600 : Cond.code yX11_isWholeOrFixed cX11_isWholeOrFixed 1 (some .boolean) ∈ wsL_law := lrk_26 _ (List.mem_of_getElem? (i := 0) rfl)
theorem mw_598 : Cond.methodLink RX11 369 yX11_isWholeOrFixed ∈ wsL_law := lrk_25 _ (List.mem_of_getElem? (i := 22) rfl)
theorem mw_2 : Cond.initialized RX11 ∈ wsL_law := lrk_1 _ (List.mem_of_getElem? (i := 2) rfl)
theorem mw_599 : Cond.static yX11_isWholeOrFixed ∈ wsL_law := lrk_25 _ (List.mem_of_getElem? (i := 23) rfl)
theorem gS_X11_369 : GoodIn wsL_law (va_wsS RX11 369 yX11_isWholeOrFixed (wl yX11_isWholeOrFixed cX11_isWholeOrFixed 1 (some .boolean))) := g_S mw_598 mw_599 mw_2 mw_600
theorem hdS_X11_isWholeOrFixed : okD yX11_isWholeOrFixed 1 := by decide +kernel
theorem dX11_join_21 : decode cX11_join 21 = .ok (.ifCond .eq 14, 3) := by decide +kernel
theorem dX11_join_24 : decode cX11_join 24 = .ok (.iload_n 1, 1) := by decide +kernel
theorem dX11_join_25 : decode cX11_join 25 = .ok (.invokestatic 369, 3) := by decide +kernel
theorem dX11_join_28 : decode cX11_join 28 = .ok (.ifCond .eq 7, 3) := by decide +kernel
theorem dX11_join_31 : decode cX11_join 31 = .ok (.iconst 3, 1) := by decide +kernel
theorem dX11_join_32 : decode cX11_join 32 = .ok (.goto 4, 3) := by decide +kernel
theorem dX11_join_36 : decode cX11_join 36 = .ok (.ireturn, 1) := by decide +kernel
theorem dX11_join_35 : decode cX11_join 35 = .ok (.iconst 5, 1) := by decide +kernel
theorem dX11_join_15 : decode cX11_join 15 = .ok (.iload_n 1, 1) := by decide +kernel
theorem dX11_join_16 : decode cX11_join 16 = .ok (.ireturn, 1) := by decide +kernel
theorem dX11_holds_0 : decode cX11_holds 0 = .ok (.iload_n 0, 1) := by decide +kernel
theorem dX11_holds_1 : decode cX11_holds 1 = .ok (.iload_n 1, 1) := by decide +kernel
theorem dX11_holds_2 : decode cX11_holds 2 = .ok (.invokestatic 372, 3) := by decide +kernel
theorem mw_597 : Cond.code yX11_join cX11_join 2 (some .int) ∈ wsL_law := lrk_25 _ (List.mem_of_getElem? (i := 21) rfl)
theorem mw_595 : Cond.methodLink RX11 372 yX11_join ∈ wsL_law := lrk_25 _ (List.mem_of_getElem? (i := 19) rfl)
theorem mw_596 : Cond.static yX11_join ∈ wsL_law := lrk_25 _ (List.mem_of_getElem? (i := 20) rfl)
theorem gS_X11_372 : GoodIn wsL_law (va_wsS RX11 372 yX11_join (wl yX11_join cX11_join 2 (some .int))) := g_S mw_595 mw_596 mw_2 mw_597
theorem hdS_X11_join : okD yX11_join 2 := by decide +kernel
theorem dX11_holds_5 : decode cX11_holds 5 = .ok (.iload_n 0, 1) := by decide +kernel
theorem dX11_holds_6 : decode cX11_holds 6 = .ok (.if_icmp .ne 7, 3) := by decide +kernel
theorem dX11_holds_13 : decode cX11_holds 13 = .ok (.iconst 0, 1) := by decide +kernel
theorem dX11_holds_14 : decode cX11_holds 14 = .ok (.ireturn, 1) := by decide +kernel
theorem dX11_holds_9 : decode cX11_holds 9 = .ok (.iconst 1, 1) := by decide +kernel
theorem dX11_holds_10 : decode cX11_holds 10 = .ok (.goto 4, 3) := by decide +kernel
theorem dX11_common_0 : decode cX11_common 0 = .ok (.iload_n 0, 1) := by decide +kernel
theorem dX11_common_1 : decode cX11_common 1 = .ok (.iload_n 1, 1) := by decide +kernel
theorem dX11_common_2 : decode cX11_common 2 = .ok (.if_icmp .ne 5, 3) := by decide +kernel
theorem dX11_common_7 : decode cX11_common 7 = .ok (.iload_n 0, 1) := by decide +kernel
theorem dX11_common_8 : decode cX11_common 8 = .ok (.invokestatic 369, 3) := by decide +kernel
theorem dX11_common_11 : decode cX11_common 11 = .ok (.ifCond .eq 14, 3) := by decide +kernel
theorem dX11_common_14 : decode cX11_common 14 = .ok (.iload_n 1, 1) := by decide +kernel
theorem dX11_common_15 : decode cX11_common 15 = .ok (.invokestatic 369, 3) := by decide +kernel
theorem dX11_common_18 : decode cX11_common 18 = .ok (.ifCond .eq 7, 3) := by decide +kernel
theorem dX11_common_21 : decode cX11_common 21 = .ok (.iconst 3, 1) := by decide +kernel
theorem dX11_common_22 : decode cX11_common 22 = .ok (.goto 4, 3) := by decide +kernel
theorem dX11_common_26 : decode cX11_common 26 = .ok (.ireturn, 1) := by decide +kernel
theorem dX11_common_25 : decode cX11_common 25 = .ok (.iconst (-1), 1) := by decide +kernel
theorem dX11_common_5 : decode cX11_common 5 = .ok (.iload_n 0, 1) := by decide +kernel
theorem dX11_common_6 : decode cX11_common 6 = .ok (.ireturn, 1) := by decide +kernel
theorem dX1_takes_0 : decode cX1_takes 0 = .ok (.aload_n 0, 1) := by decide +kernel
theorem dX1_takes_1 : decode cX1_takes 1 = .ok (.getfield 15, 3) := by decide +kernel
theorem mw_351 : Cond.fieldLink RX1 15 "TypedTables$Column" "told" "I" ∈ wsL_law := lrk_15 _ (List.mem_of_getElem? (i := 15) rfl)
theorem dX1_takes_4 : decode cX1_takes 4 = .ok (.iconst (-1), 1) := by decide +kernel
theorem dX1_takes_5 : decode cX1_takes 5 = .ok (.if_icmp .eq 17, 3) := by decide +kernel
theorem dX1_takes_22 : decode cX1_takes 22 = .ok (.iconst 1, 1) := by decide +kernel
theorem dX1_takes_23 : decode cX1_takes 23 = .ok (.goto 4, 3) := by decide +kernel
theorem dX1_takes_27 : decode cX1_takes 27 = .ok (.ireturn, 1) := by decide +kernel
theorem dX1_takes_8 : decode cX1_takes 8 = .ok (.aload_n 0, 1) := by decide +kernel
theorem dX1_takes_9 : decode cX1_takes 9 = .ok (.getfield 15, 3) := by decide +kernel
theorem dX1_takes_12 : decode cX1_takes 12 = .ok (.aload_n 1, 1) := by decide +kernel
theorem dX1_takes_13 : decode cX1_takes 13 = .ok (.getfield 19, 3) := by decide +kernel
theorem mw_592 : Cond.fieldLink RX1 19 "TypedTables$Cell" "kind" "I" ∈ wsL_law := lrk_25 _ (List.mem_of_getElem? (i := 16) rfl)
theorem dX1_takes_16 : decode cX1_takes 16 = .ok (.invokestatic 24, 3) := by decide +kernel
theorem nw_X1_24 : Cond.methodLinkNest RX1 24 yX11_holds RX11 ∈ nwL := by decide +kernel
theorem hdS_X11_holds : okD yX11_holds 2 := by decide +kernel
theorem mw_593 : Cond.static yX11_holds ∈ wsL_law := lrk_25 _ (List.mem_of_getElem? (i := 17) rfl)
theorem mw_594 : Cond.code yX11_holds cX11_holds 2 (some .boolean) ∈ wsL_law := lrk_25 _ (List.mem_of_getElem? (i := 18) rfl)
theorem dX1_takes_19 : decode cX1_takes 19 = .ok (.ifCond .eq 7, 3) := by decide +kernel
theorem dX1_takes_26 : decode cX1_takes 26 = .ok (.iconst 0, 1) := by decide +kernel
theorem dX5_hasColumn_0 : decode cX5_hasColumn 0 = .ok (.iload_n 1, 1) := by decide +kernel
theorem dX5_hasColumn_1 : decode cX5_hasColumn 1 = .ok (.ifCond .lt 16, 3) := by decide +kernel
theorem dX5_hasColumn_17 : decode cX5_hasColumn 17 = .ok (.iconst 0, 1) := by decide +kernel
theorem dX5_hasColumn_18 : decode cX5_hasColumn 18 = .ok (.ireturn, 1) := by decide +kernel
theorem dX5_hasColumn_4 : decode cX5_hasColumn 4 = .ok (.iload_n 1, 1) := by decide +kernel
theorem dX5_hasColumn_5 : decode cX5_hasColumn 5 = .ok (.aload_n 0, 1) := by decide +kernel
theorem dX5_hasColumn_6 : decode cX5_hasColumn 6 = .ok (.getfield 9, 3) := by decide +kernel
theorem mw_382 : Cond.fieldLink RX5 9 "TypedTables$Sheet" "columns" "[LTypedTables$Column;" ∈ wsL_law := lrk_16 _ (List.mem_of_getElem? (i := 22) rfl)
theorem dX5_hasColumn_9 : decode cX5_hasColumn 9 = .ok (.arraylength, 1) := by decide +kernel
theorem dX5_hasColumn_10 : decode cX5_hasColumn 10 = .ok (.if_icmp .ge 7, 3) := by decide +kernel
theorem dX5_hasColumn_13 : decode cX5_hasColumn 13 = .ok (.iconst 1, 1) := by decide +kernel
theorem dX5_hasColumn_14 : decode cX5_hasColumn 14 = .ok (.goto 4, 3) := by decide +kernel
theorem dX5_hasRow_0 : decode cX5_hasRow 0 = .ok (.iload_n 1, 1) := by decide +kernel
theorem dX5_hasRow_1 : decode cX5_hasRow 1 = .ok (.ifCond .lt 15, 3) := by decide +kernel
theorem dX5_hasRow_16 : decode cX5_hasRow 16 = .ok (.iconst 0, 1) := by decide +kernel
theorem dX5_hasRow_17 : decode cX5_hasRow 17 = .ok (.ireturn, 1) := by decide +kernel
theorem dX5_hasRow_4 : decode cX5_hasRow 4 = .ok (.iload_n 1, 1) := by decide +kernel
theorem dX5_hasRow_5 : decode cX5_hasRow 5 = .ok (.aload_n 0, 1) := by decide +kernel
theorem dX5_hasRow_6 : decode cX5_hasRow 6 = .ok (.getfield 19, 3) := by decide +kernel
theorem mw_384 : Cond.fieldLink RX5 19 "TypedTables$Sheet" "rows" "I" ∈ wsL_law := lrk_17 _ (List.mem_of_getElem? (i := 0) rfl)
theorem dX5_hasRow_9 : decode cX5_hasRow 9 = .ok (.if_icmp .ge 7, 3) := by decide +kernel
theorem dX5_hasRow_12 : decode cX5_hasRow 12 = .ok (.iconst 1, 1) := by decide +kernel
theorem dX5_hasRow_13 : decode cX5_hasRow 13 = .ok (.goto 4, 3) := by decide +kernel
theorem dX5_hasCell_0 : decode cX5_hasCell 0 = .ok (.aload_n 0, 1) := by decide +kernel
theorem dX5_hasCell_1 : decode cX5_hasCell 1 = .ok (.iload_n 1, 1) := by decide +kernel
theorem dX5_hasCell_2 : decode cX5_hasCell 2 = .ok (.invokevirtual 32, 3) := by decide +kernel
theorem mw_583 : Cond.code yX5_hasRow cX5_hasRow 2 (some .boolean) ∈ wsL_law := lrk_25 _ (List.mem_of_getElem? (i := 7) rfl)
theorem mw_580 : Cond.methodLink RX5 32 yX5_hasRow ∈ wsL_law := lrk_25 _ (List.mem_of_getElem? (i := 4) rfl)
theorem mw_377 : Cond.initialized RX5 ∈ wsL_law := lrk_16 _ (List.mem_of_getElem? (i := 17) rfl)
theorem mw_581 : Cond.instanceMethod yX5_hasRow ∈ wsL_law := lrk_25 _ (List.mem_of_getElem? (i := 5) rfl)
theorem mw_582 : Cond.selects RX5 yX5_hasRow yX5_hasRow ∈ wsL_law := lrk_25 _ (List.mem_of_getElem? (i := 6) rfl)
theorem gV_X5_32 : GoodIn wsL_law (wsV RX5 32 RX5 yX5_hasRow (wl yX5_hasRow cX5_hasRow 2 (some .boolean))) := g_V mw_580 mw_581 mw_582 mw_377 mw_583
theorem hdV_X5_hasRow : yX5_hasRow.cls = RX5 ∧ okD yX5_hasRow 1 := by decide +kernel
theorem dX5_hasCell_5 : decode cX5_hasCell 5 = .ok (.ifCond .eq 15, 3) := by decide +kernel
theorem dX5_hasCell_8 : decode cX5_hasCell 8 = .ok (.aload_n 0, 1) := by decide +kernel
theorem dX5_hasCell_9 : decode cX5_hasCell 9 = .ok (.iload_n 2, 1) := by decide +kernel
theorem dX5_hasCell_10 : decode cX5_hasCell 10 = .ok (.invokevirtual 36, 3) := by decide +kernel
theorem mw_587 : Cond.code yX5_hasColumn cX5_hasColumn 2 (some .boolean) ∈ wsL_law := lrk_25 _ (List.mem_of_getElem? (i := 11) rfl)
theorem mw_584 : Cond.methodLink RX5 36 yX5_hasColumn ∈ wsL_law := lrk_25 _ (List.mem_of_getElem? (i := 8) rfl)
theorem mw_585 : Cond.instanceMethod yX5_hasColumn ∈ wsL_law := lrk_25 _ (List.mem_of_getElem? (i := 9) rfl)
theorem mw_586 : Cond.selects RX5 yX5_hasColumn yX5_hasColumn ∈ wsL_law := lrk_25 _ (List.mem_of_getElem? (i := 10) rfl)
theorem gV_X5_36 : GoodIn wsL_law (wsV RX5 36 RX5 yX5_hasColumn (wl yX5_hasColumn cX5_hasColumn 2 (some .boolean))) := g_V mw_584 mw_585 mw_586 mw_377 mw_587
theorem hdV_X5_hasColumn : yX5_hasColumn.cls = RX5 ∧ okD yX5_hasColumn 1 := by decide +kernel
theorem dX5_hasCell_13 : decode cX5_hasCell 13 = .ok (.ifCond .eq 7, 3) := by decide +kernel
theorem dX5_hasCell_16 : decode cX5_hasCell 16 = .ok (.iconst 1, 1) := by decide +kernel
theorem dX5_hasCell_17 : decode cX5_hasCell 17 = .ok (.goto 4, 3) := by decide +kernel
theorem dX5_hasCell_21 : decode cX5_hasCell 21 = .ok (.ireturn, 1) := by decide +kernel
theorem dX5_hasCell_20 : decode cX5_hasCell 20 = .ok (.iconst 0, 1) := by decide +kernel
theorem dX5_cellOf_0 : decode cX5_cellOf 0 = .ok (.aload_n 0, 1) := by decide +kernel
theorem dX5_cellOf_1 : decode cX5_cellOf 1 = .ok (.getfield 15, 3) := by decide +kernel
theorem mw_383 : Cond.fieldLink RX5 15 "TypedTables$Sheet" "cells" "[LTypedTables$Cell;" ∈ wsL_law := lrk_16 _ (List.mem_of_getElem? (i := 23) rfl)
theorem dX5_cellOf_4 : decode cX5_cellOf 4 = .ok (.iload_n 1, 1) := by decide +kernel
theorem dX5_cellOf_5 : decode cX5_cellOf 5 = .ok (.aload_n 0, 1) := by decide +kernel
theorem dX5_cellOf_6 : decode cX5_cellOf 6 = .ok (.getfield 9, 3) := by decide +kernel
theorem dX5_cellOf_9 : decode cX5_cellOf 9 = .ok (.arraylength, 1) := by decide +kernel
theorem dX5_cellOf_10 : decode cX5_cellOf 10 = .ok (.imul, 1) := by decide +kernel
theorem dX5_cellOf_11 : decode cX5_cellOf 11 = .ok (.iload_n 2, 1) := by decide +kernel
theorem dX5_cellOf_12 : decode cX5_cellOf 12 = .ok (.iadd, 1) := by decide +kernel
theorem dX5_cellOf_13 : decode cX5_cellOf 13 = .ok (.aaload, 1) := by decide +kernel
theorem dX5_cellOf_14 : decode cX5_cellOf 14 = .ok (.areturn, 1) := by decide +kernel
theorem dX5_guessTo_0 : decode cX5_guessTo 0 = .ok (.iconst 0, 1) := by decide +kernel
theorem dX5_guessTo_1 : decode cX5_guessTo 1 = .ok (.istore_n 3, 1) := by decide +kernel
theorem dX5_guessTo_2 : decode cX5_guessTo 2 = .ok (.iconst 0, 1) := by decide +kernel
theorem dX5_guessTo_3 : decode cX5_guessTo 3 = .ok (.istore 4, 2) := by decide +kernel
theorem dX5_guessTo_5 : decode cX5_guessTo 5 = .ok (.iload 4, 2) := by decide +kernel
theorem dX5_guessTo_7 : decode cX5_guessTo 7 = .ok (.iload_n 2, 1) := by decide +kernel
theorem dX5_guessTo_8 : decode cX5_guessTo 8 = .ok (.if_icmp .ge 24, 3) := by decide +kernel
theorem dX5_guessTo_32 : decode cX5_guessTo 32 = .ok (.iload_n 3, 1) := by decide +kernel
theorem dX5_guessTo_33 : decode cX5_guessTo 33 = .ok (.ireturn, 1) := by decide +kernel
theorem dX5_guessTo_11 : decode cX5_guessTo 11 = .ok (.iload_n 3, 1) := by decide +kernel
theorem dX5_guessTo_12 : decode cX5_guessTo 12 = .ok (.aload_n 0, 1) := by decide +kernel
theorem dX5_guessTo_13 : decode cX5_guessTo 13 = .ok (.iload 4, 2) := by decide +kernel
theorem dX5_guessTo_15 : decode cX5_guessTo 15 = .ok (.iload_n 1, 1) := by decide +kernel
theorem dX5_guessTo_16 : decode cX5_guessTo 16 = .ok (.invokevirtual 48, 3) := by decide +kernel
theorem mw_750 : Cond.code yX5_cellOf cX5_cellOf 3 (some (.object "TypedTables$Cell")) ∈ wsL_law := lrk_32 _ (List.mem_of_getElem? (i := 6) rfl)
theorem mw_747 : Cond.methodLink RX5 48 yX5_cellOf ∈ wsL_law := lrk_32 _ (List.mem_of_getElem? (i := 3) rfl)
theorem mw_748 : Cond.instanceMethod yX5_cellOf ∈ wsL_law := lrk_32 _ (List.mem_of_getElem? (i := 4) rfl)
theorem mw_749 : Cond.selects RX5 yX5_cellOf yX5_cellOf ∈ wsL_law := lrk_32 _ (List.mem_of_getElem? (i := 5) rfl)
theorem gV_X5_48 : GoodIn wsL_law (wsV RX5 48 RX5 yX5_cellOf (wl yX5_cellOf cX5_cellOf 3 (some (.object "TypedTables$Cell")))) := g_V mw_747 mw_748 mw_749 mw_377 mw_750
theorem hdV_X5_cellOf : yX5_cellOf.cls = RX5 ∧ okD yX5_cellOf 2 := by decide +kernel
theorem dX5_guessTo_19 : decode cX5_guessTo 19 = .ok (.getfield 52, 3) := by decide +kernel
theorem mw_767 : Cond.fieldLink RX5 52 "TypedTables$Cell" "kind" "I" ∈ wsL_law := lrk_32 _ (List.mem_of_getElem? (i := 23) rfl)
theorem dX5_guessTo_22 : decode cX5_guessTo 22 = .ok (.invokestatic 57, 3) := by decide +kernel
theorem nw_X5_57 : Cond.methodLinkNest RX5 57 yX11_join RX11 ∈ nwL := by decide +kernel
theorem dX5_guessTo_25 : decode cX5_guessTo 25 = .ok (.istore_n 3, 1) := by decide +kernel
theorem dX5_guessTo_26 : decode cX5_guessTo 26 = .ok (.iinc 4 1, 3) := by decide +kernel
theorem dX5_guessTo_29 : decode cX5_guessTo 29 = .ok (.goto (-24), 3) := by decide +kernel
theorem dX5_typeOf_0 : decode cX5_typeOf 0 = .ok (.aload_n 0, 1) := by decide +kernel
theorem dX5_typeOf_1 : decode cX5_typeOf 1 = .ok (.getfield 9, 3) := by decide +kernel
theorem dX5_typeOf_4 : decode cX5_typeOf 4 = .ok (.iload_n 1, 1) := by decide +kernel
theorem dX5_typeOf_5 : decode cX5_typeOf 5 = .ok (.aaload, 1) := by decide +kernel
theorem dX5_typeOf_6 : decode cX5_typeOf 6 = .ok (.getfield 39, 3) := by decide +kernel
theorem mw_814 : Cond.fieldLink RX5 39 "TypedTables$Column" "told" "I" ∈ wsL_law := lrk_34 _ (List.mem_of_getElem? (i := 22) rfl)
theorem dX5_typeOf_9 : decode cX5_typeOf 9 = .ok (.istore_n 2, 1) := by decide +kernel
theorem dX5_typeOf_10 : decode cX5_typeOf 10 = .ok (.iload_n 2, 1) := by decide +kernel
theorem dX5_typeOf_11 : decode cX5_typeOf 11 = .ok (.iconst (-1), 1) := by decide +kernel
theorem dX5_typeOf_12 : decode cX5_typeOf 12 = .ok (.if_icmp .ne 15, 3) := by decide +kernel
theorem dX5_typeOf_27 : decode cX5_typeOf 27 = .ok (.iload_n 2, 1) := by decide +kernel
theorem dX5_typeOf_28 : decode cX5_typeOf 28 = .ok (.ireturn, 1) := by decide +kernel
theorem dX5_typeOf_15 : decode cX5_typeOf 15 = .ok (.aload_n 0, 1) := by decide +kernel
theorem dX5_typeOf_16 : decode cX5_typeOf 16 = .ok (.iload_n 1, 1) := by decide +kernel
theorem dX5_typeOf_17 : decode cX5_typeOf 17 = .ok (.aload_n 0, 1) := by decide +kernel
theorem dX5_typeOf_18 : decode cX5_typeOf 18 = .ok (.getfield 19, 3) := by decide +kernel
theorem dX5_typeOf_21 : decode cX5_typeOf 21 = .ok (.invokevirtual 44, 3) := by decide +kernel
theorem mw_818 : Cond.code yX5_guessTo cX5_guessTo 5 (some .int) ∈ wsL_law := lrk_35 _ (List.mem_of_getElem? (i := 2) rfl)
theorem mw_815 : Cond.methodLink RX5 44 yX5_guessTo ∈ wsL_law := lrk_34 _ (List.mem_of_getElem? (i := 23) rfl)
theorem mw_816 : Cond.instanceMethod yX5_guessTo ∈ wsL_law := lrk_35 _ (List.mem_of_getElem? (i := 0) rfl)
theorem mw_817 : Cond.selects RX5 yX5_guessTo yX5_guessTo ∈ wsL_law := lrk_35 _ (List.mem_of_getElem? (i := 1) rfl)
theorem gV_X5_44 : GoodIn wsL_law (wsV RX5 44 RX5 yX5_guessTo (wl yX5_guessTo cX5_guessTo 5 (some .int))) := g_V mw_815 mw_816 mw_817 mw_377 mw_818
theorem hdV_X5_guessTo : yX5_guessTo.cls = RX5 ∧ okD yX5_guessTo 2 := by decide +kernel
theorem dX5_typeOf_24 : decode cX5_typeOf 24 = .ok (.goto 4, 3) := by decide +kernel
theorem dX5_proofRow_0 : decode cX5_proofRow 0 = .ok (.iconst 0, 1) := by decide +kernel
theorem dX5_proofRow_1 : decode cX5_proofRow 1 = .ok (.istore_n 3, 1) := by decide +kernel
theorem dX5_proofRow_2 : decode cX5_proofRow 2 = .ok (.iconst 0, 1) := by decide +kernel
theorem dX5_proofRow_3 : decode cX5_proofRow 3 = .ok (.istore 4, 2) := by decide +kernel
theorem dX5_proofRow_5 : decode cX5_proofRow 5 = .ok (.iconst 0, 1) := by decide +kernel
theorem dX5_proofRow_6 : decode cX5_proofRow 6 = .ok (.istore 5, 2) := by decide +kernel
theorem dX5_proofRow_8 : decode cX5_proofRow 8 = .ok (.iload 5, 2) := by decide +kernel
theorem dX5_proofRow_10 : decode cX5_proofRow 10 = .ok (.aload_n 0, 1) := by decide +kernel
theorem dX5_proofRow_11 : decode cX5_proofRow 11 = .ok (.getfield 19, 3) := by decide +kernel
theorem dX5_proofRow_14 : decode cX5_proofRow 14 = .ok (.if_icmp .ge 46, 3) := by decide +kernel
theorem dX5_proofRow_60 : decode cX5_proofRow 60 = .ok (.iconst (-1), 1) := by decide +kernel
theorem dX5_proofRow_61 : decode cX5_proofRow 61 = .ok (.ireturn, 1) := by decide +kernel
theorem dX5_proofRow_17 : decode cX5_proofRow 17 = .ok (.iload_n 3, 1) := by decide +kernel
theorem dX5_proofRow_18 : decode cX5_proofRow 18 = .ok (.aload_n 0, 1) := by decide +kernel
theorem dX5_proofRow_19 : decode cX5_proofRow 19 = .ok (.iload 5, 2) := by decide +kernel
theorem dX5_proofRow_21 : decode cX5_proofRow 21 = .ok (.iload_n 1, 1) := by decide +kernel
theorem dX5_proofRow_22 : decode cX5_proofRow 22 = .ok (.invokevirtual 48, 3) := by decide +kernel
theorem dX5_proofRow_25 : decode cX5_proofRow 25 = .ok (.getfield 52, 3) := by decide +kernel
theorem dX5_proofRow_28 : decode cX5_proofRow 28 = .ok (.invokestatic 57, 3) := by decide +kernel
theorem dX5_proofRow_31 : decode cX5_proofRow 31 = .ok (.istore 6, 2) := by decide +kernel
theorem dX5_proofRow_33 : decode cX5_proofRow 33 = .ok (.iload 6, 2) := by decide +kernel
theorem dX5_proofRow_35 : decode cX5_proofRow 35 = .ok (.iload_n 3, 1) := by decide +kernel
theorem dX5_proofRow_36 : decode cX5_proofRow 36 = .ok (.if_icmp .eq 15, 3) := by decide +kernel
theorem dX5_proofRow_51 : decode cX5_proofRow 51 = .ok (.iload 6, 2) := by decide +kernel
theorem dX5_proofRow_53 : decode cX5_proofRow 53 = .ok (.istore_n 3, 1) := by decide +kernel
theorem dX5_proofRow_54 : decode cX5_proofRow 54 = .ok (.iinc 5 1, 3) := by decide +kernel
theorem dX5_proofRow_57 : decode cX5_proofRow 57 = .ok (.goto (-49), 3) := by decide +kernel
theorem dX5_proofRow_39 : decode cX5_proofRow 39 = .ok (.iload 4, 2) := by decide +kernel
theorem dX5_proofRow_41 : decode cX5_proofRow 41 = .ok (.iload_n 2, 1) := by decide +kernel
theorem dX5_proofRow_42 : decode cX5_proofRow 42 = .ok (.if_icmp .ne 6, 3) := by decide +kernel
theorem dX5_proofRow_48 : decode cX5_proofRow 48 = .ok (.iinc 4 1, 3) := by decide +kernel
theorem dX5_proofRow_45 : decode cX5_proofRow 45 = .ok (.iload 5, 2) := by decide +kernel
theorem dX5_proofRow_47 : decode cX5_proofRow 47 = .ok (.ireturn, 1) := by decide +kernel
theorem dX5_proofSize_0 : decode cX5_proofSize 0 = .ok (.iconst 0, 1) := by decide +kernel
theorem dX5_proofSize_1 : decode cX5_proofSize 1 = .ok (.istore_n 2, 1) := by decide +kernel
theorem dX5_proofSize_2 : decode cX5_proofSize 2 = .ok (.iload_n 2, 1) := by decide +kernel
theorem dX5_proofSize_3 : decode cX5_proofSize 3 = .ok (.aload_n 0, 1) := by decide +kernel
theorem dX5_proofSize_4 : decode cX5_proofSize 4 = .ok (.getfield 19, 3) := by decide +kernel
theorem dX5_proofSize_7 : decode cX5_proofSize 7 = .ok (.if_icmp .ge 19, 3) := by decide +kernel
theorem dX5_proofSize_26 : decode cX5_proofSize 26 = .ok (.iload_n 2, 1) := by decide +kernel
theorem dX5_proofSize_27 : decode cX5_proofSize 27 = .ok (.ireturn, 1) := by decide +kernel
theorem dX5_proofSize_10 : decode cX5_proofSize 10 = .ok (.aload_n 0, 1) := by decide +kernel
theorem dX5_proofSize_11 : decode cX5_proofSize 11 = .ok (.iload_n 1, 1) := by decide +kernel
theorem dX5_proofSize_12 : decode cX5_proofSize 12 = .ok (.iload_n 2, 1) := by decide +kernel
theorem dX5_proofSize_13 : decode cX5_proofSize 13 = .ok (.invokevirtual 60, 3) := by decide +kernel
theorem mw_1170 : Cond.code yX5_proofRow cX5_proofRow 7 (some .int) ∈ wsL_law := lrk_49 _ (List.mem_of_getElem? (i := 18) rfl)
theorem mw_1167 : Cond.methodLink RX5 60 yX5_proofRow ∈ wsL_law := lrk_49 _ (List.mem_of_getElem? (i := 15) rfl)
theorem mw_1168 : Cond.instanceMethod yX5_proofRow ∈ wsL_law := lrk_49 _ (List.mem_of_getElem? (i := 16) rfl)
theorem mw_1169 : Cond.selects RX5 yX5_proofRow yX5_proofRow ∈ wsL_law := lrk_49 _ (List.mem_of_getElem? (i := 17) rfl)
theorem gV_X5_60 : GoodIn wsL_law (wsV RX5 60 RX5 yX5_proofRow (wl yX5_proofRow cX5_proofRow 7 (some .int))) := g_V mw_1167 mw_1168 mw_1169 mw_377 mw_1170
theorem hdV_X5_proofRow : yX5_proofRow.cls = RX5 ∧ okD yX5_proofRow 2 := by decide +kernel
theorem dX5_proofSize_16 : decode cX5_proofSize 16 = .ok (.iconst (-1), 1) := by decide +kernel
theorem dX5_proofSize_17 : decode cX5_proofSize 17 = .ok (.if_icmp .eq 9, 3) := by decide +kernel
theorem dX5_proofSize_20 : decode cX5_proofSize 20 = .ok (.iinc 2 1, 3) := by decide +kernel
theorem dX5_proofSize_23 : decode cX5_proofSize 23 = .ok (.goto (-21), 3) := by decide +kernel
theorem dX5_firstNotHeld_0 : decode cX5_firstNotHeld 0 = .ok (.iconst 0, 1) := by decide +kernel
theorem dX5_firstNotHeld_1 : decode cX5_firstNotHeld 1 = .ok (.istore_n 3, 1) := by decide +kernel
theorem dX5_firstNotHeld_2 : decode cX5_firstNotHeld 2 = .ok (.iload_n 3, 1) := by decide +kernel
theorem dX5_firstNotHeld_3 : decode cX5_firstNotHeld 3 = .ok (.aload_n 0, 1) := by decide +kernel
theorem dX5_firstNotHeld_4 : decode cX5_firstNotHeld 4 = .ok (.getfield 19, 3) := by decide +kernel
theorem dX5_firstNotHeld_7 : decode cX5_firstNotHeld 7 = .ok (.if_icmp .ge 27, 3) := by decide +kernel
theorem dX5_firstNotHeld_34 : decode cX5_firstNotHeld 34 = .ok (.iconst (-1), 1) := by decide +kernel
theorem dX5_firstNotHeld_35 : decode cX5_firstNotHeld 35 = .ok (.ireturn, 1) := by decide +kernel
theorem dX5_firstNotHeld_10 : decode cX5_firstNotHeld 10 = .ok (.iload_n 2, 1) := by decide +kernel
theorem dX5_firstNotHeld_11 : decode cX5_firstNotHeld 11 = .ok (.aload_n 0, 1) := by decide +kernel
theorem dX5_firstNotHeld_12 : decode cX5_firstNotHeld 12 = .ok (.iload_n 3, 1) := by decide +kernel
theorem dX5_firstNotHeld_13 : decode cX5_firstNotHeld 13 = .ok (.iload_n 1, 1) := by decide +kernel
theorem dX5_firstNotHeld_14 : decode cX5_firstNotHeld 14 = .ok (.invokevirtual 48, 3) := by decide +kernel
theorem dX5_firstNotHeld_17 : decode cX5_firstNotHeld 17 = .ok (.getfield 52, 3) := by decide +kernel
theorem dX5_firstNotHeld_20 : decode cX5_firstNotHeld 20 = .ok (.invokestatic 63, 3) := by decide +kernel
theorem nw_X5_63 : Cond.methodLinkNest RX5 63 yX11_holds RX11 ∈ nwL := by decide +kernel
theorem dX5_firstNotHeld_23 : decode cX5_firstNotHeld 23 = .ok (.ifCond .ne 5, 3) := by decide +kernel
theorem dX5_firstNotHeld_28 : decode cX5_firstNotHeld 28 = .ok (.iinc 3 1, 3) := by decide +kernel
theorem dX5_firstNotHeld_31 : decode cX5_firstNotHeld 31 = .ok (.goto (-29), 3) := by decide +kernel
theorem dX5_firstNotHeld_26 : decode cX5_firstNotHeld 26 = .ok (.iload_n 3, 1) := by decide +kernel
theorem dX5_firstNotHeld_27 : decode cX5_firstNotHeld 27 = .ok (.ireturn, 1) := by decide +kernel
theorem dX5_countEmpty_0 : decode cX5_countEmpty 0 = .ok (.iconst 0, 1) := by decide +kernel
theorem dX5_countEmpty_1 : decode cX5_countEmpty 1 = .ok (.istore_n 2, 1) := by decide +kernel
theorem dX5_countEmpty_2 : decode cX5_countEmpty 2 = .ok (.iconst 0, 1) := by decide +kernel
theorem dX5_countEmpty_3 : decode cX5_countEmpty 3 = .ok (.istore_n 3, 1) := by decide +kernel
theorem dX5_countEmpty_4 : decode cX5_countEmpty 4 = .ok (.iload_n 3, 1) := by decide +kernel
theorem dX5_countEmpty_5 : decode cX5_countEmpty 5 = .ok (.aload_n 0, 1) := by decide +kernel
theorem dX5_countEmpty_6 : decode cX5_countEmpty 6 = .ok (.getfield 19, 3) := by decide +kernel
theorem dX5_countEmpty_9 : decode cX5_countEmpty 9 = .ok (.if_icmp .ge 29, 3) := by decide +kernel
theorem dX5_countEmpty_38 : decode cX5_countEmpty 38 = .ok (.iload_n 2, 1) := by decide +kernel
theorem dX5_countEmpty_39 : decode cX5_countEmpty 39 = .ok (.ireturn, 1) := by decide +kernel
theorem dX5_countEmpty_12 : decode cX5_countEmpty 12 = .ok (.iload_n 2, 1) := by decide +kernel
theorem dX5_countEmpty_13 : decode cX5_countEmpty 13 = .ok (.aload_n 0, 1) := by decide +kernel
theorem dX5_countEmpty_14 : decode cX5_countEmpty 14 = .ok (.iload_n 3, 1) := by decide +kernel
theorem dX5_countEmpty_15 : decode cX5_countEmpty 15 = .ok (.iload_n 1, 1) := by decide +kernel
theorem dX5_countEmpty_16 : decode cX5_countEmpty 16 = .ok (.invokevirtual 48, 3) := by decide +kernel
theorem dX5_countEmpty_19 : decode cX5_countEmpty 19 = .ok (.invokevirtual 67, 3) := by decide +kernel
theorem mw_1175 : Cond.methodLink RX5 67 yX0_isEmpty ∈ wsL_law := lrk_49 _ (List.mem_of_getElem? (i := 23) rfl)
theorem gV_X5_67 : GoodIn wsL_law (wsV RX5 67 RX0 yX0_isEmpty (wl yX0_isEmpty cX0_isEmpty 1 (some .boolean))) := g_V mw_1175 mw_870 mw_871 mw_68 mw_872
theorem dX5_countEmpty_22 : decode cX5_countEmpty 22 = .ok (.ifCond .eq 7, 3) := by decide +kernel
theorem dX5_countEmpty_25 : decode cX5_countEmpty 25 = .ok (.iconst 1, 1) := by decide +kernel
theorem dX5_countEmpty_26 : decode cX5_countEmpty 26 = .ok (.goto 4, 3) := by decide +kernel
theorem dX5_countEmpty_30 : decode cX5_countEmpty 30 = .ok (.iadd, 1) := by decide +kernel
theorem dX5_countEmpty_31 : decode cX5_countEmpty 31 = .ok (.istore_n 2, 1) := by decide +kernel
theorem dX5_countEmpty_32 : decode cX5_countEmpty 32 = .ok (.iinc 3 1, 3) := by decide +kernel
theorem dX5_countEmpty_35 : decode cX5_countEmpty 35 = .ok (.goto (-31), 3) := by decide +kernel
theorem dX5_countEmpty_29 : decode cX5_countEmpty 29 = .ok (.iconst 0, 1) := by decide +kernel
theorem dX5_countBytes_0 : decode cX5_countBytes 0 = .ok (.iconst 0, 1) := by decide +kernel
theorem dX5_countBytes_1 : decode cX5_countBytes 1 = .ok (.istore_n 1, 1) := by decide +kernel
theorem dX5_countBytes_2 : decode cX5_countBytes 2 = .ok (.iconst 0, 1) := by decide +kernel
theorem dX5_countBytes_3 : decode cX5_countBytes 3 = .ok (.istore_n 2, 1) := by decide +kernel
theorem dX5_countBytes_4 : decode cX5_countBytes 4 = .ok (.iload_n 2, 1) := by decide +kernel
theorem dX5_countBytes_5 : decode cX5_countBytes 5 = .ok (.aload_n 0, 1) := by decide +kernel
theorem dX5_countBytes_6 : decode cX5_countBytes 6 = .ok (.getfield 15, 3) := by decide +kernel
theorem dX5_countBytes_9 : decode cX5_countBytes 9 = .ok (.arraylength, 1) := by decide +kernel
theorem dX5_countBytes_10 : decode cX5_countBytes 10 = .ok (.if_icmp .ge 22, 3) := by decide +kernel
theorem dX5_countBytes_32 : decode cX5_countBytes 32 = .ok (.iload_n 1, 1) := by decide +kernel
theorem dX5_countBytes_33 : decode cX5_countBytes 33 = .ok (.ireturn, 1) := by decide +kernel
theorem dX5_countBytes_13 : decode cX5_countBytes 13 = .ok (.iload_n 1, 1) := by decide +kernel
theorem dX5_countBytes_14 : decode cX5_countBytes 14 = .ok (.aload_n 0, 1) := by decide +kernel
theorem dX5_countBytes_15 : decode cX5_countBytes 15 = .ok (.getfield 15, 3) := by decide +kernel
theorem dX5_countBytes_18 : decode cX5_countBytes 18 = .ok (.iload_n 2, 1) := by decide +kernel
theorem dX5_countBytes_19 : decode cX5_countBytes 19 = .ok (.aaload, 1) := by decide +kernel
theorem dX5_countBytes_20 : decode cX5_countBytes 20 = .ok (.getfield 71, 3) := by decide +kernel
theorem mw_1148 : Cond.fieldLink RX5 71 "TypedTables$Cell" "bytes" "[B" ∈ wsL_law := lrk_48 _ (List.mem_of_getElem? (i := 20) rfl)
theorem dX5_countBytes_23 : decode cX5_countBytes 23 = .ok (.arraylength, 1) := by decide +kernel
theorem dX5_countBytes_24 : decode cX5_countBytes 24 = .ok (.iadd, 1) := by decide +kernel
theorem dX5_countBytes_25 : decode cX5_countBytes 25 = .ok (.istore_n 1, 1) := by decide +kernel
theorem dX5_countBytes_26 : decode cX5_countBytes 26 = .ok (.iinc 2 1, 3) := by decide +kernel
theorem dX5_countBytes_29 : decode cX5_countBytes 29 = .ok (.goto (-25), 3) := by decide +kernel
theorem dX5_takesRow_0 : decode cX5_takesRow 0 = .ok (.iconst 0, 1) := by decide +kernel
theorem dX5_takesRow_1 : decode cX5_takesRow 1 = .ok (.istore_n 2, 1) := by decide +kernel
theorem dX5_takesRow_2 : decode cX5_takesRow 2 = .ok (.iload_n 2, 1) := by decide +kernel
theorem dX5_takesRow_3 : decode cX5_takesRow 3 = .ok (.aload_n 0, 1) := by decide +kernel
theorem dX5_takesRow_4 : decode cX5_takesRow 4 = .ok (.getfield 9, 3) := by decide +kernel
theorem dX5_takesRow_7 : decode cX5_takesRow 7 = .ok (.arraylength, 1) := by decide +kernel
theorem dX5_takesRow_8 : decode cX5_takesRow 8 = .ok (.if_icmp .ge 26, 3) := by decide +kernel
theorem dX5_takesRow_34 : decode cX5_takesRow 34 = .ok (.iconst 1, 1) := by decide +kernel
theorem dX5_takesRow_35 : decode cX5_takesRow 35 = .ok (.ireturn, 1) := by decide +kernel
theorem dX5_takesRow_11 : decode cX5_takesRow 11 = .ok (.aload_n 0, 1) := by decide +kernel
theorem dX5_takesRow_12 : decode cX5_takesRow 12 = .ok (.getfield 9, 3) := by decide +kernel
theorem dX5_takesRow_15 : decode cX5_takesRow 15 = .ok (.iload_n 2, 1) := by decide +kernel
theorem dX5_takesRow_16 : decode cX5_takesRow 16 = .ok (.aaload, 1) := by decide +kernel
theorem dX5_takesRow_17 : decode cX5_takesRow 17 = .ok (.aload_n 1, 1) := by decide +kernel
theorem dX5_takesRow_18 : decode cX5_takesRow 18 = .ok (.iload_n 2, 1) := by decide +kernel
theorem dX5_takesRow_19 : decode cX5_takesRow 19 = .ok (.aaload, 1) := by decide +kernel
theorem dX5_takesRow_20 : decode cX5_takesRow 20 = .ok (.invokevirtual 91, 3) := by decide +kernel
theorem mw_591 : Cond.code yX1_takes cX1_takes 2 (some .boolean) ∈ wsL_law := lrk_25 _ (List.mem_of_getElem? (i := 15) rfl)
theorem mw_683 : Cond.methodLink RX5 91 yX1_takes ∈ wsL_law := lrk_29 _ (List.mem_of_getElem? (i := 11) rfl)
theorem mw_589 : Cond.instanceMethod yX1_takes ∈ wsL_law := lrk_25 _ (List.mem_of_getElem? (i := 13) rfl)
theorem mw_590 : Cond.selects RX1 yX1_takes yX1_takes ∈ wsL_law := lrk_25 _ (List.mem_of_getElem? (i := 14) rfl)
theorem gV_X5_91 : GoodIn wsL_law (wsV RX5 91 RX1 yX1_takes (wl yX1_takes cX1_takes 2 (some .boolean))) := g_V mw_683 mw_589 mw_590 mw_331 mw_591
theorem hdV_X1_takes : yX1_takes.cls = RX1 ∧ okD yX1_takes 1 := by decide +kernel
theorem dX5_takesRow_23 : decode cX5_takesRow 23 = .ok (.ifCond .ne 5, 3) := by decide +kernel
theorem dX5_takesRow_28 : decode cX5_takesRow 28 = .ok (.iinc 2 1, 3) := by decide +kernel
theorem dX5_takesRow_31 : decode cX5_takesRow 31 = .ok (.goto (-29), 3) := by decide +kernel
theorem dX5_takesRow_26 : decode cX5_takesRow 26 = .ok (.iconst 0, 1) := by decide +kernel
theorem dX5_takesRow_27 : decode cX5_takesRow 27 = .ok (.ireturn, 1) := by decide +kernel
set_option maxHeartbeats 4000000 in
set_option maxRecDepth 100000 in
theorem c_X11_isWholeOrFixed (l : Launch) (D : va_G) (κ : Nat → ClassId) (κq : Nat → Nat) (za : Int32) : Er l yX11_isWholeOrFixed (wl yX11_isWholeOrFixed cX11_isWholeOrFixed 1 (some .boolean)) { frames := 0, cells := 0, slots := 0, locals := 0 } D κ κq [.int za] [] (fun r : Int32 => some (.int r)) (fun r : Int32 => ((r = 1) ∨ (r = 0))) := by
  refine er_of (by decide +kernel) (Nat.le_of_ble_eq_true rfl) ?_
  intro p e s m args below meth c A ls hx hb hr hml hts hown hlk hKK hK hP hE hl
  have hS : va_S A s.heap s.heap [] := va_S.rf
  have hP : va_P D vwCl ([] ++ []) s.heap := hP
  have hFX : FX p s m args c cX11_isWholeOrFixed 1 RX11 := ⟨hx, hb, hml, hown, hts⟩
  have hl : lv_has ls 1 [(0, .int za)] := hl
  refine lv_iload_n hx hb dX11_isWholeOrFixed_0 rfl (lv_at hl 0 rfl) ?_
  refine lv_iconst (v := 2) hx hb dX11_isWholeOrFixed_1 (by decide) ?_
  refine lv_icmp_eq (tgt := 10) hx hb dX11_isWholeOrFixed_2 (by decide) (fun c_1 => ?_) (fun c_1 => ?_)
  · refine lv_iconst (v := 1) hx hb dX11_isWholeOrFixed_10 (by decide) ?_
    refine lv_goto (tgt := 15) hx hb dX11_isWholeOrFixed_11 (by decide) ?_
    exact cr_iret hx hb hr hlk rfl 1 rfl (by exact Or.inl (rfl)) dX11_isWholeOrFixed_15
  · refine lv_iload_n hx hb dX11_isWholeOrFixed_5 rfl (lv_at hl 0 rfl) ?_
    refine lv_iconst (v := 3) hx hb dX11_isWholeOrFixed_6 (by decide) ?_
    refine lv_icmp_ne (tgt := 14) hx hb dX11_isWholeOrFixed_7 (by decide) (fun c_2 => ?_) (fun c_2 => ?_)
    · refine lv_iconst (v := 0) hx hb dX11_isWholeOrFixed_14 (by decide) ?_
      exact cr_iret hx hb hr hlk rfl 0 rfl (by exact Or.inr ((rfl))) dX11_isWholeOrFixed_15
    · refine lv_iconst (v := 1) hx hb dX11_isWholeOrFixed_10 (by decide) ?_
      refine lv_goto (tgt := 15) hx hb dX11_isWholeOrFixed_11 (by decide) ?_
      exact cr_iret hx hb hr hlk rfl 1 rfl (by exact Or.inl (rfl)) dX11_isWholeOrFixed_15
set_option maxHeartbeats 4000000 in
set_option maxRecDepth 100000 in
theorem c_X11_join (l : Launch) (D : va_G) (κ : Nat → ClassId) (κq : Nat → Nat) (a : Nat) (b : Nat) (ha : a ≤ 5) (hb5 : b ≤ 5) : Er l yX11_join (wl yX11_join cX11_join 2 (some .int)) { frames := 1, cells := 0, slots := 0, locals := 20 } D κ κq [.int (nI a), .int (nI b)] [] (fun r : Nat => some (.int (nI r))) (fun r : Nat => r ≤ 5) := by
  refine er_of (by decide +kernel) (Nat.le_of_ble_eq_true rfl) ?_
  intro p e s m args below meth c A ls hx hb hr hml hts hown hlk hKK hK hP hE hl
  have hS : va_S A s.heap s.heap [] := va_S.rf
  have hP : va_P D vwCl ([] ++ []) s.heap := hP
  have hFX : FX p s m args c cX11_join 2 RX11 := ⟨hx, hb, hml, hown, hts⟩
  have hl : lv_has ls 2 [(0, .int (nI a)), (1, .int (nI b))] := hl
  refine lv_iload_n hx hb dX11_join_0 rfl (lv_at hl 0 rfl) ?_
  refine lv_iload_n hx hb dX11_join_1 rfl (lv_at hl 1 rfl) ?_
  refine lv_icmp_eq (tgt := 9) hx hb dX11_join_2 (by decide) (fun c_1 => ?_) (fun c_1 => ?_)
  · have nc_1 := cv_eq (a := a) (b := b) (by omega) (by omega) c_1
    refine lv_iload_n hx hb dX11_join_9 rfl (lv_at hl 0 rfl) ?_
    exact cr_iret hx hb hr hlk rfl a rfl (show a ≤ 5 from (by first | assumption | omega | rfl | exact Or.inl (by assumption) | exact Or.inr (by assumption))) dX11_join_10
  · have nc_1 := cv_ne (a := a) (b := b) (by omega) (by omega) c_1
    refine lv_iload_n hx hb dX11_join_5 rfl (lv_at hl 1 rfl) ?_
    refine lv_if_ne (tgt := 11) hx hb dX11_join_6 (by decide) (fun c_2 => ?_) (fun c_2 => ?_)
    · have nc_2 := cv_ne (a := b) (b := 0) (by omega) (by omega) c_2
      refine lv_iload_n hx hb dX11_join_11 rfl (lv_at hl 0 rfl) ?_
      refine lv_if_ne (tgt := 17) hx hb dX11_join_12 (by decide) (fun c_3 => ?_) (fun c_3 => ?_)
      · have nc_3 := cv_ne (a := a) (b := 0) (by omega) (by omega) c_3
        refine lv_iload_n hx hb dX11_join_17 rfl (lv_at hl 0 rfl) ?_
        refine er_S (As := [.int (nI a)]) (rest := []) hFX hKK hE hS (c_X11_isWholeOrFixed l D κ κq (nI a)) 1 gS_X11_369 hdS_X11_isWholeOrFixed rfl rfl ⟨Nat.le_of_ble_eq_true rfl, Nat.le_of_ble_eq_true rfl⟩ rfl rfl (Nat.le_of_ble_eq_true rfl) dX11_join_18 ⟨Nat.le_of_ble_eq_true rfl, Nat.le_of_ble_eq_true rfl⟩ hl.1 (subP0 hP [] rfl) (fun r__4 hp_5 => ?_)
        replace hp_5 : ((r__4 = 1) ∨ (r__4 = 0)) := hp_5
        have ha_6 := hp_5
        clear hp_5
        rcases ha_6 with rfl | rfl
        · refine W.eq (g2 := F0 m 21 ls [.int 1]) rfl ?_
          refine lv_if_eq (tgt := 35) hx hb dX11_join_21 (by decide) (fun c_7 => absurd c_7 (by decide)) (fun c_7 => ?_)
          refine lv_iload_n hx hb dX11_join_24 rfl (lv_at hl 1 rfl) ?_
          refine er_S (As := [.int (nI b)]) (rest := []) hFX hKK hE hS (c_X11_isWholeOrFixed l D κ κq (nI b)) 1 gS_X11_369 hdS_X11_isWholeOrFixed rfl rfl ⟨Nat.le_of_ble_eq_true rfl, Nat.le_of_ble_eq_true rfl⟩ rfl rfl (Nat.le_of_ble_eq_true rfl) dX11_join_25 ⟨Nat.le_of_ble_eq_true rfl, Nat.le_of_ble_eq_true rfl⟩ hl.1 (subP0 hP [] rfl) (fun r__8 hp_9 => ?_)
          replace hp_9 : ((r__8 = 1) ∨ (r__8 = 0)) := hp_9
          have ha_10 := hp_9
          clear hp_9
          rcases ha_10 with rfl | rfl
          · refine W.eq (g2 := F0 m 28 ls [.int 1]) rfl ?_
            refine lv_if_eq (tgt := 35) hx hb dX11_join_28 (by decide) (fun c_11 => absurd c_11 (by decide)) (fun c_11 => ?_)
            refine lv_iconst (v := 3) hx hb dX11_join_31 (by decide) ?_
            refine lv_goto (tgt := 36) hx hb dX11_join_32 (by decide) ?_
            exact cr_iret hx hb hr hlk rfl 3 rfl (show 3 ≤ 5 from (by first | assumption | omega | rfl | exact Or.inl (by assumption) | exact Or.inr (by assumption))) dX11_join_36
          · refine W.eq (g2 := F0 m 28 ls [.int 0]) rfl ?_
            refine lv_if_eq (tgt := 35) hx hb dX11_join_28 (by decide) (fun c_12 => ?_) (fun c_12 => absurd (by decide) c_12)
            refine lv_iconst (v := 5) hx hb dX11_join_35 (by decide) ?_
            exact cr_iret hx hb hr hlk rfl 5 rfl (show 5 ≤ 5 from (by first | assumption | omega | rfl | exact Or.inl (by assumption) | exact Or.inr (by assumption))) dX11_join_36
        · refine W.eq (g2 := F0 m 21 ls [.int 0]) rfl ?_
          refine lv_if_eq (tgt := 35) hx hb dX11_join_21 (by decide) (fun c_13 => ?_) (fun c_13 => absurd (by decide) c_13)
          refine lv_iconst (v := 5) hx hb dX11_join_35 (by decide) ?_
          exact cr_iret hx hb hr hlk rfl 5 rfl (show 5 ≤ 5 from (by first | assumption | omega | rfl | exact Or.inl (by assumption) | exact Or.inr (by assumption))) dX11_join_36
      · have nc_3 := cv_eq (a := a) (b := 0) (by omega) (by omega) c_3
        refine lv_iload_n hx hb dX11_join_15 rfl (lv_at hl 1 rfl) ?_
        exact cr_iret hx hb hr hlk rfl b rfl (show b ≤ 5 from (by first | assumption | omega | rfl | exact Or.inl (by assumption) | exact Or.inr (by assumption))) dX11_join_16
    · have nc_2 := cv_eq (a := b) (b := 0) (by omega) (by omega) c_2
      refine lv_iload_n hx hb dX11_join_9 rfl (lv_at hl 0 rfl) ?_
      exact cr_iret hx hb hr hlk rfl a rfl (show a ≤ 5 from (by first | assumption | omega | rfl | exact Or.inl (by assumption) | exact Or.inr (by assumption))) dX11_join_10
set_option maxHeartbeats 4000000 in
set_option maxRecDepth 100000 in
theorem c_X11_holds (l : Launch) (D : va_G) (κ : Nat → ClassId) (κq : Nat → Nat) (a : Nat) (b : Nat) (ha : a ≤ 5) (hb5 : b ≤ 5) : Er l yX11_holds (wl yX11_holds cX11_holds 2 (some .boolean)) { frames := 2, cells := 0, slots := 0, locals := 41 } D κ κq [.int (nI a), .int (nI b)] [] (fun r : Int32 => some (.int r)) (fun r : Int32 => ((r = 1) ∨ (r = 0))) := by
  refine er_of (by decide +kernel) (Nat.le_of_ble_eq_true rfl) ?_
  intro p e s m args below meth c A ls hx hb hr hml hts hown hlk hKK hK hP hE hl
  have hS : va_S A s.heap s.heap [] := va_S.rf
  have hP : va_P D vwCl ([] ++ []) s.heap := hP
  have hFX : FX p s m args c cX11_holds 2 RX11 := ⟨hx, hb, hml, hown, hts⟩
  have hl : lv_has ls 2 [(0, .int (nI a)), (1, .int (nI b))] := hl
  refine lv_iload_n hx hb dX11_holds_0 rfl (lv_at hl 0 rfl) ?_
  refine lv_iload_n hx hb dX11_holds_1 rfl (lv_at hl 1 rfl) ?_
  refine er_S (As := [.int (nI a), .int (nI b)]) (rest := []) hFX hKK hE hS (c_X11_join l D κ κq a b (by omega) (by omega)) 2 gS_X11_372 hdS_X11_join rfl rfl ⟨Nat.le_of_ble_eq_true rfl, Nat.le_of_ble_eq_true rfl⟩ rfl rfl (Nat.le_of_ble_eq_true rfl) dX11_holds_2 ⟨Nat.le_of_ble_eq_true rfl, Nat.le_of_ble_eq_true rfl⟩ hl.1 (subP0 hP [] rfl) (fun r__1 hp_2 => ?_)
  replace hp_2 : r__1 ≤ 5 := hp_2
  have h_3 := hp_2
  clear hp_2
  refine W.eq (g2 := F0 m 5 ls [.int (nI r__1)]) rfl ?_
  refine lv_iload_n hx hb dX11_holds_5 rfl (lv_at hl 0 rfl) ?_
  refine lv_icmp_ne (tgt := 13) hx hb dX11_holds_6 (by decide) (fun c_4 => ?_) (fun c_4 => ?_)
  · have nc_4 := cv_ne (a := r__1) (b := a) (by omega) (by omega) c_4
    refine lv_iconst (v := 0) hx hb dX11_holds_13 (by decide) ?_
    exact cr_iret hx hb hr hlk rfl 0 rfl (by exact Or.inr ((rfl))) dX11_holds_14
  · have nc_4 := cv_eq (a := r__1) (b := a) (by omega) (by omega) c_4
    refine lv_iconst (v := 1) hx hb dX11_holds_9 (by decide) ?_
    refine lv_goto (tgt := 14) hx hb dX11_holds_10 (by decide) ?_
    exact cr_iret hx hb hr hlk rfl 1 rfl (by exact Or.inl (rfl)) dX11_holds_14
set_option maxHeartbeats 4000000 in
set_option maxRecDepth 100000 in
theorem c_X11_common (l : Launch) (D : va_G) (κ : Nat → ClassId) (κq : Nat → Nat) (a : Nat) (b : Nat) (ha : a ≤ 5) (hb5 : b ≤ 5) : Er l yX11_common (wl yX11_common cX11_common 2 (some .int)) { frames := 1, cells := 0, slots := 0, locals := 20 } D κ κq [.int (nI a), .int (nI b)] [] (fun r : Int32 => some (.int r)) (fun r : Int32 => To r) := by
  refine er_of (by decide +kernel) (Nat.le_of_ble_eq_true rfl) ?_
  intro p e s m args below meth c A ls hx hb hr hml hts hown hlk hKK hK hP hE hl
  have hS : va_S A s.heap s.heap [] := va_S.rf
  have hP : va_P D vwCl ([] ++ []) s.heap := hP
  have hFX : FX p s m args c cX11_common 2 RX11 := ⟨hx, hb, hml, hown, hts⟩
  have hl : lv_has ls 2 [(0, .int (nI a)), (1, .int (nI b))] := hl
  refine lv_iload_n hx hb dX11_common_0 rfl (lv_at hl 0 rfl) ?_
  refine lv_iload_n hx hb dX11_common_1 rfl (lv_at hl 1 rfl) ?_
  refine lv_icmp_ne (tgt := 7) hx hb dX11_common_2 (by decide) (fun c_1 => ?_) (fun c_1 => ?_)
  · have nc_1 := cv_ne (a := a) (b := b) (by omega) (by omega) c_1
    refine lv_iload_n hx hb dX11_common_7 rfl (lv_at hl 0 rfl) ?_
    refine er_S (As := [.int (nI a)]) (rest := []) hFX hKK hE hS (c_X11_isWholeOrFixed l D κ κq (nI a)) 1 gS_X11_369 hdS_X11_isWholeOrFixed rfl rfl ⟨Nat.le_of_ble_eq_true rfl, Nat.le_of_ble_eq_true rfl⟩ rfl rfl (Nat.le_of_ble_eq_true rfl) dX11_common_8 ⟨Nat.le_of_ble_eq_true rfl, Nat.le_of_ble_eq_true rfl⟩ hl.1 (subP0 hP [] rfl) (fun r__2 hp_3 => ?_)
    replace hp_3 : ((r__2 = 1) ∨ (r__2 = 0)) := hp_3
    have ha_4 := hp_3
    clear hp_3
    rcases ha_4 with rfl | rfl
    · refine W.eq (g2 := F0 m 11 ls [.int 1]) rfl ?_
      refine lv_if_eq (tgt := 25) hx hb dX11_common_11 (by decide) (fun c_5 => absurd c_5 (by decide)) (fun c_5 => ?_)
      refine lv_iload_n hx hb dX11_common_14 rfl (lv_at hl 1 rfl) ?_
      refine er_S (As := [.int (nI b)]) (rest := []) hFX hKK hE hS (c_X11_isWholeOrFixed l D κ κq (nI b)) 1 gS_X11_369 hdS_X11_isWholeOrFixed rfl rfl ⟨Nat.le_of_ble_eq_true rfl, Nat.le_of_ble_eq_true rfl⟩ rfl rfl (Nat.le_of_ble_eq_true rfl) dX11_common_15 ⟨Nat.le_of_ble_eq_true rfl, Nat.le_of_ble_eq_true rfl⟩ hl.1 (subP0 hP [] rfl) (fun r__6 hp_7 => ?_)
      replace hp_7 : ((r__6 = 1) ∨ (r__6 = 0)) := hp_7
      have ha_8 := hp_7
      clear hp_7
      rcases ha_8 with rfl | rfl
      · refine W.eq (g2 := F0 m 18 ls [.int 1]) rfl ?_
        refine lv_if_eq (tgt := 25) hx hb dX11_common_18 (by decide) (fun c_9 => absurd c_9 (by decide)) (fun c_9 => ?_)
        refine lv_iconst (v := 3) hx hb dX11_common_21 (by decide) ?_
        refine lv_goto (tgt := 26) hx hb dX11_common_22 (by decide) ?_
        exact cr_iret hx hb hr hlk rfl 3 rfl (show To (3 : Int32) from (To_n (n := 3) (by omega))) dX11_common_26
      · refine W.eq (g2 := F0 m 18 ls [.int 0]) rfl ?_
        refine lv_if_eq (tgt := 25) hx hb dX11_common_18 (by decide) (fun c_10 => ?_) (fun c_10 => absurd (by decide) c_10)
        refine lv_iconst (v := (-1)) hx hb dX11_common_25 (by decide) ?_
        exact cr_iret hx hb hr hlk rfl (-1) rfl (show To (-1 : Int32) from To_m) dX11_common_26
    · refine W.eq (g2 := F0 m 11 ls [.int 0]) rfl ?_
      refine lv_if_eq (tgt := 25) hx hb dX11_common_11 (by decide) (fun c_11 => ?_) (fun c_11 => absurd (by decide) c_11)
      refine lv_iconst (v := (-1)) hx hb dX11_common_25 (by decide) ?_
      exact cr_iret hx hb hr hlk rfl (-1) rfl (show To (-1 : Int32) from To_m) dX11_common_26
  · have nc_1 := cv_eq (a := a) (b := b) (by omega) (by omega) c_1
    refine lv_iload_n hx hb dX11_common_5 rfl (lv_at hl 0 rfl) ?_
    exact cr_iret hx hb hr hlk rfl (nI a) rfl (show To (nI a) from (To_n (by omega))) dX11_common_6
set_option maxHeartbeats 4000000 in
set_option maxRecDepth 100000 in
theorem c_X1_takes (l : Launch) (D : va_G) (κ : Nat → ClassId) (κq : Nat → Nat) (im : va_W) (a : Nat) (n : Nat) (t : Int32) (ce : Nat) (k : Nat) (mm : Nat) (hc : Co κ im a n t) (hc2 : Cl κ im ce k mm) : Er l yX1_takes (wl yX1_takes cX1_takes 2 (some .boolean)) { frames := 3, cells := 0, slots := 0, locals := 62 } D κ κq [.ref a, .ref ce] ([] ++ im) (fun r : Int32 => some (.int r)) (fun r : Int32 => ((r = 1) ∨ (r = 0))) := by
  refine er_of (by decide +kernel) (Nat.le_of_ble_eq_true rfl) ?_
  intro p e s m args below meth c A ls hx hb hr hml hts hown hlk hKK hK hP hE hl
  have hS : va_S A s.heap s.heap [] := va_S.rf
  have hP : va_P D vwCl ([] ++ im) s.heap := hP
  have hFX : FX p s m args c cX1_takes 2 RX1 := ⟨hx, hb, hml, hown, hts⟩
  have hl : lv_has ls 2 [(0, .ref a), (1, .ref ce)] := hl
  refine lv_aload_n hx hb dX1_takes_0 rfl (lv_at hl 0 rfl) ?_
  obtain ⟨ht_1, b_2, hm_3, hb_4⟩ := id hc
  have hn_b_2 := hb_4.1
  refine va_get (D := D) (ci := 1) (v := .int t) (C := RX1) (T := TX1) (N := 2) hx hb hts inlX1 hown hK (oneP (C := []) hP hm_3) 0 rfl rfl 1 (by decide) (hts _ mw_351) (fun _ h9 => h9) rfl dX1_takes_1 ?_
  refine lv_iconst (v := (-1)) hx hb dX1_takes_4 (by decide) ?_
  refine lv_icmp_eq (tgt := 22) hx hb dX1_takes_5 (by decide) (fun c_5 => ?_) (fun c_5 => ?_)
  · refine lv_iconst (v := 1) hx hb dX1_takes_22 (by decide) ?_
    refine lv_goto (tgt := 27) hx hb dX1_takes_23 (by decide) ?_
    exact cr_iret hx hb hr hlk rfl 1 rfl (by exact Or.inl (rfl)) dX1_takes_27
  · obtain ⟨j_6, hj_6, rfl⟩ := Or.resolve_left ht_1 c_5
    refine lv_aload_n hx hb dX1_takes_8 rfl (lv_at hl 0 rfl) ?_
    refine va_get (D := D) (ci := 1) (v := .int (nI j_6)) (C := RX1) (T := TX1) (N := 2) hx hb hts inlX1 hown hK (oneP (C := []) hP hm_3) 0 rfl rfl 1 (by decide) (hts _ mw_351) (fun _ h9 => h9) rfl dX1_takes_9 ?_
    refine lv_aload_n hx hb dX1_takes_12 rfl (lv_at hl 1 rfl) ?_
    obtain ⟨hk_7, b_8, x_9, hm_10, hb_11⟩ := id hc2
    have hn_b_8 := hb_11.1
    refine va_get (D := D) (ci := 0) (v := .int (nI k)) (C := RX0) (T := TX0) (N := 3) hx hb hts inlX0 hown hK (oneP (C := []) hP hm_10) 0 rfl rfl 1 (by decide) (hts _ mw_592) (fun _ h9 => h9) rfl dX1_takes_13 ?_
    refine er_SN (As := [.int (nI j_6), .int (nI k)]) (rest := []) hFX hKK hE hS (c_X11_holds l D κ κq j_6 k (by omega) (by omega)) 2 nw_X1_24 mw_593 mw_2 mw_594 hdS_X11_holds rfl rfl ⟨Nat.le_of_ble_eq_true rfl, Nat.le_of_ble_eq_true rfl⟩ rfl rfl (Nat.le_of_ble_eq_true rfl) dX1_takes_16 ⟨Nat.le_of_ble_eq_true rfl, Nat.le_of_ble_eq_true rfl⟩ hl.1 (subP0 hP [] rfl) (fun r__12 hp_13 => ?_)
    replace hp_13 : ((r__12 = 1) ∨ (r__12 = 0)) := hp_13
    have ha_14 := hp_13
    clear hp_13
    rcases ha_14 with rfl | rfl
    · refine W.eq (g2 := F0 m 19 ls [.int 1]) rfl ?_
      refine lv_if_eq (tgt := 26) hx hb dX1_takes_19 (by decide) (fun c_15 => absurd c_15 (by decide)) (fun c_15 => ?_)
      refine lv_iconst (v := 1) hx hb dX1_takes_22 (by decide) ?_
      refine lv_goto (tgt := 27) hx hb dX1_takes_23 (by decide) ?_
      exact cr_iret hx hb hr hlk rfl 1 rfl (by exact Or.inl (rfl)) dX1_takes_27
    · refine W.eq (g2 := F0 m 19 ls [.int 0]) rfl ?_
      refine lv_if_eq (tgt := 26) hx hb dX1_takes_19 (by decide) (fun c_16 => ?_) (fun c_16 => absurd (by decide) c_16)
      refine lv_iconst (v := 0) hx hb dX1_takes_26 (by decide) ?_
      exact cr_iret hx hb hr hlk rfl 0 rfl (by exact Or.inr ((rfl))) dX1_takes_27
set_option maxHeartbeats 4000000 in
set_option maxRecDepth 100000 in
theorem c_X5_hasColumn (l : Launch) (D : va_G) (κ : Nat → ClassId) (κq : Nat → Nat) (im : va_W) (a : Nat) (R : Nat) (w : Nat) (za : Int32) (hs : Sh κ im a R w) : Er l yX5_hasColumn (wl yX5_hasColumn cX5_hasColumn 2 (some .boolean)) { frames := 0, cells := 0, slots := 0, locals := 0 } D κ κq [.ref a, .int za] ([] ++ im) (fun r : Int32 => some (.int r)) (fun r : Int32 => ((r = 1 ∧ (∃ j : Nat, j < w ∧ za = nI j)) ∨ (r = 0))) := by
  refine er_of (by decide +kernel) (Nat.le_of_ble_eq_true rfl) ?_
  intro p e s m args below meth c A ls hx hb hr hml hts hown hlk hKK hK hP hE hl
  have hS : va_S A s.heap s.heap [] := va_S.rf
  have hP : va_P D vwCl ([] ++ im) s.heap := hP
  have hFX : FX p s m args c cX5_hasColumn 2 RX5 := ⟨hx, hb, hml, hown, hts⟩
  have hl : lv_has ls 2 [(0, .ref a), (1, .int za)] := hl
  refine lv_iload_n hx hb dX5_hasColumn_0 rfl (lv_at hl 1 rfl) ?_
  refine lv_if_lt (tgt := 17) hx hb dX5_hasColumn_1 (by decide) (fun c_1 => ?_) (fun c_1 => ?_)
  · have nc_1 := cz_lt (a := za.toInt) (b := (0 : Int)) rfl (by decide) c_1
    refine lv_iconst (v := 0) hx hb dX5_hasColumn_17 (by decide) ?_
    exact cr_iret hx hb hr hlk rfl 0 rfl (by exact Or.inr ((rfl))) dX5_hasColumn_18
  · have nc_1 := cz_nlt (a := za.toInt) (b := (0 : Int)) rfl (by decide) c_1
    refine lv_iload_n hx hb dX5_hasColumn_4 rfl (lv_at hl 1 rfl) ?_
    refine lv_aload_n hx hb dX5_hasColumn_5 rfl (lv_at hl 0 rfl) ?_
    obtain ⟨hb_2, c_3, x_4, v_5, g_6, h_7, hm_8, hm_9, hm_10, lo_11, lc_12, vw_13⟩ := id hs
    obtain ⟨hb_2_1, hb_2_2, hb_2_3⟩ := hb_2
    have hrw_hb_2 := rw_le hb_2_1 hb_2_3
    refine va_get (D := D) (ci := 5) (v := .ref c_3) (C := RX5) (T := TX5) (N := 4) hx hb hts inlX5 hown hK (oneP (C := []) hP hm_8) 0 rfl rfl 0 (by decide) (hts _ mw_382) (fun _ h9 => h9) rfl dX5_hasColumn_6 ?_
    refine va_alen hx hb hK (oneP (C := []) hP hm_9) 0 3 rfl rfl (v := nI w) rfl dX5_hasColumn_9 ?_
    refine lv_icmp_ge (tgt := 17) hx hb dX5_hasColumn_10 (by decide) (fun c_14 => ?_) (fun c_14 => ?_)
    · have nc_14 := cz_le (a := ((w : Nat) : Int)) (b := za.toInt) (nI_toInt (by omega)) rfl c_14
      refine lv_iconst (v := 0) hx hb dX5_hasColumn_17 (by decide) ?_
      exact cr_iret hx hb hr hlk rfl 0 rfl (by exact Or.inr ((rfl))) dX5_hasColumn_18
    · have nc_14 := cz_nle (a := ((w : Nat) : Int)) (b := za.toInt) (nI_toInt (by omega)) rfl c_14
      refine lv_iconst (v := 1) hx hb dX5_hasColumn_13 (by decide) ?_
      refine lv_goto (tgt := 18) hx hb dX5_hasColumn_14 (by decide) ?_
      exact cr_iret hx hb hr hlk rfl 1 rfl (by exact Or.inl (⟨rfl, (show ∃ j : Nat, j < w ∧ za = nI j from (in_nat (by omega) (by omega)))⟩)) dX5_hasColumn_18
set_option maxHeartbeats 4000000 in
set_option maxRecDepth 100000 in
theorem c_X5_hasRow (l : Launch) (D : va_G) (κ : Nat → ClassId) (κq : Nat → Nat) (im : va_W) (a : Nat) (R : Nat) (w : Nat) (za : Int32) (hs : Sh κ im a R w) : Er l yX5_hasRow (wl yX5_hasRow cX5_hasRow 2 (some .boolean)) { frames := 0, cells := 0, slots := 0, locals := 0 } D κ κq [.ref a, .int za] ([] ++ im) (fun r : Int32 => some (.int r)) (fun r : Int32 => ((r = 1 ∧ (∃ j : Nat, j < R ∧ za = nI j)) ∨ (r = 0))) := by
  refine er_of (by decide +kernel) (Nat.le_of_ble_eq_true rfl) ?_
  intro p e s m args below meth c A ls hx hb hr hml hts hown hlk hKK hK hP hE hl
  have hS : va_S A s.heap s.heap [] := va_S.rf
  have hP : va_P D vwCl ([] ++ im) s.heap := hP
  have hFX : FX p s m args c cX5_hasRow 2 RX5 := ⟨hx, hb, hml, hown, hts⟩
  have hl : lv_has ls 2 [(0, .ref a), (1, .int za)] := hl
  refine lv_iload_n hx hb dX5_hasRow_0 rfl (lv_at hl 1 rfl) ?_
  refine lv_if_lt (tgt := 16) hx hb dX5_hasRow_1 (by decide) (fun c_1 => ?_) (fun c_1 => ?_)
  · have nc_1 := cz_lt (a := za.toInt) (b := (0 : Int)) rfl (by decide) c_1
    refine lv_iconst (v := 0) hx hb dX5_hasRow_16 (by decide) ?_
    exact cr_iret hx hb hr hlk rfl 0 rfl (by exact Or.inr ((rfl))) dX5_hasRow_17
  · have nc_1 := cz_nlt (a := za.toInt) (b := (0 : Int)) rfl (by decide) c_1
    refine lv_iload_n hx hb dX5_hasRow_4 rfl (lv_at hl 1 rfl) ?_
    refine lv_aload_n hx hb dX5_hasRow_5 rfl (lv_at hl 0 rfl) ?_
    obtain ⟨hb_2, c_3, x_4, v_5, g_6, h_7, hm_8, hm_9, hm_10, lo_11, lc_12, vw_13⟩ := id hs
    obtain ⟨hb_2_1, hb_2_2, hb_2_3⟩ := hb_2
    have hrw_hb_2 := rw_le hb_2_1 hb_2_3
    refine va_get (D := D) (ci := 5) (v := .int (nI R)) (C := RX5) (T := TX5) (N := 4) hx hb hts inlX5 hown hK (oneP (C := []) hP hm_8) 0 rfl rfl 2 (by decide) (hts _ mw_384) (fun _ h9 => h9) rfl dX5_hasRow_6 ?_
    refine lv_icmp_ge (tgt := 16) hx hb dX5_hasRow_9 (by decide) (fun c_14 => ?_) (fun c_14 => ?_)
    · have nc_14 := cz_le (a := ((R : Nat) : Int)) (b := za.toInt) (nI_toInt (by omega)) rfl c_14
      refine lv_iconst (v := 0) hx hb dX5_hasRow_16 (by decide) ?_
      exact cr_iret hx hb hr hlk rfl 0 rfl (by exact Or.inr ((rfl))) dX5_hasRow_17
    · have nc_14 := cz_nle (a := ((R : Nat) : Int)) (b := za.toInt) (nI_toInt (by omega)) rfl c_14
      refine lv_iconst (v := 1) hx hb dX5_hasRow_12 (by decide) ?_
      refine lv_goto (tgt := 17) hx hb dX5_hasRow_13 (by decide) ?_
      exact cr_iret hx hb hr hlk rfl 1 rfl (by exact Or.inl (⟨rfl, (show ∃ j : Nat, j < R ∧ za = nI j from (in_nat (by omega) (by omega)))⟩)) dX5_hasRow_17
set_option maxHeartbeats 4000000 in
set_option maxRecDepth 100000 in
theorem c_X5_hasCell (l : Launch) (D : va_G) (κ : Nat → ClassId) (κq : Nat → Nat) (im : va_W) (a : Nat) (R : Nat) (w : Nat) (zr : Int32) (zc : Int32) (hs : Sh κ im a R w) : Er l yX5_hasCell (wl yX5_hasCell cX5_hasCell 3 (some .boolean)) { frames := 1, cells := 0, slots := 0, locals := 21 } D κ κq [.ref a, .int zr, .int zc] ([] ++ im) (fun r : Int32 => some (.int r)) (fun r : Int32 => ((r = 1 ∧ (∃ j : Nat, j < R ∧ zr = nI j) ∧ (∃ k : Nat, k < w ∧ zc = nI k)) ∨ (r = 0))) := by
  refine er_of (by decide +kernel) (Nat.le_of_ble_eq_true rfl) ?_
  intro p e s m args below meth c A ls hx hb hr hml hts hown hlk hKK hK hP hE hl
  have hS : va_S A s.heap s.heap [] := va_S.rf
  have hP : va_P D vwCl ([] ++ im) s.heap := hP
  have hFX : FX p s m args c cX5_hasCell 3 RX5 := ⟨hx, hb, hml, hown, hts⟩
  have hl : lv_has ls 3 [(0, .ref a), (1, .int zr), (2, .int zc)] := hl
  refine lv_aload_n hx hb dX5_hasCell_0 rfl (lv_at hl 0 rfl) ?_
  refine lv_iload_n hx hb dX5_hasCell_1 rfl (lv_at hl 1 rfl) ?_
  obtain ⟨hb_3, c_4, x_5, v_6, g_7, h_8, hm_9, hm_10, hm_11, lo_12, lc_13, vw_14⟩ := id hs
  obtain ⟨hb_3_1, hb_3_2, hb_3_3⟩ := hb_3
  have hrw_hb_3 := rw_le hb_3_1 hb_3_3
  refine er_V (As := [.int zr]) (rest := []) hFX hKK hE hS (c_X5_hasRow l D κ κq im a R w zr hs) 1 gV_X5_32 hdV_X5_hasRow rfl rfl ⟨Nat.le_of_ble_eq_true rfl, Nat.le_of_ble_eq_true rfl⟩ rfl rfl (Nat.le_of_ble_eq_true rfl) dX5_hasCell_2 ⟨Nat.le_of_ble_eq_true rfl, Nat.le_of_ble_eq_true rfl⟩ hl.1 (oneP (C := []) hP hm_9) 0 5 rfl rfl rfl (subP hP [] rfl) (fun r__1 hp_2 => ?_)
  replace hp_2 : ((r__1 = 1 ∧ (∃ j : Nat, j < R ∧ zr = nI j)) ∨ (r__1 = 0)) := hp_2
  have ha_15 := hp_2
  clear hp_2
  rcases ha_15 with ⟨rfl, ⟨j_16, hj_16, rfl⟩⟩ | rfl
  · refine W.eq (g2 := F0 m 5 ls [.int 1]) rfl ?_
    refine lv_if_eq (tgt := 20) hx hb dX5_hasCell_5 (by decide) (fun c_18 => absurd c_18 (by decide)) (fun c_18 => ?_)
    refine lv_aload_n hx hb dX5_hasCell_8 rfl (lv_at hl 0 rfl) ?_
    refine lv_iload_n hx hb dX5_hasCell_9 rfl (lv_at hl 2 rfl) ?_
    refine er_V (As := [.int zc]) (rest := []) hFX hKK hE hS (c_X5_hasColumn l D κ κq im a R w zc hs) 1 gV_X5_36 hdV_X5_hasColumn rfl rfl ⟨Nat.le_of_ble_eq_true rfl, Nat.le_of_ble_eq_true rfl⟩ rfl rfl (Nat.le_of_ble_eq_true rfl) dX5_hasCell_10 ⟨Nat.le_of_ble_eq_true rfl, Nat.le_of_ble_eq_true rfl⟩ hl.1 (oneP (C := []) hP hm_9) 0 5 rfl rfl rfl (subP hP [] rfl) (fun r__19 hp_20 => ?_)
    replace hp_20 : ((r__19 = 1 ∧ (∃ j : Nat, j < w ∧ zc = nI j)) ∨ (r__19 = 0)) := hp_20
    have ha_21 := hp_20
    clear hp_20
    rcases ha_21 with ⟨rfl, ⟨j_22, hj_22, rfl⟩⟩ | rfl
    · refine W.eq (g2 := F0 m 13 ls [.int 1]) rfl ?_
      refine lv_if_eq (tgt := 20) hx hb dX5_hasCell_13 (by decide) (fun c_24 => absurd c_24 (by decide)) (fun c_24 => ?_)
      refine lv_iconst (v := 1) hx hb dX5_hasCell_16 (by decide) ?_
      refine lv_goto (tgt := 21) hx hb dX5_hasCell_17 (by decide) ?_
      exact cr_iret hx hb hr hlk rfl 1 rfl (by exact Or.inl (⟨rfl, ⟨_, (by first | assumption | omega), (by first | rfl | assumption)⟩, ⟨_, (by first | assumption | omega), (by first | rfl | assumption)⟩⟩)) dX5_hasCell_21
    · refine W.eq (g2 := F0 m 13 ls [.int 0]) rfl ?_
      refine lv_if_eq (tgt := 20) hx hb dX5_hasCell_13 (by decide) (fun c_25 => ?_) (fun c_25 => absurd (by decide) c_25)
      refine lv_iconst (v := 0) hx hb dX5_hasCell_20 (by decide) ?_
      exact cr_iret hx hb hr hlk rfl 0 rfl (by exact Or.inr ((rfl))) dX5_hasCell_21
  · refine W.eq (g2 := F0 m 5 ls [.int 0]) rfl ?_
    refine lv_if_eq (tgt := 20) hx hb dX5_hasCell_5 (by decide) (fun c_26 => ?_) (fun c_26 => absurd (by decide) c_26)
    refine lv_iconst (v := 0) hx hb dX5_hasCell_20 (by decide) ?_
    exact cr_iret hx hb hr hlk rfl 0 rfl (by exact Or.inr ((rfl))) dX5_hasCell_21
set_option maxHeartbeats 4000000 in
set_option maxRecDepth 100000 in
theorem c_X5_cellOf (l : Launch) (D : va_G) (κ : Nat → ClassId) (κq : Nat → Nat) (im : va_W) (a : Nat) (R : Nat) (w : Nat) (r9 : Nat) (c9 : Nat) (hs : Sh κ im a R w) (hr9 : r9 < R) (hc9 : c9 < w) : Er l yX5_cellOf (wl yX5_cellOf cX5_cellOf 3 (some (.object "TypedTables$Cell"))) { frames := 0, cells := 0, slots := 0, locals := 0 } D κ κq [.ref a, .int (nI r9), .int (nI c9)] ([] ++ im) (fun r : Option Nat => some (va_rf r)) (fun r : Option Nat => ((∃ (q : Nat), ∃ (k : Nat), ∃ (m : Nat), r = some q ∧ Cl κ im q k m))) := by
  refine er_of (by decide +kernel) (Nat.le_of_ble_eq_true rfl) ?_
  intro p e s m args below meth c A ls hx hb hr hml hts hown hlk hKK hK hP hE hl
  have hS : va_S A s.heap s.heap [] := va_S.rf
  have hP : va_P D vwCl ([] ++ im) s.heap := hP
  have hFX : FX p s m args c cX5_cellOf 3 RX5 := ⟨hx, hb, hml, hown, hts⟩
  have hl : lv_has ls 3 [(0, .ref a), (1, .int (nI r9)), (2, .int (nI c9))] := hl
  refine lv_aload_n hx hb dX5_cellOf_0 rfl (lv_at hl 0 rfl) ?_
  obtain ⟨hb_1, c_2, x_3, v_4, g_5, h_6, hm_7, hm_8, hm_9, lo_10, lc_11, vw_12⟩ := id hs
  obtain ⟨hb_1_1, hb_1_2, hb_1_3⟩ := hb_1
  have hrw_hb_1 := rw_le hb_1_1 hb_1_3
  refine va_get (D := D) (ci := 5) (v := .ref x_3) (C := RX5) (T := TX5) (N := 4) hx hb hts inlX5 hown hK (oneP (C := []) hP hm_7) 0 rfl rfl 1 (by decide) (hts _ mw_383) (fun _ h9 => h9) rfl dX5_cellOf_1 ?_
  refine lv_iload_n hx hb dX5_cellOf_4 rfl (lv_at hl 1 rfl) ?_
  refine lv_aload_n hx hb dX5_cellOf_5 rfl (lv_at hl 0 rfl) ?_
  refine va_get (D := D) (ci := 5) (v := .ref c_2) (C := RX5) (T := TX5) (N := 4) hx hb hts inlX5 hown hK (oneP (C := []) hP hm_7) 0 rfl rfl 0 (by decide) (hts _ mw_382) (fun _ h9 => h9) rfl dX5_cellOf_6 ?_
  refine va_alen hx hb hK (oneP (C := []) hP hm_8) 0 3 rfl rfl (v := nI w) rfl dX5_cellOf_9 ?_
  refine lv_imul hx hb dX5_cellOf_10 ?_
  refine ki (v := (nI (r9 * w))) (pk_mul r9 w) ?_
  refine lv_iload_n hx hb dX5_cellOf_11 rfl (lv_at hl 2 rfl) ?_
  refine lv_iadd hx hb dX5_cellOf_12 ?_
  refine ki (v := (nI (r9 * w + c9))) (nI_add (r9 * w) c9) ?_
  refine va_aldq hx hb hK (oneP (C := []) hP hm_9) 0 2 rfl rfl (i := nI (r9 * w + c9)) (vp_in_nI (n := r9 * w + c9) (ix_lt hr9 hc9) (by omega)) dX5_cellOf_13 ?_
  obtain ⟨q_13, e_14, k_15, m_16, h_17⟩ := lc_11 (r9 * w + c9) (ix_lt hr9 hc9)
  refine kv (v := .ref q_13) (by rw [nI_clamp (by have q9 := ix_lt hr9 hc9; omega)]; rw [e_14]; rfl) ?_
  exact cr_aret hx hb hr (by first | exact Or.inl ⟨_, rfl⟩ | exact Or.inr ⟨_, rfl⟩) hlk (by first | exact Or.inl rfl | exact Or.inr ⟨_, rfl⟩) (some q_13) rfl (by exact ⟨q_13, k_15, m_16, rfl, (show Cl κ im q_13 k_15 m_16 from h_17)⟩) dX5_cellOf_14
set_option maxHeartbeats 4000000 in
set_option maxRecDepth 100000 in
theorem c_X5_guessTo (l : Launch) (D : va_G) (κ : Nat → ClassId) (κq : Nat → Nat) (im : va_W) (a : Nat) (R : Nat) (w : Nat) (c9 : Nat) (n : Nat) (hs : Sh κ im a R w) (hc9 : c9 < w) (hn : n ≤ R) : Er l yX5_guessTo (wl yX5_guessTo cX5_guessTo 5 (some .int)) { frames := 2, cells := 0, slots := 0, locals := 41 } D κ κq [.ref a, .int (nI c9), .int (nI n)] ([] ++ im) (fun r : Nat => some (.int (nI r))) (fun r : Nat => r ≤ 5) := by
  refine er_of (by decide +kernel) (Nat.le_of_ble_eq_true rfl) ?_
  intro p e s m args below meth c A ls hx hb hr hml hts hown hlk hKK hK hP hE hl
  have hS : va_S A s.heap s.heap [] := va_S.rf
  have hP : va_P D vwCl ([] ++ im) s.heap := hP
  have hFX : FX p s m args c cX5_guessTo 5 RX5 := ⟨hx, hb, hml, hown, hts⟩
  have hl : lv_has ls 5 [(0, .ref a), (1, .int (nI c9)), (2, .int (nI n))] := hl
  obtain ⟨hb_1, c_2, x_3, v_4, g_5, h_6, hm_7, hm_8, hm_9, lo_10, lc_11, vw_12⟩ := id hs
  obtain ⟨hb_1_1, hb_1_2, hb_1_3⟩ := hb_1
  have hrw_hb_1 := rw_le hb_1_1 hb_1_3
  refine lv_iconst (v := 0) hx hb dX5_guessTo_0 (by decide) ?_
  refine lv_istore_n (lv' := [(3, .int 0), (0, .ref a), (1, .int (nI c9)), (2, .int (nI n))]) hx hb dX5_guessTo_1 rfl hl (by decide) rfl (fun ls hl => ?_)
  refine lv_iconst (v := 0) hx hb dX5_guessTo_2 (by decide) ?_
  refine lv_istore (lv' := [(4, .int 0), (3, .int 0), (0, .ref a), (1, .int (nI c9)), (2, .int (nI n))]) hx hb dX5_guessTo_3 hl (by decide) rfl (fun ls hl => ?_)
  refine loop_r (fun k9 ls => ∃ (k4_5 : Nat), ∃ (k3_5 : Nat), (k4_5 ≤ n) ∧ (k3_5 ≤ 5) ∧ n - k4_5 = k9 ∧ lv_has ls 5 [(4, .int (nI k4_5)), (3, .int (nI k3_5)), (0, .ref a), (1, .int (nI c9)), (2, .int (nI n))]) (fun k9 ls hI5 ih5 => ?_) (n - 0) _ ⟨0, 0, (by omega), (by omega), rfl, lv_sub hl [0, 1, 2, 3, 4] rfl⟩
  obtain ⟨k4_5, k3_5, hl5_0, hl5_1, hm5, hl⟩ := hI5
  refine lv_iload hx hb dX5_guessTo_5 (lv_at hl 0 rfl) ?_
  refine lv_iload_n hx hb dX5_guessTo_7 rfl (lv_at hl 4 rfl) ?_
  refine lv_icmp_ge (tgt := 32) hx hb dX5_guessTo_8 (by decide) (fun c_13 => ?_) (fun c_13 => ?_)
  · have nc_13 := cv_le (a := n) (b := k4_5) (by omega) (by omega) c_13
    refine lv_iload_n hx hb dX5_guessTo_32 rfl (lv_at hl 1 rfl) ?_
    exact cr_iret hx hb hr hlk rfl k3_5 rfl (show k3_5 ≤ 5 from (by first | assumption | omega | rfl | exact Or.inl (by assumption) | exact Or.inr (by assumption))) dX5_guessTo_33
  · have nc_13 := cv_nle (a := n) (b := k4_5) (by omega) (by omega) c_13
    refine lv_iload_n hx hb dX5_guessTo_11 rfl (lv_at hl 1 rfl) ?_
    refine lv_aload_n hx hb dX5_guessTo_12 rfl (lv_at hl 2 rfl) ?_
    refine lv_iload hx hb dX5_guessTo_13 (lv_at hl 0 rfl) ?_
    refine lv_iload_n hx hb dX5_guessTo_15 rfl (lv_at hl 3 rfl) ?_
    refine er_V (As := [.int (nI k4_5), .int (nI c9)]) (rest := [.int (nI k3_5)]) hFX hKK hE hS (c_X5_cellOf l D κ κq im a R w k4_5 c9 hs (by omega) (by omega)) 2 gV_X5_48 hdV_X5_cellOf rfl rfl ⟨Nat.le_of_ble_eq_true rfl, Nat.le_of_ble_eq_true rfl⟩ rfl rfl (Nat.le_of_ble_eq_true rfl) dX5_guessTo_16 ⟨Nat.le_of_ble_eq_true rfl, Nat.le_of_ble_eq_true rfl⟩ hl.1 (oneP (C := []) hP hm_7) 0 5 rfl rfl rfl (subP hP [] rfl) (fun r__14 hp_15 => ?_)
    replace hp_15 : ((∃ (q : Nat), ∃ (k : Nat), ∃ (m : Nat), r__14 = some q ∧ Cl κ im q k m)) := hp_15
    have ha_16 := hp_15
    clear hp_15
    rcases ha_16 with ⟨q__17, k__18, m__19, rfl, a_20⟩
    · refine W.eq (g2 := F0 m 19 ls [.ref q__17, .int (nI k3_5)]) rfl ?_
      obtain ⟨hk_21, b_22, x_23, hm_24, hb_25⟩ := id a_20
      have hn_b_22 := hb_25.1
      refine va_get (D := D) (ci := 0) (v := .int (nI k__18)) (C := RX0) (T := TX0) (N := 3) hx hb hts inlX0 hown hK (oneP (C := []) hP hm_24) 0 rfl rfl 1 (by decide) (hts _ mw_767) (fun _ h9 => h9) rfl dX5_guessTo_19 ?_
      refine er_SN (As := [.int (nI k3_5), .int (nI k__18)]) (rest := []) hFX hKK hE hS (c_X11_join l D κ κq k3_5 k__18 (by omega) (by omega)) 2 nw_X5_57 mw_596 mw_2 mw_597 hdS_X11_join rfl rfl ⟨Nat.le_of_ble_eq_true rfl, Nat.le_of_ble_eq_true rfl⟩ rfl rfl (Nat.le_of_ble_eq_true rfl) dX5_guessTo_22 ⟨Nat.le_of_ble_eq_true rfl, Nat.le_of_ble_eq_true rfl⟩ hl.1 (subP0 hP [] rfl) (fun r__26 hp_27 => ?_)
      replace hp_27 : r__26 ≤ 5 := hp_27
      have h_28 := hp_27
      clear hp_27
      refine W.eq (g2 := F0 m 25 ls [.int (nI r__26)]) rfl ?_
      refine lv_istore_n (lv' := [(3, .int (nI r__26)), (4, .int (nI k4_5)), (0, .ref a), (1, .int (nI c9)), (2, .int (nI n))]) hx hb dX5_guessTo_25 rfl hl (by decide) rfl (fun ls hl => ?_)
      refine lv_iinc (v := (nI (k4_5 + 1))) (lv' := [(4, .int (nI (k4_5 + 1))), (3, .int (nI r__26)), (0, .ref a), (1, .int (nI c9)), (2, .int (nI n))]) hx hb dX5_guessTo_26 hl (k := 1) rfl (nI_i k4_5) (by decide) rfl (fun ls hl => ?_)
      refine lv_goto (tgt := 5) hx hb dX5_guessTo_29 (by decide) ?_
      exact ih5 _ _ (by omega) ⟨(k4_5 + 1), r__26, (by omega), (by omega), rfl, lv_sub hl [0, 1, 2, 3, 4] rfl⟩
set_option maxHeartbeats 4000000 in
set_option maxRecDepth 100000 in
theorem c_X5_typeOf (l : Launch) (D : va_G) (κ : Nat → ClassId) (κq : Nat → Nat) (im : va_W) (a : Nat) (R : Nat) (w : Nat) (c9 : Nat) (hs : Sh κ im a R w) (hc9 : c9 < w) : Er l yX5_typeOf (wl yX5_typeOf cX5_typeOf 3 (some .int)) { frames := 3, cells := 0, slots := 0, locals := 65 } D κ κq [.ref a, .int (nI c9)] ([] ++ im) (fun r : Nat => some (.int (nI r))) (fun r : Nat => r ≤ 5) := by
  refine er_of (by decide +kernel) (Nat.le_of_ble_eq_true rfl) ?_
  intro p e s m args below meth c A ls hx hb hr hml hts hown hlk hKK hK hP hE hl
  have hS : va_S A s.heap s.heap [] := va_S.rf
  have hP : va_P D vwCl ([] ++ im) s.heap := hP
  have hFX : FX p s m args c cX5_typeOf 3 RX5 := ⟨hx, hb, hml, hown, hts⟩
  have hl : lv_has ls 3 [(0, .ref a), (1, .int (nI c9))] := hl
  refine lv_aload_n hx hb dX5_typeOf_0 rfl (lv_at hl 0 rfl) ?_
  obtain ⟨hb_1, c_2, x_3, v_4, g_5, h_6, hm_7, hm_8, hm_9, lo_10, lc_11, vw_12⟩ := id hs
  obtain ⟨hb_1_1, hb_1_2, hb_1_3⟩ := hb_1
  have hrw_hb_1 := rw_le hb_1_1 hb_1_3
  refine va_get (D := D) (ci := 5) (v := .ref c_2) (C := RX5) (T := TX5) (N := 4) hx hb hts inlX5 hown hK (oneP (C := []) hP hm_7) 0 rfl rfl 0 (by decide) (hts _ mw_382) (fun _ h9 => h9) rfl dX5_typeOf_1 ?_
  refine lv_iload_n hx hb dX5_typeOf_4 rfl (lv_at hl 1 rfl) ?_
  refine va_aldq hx hb hK (oneP (C := []) hP hm_8) 0 3 rfl rfl (i := nI c9) (vp_in_nI (n := c9) (by omega) (by omega)) dX5_typeOf_5 ?_
  obtain ⟨q_13, e_14, m_15, t_16, h_17⟩ := lo_10 c9 (by omega)
  refine kv (v := .ref q_13) (by rw [nI_clamp (by omega)]; rw [e_14]; rfl) ?_
  obtain ⟨ht_18, b_19, hm_20, hb_21⟩ := id h_17
  have hn_b_19 := hb_21.1
  refine va_get (D := D) (ci := 1) (v := .int t_16) (C := RX1) (T := TX1) (N := 2) hx hb hts inlX1 hown hK (oneP (C := []) hP hm_20) 0 rfl rfl 1 (by decide) (hts _ mw_814) (fun _ h9 => h9) rfl dX5_typeOf_6 ?_
  refine lv_istore_n (lv' := [(2, .int t_16), (0, .ref a), (1, .int (nI c9))]) hx hb dX5_typeOf_9 rfl hl (by decide) rfl (fun ls hl => ?_)
  refine lv_iload_n hx hb dX5_typeOf_10 rfl (lv_at hl 0 rfl) ?_
  refine lv_iconst (v := (-1)) hx hb dX5_typeOf_11 (by decide) ?_
  refine lv_icmp_ne (tgt := 27) hx hb dX5_typeOf_12 (by decide) (fun c_22 => ?_) (fun c_22 => ?_)
  · obtain ⟨j_23, hj_23, rfl⟩ := Or.resolve_left ht_18 c_22
    refine lv_iload_n hx hb dX5_typeOf_27 rfl (lv_at hl 0 rfl) ?_
    exact cr_iret hx hb hr hlk rfl j_23 rfl (show j_23 ≤ 5 from (by first | assumption | omega | rfl | exact Or.inl (by assumption) | exact Or.inr (by assumption))) dX5_typeOf_28
  · refine lv_aload_n hx hb dX5_typeOf_15 rfl (lv_at hl 1 rfl) ?_
    refine lv_iload_n hx hb dX5_typeOf_16 rfl (lv_at hl 2 rfl) ?_
    refine lv_aload_n hx hb dX5_typeOf_17 rfl (lv_at hl 1 rfl) ?_
    refine va_get (D := D) (ci := 5) (v := .int (nI R)) (C := RX5) (T := TX5) (N := 4) hx hb hts inlX5 hown hK (oneP (C := []) hP hm_7) 0 rfl rfl 2 (by decide) (hts _ mw_384) (fun _ h9 => h9) rfl dX5_typeOf_18 ?_
    refine er_V (As := [.int (nI c9), .int (nI R)]) (rest := []) hFX hKK hE hS (c_X5_guessTo l D κ κq im a R w c9 R hs (by omega) (by omega)) 2 gV_X5_44 hdV_X5_guessTo rfl rfl ⟨Nat.le_of_ble_eq_true rfl, Nat.le_of_ble_eq_true rfl⟩ rfl rfl (Nat.le_of_ble_eq_true rfl) dX5_typeOf_21 ⟨Nat.le_of_ble_eq_true rfl, Nat.le_of_ble_eq_true rfl⟩ hl.1 (oneP (C := []) hP hm_7) 0 5 rfl rfl rfl (subP hP [] rfl) (fun r__24 hp_25 => ?_)
    replace hp_25 : r__24 ≤ 5 := hp_25
    have h_26 := hp_25
    clear hp_25
    refine W.eq (g2 := F0 m 24 ls [.int (nI r__24)]) rfl ?_
    refine lv_goto (tgt := 28) hx hb dX5_typeOf_24 (by decide) ?_
    exact cr_iret hx hb hr hlk rfl r__24 rfl (show r__24 ≤ 5 from (by first | assumption | omega | rfl | exact Or.inl (by assumption) | exact Or.inr (by assumption))) dX5_typeOf_28
set_option maxHeartbeats 4000000 in
set_option maxRecDepth 100000 in
theorem c_X5_proofRow (l : Launch) (D : va_G) (κ : Nat → ClassId) (κq : Nat → Nat) (im : va_W) (a : Nat) (R : Nat) (w : Nat) (c9 : Nat) (zi : Int32) (hs : Sh κ im a R w) (hc9 : c9 < w) : Er l yX5_proofRow (wl yX5_proofRow cX5_proofRow 7 (some .int)) { frames := 2, cells := 0, slots := 0, locals := 41 } D κ κq [.ref a, .int (nI c9), .int zi] ([] ++ im) (fun r : Int32 => some (.int r)) (fun r : Int32 => (r = -1 ∨ ∃ j : Nat, j < R ∧ r = nI j)) := by
  refine er_of (by decide +kernel) (Nat.le_of_ble_eq_true rfl) ?_
  intro p e s m args below meth c A ls hx hb hr hml hts hown hlk hKK hK hP hE hl
  have hS : va_S A s.heap s.heap [] := va_S.rf
  have hP : va_P D vwCl ([] ++ im) s.heap := hP
  have hFX : FX p s m args c cX5_proofRow 7 RX5 := ⟨hx, hb, hml, hown, hts⟩
  have hl : lv_has ls 7 [(0, .ref a), (1, .int (nI c9)), (2, .int zi)] := hl
  obtain ⟨hb_1, c_2, x_3, v_4, g_5, h_6, hm_7, hm_8, hm_9, lo_10, lc_11, vw_12⟩ := id hs
  obtain ⟨hb_1_1, hb_1_2, hb_1_3⟩ := hb_1
  have hrw_hb_1 := rw_le hb_1_1 hb_1_3
  refine lv_iconst (v := 0) hx hb dX5_proofRow_0 (by decide) ?_
  refine lv_istore_n (lv' := [(3, .int 0), (0, .ref a), (1, .int (nI c9)), (2, .int zi)]) hx hb dX5_proofRow_1 rfl hl (by decide) rfl (fun ls hl => ?_)
  refine lv_iconst (v := 0) hx hb dX5_proofRow_2 (by decide) ?_
  refine lv_istore (lv' := [(4, .int 0), (3, .int 0), (0, .ref a), (1, .int (nI c9)), (2, .int zi)]) hx hb dX5_proofRow_3 hl (by decide) rfl (fun ls hl => ?_)
  refine lv_iconst (v := 0) hx hb dX5_proofRow_5 (by decide) ?_
  refine lv_istore (lv' := [(5, .int 0), (4, .int 0), (3, .int 0), (0, .ref a), (1, .int (nI c9)), (2, .int zi)]) hx hb dX5_proofRow_6 hl (by decide) rfl (fun ls hl => ?_)
  refine loop_r (fun k9 ls => ∃ (k5_8 : Nat), ∃ (k4_8 : Int32), ∃ (k3_8 : Nat), (k5_8 ≤ R) ∧ (k3_8 ≤ 5) ∧ R - k5_8 = k9 ∧ lv_has ls 7 [(5, .int (nI k5_8)), (4, .int k4_8), (3, .int (nI k3_8)), (0, .ref a), (1, .int (nI c9)), (2, .int zi)]) (fun k9 ls hI8 ih8 => ?_) (R - 0) _ ⟨0, 0, 0, (by omega), (by omega), rfl, lv_sub hl [0, 1, 2, 3, 4, 5] rfl⟩
  obtain ⟨k5_8, k4_8, k3_8, hl8_0, hl8_1, hm8, hl⟩ := hI8
  refine lv_iload hx hb dX5_proofRow_8 (lv_at hl 0 rfl) ?_
  refine lv_aload_n hx hb dX5_proofRow_10 rfl (lv_at hl 3 rfl) ?_
  refine va_get (D := D) (ci := 5) (v := .int (nI R)) (C := RX5) (T := TX5) (N := 4) hx hb hts inlX5 hown hK (oneP (C := []) hP hm_7) 0 rfl rfl 2 (by decide) (hts _ mw_384) (fun _ h9 => h9) rfl dX5_proofRow_11 ?_
  refine lv_icmp_ge (tgt := 60) hx hb dX5_proofRow_14 (by decide) (fun c_13 => ?_) (fun c_13 => ?_)
  · have nc_13 := cv_le (a := R) (b := k5_8) (by omega) (by omega) c_13
    refine lv_iconst (v := (-1)) hx hb dX5_proofRow_60 (by decide) ?_
    exact cr_iret hx hb hr hlk rfl (-1) rfl (show (-1 : Int32) = -1 ∨ ∃ j : Nat, j < R ∧ (-1 : Int32) = nI j from (Or.inl rfl)) dX5_proofRow_61
  · have nc_13 := cv_nle (a := R) (b := k5_8) (by omega) (by omega) c_13
    refine lv_iload_n hx hb dX5_proofRow_17 rfl (lv_at hl 2 rfl) ?_
    refine lv_aload_n hx hb dX5_proofRow_18 rfl (lv_at hl 3 rfl) ?_
    refine lv_iload hx hb dX5_proofRow_19 (lv_at hl 0 rfl) ?_
    refine lv_iload_n hx hb dX5_proofRow_21 rfl (lv_at hl 4 rfl) ?_
    refine er_V (As := [.int (nI k5_8), .int (nI c9)]) (rest := [.int (nI k3_8)]) hFX hKK hE hS (c_X5_cellOf l D κ κq im a R w k5_8 c9 hs (by omega) (by omega)) 2 gV_X5_48 hdV_X5_cellOf rfl rfl ⟨Nat.le_of_ble_eq_true rfl, Nat.le_of_ble_eq_true rfl⟩ rfl rfl (Nat.le_of_ble_eq_true rfl) dX5_proofRow_22 ⟨Nat.le_of_ble_eq_true rfl, Nat.le_of_ble_eq_true rfl⟩ hl.1 (oneP (C := []) hP hm_7) 0 5 rfl rfl rfl (subP hP [] rfl) (fun r__14 hp_15 => ?_)
    replace hp_15 : ((∃ (q : Nat), ∃ (k : Nat), ∃ (m : Nat), r__14 = some q ∧ Cl κ im q k m)) := hp_15
    have ha_16 := hp_15
    clear hp_15
    rcases ha_16 with ⟨q__17, k__18, m__19, rfl, a_20⟩
    · refine W.eq (g2 := F0 m 25 ls [.ref q__17, .int (nI k3_8)]) rfl ?_
      obtain ⟨hk_21, b_22, x_23, hm_24, hb_25⟩ := id a_20
      have hn_b_22 := hb_25.1
      refine va_get (D := D) (ci := 0) (v := .int (nI k__18)) (C := RX0) (T := TX0) (N := 3) hx hb hts inlX0 hown hK (oneP (C := []) hP hm_24) 0 rfl rfl 1 (by decide) (hts _ mw_767) (fun _ h9 => h9) rfl dX5_proofRow_25 ?_
      refine er_SN (As := [.int (nI k3_8), .int (nI k__18)]) (rest := []) hFX hKK hE hS (c_X11_join l D κ κq k3_8 k__18 (by omega) (by omega)) 2 nw_X5_57 mw_596 mw_2 mw_597 hdS_X11_join rfl rfl ⟨Nat.le_of_ble_eq_true rfl, Nat.le_of_ble_eq_true rfl⟩ rfl rfl (Nat.le_of_ble_eq_true rfl) dX5_proofRow_28 ⟨Nat.le_of_ble_eq_true rfl, Nat.le_of_ble_eq_true rfl⟩ hl.1 (subP0 hP [] rfl) (fun r__26 hp_27 => ?_)
      replace hp_27 : r__26 ≤ 5 := hp_27
      have h_28 := hp_27
      clear hp_27
      refine W.eq (g2 := F0 m 31 ls [.int (nI r__26)]) rfl ?_
      refine lv_istore (lv' := [(6, .int (nI r__26)), (5, .int (nI k5_8)), (4, .int k4_8), (3, .int (nI k3_8)), (0, .ref a), (1, .int (nI c9)), (2, .int zi)]) hx hb dX5_proofRow_31 hl (by decide) rfl (fun ls hl => ?_)
      refine lv_iload hx hb dX5_proofRow_33 (lv_at hl 0 rfl) ?_
      refine lv_iload_n hx hb dX5_proofRow_35 rfl (lv_at hl 3 rfl) ?_
      refine lv_icmp_eq (tgt := 51) hx hb dX5_proofRow_36 (by decide) (fun c_29 => ?_) (fun c_29 => ?_)
      · have nc_29 := cv_eq (a := r__26) (b := k3_8) (by omega) (by omega) c_29
        refine lv_iload hx hb dX5_proofRow_51 (lv_at hl 0 rfl) ?_
        refine lv_istore_n (lv' := [(3, .int (nI r__26)), (6, .int (nI r__26)), (5, .int (nI k5_8)), (4, .int k4_8), (0, .ref a), (1, .int (nI c9)), (2, .int zi)]) hx hb dX5_proofRow_53 rfl hl (by decide) rfl (fun ls hl => ?_)
        refine lv_iinc (v := (nI (k5_8 + 1))) (lv' := [(5, .int (nI (k5_8 + 1))), (3, .int (nI r__26)), (6, .int (nI r__26)), (4, .int k4_8), (0, .ref a), (1, .int (nI c9)), (2, .int zi)]) hx hb dX5_proofRow_54 hl (k := 2) rfl (nI_i k5_8) (by decide) rfl (fun ls hl => ?_)
        refine lv_goto (tgt := 8) hx hb dX5_proofRow_57 (by decide) ?_
        exact ih8 _ _ (by omega) ⟨(k5_8 + 1), k4_8, r__26, (by omega), (by omega), rfl, lv_sub hl [0, 3, 1, 4, 5, 6] rfl⟩
      · have nc_29 := cv_ne (a := r__26) (b := k3_8) (by omega) (by omega) c_29
        refine lv_iload hx hb dX5_proofRow_39 (lv_at hl 2 rfl) ?_
        refine lv_iload_n hx hb dX5_proofRow_41 rfl (lv_at hl 6 rfl) ?_
        refine lv_icmp_ne (tgt := 48) hx hb dX5_proofRow_42 (by decide) (fun c_30 => ?_) (fun c_30 => ?_)
        · obtain ⟨x_31, ex_31⟩ : ∃ y : Int32, y = k4_8 + 1 := ⟨_, rfl⟩
          refine lv_iinc (v := x_31) (lv' := [(4, .int x_31), (6, .int (nI r__26)), (5, .int (nI k5_8)), (3, .int (nI k3_8)), (0, .ref a), (1, .int (nI c9)), (2, .int zi)]) hx hb dX5_proofRow_48 hl (k := 2) rfl (by rw [ex_31]; rfl) (by decide) rfl (fun ls hl => ?_)
          refine lv_iload hx hb dX5_proofRow_51 (lv_at hl 1 rfl) ?_
          refine lv_istore_n (lv' := [(3, .int (nI r__26)), (4, .int x_31), (6, .int (nI r__26)), (5, .int (nI k5_8)), (0, .ref a), (1, .int (nI c9)), (2, .int zi)]) hx hb dX5_proofRow_53 rfl hl (by decide) rfl (fun ls hl => ?_)
          refine lv_iinc (v := (nI (k5_8 + 1))) (lv' := [(5, .int (nI (k5_8 + 1))), (3, .int (nI r__26)), (4, .int x_31), (6, .int (nI r__26)), (0, .ref a), (1, .int (nI c9)), (2, .int zi)]) hx hb dX5_proofRow_54 hl (k := 3) rfl (nI_i k5_8) (by decide) rfl (fun ls hl => ?_)
          refine lv_goto (tgt := 8) hx hb dX5_proofRow_57 (by decide) ?_
          exact ih8 _ _ (by omega) ⟨(k5_8 + 1), x_31, r__26, (by omega), (by omega), rfl, lv_sub hl [0, 2, 1, 4, 5, 6] rfl⟩
        · refine lv_iload hx hb dX5_proofRow_45 (lv_at hl 1 rfl) ?_
          exact cr_iret hx hb hr hlk rfl (nI k5_8) rfl (show (nI k5_8) = -1 ∨ ∃ j : Nat, j < R ∧ (nI k5_8) = nI j from (Or.inr ⟨_, (by omega), rfl⟩)) dX5_proofRow_47
set_option maxHeartbeats 4000000 in
set_option maxRecDepth 100000 in
theorem c_X5_proofSize (l : Launch) (D : va_G) (κ : Nat → ClassId) (κq : Nat → Nat) (im : va_W) (a : Nat) (R : Nat) (w : Nat) (c9 : Nat) (hs : Sh κ im a R w) (hc9 : c9 < w) : Er l yX5_proofSize (wl yX5_proofSize cX5_proofSize 3 (some .int)) { frames := 3, cells := 0, slots := 0, locals := 67 } D κ κq [.ref a, .int (nI c9)] ([] ++ im) (fun r : Int32 => some (.int r)) (fun r : Int32 => True) := by
  refine er_of (by decide +kernel) (Nat.le_of_ble_eq_true rfl) ?_
  intro p e s m args below meth c A ls hx hb hr hml hts hown hlk hKK hK hP hE hl
  have hS : va_S A s.heap s.heap [] := va_S.rf
  have hP : va_P D vwCl ([] ++ im) s.heap := hP
  have hFX : FX p s m args c cX5_proofSize 3 RX5 := ⟨hx, hb, hml, hown, hts⟩
  have hl : lv_has ls 3 [(0, .ref a), (1, .int (nI c9))] := hl
  obtain ⟨hb_1, c_2, x_3, v_4, g_5, h_6, hm_7, hm_8, hm_9, lo_10, lc_11, vw_12⟩ := id hs
  obtain ⟨hb_1_1, hb_1_2, hb_1_3⟩ := hb_1
  have hrw_hb_1 := rw_le hb_1_1 hb_1_3
  refine lv_iconst (v := 0) hx hb dX5_proofSize_0 (by decide) ?_
  refine lv_istore_n (lv' := [(2, .int 0), (0, .ref a), (1, .int (nI c9))]) hx hb dX5_proofSize_1 rfl hl (by decide) rfl (fun ls hl => ?_)
  refine loop_r (fun k9 ls => ∃ (k2_2 : Nat), (k2_2 ≤ R) ∧ R - k2_2 = k9 ∧ lv_has ls 3 [(2, .int (nI k2_2)), (0, .ref a), (1, .int (nI c9))]) (fun k9 ls hI2 ih2 => ?_) (R - 0) _ ⟨0, (by omega), rfl, lv_sub hl [0, 1, 2] rfl⟩
  obtain ⟨k2_2, hl2_0, hm2, hl⟩ := hI2
  refine lv_iload_n hx hb dX5_proofSize_2 rfl (lv_at hl 0 rfl) ?_
  refine lv_aload_n hx hb dX5_proofSize_3 rfl (lv_at hl 1 rfl) ?_
  refine va_get (D := D) (ci := 5) (v := .int (nI R)) (C := RX5) (T := TX5) (N := 4) hx hb hts inlX5 hown hK (oneP (C := []) hP hm_7) 0 rfl rfl 2 (by decide) (hts _ mw_384) (fun _ h9 => h9) rfl dX5_proofSize_4 ?_
  refine lv_icmp_ge (tgt := 26) hx hb dX5_proofSize_7 (by decide) (fun c_13 => ?_) (fun c_13 => ?_)
  · have nc_13 := cv_le (a := R) (b := k2_2) (by omega) (by omega) c_13
    refine lv_iload_n hx hb dX5_proofSize_26 rfl (lv_at hl 0 rfl) ?_
    exact cr_iret hx hb hr hlk rfl (nI k2_2) rfl trivial dX5_proofSize_27
  · have nc_13 := cv_nle (a := R) (b := k2_2) (by omega) (by omega) c_13
    refine lv_aload_n hx hb dX5_proofSize_10 rfl (lv_at hl 1 rfl) ?_
    refine lv_iload_n hx hb dX5_proofSize_11 rfl (lv_at hl 2 rfl) ?_
    refine lv_iload_n hx hb dX5_proofSize_12 rfl (lv_at hl 0 rfl) ?_
    refine er_V (As := [.int (nI c9), .int (nI k2_2)]) (rest := []) hFX hKK hE hS (c_X5_proofRow l D κ κq im a R w c9 (nI k2_2) hs (by omega)) 2 gV_X5_60 hdV_X5_proofRow rfl rfl ⟨Nat.le_of_ble_eq_true rfl, Nat.le_of_ble_eq_true rfl⟩ rfl rfl (Nat.le_of_ble_eq_true rfl) dX5_proofSize_13 ⟨Nat.le_of_ble_eq_true rfl, Nat.le_of_ble_eq_true rfl⟩ hl.1 (oneP (C := []) hP hm_7) 0 5 rfl rfl rfl (subP hP [] rfl) (fun r__14 hp_15 => ?_)
    replace hp_15 : (r__14 = -1 ∨ ∃ j : Nat, j < R ∧ r__14 = nI j) := hp_15
    have h_16 := hp_15
    clear hp_15
    refine W.eq (g2 := F0 m 16 ls [.int r__14]) rfl ?_
    refine lv_iconst (v := (-1)) hx hb dX5_proofSize_16 (by decide) ?_
    refine lv_icmp_eq (tgt := 26) hx hb dX5_proofSize_17 (by decide) (fun c_17 => ?_) (fun c_17 => ?_)
    · refine lv_iload_n hx hb dX5_proofSize_26 rfl (lv_at hl 0 rfl) ?_
      exact cr_iret hx hb hr hlk rfl (nI k2_2) rfl trivial dX5_proofSize_27
    · refine lv_iinc (v := (nI (k2_2 + 1))) (lv' := [(2, .int (nI (k2_2 + 1))), (0, .ref a), (1, .int (nI c9))]) hx hb dX5_proofSize_20 hl (k := 0) rfl (nI_i k2_2) (by decide) rfl (fun ls hl => ?_)
      refine lv_goto (tgt := 2) hx hb dX5_proofSize_23 (by decide) ?_
      exact ih2 _ _ (by omega) ⟨(k2_2 + 1), (by omega), rfl, lv_sub hl [0, 1, 2] rfl⟩
set_option maxHeartbeats 4000000 in
set_option maxRecDepth 100000 in
theorem c_X5_firstNotHeld (l : Launch) (D : va_G) (κ : Nat → ClassId) (κq : Nat → Nat) (im : va_W) (a : Nat) (R : Nat) (w : Nat) (c9 : Nat) (t9 : Nat) (hs : Sh κ im a R w) (hc9 : c9 < w) (ht : t9 ≤ 5) : Er l yX5_firstNotHeld (wl yX5_firstNotHeld cX5_firstNotHeld 4 (some .int)) { frames := 3, cells := 0, slots := 0, locals := 62 } D κ κq [.ref a, .int (nI c9), .int (nI t9)] ([] ++ im) (fun r : Int32 => some (.int r)) (fun r : Int32 => True) := by
  refine er_of (by decide +kernel) (Nat.le_of_ble_eq_true rfl) ?_
  intro p e s m args below meth c A ls hx hb hr hml hts hown hlk hKK hK hP hE hl
  have hS : va_S A s.heap s.heap [] := va_S.rf
  have hP : va_P D vwCl ([] ++ im) s.heap := hP
  have hFX : FX p s m args c cX5_firstNotHeld 4 RX5 := ⟨hx, hb, hml, hown, hts⟩
  have hl : lv_has ls 4 [(0, .ref a), (1, .int (nI c9)), (2, .int (nI t9))] := hl
  obtain ⟨hb_1, c_2, x_3, v_4, g_5, h_6, hm_7, hm_8, hm_9, lo_10, lc_11, vw_12⟩ := id hs
  obtain ⟨hb_1_1, hb_1_2, hb_1_3⟩ := hb_1
  have hrw_hb_1 := rw_le hb_1_1 hb_1_3
  refine lv_iconst (v := 0) hx hb dX5_firstNotHeld_0 (by decide) ?_
  refine lv_istore_n (lv' := [(3, .int 0), (0, .ref a), (1, .int (nI c9)), (2, .int (nI t9))]) hx hb dX5_firstNotHeld_1 rfl hl (by decide) rfl (fun ls hl => ?_)
  refine loop_r (fun k9 ls => ∃ (k3_2 : Nat), (k3_2 ≤ R) ∧ R - k3_2 = k9 ∧ lv_has ls 4 [(3, .int (nI k3_2)), (0, .ref a), (1, .int (nI c9)), (2, .int (nI t9))]) (fun k9 ls hI2 ih2 => ?_) (R - 0) _ ⟨0, (by omega), rfl, lv_sub hl [0, 1, 2, 3] rfl⟩
  obtain ⟨k3_2, hl2_0, hm2, hl⟩ := hI2
  refine lv_iload_n hx hb dX5_firstNotHeld_2 rfl (lv_at hl 0 rfl) ?_
  refine lv_aload_n hx hb dX5_firstNotHeld_3 rfl (lv_at hl 1 rfl) ?_
  refine va_get (D := D) (ci := 5) (v := .int (nI R)) (C := RX5) (T := TX5) (N := 4) hx hb hts inlX5 hown hK (oneP (C := []) hP hm_7) 0 rfl rfl 2 (by decide) (hts _ mw_384) (fun _ h9 => h9) rfl dX5_firstNotHeld_4 ?_
  refine lv_icmp_ge (tgt := 34) hx hb dX5_firstNotHeld_7 (by decide) (fun c_13 => ?_) (fun c_13 => ?_)
  · have nc_13 := cv_le (a := R) (b := k3_2) (by omega) (by omega) c_13
    refine lv_iconst (v := (-1)) hx hb dX5_firstNotHeld_34 (by decide) ?_
    exact cr_iret hx hb hr hlk rfl (-1) rfl trivial dX5_firstNotHeld_35
  · have nc_13 := cv_nle (a := R) (b := k3_2) (by omega) (by omega) c_13
    refine lv_iload_n hx hb dX5_firstNotHeld_10 rfl (lv_at hl 3 rfl) ?_
    refine lv_aload_n hx hb dX5_firstNotHeld_11 rfl (lv_at hl 1 rfl) ?_
    refine lv_iload_n hx hb dX5_firstNotHeld_12 rfl (lv_at hl 0 rfl) ?_
    refine lv_iload_n hx hb dX5_firstNotHeld_13 rfl (lv_at hl 2 rfl) ?_
    refine er_V (As := [.int (nI k3_2), .int (nI c9)]) (rest := [.int (nI t9)]) hFX hKK hE hS (c_X5_cellOf l D κ κq im a R w k3_2 c9 hs (by omega) (by omega)) 2 gV_X5_48 hdV_X5_cellOf rfl rfl ⟨Nat.le_of_ble_eq_true rfl, Nat.le_of_ble_eq_true rfl⟩ rfl rfl (Nat.le_of_ble_eq_true rfl) dX5_firstNotHeld_14 ⟨Nat.le_of_ble_eq_true rfl, Nat.le_of_ble_eq_true rfl⟩ hl.1 (oneP (C := []) hP hm_7) 0 5 rfl rfl rfl (subP hP [] rfl) (fun r__14 hp_15 => ?_)
    replace hp_15 : ((∃ (q : Nat), ∃ (k : Nat), ∃ (m : Nat), r__14 = some q ∧ Cl κ im q k m)) := hp_15
    have ha_16 := hp_15
    clear hp_15
    rcases ha_16 with ⟨q__17, k__18, m__19, rfl, a_20⟩
    · refine W.eq (g2 := F0 m 17 ls [.ref q__17, .int (nI t9)]) rfl ?_
      obtain ⟨hk_21, b_22, x_23, hm_24, hb_25⟩ := id a_20
      have hn_b_22 := hb_25.1
      refine va_get (D := D) (ci := 0) (v := .int (nI k__18)) (C := RX0) (T := TX0) (N := 3) hx hb hts inlX0 hown hK (oneP (C := []) hP hm_24) 0 rfl rfl 1 (by decide) (hts _ mw_767) (fun _ h9 => h9) rfl dX5_firstNotHeld_17 ?_
      refine er_SN (As := [.int (nI t9), .int (nI k__18)]) (rest := []) hFX hKK hE hS (c_X11_holds l D κ κq t9 k__18 (by omega) (by omega)) 2 nw_X5_63 mw_593 mw_2 mw_594 hdS_X11_holds rfl rfl ⟨Nat.le_of_ble_eq_true rfl, Nat.le_of_ble_eq_true rfl⟩ rfl rfl (Nat.le_of_ble_eq_true rfl) dX5_firstNotHeld_20 ⟨Nat.le_of_ble_eq_true rfl, Nat.le_of_ble_eq_true rfl⟩ hl.1 (subP0 hP [] rfl) (fun r__26 hp_27 => ?_)
      replace hp_27 : ((r__26 = 1) ∨ (r__26 = 0)) := hp_27
      have ha_28 := hp_27
      clear hp_27
      rcases ha_28 with rfl | rfl
      · refine W.eq (g2 := F0 m 23 ls [.int 1]) rfl ?_
        refine lv_if_ne (tgt := 28) hx hb dX5_firstNotHeld_23 (by decide) (fun c_29 => ?_) (fun c_29 => absurd c_29 (by decide))
        refine lv_iinc (v := (nI (k3_2 + 1))) (lv' := [(3, .int (nI (k3_2 + 1))), (0, .ref a), (1, .int (nI c9)), (2, .int (nI t9))]) hx hb dX5_firstNotHeld_28 hl (k := 0) rfl (nI_i k3_2) (by decide) rfl (fun ls hl => ?_)
        refine lv_goto (tgt := 2) hx hb dX5_firstNotHeld_31 (by decide) ?_
        exact ih2 _ _ (by omega) ⟨(k3_2 + 1), (by omega), rfl, lv_sub hl [0, 1, 2, 3] rfl⟩
      · refine W.eq (g2 := F0 m 23 ls [.int 0]) rfl ?_
        refine lv_if_ne (tgt := 28) hx hb dX5_firstNotHeld_23 (by decide) (fun c_30 => absurd c_30 (by decide)) (fun c_30 => ?_)
        refine lv_iload_n hx hb dX5_firstNotHeld_26 rfl (lv_at hl 0 rfl) ?_
        exact cr_iret hx hb hr hlk rfl (nI k3_2) rfl trivial dX5_firstNotHeld_27
set_option maxHeartbeats 4000000 in
set_option maxRecDepth 100000 in
theorem c_X5_countEmpty (l : Launch) (D : va_G) (κ : Nat → ClassId) (κq : Nat → Nat) (im : va_W) (a : Nat) (R : Nat) (w : Nat) (c9 : Nat) (hs : Sh κ im a R w) (hc9 : c9 < w) : Er l yX5_countEmpty (wl yX5_countEmpty cX5_countEmpty 4 (some .int)) { frames := 1, cells := 0, slots := 0, locals := 22 } D κ κq [.ref a, .int (nI c9)] ([] ++ im) (fun r : Int32 => some (.int r)) (fun r : Int32 => True) := by
  refine er_of (by decide +kernel) (Nat.le_of_ble_eq_true rfl) ?_
  intro p e s m args below meth c A ls hx hb hr hml hts hown hlk hKK hK hP hE hl
  have hS : va_S A s.heap s.heap [] := va_S.rf
  have hP : va_P D vwCl ([] ++ im) s.heap := hP
  have hFX : FX p s m args c cX5_countEmpty 4 RX5 := ⟨hx, hb, hml, hown, hts⟩
  have hl : lv_has ls 4 [(0, .ref a), (1, .int (nI c9))] := hl
  obtain ⟨hb_1, c_2, x_3, v_4, g_5, h_6, hm_7, hm_8, hm_9, lo_10, lc_11, vw_12⟩ := id hs
  obtain ⟨hb_1_1, hb_1_2, hb_1_3⟩ := hb_1
  have hrw_hb_1 := rw_le hb_1_1 hb_1_3
  refine lv_iconst (v := 0) hx hb dX5_countEmpty_0 (by decide) ?_
  refine lv_istore_n (lv' := [(2, .int 0), (0, .ref a), (1, .int (nI c9))]) hx hb dX5_countEmpty_1 rfl hl (by decide) rfl (fun ls hl => ?_)
  refine lv_iconst (v := 0) hx hb dX5_countEmpty_2 (by decide) ?_
  refine lv_istore_n (lv' := [(3, .int 0), (2, .int 0), (0, .ref a), (1, .int (nI c9))]) hx hb dX5_countEmpty_3 rfl hl (by decide) rfl (fun ls hl => ?_)
  refine loop_r (fun k9 ls => ∃ (k3_4 : Nat), ∃ (k2_4 : Int32), (k3_4 ≤ R) ∧ R - k3_4 = k9 ∧ lv_has ls 4 [(3, .int (nI k3_4)), (2, .int k2_4), (0, .ref a), (1, .int (nI c9))]) (fun k9 ls hI4 ih4 => ?_) (R - 0) _ ⟨0, 0, (by omega), rfl, lv_sub hl [0, 1, 2, 3] rfl⟩
  obtain ⟨k3_4, k2_4, hl4_0, hm4, hl⟩ := hI4
  refine lv_iload_n hx hb dX5_countEmpty_4 rfl (lv_at hl 0 rfl) ?_
  refine lv_aload_n hx hb dX5_countEmpty_5 rfl (lv_at hl 2 rfl) ?_
  refine va_get (D := D) (ci := 5) (v := .int (nI R)) (C := RX5) (T := TX5) (N := 4) hx hb hts inlX5 hown hK (oneP (C := []) hP hm_7) 0 rfl rfl 2 (by decide) (hts _ mw_384) (fun _ h9 => h9) rfl dX5_countEmpty_6 ?_
  refine lv_icmp_ge (tgt := 38) hx hb dX5_countEmpty_9 (by decide) (fun c_13 => ?_) (fun c_13 => ?_)
  · have nc_13 := cv_le (a := R) (b := k3_4) (by omega) (by omega) c_13
    refine lv_iload_n hx hb dX5_countEmpty_38 rfl (lv_at hl 1 rfl) ?_
    exact cr_iret hx hb hr hlk rfl k2_4 rfl trivial dX5_countEmpty_39
  · have nc_13 := cv_nle (a := R) (b := k3_4) (by omega) (by omega) c_13
    refine lv_iload_n hx hb dX5_countEmpty_12 rfl (lv_at hl 1 rfl) ?_
    refine lv_aload_n hx hb dX5_countEmpty_13 rfl (lv_at hl 2 rfl) ?_
    refine lv_iload_n hx hb dX5_countEmpty_14 rfl (lv_at hl 0 rfl) ?_
    refine lv_iload_n hx hb dX5_countEmpty_15 rfl (lv_at hl 3 rfl) ?_
    refine er_V (As := [.int (nI k3_4), .int (nI c9)]) (rest := [.int k2_4]) hFX hKK hE hS (c_X5_cellOf l D κ κq im a R w k3_4 c9 hs (by omega) (by omega)) 2 gV_X5_48 hdV_X5_cellOf rfl rfl ⟨Nat.le_of_ble_eq_true rfl, Nat.le_of_ble_eq_true rfl⟩ rfl rfl (Nat.le_of_ble_eq_true rfl) dX5_countEmpty_16 ⟨Nat.le_of_ble_eq_true rfl, Nat.le_of_ble_eq_true rfl⟩ hl.1 (oneP (C := []) hP hm_7) 0 5 rfl rfl rfl (subP hP [] rfl) (fun r__14 hp_15 => ?_)
    replace hp_15 : ((∃ (q : Nat), ∃ (k : Nat), ∃ (m : Nat), r__14 = some q ∧ Cl κ im q k m)) := hp_15
    have ha_16 := hp_15
    clear hp_15
    rcases ha_16 with ⟨q__17, k__18, m__19, rfl, a_20⟩
    · refine W.eq (g2 := F0 m 19 ls [.ref q__17, .int k2_4]) rfl ?_
      obtain ⟨hk_23, b_24, x_25, hm_26, hb_27⟩ := id a_20
      have hn_b_24 := hb_27.1
      refine er_V (As := []) (rest := [.int k2_4]) hFX hKK hE hS (c_X0_isEmpty l D κ κq im q__17 k__18 m__19 a_20) 0 gV_X5_67 hdV_X0_isEmpty rfl rfl ⟨Nat.le_of_ble_eq_true rfl, Nat.le_of_ble_eq_true rfl⟩ rfl rfl (Nat.le_of_ble_eq_true rfl) dX5_countEmpty_19 ⟨Nat.le_of_ble_eq_true rfl, Nat.le_of_ble_eq_true rfl⟩ hl.1 (oneP (C := []) hP hm_26) 0 0 rfl rfl rfl (subP hP [] rfl) (fun r__21 hp_22 => ?_)
      replace hp_22 : ((r__21 = 1 ∧ m__19 = 0) ∨ (r__21 = 0 ∧ 1 ≤ m__19)) := hp_22
      have ha_28 := hp_22
      clear hp_22
      rcases ha_28 with ⟨rfl, a_29⟩ | ⟨rfl, a_30⟩
      · refine W.eq (g2 := F0 m 22 ls [.int 1, .int k2_4]) rfl ?_
        refine lv_if_eq (tgt := 29) hx hb dX5_countEmpty_22 (by decide) (fun c_31 => absurd c_31 (by decide)) (fun c_31 => ?_)
        refine lv_iconst (v := 1) hx hb dX5_countEmpty_25 (by decide) ?_
        refine lv_goto (tgt := 30) hx hb dX5_countEmpty_26 (by decide) ?_
        refine lv_iadd hx hb dX5_countEmpty_30 ?_
        refine lv_topi (fun x_32 ex_32 => ?_)
        refine lv_istore_n (lv' := [(2, .int x_32), (3, .int (nI k3_4)), (0, .ref a), (1, .int (nI c9))]) hx hb dX5_countEmpty_31 rfl hl (by decide) rfl (fun ls hl => ?_)
        refine lv_iinc (v := (nI (k3_4 + 1))) (lv' := [(3, .int (nI (k3_4 + 1))), (2, .int x_32), (0, .ref a), (1, .int (nI c9))]) hx hb dX5_countEmpty_32 hl (k := 1) rfl (nI_i k3_4) (by decide) rfl (fun ls hl => ?_)
        refine lv_goto (tgt := 4) hx hb dX5_countEmpty_35 (by decide) ?_
        exact ih4 _ _ (by omega) ⟨(k3_4 + 1), x_32, (by omega), rfl, lv_sub hl [0, 1, 2, 3] rfl⟩
      · refine W.eq (g2 := F0 m 22 ls [.int 0, .int k2_4]) rfl ?_
        refine lv_if_eq (tgt := 29) hx hb dX5_countEmpty_22 (by decide) (fun c_33 => ?_) (fun c_33 => absurd (by decide) c_33)
        refine lv_iconst (v := 0) hx hb dX5_countEmpty_29 (by decide) ?_
        refine lv_iadd hx hb dX5_countEmpty_30 ?_
        refine lv_topi (fun x_34 ex_34 => ?_)
        refine lv_istore_n (lv' := [(2, .int x_34), (3, .int (nI k3_4)), (0, .ref a), (1, .int (nI c9))]) hx hb dX5_countEmpty_31 rfl hl (by decide) rfl (fun ls hl => ?_)
        refine lv_iinc (v := (nI (k3_4 + 1))) (lv' := [(3, .int (nI (k3_4 + 1))), (2, .int x_34), (0, .ref a), (1, .int (nI c9))]) hx hb dX5_countEmpty_32 hl (k := 1) rfl (nI_i k3_4) (by decide) rfl (fun ls hl => ?_)
        refine lv_goto (tgt := 4) hx hb dX5_countEmpty_35 (by decide) ?_
        exact ih4 _ _ (by omega) ⟨(k3_4 + 1), x_34, (by omega), rfl, lv_sub hl [0, 1, 2, 3] rfl⟩
set_option maxHeartbeats 4000000 in
set_option maxRecDepth 100000 in
theorem c_X5_countBytes (l : Launch) (D : va_G) (κ : Nat → ClassId) (κq : Nat → Nat) (im : va_W) (a : Nat) (R : Nat) (w : Nat) (hs : Sh κ im a R w) : Er l yX5_countBytes (wl yX5_countBytes cX5_countBytes 3 (some .int)) { frames := 0, cells := 0, slots := 0, locals := 0 } D κ κq [.ref a] ([] ++ im) (fun r : Int32 => some (.int r)) (fun r : Int32 => True) := by
  refine er_of (by decide +kernel) (Nat.le_of_ble_eq_true rfl) ?_
  intro p e s m args below meth c A ls hx hb hr hml hts hown hlk hKK hK hP hE hl
  have hS : va_S A s.heap s.heap [] := va_S.rf
  have hP : va_P D vwCl ([] ++ im) s.heap := hP
  have hFX : FX p s m args c cX5_countBytes 3 RX5 := ⟨hx, hb, hml, hown, hts⟩
  have hl : lv_has ls 3 [(0, .ref a)] := hl
  obtain ⟨hb_1, c_2, x_3, v_4, g_5, h_6, hm_7, hm_8, hm_9, lo_10, lc_11, vw_12⟩ := id hs
  obtain ⟨hb_1_1, hb_1_2, hb_1_3⟩ := hb_1
  have hrw_hb_1 := rw_le hb_1_1 hb_1_3
  refine lv_iconst (v := 0) hx hb dX5_countBytes_0 (by decide) ?_
  refine lv_istore_n (lv' := [(1, .int 0), (0, .ref a)]) hx hb dX5_countBytes_1 rfl hl (by decide) rfl (fun ls hl => ?_)
  refine lv_iconst (v := 0) hx hb dX5_countBytes_2 (by decide) ?_
  refine lv_istore_n (lv' := [(2, .int 0), (1, .int 0), (0, .ref a)]) hx hb dX5_countBytes_3 rfl hl (by decide) rfl (fun ls hl => ?_)
  refine loop_r (fun k9 ls => ∃ (k2_4 : Nat), ∃ (k1_4 : Int32), (k2_4 ≤ R * w) ∧ R * w - k2_4 = k9 ∧ lv_has ls 3 [(2, .int (nI k2_4)), (1, .int k1_4), (0, .ref a)]) (fun k9 ls hI4 ih4 => ?_) (R * w - 0) _ ⟨0, 0, (by omega), rfl, lv_sub hl [0, 1, 2] rfl⟩
  obtain ⟨k2_4, k1_4, hl4_0, hm4, hl⟩ := hI4
  refine lv_iload_n hx hb dX5_countBytes_4 rfl (lv_at hl 0 rfl) ?_
  refine lv_aload_n hx hb dX5_countBytes_5 rfl (lv_at hl 2 rfl) ?_
  refine va_get (D := D) (ci := 5) (v := .ref x_3) (C := RX5) (T := TX5) (N := 4) hx hb hts inlX5 hown hK (oneP (C := []) hP hm_7) 0 rfl rfl 1 (by decide) (hts _ mw_383) (fun _ h9 => h9) rfl dX5_countBytes_6 ?_
  refine va_alen hx hb hK (oneP (C := []) hP hm_9) 0 2 rfl rfl (v := nI (R * w)) rfl dX5_countBytes_9 ?_
  refine lv_icmp_ge (tgt := 32) hx hb dX5_countBytes_10 (by decide) (fun c_13 => ?_) (fun c_13 => ?_)
  · have nc_13 := cv_le (a := (R * w)) (b := k2_4) (by omega) (by omega) c_13
    refine lv_iload_n hx hb dX5_countBytes_32 rfl (lv_at hl 1 rfl) ?_
    exact cr_iret hx hb hr hlk rfl k1_4 rfl trivial dX5_countBytes_33
  · have nc_13 := cv_nle (a := (R * w)) (b := k2_4) (by omega) (by omega) c_13
    refine lv_iload_n hx hb dX5_countBytes_13 rfl (lv_at hl 1 rfl) ?_
    refine lv_aload_n hx hb dX5_countBytes_14 rfl (lv_at hl 2 rfl) ?_
    refine va_get (D := D) (ci := 5) (v := .ref x_3) (C := RX5) (T := TX5) (N := 4) hx hb hts inlX5 hown hK (oneP (C := []) hP hm_7) 0 rfl rfl 1 (by decide) (hts _ mw_383) (fun _ h9 => h9) rfl dX5_countBytes_15 ?_
    refine lv_iload_n hx hb dX5_countBytes_18 rfl (lv_at hl 0 rfl) ?_
    refine va_aldq hx hb hK (oneP (C := []) hP hm_9) 0 2 rfl rfl (i := nI k2_4) (vp_in_nI (n := k2_4) (by omega) (by omega)) dX5_countBytes_19 ?_
    obtain ⟨q_14, e_15, k_16, m_17, h_18⟩ := lc_11 k2_4 (by omega)
    refine kv (v := .ref q_14) (by rw [nI_clamp (by omega)]; rw [e_15]; rfl) ?_
    obtain ⟨hk_19, b_20, x_21, hm_22, hb_23⟩ := id h_18
    have hn_b_20 := hb_23.1
    refine va_get (D := D) (ci := 0) (v := .ref b_20) (C := RX0) (T := TX0) (N := 3) hx hb hts inlX0 hown hK (oneP (C := []) hP hm_22) 0 rfl rfl 0 (by decide) (hts _ mw_1148) (fun _ h9 => h9) rfl dX5_countBytes_20 ?_
    obtain ⟨hn_25, f_24, hm_26, hfit_27⟩ := id hb_23
    refine va_alen hx hb hK (oneP (C := []) hP hm_26) 0 1 rfl rfl (v := nI m_17) rfl dX5_countBytes_23 ?_
    refine lv_iadd hx hb dX5_countBytes_24 ?_
    refine lv_topi (fun x_28 ex_28 => ?_)
    refine lv_istore_n (lv' := [(1, .int x_28), (2, .int (nI k2_4)), (0, .ref a)]) hx hb dX5_countBytes_25 rfl hl (by decide) rfl (fun ls hl => ?_)
    refine lv_iinc (v := (nI (k2_4 + 1))) (lv' := [(2, .int (nI (k2_4 + 1))), (1, .int x_28), (0, .ref a)]) hx hb dX5_countBytes_26 hl (k := 1) rfl (nI_i k2_4) (by decide) rfl (fun ls hl => ?_)
    refine lv_goto (tgt := 4) hx hb dX5_countBytes_29 (by decide) ?_
    exact ih4 _ _ (by omega) ⟨(k2_4 + 1), x_28, (by omega), rfl, lv_sub hl [0, 1, 2] rfl⟩
set_option maxHeartbeats 4000000 in
set_option maxRecDepth 100000 in
theorem c_X5_takesRow (l : Launch) (D : va_G) (κ : Nat → ClassId) (κq : Nat → Nat) (im : va_W) (a : Nat) (R : Nat) (w : Nat) (x : Nat) (N : Nat) (n : Nat) (f : Nat → Option Nat) (hs : Sh κ im a R w) (hlc : Lc κ im f n) (hn : w ≤ n) (hN : n ≤ N) (hN2 : N ≤ 320) : Er l yX5_takesRow (wl yX5_takesRow cX5_takesRow 3 (some .boolean)) { frames := 4, cells := 0, slots := 0, locals := 83 } D κ κq [.ref a, .ref x] ([(x, .inl (κ 2, N, .inr (.inr (.inr (.inr f)))))] ++ im) (fun r : Int32 => some (.int r)) (fun r : Int32 => ((r = 1) ∨ (r = 0))) := by
  refine er_of (by decide +kernel) (Nat.le_of_ble_eq_true rfl) ?_
  intro p e s m args below meth c A ls hx hb hr hml hts hown hlk hKK hK hP hE hl
  have hS : va_S A s.heap s.heap [] := va_S.rf
  have hP : va_P D vwCl ([(x, .inl (κ 2, N, .inr (.inr (.inr (.inr f)))))] ++ im) s.heap := hP
  have hFX : FX p s m args c cX5_takesRow 3 RX5 := ⟨hx, hb, hml, hown, hts⟩
  have hl : lv_has ls 3 [(0, .ref a), (1, .ref x)] := hl
  obtain ⟨hb_1, c_2, x_3, v_4, g_5, h_6, hm_7, hm_8, hm_9, lo_10, lc_11, vw_12⟩ := id hs
  obtain ⟨hb_1_1, hb_1_2, hb_1_3⟩ := hb_1
  have hrw_hb_1 := rw_le hb_1_1 hb_1_3
  refine lv_iconst (v := 0) hx hb dX5_takesRow_0 (by decide) ?_
  refine lv_istore_n (lv' := [(2, .int 0), (0, .ref a), (1, .ref x)]) hx hb dX5_takesRow_1 rfl hl (by decide) rfl (fun ls hl => ?_)
  refine loop_r (fun k9 ls => ∃ (k2_2 : Nat), (k2_2 ≤ w) ∧ w - k2_2 = k9 ∧ lv_has ls 3 [(2, .int (nI k2_2)), (0, .ref a), (1, .ref x)]) (fun k9 ls hI2 ih2 => ?_) (w - 0) _ ⟨0, (by omega), rfl, lv_sub hl [0, 1, 2] rfl⟩
  obtain ⟨k2_2, hl2_0, hm2, hl⟩ := hI2
  refine lv_iload_n hx hb dX5_takesRow_2 rfl (lv_at hl 0 rfl) ?_
  refine lv_aload_n hx hb dX5_takesRow_3 rfl (lv_at hl 1 rfl) ?_
  refine va_get (D := D) (ci := 5) (v := .ref c_2) (C := RX5) (T := TX5) (N := 4) hx hb hts inlX5 hown hK (oneP (C := [(x, .inl (κ 2, N, .inr (.inr (.inr (.inr f)))))]) hP hm_7) 0 rfl rfl 0 (by decide) (hts _ mw_382) (fun _ h9 => h9) rfl dX5_takesRow_4 ?_
  refine va_alen hx hb hK (oneP (C := [(x, .inl (κ 2, N, .inr (.inr (.inr (.inr f)))))]) hP hm_8) 0 3 rfl rfl (v := nI w) rfl dX5_takesRow_7 ?_
  refine lv_icmp_ge (tgt := 34) hx hb dX5_takesRow_8 (by decide) (fun c_13 => ?_) (fun c_13 => ?_)
  · have nc_13 := cv_le (a := w) (b := k2_2) (by omega) (by omega) c_13
    refine lv_iconst (v := 1) hx hb dX5_takesRow_34 (by decide) ?_
    exact cr_iret hx hb hr hlk rfl 1 rfl (by exact Or.inl (rfl)) dX5_takesRow_35
  · have nc_13 := cv_nle (a := w) (b := k2_2) (by omega) (by omega) c_13
    refine lv_aload_n hx hb dX5_takesRow_11 rfl (lv_at hl 1 rfl) ?_
    refine va_get (D := D) (ci := 5) (v := .ref c_2) (C := RX5) (T := TX5) (N := 4) hx hb hts inlX5 hown hK (oneP (C := [(x, .inl (κ 2, N, .inr (.inr (.inr (.inr f)))))]) hP hm_7) 0 rfl rfl 0 (by decide) (hts _ mw_382) (fun _ h9 => h9) rfl dX5_takesRow_12 ?_
    refine lv_iload_n hx hb dX5_takesRow_15 rfl (lv_at hl 0 rfl) ?_
    refine va_aldq hx hb hK (oneP (C := [(x, .inl (κ 2, N, .inr (.inr (.inr (.inr f)))))]) hP hm_8) 0 3 rfl rfl (i := nI k2_2) (vp_in_nI (n := k2_2) (by omega) (by omega)) dX5_takesRow_16 ?_
    obtain ⟨q_14, e_15, m_16, t_17, h_18⟩ := lo_10 k2_2 (by omega)
    refine kv (v := .ref q_14) (by rw [nI_clamp (by omega)]; rw [e_15]; rfl) ?_
    refine lv_aload_n hx hb dX5_takesRow_17 rfl (lv_at hl 2 rfl) ?_
    refine lv_iload_n hx hb dX5_takesRow_18 rfl (lv_at hl 0 rfl) ?_
    refine va_aldq hx hb hK hP 0 2 rfl rfl (i := nI k2_2) (vp_in_nI (n := k2_2) (by omega) (by omega)) dX5_takesRow_19 ?_
    obtain ⟨q_19, e_20, k_21, m_22, h_23⟩ := hlc k2_2 (by omega)
    refine kv (v := .ref q_19) (by rw [nI_clamp (by omega)]; rw [e_20]; rfl) ?_
    obtain ⟨ht_26, b_27, hm_28, hb_29⟩ := id h_18
    have hn_b_27 := hb_29.1
    refine er_V (As := [.ref q_19]) (rest := []) hFX hKK hE hS (c_X1_takes l D κ κq im q_14 m_16 t_17 q_19 k_21 m_22 h_18 h_23) 1 gV_X5_91 hdV_X1_takes rfl rfl ⟨Nat.le_of_ble_eq_true rfl, Nat.le_of_ble_eq_true rfl⟩ rfl rfl (Nat.le_of_ble_eq_true rfl) dX5_takesRow_20 ⟨Nat.le_of_ble_eq_true rfl, Nat.le_of_ble_eq_true rfl⟩ hl.1 (oneP (C := [(x, .inl (κ 2, N, .inr (.inr (.inr (.inr f)))))]) hP hm_28) 0 1 rfl rfl rfl (subP hP [] rfl) (fun r__24 hp_25 => ?_)
    replace hp_25 : ((r__24 = 1) ∨ (r__24 = 0)) := hp_25
    have ha_30 := hp_25
    clear hp_25
    rcases ha_30 with rfl | rfl
    · refine W.eq (g2 := F0 m 23 ls [.int 1]) rfl ?_
      refine lv_if_ne (tgt := 28) hx hb dX5_takesRow_23 (by decide) (fun c_31 => ?_) (fun c_31 => absurd c_31 (by decide))
      refine lv_iinc (v := (nI (k2_2 + 1))) (lv' := [(2, .int (nI (k2_2 + 1))), (0, .ref a), (1, .ref x)]) hx hb dX5_takesRow_28 hl (k := 0) rfl (nI_i k2_2) (by decide) rfl (fun ls hl => ?_)
      refine lv_goto (tgt := 2) hx hb dX5_takesRow_31 (by decide) ?_
      exact ih2 _ _ (by omega) ⟨(k2_2 + 1), (by omega), rfl, lv_sub hl [0, 1, 2] rfl⟩
    · refine W.eq (g2 := F0 m 23 ls [.int 0]) rfl ?_
      refine lv_if_ne (tgt := 28) hx hb dX5_takesRow_23 (by decide) (fun c_32 => absurd c_32 (by decide)) (fun c_32 => ?_)
      refine lv_iconst (v := 0) hx hb dX5_takesRow_26 (by decide) ?_
      exact cr_iret hx hb hr hlk rfl 0 rfl (by exact Or.inr ((rfl))) dX5_takesRow_27
