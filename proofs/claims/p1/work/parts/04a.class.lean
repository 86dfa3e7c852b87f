def dial0 : Nat → Int32 := upd (upd (upd (fun _ => 0) 0 44) 1 34) 2 1
theorem mw_256 : Cond.code yX6_isPlace cX6_isPlace 1 (some .boolean) ∈ wsL_law := List.mem_of_getElem? (i := 256) (by decide +kernel)
theorem dX6_isPlace_0 : decode cX6_isPlace 0 = .ok (.iload_n 0, 1) := by decide +kernel
theorem dX6_isPlace_1 : decode cX6_isPlace 1 = .ok (.ifCond .lt 12, 3) := by decide +kernel
theorem dX6_isPlace_13 : decode cX6_isPlace 13 = .ok (.iconst 0, 1) := by decide +kernel
theorem dX6_isPlace_14 : decode cX6_isPlace 14 = .ok (.ireturn, 1) := by decide +kernel
theorem dX6_isPlace_4 : decode cX6_isPlace 4 = .ok (.iload_n 0, 1) := by decide +kernel
theorem dX6_isPlace_5 : decode cX6_isPlace 5 = .ok (.iconst 3, 1) := by decide +kernel
theorem dX6_isPlace_6 : decode cX6_isPlace 6 = .ok (.if_icmp .ge 7, 3) := by decide +kernel
theorem dX6_isPlace_9 : decode cX6_isPlace 9 = .ok (.iconst 1, 1) := by decide +kernel
theorem dX6_isPlace_10 : decode cX6_isPlace 10 = .ok (.goto 4, 3) := by decide +kernel
theorem mw_574 : Cond.code yX6_sheetOf cX6_sheetOf 2 (some (.object "TypedTables$Sheet")) ∈ wsL_law := List.mem_of_getElem? (i := 574) (by decide +kernel)
theorem dX6_sheetOf_0 : decode cX6_sheetOf 0 = .ok (.iload_n 1, 1) := by decide +kernel
theorem dX6_sheetOf_1 : decode cX6_sheetOf 1 = .ok (.invokestatic 37, 3) := by decide +kernel
theorem mw_575 : Cond.methodLink RX6 37 yX6_isPlace ∈ wsL_law := List.mem_of_getElem? (i := 575) (by decide +kernel)
theorem mw_14 : Cond.initialized RX6 ∈ wsL_law := List.mem_of_getElem? (i := 14) (by decide +kernel)
theorem mw_255 : Cond.static yX6_isPlace ∈ wsL_law := List.mem_of_getElem? (i := 255) (by decide +kernel)
theorem gS_X6_37 : GoodIn wsL_law (va_wsS RX6 37 yX6_isPlace (wl yX6_isPlace cX6_isPlace 1 (some .boolean))) := g_S mw_575 mw_255 mw_14 mw_256
theorem hdS_X6_isPlace : okD yX6_isPlace 1 := by decide +kernel
theorem dX6_sheetOf_4 : decode cX6_sheetOf 4 = .ok (.ifCond .eq 12, 3) := by decide +kernel
theorem dX6_sheetOf_7 : decode cX6_sheetOf 7 = .ok (.aload_n 0, 1) := by decide +kernel
theorem dX6_sheetOf_8 : decode cX6_sheetOf 8 = .ok (.getfield 17, 3) := by decide +kernel
theorem mw_42 : Cond.fieldLink RX6 17 "TypedTables$State" "sheets" "[LTypedTables$Sheet;" ∈ wsL_law := List.mem_of_getElem? (i := 42) (by decide +kernel)
theorem dX6_sheetOf_11 : decode cX6_sheetOf 11 = .ok (.iload_n 1, 1) := by decide +kernel
theorem dX6_sheetOf_12 : decode cX6_sheetOf 12 = .ok (.aaload, 1) := by decide +kernel
theorem dX6_sheetOf_13 : decode cX6_sheetOf 13 = .ok (.goto 4, 3) := by decide +kernel
theorem dX6_sheetOf_17 : decode cX6_sheetOf 17 = .ok (.areturn, 1) := by decide +kernel
theorem dX6_sheetOf_16 : decode cX6_sheetOf 16 = .ok (.aconst_null, 1) := by decide +kernel
theorem mw_800 : Cond.code yX6_topOf cX6_topOf 2 (some (.object "TypedTables$View")) ∈ wsL_law := List.mem_of_getElem? (i := 800) (by decide +kernel)
theorem dX6_topOf_0 : decode cX6_topOf 0 = .ok (.iload_n 1, 1) := by decide +kernel
theorem dX6_topOf_1 : decode cX6_topOf 1 = .ok (.invokestatic 37, 3) := by decide +kernel
theorem dX6_topOf_4 : decode cX6_topOf 4 = .ok (.ifCond .eq 12, 3) := by decide +kernel
theorem dX6_topOf_7 : decode cX6_topOf 7 = .ok (.aload_n 0, 1) := by decide +kernel
theorem dX6_topOf_8 : decode cX6_topOf 8 = .ok (.getfield 23, 3) := by decide +kernel
theorem mw_44 : Cond.fieldLink RX6 23 "TypedTables$State" "views" "[LTypedTables$View;" ∈ wsL_law := List.mem_of_getElem? (i := 44) (by decide +kernel)
theorem dX6_topOf_11 : decode cX6_topOf 11 = .ok (.iload_n 1, 1) := by decide +kernel
theorem dX6_topOf_12 : decode cX6_topOf 12 = .ok (.aaload, 1) := by decide +kernel
theorem dX6_topOf_13 : decode cX6_topOf 13 = .ok (.goto 4, 3) := by decide +kernel
theorem dX6_topOf_17 : decode cX6_topOf 17 = .ok (.areturn, 1) := by decide +kernel
theorem dX6_topOf_16 : decode cX6_topOf 16 = .ok (.aconst_null, 1) := by decide +kernel
theorem mw_791 : Cond.code yX6_stripOf cX6_stripOf 5 (some (.object "TypedTables$Strip")) ∈ wsL_law := List.mem_of_getElem? (i := 791) (by decide +kernel)
theorem dX6_stripOf_0 : decode cX6_stripOf 0 = .ok (.aload_n 0, 1) := by decide +kernel
theorem dX6_stripOf_1 : decode cX6_stripOf 1 = .ok (.iload_n 1, 1) := by decide +kernel
theorem dX6_stripOf_2 : decode cX6_stripOf 2 = .ok (.invokevirtual 41, 3) := by decide +kernel
theorem mw_796 : Cond.methodLink RX6 41 yX6_sheetOf ∈ wsL_law := List.mem_of_getElem? (i := 796) (by decide +kernel)
theorem mw_572 : Cond.instanceMethod yX6_sheetOf ∈ wsL_law := List.mem_of_getElem? (i := 572) (by decide +kernel)
theorem mw_573 : Cond.selects RX6 yX6_sheetOf yX6_sheetOf ∈ wsL_law := List.mem_of_getElem? (i := 573) (by decide +kernel)
theorem gV_X6_41 : GoodIn wsL_law (wsV RX6 41 RX6 yX6_sheetOf (wl yX6_sheetOf cX6_sheetOf 2 (some (.object "TypedTables$Sheet")))) := g_V mw_796 mw_572 mw_573 mw_14 mw_574
theorem hdV_X6_sheetOf : yX6_sheetOf.cls = RX6 ∧ okD yX6_sheetOf 1 := by decide +kernel
theorem dX6_stripOf_5 : decode cX6_stripOf 5 = .ok (.astore_n 3, 1) := by decide +kernel
theorem dX6_stripOf_6 : decode cX6_stripOf 6 = .ok (.aload_n 0, 1) := by decide +kernel
theorem dX6_stripOf_7 : decode cX6_stripOf 7 = .ok (.iload_n 1, 1) := by decide +kernel
theorem dX6_stripOf_8 : decode cX6_stripOf 8 = .ok (.invokevirtual 45, 3) := by decide +kernel
theorem mw_797 : Cond.methodLink RX6 45 yX6_topOf ∈ wsL_law := List.mem_of_getElem? (i := 797) (by decide +kernel)
theorem mw_798 : Cond.instanceMethod yX6_topOf ∈ wsL_law := List.mem_of_getElem? (i := 798) (by decide +kernel)
theorem mw_799 : Cond.selects RX6 yX6_topOf yX6_topOf ∈ wsL_law := List.mem_of_getElem? (i := 799) (by decide +kernel)
theorem gV_X6_45 : GoodIn wsL_law (wsV RX6 45 RX6 yX6_topOf (wl yX6_topOf cX6_topOf 2 (some (.object "TypedTables$View")))) := g_V mw_797 mw_798 mw_799 mw_14 mw_800
theorem hdV_X6_topOf : yX6_topOf.cls = RX6 ∧ okD yX6_topOf 1 := by decide +kernel
theorem dX6_stripOf_11 : decode cX6_stripOf 11 = .ok (.astore 4, 2) := by decide +kernel
theorem dX6_stripOf_13 : decode cX6_stripOf 13 = .ok (.aload_n 3, 1) := by decide +kernel
theorem dX6_stripOf_14 : decode cX6_stripOf 14 = .ok (.ifnull 16, 3) := by decide +kernel
theorem dX6_stripOf_30 : decode cX6_stripOf 30 = .ok (.aconst_null, 1) := by decide +kernel
theorem dX6_stripOf_31 : decode cX6_stripOf 31 = .ok (.areturn, 1) := by decide +kernel
theorem mw_699 : Cond.code yX11_out cX11_out 4 (some .int) ∈ wsL_law := List.mem_of_getElem? (i := 699) (by decide +kernel)
theorem dX11_out_0 : decode cX11_out 0 = .ok (.aload_n 0, 1) := by decide +kernel
theorem dX11_out_1 : decode cX11_out 1 = .ok (.getfield 12, 3) := by decide +kernel
theorem mw_15 : Cond.fieldLink RX11 12 "TypedTables" "now" "LTypedTables$State;" ∈ wsL_law := List.mem_of_getElem? (i := 15) (by decide +kernel)
theorem dX11_out_4 : decode cX11_out 4 = .ok (.iload_n 1, 1) := by decide +kernel
theorem dX11_out_5 : decode cX11_out 5 = .ok (.invokevirtual 114, 3) := by decide +kernel
theorem mw_571 : Cond.methodLink RX11 114 yX6_sheetOf ∈ wsL_law := List.mem_of_getElem? (i := 571) (by decide +kernel)
theorem gV_X11_114 : GoodIn wsL_law (wsV RX11 114 RX6 yX6_sheetOf (wl yX6_sheetOf cX6_sheetOf 2 (some (.object "TypedTables$Sheet")))) := g_V mw_571 mw_572 mw_573 mw_14 mw_574
theorem dX11_out_8 : decode cX11_out 8 = .ok (.astore_n 3, 1) := by decide +kernel
theorem dX11_out_9 : decode cX11_out 9 = .ok (.aload_n 3, 1) := by decide +kernel
theorem dX11_out_10 : decode cX11_out 10 = .ok (.ifnull 11, 3) := by decide +kernel
theorem dX11_out_21 : decode cX11_out 21 = .ok (.iconst (-1), 1) := by decide +kernel
theorem dX11_out_22 : decode cX11_out 22 = .ok (.ireturn, 1) := by decide +kernel
theorem mw_742 : Cond.code yX11_away cX11_away 4 (some .int) ∈ wsL_law := List.mem_of_getElem? (i := 742) (by decide +kernel)
theorem dX11_away_0 : decode cX11_away 0 = .ok (.aload_n 0, 1) := by decide +kernel
theorem dX11_away_1 : decode cX11_away 1 = .ok (.getfield 12, 3) := by decide +kernel
theorem dX11_away_4 : decode cX11_away 4 = .ok (.iload_n 1, 1) := by decide +kernel
theorem dX11_away_5 : decode cX11_away 5 = .ok (.invokevirtual 114, 3) := by decide +kernel
theorem dX11_away_8 : decode cX11_away 8 = .ok (.astore_n 3, 1) := by decide +kernel
theorem dX11_away_9 : decode cX11_away 9 = .ok (.aload_n 3, 1) := by decide +kernel
theorem dX11_away_10 : decode cX11_away 10 = .ok (.ifnull 20, 3) := by decide +kernel
theorem dX11_away_30 : decode cX11_away 30 = .ok (.iconst (-1), 1) := by decide +kernel
theorem dX11_away_31 : decode cX11_away 31 = .ok (.ireturn, 1) := by decide +kernel
theorem mw_758 : Cond.code yX11_type cX11_type 5 (some .boolean) ∈ wsL_law := List.mem_of_getElem? (i := 758) (by decide +kernel)
theorem dX11_type_0 : decode cX11_type 0 = .ok (.aload_n 0, 1) := by decide +kernel
theorem dX11_type_1 : decode cX11_type 1 = .ok (.getfield 12, 3) := by decide +kernel
theorem dX11_type_4 : decode cX11_type 4 = .ok (.iload_n 1, 1) := by decide +kernel
theorem dX11_type_5 : decode cX11_type 5 = .ok (.invokevirtual 114, 3) := by decide +kernel
theorem dX11_type_8 : decode cX11_type 8 = .ok (.astore 4, 2) := by decide +kernel
theorem dX11_type_10 : decode cX11_type 10 = .ok (.aload 4, 2) := by decide +kernel
theorem dX11_type_12 : decode cX11_type 12 = .ok (.ifnull 22, 3) := by decide +kernel
theorem dX11_type_34 : decode cX11_type 34 = .ok (.iconst 0, 1) := by decide +kernel
theorem dX11_type_35 : decode cX11_type 35 = .ok (.ireturn, 1) := by decide +kernel
theorem mw_784 : Cond.code yX11_joined cX11_joined 9 (some .int) ∈ wsL_law := List.mem_of_getElem? (i := 784) (by decide +kernel)
theorem dX11_joined_0 : decode cX11_joined 0 = .ok (.aload_n 0, 1) := by decide +kernel
theorem dX11_joined_1 : decode cX11_joined 1 = .ok (.getfield 12, 3) := by decide +kernel
theorem dX11_joined_4 : decode cX11_joined 4 = .ok (.iload_n 1, 1) := by decide +kernel
theorem dX11_joined_5 : decode cX11_joined 5 = .ok (.iload_n 2, 1) := by decide +kernel
theorem dX11_joined_6 : decode cX11_joined 6 = .ok (.invokevirtual 189, 3) := by decide +kernel
theorem mw_788 : Cond.methodLink RX11 189 yX6_stripOf ∈ wsL_law := List.mem_of_getElem? (i := 788) (by decide +kernel)
theorem mw_789 : Cond.instanceMethod yX6_stripOf ∈ wsL_law := List.mem_of_getElem? (i := 789) (by decide +kernel)
theorem mw_790 : Cond.selects RX6 yX6_stripOf yX6_stripOf ∈ wsL_law := List.mem_of_getElem? (i := 790) (by decide +kernel)
theorem gV_X11_189 : GoodIn wsL_law (wsV RX11 189 RX6 yX6_stripOf (wl yX6_stripOf cX6_stripOf 5 (some (.object "TypedTables$Strip")))) := g_V mw_788 mw_789 mw_790 mw_14 mw_791
theorem hdV_X6_stripOf : yX6_stripOf.cls = RX6 ∧ okD yX6_stripOf 2 := by decide +kernel
theorem dX11_joined_9 : decode cX11_joined 9 = .ok (.astore 6, 2) := by decide +kernel
theorem dX11_joined_11 : decode cX11_joined 11 = .ok (.aload_n 0, 1) := by decide +kernel
theorem dX11_joined_12 : decode cX11_joined 12 = .ok (.getfield 12, 3) := by decide +kernel
theorem dX11_joined_15 : decode cX11_joined 15 = .ok (.iload_n 3, 1) := by decide +kernel
theorem dX11_joined_16 : decode cX11_joined 16 = .ok (.iload 4, 2) := by decide +kernel
theorem dX11_joined_18 : decode cX11_joined 18 = .ok (.invokevirtual 189, 3) := by decide +kernel
theorem dX11_joined_21 : decode cX11_joined 21 = .ok (.astore 7, 2) := by decide +kernel
theorem dX11_joined_23 : decode cX11_joined 23 = .ok (.aload 6, 2) := by decide +kernel
theorem dX11_joined_25 : decode cX11_joined 25 = .ok (.ifnull 28, 3) := by decide +kernel
theorem dX11_joined_53 : decode cX11_joined 53 = .ok (.iconst (-1), 1) := by decide +kernel
theorem dX11_joined_54 : decode cX11_joined 54 = .ok (.ireturn, 1) := by decide +kernel
theorem mw_968 : Cond.code yX11_undo cX11_undo 1 (some .int) ∈ wsL_law := List.mem_of_getElem? (i := 968) (by decide +kernel)
theorem dX11_undo_0 : decode cX11_undo 0 = .ok (.aload_n 0, 1) := by decide +kernel
theorem dX11_undo_1 : decode cX11_undo 1 = .ok (.getfield 12, 3) := by decide +kernel
theorem dX11_undo_4 : decode cX11_undo 4 = .ok (.getfield 199, 3) := by decide +kernel
theorem mw_969 : Cond.fieldLink RX11 199 "TypedTables$State" "acts" "I" ∈ wsL_law := List.mem_of_getElem? (i := 969) (by decide +kernel)
theorem dX11_undo_7 : decode cX11_undo 7 = .ok (.ifCond .ne 5, 3) := by decide +kernel
theorem dX11_undo_10 : decode cX11_undo 10 = .ok (.iconst (-1), 1) := by decide +kernel
theorem dX11_undo_11 : decode cX11_undo 11 = .ok (.ireturn, 1) := by decide +kernel
theorem mw_1049 : Cond.code yX11_order cX11_order 5 (some .int) ∈ wsL_law := List.mem_of_getElem? (i := 1049) (by decide +kernel)
theorem dX11_order_0 : decode cX11_order 0 = .ok (.aload_n 0, 1) := by decide +kernel
theorem dX11_order_1 : decode cX11_order 1 = .ok (.getfield 12, 3) := by decide +kernel
theorem dX11_order_4 : decode cX11_order 4 = .ok (.iload_n 1, 1) := by decide +kernel
theorem dX11_order_5 : decode cX11_order 5 = .ok (.iload_n 2, 1) := by decide +kernel
theorem dX11_order_6 : decode cX11_order 6 = .ok (.invokevirtual 189, 3) := by decide +kernel
theorem dX11_order_9 : decode cX11_order 9 = .ok (.astore 4, 2) := by decide +kernel
theorem dX11_order_11 : decode cX11_order 11 = .ok (.aload 4, 2) := by decide +kernel
theorem dX11_order_13 : decode cX11_order 13 = .ok (.ifnull 14, 3) := by decide +kernel
theorem dX11_order_27 : decode cX11_order 27 = .ok (.iconst (-1), 1) := by decide +kernel
theorem dX11_order_28 : decode cX11_order 28 = .ok (.ireturn, 1) := by decide +kernel
theorem mw_1077 : Cond.code yX11_cut cX11_cut 7 (some .int) ∈ wsL_law := List.mem_of_getElem? (i := 1077) (by decide +kernel)
theorem dX11_cut_0 : decode cX11_cut 0 = .ok (.aload_n 0, 1) := by decide +kernel
theorem dX11_cut_1 : decode cX11_cut 1 = .ok (.getfield 12, 3) := by decide +kernel
theorem dX11_cut_4 : decode cX11_cut 4 = .ok (.iload_n 1, 1) := by decide +kernel
theorem dX11_cut_5 : decode cX11_cut 5 = .ok (.invokevirtual 231, 3) := by decide +kernel
theorem mw_1080 : Cond.methodLink RX11 231 yX6_topOf ∈ wsL_law := List.mem_of_getElem? (i := 1080) (by decide +kernel)
theorem gV_X11_231 : GoodIn wsL_law (wsV RX11 231 RX6 yX6_topOf (wl yX6_topOf cX6_topOf 2 (some (.object "TypedTables$View")))) := g_V mw_1080 mw_798 mw_799 mw_14 mw_800
theorem dX11_cut_8 : decode cX11_cut 8 = .ok (.astore 4, 2) := by decide +kernel
theorem dX11_cut_10 : decode cX11_cut 10 = .ok (.aload 4, 2) := by decide +kernel
theorem dX11_cut_12 : decode cX11_cut 12 = .ok (.ifnull 22, 3) := by decide +kernel
theorem dX11_cut_34 : decode cX11_cut 34 = .ok (.iconst (-1), 1) := by decide +kernel
theorem dX11_cut_35 : decode cX11_cut 35 = .ok (.ireturn, 1) := by decide +kernel
theorem mw_1097 : Cond.code yX11_unlike cX11_unlike 4 (some .int) ∈ wsL_law := List.mem_of_getElem? (i := 1097) (by decide +kernel)
theorem dX11_unlike_0 : decode cX11_unlike 0 = .ok (.aload_n 0, 1) := by decide +kernel
theorem dX11_unlike_1 : decode cX11_unlike 1 = .ok (.getfield 12, 3) := by decide +kernel
theorem dX11_unlike_4 : decode cX11_unlike 4 = .ok (.iload_n 1, 1) := by decide +kernel
theorem dX11_unlike_5 : decode cX11_unlike 5 = .ok (.iload_n 2, 1) := by decide +kernel
theorem dX11_unlike_6 : decode cX11_unlike 6 = .ok (.invokevirtual 189, 3) := by decide +kernel
theorem dX11_unlike_9 : decode cX11_unlike 9 = .ok (.astore_n 3, 1) := by decide +kernel
theorem dX11_unlike_10 : decode cX11_unlike 10 = .ok (.aload_n 3, 1) := by decide +kernel
theorem dX11_unlike_11 : decode cX11_unlike 11 = .ok (.ifnull 14, 3) := by decide +kernel
theorem dX11_unlike_25 : decode cX11_unlike 25 = .ok (.iconst (-1), 1) := by decide +kernel
theorem dX11_unlike_26 : decode cX11_unlike 26 = .ok (.ireturn, 1) := by decide +kernel
theorem mw_1121 : Cond.code yX11_back cX11_back 3 (some .int) ∈ wsL_law := List.mem_of_getElem? (i := 1121) (by decide +kernel)
theorem dX11_back_0 : decode cX11_back 0 = .ok (.aload_n 0, 1) := by decide +kernel
theorem dX11_back_1 : decode cX11_back 1 = .ok (.getfield 12, 3) := by decide +kernel
theorem dX11_back_4 : decode cX11_back 4 = .ok (.iload_n 1, 1) := by decide +kernel
theorem dX11_back_5 : decode cX11_back 5 = .ok (.invokevirtual 231, 3) := by decide +kernel
theorem dX11_back_8 : decode cX11_back 8 = .ok (.astore_n 2, 1) := by decide +kernel
theorem dX11_back_9 : decode cX11_back 9 = .ok (.aload_n 2, 1) := by decide +kernel
theorem dX11_back_10 : decode cX11_back 10 = .ok (.ifnull 10, 3) := by decide +kernel
theorem dX11_back_20 : decode cX11_back 20 = .ok (.iconst (-1), 1) := by decide +kernel
theorem dX11_back_21 : decode cX11_back 21 = .ok (.ireturn, 1) := by decide +kernel
theorem mw_1135 : Cond.code yX11_view cX11_view 4 (some .int) ∈ wsL_law := List.mem_of_getElem? (i := 1135) (by decide +kernel)
theorem dX11_view_0 : decode cX11_view 0 = .ok (.aload_n 0, 1) := by decide +kernel
theorem dX11_view_1 : decode cX11_view 1 = .ok (.getfield 12, 3) := by decide +kernel
theorem dX11_view_4 : decode cX11_view 4 = .ok (.iload_n 1, 1) := by decide +kernel
theorem dX11_view_5 : decode cX11_view 5 = .ok (.invokevirtual 231, 3) := by decide +kernel
theorem dX11_view_8 : decode cX11_view 8 = .ok (.astore_n 3, 1) := by decide +kernel
theorem dX11_view_9 : decode cX11_view 9 = .ok (.aload_n 3, 1) := by decide +kernel
theorem dX11_view_10 : decode cX11_view 10 = .ok (.ifnonnull 5, 3) := by decide +kernel
theorem dX11_view_13 : decode cX11_view 13 = .ok (.iconst (-1), 1) := by decide +kernel
theorem dX11_view_14 : decode cX11_view 14 = .ok (.ireturn, 1) := by decide +kernel
theorem mw_1143 : Cond.code yX11_table cX11_table 5 (some .int) ∈ wsL_law := List.mem_of_getElem? (i := 1143) (by decide +kernel)
theorem dX11_table_0 : decode cX11_table 0 = .ok (.aload_n 0, 1) := by decide +kernel
theorem dX11_table_1 : decode cX11_table 1 = .ok (.getfield 12, 3) := by decide +kernel
theorem dX11_table_4 : decode cX11_table 4 = .ok (.iload_n 1, 1) := by decide +kernel
theorem dX11_table_5 : decode cX11_table 5 = .ok (.invokevirtual 114, 3) := by decide +kernel
theorem dX11_table_8 : decode cX11_table 8 = .ok (.astore_n 3, 1) := by decide +kernel
theorem dX11_table_9 : decode cX11_table 9 = .ok (.aload_n 0, 1) := by decide +kernel
theorem dX11_table_10 : decode cX11_table 10 = .ok (.getfield 12, 3) := by decide +kernel
theorem dX11_table_13 : decode cX11_table 13 = .ok (.iload_n 1, 1) := by decide +kernel
theorem dX11_table_14 : decode cX11_table 14 = .ok (.invokevirtual 231, 3) := by decide +kernel
theorem dX11_table_17 : decode cX11_table 17 = .ok (.astore 4, 2) := by decide +kernel
theorem dX11_table_19 : decode cX11_table 19 = .ok (.aload_n 3, 1) := by decide +kernel
theorem dX11_table_20 : decode cX11_table 20 = .ok (.ifnull 8, 3) := by decide +kernel
theorem dX11_table_28 : decode cX11_table 28 = .ok (.iconst (-1), 1) := by decide +kernel
theorem dX11_table_29 : decode cX11_table 29 = .ok (.ireturn, 1) := by decide +kernel
theorem mw_1160 : Cond.code yX11_column cX11_column 5 (some .int) ∈ wsL_law := List.mem_of_getElem? (i := 1160) (by decide +kernel)
theorem dX11_column_0 : decode cX11_column 0 = .ok (.aload_n 0, 1) := by decide +kernel
theorem dX11_column_1 : decode cX11_column 1 = .ok (.getfield 12, 3) := by decide +kernel
theorem dX11_column_4 : decode cX11_column 4 = .ok (.iload_n 1, 1) := by decide +kernel
theorem dX11_column_5 : decode cX11_column 5 = .ok (.invokevirtual 114, 3) := by decide +kernel
theorem dX11_column_8 : decode cX11_column 8 = .ok (.astore 4, 2) := by decide +kernel
theorem dX11_column_10 : decode cX11_column 10 = .ok (.aload 4, 2) := by decide +kernel
theorem dX11_column_12 : decode cX11_column 12 = .ok (.ifnull 12, 3) := by decide +kernel
theorem dX11_column_24 : decode cX11_column 24 = .ok (.iconst (-1), 1) := by decide +kernel
theorem dX11_column_25 : decode cX11_column 25 = .ok (.ireturn, 1) := by decide +kernel
theorem mw_1191 : Cond.code yX11_nameAt cX11_nameAt 6 (some .int) ∈ wsL_law := List.mem_of_getElem? (i := 1191) (by decide +kernel)
theorem dX11_nameAt_0 : decode cX11_nameAt 0 = .ok (.aload_n 0, 1) := by decide +kernel
theorem dX11_nameAt_1 : decode cX11_nameAt 1 = .ok (.getfield 12, 3) := by decide +kernel
theorem dX11_nameAt_4 : decode cX11_nameAt 4 = .ok (.iload_n 1, 1) := by decide +kernel
theorem dX11_nameAt_5 : decode cX11_nameAt 5 = .ok (.invokevirtual 114, 3) := by decide +kernel
theorem dX11_nameAt_8 : decode cX11_nameAt 8 = .ok (.astore 4, 2) := by decide +kernel
theorem dX11_nameAt_10 : decode cX11_nameAt 10 = .ok (.aload 4, 2) := by decide +kernel
theorem dX11_nameAt_12 : decode cX11_nameAt 12 = .ok (.ifnull 12, 3) := by decide +kernel
theorem dX11_nameAt_24 : decode cX11_nameAt 24 = .ok (.iconst (-1), 1) := by decide +kernel
theorem dX11_nameAt_25 : decode cX11_nameAt 25 = .ok (.ireturn, 1) := by decide +kernel
theorem mw_1207 : Cond.code yX11_proof cX11_proof 7 (some .int) ∈ wsL_law := List.mem_of_getElem? (i := 1207) (by decide +kernel)
theorem dX11_proof_0 : decode cX11_proof 0 = .ok (.aload_n 0, 1) := by decide +kernel
theorem dX11_proof_1 : decode cX11_proof 1 = .ok (.getfield 12, 3) := by decide +kernel
theorem dX11_proof_4 : decode cX11_proof 4 = .ok (.iload_n 1, 1) := by decide +kernel
theorem dX11_proof_5 : decode cX11_proof 5 = .ok (.invokevirtual 114, 3) := by decide +kernel
theorem dX11_proof_8 : decode cX11_proof 8 = .ok (.astore 5, 2) := by decide +kernel
theorem dX11_proof_10 : decode cX11_proof 10 = .ok (.aload 5, 2) := by decide +kernel
theorem dX11_proof_12 : decode cX11_proof 12 = .ok (.ifnull 12, 3) := by decide +kernel
theorem dX11_proof_24 : decode cX11_proof 24 = .ok (.iconst (-1), 1) := by decide +kernel
theorem dX11_proof_25 : decode cX11_proof 25 = .ok (.ireturn, 1) := by decide +kernel
theorem mw_1216 : Cond.code yX11_against cX11_against 5 (some .int) ∈ wsL_law := List.mem_of_getElem? (i := 1216) (by decide +kernel)
theorem dX11_against_0 : decode cX11_against 0 = .ok (.aload_n 0, 1) := by decide +kernel
theorem dX11_against_1 : decode cX11_against 1 = .ok (.getfield 12, 3) := by decide +kernel
theorem dX11_against_4 : decode cX11_against 4 = .ok (.iload_n 1, 1) := by decide +kernel
theorem dX11_against_5 : decode cX11_against 5 = .ok (.invokevirtual 114, 3) := by decide +kernel
theorem dX11_against_8 : decode cX11_against 8 = .ok (.astore 4, 2) := by decide +kernel
theorem dX11_against_10 : decode cX11_against 10 = .ok (.aload 4, 2) := by decide +kernel
theorem dX11_against_12 : decode cX11_against 12 = .ok (.ifnull 21, 3) := by decide +kernel
theorem dX11_against_33 : decode cX11_against 33 = .ok (.iconst (-1), 1) := by decide +kernel
theorem dX11_against_34 : decode cX11_against 34 = .ok (.ireturn, 1) := by decide +kernel
theorem mw_1224 : Cond.code yX11_cell cX11_cell 7 (some .int) ∈ wsL_law := List.mem_of_getElem? (i := 1224) (by decide +kernel)
theorem dX11_cell_0 : decode cX11_cell 0 = .ok (.aload_n 0, 1) := by decide +kernel
theorem dX11_cell_1 : decode cX11_cell 1 = .ok (.getfield 12, 3) := by decide +kernel
theorem dX11_cell_4 : decode cX11_cell 4 = .ok (.iload_n 1, 1) := by decide +kernel
theorem dX11_cell_5 : decode cX11_cell 5 = .ok (.invokevirtual 114, 3) := by decide +kernel
theorem dX11_cell_8 : decode cX11_cell 8 = .ok (.astore 5, 2) := by decide +kernel
theorem dX11_cell_10 : decode cX11_cell 10 = .ok (.aload 5, 2) := by decide +kernel
theorem dX11_cell_12 : decode cX11_cell 12 = .ok (.ifnull 13, 3) := by decide +kernel
theorem dX11_cell_25 : decode cX11_cell 25 = .ok (.iconst (-1), 1) := by decide +kernel
theorem dX11_cell_26 : decode cX11_cell 26 = .ok (.ireturn, 1) := by decide +kernel
theorem mw_1243 : Cond.code yX11_cellAt cX11_cellAt 7 (some .int) ∈ wsL_law := List.mem_of_getElem? (i := 1243) (by decide +kernel)
theorem dX11_cellAt_0 : decode cX11_cellAt 0 = .ok (.aload_n 0, 1) := by decide +kernel
theorem dX11_cellAt_1 : decode cX11_cellAt 1 = .ok (.getfield 12, 3) := by decide +kernel
theorem dX11_cellAt_4 : decode cX11_cellAt 4 = .ok (.iload_n 1, 1) := by decide +kernel
theorem dX11_cellAt_5 : decode cX11_cellAt 5 = .ok (.invokevirtual 114, 3) := by decide +kernel
theorem dX11_cellAt_8 : decode cX11_cellAt 8 = .ok (.astore 5, 2) := by decide +kernel
theorem dX11_cellAt_10 : decode cX11_cellAt 10 = .ok (.aload 5, 2) := by decide +kernel
theorem dX11_cellAt_12 : decode cX11_cellAt 12 = .ok (.ifnull 13, 3) := by decide +kernel
theorem dX11_cellAt_25 : decode cX11_cellAt 25 = .ok (.iconst (-1), 1) := by decide +kernel
theorem dX11_cellAt_26 : decode cX11_cellAt 26 = .ok (.ireturn, 1) := by decide +kernel
theorem mw_1251 : Cond.code yX11_value cX11_value 6 (some .long) ∈ wsL_law := List.mem_of_getElem? (i := 1251) (by decide +kernel)
theorem dX11_value_0 : decode cX11_value 0 = .ok (.aload_n 0, 1) := by decide +kernel
theorem dX11_value_1 : decode cX11_value 1 = .ok (.getfield 12, 3) := by decide +kernel
theorem dX11_value_4 : decode cX11_value 4 = .ok (.iload_n 1, 1) := by decide +kernel
theorem dX11_value_5 : decode cX11_value 5 = .ok (.invokevirtual 114, 3) := by decide +kernel
theorem dX11_value_8 : decode cX11_value 8 = .ok (.astore 4, 2) := by decide +kernel
theorem dX11_value_10 : decode cX11_value 10 = .ok (.aload 4, 2) := by decide +kernel
theorem dX11_value_12 : decode cX11_value 12 = .ok (.ifnull 13, 3) := by decide +kernel
theorem dX11_value_25 : decode cX11_value 25 = .ok (.ldc2_w 300, 3) := by decide +kernel
theorem mw_1252 : Cond.constantLong RX11 300 (-100000000000000) ∈ wsL_law := List.mem_of_getElem? (i := 1252) (by decide +kernel)
theorem dX11_value_28 : decode cX11_value 28 = .ok (.lreturn, 1) := by decide +kernel
theorem mw_1263 : Cond.code yX11_compare cX11_compare 7 (some .int) ∈ wsL_law := List.mem_of_getElem? (i := 1263) (by decide +kernel)
theorem dX11_compare_0 : decode cX11_compare 0 = .ok (.aload_n 0, 1) := by decide +kernel
theorem dX11_compare_1 : decode cX11_compare 1 = .ok (.getfield 12, 3) := by decide +kernel
theorem dX11_compare_4 : decode cX11_compare 4 = .ok (.iload_n 1, 1) := by decide +kernel
theorem dX11_compare_5 : decode cX11_compare 5 = .ok (.invokevirtual 114, 3) := by decide +kernel
theorem dX11_compare_8 : decode cX11_compare 8 = .ok (.astore 5, 2) := by decide +kernel
theorem dX11_compare_10 : decode cX11_compare 10 = .ok (.aload 5, 2) := by decide +kernel
theorem dX11_compare_12 : decode cX11_compare 12 = .ok (.ifnull 23, 3) := by decide +kernel
theorem dX11_compare_35 : decode cX11_compare 35 = .ok (.iconst (-1), 1) := by decide +kernel
theorem dX11_compare_36 : decode cX11_compare 36 = .ok (.ireturn, 1) := by decide +kernel
theorem mw_1272 : Cond.code yX11_over cX11_over 6 (some .long) ∈ wsL_law := List.mem_of_getElem? (i := 1272) (by decide +kernel)
theorem dX11_over_0 : decode cX11_over 0 = .ok (.aload_n 0, 1) := by decide +kernel
theorem dX11_over_1 : decode cX11_over 1 = .ok (.getfield 12, 3) := by decide +kernel
theorem dX11_over_4 : decode cX11_over 4 = .ok (.iload_n 1, 1) := by decide +kernel
theorem dX11_over_5 : decode cX11_over 5 = .ok (.iload_n 2, 1) := by decide +kernel
theorem dX11_over_6 : decode cX11_over 6 = .ok (.invokevirtual 189, 3) := by decide +kernel
theorem dX11_over_9 : decode cX11_over 9 = .ok (.astore 4, 2) := by decide +kernel
theorem dX11_over_11 : decode cX11_over 11 = .ok (.aload 4, 2) := by decide +kernel
theorem dX11_over_13 : decode cX11_over 13 = .ok (.ifnonnull 7, 3) := by decide +kernel
theorem dX11_over_16 : decode cX11_over 16 = .ok (.ldc2_w 300, 3) := by decide +kernel
theorem dX11_over_19 : decode cX11_over 19 = .ok (.lreturn, 1) := by decide +kernel
theorem mw_1352 : Cond.code yX11_group cX11_group 8 (some .long) ∈ wsL_law := List.mem_of_getElem? (i := 1352) (by decide +kernel)
theorem dX11_group_0 : decode cX11_group 0 = .ok (.aload_n 0, 1) := by decide +kernel
theorem dX11_group_1 : decode cX11_group 1 = .ok (.getfield 12, 3) := by decide +kernel
theorem dX11_group_4 : decode cX11_group 4 = .ok (.iload_n 1, 1) := by decide +kernel
theorem dX11_group_5 : decode cX11_group 5 = .ok (.iload_n 2, 1) := by decide +kernel
theorem dX11_group_6 : decode cX11_group 6 = .ok (.invokevirtual 189, 3) := by decide +kernel
theorem dX11_group_9 : decode cX11_group 9 = .ok (.astore 6, 2) := by decide +kernel
theorem dX11_group_11 : decode cX11_group 11 = .ok (.aload 6, 2) := by decide +kernel
theorem dX11_group_13 : decode cX11_group 13 = .ok (.ifnonnull 7, 3) := by decide +kernel
theorem dX11_group_16 : decode cX11_group 16 = .ok (.ldc2_w 300, 3) := by decide +kernel
theorem dX11_group_19 : decode cX11_group 19 = .ok (.lreturn, 1) := by decide +kernel
theorem mw_1370 : Cond.code yX11_matches cX11_matches 8 (some .int) ∈ wsL_law := List.mem_of_getElem? (i := 1370) (by decide +kernel)
theorem dX11_matches_0 : decode cX11_matches 0 = .ok (.aload_n 0, 1) := by decide +kernel
theorem dX11_matches_1 : decode cX11_matches 1 = .ok (.getfield 12, 3) := by decide +kernel
theorem dX11_matches_4 : decode cX11_matches 4 = .ok (.iload_n 1, 1) := by decide +kernel
theorem dX11_matches_5 : decode cX11_matches 5 = .ok (.iload_n 2, 1) := by decide +kernel
theorem dX11_matches_6 : decode cX11_matches 6 = .ok (.invokevirtual 189, 3) := by decide +kernel
theorem dX11_matches_9 : decode cX11_matches 9 = .ok (.astore 5, 2) := by decide +kernel
theorem dX11_matches_11 : decode cX11_matches 11 = .ok (.aload_n 0, 1) := by decide +kernel
theorem dX11_matches_12 : decode cX11_matches 12 = .ok (.getfield 12, 3) := by decide +kernel
theorem dX11_matches_15 : decode cX11_matches 15 = .ok (.iload_n 3, 1) := by decide +kernel
theorem dX11_matches_16 : decode cX11_matches 16 = .ok (.iload 4, 2) := by decide +kernel
theorem dX11_matches_18 : decode cX11_matches 18 = .ok (.invokevirtual 189, 3) := by decide +kernel
theorem dX11_matches_21 : decode cX11_matches 21 = .ok (.astore 6, 2) := by decide +kernel
theorem dX11_matches_23 : decode cX11_matches 23 = .ok (.aload 5, 2) := by decide +kernel
theorem dX11_matches_25 : decode cX11_matches 25 = .ok (.ifnull 8, 3) := by decide +kernel
theorem dX11_matches_33 : decode cX11_matches 33 = .ok (.iconst (-1), 1) := by decide +kernel
theorem dX11_matches_34 : decode cX11_matches 34 = .ok (.ireturn, 1) := by decide +kernel
theorem mw_1380 : Cond.code yX11_differ cX11_differ 5 (some .int) ∈ wsL_law := List.mem_of_getElem? (i := 1380) (by decide +kernel)
theorem dX11_differ_0 : decode cX11_differ 0 = .ok (.aload_n 0, 1) := by decide +kernel
theorem dX11_differ_1 : decode cX11_differ 1 = .ok (.getfield 12, 3) := by decide +kernel
theorem dX11_differ_4 : decode cX11_differ 4 = .ok (.iload_n 1, 1) := by decide +kernel
theorem dX11_differ_5 : decode cX11_differ 5 = .ok (.invokevirtual 114, 3) := by decide +kernel
theorem dX11_differ_8 : decode cX11_differ 8 = .ok (.astore_n 3, 1) := by decide +kernel
theorem dX11_differ_9 : decode cX11_differ 9 = .ok (.aload_n 0, 1) := by decide +kernel
theorem dX11_differ_10 : decode cX11_differ 10 = .ok (.getfield 12, 3) := by decide +kernel
theorem dX11_differ_13 : decode cX11_differ 13 = .ok (.iload_n 2, 1) := by decide +kernel
theorem dX11_differ_14 : decode cX11_differ 14 = .ok (.invokevirtual 114, 3) := by decide +kernel
theorem dX11_differ_17 : decode cX11_differ 17 = .ok (.astore 4, 2) := by decide +kernel
theorem dX11_differ_19 : decode cX11_differ 19 = .ok (.aload_n 3, 1) := by decide +kernel
theorem dX11_differ_20 : decode cX11_differ 20 = .ok (.ifnull 8, 3) := by decide +kernel
theorem dX11_differ_28 : decode cX11_differ 28 = .ok (.iconst (-1), 1) := by decide +kernel
theorem dX11_differ_29 : decode cX11_differ 29 = .ok (.goto 9, 3) := by decide +kernel
theorem dX11_differ_38 : decode cX11_differ 38 = .ok (.ireturn, 1) := by decide +kernel
theorem mw_1404 : Cond.code yX11_write cX11_write 4 (some .int) ∈ wsL_law := List.mem_of_getElem? (i := 1404) (by decide +kernel)
theorem dX11_write_0 : decode cX11_write 0 = .ok (.aload_n 0, 1) := by decide +kernel
theorem dX11_write_1 : decode cX11_write 1 = .ok (.getfield 12, 3) := by decide +kernel
theorem dX11_write_4 : decode cX11_write 4 = .ok (.iload_n 1, 1) := by decide +kernel
theorem dX11_write_5 : decode cX11_write 5 = .ok (.invokevirtual 114, 3) := by decide +kernel
theorem dX11_write_8 : decode cX11_write 8 = .ok (.astore_n 2, 1) := by decide +kernel
theorem dX11_write_9 : decode cX11_write 9 = .ok (.aload_n 0, 1) := by decide +kernel
theorem dX11_write_10 : decode cX11_write 10 = .ok (.getfield 12, 3) := by decide +kernel
theorem dX11_write_13 : decode cX11_write 13 = .ok (.iload_n 1, 1) := by decide +kernel
theorem dX11_write_14 : decode cX11_write 14 = .ok (.invokevirtual 231, 3) := by decide +kernel
theorem dX11_write_17 : decode cX11_write 17 = .ok (.astore_n 3, 1) := by decide +kernel
theorem dX11_write_18 : decode cX11_write 18 = .ok (.aload_n 2, 1) := by decide +kernel
theorem dX11_write_19 : decode cX11_write 19 = .ok (.ifnull 7, 3) := by decide +kernel
theorem dX11_write_26 : decode cX11_write 26 = .ok (.iconst (-1), 1) := by decide +kernel
theorem dX11_write_27 : decode cX11_write 27 = .ok (.ireturn, 1) := by decide +kernel
set_option maxHeartbeats 4000000 in
set_option maxRecDepth 100000 in
theorem c_X6_isPlace (l : Launch) (D : va_G) (κ : Nat → ClassId) (t : Int32) : Cr l yX6_isPlace (wl yX6_isPlace cX6_isPlace 1 (some .boolean)) { frames := 0, cells := 0, slots := 0, locals := 0 } D κ [.int t] (va_P D vwCl []) (fun r : Int32 => some (.int r)) (fun r : Int32 => (r = 1 ∧ ¬ t < 0 ∧ ¬ 3 ≤ t) ∨ (r = 0 ∧ (t < 0 ∨ 3 ≤ t))) := by
  refine cr_of (by decide +kernel) (Nat.le_of_ble_eq_true rfl) ?_
  intro p e s m args below meth c ls hx hb hr hml hts hown hlk hKK hK hI hl
  have hP : va_P D vwCl [] s.heap := hI
  have hFX : FX p s m args c cX6_isPlace 1 RX6 := ⟨hx, hb, hml, hown, hts⟩
  have hl : lv_has ls 1 [(0, .int t)] := hl
  refine lv_iload_n hx hb dX6_isPlace_0 rfl (lv_at hl 0 rfl) ?_
  refine lv_if_lt (tgt := 13) hx hb dX6_isPlace_1 (by decide) (fun c_1 => ?_) (fun c_1 => ?_)
  · refine lv_iconst (v := 0) hx hb dX6_isPlace_13 (by decide) ?_
    exact cr_iret hx hb hr hlk rfl 0 rfl (by first | exact Or.inr ((⟨rfl, (by first | assumption | exact Or.inl (by assumption) | exact Or.inr (by assumption) | exact out_ne (by assumption) (by decide) (by decide) | (simp_all; done))⟩))) dX6_isPlace_14
  · refine lv_iload_n hx hb dX6_isPlace_4 rfl (lv_at hl 0 rfl) ?_
    refine lv_iconst (v := 3) hx hb dX6_isPlace_5 (by decide) ?_
    refine lv_icmp_ge (tgt := 13) hx hb dX6_isPlace_6 (by decide) (fun c_2 => ?_) (fun c_2 => ?_)
    · refine lv_iconst (v := 0) hx hb dX6_isPlace_13 (by decide) ?_
      exact cr_iret hx hb hr hlk rfl 0 rfl (by first | exact Or.inr ((⟨rfl, (by first | assumption | exact Or.inl (by assumption) | exact Or.inr (by assumption) | exact out_ne (by assumption) (by decide) (by decide) | (simp_all; done))⟩))) dX6_isPlace_14
    · refine lv_iconst (v := 1) hx hb dX6_isPlace_9 (by decide) ?_
      refine lv_goto (tgt := 14) hx hb dX6_isPlace_10 (by decide) ?_
      exact cr_iret hx hb hr hlk rfl 1 rfl (by first | exact Or.inl (⟨rfl, (by first | assumption | exact Or.inl (by assumption) | exact Or.inr (by assumption) | exact out_ne (by assumption) (by decide) (by decide) | (simp_all; done)), (by first | assumption | exact Or.inl (by assumption) | exact Or.inr (by assumption) | exact out_ne (by assumption) (by decide) (by decide) | (simp_all; done))⟩)) dX6_isPlace_14
set_option maxHeartbeats 4000000 in
set_option maxRecDepth 100000 in
theorem c_X6_sheetOf (l : Launch) (D : va_G) (κ : Nat → ClassId) (n0 : Nat) (n1 : Nat) (n2 : Nat) (n3 : Nat) (n4 : Nat) (n5 : Nat) (t : Int32) : Cr l yX6_sheetOf (wl yX6_sheetOf cX6_sheetOf 2 (some (.object "TypedTables$Sheet"))) { frames := 1, cells := 0, slots := 0, locals := 20 } D κ [.ref n0, .int t] (va_P D vwCl [(n0, .inr (6, [.ref n1, .ref n2, .ref n3, .ref n4, .ref n5, .int 0])), (n2, .inl (κ 4, 3, .inr (.inr (.inr (.inr (fun _ => none))))))]) (fun _ : Unit => some (.null)) (fun _ : Unit => True) := by
  refine cr_of (by decide +kernel) (Nat.le_of_ble_eq_true rfl) ?_
  intro p e s m args below meth c ls hx hb hr hml hts hown hlk hKK hK hI hl
  have hP : va_P D vwCl [(n0, .inr (6, [.ref n1, .ref n2, .ref n3, .ref n4, .ref n5, .int 0])), (n2, .inl (κ 4, 3, .inr (.inr (.inr (.inr (fun _ => none))))))] s.heap := hI
  have hFX : FX p s m args c cX6_sheetOf 2 RX6 := ⟨hx, hb, hml, hown, hts⟩
  have hl : lv_has ls 2 [(0, .ref n0), (1, .int t)] := hl
  refine lv_iload_n hx hb dX6_sheetOf_0 rfl (lv_at hl 1 rfl) ?_
  refine cr_S (As := [.int t]) (rest := []) hFX hKK (c_X6_isPlace l D κ t) 1 gS_X6_37 hdS_X6_isPlace rfl rfl ⟨Nat.le_of_ble_eq_true rfl, Nat.le_of_ble_eq_true rfl⟩ rfl rfl (Nat.le_of_ble_eq_true rfl) dX6_sheetOf_1 ⟨Nat.le_of_ble_eq_true rfl, Nat.le_of_ble_eq_true rfl⟩ hl.1 (hP.sub [] rfl) (fun r_1 hp_2 => ?_)
  have hp_2 : (r_1 = 1 ∧ ¬ t < 0 ∧ ¬ 3 ≤ t) ∨ (r_1 = 0 ∧ (t < 0 ∨ 3 ≤ t)) := hp_2
  rcases hp_2 with ⟨rfl, a_3, a_4⟩ | ⟨rfl, a_5⟩
  · refine W.eq (g2 := F0 m 4 ls [.int 1]) rfl ?_
    refine lv_if_eq (tgt := 16) hx hb dX6_sheetOf_4 (by decide) (fun c_6 => absurd c_6 (by decide)) (fun c_6 => ?_)
    refine lv_aload_n hx hb dX6_sheetOf_7 rfl (lv_at hl 0 rfl) ?_
    refine va_get (D := D) (ci := 6) (v := .ref n2) (C := RX6) (T := TX6) (N := 6) hx hb hts inlX6 hown hK hP 0 rfl rfl 1 (by decide) (hts _ mw_42) (fun _ h9 => h9) rfl dX6_sheetOf_8 ?_
    refine lv_iload_n hx hb dX6_sheetOf_11 rfl (lv_at hl 1 rfl) ?_
    refine va_aldq hx hb hK hP 1 4 rfl rfl (i := t) (vp_of (M := 3) (n := 3) (by decide) (by assumption) (by assumption)) dX6_sheetOf_12 ?_
    refine kv (v := .null) rfl ?_
    refine lv_goto (tgt := 17) hx hb dX6_sheetOf_13 (by decide) ?_
    exact cr_aret hx hb hr (by first | exact Or.inl ⟨_, rfl⟩ | exact Or.inr ⟨_, rfl⟩) hlk (by first | exact Or.inl rfl | exact Or.inr ⟨_, rfl⟩) () rfl trivial dX6_sheetOf_17
  · refine W.eq (g2 := F0 m 4 ls [.int 0]) rfl ?_
    refine lv_if_eq (tgt := 16) hx hb dX6_sheetOf_4 (by decide) (fun c_7 => ?_) (fun c_7 => absurd (by decide) c_7)
    refine lv_null hx hb dX6_sheetOf_16 ?_
    exact cr_aret hx hb hr (by first | exact Or.inl ⟨_, rfl⟩ | exact Or.inr ⟨_, rfl⟩) hlk (by first | exact Or.inl rfl | exact Or.inr ⟨_, rfl⟩) () rfl trivial dX6_sheetOf_17
set_option maxHeartbeats 4000000 in
set_option maxRecDepth 100000 in
theorem c_X6_topOf (l : Launch) (D : va_G) (κ : Nat → ClassId) (n0 : Nat) (n1 : Nat) (n2 : Nat) (n3 : Nat) (n4 : Nat) (n5 : Nat) (t : Int32) : Cr l yX6_topOf (wl yX6_topOf cX6_topOf 2 (some (.object "TypedTables$View"))) { frames := 1, cells := 0, slots := 0, locals := 20 } D κ [.ref n0, .int t] (va_P D vwCl [(n0, .inr (6, [.ref n1, .ref n2, .ref n3, .ref n4, .ref n5, .int 0])), (n3, .inl (κ 5, 3, .inr (.inr (.inr (.inr (fun _ => none))))))]) (fun _ : Unit => some (.null)) (fun _ : Unit => True) := by
  refine cr_of (by decide +kernel) (Nat.le_of_ble_eq_true rfl) ?_
  intro p e s m args below meth c ls hx hb hr hml hts hown hlk hKK hK hI hl
  have hP : va_P D vwCl [(n0, .inr (6, [.ref n1, .ref n2, .ref n3, .ref n4, .ref n5, .int 0])), (n3, .inl (κ 5, 3, .inr (.inr (.inr (.inr (fun _ => none))))))] s.heap := hI
  have hFX : FX p s m args c cX6_topOf 2 RX6 := ⟨hx, hb, hml, hown, hts⟩
  have hl : lv_has ls 2 [(0, .ref n0), (1, .int t)] := hl
  refine lv_iload_n hx hb dX6_topOf_0 rfl (lv_at hl 1 rfl) ?_
  refine cr_S (As := [.int t]) (rest := []) hFX hKK (c_X6_isPlace l D κ t) 1 gS_X6_37 hdS_X6_isPlace rfl rfl ⟨Nat.le_of_ble_eq_true rfl, Nat.le_of_ble_eq_true rfl⟩ rfl rfl (Nat.le_of_ble_eq_true rfl) dX6_topOf_1 ⟨Nat.le_of_ble_eq_true rfl, Nat.le_of_ble_eq_true rfl⟩ hl.1 (hP.sub [] rfl) (fun r_1 hp_2 => ?_)
  have hp_2 : (r_1 = 1 ∧ ¬ t < 0 ∧ ¬ 3 ≤ t) ∨ (r_1 = 0 ∧ (t < 0 ∨ 3 ≤ t)) := hp_2
  rcases hp_2 with ⟨rfl, a_3, a_4⟩ | ⟨rfl, a_5⟩
  · refine W.eq (g2 := F0 m 4 ls [.int 1]) rfl ?_
    refine lv_if_eq (tgt := 16) hx hb dX6_topOf_4 (by decide) (fun c_6 => absurd c_6 (by decide)) (fun c_6 => ?_)
    refine lv_aload_n hx hb dX6_topOf_7 rfl (lv_at hl 0 rfl) ?_
    refine va_get (D := D) (ci := 6) (v := .ref n3) (C := RX6) (T := TX6) (N := 6) hx hb hts inlX6 hown hK hP 0 rfl rfl 2 (by decide) (hts _ mw_44) (fun _ h9 => h9) rfl dX6_topOf_8 ?_
    refine lv_iload_n hx hb dX6_topOf_11 rfl (lv_at hl 1 rfl) ?_
    refine va_aldq hx hb hK hP 1 5 rfl rfl (i := t) (vp_of (M := 3) (n := 3) (by decide) (by assumption) (by assumption)) dX6_topOf_12 ?_
    refine kv (v := .null) rfl ?_
    refine lv_goto (tgt := 17) hx hb dX6_topOf_13 (by decide) ?_
    exact cr_aret hx hb hr (by first | exact Or.inl ⟨_, rfl⟩ | exact Or.inr ⟨_, rfl⟩) hlk (by first | exact Or.inl rfl | exact Or.inr ⟨_, rfl⟩) () rfl trivial dX6_topOf_17
  · refine W.eq (g2 := F0 m 4 ls [.int 0]) rfl ?_
    refine lv_if_eq (tgt := 16) hx hb dX6_topOf_4 (by decide) (fun c_7 => ?_) (fun c_7 => absurd (by decide) c_7)
    refine lv_null hx hb dX6_topOf_16 ?_
    exact cr_aret hx hb hr (by first | exact Or.inl ⟨_, rfl⟩ | exact Or.inr ⟨_, rfl⟩) hlk (by first | exact Or.inl rfl | exact Or.inr ⟨_, rfl⟩) () rfl trivial dX6_topOf_17
set_option maxHeartbeats 4000000 in
set_option maxRecDepth 100000 in
theorem c_X6_stripOf (l : Launch) (D : va_G) (κ : Nat → ClassId) (n0 : Nat) (n1 : Nat) (n2 : Nat) (n3 : Nat) (n4 : Nat) (n5 : Nat) (t : Int32) (k : Int32) : Cr l yX6_stripOf (wl yX6_stripOf cX6_stripOf 5 (some (.object "TypedTables$Strip"))) { frames := 2, cells := 0, slots := 0, locals := 41 } D κ [.ref n0, .int t, .int k] (va_P D vwCl [(n0, .inr (6, [.ref n1, .ref n2, .ref n3, .ref n4, .ref n5, .int 0])), (n2, .inl (κ 4, 3, .inr (.inr (.inr (.inr (fun _ => none)))))), (n3, .inl (κ 5, 3, .inr (.inr (.inr (.inr (fun _ => none))))))]) (fun _ : Unit => some (.null)) (fun _ : Unit => True) := by
  refine cr_of (by decide +kernel) (Nat.le_of_ble_eq_true rfl) ?_
  intro p e s m args below meth c ls hx hb hr hml hts hown hlk hKK hK hI hl
  have hP : va_P D vwCl [(n0, .inr (6, [.ref n1, .ref n2, .ref n3, .ref n4, .ref n5, .int 0])), (n2, .inl (κ 4, 3, .inr (.inr (.inr (.inr (fun _ => none)))))), (n3, .inl (κ 5, 3, .inr (.inr (.inr (.inr (fun _ => none))))))] s.heap := hI
  have hFX : FX p s m args c cX6_stripOf 5 RX6 := ⟨hx, hb, hml, hown, hts⟩
  have hl : lv_has ls 5 [(0, .ref n0), (1, .int t), (2, .int k)] := hl
  refine lv_aload_n hx hb dX6_stripOf_0 rfl (lv_at hl 0 rfl) ?_
  refine lv_iload_n hx hb dX6_stripOf_1 rfl (lv_at hl 1 rfl) ?_
  refine cr_V (As := [.int t]) (rest := []) hFX hKK (c_X6_sheetOf l D κ n0 n1 n2 n3 n4 n5 t) 1 gV_X6_41 hdV_X6_sheetOf rfl rfl ⟨Nat.le_of_ble_eq_true rfl, Nat.le_of_ble_eq_true rfl⟩ rfl rfl (Nat.le_of_ble_eq_true rfl) dX6_stripOf_2 ⟨Nat.le_of_ble_eq_true rfl, Nat.le_of_ble_eq_true rfl⟩ hl.1 hP 0 6 rfl rfl rfl (hP.sub [0, 1] rfl) (fun _ hp_1 => ?_)
  refine W.eq (g2 := F0 m 5 ls [.null]) rfl ?_
  refine lv_astore_nN (lv' := [(3, .null), (0, .ref n0), (1, .int t), (2, .int k)]) hx hb dX6_stripOf_5 rfl hl (by decide) rfl (fun ls hl => ?_)
  refine lv_aload_n hx hb dX6_stripOf_6 rfl (lv_at hl 1 rfl) ?_
  refine lv_iload_n hx hb dX6_stripOf_7 rfl (lv_at hl 2 rfl) ?_
  refine cr_V (As := [.int t]) (rest := []) hFX hKK (c_X6_topOf l D κ n0 n1 n2 n3 n4 n5 t) 1 gV_X6_45 hdV_X6_topOf rfl rfl ⟨Nat.le_of_ble_eq_true rfl, Nat.le_of_ble_eq_true rfl⟩ rfl rfl (Nat.le_of_ble_eq_true rfl) dX6_stripOf_8 ⟨Nat.le_of_ble_eq_true rfl, Nat.le_of_ble_eq_true rfl⟩ hl.1 hP 0 6 rfl rfl rfl (hP.sub [0, 2] rfl) (fun _ hp_2 => ?_)
  refine W.eq (g2 := F0 m 11 ls [.null]) rfl ?_
  refine lv_astoreN (lv' := [(4, .null), (3, .null), (0, .ref n0), (1, .int t), (2, .int k)]) hx hb dX6_stripOf_11 hl (by decide) rfl (fun ls hl => ?_)
  refine lv_aload_nN hx hb dX6_stripOf_13 rfl (lv_at hl 1 rfl) ?_
  refine lv_ifnullN (tgt := 30) hx hb dX6_stripOf_14 (by decide) ?_
  refine lv_null hx hb dX6_stripOf_30 ?_
  exact cr_aret hx hb hr (by first | exact Or.inl ⟨_, rfl⟩ | exact Or.inr ⟨_, rfl⟩) hlk (by first | exact Or.inl rfl | exact Or.inr ⟨_, rfl⟩) () rfl trivial dX6_stripOf_31
set_option maxHeartbeats 4000000 in
set_option maxRecDepth 100000 in
theorem c_X11_out (l : Launch) (D : va_G) (κ : Nat → ClassId) (x0 : Nat) (n0 : Nat) (t0 : Nat) (f0 : Nat) (r0 : Nat) (w0 : Nat) (k0 : Nat) (n1 : Nat) (n2 : Nat) (n3 : Nat) (n4 : Nat) (n5 : Nat) (za : Int32) (zb : Int32) : Cr l yX11_out (wl yX11_out cX11_out 4 (some .int)) { frames := 2, cells := 0, slots := 0, locals := 41 } D κ [.ref x0, .int za, .int zb] (va_P D vwCl [(x0, .inr (11, [.ref n0, .ref t0, .ref f0, .ref r0, .ref w0, .ref k0, .int 0])), (n0, .inr (6, [.ref n1, .ref n2, .ref n3, .ref n4, .ref n5, .int 0])), (n2, .inl (κ 4, 3, .inr (.inr (.inr (.inr (fun _ => none))))))]) (fun _ : Unit => some (.int (-1))) (fun _ : Unit => True) := by
  refine cr_of (by decide +kernel) (Nat.le_of_ble_eq_true rfl) ?_
  intro p e s m args below meth c ls hx hb hr hml hts hown hlk hKK hK hI hl
  have hP : va_P D vwCl [(x0, .inr (11, [.ref n0, .ref t0, .ref f0, .ref r0, .ref w0, .ref k0, .int 0])), (n0, .inr (6, [.ref n1, .ref n2, .ref n3, .ref n4, .ref n5, .int 0])), (n2, .inl (κ 4, 3, .inr (.inr (.inr (.inr (fun _ => none))))))] s.heap := hI
  have hFX : FX p s m args c cX11_out 4 RX11 := ⟨hx, hb, hml, hown, hts⟩
  have hl : lv_has ls 4 [(0, .ref x0), (1, .int za), (2, .int zb)] := hl
  refine lv_aload_n hx hb dX11_out_0 rfl (lv_at hl 0 rfl) ?_
  refine va_get (D := D) (ci := 11) (v := .ref n0) (C := RX11) (T := TX11) (N := 7) hx hb hts inlX11 hown hK hP 0 rfl rfl 0 (by decide) (hts _ mw_15) (fun _ h9 => h9) rfl dX11_out_1 ?_
  refine lv_iload_n hx hb dX11_out_4 rfl (lv_at hl 1 rfl) ?_
  refine cr_V (As := [.int za]) (rest := []) hFX hKK (c_X6_sheetOf l D κ n0 n1 n2 n3 n4 n5 za) 1 gV_X11_114 hdV_X6_sheetOf rfl rfl ⟨Nat.le_of_ble_eq_true rfl, Nat.le_of_ble_eq_true rfl⟩ rfl rfl (Nat.le_of_ble_eq_true rfl) dX11_out_5 ⟨Nat.le_of_ble_eq_true rfl, Nat.le_of_ble_eq_true rfl⟩ hl.1 hP 1 6 rfl rfl rfl (hP.sub [1, 2] rfl) (fun _ hp_1 => ?_)
  refine W.eq (g2 := F0 m 8 ls [.null]) rfl ?_
  refine lv_astore_nN (lv' := [(3, .null), (0, .ref x0), (1, .int za), (2, .int zb)]) hx hb dX11_out_8 rfl hl (by decide) rfl (fun ls hl => ?_)
  refine lv_aload_nN hx hb dX11_out_9 rfl (lv_at hl 0 rfl) ?_
  refine lv_ifnullN (tgt := 21) hx hb dX11_out_10 (by decide) ?_
  refine lv_iconst (v := (-1)) hx hb dX11_out_21 (by decide) ?_
  exact cr_iret hx hb hr hlk rfl () rfl trivial dX11_out_22
set_option maxHeartbeats 4000000 in
set_option maxRecDepth 100000 in
theorem c_X11_away (l : Launch) (D : va_G) (κ : Nat → ClassId) (x0 : Nat) (n0 : Nat) (t0 : Nat) (f0 : Nat) (r0 : Nat) (w0 : Nat) (k0 : Nat) (n1 : Nat) (n2 : Nat) (n3 : Nat) (n4 : Nat) (n5 : Nat) (za : Int32) (zb : Int32) : Cr l yX11_away (wl yX11_away cX11_away 4 (some .int)) { frames := 2, cells := 0, slots := 0, locals := 41 } D κ [.ref x0, .int za, .int zb] (va_P D vwCl [(x0, .inr (11, [.ref n0, .ref t0, .ref f0, .ref r0, .ref w0, .ref k0, .int 0])), (n0, .inr (6, [.ref n1, .ref n2, .ref n3, .ref n4, .ref n5, .int 0])), (n2, .inl (κ 4, 3, .inr (.inr (.inr (.inr (fun _ => none))))))]) (fun _ : Unit => some (.int (-1))) (fun _ : Unit => True) := by
  refine cr_of (by decide +kernel) (Nat.le_of_ble_eq_true rfl) ?_
  intro p e s m args below meth c ls hx hb hr hml hts hown hlk hKK hK hI hl
  have hP : va_P D vwCl [(x0, .inr (11, [.ref n0, .ref t0, .ref f0, .ref r0, .ref w0, .ref k0, .int 0])), (n0, .inr (6, [.ref n1, .ref n2, .ref n3, .ref n4, .ref n5, .int 0])), (n2, .inl (κ 4, 3, .inr (.inr (.inr (.inr (fun _ => none))))))] s.heap := hI
  have hFX : FX p s m args c cX11_away 4 RX11 := ⟨hx, hb, hml, hown, hts⟩
  have hl : lv_has ls 4 [(0, .ref x0), (1, .int za), (2, .int zb)] := hl
  refine lv_aload_n hx hb dX11_away_0 rfl (lv_at hl 0 rfl) ?_
  refine va_get (D := D) (ci := 11) (v := .ref n0) (C := RX11) (T := TX11) (N := 7) hx hb hts inlX11 hown hK hP 0 rfl rfl 0 (by decide) (hts _ mw_15) (fun _ h9 => h9) rfl dX11_away_1 ?_
  refine lv_iload_n hx hb dX11_away_4 rfl (lv_at hl 1 rfl) ?_
  refine cr_V (As := [.int za]) (rest := []) hFX hKK (c_X6_sheetOf l D κ n0 n1 n2 n3 n4 n5 za) 1 gV_X11_114 hdV_X6_sheetOf rfl rfl ⟨Nat.le_of_ble_eq_true rfl, Nat.le_of_ble_eq_true rfl⟩ rfl rfl (Nat.le_of_ble_eq_true rfl) dX11_away_5 ⟨Nat.le_of_ble_eq_true rfl, Nat.le_of_ble_eq_true rfl⟩ hl.1 hP 1 6 rfl rfl rfl (hP.sub [1, 2] rfl) (fun _ hp_1 => ?_)
  refine W.eq (g2 := F0 m 8 ls [.null]) rfl ?_
  refine lv_astore_nN (lv' := [(3, .null), (0, .ref x0), (1, .int za), (2, .int zb)]) hx hb dX11_away_8 rfl hl (by decide) rfl (fun ls hl => ?_)
  refine lv_aload_nN hx hb dX11_away_9 rfl (lv_at hl 0 rfl) ?_
  refine lv_ifnullN (tgt := 30) hx hb dX11_away_10 (by decide) ?_
  refine lv_iconst (v := (-1)) hx hb dX11_away_30 (by decide) ?_
  exact cr_iret hx hb hr hlk rfl () rfl trivial dX11_away_31
set_option maxHeartbeats 4000000 in
set_option maxRecDepth 100000 in
theorem c_X11_type (l : Launch) (D : va_G) (κ : Nat → ClassId) (x0 : Nat) (n0 : Nat) (t0 : Nat) (f0 : Nat) (r0 : Nat) (w0 : Nat) (k0 : Nat) (n1 : Nat) (n2 : Nat) (n3 : Nat) (n4 : Nat) (n5 : Nat) (za : Int32) (zb : Int32) (zc : Int32) : Cr l yX11_type (wl yX11_type cX11_type 5 (some .boolean)) { frames := 2, cells := 0, slots := 0, locals := 41 } D κ [.ref x0, .int za, .int zb, .int zc] (va_P D vwCl [(x0, .inr (11, [.ref n0, .ref t0, .ref f0, .ref r0, .ref w0, .ref k0, .int 0])), (n0, .inr (6, [.ref n1, .ref n2, .ref n3, .ref n4, .ref n5, .int 0])), (n2, .inl (κ 4, 3, .inr (.inr (.inr (.inr (fun _ => none))))))]) (fun _ : Unit => some (.int 0)) (fun _ : Unit => True) := by
  refine cr_of (by decide +kernel) (Nat.le_of_ble_eq_true rfl) ?_
  intro p e s m args below meth c ls hx hb hr hml hts hown hlk hKK hK hI hl
  have hP : va_P D vwCl [(x0, .inr (11, [.ref n0, .ref t0, .ref f0, .ref r0, .ref w0, .ref k0, .int 0])), (n0, .inr (6, [.ref n1, .ref n2, .ref n3, .ref n4, .ref n5, .int 0])), (n2, .inl (κ 4, 3, .inr (.inr (.inr (.inr (fun _ => none))))))] s.heap := hI
  have hFX : FX p s m args c cX11_type 5 RX11 := ⟨hx, hb, hml, hown, hts⟩
  have hl : lv_has ls 5 [(0, .ref x0), (1, .int za), (2, .int zb), (3, .int zc)] := hl
  refine lv_aload_n hx hb dX11_type_0 rfl (lv_at hl 0 rfl) ?_
  refine va_get (D := D) (ci := 11) (v := .ref n0) (C := RX11) (T := TX11) (N := 7) hx hb hts inlX11 hown hK hP 0 rfl rfl 0 (by decide) (hts _ mw_15) (fun _ h9 => h9) rfl dX11_type_1 ?_
  refine lv_iload_n hx hb dX11_type_4 rfl (lv_at hl 1 rfl) ?_
  refine cr_V (As := [.int za]) (rest := []) hFX hKK (c_X6_sheetOf l D κ n0 n1 n2 n3 n4 n5 za) 1 gV_X11_114 hdV_X6_sheetOf rfl rfl ⟨Nat.le_of_ble_eq_true rfl, Nat.le_of_ble_eq_true rfl⟩ rfl rfl (Nat.le_of_ble_eq_true rfl) dX11_type_5 ⟨Nat.le_of_ble_eq_true rfl, Nat.le_of_ble_eq_true rfl⟩ hl.1 hP 1 6 rfl rfl rfl (hP.sub [1, 2] rfl) (fun _ hp_1 => ?_)
  refine W.eq (g2 := F0 m 8 ls [.null]) rfl ?_
  refine lv_astoreN (lv' := [(4, .null), (0, .ref x0), (1, .int za), (2, .int zb), (3, .int zc)]) hx hb dX11_type_8 hl (by decide) rfl (fun ls hl => ?_)
  refine lv_aloadN hx hb dX11_type_10 (lv_at hl 0 rfl) ?_
  refine lv_ifnullN (tgt := 34) hx hb dX11_type_12 (by decide) ?_
  refine lv_iconst (v := 0) hx hb dX11_type_34 (by decide) ?_
  exact cr_iret hx hb hr hlk rfl () rfl trivial dX11_type_35
set_option maxHeartbeats 4000000 in
set_option maxRecDepth 100000 in
theorem c_X11_joined (l : Launch) (D : va_G) (κ : Nat → ClassId) (x0 : Nat) (n0 : Nat) (t0 : Nat) (f0 : Nat) (r0 : Nat) (w0 : Nat) (k0 : Nat) (n1 : Nat) (n2 : Nat) (n3 : Nat) (n4 : Nat) (n5 : Nat) (za : Int32) (zb : Int32) (zc : Int32) (zd : Int32) (ze : Int32) : Cr l yX11_joined (wl yX11_joined cX11_joined 9 (some .int)) { frames := 3, cells := 0, slots := 0, locals := 65 } D κ [.ref x0, .int za, .int zb, .int zc, .int zd, .int ze] (va_P D vwCl [(x0, .inr (11, [.ref n0, .ref t0, .ref f0, .ref r0, .ref w0, .ref k0, .int 0])), (n0, .inr (6, [.ref n1, .ref n2, .ref n3, .ref n4, .ref n5, .int 0])), (n2, .inl (κ 4, 3, .inr (.inr (.inr (.inr (fun _ => none)))))), (n3, .inl (κ 5, 3, .inr (.inr (.inr (.inr (fun _ => none))))))]) (fun _ : Unit => some (.int (-1))) (fun _ : Unit => True) := by
  refine cr_of (by decide +kernel) (Nat.le_of_ble_eq_true rfl) ?_
  intro p e s m args below meth c ls hx hb hr hml hts hown hlk hKK hK hI hl
  have hP : va_P D vwCl [(x0, .inr (11, [.ref n0, .ref t0, .ref f0, .ref r0, .ref w0, .ref k0, .int 0])), (n0, .inr (6, [.ref n1, .ref n2, .ref n3, .ref n4, .ref n5, .int 0])), (n2, .inl (κ 4, 3, .inr (.inr (.inr (.inr (fun _ => none)))))), (n3, .inl (κ 5, 3, .inr (.inr (.inr (.inr (fun _ => none))))))] s.heap := hI
  have hFX : FX p s m args c cX11_joined 9 RX11 := ⟨hx, hb, hml, hown, hts⟩
  have hl : lv_has ls 9 [(0, .ref x0), (1, .int za), (2, .int zb), (3, .int zc), (4, .int zd), (5, .int ze)] := hl
  refine lv_aload_n hx hb dX11_joined_0 rfl (lv_at hl 0 rfl) ?_
  refine va_get (D := D) (ci := 11) (v := .ref n0) (C := RX11) (T := TX11) (N := 7) hx hb hts inlX11 hown hK hP 0 rfl rfl 0 (by decide) (hts _ mw_15) (fun _ h9 => h9) rfl dX11_joined_1 ?_
  refine lv_iload_n hx hb dX11_joined_4 rfl (lv_at hl 1 rfl) ?_
  refine lv_iload_n hx hb dX11_joined_5 rfl (lv_at hl 2 rfl) ?_
  refine cr_V (As := [.int za, .int zb]) (rest := []) hFX hKK (c_X6_stripOf l D κ n0 n1 n2 n3 n4 n5 za zb) 2 gV_X11_189 hdV_X6_stripOf rfl rfl ⟨Nat.le_of_ble_eq_true rfl, Nat.le_of_ble_eq_true rfl⟩ rfl rfl (Nat.le_of_ble_eq_true rfl) dX11_joined_6 ⟨Nat.le_of_ble_eq_true rfl, Nat.le_of_ble_eq_true rfl⟩ hl.1 hP 1 6 rfl rfl rfl (hP.sub [1, 2, 3] rfl) (fun _ hp_1 => ?_)
  refine W.eq (g2 := F0 m 9 ls [.null]) rfl ?_
  refine lv_astoreN (lv' := [(6, .null), (0, .ref x0), (1, .int za), (2, .int zb), (3, .int zc), (4, .int zd), (5, .int ze)]) hx hb dX11_joined_9 hl (by decide) rfl (fun ls hl => ?_)
  refine lv_aload_n hx hb dX11_joined_11 rfl (lv_at hl 1 rfl) ?_
  refine va_get (D := D) (ci := 11) (v := .ref n0) (C := RX11) (T := TX11) (N := 7) hx hb hts inlX11 hown hK hP 0 rfl rfl 0 (by decide) (hts _ mw_15) (fun _ h9 => h9) rfl dX11_joined_12 ?_
  refine lv_iload_n hx hb dX11_joined_15 rfl (lv_at hl 4 rfl) ?_
  refine lv_iload hx hb dX11_joined_16 (lv_at hl 5 rfl) ?_
  refine cr_V (As := [.int zc, .int zd]) (rest := []) hFX hKK (c_X6_stripOf l D κ n0 n1 n2 n3 n4 n5 zc zd) 2 gV_X11_189 hdV_X6_stripOf rfl rfl ⟨Nat.le_of_ble_eq_true rfl, Nat.le_of_ble_eq_true rfl⟩ rfl rfl (Nat.le_of_ble_eq_true rfl) dX11_joined_18 ⟨Nat.le_of_ble_eq_true rfl, Nat.le_of_ble_eq_true rfl⟩ hl.1 hP 1 6 rfl rfl rfl (hP.sub [1, 2, 3] rfl) (fun _ hp_2 => ?_)
  refine W.eq (g2 := F0 m 21 ls [.null]) rfl ?_
  refine lv_astoreN (lv' := [(7, .null), (6, .null), (0, .ref x0), (1, .int za), (2, .int zb), (3, .int zc), (4, .int zd), (5, .int ze)]) hx hb dX11_joined_21 hl (by decide) rfl (fun ls hl => ?_)
  refine lv_aloadN hx hb dX11_joined_23 (lv_at hl 1 rfl) ?_
  refine lv_ifnullN (tgt := 53) hx hb dX11_joined_25 (by decide) ?_
  refine lv_iconst (v := (-1)) hx hb dX11_joined_53 (by decide) ?_
  exact cr_iret hx hb hr hlk rfl () rfl trivial dX11_joined_54
set_option maxHeartbeats 4000000 in
set_option maxRecDepth 100000 in
theorem c_X11_undo (l : Launch) (D : va_G) (κ : Nat → ClassId) (x0 : Nat) (n0 : Nat) (t0 : Nat) (f0 : Nat) (r0 : Nat) (w0 : Nat) (k0 : Nat) (n1 : Nat) (n2 : Nat) (n3 : Nat) (n4 : Nat) (n5 : Nat) : Cr l yX11_undo (wl yX11_undo cX11_undo 1 (some .int)) { frames := 0, cells := 0, slots := 0, locals := 0 } D κ [.ref x0] (va_P D vwCl [(x0, .inr (11, [.ref n0, .ref t0, .ref f0, .ref r0, .ref w0, .ref k0, .int 0])), (n0, .inr (6, [.ref n1, .ref n2, .ref n3, .ref n4, .ref n5, .int 0]))]) (fun _ : Unit => some (.int (-1))) (fun _ : Unit => True) := by
  refine cr_of (by decide +kernel) (Nat.le_of_ble_eq_true rfl) ?_
  intro p e s m args below meth c ls hx hb hr hml hts hown hlk hKK hK hI hl
  have hP : va_P D vwCl [(x0, .inr (11, [.ref n0, .ref t0, .ref f0, .ref r0, .ref w0, .ref k0, .int 0])), (n0, .inr (6, [.ref n1, .ref n2, .ref n3, .ref n4, .ref n5, .int 0]))] s.heap := hI
  have hFX : FX p s m args c cX11_undo 1 RX11 := ⟨hx, hb, hml, hown, hts⟩
  have hl : lv_has ls 1 [(0, .ref x0)] := hl
  refine lv_aload_n hx hb dX11_undo_0 rfl (lv_at hl 0 rfl) ?_
  refine va_get (D := D) (ci := 11) (v := .ref n0) (C := RX11) (T := TX11) (N := 7) hx hb hts inlX11 hown hK hP 0 rfl rfl 0 (by decide) (hts _ mw_15) (fun _ h9 => h9) rfl dX11_undo_1 ?_
  refine va_get (D := D) (ci := 6) (v := .int 0) (C := RX6) (T := TX6) (N := 6) hx hb hts inlX6 hown hK hP 1 rfl rfl 5 (by decide) (hts _ mw_969) (fun _ h9 => h9) rfl dX11_undo_4 ?_
  refine lv_if_ne (tgt := 12) hx hb dX11_undo_7 (by decide) (fun c_1 => absurd (by decide) c_1) (fun c_1 => ?_)
  refine lv_iconst (v := (-1)) hx hb dX11_undo_10 (by decide) ?_
  exact cr_iret hx hb hr hlk rfl () rfl trivial dX11_undo_11
set_option maxHeartbeats 4000000 in
set_option maxRecDepth 100000 in
theorem c_X11_order (l : Launch) (D : va_G) (κ : Nat → ClassId) (x0 : Nat) (n0 : Nat) (t0 : Nat) (f0 : Nat) (r0 : Nat) (w0 : Nat) (k0 : Nat) (n1 : Nat) (n2 : Nat) (n3 : Nat) (n4 : Nat) (n5 : Nat) (za : Int32) (zb : Int32) (zc : Int32) : Cr l yX11_order (wl yX11_order cX11_order 5 (some .int)) { frames := 3, cells := 0, slots := 0, locals := 65 } D κ [.ref x0, .int za, .int zb, .int zc] (va_P D vwCl [(x0, .inr (11, [.ref n0, .ref t0, .ref f0, .ref r0, .ref w0, .ref k0, .int 0])), (n0, .inr (6, [.ref n1, .ref n2, .ref n3, .ref n4, .ref n5, .int 0])), (n2, .inl (κ 4, 3, .inr (.inr (.inr (.inr (fun _ => none)))))), (n3, .inl (κ 5, 3, .inr (.inr (.inr (.inr (fun _ => none))))))]) (fun _ : Unit => some (.int (-1))) (fun _ : Unit => True) := by
  refine cr_of (by decide +kernel) (Nat.le_of_ble_eq_true rfl) ?_
  intro p e s m args below meth c ls hx hb hr hml hts hown hlk hKK hK hI hl
  have hP : va_P D vwCl [(x0, .inr (11, [.ref n0, .ref t0, .ref f0, .ref r0, .ref w0, .ref k0, .int 0])), (n0, .inr (6, [.ref n1, .ref n2, .ref n3, .ref n4, .ref n5, .int 0])), (n2, .inl (κ 4, 3, .inr (.inr (.inr (.inr (fun _ => none)))))), (n3, .inl (κ 5, 3, .inr (.inr (.inr (.inr (fun _ => none))))))] s.heap := hI
  have hFX : FX p s m args c cX11_order 5 RX11 := ⟨hx, hb, hml, hown, hts⟩
  have hl : lv_has ls 5 [(0, .ref x0), (1, .int za), (2, .int zb), (3, .int zc)] := hl
  refine lv_aload_n hx hb dX11_order_0 rfl (lv_at hl 0 rfl) ?_
  refine va_get (D := D) (ci := 11) (v := .ref n0) (C := RX11) (T := TX11) (N := 7) hx hb hts inlX11 hown hK hP 0 rfl rfl 0 (by decide) (hts _ mw_15) (fun _ h9 => h9) rfl dX11_order_1 ?_
  refine lv_iload_n hx hb dX11_order_4 rfl (lv_at hl 1 rfl) ?_
  refine lv_iload_n hx hb dX11_order_5 rfl (lv_at hl 2 rfl) ?_
  refine cr_V (As := [.int za, .int zb]) (rest := []) hFX hKK (c_X6_stripOf l D κ n0 n1 n2 n3 n4 n5 za zb) 2 gV_X11_189 hdV_X6_stripOf rfl rfl ⟨Nat.le_of_ble_eq_true rfl, Nat.le_of_ble_eq_true rfl⟩ rfl rfl (Nat.le_of_ble_eq_true rfl) dX11_order_6 ⟨Nat.le_of_ble_eq_true rfl, Nat.le_of_ble_eq_true rfl⟩ hl.1 hP 1 6 rfl rfl rfl (hP.sub [1, 2, 3] rfl) (fun _ hp_1 => ?_)
  refine W.eq (g2 := F0 m 9 ls [.null]) rfl ?_
  refine lv_astoreN (lv' := [(4, .null), (0, .ref x0), (1, .int za), (2, .int zb), (3, .int zc)]) hx hb dX11_order_9 hl (by decide) rfl (fun ls hl => ?_)
  refine lv_aloadN hx hb dX11_order_11 (lv_at hl 0 rfl) ?_
  refine lv_ifnullN (tgt := 27) hx hb dX11_order_13 (by decide) ?_
  refine lv_iconst (v := (-1)) hx hb dX11_order_27 (by decide) ?_
  exact cr_iret hx hb hr hlk rfl () rfl trivial dX11_order_28
set_option maxHeartbeats 4000000 in
set_option maxRecDepth 100000 in
theorem c_X11_cut (l : Launch) (D : va_G) (κ : Nat → ClassId) (x0 : Nat) (n0 : Nat) (t0 : Nat) (f0 : Nat) (r0 : Nat) (w0 : Nat) (k0 : Nat) (n1 : Nat) (n2 : Nat) (n3 : Nat) (n4 : Nat) (n5 : Nat) (za : Int32) (zb : Int32) (zc : Int32) : Cr l yX11_cut (wl yX11_cut cX11_cut 7 (some .int)) { frames := 2, cells := 0, slots := 0, locals := 41 } D κ [.ref x0, .int za, .int zb, .int zc] (va_P D vwCl [(x0, .inr (11, [.ref n0, .ref t0, .ref f0, .ref r0, .ref w0, .ref k0, .int 0])), (n0, .inr (6, [.ref n1, .ref n2, .ref n3, .ref n4, .ref n5, .int 0])), (n3, .inl (κ 5, 3, .inr (.inr (.inr (.inr (fun _ => none))))))]) (fun _ : Unit => some (.int (-1))) (fun _ : Unit => True) := by
  refine cr_of (by decide +kernel) (Nat.le_of_ble_eq_true rfl) ?_
  intro p e s m args below meth c ls hx hb hr hml hts hown hlk hKK hK hI hl
  have hP : va_P D vwCl [(x0, .inr (11, [.ref n0, .ref t0, .ref f0, .ref r0, .ref w0, .ref k0, .int 0])), (n0, .inr (6, [.ref n1, .ref n2, .ref n3, .ref n4, .ref n5, .int 0])), (n3, .inl (κ 5, 3, .inr (.inr (.inr (.inr (fun _ => none))))))] s.heap := hI
  have hFX : FX p s m args c cX11_cut 7 RX11 := ⟨hx, hb, hml, hown, hts⟩
  have hl : lv_has ls 7 [(0, .ref x0), (1, .int za), (2, .int zb), (3, .int zc)] := hl
  refine lv_aload_n hx hb dX11_cut_0 rfl (lv_at hl 0 rfl) ?_
  refine va_get (D := D) (ci := 11) (v := .ref n0) (C := RX11) (T := TX11) (N := 7) hx hb hts inlX11 hown hK hP 0 rfl rfl 0 (by decide) (hts _ mw_15) (fun _ h9 => h9) rfl dX11_cut_1 ?_
  refine lv_iload_n hx hb dX11_cut_4 rfl (lv_at hl 1 rfl) ?_
  refine cr_V (As := [.int za]) (rest := []) hFX hKK (c_X6_topOf l D κ n0 n1 n2 n3 n4 n5 za) 1 gV_X11_231 hdV_X6_topOf rfl rfl ⟨Nat.le_of_ble_eq_true rfl, Nat.le_of_ble_eq_true rfl⟩ rfl rfl (Nat.le_of_ble_eq_true rfl) dX11_cut_5 ⟨Nat.le_of_ble_eq_true rfl, Nat.le_of_ble_eq_true rfl⟩ hl.1 hP 1 6 rfl rfl rfl (hP.sub [1, 2] rfl) (fun _ hp_1 => ?_)
  refine W.eq (g2 := F0 m 8 ls [.null]) rfl ?_
  refine lv_astoreN (lv' := [(4, .null), (0, .ref x0), (1, .int za), (2, .int zb), (3, .int zc)]) hx hb dX11_cut_8 hl (by decide) rfl (fun ls hl => ?_)
  refine lv_aloadN hx hb dX11_cut_10 (lv_at hl 0 rfl) ?_
  refine lv_ifnullN (tgt := 34) hx hb dX11_cut_12 (by decide) ?_
  refine lv_iconst (v := (-1)) hx hb dX11_cut_34 (by decide) ?_
  exact cr_iret hx hb hr hlk rfl () rfl trivial dX11_cut_35
set_option maxHeartbeats 4000000 in
set_option maxRecDepth 100000 in
theorem c_X11_unlike (l : Launch) (D : va_G) (κ : Nat → ClassId) (x0 : Nat) (n0 : Nat) (t0 : Nat) (f0 : Nat) (r0 : Nat) (w0 : Nat) (k0 : Nat) (n1 : Nat) (n2 : Nat) (n3 : Nat) (n4 : Nat) (n5 : Nat) (za : Int32) (zb : Int32) : Cr l yX11_unlike (wl yX11_unlike cX11_unlike 4 (some .int)) { frames := 3, cells := 0, slots := 0, locals := 65 } D κ [.ref x0, .int za, .int zb] (va_P D vwCl [(x0, .inr (11, [.ref n0, .ref t0, .ref f0, .ref r0, .ref w0, .ref k0, .int 0])), (n0, .inr (6, [.ref n1, .ref n2, .ref n3, .ref n4, .ref n5, .int 0])), (n2, .inl (κ 4, 3, .inr (.inr (.inr (.inr (fun _ => none)))))), (n3, .inl (κ 5, 3, .inr (.inr (.inr (.inr (fun _ => none))))))]) (fun _ : Unit => some (.int (-1))) (fun _ : Unit => True) := by
  refine cr_of (by decide +kernel) (Nat.le_of_ble_eq_true rfl) ?_
  intro p e s m args below meth c ls hx hb hr hml hts hown hlk hKK hK hI hl
  have hP : va_P D vwCl [(x0, .inr (11, [.ref n0, .ref t0, .ref f0, .ref r0, .ref w0, .ref k0, .int 0])), (n0, .inr (6, [.ref n1, .ref n2, .ref n3, .ref n4, .ref n5, .int 0])), (n2, .inl (κ 4, 3, .inr (.inr (.inr (.inr (fun _ => none)))))), (n3, .inl (κ 5, 3, .inr (.inr (.inr (.inr (fun _ => none))))))] s.heap := hI
  have hFX : FX p s m args c cX11_unlike 4 RX11 := ⟨hx, hb, hml, hown, hts⟩
  have hl : lv_has ls 4 [(0, .ref x0), (1, .int za), (2, .int zb)] := hl
  refine lv_aload_n hx hb dX11_unlike_0 rfl (lv_at hl 0 rfl) ?_
  refine va_get (D := D) (ci := 11) (v := .ref n0) (C := RX11) (T := TX11) (N := 7) hx hb hts inlX11 hown hK hP 0 rfl rfl 0 (by decide) (hts _ mw_15) (fun _ h9 => h9) rfl dX11_unlike_1 ?_
  refine lv_iload_n hx hb dX11_unlike_4 rfl (lv_at hl 1 rfl) ?_
  refine lv_iload_n hx hb dX11_unlike_5 rfl (lv_at hl 2 rfl) ?_
  refine cr_V (As := [.int za, .int zb]) (rest := []) hFX hKK (c_X6_stripOf l D κ n0 n1 n2 n3 n4 n5 za zb) 2 gV_X11_189 hdV_X6_stripOf rfl rfl ⟨Nat.le_of_ble_eq_true rfl, Nat.le_of_ble_eq_true rfl⟩ rfl rfl (Nat.le_of_ble_eq_true rfl) dX11_unlike_6 ⟨Nat.le_of_ble_eq_true rfl, Nat.le_of_ble_eq_true rfl⟩ hl.1 hP 1 6 rfl rfl rfl (hP.sub [1, 2, 3] rfl) (fun _ hp_1 => ?_)
  refine W.eq (g2 := F0 m 9 ls [.null]) rfl ?_
  refine lv_astore_nN (lv' := [(3, .null), (0, .ref x0), (1, .int za), (2, .int zb)]) hx hb dX11_unlike_9 rfl hl (by decide) rfl (fun ls hl => ?_)
  refine lv_aload_nN hx hb dX11_unlike_10 rfl (lv_at hl 0 rfl) ?_
  refine lv_ifnullN (tgt := 25) hx hb dX11_unlike_11 (by decide) ?_
  refine lv_iconst (v := (-1)) hx hb dX11_unlike_25 (by decide) ?_
  exact cr_iret hx hb hr hlk rfl () rfl trivial dX11_unlike_26
set_option maxHeartbeats 4000000 in
set_option maxRecDepth 100000 in
theorem c_X11_back (l : Launch) (D : va_G) (κ : Nat → ClassId) (x0 : Nat) (n0 : Nat) (t0 : Nat) (f0 : Nat) (r0 : Nat) (w0 : Nat) (k0 : Nat) (n1 : Nat) (n2 : Nat) (n3 : Nat) (n4 : Nat) (n5 : Nat) (za : Int32) : Cr l yX11_back (wl yX11_back cX11_back 3 (some .int)) { frames := 2, cells := 0, slots := 0, locals := 41 } D κ [.ref x0, .int za] (va_P D vwCl [(x0, .inr (11, [.ref n0, .ref t0, .ref f0, .ref r0, .ref w0, .ref k0, .int 0])), (n0, .inr (6, [.ref n1, .ref n2, .ref n3, .ref n4, .ref n5, .int 0])), (n3, .inl (κ 5, 3, .inr (.inr (.inr (.inr (fun _ => none))))))]) (fun _ : Unit => some (.int (-1))) (fun _ : Unit => True) := by
  refine cr_of (by decide +kernel) (Nat.le_of_ble_eq_true rfl) ?_
  intro p e s m args below meth c ls hx hb hr hml hts hown hlk hKK hK hI hl
  have hP : va_P D vwCl [(x0, .inr (11, [.ref n0, .ref t0, .ref f0, .ref r0, .ref w0, .ref k0, .int 0])), (n0, .inr (6, [.ref n1, .ref n2, .ref n3, .ref n4, .ref n5, .int 0])), (n3, .inl (κ 5, 3, .inr (.inr (.inr (.inr (fun _ => none))))))] s.heap := hI
  have hFX : FX p s m args c cX11_back 3 RX11 := ⟨hx, hb, hml, hown, hts⟩
  have hl : lv_has ls 3 [(0, .ref x0), (1, .int za)] := hl
  refine lv_aload_n hx hb dX11_back_0 rfl (lv_at hl 0 rfl) ?_
  refine va_get (D := D) (ci := 11) (v := .ref n0) (C := RX11) (T := TX11) (N := 7) hx hb hts inlX11 hown hK hP 0 rfl rfl 0 (by decide) (hts _ mw_15) (fun _ h9 => h9) rfl dX11_back_1 ?_
  refine lv_iload_n hx hb dX11_back_4 rfl (lv_at hl 1 rfl) ?_
  refine cr_V (As := [.int za]) (rest := []) hFX hKK (c_X6_topOf l D κ n0 n1 n2 n3 n4 n5 za) 1 gV_X11_231 hdV_X6_topOf rfl rfl ⟨Nat.le_of_ble_eq_true rfl, Nat.le_of_ble_eq_true rfl⟩ rfl rfl (Nat.le_of_ble_eq_true rfl) dX11_back_5 ⟨Nat.le_of_ble_eq_true rfl, Nat.le_of_ble_eq_true rfl⟩ hl.1 hP 1 6 rfl rfl rfl (hP.sub [1, 2] rfl) (fun _ hp_1 => ?_)
  refine W.eq (g2 := F0 m 8 ls [.null]) rfl ?_
  refine lv_astore_nN (lv' := [(2, .null), (0, .ref x0), (1, .int za)]) hx hb dX11_back_8 rfl hl (by decide) rfl (fun ls hl => ?_)
  refine lv_aload_nN hx hb dX11_back_9 rfl (lv_at hl 0 rfl) ?_
  refine lv_ifnullN (tgt := 20) hx hb dX11_back_10 (by decide) ?_
  refine lv_iconst (v := (-1)) hx hb dX11_back_20 (by decide) ?_
  exact cr_iret hx hb hr hlk rfl () rfl trivial dX11_back_21
set_option maxHeartbeats 4000000 in
set_option maxRecDepth 100000 in
theorem c_X11_view (l : Launch) (D : va_G) (κ : Nat → ClassId) (x0 : Nat) (n0 : Nat) (t0 : Nat) (f0 : Nat) (r0 : Nat) (w0 : Nat) (k0 : Nat) (n1 : Nat) (n2 : Nat) (n3 : Nat) (n4 : Nat) (n5 : Nat) (za : Int32) (zb : Int32) : Cr l yX11_view (wl yX11_view cX11_view 4 (some .int)) { frames := 2, cells := 0, slots := 0, locals := 41 } D κ [.ref x0, .int za, .int zb] (va_P D vwCl [(x0, .inr (11, [.ref n0, .ref t0, .ref f0, .ref r0, .ref w0, .ref k0, .int 0])), (n0, .inr (6, [.ref n1, .ref n2, .ref n3, .ref n4, .ref n5, .int 0])), (n3, .inl (κ 5, 3, .inr (.inr (.inr (.inr (fun _ => none))))))]) (fun _ : Unit => some (.int (-1))) (fun _ : Unit => True) := by
  refine cr_of (by decide +kernel) (Nat.le_of_ble_eq_true rfl) ?_
  intro p e s m args below meth c ls hx hb hr hml hts hown hlk hKK hK hI hl
  have hP : va_P D vwCl [(x0, .inr (11, [.ref n0, .ref t0, .ref f0, .ref r0, .ref w0, .ref k0, .int 0])), (n0, .inr (6, [.ref n1, .ref n2, .ref n3, .ref n4, .ref n5, .int 0])), (n3, .inl (κ 5, 3, .inr (.inr (.inr (.inr (fun _ => none))))))] s.heap := hI
  have hFX : FX p s m args c cX11_view 4 RX11 := ⟨hx, hb, hml, hown, hts⟩
  have hl : lv_has ls 4 [(0, .ref x0), (1, .int za), (2, .int zb)] := hl
  refine lv_aload_n hx hb dX11_view_0 rfl (lv_at hl 0 rfl) ?_
  refine va_get (D := D) (ci := 11) (v := .ref n0) (C := RX11) (T := TX11) (N := 7) hx hb hts inlX11 hown hK hP 0 rfl rfl 0 (by decide) (hts _ mw_15) (fun _ h9 => h9) rfl dX11_view_1 ?_
  refine lv_iload_n hx hb dX11_view_4 rfl (lv_at hl 1 rfl) ?_
  refine cr_V (As := [.int za]) (rest := []) hFX hKK (c_X6_topOf l D κ n0 n1 n2 n3 n4 n5 za) 1 gV_X11_231 hdV_X6_topOf rfl rfl ⟨Nat.le_of_ble_eq_true rfl, Nat.le_of_ble_eq_true rfl⟩ rfl rfl (Nat.le_of_ble_eq_true rfl) dX11_view_5 ⟨Nat.le_of_ble_eq_true rfl, Nat.le_of_ble_eq_true rfl⟩ hl.1 hP 1 6 rfl rfl rfl (hP.sub [1, 2] rfl) (fun _ hp_1 => ?_)
  refine W.eq (g2 := F0 m 8 ls [.null]) rfl ?_
  refine lv_astore_nN (lv' := [(3, .null), (0, .ref x0), (1, .int za), (2, .int zb)]) hx hb dX11_view_8 rfl hl (by decide) rfl (fun ls hl => ?_)
  refine lv_aload_nN hx hb dX11_view_9 rfl (lv_at hl 0 rfl) ?_
  refine lv_ifnonnullN hx hb dX11_view_10 ?_
  refine lv_iconst (v := (-1)) hx hb dX11_view_13 (by decide) ?_
  exact cr_iret hx hb hr hlk rfl () rfl trivial dX11_view_14
set_option maxHeartbeats 4000000 in
set_option maxRecDepth 100000 in
theorem c_X11_table (l : Launch) (D : va_G) (κ : Nat → ClassId) (x0 : Nat) (n0 : Nat) (t0 : Nat) (f0 : Nat) (r0 : Nat) (w0 : Nat) (k0 : Nat) (n1 : Nat) (n2 : Nat) (n3 : Nat) (n4 : Nat) (n5 : Nat) (za : Int32) (zb : Int32) : Cr l yX11_table (wl yX11_table cX11_table 5 (some .int)) { frames := 2, cells := 0, slots := 0, locals := 41 } D κ [.ref x0, .int za, .int zb] (va_P D vwCl [(x0, .inr (11, [.ref n0, .ref t0, .ref f0, .ref r0, .ref w0, .ref k0, .int 0])), (n0, .inr (6, [.ref n1, .ref n2, .ref n3, .ref n4, .ref n5, .int 0])), (n2, .inl (κ 4, 3, .inr (.inr (.inr (.inr (fun _ => none)))))), (n3, .inl (κ 5, 3, .inr (.inr (.inr (.inr (fun _ => none))))))]) (fun _ : Unit => some (.int (-1))) (fun _ : Unit => True) := by
  refine cr_of (by decide +kernel) (Nat.le_of_ble_eq_true rfl) ?_
  intro p e s m args below meth c ls hx hb hr hml hts hown hlk hKK hK hI hl
  have hP : va_P D vwCl [(x0, .inr (11, [.ref n0, .ref t0, .ref f0, .ref r0, .ref w0, .ref k0, .int 0])), (n0, .inr (6, [.ref n1, .ref n2, .ref n3, .ref n4, .ref n5, .int 0])), (n2, .inl (κ 4, 3, .inr (.inr (.inr (.inr (fun _ => none)))))), (n3, .inl (κ 5, 3, .inr (.inr (.inr (.inr (fun _ => none))))))] s.heap := hI
  have hFX : FX p s m args c cX11_table 5 RX11 := ⟨hx, hb, hml, hown, hts⟩
  have hl : lv_has ls 5 [(0, .ref x0), (1, .int za), (2, .int zb)] := hl
  refine lv_aload_n hx hb dX11_table_0 rfl (lv_at hl 0 rfl) ?_
  refine va_get (D := D) (ci := 11) (v := .ref n0) (C := RX11) (T := TX11) (N := 7) hx hb hts inlX11 hown hK hP 0 rfl rfl 0 (by decide) (hts _ mw_15) (fun _ h9 => h9) rfl dX11_table_1 ?_
  refine lv_iload_n hx hb dX11_table_4 rfl (lv_at hl 1 rfl) ?_
  refine cr_V (As := [.int za]) (rest := []) hFX hKK (c_X6_sheetOf l D κ n0 n1 n2 n3 n4 n5 za) 1 gV_X11_114 hdV_X6_sheetOf rfl rfl ⟨Nat.le_of_ble_eq_true rfl, Nat.le_of_ble_eq_true rfl⟩ rfl rfl (Nat.le_of_ble_eq_true rfl) dX11_table_5 ⟨Nat.le_of_ble_eq_true rfl, Nat.le_of_ble_eq_true rfl⟩ hl.1 hP 1 6 rfl rfl rfl (hP.sub [1, 2] rfl) (fun _ hp_1 => ?_)
  refine W.eq (g2 := F0 m 8 ls [.null]) rfl ?_
  refine lv_astore_nN (lv' := [(3, .null), (0, .ref x0), (1, .int za), (2, .int zb)]) hx hb dX11_table_8 rfl hl (by decide) rfl (fun ls hl => ?_)
  refine lv_aload_n hx hb dX11_table_9 rfl (lv_at hl 1 rfl) ?_
  refine va_get (D := D) (ci := 11) (v := .ref n0) (C := RX11) (T := TX11) (N := 7) hx hb hts inlX11 hown hK hP 0 rfl rfl 0 (by decide) (hts _ mw_15) (fun _ h9 => h9) rfl dX11_table_10 ?_
  refine lv_iload_n hx hb dX11_table_13 rfl (lv_at hl 2 rfl) ?_
  refine cr_V (As := [.int za]) (rest := []) hFX hKK (c_X6_topOf l D κ n0 n1 n2 n3 n4 n5 za) 1 gV_X11_231 hdV_X6_topOf rfl rfl ⟨Nat.le_of_ble_eq_true rfl, Nat.le_of_ble_eq_true rfl⟩ rfl rfl (Nat.le_of_ble_eq_true rfl) dX11_table_14 ⟨Nat.le_of_ble_eq_true rfl, Nat.le_of_ble_eq_true rfl⟩ hl.1 hP 1 6 rfl rfl rfl (hP.sub [1, 3] rfl) (fun _ hp_2 => ?_)
  refine W.eq (g2 := F0 m 17 ls [.null]) rfl ?_
  refine lv_astoreN (lv' := [(4, .null), (3, .null), (0, .ref x0), (1, .int za), (2, .int zb)]) hx hb dX11_table_17 hl (by decide) rfl (fun ls hl => ?_)
  refine lv_aload_nN hx hb dX11_table_19 rfl (lv_at hl 1 rfl) ?_
  refine lv_ifnullN (tgt := 28) hx hb dX11_table_20 (by decide) ?_
  refine lv_iconst (v := (-1)) hx hb dX11_table_28 (by decide) ?_
  exact cr_iret hx hb hr hlk rfl () rfl trivial dX11_table_29
set_option maxHeartbeats 4000000 in
set_option maxRecDepth 100000 in
theorem c_X11_column (l : Launch) (D : va_G) (κ : Nat → ClassId) (x0 : Nat) (n0 : Nat) (t0 : Nat) (f0 : Nat) (r0 : Nat) (w0 : Nat) (k0 : Nat) (n1 : Nat) (n2 : Nat) (n3 : Nat) (n4 : Nat) (n5 : Nat) (za : Int32) (zb : Int32) (zc : Int32) : Cr l yX11_column (wl yX11_column cX11_column 5 (some .int)) { frames := 2, cells := 0, slots := 0, locals := 41 } D κ [.ref x0, .int za, .int zb, .int zc] (va_P D vwCl [(x0, .inr (11, [.ref n0, .ref t0, .ref f0, .ref r0, .ref w0, .ref k0, .int 0])), (n0, .inr (6, [.ref n1, .ref n2, .ref n3, .ref n4, .ref n5, .int 0])), (n2, .inl (κ 4, 3, .inr (.inr (.inr (.inr (fun _ => none))))))]) (fun _ : Unit => some (.int (-1))) (fun _ : Unit => True) := by
  refine cr_of (by decide +kernel) (Nat.le_of_ble_eq_true rfl) ?_
  intro p e s m args below meth c ls hx hb hr hml hts hown hlk hKK hK hI hl
  have hP : va_P D vwCl [(x0, .inr (11, [.ref n0, .ref t0, .ref f0, .ref r0, .ref w0, .ref k0, .int 0])), (n0, .inr (6, [.ref n1, .ref n2, .ref n3, .ref n4, .ref n5, .int 0])), (n2, .inl (κ 4, 3, .inr (.inr (.inr (.inr (fun _ => none))))))] s.heap := hI
  have hFX : FX p s m args c cX11_column 5 RX11 := ⟨hx, hb, hml, hown, hts⟩
  have hl : lv_has ls 5 [(0, .ref x0), (1, .int za), (2, .int zb), (3, .int zc)] := hl
  refine lv_aload_n hx hb dX11_column_0 rfl (lv_at hl 0 rfl) ?_
  refine va_get (D := D) (ci := 11) (v := .ref n0) (C := RX11) (T := TX11) (N := 7) hx hb hts inlX11 hown hK hP 0 rfl rfl 0 (by decide) (hts _ mw_15) (fun _ h9 => h9) rfl dX11_column_1 ?_
  refine lv_iload_n hx hb dX11_column_4 rfl (lv_at hl 1 rfl) ?_
  refine cr_V (As := [.int za]) (rest := []) hFX hKK (c_X6_sheetOf l D κ n0 n1 n2 n3 n4 n5 za) 1 gV_X11_114 hdV_X6_sheetOf rfl rfl ⟨Nat.le_of_ble_eq_true rfl, Nat.le_of_ble_eq_true rfl⟩ rfl rfl (Nat.le_of_ble_eq_true rfl) dX11_column_5 ⟨Nat.le_of_ble_eq_true rfl, Nat.le_of_ble_eq_true rfl⟩ hl.1 hP 1 6 rfl rfl rfl (hP.sub [1, 2] rfl) (fun _ hp_1 => ?_)
  refine W.eq (g2 := F0 m 8 ls [.null]) rfl ?_
  refine lv_astoreN (lv' := [(4, .null), (0, .ref x0), (1, .int za), (2, .int zb), (3, .int zc)]) hx hb dX11_column_8 hl (by decide) rfl (fun ls hl => ?_)
  refine lv_aloadN hx hb dX11_column_10 (lv_at hl 0 rfl) ?_
  refine lv_ifnullN (tgt := 24) hx hb dX11_column_12 (by decide) ?_
  refine lv_iconst (v := (-1)) hx hb dX11_column_24 (by decide) ?_
  exact cr_iret hx hb hr hlk rfl () rfl trivial dX11_column_25
set_option maxHeartbeats 4000000 in
set_option maxRecDepth 100000 in
theorem c_X11_nameAt (l : Launch) (D : va_G) (κ : Nat → ClassId) (x0 : Nat) (n0 : Nat) (t0 : Nat) (f0 : Nat) (r0 : Nat) (w0 : Nat) (k0 : Nat) (n1 : Nat) (n2 : Nat) (n3 : Nat) (n4 : Nat) (n5 : Nat) (za : Int32) (zb : Int32) (zc : Int32) : Cr l yX11_nameAt (wl yX11_nameAt cX11_nameAt 6 (some .int)) { frames := 2, cells := 0, slots := 0, locals := 41 } D κ [.ref x0, .int za, .int zb, .int zc] (va_P D vwCl [(x0, .inr (11, [.ref n0, .ref t0, .ref f0, .ref r0, .ref w0, .ref k0, .int 0])), (n0, .inr (6, [.ref n1, .ref n2, .ref n3, .ref n4, .ref n5, .int 0])), (n2, .inl (κ 4, 3, .inr (.inr (.inr (.inr (fun _ => none))))))]) (fun _ : Unit => some (.int (-1))) (fun _ : Unit => True) := by
  refine cr_of (by decide +kernel) (Nat.le_of_ble_eq_true rfl) ?_
  intro p e s m args below meth c ls hx hb hr hml hts hown hlk hKK hK hI hl
  have hP : va_P D vwCl [(x0, .inr (11, [.ref n0, .ref t0, .ref f0, .ref r0, .ref w0, .ref k0, .int 0])), (n0, .inr (6, [.ref n1, .ref n2, .ref n3, .ref n4, .ref n5, .int 0])), (n2, .inl (κ 4, 3, .inr (.inr (.inr (.inr (fun _ => none))))))] s.heap := hI
  have hFX : FX p s m args c cX11_nameAt 6 RX11 := ⟨hx, hb, hml, hown, hts⟩
  have hl : lv_has ls 6 [(0, .ref x0), (1, .int za), (2, .int zb), (3, .int zc)] := hl
  refine lv_aload_n hx hb dX11_nameAt_0 rfl (lv_at hl 0 rfl) ?_
  refine va_get (D := D) (ci := 11) (v := .ref n0) (C := RX11) (T := TX11) (N := 7) hx hb hts inlX11 hown hK hP 0 rfl rfl 0 (by decide) (hts _ mw_15) (fun _ h9 => h9) rfl dX11_nameAt_1 ?_
  refine lv_iload_n hx hb dX11_nameAt_4 rfl (lv_at hl 1 rfl) ?_
  refine cr_V (As := [.int za]) (rest := []) hFX hKK (c_X6_sheetOf l D κ n0 n1 n2 n3 n4 n5 za) 1 gV_X11_114 hdV_X6_sheetOf rfl rfl ⟨Nat.le_of_ble_eq_true rfl, Nat.le_of_ble_eq_true rfl⟩ rfl rfl (Nat.le_of_ble_eq_true rfl) dX11_nameAt_5 ⟨Nat.le_of_ble_eq_true rfl, Nat.le_of_ble_eq_true rfl⟩ hl.1 hP 1 6 rfl rfl rfl (hP.sub [1, 2] rfl) (fun _ hp_1 => ?_)
  refine W.eq (g2 := F0 m 8 ls [.null]) rfl ?_
  refine lv_astoreN (lv' := [(4, .null), (0, .ref x0), (1, .int za), (2, .int zb), (3, .int zc)]) hx hb dX11_nameAt_8 hl (by decide) rfl (fun ls hl => ?_)
  refine lv_aloadN hx hb dX11_nameAt_10 (lv_at hl 0 rfl) ?_
  refine lv_ifnullN (tgt := 24) hx hb dX11_nameAt_12 (by decide) ?_
  refine lv_iconst (v := (-1)) hx hb dX11_nameAt_24 (by decide) ?_
  exact cr_iret hx hb hr hlk rfl () rfl trivial dX11_nameAt_25
set_option maxHeartbeats 4000000 in
set_option maxRecDepth 100000 in
theorem c_X11_proof (l : Launch) (D : va_G) (κ : Nat → ClassId) (x0 : Nat) (n0 : Nat) (t0 : Nat) (f0 : Nat) (r0 : Nat) (w0 : Nat) (k0 : Nat) (n1 : Nat) (n2 : Nat) (n3 : Nat) (n4 : Nat) (n5 : Nat) (za : Int32) (zb : Int32) (zc : Int32) (zd : Int32) : Cr l yX11_proof (wl yX11_proof cX11_proof 7 (some .int)) { frames := 2, cells := 0, slots := 0, locals := 41 } D κ [.ref x0, .int za, .int zb, .int zc, .int zd] (va_P D vwCl [(x0, .inr (11, [.ref n0, .ref t0, .ref f0, .ref r0, .ref w0, .ref k0, .int 0])), (n0, .inr (6, [.ref n1, .ref n2, .ref n3, .ref n4, .ref n5, .int 0])), (n2, .inl (κ 4, 3, .inr (.inr (.inr (.inr (fun _ => none))))))]) (fun _ : Unit => some (.int (-1))) (fun _ : Unit => True) := by
  refine cr_of (by decide +kernel) (Nat.le_of_ble_eq_true rfl) ?_
  intro p e s m args below meth c ls hx hb hr hml hts hown hlk hKK hK hI hl
  have hP : va_P D vwCl [(x0, .inr (11, [.ref n0, .ref t0, .ref f0, .ref r0, .ref w0, .ref k0, .int 0])), (n0, .inr (6, [.ref n1, .ref n2, .ref n3, .ref n4, .ref n5, .int 0])), (n2, .inl (κ 4, 3, .inr (.inr (.inr (.inr (fun _ => none))))))] s.heap := hI
  have hFX : FX p s m args c cX11_proof 7 RX11 := ⟨hx, hb, hml, hown, hts⟩
  have hl : lv_has ls 7 [(0, .ref x0), (1, .int za), (2, .int zb), (3, .int zc), (4, .int zd)] := hl
  refine lv_aload_n hx hb dX11_proof_0 rfl (lv_at hl 0 rfl) ?_
  refine va_get (D := D) (ci := 11) (v := .ref n0) (C := RX11) (T := TX11) (N := 7) hx hb hts inlX11 hown hK hP 0 rfl rfl 0 (by decide) (hts _ mw_15) (fun _ h9 => h9) rfl dX11_proof_1 ?_
  refine lv_iload_n hx hb dX11_proof_4 rfl (lv_at hl 1 rfl) ?_
  refine cr_V (As := [.int za]) (rest := []) hFX hKK (c_X6_sheetOf l D κ n0 n1 n2 n3 n4 n5 za) 1 gV_X11_114 hdV_X6_sheetOf rfl rfl ⟨Nat.le_of_ble_eq_true rfl, Nat.le_of_ble_eq_true rfl⟩ rfl rfl (Nat.le_of_ble_eq_true rfl) dX11_proof_5 ⟨Nat.le_of_ble_eq_true rfl, Nat.le_of_ble_eq_true rfl⟩ hl.1 hP 1 6 rfl rfl rfl (hP.sub [1, 2] rfl) (fun _ hp_1 => ?_)
  refine W.eq (g2 := F0 m 8 ls [.null]) rfl ?_
  refine lv_astoreN (lv' := [(5, .null), (0, .ref x0), (1, .int za), (2, .int zb), (3, .int zc), (4, .int zd)]) hx hb dX11_proof_8 hl (by decide) rfl (fun ls hl => ?_)
  refine lv_aloadN hx hb dX11_proof_10 (lv_at hl 0 rfl) ?_
  refine lv_ifnullN (tgt := 24) hx hb dX11_proof_12 (by decide) ?_
  refine lv_iconst (v := (-1)) hx hb dX11_proof_24 (by decide) ?_
  exact cr_iret hx hb hr hlk rfl () rfl trivial dX11_proof_25
set_option maxHeartbeats 4000000 in
set_option maxRecDepth 100000 in
theorem c_X11_against (l : Launch) (D : va_G) (κ : Nat → ClassId) (x0 : Nat) (n0 : Nat) (t0 : Nat) (f0 : Nat) (r0 : Nat) (w0 : Nat) (k0 : Nat) (n1 : Nat) (n2 : Nat) (n3 : Nat) (n4 : Nat) (n5 : Nat) (za : Int32) (zb : Int32) (zc : Int32) : Cr l yX11_against (wl yX11_against cX11_against 5 (some .int)) { frames := 2, cells := 0, slots := 0, locals := 41 } D κ [.ref x0, .int za, .int zb, .int zc] (va_P D vwCl [(x0, .inr (11, [.ref n0, .ref t0, .ref f0, .ref r0, .ref w0, .ref k0, .int 0])), (n0, .inr (6, [.ref n1, .ref n2, .ref n3, .ref n4, .ref n5, .int 0])), (n2, .inl (κ 4, 3, .inr (.inr (.inr (.inr (fun _ => none))))))]) (fun _ : Unit => some (.int (-1))) (fun _ : Unit => True) := by
  refine cr_of (by decide +kernel) (Nat.le_of_ble_eq_true rfl) ?_
  intro p e s m args below meth c ls hx hb hr hml hts hown hlk hKK hK hI hl
  have hP : va_P D vwCl [(x0, .inr (11, [.ref n0, .ref t0, .ref f0, .ref r0, .ref w0, .ref k0, .int 0])), (n0, .inr (6, [.ref n1, .ref n2, .ref n3, .ref n4, .ref n5, .int 0])), (n2, .inl (κ 4, 3, .inr (.inr (.inr (.inr (fun _ => none))))))] s.heap := hI
  have hFX : FX p s m args c cX11_against 5 RX11 := ⟨hx, hb, hml, hown, hts⟩
  have hl : lv_has ls 5 [(0, .ref x0), (1, .int za), (2, .int zb), (3, .int zc)] := hl
  refine lv_aload_n hx hb dX11_against_0 rfl (lv_at hl 0 rfl) ?_
  refine va_get (D := D) (ci := 11) (v := .ref n0) (C := RX11) (T := TX11) (N := 7) hx hb hts inlX11 hown hK hP 0 rfl rfl 0 (by decide) (hts _ mw_15) (fun _ h9 => h9) rfl dX11_against_1 ?_
  refine lv_iload_n hx hb dX11_against_4 rfl (lv_at hl 1 rfl) ?_
  refine cr_V (As := [.int za]) (rest := []) hFX hKK (c_X6_sheetOf l D κ n0 n1 n2 n3 n4 n5 za) 1 gV_X11_114 hdV_X6_sheetOf rfl rfl ⟨Nat.le_of_ble_eq_true rfl, Nat.le_of_ble_eq_true rfl⟩ rfl rfl (Nat.le_of_ble_eq_true rfl) dX11_against_5 ⟨Nat.le_of_ble_eq_true rfl, Nat.le_of_ble_eq_true rfl⟩ hl.1 hP 1 6 rfl rfl rfl (hP.sub [1, 2] rfl) (fun _ hp_1 => ?_)
  refine W.eq (g2 := F0 m 8 ls [.null]) rfl ?_
  refine lv_astoreN (lv' := [(4, .null), (0, .ref x0), (1, .int za), (2, .int zb), (3, .int zc)]) hx hb dX11_against_8 hl (by decide) rfl (fun ls hl => ?_)
  refine lv_aloadN hx hb dX11_against_10 (lv_at hl 0 rfl) ?_
  refine lv_ifnullN (tgt := 33) hx hb dX11_against_12 (by decide) ?_
  refine lv_iconst (v := (-1)) hx hb dX11_against_33 (by decide) ?_
  exact cr_iret hx hb hr hlk rfl () rfl trivial dX11_against_34
set_option maxHeartbeats 4000000 in
set_option maxRecDepth 100000 in
theorem c_X11_cell (l : Launch) (D : va_G) (κ : Nat → ClassId) (x0 : Nat) (n0 : Nat) (t0 : Nat) (f0 : Nat) (r0 : Nat) (w0 : Nat) (k0 : Nat) (n1 : Nat) (n2 : Nat) (n3 : Nat) (n4 : Nat) (n5 : Nat) (za : Int32) (zb : Int32) (zc : Int32) (zd : Int32) : Cr l yX11_cell (wl yX11_cell cX11_cell 7 (some .int)) { frames := 2, cells := 0, slots := 0, locals := 41 } D κ [.ref x0, .int za, .int zb, .int zc, .int zd] (va_P D vwCl [(x0, .inr (11, [.ref n0, .ref t0, .ref f0, .ref r0, .ref w0, .ref k0, .int 0])), (n0, .inr (6, [.ref n1, .ref n2, .ref n3, .ref n4, .ref n5, .int 0])), (n2, .inl (κ 4, 3, .inr (.inr (.inr (.inr (fun _ => none))))))]) (fun _ : Unit => some (.int (-1))) (fun _ : Unit => True) := by
  refine cr_of (by decide +kernel) (Nat.le_of_ble_eq_true rfl) ?_
  intro p e s m args below meth c ls hx hb hr hml hts hown hlk hKK hK hI hl
  have hP : va_P D vwCl [(x0, .inr (11, [.ref n0, .ref t0, .ref f0, .ref r0, .ref w0, .ref k0, .int 0])), (n0, .inr (6, [.ref n1, .ref n2, .ref n3, .ref n4, .ref n5, .int 0])), (n2, .inl (κ 4, 3, .inr (.inr (.inr (.inr (fun _ => none))))))] s.heap := hI
  have hFX : FX p s m args c cX11_cell 7 RX11 := ⟨hx, hb, hml, hown, hts⟩
  have hl : lv_has ls 7 [(0, .ref x0), (1, .int za), (2, .int zb), (3, .int zc), (4, .int zd)] := hl
  refine lv_aload_n hx hb dX11_cell_0 rfl (lv_at hl 0 rfl) ?_
  refine va_get (D := D) (ci := 11) (v := .ref n0) (C := RX11) (T := TX11) (N := 7) hx hb hts inlX11 hown hK hP 0 rfl rfl 0 (by decide) (hts _ mw_15) (fun _ h9 => h9) rfl dX11_cell_1 ?_
  refine lv_iload_n hx hb dX11_cell_4 rfl (lv_at hl 1 rfl) ?_
  refine cr_V (As := [.int za]) (rest := []) hFX hKK (c_X6_sheetOf l D κ n0 n1 n2 n3 n4 n5 za) 1 gV_X11_114 hdV_X6_sheetOf rfl rfl ⟨Nat.le_of_ble_eq_true rfl, Nat.le_of_ble_eq_true rfl⟩ rfl rfl (Nat.le_of_ble_eq_true rfl) dX11_cell_5 ⟨Nat.le_of_ble_eq_true rfl, Nat.le_of_ble_eq_true rfl⟩ hl.1 hP 1 6 rfl rfl rfl (hP.sub [1, 2] rfl) (fun _ hp_1 => ?_)
  refine W.eq (g2 := F0 m 8 ls [.null]) rfl ?_
  refine lv_astoreN (lv' := [(5, .null), (0, .ref x0), (1, .int za), (2, .int zb), (3, .int zc), (4, .int zd)]) hx hb dX11_cell_8 hl (by decide) rfl (fun ls hl => ?_)
  refine lv_aloadN hx hb dX11_cell_10 (lv_at hl 0 rfl) ?_
  refine lv_ifnullN (tgt := 25) hx hb dX11_cell_12 (by decide) ?_
  refine lv_iconst (v := (-1)) hx hb dX11_cell_25 (by decide) ?_
  exact cr_iret hx hb hr hlk rfl () rfl trivial dX11_cell_26
set_option maxHeartbeats 4000000 in
set_option maxRecDepth 100000 in
theorem c_X11_cellAt (l : Launch) (D : va_G) (κ : Nat → ClassId) (x0 : Nat) (n0 : Nat) (t0 : Nat) (f0 : Nat) (r0 : Nat) (w0 : Nat) (k0 : Nat) (n1 : Nat) (n2 : Nat) (n3 : Nat) (n4 : Nat) (n5 : Nat) (za : Int32) (zb : Int32) (zc : Int32) (zd : Int32) : Cr l yX11_cellAt (wl yX11_cellAt cX11_cellAt 7 (some .int)) { frames := 2, cells := 0, slots := 0, locals := 41 } D κ [.ref x0, .int za, .int zb, .int zc, .int zd] (va_P D vwCl [(x0, .inr (11, [.ref n0, .ref t0, .ref f0, .ref r0, .ref w0, .ref k0, .int 0])), (n0, .inr (6, [.ref n1, .ref n2, .ref n3, .ref n4, .ref n5, .int 0])), (n2, .inl (κ 4, 3, .inr (.inr (.inr (.inr (fun _ => none))))))]) (fun _ : Unit => some (.int (-1))) (fun _ : Unit => True) := by
  refine cr_of (by decide +kernel) (Nat.le_of_ble_eq_true rfl) ?_
  intro p e s m args below meth c ls hx hb hr hml hts hown hlk hKK hK hI hl
  have hP : va_P D vwCl [(x0, .inr (11, [.ref n0, .ref t0, .ref f0, .ref r0, .ref w0, .ref k0, .int 0])), (n0, .inr (6, [.ref n1, .ref n2, .ref n3, .ref n4, .ref n5, .int 0])), (n2, .inl (κ 4, 3, .inr (.inr (.inr (.inr (fun _ => none))))))] s.heap := hI
  have hFX : FX p s m args c cX11_cellAt 7 RX11 := ⟨hx, hb, hml, hown, hts⟩
  have hl : lv_has ls 7 [(0, .ref x0), (1, .int za), (2, .int zb), (3, .int zc), (4, .int zd)] := hl
  refine lv_aload_n hx hb dX11_cellAt_0 rfl (lv_at hl 0 rfl) ?_
  refine va_get (D := D) (ci := 11) (v := .ref n0) (C := RX11) (T := TX11) (N := 7) hx hb hts inlX11 hown hK hP 0 rfl rfl 0 (by decide) (hts _ mw_15) (fun _ h9 => h9) rfl dX11_cellAt_1 ?_
  refine lv_iload_n hx hb dX11_cellAt_4 rfl (lv_at hl 1 rfl) ?_
  refine cr_V (As := [.int za]) (rest := []) hFX hKK (c_X6_sheetOf l D κ n0 n1 n2 n3 n4 n5 za) 1 gV_X11_114 hdV_X6_sheetOf rfl rfl ⟨Nat.le_of_ble_eq_true rfl, Nat.le_of_ble_eq_true rfl⟩ rfl rfl (Nat.le_of_ble_eq_true rfl) dX11_cellAt_5 ⟨Nat.le_of_ble_eq_true rfl, Nat.le_of_ble_eq_true rfl⟩ hl.1 hP 1 6 rfl rfl rfl (hP.sub [1, 2] rfl) (fun _ hp_1 => ?_)
  refine W.eq (g2 := F0 m 8 ls [.null]) rfl ?_
  refine lv_astoreN (lv' := [(5, .null), (0, .ref x0), (1, .int za), (2, .int zb), (3, .int zc), (4, .int zd)]) hx hb dX11_cellAt_8 hl (by decide) rfl (fun ls hl => ?_)
  refine lv_aloadN hx hb dX11_cellAt_10 (lv_at hl 0 rfl) ?_
  refine lv_ifnullN (tgt := 25) hx hb dX11_cellAt_12 (by decide) ?_
  refine lv_iconst (v := (-1)) hx hb dX11_cellAt_25 (by decide) ?_
  exact cr_iret hx hb hr hlk rfl () rfl trivial dX11_cellAt_26
set_option maxHeartbeats 4000000 in
set_option maxRecDepth 100000 in
theorem c_X11_value (l : Launch) (D : va_G) (κ : Nat → ClassId) (x0 : Nat) (n0 : Nat) (t0 : Nat) (f0 : Nat) (r0 : Nat) (w0 : Nat) (k0 : Nat) (n1 : Nat) (n2 : Nat) (n3 : Nat) (n4 : Nat) (n5 : Nat) (za : Int32) (zb : Int32) (zc : Int32) : Cr l yX11_value (wl yX11_value cX11_value 6 (some .long)) { frames := 2, cells := 0, slots := 0, locals := 41 } D κ [.ref x0, .int za, .int zb, .int zc] (va_P D vwCl [(x0, .inr (11, [.ref n0, .ref t0, .ref f0, .ref r0, .ref w0, .ref k0, .int 0])), (n0, .inr (6, [.ref n1, .ref n2, .ref n3, .ref n4, .ref n5, .int 0])), (n2, .inl (κ 4, 3, .inr (.inr (.inr (.inr (fun _ => none))))))]) (fun _ : Unit => some (.long (-100000000000000))) (fun _ : Unit => True) := by
  refine cr_of (by decide +kernel) (Nat.le_of_ble_eq_true rfl) ?_
  intro p e s m args below meth c ls hx hb hr hml hts hown hlk hKK hK hI hl
  have hP : va_P D vwCl [(x0, .inr (11, [.ref n0, .ref t0, .ref f0, .ref r0, .ref w0, .ref k0, .int 0])), (n0, .inr (6, [.ref n1, .ref n2, .ref n3, .ref n4, .ref n5, .int 0])), (n2, .inl (κ 4, 3, .inr (.inr (.inr (.inr (fun _ => none))))))] s.heap := hI
  have hFX : FX p s m args c cX11_value 6 RX11 := ⟨hx, hb, hml, hown, hts⟩
  have hl : lv_has ls 6 [(0, .ref x0), (1, .int za), (2, .int zb), (3, .int zc)] := hl
  refine lv_aload_n hx hb dX11_value_0 rfl (lv_at hl 0 rfl) ?_
  refine va_get (D := D) (ci := 11) (v := .ref n0) (C := RX11) (T := TX11) (N := 7) hx hb hts inlX11 hown hK hP 0 rfl rfl 0 (by decide) (hts _ mw_15) (fun _ h9 => h9) rfl dX11_value_1 ?_
  refine lv_iload_n hx hb dX11_value_4 rfl (lv_at hl 1 rfl) ?_
  refine cr_V (As := [.int za]) (rest := []) hFX hKK (c_X6_sheetOf l D κ n0 n1 n2 n3 n4 n5 za) 1 gV_X11_114 hdV_X6_sheetOf rfl rfl ⟨Nat.le_of_ble_eq_true rfl, Nat.le_of_ble_eq_true rfl⟩ rfl rfl (Nat.le_of_ble_eq_true rfl) dX11_value_5 ⟨Nat.le_of_ble_eq_true rfl, Nat.le_of_ble_eq_true rfl⟩ hl.1 hP 1 6 rfl rfl rfl (hP.sub [1, 2] rfl) (fun _ hp_1 => ?_)
  refine W.eq (g2 := F0 m 8 ls [.null]) rfl ?_
  refine lv_astoreN (lv' := [(4, .null), (0, .ref x0), (1, .int za), (2, .int zb), (3, .int zc)]) hx hb dX11_value_8 hl (by decide) rfl (fun ls hl => ?_)
  refine lv_aloadN hx hb dX11_value_10 (lv_at hl 0 rfl) ?_
  refine lv_ifnullN (tgt := 25) hx hb dX11_value_12 (by decide) ?_
  refine lv_ldc2 hx hb hown (hts _ mw_1252) dX11_value_25 ?_
  exact cr_lret hx hb hr hlk () rfl trivial dX11_value_28
set_option maxHeartbeats 4000000 in
set_option maxRecDepth 100000 in
theorem c_X11_compare (l : Launch) (D : va_G) (κ : Nat → ClassId) (x0 : Nat) (n0 : Nat) (t0 : Nat) (f0 : Nat) (r0 : Nat) (w0 : Nat) (k0 : Nat) (n1 : Nat) (n2 : Nat) (n3 : Nat) (n4 : Nat) (n5 : Nat) (za : Int32) (zb : Int32) (zc : Int32) (zd : Int32) : Cr l yX11_compare (wl yX11_compare cX11_compare 7 (some .int)) { frames := 2, cells := 0, slots := 0, locals := 41 } D κ [.ref x0, .int za, .int zb, .int zc, .int zd] (va_P D vwCl [(x0, .inr (11, [.ref n0, .ref t0, .ref f0, .ref r0, .ref w0, .ref k0, .int 0])), (n0, .inr (6, [.ref n1, .ref n2, .ref n3, .ref n4, .ref n5, .int 0])), (n2, .inl (κ 4, 3, .inr (.inr (.inr (.inr (fun _ => none))))))]) (fun _ : Unit => some (.int (-1))) (fun _ : Unit => True) := by
  refine cr_of (by decide +kernel) (Nat.le_of_ble_eq_true rfl) ?_
  intro p e s m args below meth c ls hx hb hr hml hts hown hlk hKK hK hI hl
  have hP : va_P D vwCl [(x0, .inr (11, [.ref n0, .ref t0, .ref f0, .ref r0, .ref w0, .ref k0, .int 0])), (n0, .inr (6, [.ref n1, .ref n2, .ref n3, .ref n4, .ref n5, .int 0])), (n2, .inl (κ 4, 3, .inr (.inr (.inr (.inr (fun _ => none))))))] s.heap := hI
  have hFX : FX p s m args c cX11_compare 7 RX11 := ⟨hx, hb, hml, hown, hts⟩
  have hl : lv_has ls 7 [(0, .ref x0), (1, .int za), (2, .int zb), (3, .int zc), (4, .int zd)] := hl
  refine lv_aload_n hx hb dX11_compare_0 rfl (lv_at hl 0 rfl) ?_
  refine va_get (D := D) (ci := 11) (v := .ref n0) (C := RX11) (T := TX11) (N := 7) hx hb hts inlX11 hown hK hP 0 rfl rfl 0 (by decide) (hts _ mw_15) (fun _ h9 => h9) rfl dX11_compare_1 ?_
  refine lv_iload_n hx hb dX11_compare_4 rfl (lv_at hl 1 rfl) ?_
  refine cr_V (As := [.int za]) (rest := []) hFX hKK (c_X6_sheetOf l D κ n0 n1 n2 n3 n4 n5 za) 1 gV_X11_114 hdV_X6_sheetOf rfl rfl ⟨Nat.le_of_ble_eq_true rfl, Nat.le_of_ble_eq_true rfl⟩ rfl rfl (Nat.le_of_ble_eq_true rfl) dX11_compare_5 ⟨Nat.le_of_ble_eq_true rfl, Nat.le_of_ble_eq_true rfl⟩ hl.1 hP 1 6 rfl rfl rfl (hP.sub [1, 2] rfl) (fun _ hp_1 => ?_)
  refine W.eq (g2 := F0 m 8 ls [.null]) rfl ?_
  refine lv_astoreN (lv' := [(5, .null), (0, .ref x0), (1, .int za), (2, .int zb), (3, .int zc), (4, .int zd)]) hx hb dX11_compare_8 hl (by decide) rfl (fun ls hl => ?_)
  refine lv_aloadN hx hb dX11_compare_10 (lv_at hl 0 rfl) ?_
  refine lv_ifnullN (tgt := 35) hx hb dX11_compare_12 (by decide) ?_
  refine lv_iconst (v := (-1)) hx hb dX11_compare_35 (by decide) ?_
  exact cr_iret hx hb hr hlk rfl () rfl trivial dX11_compare_36
set_option maxHeartbeats 4000000 in
set_option maxRecDepth 100000 in
theorem c_X11_over (l : Launch) (D : va_G) (κ : Nat → ClassId) (x0 : Nat) (n0 : Nat) (t0 : Nat) (f0 : Nat) (r0 : Nat) (w0 : Nat) (k0 : Nat) (n1 : Nat) (n2 : Nat) (n3 : Nat) (n4 : Nat) (n5 : Nat) (za : Int32) (zb : Int32) (zc : Int32) : Cr l yX11_over (wl yX11_over cX11_over 6 (some .long)) { frames := 3, cells := 0, slots := 0, locals := 65 } D κ [.ref x0, .int za, .int zb, .int zc] (va_P D vwCl [(x0, .inr (11, [.ref n0, .ref t0, .ref f0, .ref r0, .ref w0, .ref k0, .int 0])), (n0, .inr (6, [.ref n1, .ref n2, .ref n3, .ref n4, .ref n5, .int 0])), (n2, .inl (κ 4, 3, .inr (.inr (.inr (.inr (fun _ => none)))))), (n3, .inl (κ 5, 3, .inr (.inr (.inr (.inr (fun _ => none))))))]) (fun _ : Unit => some (.long (-100000000000000))) (fun _ : Unit => True) := by
  refine cr_of (by decide +kernel) (Nat.le_of_ble_eq_true rfl) ?_
  intro p e s m args below meth c ls hx hb hr hml hts hown hlk hKK hK hI hl
  have hP : va_P D vwCl [(x0, .inr (11, [.ref n0, .ref t0, .ref f0, .ref r0, .ref w0, .ref k0, .int 0])), (n0, .inr (6, [.ref n1, .ref n2, .ref n3, .ref n4, .ref n5, .int 0])), (n2, .inl (κ 4, 3, .inr (.inr (.inr (.inr (fun _ => none)))))), (n3, .inl (κ 5, 3, .inr (.inr (.inr (.inr (fun _ => none))))))] s.heap := hI
  have hFX : FX p s m args c cX11_over 6 RX11 := ⟨hx, hb, hml, hown, hts⟩
  have hl : lv_has ls 6 [(0, .ref x0), (1, .int za), (2, .int zb), (3, .int zc)] := hl
  refine lv_aload_n hx hb dX11_over_0 rfl (lv_at hl 0 rfl) ?_
  refine va_get (D := D) (ci := 11) (v := .ref n0) (C := RX11) (T := TX11) (N := 7) hx hb hts inlX11 hown hK hP 0 rfl rfl 0 (by decide) (hts _ mw_15) (fun _ h9 => h9) rfl dX11_over_1 ?_
  refine lv_iload_n hx hb dX11_over_4 rfl (lv_at hl 1 rfl) ?_
  refine lv_iload_n hx hb dX11_over_5 rfl (lv_at hl 2 rfl) ?_
  refine cr_V (As := [.int za, .int zb]) (rest := []) hFX hKK (c_X6_stripOf l D κ n0 n1 n2 n3 n4 n5 za zb) 2 gV_X11_189 hdV_X6_stripOf rfl rfl ⟨Nat.le_of_ble_eq_true rfl, Nat.le_of_ble_eq_true rfl⟩ rfl rfl (Nat.le_of_ble_eq_true rfl) dX11_over_6 ⟨Nat.le_of_ble_eq_true rfl, Nat.le_of_ble_eq_true rfl⟩ hl.1 hP 1 6 rfl rfl rfl (hP.sub [1, 2, 3] rfl) (fun _ hp_1 => ?_)
  refine W.eq (g2 := F0 m 9 ls [.null]) rfl ?_
  refine lv_astoreN (lv' := [(4, .null), (0, .ref x0), (1, .int za), (2, .int zb), (3, .int zc)]) hx hb dX11_over_9 hl (by decide) rfl (fun ls hl => ?_)
  refine lv_aloadN hx hb dX11_over_11 (lv_at hl 0 rfl) ?_
  refine lv_ifnonnullN hx hb dX11_over_13 ?_
  refine lv_ldc2 hx hb hown (hts _ mw_1252) dX11_over_16 ?_
  exact cr_lret hx hb hr hlk () rfl trivial dX11_over_19
set_option maxHeartbeats 4000000 in
set_option maxRecDepth 100000 in
theorem c_X11_group (l : Launch) (D : va_G) (κ : Nat → ClassId) (x0 : Nat) (n0 : Nat) (t0 : Nat) (f0 : Nat) (r0 : Nat) (w0 : Nat) (k0 : Nat) (n1 : Nat) (n2 : Nat) (n3 : Nat) (n4 : Nat) (n5 : Nat) (za : Int32) (zb : Int32) (zc : Int32) (zd : Int32) (ze : Int32) : Cr l yX11_group (wl yX11_group cX11_group 8 (some .long)) { frames := 3, cells := 0, slots := 0, locals := 65 } D κ [.ref x0, .int za, .int zb, .int zc, .int zd, .int ze] (va_P D vwCl [(x0, .inr (11, [.ref n0, .ref t0, .ref f0, .ref r0, .ref w0, .ref k0, .int 0])), (n0, .inr (6, [.ref n1, .ref n2, .ref n3, .ref n4, .ref n5, .int 0])), (n2, .inl (κ 4, 3, .inr (.inr (.inr (.inr (fun _ => none)))))), (n3, .inl (κ 5, 3, .inr (.inr (.inr (.inr (fun _ => none))))))]) (fun _ : Unit => some (.long (-100000000000000))) (fun _ : Unit => True) := by
  refine cr_of (by decide +kernel) (Nat.le_of_ble_eq_true rfl) ?_
  intro p e s m args below meth c ls hx hb hr hml hts hown hlk hKK hK hI hl
  have hP : va_P D vwCl [(x0, .inr (11, [.ref n0, .ref t0, .ref f0, .ref r0, .ref w0, .ref k0, .int 0])), (n0, .inr (6, [.ref n1, .ref n2, .ref n3, .ref n4, .ref n5, .int 0])), (n2, .inl (κ 4, 3, .inr (.inr (.inr (.inr (fun _ => none)))))), (n3, .inl (κ 5, 3, .inr (.inr (.inr (.inr (fun _ => none))))))] s.heap := hI
  have hFX : FX p s m args c cX11_group 8 RX11 := ⟨hx, hb, hml, hown, hts⟩
  have hl : lv_has ls 8 [(0, .ref x0), (1, .int za), (2, .int zb), (3, .int zc), (4, .int zd), (5, .int ze)] := hl
  refine lv_aload_n hx hb dX11_group_0 rfl (lv_at hl 0 rfl) ?_
  refine va_get (D := D) (ci := 11) (v := .ref n0) (C := RX11) (T := TX11) (N := 7) hx hb hts inlX11 hown hK hP 0 rfl rfl 0 (by decide) (hts _ mw_15) (fun _ h9 => h9) rfl dX11_group_1 ?_
  refine lv_iload_n hx hb dX11_group_4 rfl (lv_at hl 1 rfl) ?_
  refine lv_iload_n hx hb dX11_group_5 rfl (lv_at hl 2 rfl) ?_
  refine cr_V (As := [.int za, .int zb]) (rest := []) hFX hKK (c_X6_stripOf l D κ n0 n1 n2 n3 n4 n5 za zb) 2 gV_X11_189 hdV_X6_stripOf rfl rfl ⟨Nat.le_of_ble_eq_true rfl, Nat.le_of_ble_eq_true rfl⟩ rfl rfl (Nat.le_of_ble_eq_true rfl) dX11_group_6 ⟨Nat.le_of_ble_eq_true rfl, Nat.le_of_ble_eq_true rfl⟩ hl.1 hP 1 6 rfl rfl rfl (hP.sub [1, 2, 3] rfl) (fun _ hp_1 => ?_)
  refine W.eq (g2 := F0 m 9 ls [.null]) rfl ?_
  refine lv_astoreN (lv' := [(6, .null), (0, .ref x0), (1, .int za), (2, .int zb), (3, .int zc), (4, .int zd), (5, .int ze)]) hx hb dX11_group_9 hl (by decide) rfl (fun ls hl => ?_)
  refine lv_aloadN hx hb dX11_group_11 (lv_at hl 0 rfl) ?_
  refine lv_ifnonnullN hx hb dX11_group_13 ?_
  refine lv_ldc2 hx hb hown (hts _ mw_1252) dX11_group_16 ?_
  exact cr_lret hx hb hr hlk () rfl trivial dX11_group_19
set_option maxHeartbeats 4000000 in
set_option maxRecDepth 100000 in
theorem c_X11_matches (l : Launch) (D : va_G) (κ : Nat → ClassId) (x0 : Nat) (n0 : Nat) (t0 : Nat) (f0 : Nat) (r0 : Nat) (w0 : Nat) (k0 : Nat) (n1 : Nat) (n2 : Nat) (n3 : Nat) (n4 : Nat) (n5 : Nat) (za : Int32) (zb : Int32) (zc : Int32) (zd : Int32) : Cr l yX11_matches (wl yX11_matches cX11_matches 8 (some .int)) { frames := 3, cells := 0, slots := 0, locals := 65 } D κ [.ref x0, .int za, .int zb, .int zc, .int zd] (va_P D vwCl [(x0, .inr (11, [.ref n0, .ref t0, .ref f0, .ref r0, .ref w0, .ref k0, .int 0])), (n0, .inr (6, [.ref n1, .ref n2, .ref n3, .ref n4, .ref n5, .int 0])), (n2, .inl (κ 4, 3, .inr (.inr (.inr (.inr (fun _ => none)))))), (n3, .inl (κ 5, 3, .inr (.inr (.inr (.inr (fun _ => none))))))]) (fun _ : Unit => some (.int (-1))) (fun _ : Unit => True) := by
  refine cr_of (by decide +kernel) (Nat.le_of_ble_eq_true rfl) ?_
  intro p e s m args below meth c ls hx hb hr hml hts hown hlk hKK hK hI hl
  have hP : va_P D vwCl [(x0, .inr (11, [.ref n0, .ref t0, .ref f0, .ref r0, .ref w0, .ref k0, .int 0])), (n0, .inr (6, [.ref n1, .ref n2, .ref n3, .ref n4, .ref n5, .int 0])), (n2, .inl (κ 4, 3, .inr (.inr (.inr (.inr (fun _ => none)))))), (n3, .inl (κ 5, 3, .inr (.inr (.inr (.inr (fun _ => none))))))] s.heap := hI
  have hFX : FX p s m args c cX11_matches 8 RX11 := ⟨hx, hb, hml, hown, hts⟩
  have hl : lv_has ls 8 [(0, .ref x0), (1, .int za), (2, .int zb), (3, .int zc), (4, .int zd)] := hl
  refine lv_aload_n hx hb dX11_matches_0 rfl (lv_at hl 0 rfl) ?_
  refine va_get (D := D) (ci := 11) (v := .ref n0) (C := RX11) (T := TX11) (N := 7) hx hb hts inlX11 hown hK hP 0 rfl rfl 0 (by decide) (hts _ mw_15) (fun _ h9 => h9) rfl dX11_matches_1 ?_
  refine lv_iload_n hx hb dX11_matches_4 rfl (lv_at hl 1 rfl) ?_
  refine lv_iload_n hx hb dX11_matches_5 rfl (lv_at hl 2 rfl) ?_
  refine cr_V (As := [.int za, .int zb]) (rest := []) hFX hKK (c_X6_stripOf l D κ n0 n1 n2 n3 n4 n5 za zb) 2 gV_X11_189 hdV_X6_stripOf rfl rfl ⟨Nat.le_of_ble_eq_true rfl, Nat.le_of_ble_eq_true rfl⟩ rfl rfl (Nat.le_of_ble_eq_true rfl) dX11_matches_6 ⟨Nat.le_of_ble_eq_true rfl, Nat.le_of_ble_eq_true rfl⟩ hl.1 hP 1 6 rfl rfl rfl (hP.sub [1, 2, 3] rfl) (fun _ hp_1 => ?_)
  refine W.eq (g2 := F0 m 9 ls [.null]) rfl ?_
  refine lv_astoreN (lv' := [(5, .null), (0, .ref x0), (1, .int za), (2, .int zb), (3, .int zc), (4, .int zd)]) hx hb dX11_matches_9 hl (by decide) rfl (fun ls hl => ?_)
  refine lv_aload_n hx hb dX11_matches_11 rfl (lv_at hl 1 rfl) ?_
  refine va_get (D := D) (ci := 11) (v := .ref n0) (C := RX11) (T := TX11) (N := 7) hx hb hts inlX11 hown hK hP 0 rfl rfl 0 (by decide) (hts _ mw_15) (fun _ h9 => h9) rfl dX11_matches_12 ?_
  refine lv_iload_n hx hb dX11_matches_15 rfl (lv_at hl 4 rfl) ?_
  refine lv_iload hx hb dX11_matches_16 (lv_at hl 5 rfl) ?_
  refine cr_V (As := [.int zc, .int zd]) (rest := []) hFX hKK (c_X6_stripOf l D κ n0 n1 n2 n3 n4 n5 zc zd) 2 gV_X11_189 hdV_X6_stripOf rfl rfl ⟨Nat.le_of_ble_eq_true rfl, Nat.le_of_ble_eq_true rfl⟩ rfl rfl (Nat.le_of_ble_eq_true rfl) dX11_matches_18 ⟨Nat.le_of_ble_eq_true rfl, Nat.le_of_ble_eq_true rfl⟩ hl.1 hP 1 6 rfl rfl rfl (hP.sub [1, 2, 3] rfl) (fun _ hp_2 => ?_)
  refine W.eq (g2 := F0 m 21 ls [.null]) rfl ?_
  refine lv_astoreN (lv' := [(6, .null), (5, .null), (0, .ref x0), (1, .int za), (2, .int zb), (3, .int zc), (4, .int zd)]) hx hb dX11_matches_21 hl (by decide) rfl (fun ls hl => ?_)
  refine lv_aloadN hx hb dX11_matches_23 (lv_at hl 1 rfl) ?_
  refine lv_ifnullN (tgt := 33) hx hb dX11_matches_25 (by decide) ?_
  refine lv_iconst (v := (-1)) hx hb dX11_matches_33 (by decide) ?_
  exact cr_iret hx hb hr hlk rfl () rfl trivial dX11_matches_34
set_option maxHeartbeats 4000000 in
set_option maxRecDepth 100000 in
theorem c_X11_differ (l : Launch) (D : va_G) (κ : Nat → ClassId) (x0 : Nat) (n0 : Nat) (t0 : Nat) (f0 : Nat) (r0 : Nat) (w0 : Nat) (k0 : Nat) (n1 : Nat) (n2 : Nat) (n3 : Nat) (n4 : Nat) (n5 : Nat) (za : Int32) (zb : Int32) : Cr l yX11_differ (wl yX11_differ cX11_differ 5 (some .int)) { frames := 2, cells := 0, slots := 0, locals := 41 } D κ [.ref x0, .int za, .int zb] (va_P D vwCl [(x0, .inr (11, [.ref n0, .ref t0, .ref f0, .ref r0, .ref w0, .ref k0, .int 0])), (n0, .inr (6, [.ref n1, .ref n2, .ref n3, .ref n4, .ref n5, .int 0])), (n2, .inl (κ 4, 3, .inr (.inr (.inr (.inr (fun _ => none))))))]) (fun _ : Unit => some (.int (-1))) (fun _ : Unit => True) := by
  refine cr_of (by decide +kernel) (Nat.le_of_ble_eq_true rfl) ?_
  intro p e s m args below meth c ls hx hb hr hml hts hown hlk hKK hK hI hl
  have hP : va_P D vwCl [(x0, .inr (11, [.ref n0, .ref t0, .ref f0, .ref r0, .ref w0, .ref k0, .int 0])), (n0, .inr (6, [.ref n1, .ref n2, .ref n3, .ref n4, .ref n5, .int 0])), (n2, .inl (κ 4, 3, .inr (.inr (.inr (.inr (fun _ => none))))))] s.heap := hI
  have hFX : FX p s m args c cX11_differ 5 RX11 := ⟨hx, hb, hml, hown, hts⟩
  have hl : lv_has ls 5 [(0, .ref x0), (1, .int za), (2, .int zb)] := hl
  refine lv_aload_n hx hb dX11_differ_0 rfl (lv_at hl 0 rfl) ?_
  refine va_get (D := D) (ci := 11) (v := .ref n0) (C := RX11) (T := TX11) (N := 7) hx hb hts inlX11 hown hK hP 0 rfl rfl 0 (by decide) (hts _ mw_15) (fun _ h9 => h9) rfl dX11_differ_1 ?_
  refine lv_iload_n hx hb dX11_differ_4 rfl (lv_at hl 1 rfl) ?_
  refine cr_V (As := [.int za]) (rest := []) hFX hKK (c_X6_sheetOf l D κ n0 n1 n2 n3 n4 n5 za) 1 gV_X11_114 hdV_X6_sheetOf rfl rfl ⟨Nat.le_of_ble_eq_true rfl, Nat.le_of_ble_eq_true rfl⟩ rfl rfl (Nat.le_of_ble_eq_true rfl) dX11_differ_5 ⟨Nat.le_of_ble_eq_true rfl, Nat.le_of_ble_eq_true rfl⟩ hl.1 hP 1 6 rfl rfl rfl (hP.sub [1, 2] rfl) (fun _ hp_1 => ?_)
  refine W.eq (g2 := F0 m 8 ls [.null]) rfl ?_
  refine lv_astore_nN (lv' := [(3, .null), (0, .ref x0), (1, .int za), (2, .int zb)]) hx hb dX11_differ_8 rfl hl (by decide) rfl (fun ls hl => ?_)
  refine lv_aload_n hx hb dX11_differ_9 rfl (lv_at hl 1 rfl) ?_
  refine va_get (D := D) (ci := 11) (v := .ref n0) (C := RX11) (T := TX11) (N := 7) hx hb hts inlX11 hown hK hP 0 rfl rfl 0 (by decide) (hts _ mw_15) (fun _ h9 => h9) rfl dX11_differ_10 ?_
  refine lv_iload_n hx hb dX11_differ_13 rfl (lv_at hl 3 rfl) ?_
  refine cr_V (As := [.int zb]) (rest := []) hFX hKK (c_X6_sheetOf l D κ n0 n1 n2 n3 n4 n5 zb) 1 gV_X11_114 hdV_X6_sheetOf rfl rfl ⟨Nat.le_of_ble_eq_true rfl, Nat.le_of_ble_eq_true rfl⟩ rfl rfl (Nat.le_of_ble_eq_true rfl) dX11_differ_14 ⟨Nat.le_of_ble_eq_true rfl, Nat.le_of_ble_eq_true rfl⟩ hl.1 hP 1 6 rfl rfl rfl (hP.sub [1, 2] rfl) (fun _ hp_2 => ?_)
  refine W.eq (g2 := F0 m 17 ls [.null]) rfl ?_
  refine lv_astoreN (lv' := [(4, .null), (3, .null), (0, .ref x0), (1, .int za), (2, .int zb)]) hx hb dX11_differ_17 hl (by decide) rfl (fun ls hl => ?_)
  refine lv_aload_nN hx hb dX11_differ_19 rfl (lv_at hl 1 rfl) ?_
  refine lv_ifnullN (tgt := 28) hx hb dX11_differ_20 (by decide) ?_
  refine lv_iconst (v := (-1)) hx hb dX11_differ_28 (by decide) ?_
  refine lv_goto (tgt := 38) hx hb dX11_differ_29 (by decide) ?_
  exact cr_iret hx hb hr hlk rfl () rfl trivial dX11_differ_38
set_option maxHeartbeats 4000000 in
set_option maxRecDepth 100000 in
theorem c_X11_write (l : Launch) (D : va_G) (κ : Nat → ClassId) (x0 : Nat) (n0 : Nat) (t0 : Nat) (f0 : Nat) (r0 : Nat) (w0 : Nat) (k0 : Nat) (n1 : Nat) (n2 : Nat) (n3 : Nat) (n4 : Nat) (n5 : Nat) (za : Int32) : Cr l yX11_write (wl yX11_write cX11_write 4 (some .int)) { frames := 2, cells := 0, slots := 0, locals := 41 } D κ [.ref x0, .int za] (va_P D vwCl [(x0, .inr (11, [.ref n0, .ref t0, .ref f0, .ref r0, .ref w0, .ref k0, .int 0])), (n0, .inr (6, [.ref n1, .ref n2, .ref n3, .ref n4, .ref n5, .int 0])), (n2, .inl (κ 4, 3, .inr (.inr (.inr (.inr (fun _ => none)))))), (n3, .inl (κ 5, 3, .inr (.inr (.inr (.inr (fun _ => none))))))]) (fun _ : Unit => some (.int (-1))) (fun _ : Unit => True) := by
  refine cr_of (by decide +kernel) (Nat.le_of_ble_eq_true rfl) ?_
  intro p e s m args below meth c ls hx hb hr hml hts hown hlk hKK hK hI hl
  have hP : va_P D vwCl [(x0, .inr (11, [.ref n0, .ref t0, .ref f0, .ref r0, .ref w0, .ref k0, .int 0])), (n0, .inr (6, [.ref n1, .ref n2, .ref n3, .ref n4, .ref n5, .int 0])), (n2, .inl (κ 4, 3, .inr (.inr (.inr (.inr (fun _ => none)))))), (n3, .inl (κ 5, 3, .inr (.inr (.inr (.inr (fun _ => none))))))] s.heap := hI
  have hFX : FX p s m args c cX11_write 4 RX11 := ⟨hx, hb, hml, hown, hts⟩
  have hl : lv_has ls 4 [(0, .ref x0), (1, .int za)] := hl
  refine lv_aload_n hx hb dX11_write_0 rfl (lv_at hl 0 rfl) ?_
  refine va_get (D := D) (ci := 11) (v := .ref n0) (C := RX11) (T := TX11) (N := 7) hx hb hts inlX11 hown hK hP 0 rfl rfl 0 (by decide) (hts _ mw_15) (fun _ h9 => h9) rfl dX11_write_1 ?_
  refine lv_iload_n hx hb dX11_write_4 rfl (lv_at hl 1 rfl) ?_
  refine cr_V (As := [.int za]) (rest := []) hFX hKK (c_X6_sheetOf l D κ n0 n1 n2 n3 n4 n5 za) 1 gV_X11_114 hdV_X6_sheetOf rfl rfl ⟨Nat.le_of_ble_eq_true rfl, Nat.le_of_ble_eq_true rfl⟩ rfl rfl (Nat.le_of_ble_eq_true rfl) dX11_write_5 ⟨Nat.le_of_ble_eq_true rfl, Nat.le_of_ble_eq_true rfl⟩ hl.1 hP 1 6 rfl rfl rfl (hP.sub [1, 2] rfl) (fun _ hp_1 => ?_)
  refine W.eq (g2 := F0 m 8 ls [.null]) rfl ?_
  refine lv_astore_nN (lv' := [(2, .null), (0, .ref x0), (1, .int za)]) hx hb dX11_write_8 rfl hl (by decide) rfl (fun ls hl => ?_)
  refine lv_aload_n hx hb dX11_write_9 rfl (lv_at hl 1 rfl) ?_
  refine va_get (D := D) (ci := 11) (v := .ref n0) (C := RX11) (T := TX11) (N := 7) hx hb hts inlX11 hown hK hP 0 rfl rfl 0 (by decide) (hts _ mw_15) (fun _ h9 => h9) rfl dX11_write_10 ?_
  refine lv_iload_n hx hb dX11_write_13 rfl (lv_at hl 2 rfl) ?_
  refine cr_V (As := [.int za]) (rest := []) hFX hKK (c_X6_topOf l D κ n0 n1 n2 n3 n4 n5 za) 1 gV_X11_231 hdV_X6_topOf rfl rfl ⟨Nat.le_of_ble_eq_true rfl, Nat.le_of_ble_eq_true rfl⟩ rfl rfl (Nat.le_of_ble_eq_true rfl) dX11_write_14 ⟨Nat.le_of_ble_eq_true rfl, Nat.le_of_ble_eq_true rfl⟩ hl.1 hP 1 6 rfl rfl rfl (hP.sub [1, 3] rfl) (fun _ hp_2 => ?_)
  refine W.eq (g2 := F0 m 17 ls [.null]) rfl ?_
  refine lv_astore_nN (lv' := [(3, .null), (2, .null), (0, .ref x0), (1, .int za)]) hx hb dX11_write_17 rfl hl (by decide) rfl (fun ls hl => ?_)
  refine lv_aload_nN hx hb dX11_write_18 rfl (lv_at hl 1 rfl) ?_
  refine lv_ifnullN (tgt := 26) hx hb dX11_write_19 (by decide) ?_
  refine lv_iconst (v := (-1)) hx hb dX11_write_26 (by decide) ?_
  exact cr_iret hx hb hr hlk rfl () rfl trivial dX11_write_27
