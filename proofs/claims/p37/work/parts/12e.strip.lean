theorem dX7_cellOf_0 : decode cX7_cellOf 0 = .ok (.aload_n 0, 1) := by decide +kernel
theorem dX7_cellOf_1 : decode cX7_cellOf 1 = .ok (.getfield 9, 3) := by decide +kernel
theorem dX7_cellOf_4 : decode cX7_cellOf 4 = .ok (.iload_n 1, 1) := by decide +kernel
theorem dX7_cellOf_5 : decode cX7_cellOf 5 = .ok (.aload_n 0, 1) := by decide +kernel
theorem dX7_cellOf_6 : decode cX7_cellOf 6 = .ok (.getfield 15, 3) := by decide +kernel
theorem dX7_cellOf_9 : decode cX7_cellOf 9 = .ok (.invokevirtual 32, 3) := by decide +kernel
theorem mw_868 : Cond.methodLink RX7 32 yX5_cellOf ∈ wsL_law := lrk_37 _ (List.mem_of_getElem? (i := 4) rfl)
theorem gV_X7_32 : GoodIn wsL_law (wsV RX7 32 RX5 yX5_cellOf (wl yX5_cellOf cX5_cellOf 3 (some (.object "TypedTables$Cell")))) := g_V mw_868 mw_748 mw_749 mw_377 mw_750
theorem dX7_cellOf_12 : decode cX7_cellOf 12 = .ok (.areturn, 1) := by decide +kernel
theorem dX7_areLike_0 : decode cX7_areLike 0 = .ok (.aload_n 0, 1) := by decide +kernel
theorem dX7_areLike_1 : decode cX7_areLike 1 = .ok (.iload_n 1, 1) := by decide +kernel
theorem dX7_areLike_2 : decode cX7_areLike 2 = .ok (.invokevirtual 36, 3) := by decide +kernel
theorem mw_867 : Cond.code yX7_cellOf cX7_cellOf 2 (some (.object "TypedTables$Cell")) ∈ wsL_law := lrk_37 _ (List.mem_of_getElem? (i := 3) rfl)
theorem mw_994 : Cond.methodLink RX7 36 yX7_cellOf ∈ wsL_law := lrk_42 _ (List.mem_of_getElem? (i := 10) rfl)
theorem mw_865 : Cond.instanceMethod yX7_cellOf ∈ wsL_law := lrk_37 _ (List.mem_of_getElem? (i := 1) rfl)
theorem mw_866 : Cond.selects RX7 yX7_cellOf yX7_cellOf ∈ wsL_law := lrk_37 _ (List.mem_of_getElem? (i := 2) rfl)
theorem gV_X7_36 : GoodIn wsL_law (wsV RX7 36 RX7 yX7_cellOf (wl yX7_cellOf cX7_cellOf 2 (some (.object "TypedTables$Cell")))) := g_V mw_994 mw_865 mw_866 mw_794 mw_867
theorem hdV_X7_cellOf : yX7_cellOf.cls = RX7 ∧ okD yX7_cellOf 1 := by decide +kernel
theorem dX7_areLike_5 : decode cX7_areLike 5 = .ok (.aload_n 0, 1) := by decide +kernel
theorem dX7_areLike_6 : decode cX7_areLike 6 = .ok (.iload_n 2, 1) := by decide +kernel
theorem dX7_areLike_7 : decode cX7_areLike 7 = .ok (.invokevirtual 36, 3) := by decide +kernel
theorem dX7_areLike_10 : decode cX7_areLike 10 = .ok (.aload_n 0, 1) := by decide +kernel
theorem dX7_areLike_11 : decode cX7_areLike 11 = .ok (.getfield 29, 3) := by decide +kernel
theorem dX7_areLike_14 : decode cX7_areLike 14 = .ok (.invokevirtual 39, 3) := by decide +kernel
theorem mw_876 : Cond.code yX0_comparedTo cX0_comparedTo 3 (some .int) ∈ wsL_law := lrk_37 _ (List.mem_of_getElem? (i := 12) rfl)
theorem mw_1008 : Cond.methodLink RX7 39 yX0_comparedTo ∈ wsL_law := lrk_43 _ (List.mem_of_getElem? (i := 0) rfl)
theorem mw_874 : Cond.instanceMethod yX0_comparedTo ∈ wsL_law := lrk_37 _ (List.mem_of_getElem? (i := 10) rfl)
theorem mw_875 : Cond.selects RX0 yX0_comparedTo yX0_comparedTo ∈ wsL_law := lrk_37 _ (List.mem_of_getElem? (i := 11) rfl)
theorem gV_X7_39 : GoodIn wsL_law (wsV RX7 39 RX0 yX0_comparedTo (wl yX0_comparedTo cX0_comparedTo 3 (some .int))) := g_V mw_1008 mw_874 mw_875 mw_68 mw_876
theorem hdV_X0_comparedTo : yX0_comparedTo.cls = RX0 ∧ okD yX0_comparedTo 2 := by decide +kernel
theorem dX7_areLike_17 : decode cX7_areLike 17 = .ok (.ifCond .ne 7, 3) := by decide +kernel
theorem dX7_areLike_24 : decode cX7_areLike 24 = .ok (.iconst 0, 1) := by decide +kernel
theorem dX7_areLike_25 : decode cX7_areLike 25 = .ok (.ireturn, 1) := by decide +kernel
theorem dX7_areLike_20 : decode cX7_areLike 20 = .ok (.iconst 1, 1) := by decide +kernel
theorem dX7_areLike_21 : decode cX7_areLike 21 = .ok (.goto 4, 3) := by decide +kernel
theorem dX7_isSo_0 : decode cX7_isSo 0 = .ok (.iload_n 1, 1) := by decide +kernel
theorem dX7_isSo_1 : decode cX7_isSo 1 = .ok (.tableswitch 99 0 5 #[39, 49, 59, 69, 79, 89], 39) := by decide +kernel
theorem dX7_isSo_100 : decode cX7_isSo 100 = .ok (.iconst 0, 1) := by decide +kernel
theorem dX7_isSo_101 : decode cX7_isSo 101 = .ok (.ireturn, 1) := by decide +kernel
theorem dX7_isSo_40 : decode cX7_isSo 40 = .ok (.iload_n 0, 1) := by decide +kernel
theorem dX7_isSo_41 : decode cX7_isSo 41 = .ok (.ifCond .ne 7, 3) := by decide +kernel
theorem dX7_isSo_48 : decode cX7_isSo 48 = .ok (.iconst 0, 1) := by decide +kernel
theorem dX7_isSo_49 : decode cX7_isSo 49 = .ok (.ireturn, 1) := by decide +kernel
theorem dX7_isSo_44 : decode cX7_isSo 44 = .ok (.iconst 1, 1) := by decide +kernel
theorem dX7_isSo_45 : decode cX7_isSo 45 = .ok (.goto 4, 3) := by decide +kernel
theorem dX7_isSo_50 : decode cX7_isSo 50 = .ok (.iload_n 0, 1) := by decide +kernel
theorem dX7_isSo_51 : decode cX7_isSo 51 = .ok (.ifCond .eq 7, 3) := by decide +kernel
theorem dX7_isSo_58 : decode cX7_isSo 58 = .ok (.iconst 0, 1) := by decide +kernel
theorem dX7_isSo_59 : decode cX7_isSo 59 = .ok (.ireturn, 1) := by decide +kernel
theorem dX7_isSo_54 : decode cX7_isSo 54 = .ok (.iconst 1, 1) := by decide +kernel
theorem dX7_isSo_55 : decode cX7_isSo 55 = .ok (.goto 4, 3) := by decide +kernel
theorem dX7_isSo_60 : decode cX7_isSo 60 = .ok (.iload_n 0, 1) := by decide +kernel
theorem dX7_isSo_61 : decode cX7_isSo 61 = .ok (.ifCond .ge 7, 3) := by decide +kernel
theorem dX7_isSo_68 : decode cX7_isSo 68 = .ok (.iconst 0, 1) := by decide +kernel
theorem dX7_isSo_69 : decode cX7_isSo 69 = .ok (.ireturn, 1) := by decide +kernel
theorem dX7_isSo_64 : decode cX7_isSo 64 = .ok (.iconst 1, 1) := by decide +kernel
theorem dX7_isSo_65 : decode cX7_isSo 65 = .ok (.goto 4, 3) := by decide +kernel
theorem dX7_isSo_70 : decode cX7_isSo 70 = .ok (.iload_n 0, 1) := by decide +kernel
theorem dX7_isSo_71 : decode cX7_isSo 71 = .ok (.ifCond .gt 7, 3) := by decide +kernel
theorem dX7_isSo_78 : decode cX7_isSo 78 = .ok (.iconst 0, 1) := by decide +kernel
theorem dX7_isSo_79 : decode cX7_isSo 79 = .ok (.ireturn, 1) := by decide +kernel
theorem dX7_isSo_74 : decode cX7_isSo 74 = .ok (.iconst 1, 1) := by decide +kernel
theorem dX7_isSo_75 : decode cX7_isSo 75 = .ok (.goto 4, 3) := by decide +kernel
theorem dX7_isSo_80 : decode cX7_isSo 80 = .ok (.iload_n 0, 1) := by decide +kernel
theorem dX7_isSo_81 : decode cX7_isSo 81 = .ok (.ifCond .le 7, 3) := by decide +kernel
theorem dX7_isSo_88 : decode cX7_isSo 88 = .ok (.iconst 0, 1) := by decide +kernel
theorem dX7_isSo_89 : decode cX7_isSo 89 = .ok (.ireturn, 1) := by decide +kernel
theorem dX7_isSo_84 : decode cX7_isSo 84 = .ok (.iconst 1, 1) := by decide +kernel
theorem dX7_isSo_85 : decode cX7_isSo 85 = .ok (.goto 4, 3) := by decide +kernel
theorem dX7_isSo_90 : decode cX7_isSo 90 = .ok (.iload_n 0, 1) := by decide +kernel
theorem dX7_isSo_91 : decode cX7_isSo 91 = .ok (.ifCond .lt 7, 3) := by decide +kernel
theorem dX7_isSo_98 : decode cX7_isSo 98 = .ok (.iconst 0, 1) := by decide +kernel
theorem dX7_isSo_99 : decode cX7_isSo 99 = .ok (.ireturn, 1) := by decide +kernel
theorem dX7_isSo_94 : decode cX7_isSo 94 = .ok (.iconst 1, 1) := by decide +kernel
theorem dX7_isSo_95 : decode cX7_isSo 95 = .ok (.goto 4, 3) := by decide +kernel
theorem dX7_fits_0 : decode cX7_fits 0 = .ok (.iload_n 2, 1) := by decide +kernel
theorem dX7_fits_1 : decode cX7_fits 1 = .ok (.bipush 7, 2) := by decide +kernel
theorem dX7_fits_3 : decode cX7_fits 3 = .ok (.if_icmp .ne 8, 3) := by decide +kernel
theorem dX7_fits_11 : decode cX7_fits 11 = .ok (.aload_n 1, 1) := by decide +kernel
theorem dX7_fits_12 : decode cX7_fits 12 = .ok (.invokevirtual 55, 3) := by decide +kernel
theorem mw_999 : Cond.methodLink RX7 55 yX0_isEmpty ∈ wsL_law := lrk_42 _ (List.mem_of_getElem? (i := 15) rfl)
theorem gV_X7_55 : GoodIn wsL_law (wsV RX7 55 RX0 yX0_isEmpty (wl yX0_isEmpty cX0_isEmpty 1 (some .boolean))) := g_V mw_999 mw_870 mw_871 mw_68 mw_872
theorem dX7_fits_15 : decode cX7_fits 15 = .ok (.ifCond .ne 7, 3) := by decide +kernel
theorem dX7_fits_22 : decode cX7_fits 22 = .ok (.iconst 0, 1) := by decide +kernel
theorem dX7_fits_23 : decode cX7_fits 23 = .ok (.ireturn, 1) := by decide +kernel
theorem dX7_fits_18 : decode cX7_fits 18 = .ok (.aload_n 3, 1) := by decide +kernel
theorem dX7_fits_19 : decode cX7_fits 19 = .ok (.ifnonnull 5, 3) := by decide +kernel
theorem dX7_fits_24 : decode cX7_fits 24 = .ok (.iload_n 2, 1) := by decide +kernel
theorem dX7_fits_25 : decode cX7_fits 25 = .ok (.bipush 6, 2) := by decide +kernel
theorem dX7_fits_27 : decode cX7_fits 27 = .ok (.if_icmp .ne 11, 3) := by decide +kernel
theorem dX7_fits_38 : decode cX7_fits 38 = .ok (.aload_n 1, 1) := by decide +kernel
theorem dX7_fits_39 : decode cX7_fits 39 = .ok (.aload_n 3, 1) := by decide +kernel
theorem dX7_fits_40 : decode cX7_fits 40 = .ok (.aload_n 0, 1) := by decide +kernel
theorem dX7_fits_41 : decode cX7_fits 41 = .ok (.getfield 29, 3) := by decide +kernel
theorem dX7_fits_44 : decode cX7_fits 44 = .ok (.invokevirtual 39, 3) := by decide +kernel
theorem dX7_fits_47 : decode cX7_fits 47 = .ok (.iload_n 2, 1) := by decide +kernel
theorem dX7_fits_48 : decode cX7_fits 48 = .ok (.invokestatic 63, 3) := by decide +kernel
theorem mw_1011 : Cond.code yX7_isSo cX7_isSo 2 (some .boolean) ∈ wsL_law := lrk_43 _ (List.mem_of_getElem? (i := 3) rfl)
theorem mw_1009 : Cond.methodLink RX7 63 yX7_isSo ∈ wsL_law := lrk_43 _ (List.mem_of_getElem? (i := 1) rfl)
theorem mw_1010 : Cond.static yX7_isSo ∈ wsL_law := lrk_43 _ (List.mem_of_getElem? (i := 2) rfl)
theorem gS_X7_63 : GoodIn wsL_law (va_wsS RX7 63 yX7_isSo (wl yX7_isSo cX7_isSo 2 (some .boolean))) := g_S mw_1009 mw_1010 mw_794 mw_1011
theorem hdS_X7_isSo : okD yX7_isSo 2 := by decide +kernel
theorem dX7_fits_51 : decode cX7_fits 51 = .ok (.ireturn, 1) := by decide +kernel
theorem dX7_fits_30 : decode cX7_fits 30 = .ok (.aload_n 1, 1) := by decide +kernel
theorem dX7_fits_31 : decode cX7_fits 31 = .ok (.aload_n 3, 1) := by decide +kernel
theorem dX7_fits_32 : decode cX7_fits 32 = .ok (.invokevirtual 59, 3) := by decide +kernel
theorem mw_1003 : Cond.code yX0_holdsBytesOf cX0_holdsBytesOf 4 (some .boolean) ∈ wsL_law := lrk_42 _ (List.mem_of_getElem? (i := 19) rfl)
theorem mw_1000 : Cond.methodLink RX7 59 yX0_holdsBytesOf ∈ wsL_law := lrk_42 _ (List.mem_of_getElem? (i := 16) rfl)
theorem mw_1001 : Cond.instanceMethod yX0_holdsBytesOf ∈ wsL_law := lrk_42 _ (List.mem_of_getElem? (i := 17) rfl)
theorem mw_1002 : Cond.selects RX0 yX0_holdsBytesOf yX0_holdsBytesOf ∈ wsL_law := lrk_42 _ (List.mem_of_getElem? (i := 18) rfl)
theorem gV_X7_59 : GoodIn wsL_law (wsV RX7 59 RX0 yX0_holdsBytesOf (wl yX0_holdsBytesOf cX0_holdsBytesOf 4 (some .boolean))) := g_V mw_1000 mw_1001 mw_1002 mw_68 mw_1003
theorem hdV_X0_holdsBytesOf : yX0_holdsBytesOf.cls = RX0 ∧ okD yX0_holdsBytesOf 1 := by decide +kernel
theorem dX7_fits_35 : decode cX7_fits 35 = .ok (.goto 16, 3) := by decide +kernel
theorem dX7_fits_6 : decode cX7_fits 6 = .ok (.aload_n 1, 1) := by decide +kernel
theorem dX7_fits_7 : decode cX7_fits 7 = .ok (.invokevirtual 55, 3) := by decide +kernel
theorem dX7_fits_10 : decode cX7_fits 10 = .ok (.ireturn, 1) := by decide +kernel
theorem dX7_comesAhead_0 : decode cX7_comesAhead 0 = .ok (.aload_n 1, 1) := by decide +kernel
theorem dX7_comesAhead_1 : decode cX7_comesAhead 1 = .ok (.invokevirtual 55, 3) := by decide +kernel
theorem dX7_comesAhead_4 : decode cX7_comesAhead 4 = .ok (.ifCond .ne 10, 3) := by decide +kernel
theorem dX7_comesAhead_14 : decode cX7_comesAhead 14 = .ok (.aload_n 1, 1) := by decide +kernel
theorem dX7_comesAhead_15 : decode cX7_comesAhead 15 = .ok (.invokevirtual 55, 3) := by decide +kernel
theorem dX7_comesAhead_18 : decode cX7_comesAhead 18 = .ok (.ifCond .eq 14, 3) := by decide +kernel
theorem dX7_comesAhead_21 : decode cX7_comesAhead 21 = .ok (.aload_n 2, 1) := by decide +kernel
theorem dX7_comesAhead_22 : decode cX7_comesAhead 22 = .ok (.invokevirtual 55, 3) := by decide +kernel
theorem dX7_comesAhead_25 : decode cX7_comesAhead 25 = .ok (.ifCond .ne 7, 3) := by decide +kernel
theorem dX7_comesAhead_32 : decode cX7_comesAhead 32 = .ok (.iconst 0, 1) := by decide +kernel
theorem dX7_comesAhead_33 : decode cX7_comesAhead 33 = .ok (.ireturn, 1) := by decide +kernel
theorem dX7_comesAhead_28 : decode cX7_comesAhead 28 = .ok (.iconst 1, 1) := by decide +kernel
theorem dX7_comesAhead_29 : decode cX7_comesAhead 29 = .ok (.goto 4, 3) := by decide +kernel
theorem dX7_comesAhead_7 : decode cX7_comesAhead 7 = .ok (.aload_n 2, 1) := by decide +kernel
theorem dX7_comesAhead_8 : decode cX7_comesAhead 8 = .ok (.invokevirtual 55, 3) := by decide +kernel
theorem dX7_comesAhead_11 : decode cX7_comesAhead 11 = .ok (.ifCond .eq 23, 3) := by decide +kernel
theorem dX7_comesAhead_34 : decode cX7_comesAhead 34 = .ok (.aload_n 1, 1) := by decide +kernel
theorem dX7_comesAhead_35 : decode cX7_comesAhead 35 = .ok (.aload_n 2, 1) := by decide +kernel
theorem dX7_comesAhead_36 : decode cX7_comesAhead 36 = .ok (.aload_n 0, 1) := by decide +kernel
theorem dX7_comesAhead_37 : decode cX7_comesAhead 37 = .ok (.getfield 29, 3) := by decide +kernel
theorem dX7_comesAhead_40 : decode cX7_comesAhead 40 = .ok (.invokevirtual 39, 3) := by decide +kernel
theorem dX7_comesAhead_43 : decode cX7_comesAhead 43 = .ok (.istore 4, 2) := by decide +kernel
theorem dX7_comesAhead_45 : decode cX7_comesAhead 45 = .ok (.iload_n 3, 1) := by decide +kernel
theorem dX7_comesAhead_46 : decode cX7_comesAhead 46 = .ok (.ifCond .eq 16, 3) := by decide +kernel
theorem dX7_comesAhead_62 : decode cX7_comesAhead 62 = .ok (.iload 4, 2) := by decide +kernel
theorem dX7_comesAhead_64 : decode cX7_comesAhead 64 = .ok (.ifCond .ge 7, 3) := by decide +kernel
theorem dX7_comesAhead_71 : decode cX7_comesAhead 71 = .ok (.iconst 0, 1) := by decide +kernel
theorem dX7_comesAhead_72 : decode cX7_comesAhead 72 = .ok (.ireturn, 1) := by decide +kernel
theorem dX7_comesAhead_67 : decode cX7_comesAhead 67 = .ok (.iconst 1, 1) := by decide +kernel
theorem dX7_comesAhead_68 : decode cX7_comesAhead 68 = .ok (.goto 4, 3) := by decide +kernel
theorem dX7_comesAhead_49 : decode cX7_comesAhead 49 = .ok (.iload 4, 2) := by decide +kernel
theorem dX7_comesAhead_51 : decode cX7_comesAhead 51 = .ok (.ifCond .le 7, 3) := by decide +kernel
theorem dX7_comesAhead_58 : decode cX7_comesAhead 58 = .ok (.iconst 0, 1) := by decide +kernel
theorem dX7_comesAhead_59 : decode cX7_comesAhead 59 = .ok (.goto 13, 3) := by decide +kernel
theorem dX7_comesAhead_54 : decode cX7_comesAhead 54 = .ok (.iconst 1, 1) := by decide +kernel
theorem dX7_comesAhead_55 : decode cX7_comesAhead 55 = .ok (.goto 17, 3) := by decide +kernel
theorem dX7_narrowed_0 : decode cX7_narrowed 0 = .ok (.aload_n 0, 1) := by decide +kernel
theorem dX7_narrowed_1 : decode cX7_narrowed 1 = .ok (.getfield 19, 3) := by decide +kernel
theorem dX7_narrowed_4 : decode cX7_narrowed 4 = .ok (.arraylength, 1) := by decide +kernel
theorem dX7_narrowed_5 : decode cX7_narrowed 5 = .ok (.newarray .int, 2) := by decide +kernel
theorem dX7_narrowed_7 : decode cX7_narrowed 7 = .ok (.astore_n 3, 1) := by decide +kernel
theorem dX7_narrowed_8 : decode cX7_narrowed 8 = .ok (.iconst 0, 1) := by decide +kernel
theorem dX7_narrowed_9 : decode cX7_narrowed 9 = .ok (.istore 4, 2) := by decide +kernel
theorem dX7_narrowed_11 : decode cX7_narrowed 11 = .ok (.iconst 0, 1) := by decide +kernel
theorem dX7_narrowed_12 : decode cX7_narrowed 12 = .ok (.istore 5, 2) := by decide +kernel
theorem dX7_narrowed_14 : decode cX7_narrowed 14 = .ok (.iload 5, 2) := by decide +kernel
theorem dX7_narrowed_16 : decode cX7_narrowed 16 = .ok (.aload_n 0, 1) := by decide +kernel
theorem dX7_narrowed_17 : decode cX7_narrowed 17 = .ok (.getfield 19, 3) := by decide +kernel
theorem dX7_narrowed_20 : decode cX7_narrowed 20 = .ok (.arraylength, 1) := by decide +kernel
theorem dX7_narrowed_21 : decode cX7_narrowed 21 = .ok (.if_icmp .ge 43, 3) := by decide +kernel
theorem dX7_narrowed_64 : decode cX7_narrowed 64 = .ok (.aload_n 3, 1) := by decide +kernel
theorem dX7_narrowed_65 : decode cX7_narrowed 65 = .ok (.iload 4, 2) := by decide +kernel
theorem dX7_narrowed_67 : decode cX7_narrowed 67 = .ok (.invokestatic 49, 3) := by decide +kernel
theorem mw_1014 : Cond.code yJ7_copyOf_59c91 cJ7_copyOf_59c91 3 (some (.array .int)) ∈ wsL_law := lrk_43 _ (List.mem_of_getElem? (i := 6) rfl)
theorem mw_1012 : Cond.methodLink RX7 49 yJ7_copyOf_59c91 ∈ wsL_law := lrk_43 _ (List.mem_of_getElem? (i := 4) rfl)
theorem mw_1013 : Cond.static yJ7_copyOf_59c91 ∈ wsL_law := lrk_43 _ (List.mem_of_getElem? (i := 5) rfl)
theorem gS_X7_49 : GoodIn wsL_law (va_wsS RX7 49 yJ7_copyOf_59c91 (wl yJ7_copyOf_59c91 cJ7_copyOf_59c91 3 (some (.array .int)))) := g_S mw_1012 mw_1013 mw_308 mw_1014
theorem hdS_J7_copyOf_59c91 : okD yJ7_copyOf_59c91 2 := by decide +kernel
theorem dX7_narrowed_70 : decode cX7_narrowed 70 = .ok (.areturn, 1) := by decide +kernel
theorem dX7_narrowed_24 : decode cX7_narrowed 24 = .ok (.aload_n 0, 1) := by decide +kernel
theorem dX7_narrowed_25 : decode cX7_narrowed 25 = .ok (.aload_n 0, 1) := by decide +kernel
theorem dX7_narrowed_26 : decode cX7_narrowed 26 = .ok (.aload_n 0, 1) := by decide +kernel
theorem dX7_narrowed_27 : decode cX7_narrowed 27 = .ok (.getfield 19, 3) := by decide +kernel
theorem dX7_narrowed_30 : decode cX7_narrowed 30 = .ok (.iload 5, 2) := by decide +kernel
theorem dX7_narrowed_32 : decode cX7_narrowed 32 = .ok (.iaload, 1) := by decide +kernel
theorem dX7_narrowed_33 : decode cX7_narrowed 33 = .ok (.invokevirtual 36, 3) := by decide +kernel
theorem dX7_narrowed_36 : decode cX7_narrowed 36 = .ok (.iload_n 1, 1) := by decide +kernel
theorem dX7_narrowed_37 : decode cX7_narrowed 37 = .ok (.aload_n 2, 1) := by decide +kernel
theorem dX7_narrowed_38 : decode cX7_narrowed 38 = .ok (.invokevirtual 45, 3) := by decide +kernel
theorem mw_998 : Cond.code yX7_fits cX7_fits 4 (some .boolean) ∈ wsL_law := lrk_42 _ (List.mem_of_getElem? (i := 14) rfl)
theorem mw_995 : Cond.methodLink RX7 45 yX7_fits ∈ wsL_law := lrk_42 _ (List.mem_of_getElem? (i := 11) rfl)
theorem mw_996 : Cond.instanceMethod yX7_fits ∈ wsL_law := lrk_42 _ (List.mem_of_getElem? (i := 12) rfl)
theorem mw_997 : Cond.selects RX7 yX7_fits yX7_fits ∈ wsL_law := lrk_42 _ (List.mem_of_getElem? (i := 13) rfl)
theorem gV_X7_45 : GoodIn wsL_law (wsV RX7 45 RX7 yX7_fits (wl yX7_fits cX7_fits 4 (some .boolean))) := g_V mw_995 mw_996 mw_997 mw_794 mw_998
theorem hdV_X7_fits : yX7_fits.cls = RX7 ∧ okD yX7_fits 3 := by decide +kernel
theorem dX7_narrowed_41 : decode cX7_narrowed 41 = .ok (.ifCond .eq 17, 3) := by decide +kernel
theorem dX7_narrowed_44 : decode cX7_narrowed 44 = .ok (.aload_n 3, 1) := by decide +kernel
theorem dX7_narrowed_45 : decode cX7_narrowed 45 = .ok (.iload 4, 2) := by decide +kernel
theorem dX7_narrowed_47 : decode cX7_narrowed 47 = .ok (.aload_n 0, 1) := by decide +kernel
theorem dX7_narrowed_48 : decode cX7_narrowed 48 = .ok (.getfield 19, 3) := by decide +kernel
theorem dX7_narrowed_51 : decode cX7_narrowed 51 = .ok (.iload 5, 2) := by decide +kernel
theorem dX7_narrowed_53 : decode cX7_narrowed 53 = .ok (.iaload, 1) := by decide +kernel
theorem dX7_narrowed_54 : decode cX7_narrowed 54 = .ok (.iastore, 1) := by decide +kernel
theorem dX7_narrowed_55 : decode cX7_narrowed 55 = .ok (.iinc 4 1, 3) := by decide +kernel
theorem dX7_narrowed_58 : decode cX7_narrowed 58 = .ok (.iinc 5 1, 3) := by decide +kernel
theorem dX7_narrowed_61 : decode cX7_narrowed 61 = .ok (.goto (-47), 3) := by decide +kernel
theorem dX7_isLikeOneOf_0 : decode cX7_isLikeOneOf 0 = .ok (.iconst 0, 1) := by decide +kernel
theorem dX7_isLikeOneOf_1 : decode cX7_isLikeOneOf 1 = .ok (.istore 4, 2) := by decide +kernel
theorem dX7_isLikeOneOf_3 : decode cX7_isLikeOneOf 3 = .ok (.iload 4, 2) := by decide +kernel
theorem dX7_isLikeOneOf_5 : decode cX7_isLikeOneOf 5 = .ok (.iload_n 3, 1) := by decide +kernel
theorem dX7_isLikeOneOf_6 : decode cX7_isLikeOneOf 6 = .ok (.if_icmp .ge 23, 3) := by decide +kernel
theorem dX7_isLikeOneOf_29 : decode cX7_isLikeOneOf 29 = .ok (.iconst 0, 1) := by decide +kernel
theorem dX7_isLikeOneOf_30 : decode cX7_isLikeOneOf 30 = .ok (.ireturn, 1) := by decide +kernel
theorem dX7_isLikeOneOf_9 : decode cX7_isLikeOneOf 9 = .ok (.aload_n 0, 1) := by decide +kernel
theorem dX7_isLikeOneOf_10 : decode cX7_isLikeOneOf 10 = .ok (.iload_n 1, 1) := by decide +kernel
theorem dX7_isLikeOneOf_11 : decode cX7_isLikeOneOf 11 = .ok (.aload_n 2, 1) := by decide +kernel
theorem dX7_isLikeOneOf_12 : decode cX7_isLikeOneOf 12 = .ok (.iload 4, 2) := by decide +kernel
theorem dX7_isLikeOneOf_14 : decode cX7_isLikeOneOf 14 = .ok (.iaload, 1) := by decide +kernel
theorem dX7_isLikeOneOf_15 : decode cX7_isLikeOneOf 15 = .ok (.invokevirtual 75, 3) := by decide +kernel
theorem mw_1109 : Cond.code yX7_areLike cX7_areLike 3 (some .boolean) ∈ wsL_law := lrk_47 _ (List.mem_of_getElem? (i := 5) rfl)
theorem mw_1106 : Cond.methodLink RX7 75 yX7_areLike ∈ wsL_law := lrk_47 _ (List.mem_of_getElem? (i := 2) rfl)
theorem mw_1107 : Cond.instanceMethod yX7_areLike ∈ wsL_law := lrk_47 _ (List.mem_of_getElem? (i := 3) rfl)
theorem mw_1108 : Cond.selects RX7 yX7_areLike yX7_areLike ∈ wsL_law := lrk_47 _ (List.mem_of_getElem? (i := 4) rfl)
theorem gV_X7_75 : GoodIn wsL_law (wsV RX7 75 RX7 yX7_areLike (wl yX7_areLike cX7_areLike 3 (some .boolean))) := g_V mw_1106 mw_1107 mw_1108 mw_794 mw_1109
theorem hdV_X7_areLike : yX7_areLike.cls = RX7 ∧ okD yX7_areLike 2 := by decide +kernel
theorem dX7_isLikeOneOf_18 : decode cX7_isLikeOneOf 18 = .ok (.ifCond .eq 5, 3) := by decide +kernel
theorem dX7_isLikeOneOf_21 : decode cX7_isLikeOneOf 21 = .ok (.iconst 1, 1) := by decide +kernel
theorem dX7_isLikeOneOf_22 : decode cX7_isLikeOneOf 22 = .ok (.ireturn, 1) := by decide +kernel
theorem dX7_isLikeOneOf_23 : decode cX7_isLikeOneOf 23 = .ok (.iinc 4 1, 3) := by decide +kernel
theorem dX7_isLikeOneOf_26 : decode cX7_isLikeOneOf 26 = .ok (.goto (-23), 3) := by decide +kernel
theorem dX7_firsts_0 : decode cX7_firsts 0 = .ok (.aload_n 0, 1) := by decide +kernel
theorem dX7_firsts_1 : decode cX7_firsts 1 = .ok (.getfield 19, 3) := by decide +kernel
theorem dX7_firsts_4 : decode cX7_firsts 4 = .ok (.arraylength, 1) := by decide +kernel
theorem dX7_firsts_5 : decode cX7_firsts 5 = .ok (.newarray .int, 2) := by decide +kernel
theorem dX7_firsts_7 : decode cX7_firsts 7 = .ok (.astore_n 1, 1) := by decide +kernel
theorem dX7_firsts_8 : decode cX7_firsts 8 = .ok (.iconst 0, 1) := by decide +kernel
theorem dX7_firsts_9 : decode cX7_firsts 9 = .ok (.istore_n 2, 1) := by decide +kernel
theorem dX7_firsts_10 : decode cX7_firsts 10 = .ok (.iconst 0, 1) := by decide +kernel
theorem dX7_firsts_11 : decode cX7_firsts 11 = .ok (.istore_n 3, 1) := by decide +kernel
theorem dX7_firsts_12 : decode cX7_firsts 12 = .ok (.iload_n 3, 1) := by decide +kernel
theorem dX7_firsts_13 : decode cX7_firsts 13 = .ok (.aload_n 0, 1) := by decide +kernel
theorem dX7_firsts_14 : decode cX7_firsts 14 = .ok (.getfield 19, 3) := by decide +kernel
theorem dX7_firsts_17 : decode cX7_firsts 17 = .ok (.arraylength, 1) := by decide +kernel
theorem dX7_firsts_18 : decode cX7_firsts 18 = .ok (.if_icmp .ge 36, 3) := by decide +kernel
theorem dX7_firsts_54 : decode cX7_firsts 54 = .ok (.aload_n 1, 1) := by decide +kernel
theorem dX7_firsts_55 : decode cX7_firsts 55 = .ok (.iload_n 2, 1) := by decide +kernel
theorem dX7_firsts_56 : decode cX7_firsts 56 = .ok (.invokestatic 49, 3) := by decide +kernel
theorem dX7_firsts_59 : decode cX7_firsts 59 = .ok (.areturn, 1) := by decide +kernel
theorem dX7_firsts_21 : decode cX7_firsts 21 = .ok (.aload_n 0, 1) := by decide +kernel
theorem dX7_firsts_22 : decode cX7_firsts 22 = .ok (.aload_n 0, 1) := by decide +kernel
theorem dX7_firsts_23 : decode cX7_firsts 23 = .ok (.getfield 19, 3) := by decide +kernel
theorem dX7_firsts_26 : decode cX7_firsts 26 = .ok (.iload_n 3, 1) := by decide +kernel
theorem dX7_firsts_27 : decode cX7_firsts 27 = .ok (.iaload, 1) := by decide +kernel
theorem dX7_firsts_28 : decode cX7_firsts 28 = .ok (.aload_n 1, 1) := by decide +kernel
theorem dX7_firsts_29 : decode cX7_firsts 29 = .ok (.iload_n 2, 1) := by decide +kernel
theorem dX7_firsts_30 : decode cX7_firsts 30 = .ok (.invokevirtual 71, 3) := by decide +kernel
theorem mw_1105 : Cond.code yX7_isLikeOneOf cX7_isLikeOneOf 5 (some .boolean) ∈ wsL_law := lrk_47 _ (List.mem_of_getElem? (i := 1) rfl)
theorem mw_1102 : Cond.methodLink RX7 71 yX7_isLikeOneOf ∈ wsL_law := lrk_46 _ (List.mem_of_getElem? (i := 22) rfl)
theorem mw_1103 : Cond.instanceMethod yX7_isLikeOneOf ∈ wsL_law := lrk_46 _ (List.mem_of_getElem? (i := 23) rfl)
theorem mw_1104 : Cond.selects RX7 yX7_isLikeOneOf yX7_isLikeOneOf ∈ wsL_law := lrk_47 _ (List.mem_of_getElem? (i := 0) rfl)
theorem gV_X7_71 : GoodIn wsL_law (wsV RX7 71 RX7 yX7_isLikeOneOf (wl yX7_isLikeOneOf cX7_isLikeOneOf 5 (some .boolean))) := g_V mw_1102 mw_1103 mw_1104 mw_794 mw_1105
theorem hdV_X7_isLikeOneOf : yX7_isLikeOneOf.cls = RX7 ∧ okD yX7_isLikeOneOf 3 := by decide +kernel
theorem dX7_firsts_33 : decode cX7_firsts 33 = .ok (.ifCond .ne 15, 3) := by decide +kernel
theorem dX7_firsts_48 : decode cX7_firsts 48 = .ok (.iinc 3 1, 3) := by decide +kernel
theorem dX7_firsts_51 : decode cX7_firsts 51 = .ok (.goto (-39), 3) := by decide +kernel
theorem dX7_firsts_36 : decode cX7_firsts 36 = .ok (.aload_n 1, 1) := by decide +kernel
theorem dX7_firsts_37 : decode cX7_firsts 37 = .ok (.iload_n 2, 1) := by decide +kernel
theorem dX7_firsts_38 : decode cX7_firsts 38 = .ok (.aload_n 0, 1) := by decide +kernel
theorem dX7_firsts_39 : decode cX7_firsts 39 = .ok (.getfield 19, 3) := by decide +kernel
theorem dX7_firsts_42 : decode cX7_firsts 42 = .ok (.iload_n 3, 1) := by decide +kernel
theorem dX7_firsts_43 : decode cX7_firsts 43 = .ok (.iaload, 1) := by decide +kernel
theorem dX7_firsts_44 : decode cX7_firsts 44 = .ok (.iastore, 1) := by decide +kernel
theorem dX7_firsts_45 : decode cX7_firsts 45 = .ok (.iinc 2 1, 3) := by decide +kernel
theorem dX7_rowsLike_0 : decode cX7_rowsLike 0 = .ok (.aload_n 0, 1) := by decide +kernel
theorem dX7_rowsLike_1 : decode cX7_rowsLike 1 = .ok (.getfield 19, 3) := by decide +kernel
theorem dX7_rowsLike_4 : decode cX7_rowsLike 4 = .ok (.arraylength, 1) := by decide +kernel
theorem dX7_rowsLike_5 : decode cX7_rowsLike 5 = .ok (.newarray .int, 2) := by decide +kernel
theorem dX7_rowsLike_7 : decode cX7_rowsLike 7 = .ok (.astore_n 2, 1) := by decide +kernel
theorem dX7_rowsLike_8 : decode cX7_rowsLike 8 = .ok (.iconst 0, 1) := by decide +kernel
theorem dX7_rowsLike_9 : decode cX7_rowsLike 9 = .ok (.istore_n 3, 1) := by decide +kernel
theorem dX7_rowsLike_10 : decode cX7_rowsLike 10 = .ok (.iconst 0, 1) := by decide +kernel
theorem dX7_rowsLike_11 : decode cX7_rowsLike 11 = .ok (.istore 4, 2) := by decide +kernel
theorem dX7_rowsLike_13 : decode cX7_rowsLike 13 = .ok (.iload 4, 2) := by decide +kernel
theorem dX7_rowsLike_15 : decode cX7_rowsLike 15 = .ok (.aload_n 0, 1) := by decide +kernel
theorem dX7_rowsLike_16 : decode cX7_rowsLike 16 = .ok (.getfield 19, 3) := by decide +kernel
theorem dX7_rowsLike_19 : decode cX7_rowsLike 19 = .ok (.arraylength, 1) := by decide +kernel
theorem dX7_rowsLike_20 : decode cX7_rowsLike 20 = .ok (.if_icmp .ge 37, 3) := by decide +kernel
theorem dX7_rowsLike_57 : decode cX7_rowsLike 57 = .ok (.aload_n 2, 1) := by decide +kernel
theorem dX7_rowsLike_58 : decode cX7_rowsLike 58 = .ok (.iload_n 3, 1) := by decide +kernel
theorem dX7_rowsLike_59 : decode cX7_rowsLike 59 = .ok (.invokestatic 49, 3) := by decide +kernel
theorem dX7_rowsLike_62 : decode cX7_rowsLike 62 = .ok (.areturn, 1) := by decide +kernel
theorem dX7_rowsLike_23 : decode cX7_rowsLike 23 = .ok (.aload_n 0, 1) := by decide +kernel
theorem dX7_rowsLike_24 : decode cX7_rowsLike 24 = .ok (.aload_n 0, 1) := by decide +kernel
theorem dX7_rowsLike_25 : decode cX7_rowsLike 25 = .ok (.getfield 19, 3) := by decide +kernel
theorem dX7_rowsLike_28 : decode cX7_rowsLike 28 = .ok (.iload 4, 2) := by decide +kernel
theorem dX7_rowsLike_30 : decode cX7_rowsLike 30 = .ok (.iaload, 1) := by decide +kernel
theorem dX7_rowsLike_31 : decode cX7_rowsLike 31 = .ok (.iload_n 1, 1) := by decide +kernel
theorem dX7_rowsLike_32 : decode cX7_rowsLike 32 = .ok (.invokevirtual 75, 3) := by decide +kernel
theorem dX7_rowsLike_35 : decode cX7_rowsLike 35 = .ok (.ifCond .eq 16, 3) := by decide +kernel
theorem dX7_rowsLike_38 : decode cX7_rowsLike 38 = .ok (.aload_n 2, 1) := by decide +kernel
theorem dX7_rowsLike_39 : decode cX7_rowsLike 39 = .ok (.iload_n 3, 1) := by decide +kernel
theorem dX7_rowsLike_40 : decode cX7_rowsLike 40 = .ok (.aload_n 0, 1) := by decide +kernel
theorem dX7_rowsLike_41 : decode cX7_rowsLike 41 = .ok (.getfield 19, 3) := by decide +kernel
theorem dX7_rowsLike_44 : decode cX7_rowsLike 44 = .ok (.iload 4, 2) := by decide +kernel
theorem dX7_rowsLike_46 : decode cX7_rowsLike 46 = .ok (.iaload, 1) := by decide +kernel
theorem dX7_rowsLike_47 : decode cX7_rowsLike 47 = .ok (.iastore, 1) := by decide +kernel
theorem dX7_rowsLike_48 : decode cX7_rowsLike 48 = .ok (.iinc 3 1, 3) := by decide +kernel
theorem dX7_rowsLike_51 : decode cX7_rowsLike 51 = .ok (.iinc 4 1, 3) := by decide +kernel
theorem dX7_rowsLike_54 : decode cX7_rowsLike 54 = .ok (.goto (-41), 3) := by decide +kernel
theorem dX7_filled_0 : decode cX7_filled 0 = .ok (.aload_n 0, 1) := by decide +kernel
theorem dX7_filled_1 : decode cX7_filled 1 = .ok (.getfield 19, 3) := by decide +kernel
theorem dX7_filled_4 : decode cX7_filled 4 = .ok (.arraylength, 1) := by decide +kernel
theorem dX7_filled_5 : decode cX7_filled 5 = .ok (.newarray .int, 2) := by decide +kernel
theorem dX7_filled_7 : decode cX7_filled 7 = .ok (.astore_n 1, 1) := by decide +kernel
theorem dX7_filled_8 : decode cX7_filled 8 = .ok (.iconst 0, 1) := by decide +kernel
theorem dX7_filled_9 : decode cX7_filled 9 = .ok (.istore_n 2, 1) := by decide +kernel
theorem dX7_filled_10 : decode cX7_filled 10 = .ok (.iconst 0, 1) := by decide +kernel
theorem dX7_filled_11 : decode cX7_filled 11 = .ok (.istore_n 3, 1) := by decide +kernel
theorem dX7_filled_12 : decode cX7_filled 12 = .ok (.iload_n 3, 1) := by decide +kernel
theorem dX7_filled_13 : decode cX7_filled 13 = .ok (.aload_n 0, 1) := by decide +kernel
theorem dX7_filled_14 : decode cX7_filled 14 = .ok (.getfield 19, 3) := by decide +kernel
theorem dX7_filled_17 : decode cX7_filled 17 = .ok (.arraylength, 1) := by decide +kernel
theorem dX7_filled_18 : decode cX7_filled 18 = .ok (.if_icmp .ge 37, 3) := by decide +kernel
theorem dX7_filled_55 : decode cX7_filled 55 = .ok (.new 10, 3) := by decide +kernel
theorem mw_1278 : Cond.classLink RX7 10 RX7 ∈ wsL_law := lrk_54 _ (List.mem_of_getElem? (i := 6) rfl)
theorem dX7_filled_58 : decode cX7_filled 58 = .ok (.dup, 1) := by decide +kernel
theorem dX7_filled_59 : decode cX7_filled 59 = .ok (.aload_n 0, 1) := by decide +kernel
theorem dX7_filled_60 : decode cX7_filled 60 = .ok (.getfield 9, 3) := by decide +kernel
theorem dX7_filled_63 : decode cX7_filled 63 = .ok (.aload_n 0, 1) := by decide +kernel
theorem dX7_filled_64 : decode cX7_filled 64 = .ok (.getfield 15, 3) := by decide +kernel
theorem dX7_filled_67 : decode cX7_filled 67 = .ok (.aload_n 1, 1) := by decide +kernel
theorem dX7_filled_68 : decode cX7_filled 68 = .ok (.iload_n 2, 1) := by decide +kernel
theorem dX7_filled_69 : decode cX7_filled 69 = .ok (.invokestatic 49, 3) := by decide +kernel
theorem dX7_filled_72 : decode cX7_filled 72 = .ok (.invokespecial 78, 3) := by decide +kernel
theorem mw_1279 : Cond.methodLink RX7 78 yX7_init ∈ wsL_law := lrk_54 _ (List.mem_of_getElem? (i := 7) rfl)
theorem dX7_filled_75 : decode cX7_filled 75 = .ok (.areturn, 1) := by decide +kernel
theorem dX7_filled_21 : decode cX7_filled 21 = .ok (.aload_n 0, 1) := by decide +kernel
theorem dX7_filled_22 : decode cX7_filled 22 = .ok (.aload_n 0, 1) := by decide +kernel
theorem dX7_filled_23 : decode cX7_filled 23 = .ok (.getfield 19, 3) := by decide +kernel
theorem dX7_filled_26 : decode cX7_filled 26 = .ok (.iload_n 3, 1) := by decide +kernel
theorem dX7_filled_27 : decode cX7_filled 27 = .ok (.iaload, 1) := by decide +kernel
theorem dX7_filled_28 : decode cX7_filled 28 = .ok (.invokevirtual 36, 3) := by decide +kernel
theorem dX7_filled_31 : decode cX7_filled 31 = .ok (.invokevirtual 55, 3) := by decide +kernel
theorem dX7_filled_34 : decode cX7_filled 34 = .ok (.ifCond .ne 15, 3) := by decide +kernel
theorem dX7_filled_49 : decode cX7_filled 49 = .ok (.iinc 3 1, 3) := by decide +kernel
theorem dX7_filled_52 : decode cX7_filled 52 = .ok (.goto (-40), 3) := by decide +kernel
theorem dX7_filled_37 : decode cX7_filled 37 = .ok (.aload_n 1, 1) := by decide +kernel
theorem dX7_filled_38 : decode cX7_filled 38 = .ok (.iload_n 2, 1) := by decide +kernel
theorem dX7_filled_39 : decode cX7_filled 39 = .ok (.aload_n 0, 1) := by decide +kernel
theorem dX7_filled_40 : decode cX7_filled 40 = .ok (.getfield 19, 3) := by decide +kernel
theorem dX7_filled_43 : decode cX7_filled 43 = .ok (.iload_n 3, 1) := by decide +kernel
theorem dX7_filled_44 : decode cX7_filled 44 = .ok (.iaload, 1) := by decide +kernel
theorem dX7_filled_45 : decode cX7_filled 45 = .ok (.iastore, 1) := by decide +kernel
theorem dX7_filled_46 : decode cX7_filled 46 = .ok (.iinc 2 1, 3) := by decide +kernel
theorem dX7_ordered_0 : decode cX7_ordered 0 = .ok (.aload_n 0, 1) := by decide +kernel
theorem dX7_ordered_1 : decode cX7_ordered 1 = .ok (.getfield 19, 3) := by decide +kernel
theorem dX7_ordered_4 : decode cX7_ordered 4 = .ok (.aload_n 0, 1) := by decide +kernel
theorem dX7_ordered_5 : decode cX7_ordered 5 = .ok (.getfield 19, 3) := by decide +kernel
theorem dX7_ordered_8 : decode cX7_ordered 8 = .ok (.arraylength, 1) := by decide +kernel
theorem dX7_ordered_9 : decode cX7_ordered 9 = .ok (.invokestatic 49, 3) := by decide +kernel
theorem dX7_ordered_12 : decode cX7_ordered 12 = .ok (.astore_n 2, 1) := by decide +kernel
theorem dX7_ordered_13 : decode cX7_ordered 13 = .ok (.iconst 1, 1) := by decide +kernel
theorem dX7_ordered_14 : decode cX7_ordered 14 = .ok (.istore_n 3, 1) := by decide +kernel
theorem dX7_ordered_15 : decode cX7_ordered 15 = .ok (.iload_n 3, 1) := by decide +kernel
theorem dX7_ordered_16 : decode cX7_ordered 16 = .ok (.aload_n 2, 1) := by decide +kernel
theorem dX7_ordered_17 : decode cX7_ordered 17 = .ok (.arraylength, 1) := by decide +kernel
theorem dX7_ordered_18 : decode cX7_ordered 18 = .ok (.if_icmp .ge 68, 3) := by decide +kernel
theorem dX7_ordered_86 : decode cX7_ordered 86 = .ok (.aload_n 2, 1) := by decide +kernel
theorem dX7_ordered_87 : decode cX7_ordered 87 = .ok (.areturn, 1) := by decide +kernel
theorem dX7_ordered_21 : decode cX7_ordered 21 = .ok (.aload_n 2, 1) := by decide +kernel
theorem dX7_ordered_22 : decode cX7_ordered 22 = .ok (.iload_n 3, 1) := by decide +kernel
theorem dX7_ordered_23 : decode cX7_ordered 23 = .ok (.iaload, 1) := by decide +kernel
theorem dX7_ordered_24 : decode cX7_ordered 24 = .ok (.istore 4, 2) := by decide +kernel
theorem dX7_ordered_26 : decode cX7_ordered 26 = .ok (.iload_n 3, 1) := by decide +kernel
theorem dX7_ordered_27 : decode cX7_ordered 27 = .ok (.istore 5, 2) := by decide +kernel
theorem dX7_ordered_29 : decode cX7_ordered 29 = .ok (.iload 5, 2) := by decide +kernel
theorem dX7_ordered_31 : decode cX7_ordered 31 = .ok (.ifCond .le 43, 3) := by decide +kernel
theorem dX7_ordered_74 : decode cX7_ordered 74 = .ok (.aload_n 2, 1) := by decide +kernel
theorem dX7_ordered_75 : decode cX7_ordered 75 = .ok (.iload 5, 2) := by decide +kernel
theorem dX7_ordered_77 : decode cX7_ordered 77 = .ok (.iload 4, 2) := by decide +kernel
theorem dX7_ordered_79 : decode cX7_ordered 79 = .ok (.iastore, 1) := by decide +kernel
theorem dX7_ordered_80 : decode cX7_ordered 80 = .ok (.iinc 3 1, 3) := by decide +kernel
theorem dX7_ordered_83 : decode cX7_ordered 83 = .ok (.goto (-68), 3) := by decide +kernel
theorem dX7_ordered_34 : decode cX7_ordered 34 = .ok (.aload_n 0, 1) := by decide +kernel
theorem dX7_ordered_35 : decode cX7_ordered 35 = .ok (.aload_n 0, 1) := by decide +kernel
theorem dX7_ordered_36 : decode cX7_ordered 36 = .ok (.iload 4, 2) := by decide +kernel
theorem dX7_ordered_38 : decode cX7_ordered 38 = .ok (.invokevirtual 36, 3) := by decide +kernel
theorem dX7_ordered_41 : decode cX7_ordered 41 = .ok (.aload_n 0, 1) := by decide +kernel
theorem dX7_ordered_42 : decode cX7_ordered 42 = .ok (.aload_n 2, 1) := by decide +kernel
theorem dX7_ordered_43 : decode cX7_ordered 43 = .ok (.iload 5, 2) := by decide +kernel
theorem dX7_ordered_45 : decode cX7_ordered 45 = .ok (.iconst 1, 1) := by decide +kernel
theorem dX7_ordered_46 : decode cX7_ordered 46 = .ok (.isub, 1) := by decide +kernel
theorem dX7_ordered_47 : decode cX7_ordered 47 = .ok (.iaload, 1) := by decide +kernel
theorem dX7_ordered_48 : decode cX7_ordered 48 = .ok (.invokevirtual 36, 3) := by decide +kernel
theorem dX7_ordered_51 : decode cX7_ordered 51 = .ok (.iload_n 1, 1) := by decide +kernel
theorem dX7_ordered_52 : decode cX7_ordered 52 = .ok (.invokevirtual 67, 3) := by decide +kernel
theorem mw_1057 : Cond.code yX7_comesAhead cX7_comesAhead 5 (some .boolean) ∈ wsL_law := lrk_45 _ (List.mem_of_getElem? (i := 1) rfl)
theorem mw_1054 : Cond.methodLink RX7 67 yX7_comesAhead ∈ wsL_law := lrk_44 _ (List.mem_of_getElem? (i := 22) rfl)
theorem mw_1055 : Cond.instanceMethod yX7_comesAhead ∈ wsL_law := lrk_44 _ (List.mem_of_getElem? (i := 23) rfl)
theorem mw_1056 : Cond.selects RX7 yX7_comesAhead yX7_comesAhead ∈ wsL_law := lrk_45 _ (List.mem_of_getElem? (i := 0) rfl)
theorem gV_X7_67 : GoodIn wsL_law (wsV RX7 67 RX7 yX7_comesAhead (wl yX7_comesAhead cX7_comesAhead 5 (some .boolean))) := g_V mw_1054 mw_1055 mw_1056 mw_794 mw_1057
theorem hdV_X7_comesAhead : yX7_comesAhead.cls = RX7 ∧ okD yX7_comesAhead 3 := by decide +kernel
theorem dX7_ordered_55 : decode cX7_ordered 55 = .ok (.ifCond .eq 19, 3) := by decide +kernel
theorem dX7_ordered_58 : decode cX7_ordered 58 = .ok (.aload_n 2, 1) := by decide +kernel
theorem dX7_ordered_59 : decode cX7_ordered 59 = .ok (.iload 5, 2) := by decide +kernel
theorem dX7_ordered_61 : decode cX7_ordered 61 = .ok (.aload_n 2, 1) := by decide +kernel
theorem dX7_ordered_62 : decode cX7_ordered 62 = .ok (.iload 5, 2) := by decide +kernel
theorem dX7_ordered_64 : decode cX7_ordered 64 = .ok (.iconst 1, 1) := by decide +kernel
theorem dX7_ordered_65 : decode cX7_ordered 65 = .ok (.isub, 1) := by decide +kernel
theorem dX7_ordered_66 : decode cX7_ordered 66 = .ok (.iaload, 1) := by decide +kernel
theorem dX7_ordered_67 : decode cX7_ordered 67 = .ok (.iastore, 1) := by decide +kernel
theorem dX7_ordered_68 : decode cX7_ordered 68 = .ok (.iinc 5 (-1), 3) := by decide +kernel
theorem dX7_ordered_71 : decode cX7_ordered 71 = .ok (.goto (-42), 3) := by decide +kernel
theorem dX7_sum_0 : decode cX7_sum 0 = .ok (.aload_n 0, 1) := by decide +kernel
theorem dX7_sum_1 : decode cX7_sum 1 = .ok (.getfield 29, 3) := by decide +kernel
theorem dX7_sum_4 : decode cX7_sum 4 = .ok (.iconst 1, 1) := by decide +kernel
theorem dX7_sum_5 : decode cX7_sum 5 = .ok (.if_icmp .eq 23, 3) := by decide +kernel
theorem dX7_sum_28 : decode cX7_sum 28 = .ok (.lconst 0, 1) := by decide +kernel
theorem dX7_sum_29 : decode cX7_sum 29 = .ok (.lstore_n 1, 1) := by decide +kernel
theorem dX7_sum_30 : decode cX7_sum 30 = .ok (.iconst 0, 1) := by decide +kernel
theorem dX7_sum_31 : decode cX7_sum 31 = .ok (.istore_n 3, 1) := by decide +kernel
theorem dX7_sum_32 : decode cX7_sum 32 = .ok (.iload_n 3, 1) := by decide +kernel
theorem dX7_sum_33 : decode cX7_sum 33 = .ok (.aload_n 0, 1) := by decide +kernel
theorem dX7_sum_34 : decode cX7_sum 34 = .ok (.getfield 19, 3) := by decide +kernel
theorem dX7_sum_37 : decode cX7_sum 37 = .ok (.arraylength, 1) := by decide +kernel
theorem dX7_sum_38 : decode cX7_sum 38 = .ok (.if_icmp .ge 45, 3) := by decide +kernel
theorem dX7_sum_83 : decode cX7_sum 83 = .ok (.lload_n 1, 1) := by decide +kernel
theorem dX7_sum_84 : decode cX7_sum 84 = .ok (.lreturn, 1) := by decide +kernel
theorem dX7_sum_41 : decode cX7_sum 41 = .ok (.aload_n 0, 1) := by decide +kernel
theorem dX7_sum_42 : decode cX7_sum 42 = .ok (.aload_n 0, 1) := by decide +kernel
theorem dX7_sum_43 : decode cX7_sum 43 = .ok (.getfield 19, 3) := by decide +kernel
theorem dX7_sum_46 : decode cX7_sum 46 = .ok (.iload_n 3, 1) := by decide +kernel
theorem dX7_sum_47 : decode cX7_sum 47 = .ok (.iaload, 1) := by decide +kernel
theorem dX7_sum_48 : decode cX7_sum 48 = .ok (.invokevirtual 36, 3) := by decide +kernel
theorem dX7_sum_51 : decode cX7_sum 51 = .ok (.astore 4, 2) := by decide +kernel
theorem dX7_sum_53 : decode cX7_sum 53 = .ok (.lload_n 1, 1) := by decide +kernel
theorem dX7_sum_54 : decode cX7_sum 54 = .ok (.aload 4, 2) := by decide +kernel
theorem dX7_sum_56 : decode cX7_sum 56 = .ok (.invokevirtual 55, 3) := by decide +kernel
theorem dX7_sum_59 : decode cX7_sum 59 = .ok (.ifCond .eq 7, 3) := by decide +kernel
theorem dX7_sum_62 : decode cX7_sum 62 = .ok (.lconst 0, 1) := by decide +kernel
theorem dX7_sum_63 : decode cX7_sum 63 = .ok (.goto 12, 3) := by decide +kernel
theorem dX7_sum_75 : decode cX7_sum 75 = .ok (.ladd, 1) := by decide +kernel
theorem dX7_sum_76 : decode cX7_sum 76 = .ok (.lstore_n 1, 1) := by decide +kernel
theorem dX7_sum_77 : decode cX7_sum 77 = .ok (.iinc 3 1, 3) := by decide +kernel
theorem dX7_sum_80 : decode cX7_sum 80 = .ok (.goto (-48), 3) := by decide +kernel
theorem dX7_sum_66 : decode cX7_sum 66 = .ok (.aload 4, 2) := by decide +kernel
theorem dX7_sum_68 : decode cX7_sum 68 = .ok (.aload_n 0, 1) := by decide +kernel
theorem dX7_sum_69 : decode cX7_sum 69 = .ok (.getfield 29, 3) := by decide +kernel
theorem dX7_sum_72 : decode cX7_sum 72 = .ok (.invokevirtual 83, 3) := by decide +kernel
theorem mw_1285 : Cond.methodLink RX7 83 yX0_numberAs ∈ wsL_law := lrk_54 _ (List.mem_of_getElem? (i := 13) rfl)
theorem gV_X7_83 : GoodIn wsL_law (wsV RX7 83 RX0 yX0_numberAs (wl yX0_numberAs cX0_numberAs 2 (some .long))) := g_V mw_1285 mw_888 mw_889 mw_68 mw_890
theorem dX7_sum_8 : decode cX7_sum 8 = .ok (.aload_n 0, 1) := by decide +kernel
theorem dX7_sum_9 : decode cX7_sum 9 = .ok (.getfield 29, 3) := by decide +kernel
theorem dX7_sum_12 : decode cX7_sum 12 = .ok (.iconst 2, 1) := by decide +kernel
theorem dX7_sum_13 : decode cX7_sum 13 = .ok (.if_icmp .eq 15, 3) := by decide +kernel
theorem dX7_sum_16 : decode cX7_sum 16 = .ok (.aload_n 0, 1) := by decide +kernel
theorem dX7_sum_17 : decode cX7_sum 17 = .ok (.getfield 29, 3) := by decide +kernel
theorem dX7_sum_20 : decode cX7_sum 20 = .ok (.iconst 3, 1) := by decide +kernel
theorem dX7_sum_21 : decode cX7_sum 21 = .ok (.if_icmp .eq 7, 3) := by decide +kernel
theorem dX7_sum_24 : decode cX7_sum 24 = .ok (.ldc2_w 81, 3) := by decide +kernel
theorem mw_1284 : Cond.constantLong RX7 81 (-100000000000000) ∈ wsL_law := lrk_54 _ (List.mem_of_getElem? (i := 12) rfl)
theorem dX7_sum_27 : decode cX7_sum 27 = .ok (.lreturn, 1) := by decide +kernel
theorem dX7_countLike_0 : decode cX7_countLike 0 = .ok (.iconst 0, 1) := by decide +kernel
theorem dX7_countLike_1 : decode cX7_countLike 1 = .ok (.istore_n 2, 1) := by decide +kernel
theorem dX7_countLike_2 : decode cX7_countLike 2 = .ok (.iconst 0, 1) := by decide +kernel
theorem dX7_countLike_3 : decode cX7_countLike 3 = .ok (.istore_n 3, 1) := by decide +kernel
theorem dX7_countLike_4 : decode cX7_countLike 4 = .ok (.iload_n 3, 1) := by decide +kernel
theorem dX7_countLike_5 : decode cX7_countLike 5 = .ok (.aload_n 0, 1) := by decide +kernel
theorem dX7_countLike_6 : decode cX7_countLike 6 = .ok (.getfield 19, 3) := by decide +kernel
theorem dX7_countLike_9 : decode cX7_countLike 9 = .ok (.arraylength, 1) := by decide +kernel
theorem dX7_countLike_10 : decode cX7_countLike 10 = .ok (.if_icmp .ge 31, 3) := by decide +kernel
theorem dX7_countLike_41 : decode cX7_countLike 41 = .ok (.iload_n 2, 1) := by decide +kernel
theorem dX7_countLike_42 : decode cX7_countLike 42 = .ok (.ireturn, 1) := by decide +kernel
theorem dX7_countLike_13 : decode cX7_countLike 13 = .ok (.iload_n 2, 1) := by decide +kernel
theorem dX7_countLike_14 : decode cX7_countLike 14 = .ok (.aload_n 0, 1) := by decide +kernel
theorem dX7_countLike_15 : decode cX7_countLike 15 = .ok (.aload_n 0, 1) := by decide +kernel
theorem dX7_countLike_16 : decode cX7_countLike 16 = .ok (.getfield 19, 3) := by decide +kernel
theorem dX7_countLike_19 : decode cX7_countLike 19 = .ok (.iload_n 3, 1) := by decide +kernel
theorem dX7_countLike_20 : decode cX7_countLike 20 = .ok (.iaload, 1) := by decide +kernel
theorem dX7_countLike_21 : decode cX7_countLike 21 = .ok (.iload_n 1, 1) := by decide +kernel
theorem dX7_countLike_22 : decode cX7_countLike 22 = .ok (.invokevirtual 75, 3) := by decide +kernel
theorem dX7_countLike_25 : decode cX7_countLike 25 = .ok (.ifCond .eq 7, 3) := by decide +kernel
theorem dX7_countLike_28 : decode cX7_countLike 28 = .ok (.iconst 1, 1) := by decide +kernel
theorem dX7_countLike_29 : decode cX7_countLike 29 = .ok (.goto 4, 3) := by decide +kernel
theorem dX7_countLike_33 : decode cX7_countLike 33 = .ok (.iadd, 1) := by decide +kernel
theorem dX7_countLike_34 : decode cX7_countLike 34 = .ok (.istore_n 2, 1) := by decide +kernel
theorem dX7_countLike_35 : decode cX7_countLike 35 = .ok (.iinc 3 1, 3) := by decide +kernel
theorem dX7_countLike_38 : decode cX7_countLike 38 = .ok (.goto (-34), 3) := by decide +kernel
theorem dX7_countLike_32 : decode cX7_countLike 32 = .ok (.iconst 0, 1) := by decide +kernel
theorem dX7_extremeRow_0 : decode cX7_extremeRow 0 = .ok (.iconst (-1), 1) := by decide +kernel
theorem dX7_extremeRow_1 : decode cX7_extremeRow 1 = .ok (.istore_n 2, 1) := by decide +kernel
theorem dX7_extremeRow_2 : decode cX7_extremeRow 2 = .ok (.iconst 0, 1) := by decide +kernel
theorem dX7_extremeRow_3 : decode cX7_extremeRow 3 = .ok (.istore_n 3, 1) := by decide +kernel
theorem dX7_extremeRow_4 : decode cX7_extremeRow 4 = .ok (.iload_n 3, 1) := by decide +kernel
theorem dX7_extremeRow_5 : decode cX7_extremeRow 5 = .ok (.aload_n 0, 1) := by decide +kernel
theorem dX7_extremeRow_6 : decode cX7_extremeRow 6 = .ok (.getfield 19, 3) := by decide +kernel
theorem dX7_extremeRow_9 : decode cX7_extremeRow 9 = .ok (.arraylength, 1) := by decide +kernel
theorem dX7_extremeRow_10 : decode cX7_extremeRow 10 = .ok (.if_icmp .ge 44, 3) := by decide +kernel
theorem dX7_extremeRow_54 : decode cX7_extremeRow 54 = .ok (.iload_n 2, 1) := by decide +kernel
theorem dX7_extremeRow_55 : decode cX7_extremeRow 55 = .ok (.ireturn, 1) := by decide +kernel
theorem dX7_extremeRow_13 : decode cX7_extremeRow 13 = .ok (.iload_n 2, 1) := by decide +kernel
theorem dX7_extremeRow_14 : decode cX7_extremeRow 14 = .ok (.iconst (-1), 1) := by decide +kernel
theorem dX7_extremeRow_15 : decode cX7_extremeRow 15 = .ok (.if_icmp .eq 26, 3) := by decide +kernel
theorem dX7_extremeRow_41 : decode cX7_extremeRow 41 = .ok (.aload_n 0, 1) := by decide +kernel
theorem dX7_extremeRow_42 : decode cX7_extremeRow 42 = .ok (.getfield 19, 3) := by decide +kernel
theorem dX7_extremeRow_45 : decode cX7_extremeRow 45 = .ok (.iload_n 3, 1) := by decide +kernel
theorem dX7_extremeRow_46 : decode cX7_extremeRow 46 = .ok (.iaload, 1) := by decide +kernel
theorem dX7_extremeRow_47 : decode cX7_extremeRow 47 = .ok (.istore_n 2, 1) := by decide +kernel
theorem dX7_extremeRow_48 : decode cX7_extremeRow 48 = .ok (.iinc 3 1, 3) := by decide +kernel
theorem dX7_extremeRow_51 : decode cX7_extremeRow 51 = .ok (.goto (-47), 3) := by decide +kernel
theorem dX7_extremeRow_18 : decode cX7_extremeRow 18 = .ok (.aload_n 0, 1) := by decide +kernel
theorem dX7_extremeRow_19 : decode cX7_extremeRow 19 = .ok (.aload_n 0, 1) := by decide +kernel
theorem dX7_extremeRow_20 : decode cX7_extremeRow 20 = .ok (.aload_n 0, 1) := by decide +kernel
theorem dX7_extremeRow_21 : decode cX7_extremeRow 21 = .ok (.getfield 19, 3) := by decide +kernel
theorem dX7_extremeRow_24 : decode cX7_extremeRow 24 = .ok (.iload_n 3, 1) := by decide +kernel
theorem dX7_extremeRow_25 : decode cX7_extremeRow 25 = .ok (.iaload, 1) := by decide +kernel
theorem dX7_extremeRow_26 : decode cX7_extremeRow 26 = .ok (.invokevirtual 36, 3) := by decide +kernel
theorem dX7_extremeRow_29 : decode cX7_extremeRow 29 = .ok (.aload_n 0, 1) := by decide +kernel
theorem dX7_extremeRow_30 : decode cX7_extremeRow 30 = .ok (.iload_n 2, 1) := by decide +kernel
theorem dX7_extremeRow_31 : decode cX7_extremeRow 31 = .ok (.invokevirtual 36, 3) := by decide +kernel
theorem dX7_extremeRow_34 : decode cX7_extremeRow 34 = .ok (.iload_n 1, 1) := by decide +kernel
theorem dX7_extremeRow_35 : decode cX7_extremeRow 35 = .ok (.invokevirtual 67, 3) := by decide +kernel
theorem dX7_extremeRow_38 : decode cX7_extremeRow 38 = .ok (.ifCond .eq 10, 3) := by decide +kernel
theorem dX7_leastRow_0 : decode cX7_leastRow 0 = .ok (.aload_n 0, 1) := by decide +kernel
theorem dX7_leastRow_1 : decode cX7_leastRow 1 = .ok (.iconst 0, 1) := by decide +kernel
theorem dX7_leastRow_2 : decode cX7_leastRow 2 = .ok (.invokevirtual 99, 3) := by decide +kernel
theorem mw_1293 : Cond.code yX7_extremeRow cX7_extremeRow 4 (some .int) ∈ wsL_law := lrk_54 _ (List.mem_of_getElem? (i := 21) rfl)
theorem mw_1290 : Cond.methodLink RX7 99 yX7_extremeRow ∈ wsL_law := lrk_54 _ (List.mem_of_getElem? (i := 18) rfl)
theorem mw_1291 : Cond.instanceMethod yX7_extremeRow ∈ wsL_law := lrk_54 _ (List.mem_of_getElem? (i := 19) rfl)
theorem mw_1292 : Cond.selects RX7 yX7_extremeRow yX7_extremeRow ∈ wsL_law := lrk_54 _ (List.mem_of_getElem? (i := 20) rfl)
theorem gV_X7_99 : GoodIn wsL_law (wsV RX7 99 RX7 yX7_extremeRow (wl yX7_extremeRow cX7_extremeRow 4 (some .int))) := g_V mw_1290 mw_1291 mw_1292 mw_794 mw_1293
theorem hdV_X7_extremeRow : yX7_extremeRow.cls = RX7 ∧ okD yX7_extremeRow 1 := by decide +kernel
theorem dX7_leastRow_5 : decode cX7_leastRow 5 = .ok (.ireturn, 1) := by decide +kernel
theorem dX7_greatestRow_0 : decode cX7_greatestRow 0 = .ok (.aload_n 0, 1) := by decide +kernel
theorem dX7_greatestRow_1 : decode cX7_greatestRow 1 = .ok (.iconst 1, 1) := by decide +kernel
theorem dX7_greatestRow_2 : decode cX7_greatestRow 2 = .ok (.invokevirtual 99, 3) := by decide +kernel
theorem dX7_greatestRow_5 : decode cX7_greatestRow 5 = .ok (.ireturn, 1) := by decide +kernel
theorem dX7_medianRow_0 : decode cX7_medianRow 0 = .ok (.aload_n 0, 1) := by decide +kernel
theorem dX7_medianRow_1 : decode cX7_medianRow 1 = .ok (.getfield 19, 3) := by decide +kernel
theorem dX7_medianRow_4 : decode cX7_medianRow 4 = .ok (.arraylength, 1) := by decide +kernel
theorem dX7_medianRow_5 : decode cX7_medianRow 5 = .ok (.ifCond .ne 7, 3) := by decide +kernel
theorem dX7_medianRow_12 : decode cX7_medianRow 12 = .ok (.aload_n 0, 1) := by decide +kernel
theorem dX7_medianRow_13 : decode cX7_medianRow 13 = .ok (.iconst 0, 1) := by decide +kernel
theorem dX7_medianRow_14 : decode cX7_medianRow 14 = .ok (.invokevirtual 103, 3) := by decide +kernel
theorem mw_1053 : Cond.code yX7_ordered cX7_ordered 6 (some (.array .int)) ∈ wsL_law := lrk_44 _ (List.mem_of_getElem? (i := 21) rfl)
theorem mw_1302 : Cond.methodLink RX7 103 yX7_ordered ∈ wsL_law := lrk_55 _ (List.mem_of_getElem? (i := 6) rfl)
theorem mw_1051 : Cond.instanceMethod yX7_ordered ∈ wsL_law := lrk_44 _ (List.mem_of_getElem? (i := 19) rfl)
theorem mw_1052 : Cond.selects RX7 yX7_ordered yX7_ordered ∈ wsL_law := lrk_44 _ (List.mem_of_getElem? (i := 20) rfl)
theorem gV_X7_103 : GoodIn wsL_law (wsV RX7 103 RX7 yX7_ordered (wl yX7_ordered cX7_ordered 6 (some (.array .int)))) := g_V mw_1302 mw_1051 mw_1052 mw_794 mw_1053
theorem hdV_X7_ordered : yX7_ordered.cls = RX7 ∧ okD yX7_ordered 1 := by decide +kernel
theorem dX7_medianRow_17 : decode cX7_medianRow 17 = .ok (.aload_n 0, 1) := by decide +kernel
theorem dX7_medianRow_18 : decode cX7_medianRow 18 = .ok (.getfield 19, 3) := by decide +kernel
theorem dX7_medianRow_21 : decode cX7_medianRow 21 = .ok (.arraylength, 1) := by decide +kernel
theorem dX7_medianRow_22 : decode cX7_medianRow 22 = .ok (.iconst 2, 1) := by decide +kernel
theorem dX7_medianRow_23 : decode cX7_medianRow 23 = .ok (.idiv, 1) := by decide +kernel
theorem dX7_medianRow_24 : decode cX7_medianRow 24 = .ok (.iaload, 1) := by decide +kernel
theorem dX7_medianRow_25 : decode cX7_medianRow 25 = .ok (.ireturn, 1) := by decide +kernel
theorem dX7_medianRow_8 : decode cX7_medianRow 8 = .ok (.iconst (-1), 1) := by decide +kernel
theorem dX7_medianRow_9 : decode cX7_medianRow 9 = .ok (.goto 16, 3) := by decide +kernel
theorem dX7_sumLike_0 : decode cX7_sumLike 0 = .ok (.aload_n 0, 1) := by decide +kernel
theorem dX7_sumLike_1 : decode cX7_sumLike 1 = .ok (.getfield 9, 3) := by decide +kernel
theorem dX7_sumLike_4 : decode cX7_sumLike 4 = .ok (.iload_n 2, 1) := by decide +kernel
theorem dX7_sumLike_5 : decode cX7_sumLike 5 = .ok (.invokevirtual 87, 3) := by decide +kernel
theorem mw_1357 : Cond.methodLink RX7 87 yX5_hasColumn ∈ wsL_law := lrk_57 _ (List.mem_of_getElem? (i := 13) rfl)
theorem gV_X7_87 : GoodIn wsL_law (wsV RX7 87 RX5 yX5_hasColumn (wl yX5_hasColumn cX5_hasColumn 2 (some .boolean))) := g_V mw_1357 mw_585 mw_586 mw_377 mw_587
theorem dX7_sumLike_8 : decode cX7_sumLike 8 = .ok (.ifCond .eq 26, 3) := by decide +kernel
theorem dX7_sumLike_11 : decode cX7_sumLike 11 = .ok (.new 10, 3) := by decide +kernel
theorem dX7_sumLike_14 : decode cX7_sumLike 14 = .ok (.dup, 1) := by decide +kernel
theorem dX7_sumLike_15 : decode cX7_sumLike 15 = .ok (.aload_n 0, 1) := by decide +kernel
theorem dX7_sumLike_16 : decode cX7_sumLike 16 = .ok (.getfield 9, 3) := by decide +kernel
theorem dX7_sumLike_19 : decode cX7_sumLike 19 = .ok (.iload_n 2, 1) := by decide +kernel
theorem dX7_sumLike_20 : decode cX7_sumLike 20 = .ok (.aload_n 0, 1) := by decide +kernel
theorem dX7_sumLike_21 : decode cX7_sumLike 21 = .ok (.iload_n 1, 1) := by decide +kernel
theorem dX7_sumLike_22 : decode cX7_sumLike 22 = .ok (.invokevirtual 91, 3) := by decide +kernel
theorem mw_1361 : Cond.code yX7_rowsLike cX7_rowsLike 5 (some (.array .int)) ∈ wsL_law := lrk_57 _ (List.mem_of_getElem? (i := 17) rfl)
theorem mw_1358 : Cond.methodLink RX7 91 yX7_rowsLike ∈ wsL_law := lrk_57 _ (List.mem_of_getElem? (i := 14) rfl)
theorem mw_1359 : Cond.instanceMethod yX7_rowsLike ∈ wsL_law := lrk_57 _ (List.mem_of_getElem? (i := 15) rfl)
theorem mw_1360 : Cond.selects RX7 yX7_rowsLike yX7_rowsLike ∈ wsL_law := lrk_57 _ (List.mem_of_getElem? (i := 16) rfl)
theorem gV_X7_91 : GoodIn wsL_law (wsV RX7 91 RX7 yX7_rowsLike (wl yX7_rowsLike cX7_rowsLike 5 (some (.array .int)))) := g_V mw_1358 mw_1359 mw_1360 mw_794 mw_1361
theorem hdV_X7_rowsLike : yX7_rowsLike.cls = RX7 ∧ okD yX7_rowsLike 1 := by decide +kernel
theorem dX7_sumLike_25 : decode cX7_sumLike 25 = .ok (.invokespecial 78, 3) := by decide +kernel
theorem dX7_sumLike_28 : decode cX7_sumLike 28 = .ok (.invokevirtual 95, 3) := by decide +kernel
theorem mw_1283 : Cond.code yX7_sum cX7_sum 5 (some .long) ∈ wsL_law := lrk_54 _ (List.mem_of_getElem? (i := 11) rfl)
theorem mw_1362 : Cond.methodLink RX7 95 yX7_sum ∈ wsL_law := lrk_57 _ (List.mem_of_getElem? (i := 18) rfl)
theorem mw_1281 : Cond.instanceMethod yX7_sum ∈ wsL_law := lrk_54 _ (List.mem_of_getElem? (i := 9) rfl)
theorem mw_1282 : Cond.selects RX7 yX7_sum yX7_sum ∈ wsL_law := lrk_54 _ (List.mem_of_getElem? (i := 10) rfl)
theorem gV_X7_95 : GoodIn wsL_law (wsV RX7 95 RX7 yX7_sum (wl yX7_sum cX7_sum 5 (some .long))) := g_V mw_1362 mw_1281 mw_1282 mw_794 mw_1283
theorem hdV_X7_sum : yX7_sum.cls = RX7 ∧ okD yX7_sum 0 := by decide +kernel
theorem dX7_sumLike_31 : decode cX7_sumLike 31 = .ok (.goto 6, 3) := by decide +kernel
theorem dX7_sumLike_37 : decode cX7_sumLike 37 = .ok (.lreturn, 1) := by decide +kernel
theorem dX7_sumLike_34 : decode cX7_sumLike 34 = .ok (.ldc2_w 81, 3) := by decide +kernel
set_option maxHeartbeats 4000000 in
set_option maxRecDepth 100000 in
theorem c_X7_cellOf (l : Launch) (D : va_G) (κ : Nat → ClassId) (κq : Nat → Nat) (im : va_W) (q : Nat) (S : Nat) (R : Nat) (w : Nat) (co : Nat) (ra : Nat) (mq : Nat) (ty : Nat) (r9 : Nat) (hsp : Sp κ im q S R w co ra mq ty) (hr9 : r9 < R) : Er l yX7_cellOf (wl yX7_cellOf cX7_cellOf 2 (some (.object "TypedTables$Cell"))) { frames := 1, cells := 0, slots := 0, locals := 22 } D κ κq [.ref q, .int (nI r9)] ([] ++ im) (fun r : Option Nat => some (va_rf r)) (fun r : Option Nat => ((∃ (p : Nat), ∃ (k : Nat), ∃ (n : Nat), r = some p ∧ Cl κ im p k n))) := by
  refine er_of (by decide +kernel) (Nat.le_of_ble_eq_true rfl) ?_
  intro p e s m args below meth c A ls hx hb hr hml hts hown hlk hKK hK hP hE hl
  have hS : va_S A s.heap s.heap [] := va_S.rf
  have hP : va_P D vwCl ([] ++ im) s.heap := hP
  have hFX : FX p s m args c cX7_cellOf 2 RX7 := ⟨hx, hb, hml, hown, hts⟩
  have hl : lv_has ls 2 [(0, .ref q), (1, .int (nI r9))] := hl
  obtain ⟨h_1, h_2, hm_3, h_4, h_5⟩ := id hsp
  refine lv_aload_n hx hb dX7_cellOf_0 rfl (lv_at hl 0 rfl) ?_
  refine va_get (D := D) (ci := 7) (v := .ref S) (C := RX7) (T := TX7) (N := 4) hx hb hts inlX7 hown hK (oneP (C := []) hP hm_3) 0 rfl rfl 0 (by decide) (hts _ mw_806) (fun _ h9 => h9) rfl dX7_cellOf_1 ?_
  refine lv_iload_n hx hb dX7_cellOf_4 rfl (lv_at hl 1 rfl) ?_
  refine lv_aload_n hx hb dX7_cellOf_5 rfl (lv_at hl 0 rfl) ?_
  refine va_get (D := D) (ci := 7) (v := .int (nI co)) (C := RX7) (T := TX7) (N := 4) hx hb hts inlX7 hown hK (oneP (C := []) hP hm_3) 0 rfl rfl 1 (by decide) (hts _ mw_807) (fun _ h9 => h9) rfl dX7_cellOf_6 ?_
  obtain ⟨hb_8, c_9, x_10, v_11, g_12, h_13, hm_14, hm_15, hm_16, lo_17, lc_18, vw_19⟩ := id h_4
  obtain ⟨hb_8_1, hb_8_2, hb_8_3⟩ := hb_8
  have hrw_hb_8 := rw_le hb_8_1 hb_8_3
  refine er_V (As := [.int (nI r9), .int (nI co)]) (rest := []) hFX hKK hE hS (c_X5_cellOf l D κ κq im S R w r9 co h_4 (by omega) (by omega)) 2 gV_X7_32 hdV_X5_cellOf rfl rfl ⟨Nat.le_of_ble_eq_true rfl, Nat.le_of_ble_eq_true rfl⟩ rfl rfl (Nat.le_of_ble_eq_true rfl) dX7_cellOf_9 ⟨Nat.le_of_ble_eq_true rfl, Nat.le_of_ble_eq_true rfl⟩ hl.1 (oneP (C := []) hP hm_14) 0 5 rfl rfl rfl (subP hP [] rfl) (fun r__6 hp_7 => ?_)
  replace hp_7 : ((∃ (q : Nat), ∃ (k : Nat), ∃ (m : Nat), r__6 = some q ∧ Cl κ im q k m)) := hp_7
  have ha_20 := hp_7
  clear hp_7
  rcases ha_20 with ⟨q__21, k__22, m__23, rfl, a_24⟩
  · refine W.eq (g2 := F0 m 12 ls [.ref q__21]) rfl ?_
    exact cr_aret hx hb hr (by first | exact Or.inl ⟨_, rfl⟩ | exact Or.inr ⟨_, rfl⟩) hlk (by first | exact Or.inl rfl | exact Or.inr ⟨_, rfl⟩) (some q__21) rfl (by exact ⟨q__21, k__22, m__23, rfl, (show Cl κ im q__21 k__22 m__23 from a_24)⟩) dX7_cellOf_12
set_option maxHeartbeats 4000000 in
set_option maxRecDepth 100000 in
theorem c_X7_areLike (l : Launch) (D : va_G) (κ : Nat → ClassId) (κq : Nat → Nat) (im : va_W) (q : Nat) (S : Nat) (R : Nat) (w : Nat) (co : Nat) (ra : Nat) (mq : Nat) (ty : Nat) (r9 : Nat) (r8 : Nat) (hsp : Sp κ im q S R w co ra mq ty) (hr9 : r9 < R) (hr8 : r8 < R) : Er l yX7_areLike (wl yX7_areLike cX7_areLike 3 (some .boolean)) { frames := 3, cells := 0, slots := 0, locals := 66 } D κ κq [.ref q, .int (nI r9), .int (nI r8)] ([] ++ im) (fun r : Int32 => some (.int r)) (fun r : Int32 => ((r = 1) ∨ (r = 0))) := by
  refine er_of (by decide +kernel) (Nat.le_of_ble_eq_true rfl) ?_
  intro p e s m args below meth c A ls hx hb hr hml hts hown hlk hKK hK hP hE hl
  have hS : va_S A s.heap s.heap [] := va_S.rf
  have hP : va_P D vwCl ([] ++ im) s.heap := hP
  have hFX : FX p s m args c cX7_areLike 3 RX7 := ⟨hx, hb, hml, hown, hts⟩
  have hl : lv_has ls 3 [(0, .ref q), (1, .int (nI r9)), (2, .int (nI r8))] := hl
  obtain ⟨h_1, h_2, hm_3, h_4, h_5⟩ := id hsp
  refine lv_aload_n hx hb dX7_areLike_0 rfl (lv_at hl 0 rfl) ?_
  refine lv_iload_n hx hb dX7_areLike_1 rfl (lv_at hl 1 rfl) ?_
  refine er_V (As := [.int (nI r9)]) (rest := []) hFX hKK hE hS (c_X7_cellOf l D κ κq im q S R w co ra mq ty r9 hsp (by omega)) 1 gV_X7_36 hdV_X7_cellOf rfl rfl ⟨Nat.le_of_ble_eq_true rfl, Nat.le_of_ble_eq_true rfl⟩ rfl rfl (Nat.le_of_ble_eq_true rfl) dX7_areLike_2 ⟨Nat.le_of_ble_eq_true rfl, Nat.le_of_ble_eq_true rfl⟩ hl.1 (oneP (C := []) hP hm_3) 0 7 rfl rfl rfl (subP hP [] rfl) (fun r__6 hp_7 => ?_)
  replace hp_7 : ((∃ (p : Nat), ∃ (k : Nat), ∃ (n : Nat), r__6 = some p ∧ Cl κ im p k n)) := hp_7
  have ha_8 := hp_7
  clear hp_7
  rcases ha_8 with ⟨p__9, k__10, n__11, rfl, a_12⟩
  · refine W.eq (g2 := F0 m 5 ls [.ref p__9]) rfl ?_
    refine lv_aload_n hx hb dX7_areLike_5 rfl (lv_at hl 0 rfl) ?_
    refine lv_iload_n hx hb dX7_areLike_6 rfl (lv_at hl 2 rfl) ?_
    refine er_V (As := [.int (nI r8)]) (rest := [.ref p__9]) hFX hKK hE hS (c_X7_cellOf l D κ κq im q S R w co ra mq ty r8 hsp (by omega)) 1 gV_X7_36 hdV_X7_cellOf rfl rfl ⟨Nat.le_of_ble_eq_true rfl, Nat.le_of_ble_eq_true rfl⟩ rfl rfl (Nat.le_of_ble_eq_true rfl) dX7_areLike_7 ⟨Nat.le_of_ble_eq_true rfl, Nat.le_of_ble_eq_true rfl⟩ hl.1 (oneP (C := []) hP hm_3) 0 7 rfl rfl rfl (subP hP [] rfl) (fun r__13 hp_14 => ?_)
    replace hp_14 : ((∃ (p : Nat), ∃ (k : Nat), ∃ (n : Nat), r__13 = some p ∧ Cl κ im p k n)) := hp_14
    have ha_15 := hp_14
    clear hp_14
    rcases ha_15 with ⟨p__16, k__17, n__18, rfl, a_19⟩
    · refine W.eq (g2 := F0 m 10 ls [.ref p__16, .ref p__9]) rfl ?_
      refine lv_aload_n hx hb dX7_areLike_10 rfl (lv_at hl 0 rfl) ?_
      refine va_get (D := D) (ci := 7) (v := .int (nI ty)) (C := RX7) (T := TX7) (N := 4) hx hb hts inlX7 hown hK (oneP (C := []) hP hm_3) 0 rfl rfl 3 (by decide) (hts _ mw_809) (fun _ h9 => h9) rfl dX7_areLike_11 ?_
      obtain ⟨hk_22, b_23, x_24, hm_25, hb_26⟩ := id a_12
      have hn_b_23 := hb_26.1
      refine er_V (As := [.ref p__16, .int (nI ty)]) (rest := []) hFX hKK hE hS (c_X0_comparedTo l D κ κq im p__9 k__10 n__11 p__16 k__17 n__18 (nI ty) a_12 a_19) 2 gV_X7_39 hdV_X0_comparedTo rfl rfl ⟨Nat.le_of_ble_eq_true rfl, Nat.le_of_ble_eq_true rfl⟩ rfl rfl (Nat.le_of_ble_eq_true rfl) dX7_areLike_14 ⟨Nat.le_of_ble_eq_true rfl, Nat.le_of_ble_eq_true rfl⟩ hl.1 (oneP (C := []) hP hm_25) 0 0 rfl rfl rfl (subP hP [] rfl) (fun r__20 hp_21 => ?_)
      refine W.eq (g2 := F0 m 17 ls [.int r__20]) rfl ?_
      refine lv_if_ne (tgt := 24) hx hb dX7_areLike_17 (by decide) (fun c_27 => ?_) (fun c_27 => ?_)
      · refine lv_iconst (v := 0) hx hb dX7_areLike_24 (by decide) ?_
        exact cr_iret hx hb hr hlk rfl 0 rfl (by exact Or.inr ((rfl))) dX7_areLike_25
      · refine lv_iconst (v := 1) hx hb dX7_areLike_20 (by decide) ?_
        refine lv_goto (tgt := 25) hx hb dX7_areLike_21 (by decide) ?_
        exact cr_iret hx hb hr hlk rfl 1 rfl (by exact Or.inl (rfl)) dX7_areLike_25
set_option maxHeartbeats 4000000 in
set_option maxRecDepth 100000 in
theorem c_X7_isSo (l : Launch) (D : va_G) (κ : Nat → ClassId) (κq : Nat → Nat) (za : Int32) (zb : Int32) : Er l yX7_isSo (wl yX7_isSo cX7_isSo 2 (some .boolean)) { frames := 0, cells := 0, slots := 0, locals := 0 } D κ κq [.int za, .int zb] [] (fun r : Int32 => some (.int r)) (fun r : Int32 => ((r = 1) ∨ (r = 0))) := by
  refine er_of (by decide +kernel) (Nat.le_of_ble_eq_true rfl) ?_
  intro p e s m args below meth c A ls hx hb hr hml hts hown hlk hKK hK hP hE hl
  have hS : va_S A s.heap s.heap [] := va_S.rf
  have hP : va_P D vwCl ([] ++ []) s.heap := hP
  have hFX : FX p s m args c cX7_isSo 2 RX7 := ⟨hx, hb, hml, hown, hts⟩
  have hl : lv_has ls 2 [(0, .int za), (1, .int zb)] := hl
  refine lv_iload_n hx hb dX7_isSo_0 rfl (lv_at hl 1 rfl) ?_
  rcases Classical.em (zb.toInt < 0 ∨ 5 < zb.toInt) with c_1 | c_1
  · refine lv_tableOut (tgt := 100) hx hb dX7_isSo_1 c_1 (by decide) ?_
    refine lv_iconst (v := 0) hx hb dX7_isSo_100 (by decide) ?_
    exact cr_iret hx hb hr hlk rfl 0 rfl (by exact Or.inr ((rfl))) dX7_isSo_101
  · have e_2 : zb = 0 ∨ zb = 1 ∨ zb = 2 ∨ zb = 3 ∨ zb = 4 ∨ zb = 5 := by
      have q1 : ¬ zb.toInt < 0 := fun h => c_1 (Or.inl h)
      have q2 : ¬ 5 < zb.toInt := fun h => c_1 (Or.inr h)
      have q3 : ∀ v : Int32, zb.toInt = v.toInt → zb = v := fun v h => Int32.toInt_inj.mp h
      rcases (show zb.toInt = 0 ∨ zb.toInt = 1 ∨ zb.toInt = 2 ∨ zb.toInt = 3 ∨ zb.toInt = 4 ∨ zb.toInt = 5 by omega) with h | h | h | h | h | h
      · exact Or.inl (q3 0 (h.trans (by decide)))
      · exact Or.inr (Or.inl (q3 1 (h.trans (by decide))))
      · exact Or.inr (Or.inr (Or.inl (q3 2 (h.trans (by decide)))))
      · exact Or.inr (Or.inr (Or.inr (Or.inl (q3 3 (h.trans (by decide))))))
      · exact Or.inr (Or.inr (Or.inr (Or.inr (Or.inl (q3 4 (h.trans (by decide)))))))
      · exact Or.inr (Or.inr (Or.inr (Or.inr (Or.inr ((q3 5 (h.trans (by decide))))))))
    clear c_1
    rcases e_2 with rfl | rfl | rfl | rfl | rfl | rfl
    · refine lv_tableIn (tgt := 40) hx hb dX7_isSo_1 (by decide) (by decide) rfl (by decide) ?_
      refine lv_iload_n hx hb dX7_isSo_40 rfl (lv_at hl 0 rfl) ?_
      refine lv_if_ne (tgt := 48) hx hb dX7_isSo_41 (by decide) (fun c_3 => ?_) (fun c_3 => ?_)
      · refine lv_iconst (v := 0) hx hb dX7_isSo_48 (by decide) ?_
        exact cr_iret hx hb hr hlk rfl 0 rfl (by exact Or.inr ((rfl))) dX7_isSo_49
      · refine lv_iconst (v := 1) hx hb dX7_isSo_44 (by decide) ?_
        refine lv_goto (tgt := 49) hx hb dX7_isSo_45 (by decide) ?_
        exact cr_iret hx hb hr hlk rfl 1 rfl (by exact Or.inl (rfl)) dX7_isSo_49
    · refine lv_tableIn (tgt := 50) hx hb dX7_isSo_1 (by decide) (by decide) rfl (by decide) ?_
      refine lv_iload_n hx hb dX7_isSo_50 rfl (lv_at hl 0 rfl) ?_
      refine lv_if_eq (tgt := 58) hx hb dX7_isSo_51 (by decide) (fun c_4 => ?_) (fun c_4 => ?_)
      · refine lv_iconst (v := 0) hx hb dX7_isSo_58 (by decide) ?_
        exact cr_iret hx hb hr hlk rfl 0 rfl (by exact Or.inr ((rfl))) dX7_isSo_59
      · refine lv_iconst (v := 1) hx hb dX7_isSo_54 (by decide) ?_
        refine lv_goto (tgt := 59) hx hb dX7_isSo_55 (by decide) ?_
        exact cr_iret hx hb hr hlk rfl 1 rfl (by exact Or.inl (rfl)) dX7_isSo_59
    · refine lv_tableIn (tgt := 60) hx hb dX7_isSo_1 (by decide) (by decide) rfl (by decide) ?_
      refine lv_iload_n hx hb dX7_isSo_60 rfl (lv_at hl 0 rfl) ?_
      refine lv_if_ge (tgt := 68) hx hb dX7_isSo_61 (by decide) (fun c_5 => ?_) (fun c_5 => ?_)
      · refine lv_iconst (v := 0) hx hb dX7_isSo_68 (by decide) ?_
        exact cr_iret hx hb hr hlk rfl 0 rfl (by exact Or.inr ((rfl))) dX7_isSo_69
      · refine lv_iconst (v := 1) hx hb dX7_isSo_64 (by decide) ?_
        refine lv_goto (tgt := 69) hx hb dX7_isSo_65 (by decide) ?_
        exact cr_iret hx hb hr hlk rfl 1 rfl (by exact Or.inl (rfl)) dX7_isSo_69
    · refine lv_tableIn (tgt := 70) hx hb dX7_isSo_1 (by decide) (by decide) rfl (by decide) ?_
      refine lv_iload_n hx hb dX7_isSo_70 rfl (lv_at hl 0 rfl) ?_
      refine lv_if_gt (tgt := 78) hx hb dX7_isSo_71 (by decide) (fun c_6 => ?_) (fun c_6 => ?_)
      · refine lv_iconst (v := 0) hx hb dX7_isSo_78 (by decide) ?_
        exact cr_iret hx hb hr hlk rfl 0 rfl (by exact Or.inr ((rfl))) dX7_isSo_79
      · refine lv_iconst (v := 1) hx hb dX7_isSo_74 (by decide) ?_
        refine lv_goto (tgt := 79) hx hb dX7_isSo_75 (by decide) ?_
        exact cr_iret hx hb hr hlk rfl 1 rfl (by exact Or.inl (rfl)) dX7_isSo_79
    · refine lv_tableIn (tgt := 80) hx hb dX7_isSo_1 (by decide) (by decide) rfl (by decide) ?_
      refine lv_iload_n hx hb dX7_isSo_80 rfl (lv_at hl 0 rfl) ?_
      refine lv_if_le (tgt := 88) hx hb dX7_isSo_81 (by decide) (fun c_7 => ?_) (fun c_7 => ?_)
      · refine lv_iconst (v := 0) hx hb dX7_isSo_88 (by decide) ?_
        exact cr_iret hx hb hr hlk rfl 0 rfl (by exact Or.inr ((rfl))) dX7_isSo_89
      · refine lv_iconst (v := 1) hx hb dX7_isSo_84 (by decide) ?_
        refine lv_goto (tgt := 89) hx hb dX7_isSo_85 (by decide) ?_
        exact cr_iret hx hb hr hlk rfl 1 rfl (by exact Or.inl (rfl)) dX7_isSo_89
    · refine lv_tableIn (tgt := 90) hx hb dX7_isSo_1 (by decide) (by decide) rfl (by decide) ?_
      refine lv_iload_n hx hb dX7_isSo_90 rfl (lv_at hl 0 rfl) ?_
      refine lv_if_lt (tgt := 98) hx hb dX7_isSo_91 (by decide) (fun c_8 => ?_) (fun c_8 => ?_)
      · refine lv_iconst (v := 0) hx hb dX7_isSo_98 (by decide) ?_
        exact cr_iret hx hb hr hlk rfl 0 rfl (by exact Or.inr ((rfl))) dX7_isSo_99
      · refine lv_iconst (v := 1) hx hb dX7_isSo_94 (by decide) ?_
        refine lv_goto (tgt := 99) hx hb dX7_isSo_95 (by decide) ?_
        exact cr_iret hx hb hr hlk rfl 1 rfl (by exact Or.inl (rfl)) dX7_isSo_99
set_option maxHeartbeats 4000000 in
set_option maxRecDepth 100000 in
theorem c_X7_fits_r (l : Launch) (D : va_G) (κ : Nat → ClassId) (κq : Nat → Nat) (im : va_W) (q : Nat) (S : Nat) (R : Nat) (w : Nat) (co : Nat) (ra : Nat) (mq : Nat) (ty : Nat) (ce : Nat) (k : Nat) (n : Nat) (zh : Int32) (pr : Nat) (k2 : Nat) (n2 : Nat) (hsp : Sp κ im q S R w co ra mq ty) (hce : Cl κ im ce k n) (hpr : Cl κ im pr k2 n2) : Er l yX7_fits (wl yX7_fits cX7_fits 4 (some .boolean)) { frames := 3, cells := 0, slots := 0, locals := 66 } D κ κq [.ref q, .ref ce, .int zh, .ref pr] ([] ++ im) (fun r : Int32 => some (.int r)) (fun r : Int32 => ((r = 1) ∨ (r = 0))) := by
  refine er_of (by decide +kernel) (Nat.le_of_ble_eq_true rfl) ?_
  intro p e s m args below meth c A ls hx hb hr hml hts hown hlk hKK hK hP hE hl
  have hS : va_S A s.heap s.heap [] := va_S.rf
  have hP : va_P D vwCl ([] ++ im) s.heap := hP
  have hFX : FX p s m args c cX7_fits 4 RX7 := ⟨hx, hb, hml, hown, hts⟩
  have hl : lv_has ls 4 [(0, .ref q), (1, .ref ce), (2, .int zh), (3, .ref pr)] := hl
  refine lv_iload_n hx hb dX7_fits_0 rfl (lv_at hl 2 rfl) ?_
  refine lv_bipush (v := 7) hx hb dX7_fits_1 (by decide) ?_
  refine lv_icmp_ne (tgt := 11) hx hb dX7_fits_3 (by decide) (fun c_1 => ?_) (fun c_1 => ?_)
  · refine lv_aload_n hx hb dX7_fits_11 rfl (lv_at hl 1 rfl) ?_
    obtain ⟨hk_4, b_5, x_6, hm_7, hb_8⟩ := id hce
    have hn_b_5 := hb_8.1
    refine er_V (As := []) (rest := []) hFX hKK hE hS (c_X0_isEmpty l D κ κq im ce k n hce) 0 gV_X7_55 hdV_X0_isEmpty rfl rfl ⟨Nat.le_of_ble_eq_true rfl, Nat.le_of_ble_eq_true rfl⟩ rfl rfl (Nat.le_of_ble_eq_true rfl) dX7_fits_12 ⟨Nat.le_of_ble_eq_true rfl, Nat.le_of_ble_eq_true rfl⟩ hl.1 (oneP (C := []) hP hm_7) 0 0 rfl rfl rfl (subP hP [] rfl) (fun r__2 hp_3 => ?_)
    replace hp_3 : ((r__2 = 1 ∧ n = 0) ∨ (r__2 = 0 ∧ 1 ≤ n)) := hp_3
    have ha_9 := hp_3
    clear hp_3
    rcases ha_9 with ⟨rfl, a_10⟩ | ⟨rfl, a_11⟩
    · refine W.eq (g2 := F0 m 15 ls [.int 1]) rfl ?_
      refine lv_if_ne (tgt := 22) hx hb dX7_fits_15 (by decide) (fun c_12 => ?_) (fun c_12 => absurd c_12 (by decide))
      refine lv_iconst (v := 0) hx hb dX7_fits_22 (by decide) ?_
      exact cr_iret hx hb hr hlk rfl 0 rfl (by exact Or.inr ((rfl))) dX7_fits_23
    · refine W.eq (g2 := F0 m 15 ls [.int 0]) rfl ?_
      refine lv_if_ne (tgt := 22) hx hb dX7_fits_15 (by decide) (fun c_13 => absurd c_13 (by decide)) (fun c_13 => ?_)
      refine lv_aload_n hx hb dX7_fits_18 rfl (lv_at hl 3 rfl) ?_
      refine lv_ifnonnull (tgt := 24) hx hb dX7_fits_19 (by decide) ?_
      refine lv_iload_n hx hb dX7_fits_24 rfl (lv_at hl 2 rfl) ?_
      refine lv_bipush (v := 6) hx hb dX7_fits_25 (by decide) ?_
      refine lv_icmp_ne (tgt := 38) hx hb dX7_fits_27 (by decide) (fun c_14 => ?_) (fun c_14 => ?_)
      · refine lv_aload_n hx hb dX7_fits_38 rfl (lv_at hl 1 rfl) ?_
        refine lv_aload_n hx hb dX7_fits_39 rfl (lv_at hl 3 rfl) ?_
        refine lv_aload_n hx hb dX7_fits_40 rfl (lv_at hl 0 rfl) ?_
        obtain ⟨h_15, h_16, hm_17, h_18, h_19⟩ := id hsp
        refine va_get (D := D) (ci := 7) (v := .int (nI ty)) (C := RX7) (T := TX7) (N := 4) hx hb hts inlX7 hown hK (oneP (C := []) hP hm_17) 0 rfl rfl 3 (by decide) (hts _ mw_809) (fun _ h9 => h9) rfl dX7_fits_41 ?_
        refine er_V (As := [.ref pr, .int (nI ty)]) (rest := []) hFX hKK hE hS (c_X0_comparedTo l D κ κq im ce k n pr k2 n2 (nI ty) hce hpr) 2 gV_X7_39 hdV_X0_comparedTo rfl rfl ⟨Nat.le_of_ble_eq_true rfl, Nat.le_of_ble_eq_true rfl⟩ rfl rfl (Nat.le_of_ble_eq_true rfl) dX7_fits_44 ⟨Nat.le_of_ble_eq_true rfl, Nat.le_of_ble_eq_true rfl⟩ hl.1 (oneP (C := []) hP hm_7) 0 0 rfl rfl rfl (subP hP [] rfl) (fun r__20 hp_21 => ?_)
        refine W.eq (g2 := F0 m 47 ls [.int r__20]) rfl ?_
        refine lv_iload_n hx hb dX7_fits_47 rfl (lv_at hl 2 rfl) ?_
        refine er_S (As := [.int r__20, .int zh]) (rest := []) hFX hKK hE hS (c_X7_isSo l D κ κq r__20 zh) 2 gS_X7_63 hdS_X7_isSo rfl rfl ⟨Nat.le_of_ble_eq_true rfl, Nat.le_of_ble_eq_true rfl⟩ rfl rfl (Nat.le_of_ble_eq_true rfl) dX7_fits_48 ⟨Nat.le_of_ble_eq_true rfl, Nat.le_of_ble_eq_true rfl⟩ hl.1 (subP0 hP [] rfl) (fun r__22 hp_23 => ?_)
        replace hp_23 : ((r__22 = 1) ∨ (r__22 = 0)) := hp_23
        have ha_24 := hp_23
        clear hp_23
        rcases ha_24 with rfl | rfl
        · refine W.eq (g2 := F0 m 51 ls [.int 1]) rfl ?_
          exact cr_iret hx hb hr hlk rfl 1 rfl (by exact Or.inl (rfl)) dX7_fits_51
        · refine W.eq (g2 := F0 m 51 ls [.int 0]) rfl ?_
          exact cr_iret hx hb hr hlk rfl 0 rfl (by exact Or.inr ((rfl))) dX7_fits_51
      · refine lv_aload_n hx hb dX7_fits_30 rfl (lv_at hl 1 rfl) ?_
        refine lv_aload_n hx hb dX7_fits_31 rfl (lv_at hl 3 rfl) ?_
        refine er_V (As := [.ref pr]) (rest := []) hFX hKK hE hS (c_X0_holdsBytesOf l D κ κq im ce k n pr k2 n2 hce hpr) 1 gV_X7_59 hdV_X0_holdsBytesOf rfl rfl ⟨Nat.le_of_ble_eq_true rfl, Nat.le_of_ble_eq_true rfl⟩ rfl rfl (Nat.le_of_ble_eq_true rfl) dX7_fits_32 ⟨Nat.le_of_ble_eq_true rfl, Nat.le_of_ble_eq_true rfl⟩ hl.1 (oneP (C := []) hP hm_7) 0 0 rfl rfl rfl (subP hP [] rfl) (fun r__25 hp_26 => ?_)
        replace hp_26 : ((r__25 = 1) ∨ (r__25 = 0)) := hp_26
        have ha_27 := hp_26
        clear hp_26
        rcases ha_27 with rfl | rfl
        · refine W.eq (g2 := F0 m 35 ls [.int 1]) rfl ?_
          refine lv_goto (tgt := 51) hx hb dX7_fits_35 (by decide) ?_
          exact cr_iret hx hb hr hlk rfl 1 rfl (by exact Or.inl (rfl)) dX7_fits_51
        · refine W.eq (g2 := F0 m 35 ls [.int 0]) rfl ?_
          refine lv_goto (tgt := 51) hx hb dX7_fits_35 (by decide) ?_
          exact cr_iret hx hb hr hlk rfl 0 rfl (by exact Or.inr ((rfl))) dX7_fits_51
  · refine lv_aload_n hx hb dX7_fits_6 rfl (lv_at hl 1 rfl) ?_
    obtain ⟨hk_30, b_31, x_32, hm_33, hb_34⟩ := id hce
    have hn_b_31 := hb_34.1
    refine er_V (As := []) (rest := []) hFX hKK hE hS (c_X0_isEmpty l D κ κq im ce k n hce) 0 gV_X7_55 hdV_X0_isEmpty rfl rfl ⟨Nat.le_of_ble_eq_true rfl, Nat.le_of_ble_eq_true rfl⟩ rfl rfl (Nat.le_of_ble_eq_true rfl) dX7_fits_7 ⟨Nat.le_of_ble_eq_true rfl, Nat.le_of_ble_eq_true rfl⟩ hl.1 (oneP (C := []) hP hm_33) 0 0 rfl rfl rfl (subP hP [] rfl) (fun r__28 hp_29 => ?_)
    replace hp_29 : ((r__28 = 1 ∧ n = 0) ∨ (r__28 = 0 ∧ 1 ≤ n)) := hp_29
    have ha_35 := hp_29
    clear hp_29
    rcases ha_35 with ⟨rfl, a_36⟩ | ⟨rfl, a_37⟩
    · refine W.eq (g2 := F0 m 10 ls [.int 1]) rfl ?_
      exact cr_iret hx hb hr hlk rfl 1 rfl (by exact Or.inl (rfl)) dX7_fits_10
    · refine W.eq (g2 := F0 m 10 ls [.int 0]) rfl ?_
      exact cr_iret hx hb hr hlk rfl 0 rfl (by exact Or.inr ((rfl))) dX7_fits_10
set_option maxHeartbeats 4000000 in
set_option maxRecDepth 100000 in
theorem c_X7_fits_n (l : Launch) (D : va_G) (κ : Nat → ClassId) (κq : Nat → Nat) (im : va_W) (q : Nat) (S : Nat) (R : Nat) (w : Nat) (co : Nat) (ra : Nat) (mq : Nat) (ty : Nat) (ce : Nat) (k : Nat) (n : Nat) (zh : Int32) (hsp : Sp κ im q S R w co ra mq ty) (hce : Cl κ im ce k n) : Er l yX7_fits (wl yX7_fits cX7_fits 4 (some .boolean)) { frames := 1, cells := 0, slots := 0, locals := 20 } D κ κq [.ref q, .ref ce, .int zh, .null] ([] ++ im) (fun r : Int32 => some (.int r)) (fun r : Int32 => ((r = 1) ∨ (r = 0))) := by
  refine er_of (by decide +kernel) (Nat.le_of_ble_eq_true rfl) ?_
  intro p e s m args below meth c A ls hx hb hr hml hts hown hlk hKK hK hP hE hl
  have hS : va_S A s.heap s.heap [] := va_S.rf
  have hP : va_P D vwCl ([] ++ im) s.heap := hP
  have hFX : FX p s m args c cX7_fits 4 RX7 := ⟨hx, hb, hml, hown, hts⟩
  have hl : lv_has ls 4 [(0, .ref q), (1, .ref ce), (2, .int zh), (3, .null)] := hl
  refine lv_iload_n hx hb dX7_fits_0 rfl (lv_at hl 2 rfl) ?_
  refine lv_bipush (v := 7) hx hb dX7_fits_1 (by decide) ?_
  refine lv_icmp_ne (tgt := 11) hx hb dX7_fits_3 (by decide) (fun c_1 => ?_) (fun c_1 => ?_)
  · refine lv_aload_n hx hb dX7_fits_11 rfl (lv_at hl 1 rfl) ?_
    obtain ⟨hk_4, b_5, x_6, hm_7, hb_8⟩ := id hce
    have hn_b_5 := hb_8.1
    refine er_V (As := []) (rest := []) hFX hKK hE hS (c_X0_isEmpty l D κ κq im ce k n hce) 0 gV_X7_55 hdV_X0_isEmpty rfl rfl ⟨Nat.le_of_ble_eq_true rfl, Nat.le_of_ble_eq_true rfl⟩ rfl rfl (Nat.le_of_ble_eq_true rfl) dX7_fits_12 ⟨Nat.le_of_ble_eq_true rfl, Nat.le_of_ble_eq_true rfl⟩ hl.1 (oneP (C := []) hP hm_7) 0 0 rfl rfl rfl (subP hP [] rfl) (fun r__2 hp_3 => ?_)
    replace hp_3 : ((r__2 = 1 ∧ n = 0) ∨ (r__2 = 0 ∧ 1 ≤ n)) := hp_3
    have ha_9 := hp_3
    clear hp_3
    rcases ha_9 with ⟨rfl, a_10⟩ | ⟨rfl, a_11⟩
    · refine W.eq (g2 := F0 m 15 ls [.int 1]) rfl ?_
      refine lv_if_ne (tgt := 22) hx hb dX7_fits_15 (by decide) (fun c_12 => ?_) (fun c_12 => absurd c_12 (by decide))
      refine lv_iconst (v := 0) hx hb dX7_fits_22 (by decide) ?_
      exact cr_iret hx hb hr hlk rfl 0 rfl (by exact Or.inr ((rfl))) dX7_fits_23
    · refine W.eq (g2 := F0 m 15 ls [.int 0]) rfl ?_
      refine lv_if_ne (tgt := 22) hx hb dX7_fits_15 (by decide) (fun c_13 => absurd c_13 (by decide)) (fun c_13 => ?_)
      refine lv_aload_nN hx hb dX7_fits_18 rfl (lv_at hl 3 rfl) ?_
      refine lv_ifnonnullN hx hb dX7_fits_19 ?_
      refine lv_iconst (v := 0) hx hb dX7_fits_22 (by decide) ?_
      exact cr_iret hx hb hr hlk rfl 0 rfl (by exact Or.inr ((rfl))) dX7_fits_23
  · refine lv_aload_n hx hb dX7_fits_6 rfl (lv_at hl 1 rfl) ?_
    obtain ⟨hk_16, b_17, x_18, hm_19, hb_20⟩ := id hce
    have hn_b_17 := hb_20.1
    refine er_V (As := []) (rest := []) hFX hKK hE hS (c_X0_isEmpty l D κ κq im ce k n hce) 0 gV_X7_55 hdV_X0_isEmpty rfl rfl ⟨Nat.le_of_ble_eq_true rfl, Nat.le_of_ble_eq_true rfl⟩ rfl rfl (Nat.le_of_ble_eq_true rfl) dX7_fits_7 ⟨Nat.le_of_ble_eq_true rfl, Nat.le_of_ble_eq_true rfl⟩ hl.1 (oneP (C := []) hP hm_19) 0 0 rfl rfl rfl (subP hP [] rfl) (fun r__14 hp_15 => ?_)
    replace hp_15 : ((r__14 = 1 ∧ n = 0) ∨ (r__14 = 0 ∧ 1 ≤ n)) := hp_15
    have ha_21 := hp_15
    clear hp_15
    rcases ha_21 with ⟨rfl, a_22⟩ | ⟨rfl, a_23⟩
    · refine W.eq (g2 := F0 m 10 ls [.int 1]) rfl ?_
      exact cr_iret hx hb hr hlk rfl 1 rfl (by exact Or.inl (rfl)) dX7_fits_10
    · refine W.eq (g2 := F0 m 10 ls [.int 0]) rfl ?_
      exact cr_iret hx hb hr hlk rfl 0 rfl (by exact Or.inr ((rfl))) dX7_fits_10
set_option maxHeartbeats 4000000 in
set_option maxRecDepth 100000 in
theorem c_X7_comesAhead (l : Launch) (D : va_G) (κ : Nat → ClassId) (κq : Nat → Nat) (im : va_W) (q : Nat) (S : Nat) (R : Nat) (w : Nat) (co : Nat) (ra : Nat) (mq : Nat) (ty : Nat) (ce : Nat) (k : Nat) (n : Nat) (pr : Nat) (k2 : Nat) (n2 : Nat) (zd : Int32) (hsp : Sp κ im q S R w co ra mq ty) (hce : Cl κ im ce k n) (hpr : Cl κ im pr k2 n2) : Er l yX7_comesAhead (wl yX7_comesAhead cX7_comesAhead 5 (some .boolean)) { frames := 3, cells := 0, slots := 0, locals := 66 } D κ κq [.ref q, .ref ce, .ref pr, .int zd] ([] ++ im) (fun r : Int32 => some (.int r)) (fun r : Int32 => ((r = 1) ∨ (r = 0))) := by
  refine er_of (by decide +kernel) (Nat.le_of_ble_eq_true rfl) ?_
  intro p e s m args below meth c A ls hx hb hr hml hts hown hlk hKK hK hP hE hl
  have hS : va_S A s.heap s.heap [] := va_S.rf
  have hP : va_P D vwCl ([] ++ im) s.heap := hP
  have hFX : FX p s m args c cX7_comesAhead 5 RX7 := ⟨hx, hb, hml, hown, hts⟩
  have hl : lv_has ls 5 [(0, .ref q), (1, .ref ce), (2, .ref pr), (3, .int zd)] := hl
  refine lv_aload_n hx hb dX7_comesAhead_0 rfl (lv_at hl 1 rfl) ?_
  obtain ⟨hk_3, b_4, x_5, hm_6, hb_7⟩ := id hce
  have hn_b_4 := hb_7.1
  refine er_V (As := []) (rest := []) hFX hKK hE hS (c_X0_isEmpty l D κ κq im ce k n hce) 0 gV_X7_55 hdV_X0_isEmpty rfl rfl ⟨Nat.le_of_ble_eq_true rfl, Nat.le_of_ble_eq_true rfl⟩ rfl rfl (Nat.le_of_ble_eq_true rfl) dX7_comesAhead_1 ⟨Nat.le_of_ble_eq_true rfl, Nat.le_of_ble_eq_true rfl⟩ hl.1 (oneP (C := []) hP hm_6) 0 0 rfl rfl rfl (subP hP [] rfl) (fun r__1 hp_2 => ?_)
  replace hp_2 : ((r__1 = 1 ∧ n = 0) ∨ (r__1 = 0 ∧ 1 ≤ n)) := hp_2
  have ha_8 := hp_2
  clear hp_2
  rcases ha_8 with ⟨rfl, a_9⟩ | ⟨rfl, a_10⟩
  · refine W.eq (g2 := F0 m 4 ls [.int 1]) rfl ?_
    refine lv_if_ne (tgt := 14) hx hb dX7_comesAhead_4 (by decide) (fun c_11 => ?_) (fun c_11 => absurd c_11 (by decide))
    refine lv_aload_n hx hb dX7_comesAhead_14 rfl (lv_at hl 1 rfl) ?_
    refine er_V (As := []) (rest := []) hFX hKK hE hS (c_X0_isEmpty l D κ κq im ce k n hce) 0 gV_X7_55 hdV_X0_isEmpty rfl rfl ⟨Nat.le_of_ble_eq_true rfl, Nat.le_of_ble_eq_true rfl⟩ rfl rfl (Nat.le_of_ble_eq_true rfl) dX7_comesAhead_15 ⟨Nat.le_of_ble_eq_true rfl, Nat.le_of_ble_eq_true rfl⟩ hl.1 (oneP (C := []) hP hm_6) 0 0 rfl rfl rfl (subP hP [] rfl) (fun r__12 hp_13 => ?_)
    replace hp_13 : ((r__12 = 1 ∧ n = 0) ∨ (r__12 = 0 ∧ 1 ≤ n)) := hp_13
    have ha_14 := hp_13
    clear hp_13
    rcases ha_14 with ⟨rfl, a_15⟩ | ⟨rfl, a_16⟩
    · refine W.eq (g2 := F0 m 18 ls [.int 1]) rfl ?_
      refine lv_if_eq (tgt := 32) hx hb dX7_comesAhead_18 (by decide) (fun c_17 => absurd c_17 (by decide)) (fun c_17 => ?_)
      refine lv_aload_n hx hb dX7_comesAhead_21 rfl (lv_at hl 2 rfl) ?_
      obtain ⟨hk_20, b_21, x_22, hm_23, hb_24⟩ := id hpr
      have hn_b_21 := hb_24.1
      refine er_V (As := []) (rest := []) hFX hKK hE hS (c_X0_isEmpty l D κ κq im pr k2 n2 hpr) 0 gV_X7_55 hdV_X0_isEmpty rfl rfl ⟨Nat.le_of_ble_eq_true rfl, Nat.le_of_ble_eq_true rfl⟩ rfl rfl (Nat.le_of_ble_eq_true rfl) dX7_comesAhead_22 ⟨Nat.le_of_ble_eq_true rfl, Nat.le_of_ble_eq_true rfl⟩ hl.1 (oneP (C := []) hP hm_23) 0 0 rfl rfl rfl (subP hP [] rfl) (fun r__18 hp_19 => ?_)
      replace hp_19 : ((r__18 = 1 ∧ n2 = 0) ∨ (r__18 = 0 ∧ 1 ≤ n2)) := hp_19
      have ha_25 := hp_19
      clear hp_19
      rcases ha_25 with ⟨rfl, a_26⟩ | ⟨rfl, a_27⟩
      · refine W.eq (g2 := F0 m 25 ls [.int 1]) rfl ?_
        refine lv_if_ne (tgt := 32) hx hb dX7_comesAhead_25 (by decide) (fun c_28 => ?_) (fun c_28 => absurd c_28 (by decide))
        refine lv_iconst (v := 0) hx hb dX7_comesAhead_32 (by decide) ?_
        exact cr_iret hx hb hr hlk rfl 0 rfl (by exact Or.inr ((rfl))) dX7_comesAhead_33
      · refine W.eq (g2 := F0 m 25 ls [.int 0]) rfl ?_
        refine lv_if_ne (tgt := 32) hx hb dX7_comesAhead_25 (by decide) (fun c_29 => absurd c_29 (by decide)) (fun c_29 => ?_)
        refine lv_iconst (v := 1) hx hb dX7_comesAhead_28 (by decide) ?_
        refine lv_goto (tgt := 33) hx hb dX7_comesAhead_29 (by decide) ?_
        exact cr_iret hx hb hr hlk rfl 1 rfl (by exact Or.inl (rfl)) dX7_comesAhead_33
    · refine W.eq (g2 := F0 m 18 ls [.int 0]) rfl ?_
      refine lv_if_eq (tgt := 32) hx hb dX7_comesAhead_18 (by decide) (fun c_30 => ?_) (fun c_30 => absurd (by decide) c_30)
      refine lv_iconst (v := 0) hx hb dX7_comesAhead_32 (by decide) ?_
      exact cr_iret hx hb hr hlk rfl 0 rfl (by exact Or.inr ((rfl))) dX7_comesAhead_33
  · refine W.eq (g2 := F0 m 4 ls [.int 0]) rfl ?_
    refine lv_if_ne (tgt := 14) hx hb dX7_comesAhead_4 (by decide) (fun c_31 => absurd c_31 (by decide)) (fun c_31 => ?_)
    refine lv_aload_n hx hb dX7_comesAhead_7 rfl (lv_at hl 2 rfl) ?_
    obtain ⟨hk_34, b_35, x_36, hm_37, hb_38⟩ := id hpr
    have hn_b_35 := hb_38.1
    refine er_V (As := []) (rest := []) hFX hKK hE hS (c_X0_isEmpty l D κ κq im pr k2 n2 hpr) 0 gV_X7_55 hdV_X0_isEmpty rfl rfl ⟨Nat.le_of_ble_eq_true rfl, Nat.le_of_ble_eq_true rfl⟩ rfl rfl (Nat.le_of_ble_eq_true rfl) dX7_comesAhead_8 ⟨Nat.le_of_ble_eq_true rfl, Nat.le_of_ble_eq_true rfl⟩ hl.1 (oneP (C := []) hP hm_37) 0 0 rfl rfl rfl (subP hP [] rfl) (fun r__32 hp_33 => ?_)
    replace hp_33 : ((r__32 = 1 ∧ n2 = 0) ∨ (r__32 = 0 ∧ 1 ≤ n2)) := hp_33
    have ha_39 := hp_33
    clear hp_33
    rcases ha_39 with ⟨rfl, a_40⟩ | ⟨rfl, a_41⟩
    · refine W.eq (g2 := F0 m 11 ls [.int 1]) rfl ?_
      refine lv_if_eq (tgt := 34) hx hb dX7_comesAhead_11 (by decide) (fun c_42 => absurd c_42 (by decide)) (fun c_42 => ?_)
      refine lv_aload_n hx hb dX7_comesAhead_14 rfl (lv_at hl 1 rfl) ?_
      refine er_V (As := []) (rest := []) hFX hKK hE hS (c_X0_isEmpty l D κ κq im ce k n hce) 0 gV_X7_55 hdV_X0_isEmpty rfl rfl ⟨Nat.le_of_ble_eq_true rfl, Nat.le_of_ble_eq_true rfl⟩ rfl rfl (Nat.le_of_ble_eq_true rfl) dX7_comesAhead_15 ⟨Nat.le_of_ble_eq_true rfl, Nat.le_of_ble_eq_true rfl⟩ hl.1 (oneP (C := []) hP hm_6) 0 0 rfl rfl rfl (subP hP [] rfl) (fun r__43 hp_44 => ?_)
      replace hp_44 : ((r__43 = 1 ∧ n = 0) ∨ (r__43 = 0 ∧ 1 ≤ n)) := hp_44
      have ha_45 := hp_44
      clear hp_44
      rcases ha_45 with ⟨rfl, a_46⟩ | ⟨rfl, a_47⟩
      · refine W.eq (g2 := F0 m 18 ls [.int 1]) rfl ?_
        refine lv_if_eq (tgt := 32) hx hb dX7_comesAhead_18 (by decide) (fun c_48 => absurd c_48 (by decide)) (fun c_48 => ?_)
        refine lv_aload_n hx hb dX7_comesAhead_21 rfl (lv_at hl 2 rfl) ?_
        refine er_V (As := []) (rest := []) hFX hKK hE hS (c_X0_isEmpty l D κ κq im pr k2 n2 hpr) 0 gV_X7_55 hdV_X0_isEmpty rfl rfl ⟨Nat.le_of_ble_eq_true rfl, Nat.le_of_ble_eq_true rfl⟩ rfl rfl (Nat.le_of_ble_eq_true rfl) dX7_comesAhead_22 ⟨Nat.le_of_ble_eq_true rfl, Nat.le_of_ble_eq_true rfl⟩ hl.1 (oneP (C := []) hP hm_37) 0 0 rfl rfl rfl (subP hP [] rfl) (fun r__49 hp_50 => ?_)
        replace hp_50 : ((r__49 = 1 ∧ n2 = 0) ∨ (r__49 = 0 ∧ 1 ≤ n2)) := hp_50
        have ha_51 := hp_50
        clear hp_50
        rcases ha_51 with ⟨rfl, a_52⟩ | ⟨rfl, a_53⟩
        · refine W.eq (g2 := F0 m 25 ls [.int 1]) rfl ?_
          refine lv_if_ne (tgt := 32) hx hb dX7_comesAhead_25 (by decide) (fun c_54 => ?_) (fun c_54 => absurd c_54 (by decide))
          refine lv_iconst (v := 0) hx hb dX7_comesAhead_32 (by decide) ?_
          exact cr_iret hx hb hr hlk rfl 0 rfl (by exact Or.inr ((rfl))) dX7_comesAhead_33
        · refine W.eq (g2 := F0 m 25 ls [.int 0]) rfl ?_
          refine lv_if_ne (tgt := 32) hx hb dX7_comesAhead_25 (by decide) (fun c_55 => absurd c_55 (by decide)) (fun c_55 => ?_)
          refine lv_iconst (v := 1) hx hb dX7_comesAhead_28 (by decide) ?_
          refine lv_goto (tgt := 33) hx hb dX7_comesAhead_29 (by decide) ?_
          exact cr_iret hx hb hr hlk rfl 1 rfl (by exact Or.inl (rfl)) dX7_comesAhead_33
      · refine W.eq (g2 := F0 m 18 ls [.int 0]) rfl ?_
        refine lv_if_eq (tgt := 32) hx hb dX7_comesAhead_18 (by decide) (fun c_56 => ?_) (fun c_56 => absurd (by decide) c_56)
        refine lv_iconst (v := 0) hx hb dX7_comesAhead_32 (by decide) ?_
        exact cr_iret hx hb hr hlk rfl 0 rfl (by exact Or.inr ((rfl))) dX7_comesAhead_33
    · refine W.eq (g2 := F0 m 11 ls [.int 0]) rfl ?_
      refine lv_if_eq (tgt := 34) hx hb dX7_comesAhead_11 (by decide) (fun c_57 => ?_) (fun c_57 => absurd (by decide) c_57)
      refine lv_aload_n hx hb dX7_comesAhead_34 rfl (lv_at hl 1 rfl) ?_
      refine lv_aload_n hx hb dX7_comesAhead_35 rfl (lv_at hl 2 rfl) ?_
      refine lv_aload_n hx hb dX7_comesAhead_36 rfl (lv_at hl 0 rfl) ?_
      obtain ⟨h_58, h_59, hm_60, h_61, h_62⟩ := id hsp
      refine va_get (D := D) (ci := 7) (v := .int (nI ty)) (C := RX7) (T := TX7) (N := 4) hx hb hts inlX7 hown hK (oneP (C := []) hP hm_60) 0 rfl rfl 3 (by decide) (hts _ mw_809) (fun _ h9 => h9) rfl dX7_comesAhead_37 ?_
      refine er_V (As := [.ref pr, .int (nI ty)]) (rest := []) hFX hKK hE hS (c_X0_comparedTo l D κ κq im ce k n pr k2 n2 (nI ty) hce hpr) 2 gV_X7_39 hdV_X0_comparedTo rfl rfl ⟨Nat.le_of_ble_eq_true rfl, Nat.le_of_ble_eq_true rfl⟩ rfl rfl (Nat.le_of_ble_eq_true rfl) dX7_comesAhead_40 ⟨Nat.le_of_ble_eq_true rfl, Nat.le_of_ble_eq_true rfl⟩ hl.1 (oneP (C := []) hP hm_6) 0 0 rfl rfl rfl (subP hP [] rfl) (fun r__63 hp_64 => ?_)
      refine W.eq (g2 := F0 m 43 ls [.int r__63]) rfl ?_
      refine lv_istore (lv' := [(4, .int r__63), (0, .ref q), (1, .ref ce), (2, .ref pr), (3, .int zd)]) hx hb dX7_comesAhead_43 hl (by decide) rfl (fun ls hl => ?_)
      refine lv_iload_n hx hb dX7_comesAhead_45 rfl (lv_at hl 4 rfl) ?_
      refine lv_if_eq (tgt := 62) hx hb dX7_comesAhead_46 (by decide) (fun c_65 => ?_) (fun c_65 => ?_)
      · refine lv_iload hx hb dX7_comesAhead_62 (lv_at hl 0 rfl) ?_
        refine lv_if_ge (tgt := 71) hx hb dX7_comesAhead_64 (by decide) (fun c_66 => ?_) (fun c_66 => ?_)
        · refine lv_iconst (v := 0) hx hb dX7_comesAhead_71 (by decide) ?_
          exact cr_iret hx hb hr hlk rfl 0 rfl (by exact Or.inr ((rfl))) dX7_comesAhead_72
        · refine lv_iconst (v := 1) hx hb dX7_comesAhead_67 (by decide) ?_
          refine lv_goto (tgt := 72) hx hb dX7_comesAhead_68 (by decide) ?_
          exact cr_iret hx hb hr hlk rfl 1 rfl (by exact Or.inl (rfl)) dX7_comesAhead_72
      · refine lv_iload hx hb dX7_comesAhead_49 (lv_at hl 0 rfl) ?_
        refine lv_if_le (tgt := 58) hx hb dX7_comesAhead_51 (by decide) (fun c_67 => ?_) (fun c_67 => ?_)
        · refine lv_iconst (v := 0) hx hb dX7_comesAhead_58 (by decide) ?_
          refine lv_goto (tgt := 72) hx hb dX7_comesAhead_59 (by decide) ?_
          exact cr_iret hx hb hr hlk rfl 0 rfl (by exact Or.inr ((rfl))) dX7_comesAhead_72
        · refine lv_iconst (v := 1) hx hb dX7_comesAhead_54 (by decide) ?_
          refine lv_goto (tgt := 72) hx hb dX7_comesAhead_55 (by decide) ?_
          exact cr_iret hx hb hr hlk rfl 1 rfl (by exact Or.inl (rfl)) dX7_comesAhead_72
set_option maxHeartbeats 4000000 in
set_option maxRecDepth 100000 in
theorem c_X7_narrowed_r (l : Launch) (D : va_G) (κ : Nat → ClassId) (κq : Nat → Nat) (im : va_W) (q : Nat) (S : Nat) (R : Nat) (w : Nat) (co : Nat) (ra : Nat) (mq : Nat) (ty : Nat) (zh : Int32) (pr : Nat) (k2 : Nat) (n2 : Nat) (hsp : Sp κ im q S R w co ra mq ty) (hpr : Cl κ im pr k2 n2) : Et l yX7_narrowed (wl yX7_narrowed cX7_narrowed 6 (some (.array .int))) { frames := 4, cells := 2, slots := 80, locals := 89 } D κ κq [.ref q, .int zh, .ref pr] ([] ++ im) (fun u9 : Nat × Nat × va_W => some (.ref u9.1)) (fun u9 : Nat × Nat × va_W => Sb im u9.2.2 ∧ Ix κ u9.2.2 u9.1 u9.2.1 R) (fun u9 : Nat × Nat × va_W => ([] ++ u9.2.2)) := by
  refine et_of (by decide +kernel) (Nat.le_of_ble_eq_true rfl) ?_
  intro p e s m args below meth c A ls hx hb hr hml hts hown hlk hin hKK hK hA hP hD hS hE hl
  have hS : va_S A s.heap s.heap [] := hS
  have hP : va_P D vwCl ([] ++ im) s.heap := hP
  have hD : va_D A ([] ++ im) := hD
  have hFX : FX p s m args c cX7_narrowed 6 RX7 := ⟨hx, hb, hml, hown, hts⟩
  have hl : lv_has ls 6 [(0, .ref q), (1, .int zh), (2, .ref pr)] := hl
  obtain ⟨h_1, h_2, hm_3, h_4, h_5⟩ := id hsp
  obtain ⟨hn_6, f_7, hm_8, hf_9⟩ := id h_5
  refine lv_aload_n hx hb dX7_narrowed_0 rfl (lv_at hl 0 rfl) ?_
  refine va_get (D := D) (ci := 7) (v := .ref ra) (C := RX7) (T := TX7) (N := 4) hx hb hts inlX7 hown hK (oneP (C := []) hP hm_3) 0 rfl rfl 2 (by decide) (hts _ mw_808) (fun _ h9 => h9) rfl dX7_narrowed_1 ?_
  refine va_alen hx hb hK (oneP (C := []) hP hm_8) 0 0 rfl rfl (v := nI mq) rfl dX7_narrowed_4 ?_
  refine my_newa (atype := .int) hx hb (hts _ mw_39) rfl hK hP hD hS hA 0 rfl (N' := mq) (a0 := (mq, .inl (fun _ => 0))) (fun _ => rfl) (nI_pos (by omega)) (nI_clamp (by omega)) (by show mq * 4 ≤ _; omega) (Nat.le_of_ble_eq_true rfl) (by show _ ≤ 80; omega) dX7_narrowed_5 (fun q_10 H hP hD hS => ?_)
  refine W.widen (k := 1) (n := 40) (Nat.le_refl _) (by omega) ?_
  replace hP : va_P D vwCl ([(q_10, .inl (κ 0, mq, .inl (fun _ => 0)))] ++ im) H := mvP hP
  replace hD : va_D A ([(q_10, .inl (κ 0, mq, .inl (fun _ => 0)))] ++ im) := mvD hD
  refine lv_astore_n (lv' := [(3, .ref q_10), (0, .ref q), (1, .int zh), (2, .ref pr)]) hx hb dX7_narrowed_7 rfl hl (by decide) rfl (fun ls hl => ?_)
  refine lv_iconst (v := 0) hx hb dX7_narrowed_8 (by decide) ?_
  refine lv_istore (lv' := [(4, .int 0), (3, .ref q_10), (0, .ref q), (1, .int zh), (2, .ref pr)]) hx hb dX7_narrowed_9 hl (by decide) rfl (fun ls hl => ?_)
  refine lv_iconst (v := 0) hx hb dX7_narrowed_11 (by decide) ?_
  refine lv_istore (lv' := [(5, .int 0), (4, .int 0), (3, .ref q_10), (0, .ref q), (1, .int zh), (2, .ref pr)]) hx hb dX7_narrowed_12 hl (by decide) rfl (fun ls hl => ?_)
  refine loop_dn (fun k9 H locs ls => ∃ (k5_14 : Nat), ∃ (k4_14 : Nat), ∃ (gq_10_14 : Nat → Int32), (k5_14 ≤ mq) ∧ (k4_14 ≤ k5_14) ∧ (Rn k4_14 R gq_10_14) ∧ mq - k5_14 = k9 ∧ va_P D vwCl ([(q_10, .inl (κ 0, mq, .inl gq_10_14))] ++ im) H ∧ va_D A ([(q_10, .inl (κ 0, mq, .inl gq_10_14))] ++ im) ∧ va_S A s.heap H locs ∧ lv_has ls 6 [(5, .int (nI k5_14)), (4, .int (nI k4_14)), (3, .ref q_10), (0, .ref q), (1, .int zh), (2, .ref pr)]) (fun k9 H locs ls hI14 ih14 => ?_) (mq - 0) _ _ _ ⟨0, 0, (fun _ => 0), (by omega), (by omega), Rn_0, rfl, hP, hD, hS, lv_sub hl [0, 1, 2, 3, 4, 5] rfl⟩
  obtain ⟨k5_14, k4_14, gq_10_14, hl14_0, hl14_1, hl14_2, hm14, hP, hD, hS, hl⟩ := hI14
  refine lv_iload hx hb dX7_narrowed_14 (lv_at hl 0 rfl) ?_
  refine lv_aload_n hx hb dX7_narrowed_16 rfl (lv_at hl 3 rfl) ?_
  refine va_get (D := D) (ci := 7) (v := .ref ra) (C := RX7) (T := TX7) (N := 4) hx hb hts inlX7 hown hK (oneP (C := [(q_10, .inl (κ 0, mq, .inl gq_10_14))]) hP hm_3) 0 rfl rfl 2 (by decide) (hts _ mw_808) (fun _ h9 => h9) rfl dX7_narrowed_17 ?_
  refine va_alen hx hb hK (oneP (C := [(q_10, .inl (κ 0, mq, .inl gq_10_14))]) hP hm_8) 0 0 rfl rfl (v := nI mq) rfl dX7_narrowed_20 ?_
  refine lv_icmp_ge (tgt := 64) hx hb dX7_narrowed_21 (by decide) (fun c_11 => ?_) (fun c_11 => ?_)
  · have nc_11 := cv_le (a := mq) (b := k5_14) (by omega) (by omega) c_11
    refine lv_aload_n hx hb dX7_narrowed_64 rfl (lv_at hl 2 rfl) ?_
    refine lv_iload hx hb dX7_narrowed_65 (lv_at hl 1 rfl) ?_
    refine et_SN (CR := []) (As := [.ref q_10, .int (nI k4_14)]) (rest := []) hFX hKK hE hP hD hS hA (c_copyi_l l D κ κq q_10 mq k4_14 R gq_10_14 (by omega) (by omega) hl14_2) 2 gS_X7_49 hdS_J7_copyOf_59c91 ⟨Nat.le_of_ble_eq_true rfl, Nat.le_of_ble_eq_true rfl⟩ rfl rfl (Nat.le_of_ble_eq_true rfl) dX7_narrowed_67 ⟨Nat.le_of_ble_eq_true rfl, Nat.le_of_ble_eq_true rfl⟩ hl.1 [0] [] rfl rfl (by decide) (by decide) (by decide) (fun u_14 H locs hp_15 hP hD hS => ?_)
    refine W.widen (k := 2) (n := 80) (Nat.le_refl _) (Nat.le_refl _) ?_
    obtain ⟨q__12, g__13⟩ := u_14
    replace hP : va_P D vwCl ([(q_10, .inl (κ 0, mq, .inl gq_10_14)), (q__12, .inl (κ 0, k4_14, .inl g__13))] ++ im) H := subP (C := [(q_10, .inl (κ 0, mq, .inl gq_10_14)), (q__12, .inl (κ 0, k4_14, .inl g__13))]) hP [0, 1] rfl
    replace hD : va_D A ([(q_10, .inl (κ 0, mq, .inl gq_10_14)), (q__12, .inl (κ 0, k4_14, .inl g__13))] ++ im) := subD (C := [(q_10, .inl (κ 0, mq, .inl gq_10_14)), (q__12, .inl (κ 0, k4_14, .inl g__13))]) hD [0, 1] (by decide) rfl
    replace hp_15 : Rn k4_14 R g__13 := hp_15
    have h_16 := hp_15
    clear hp_15
    refine W.eq (g2 := F0 m 70 ls [.ref q__12]) rfl ?_
    replace hP : va_P D vwCl ([(q_10, .inl (κ 0, mq, .inl gq_10_14)), (q__12, .inl (κ 0, k4_14, .inl g__13))] ++ im) _ := subP hP [0, 1] rfl
    replace hD : va_D A ([(q_10, .inl (κ 0, mq, .inl gq_10_14)), (q__12, .inl (κ 0, k4_14, .inl g__13))] ++ im) := subD hD [0, 1] (by decide) rfl
    obtain ⟨im_17, he_18⟩ : ∃ x9 : va_W, x9 = ([(q_10, .inl (κ 0, mq, .inl gq_10_14)), (q__12, .inl (κ 0, k4_14, .inl g__13))] ++ im) := ⟨_, rfl⟩
    have hs_19 : Sb im im_17 := by rw [he_18]; exact Sb.app
    have hm_q_10 : (q_10, .inl (κ 0, mq, .inl gq_10_14)) ∈ im_17 := by rw [he_18]; exact List.mem_of_getElem? (i := 0) rfl
    have hm_q__12 : (q__12, .inl (κ 0, k4_14, .inl g__13)) ∈ im_17 := by rw [he_18]; exact List.mem_of_getElem? (i := 1) rfl
    replace hP : va_P D vwCl ([] ++ ([(q_10, .inl (κ 0, mq, .inl gq_10_14)), (q__12, .inl (κ 0, k4_14, .inl g__13))] ++ im)) _ := hP
    replace hD : va_D A ([] ++ ([(q_10, .inl (κ 0, mq, .inl gq_10_14)), (q__12, .inl (κ 0, k4_14, .inl g__13))] ++ im)) := hD
    rw [← he_18] at hP hD
    clear he_18
    replace hsp := hsp.up hs_19
    replace hpr := hpr.up hs_19
    replace h_4 := h_4.up hs_19
    replace h_5 := h_5.up hs_19
    replace hm_3 := hs_19 _ hm_3
    replace hm_8 := hs_19 _ hm_8
    have hf_20 : Ix κ im_17 q__12 k4_14 R := ⟨by omega, _, hm_q__12, h_16⟩
    exact et_aret hx hb hr (by first | exact Or.inl ⟨_, rfl⟩ | exact Or.inr ⟨_, rfl⟩) hlk (by first | exact Or.inl rfl | exact Or.inr ⟨_, rfl⟩) hS (q__12, k4_14, im_17) rfl ⟨(show Sb im im_17 from hs_19), (show Ix κ im_17 q__12 k4_14 R from hf_20)⟩ (subP hP [] rfl) (subD hD [] (by decide) rfl) (Nat.le_of_ble_eq_true rfl) (Nat.le_of_ble_eq_true rfl) dX7_narrowed_70
  · have nc_11 := cv_nle (a := mq) (b := k5_14) (by omega) (by omega) c_11
    refine lv_aload_n hx hb dX7_narrowed_24 rfl (lv_at hl 3 rfl) ?_
    refine lv_aload_n hx hb dX7_narrowed_25 rfl (lv_at hl 3 rfl) ?_
    refine lv_aload_n hx hb dX7_narrowed_26 rfl (lv_at hl 3 rfl) ?_
    refine va_get (D := D) (ci := 7) (v := .ref ra) (C := RX7) (T := TX7) (N := 4) hx hb hts inlX7 hown hK (oneP (C := [(q_10, .inl (κ 0, mq, .inl gq_10_14))]) hP hm_3) 0 rfl rfl 2 (by decide) (hts _ mw_808) (fun _ h9 => h9) rfl dX7_narrowed_27 ?_
    refine lv_iload hx hb dX7_narrowed_30 (lv_at hl 0 rfl) ?_
    refine va_iald hx hb hK (oneP (C := [(q_10, .inl (κ 0, mq, .inl gq_10_14))]) hP hm_8) 0 0 rfl rfl (i := nI k5_14) (vp_in_nI (n := k5_14) (by omega) (by omega)) dX7_narrowed_32 ?_
    refine kv (v := .int (f_7 k5_14)) (by rw [nI_clamp (by omega)]) ?_
    obtain ⟨n_21, hn_21, en_21⟩ := hf_9 k5_14 (by omega)
    refine kv (v := .int (nI n_21)) (congrArg Value.int en_21) ?_
    refine er_V (As := [.int (nI n_21)]) (rest := [.ref q]) hFX hKK hE hS (c_X7_cellOf l D κ κq im q S R w co ra mq ty n_21 hsp (by omega)) 1 gV_X7_36 hdV_X7_cellOf rfl rfl ⟨Nat.le_of_ble_eq_true rfl, Nat.le_of_ble_eq_true rfl⟩ rfl rfl (Nat.le_of_ble_eq_true rfl) dX7_narrowed_33 ⟨Nat.le_of_ble_eq_true rfl, Nat.le_of_ble_eq_true rfl⟩ hl.1 (oneP (C := [(q_10, .inl (κ 0, mq, .inl gq_10_14))]) hP hm_3) 0 7 rfl rfl rfl (subP hP [] rfl) (fun r__22 hp_23 => ?_)
    replace hp_23 : ((∃ (p : Nat), ∃ (k : Nat), ∃ (n : Nat), r__22 = some p ∧ Cl κ im p k n)) := hp_23
    have ha_24 := hp_23
    clear hp_23
    rcases ha_24 with ⟨p__25, k__26, n__27, rfl, a_28⟩
    · refine W.eq (g2 := F0 m 36 ls [.ref p__25, .ref q]) rfl ?_
      refine lv_iload_n hx hb dX7_narrowed_36 rfl (lv_at hl 4 rfl) ?_
      refine lv_aload_n hx hb dX7_narrowed_37 rfl (lv_at hl 5 rfl) ?_
      refine er_V (As := [.ref p__25, .int zh, .ref pr]) (rest := []) hFX hKK hE hS (c_X7_fits_r l D κ κq im q S R w co ra mq ty p__25 k__26 n__27 zh pr k2 n2 hsp a_28 hpr) 3 gV_X7_45 hdV_X7_fits rfl rfl ⟨Nat.le_of_ble_eq_true rfl, Nat.le_of_ble_eq_true rfl⟩ rfl rfl (Nat.le_of_ble_eq_true rfl) dX7_narrowed_38 ⟨Nat.le_of_ble_eq_true rfl, Nat.le_of_ble_eq_true rfl⟩ hl.1 (oneP (C := [(q_10, .inl (κ 0, mq, .inl gq_10_14))]) hP hm_3) 0 7 rfl rfl rfl (subP hP [] rfl) (fun r__29 hp_30 => ?_)
      replace hp_30 : ((r__29 = 1) ∨ (r__29 = 0)) := hp_30
      have ha_31 := hp_30
      clear hp_30
      rcases ha_31 with rfl | rfl
      · refine W.eq (g2 := F0 m 41 ls [.int 1]) rfl ?_
        refine lv_if_eq (tgt := 58) hx hb dX7_narrowed_41 (by decide) (fun c_32 => absurd c_32 (by decide)) (fun c_32 => ?_)
        refine lv_aload_n hx hb dX7_narrowed_44 rfl (lv_at hl 2 rfl) ?_
        refine lv_iload hx hb dX7_narrowed_45 (lv_at hl 1 rfl) ?_
        refine lv_aload_n hx hb dX7_narrowed_47 rfl (lv_at hl 3 rfl) ?_
        refine va_get (D := D) (ci := 7) (v := .ref ra) (C := RX7) (T := TX7) (N := 4) hx hb hts inlX7 hown hK (oneP (C := [(q_10, .inl (κ 0, mq, .inl gq_10_14))]) hP hm_3) 0 rfl rfl 2 (by decide) (hts _ mw_808) (fun _ h9 => h9) rfl dX7_narrowed_48 ?_
        refine lv_iload hx hb dX7_narrowed_51 (lv_at hl 0 rfl) ?_
        refine va_iald hx hb hK (oneP (C := [(q_10, .inl (κ 0, mq, .inl gq_10_14))]) hP hm_8) 0 0 rfl rfl (i := nI k5_14) (vp_in_nI (n := k5_14) (by omega) (by omega)) dX7_narrowed_53 ?_
        refine kv (v := .int (nI n_21)) (by rw [nI_clamp (by omega)]; exact congrArg Value.int en_21) ?_
        refine va_iast hx hb hK hP hD hS 0 0 rfl rfl (i := nI k4_14) (x := nI n_21) (vp_in_nI (n := k4_14) (by omega) (by omega)) dX7_narrowed_54 (fun H locs hP hD hS => ?_)
        rw [nI_clamp (by omega)] at hP hD
        have hP : va_P D vwCl ([(q_10, .inl (κ 0, mq, .inl (upd gq_10_14 k4_14 (nI n_21))))] ++ im) H := hP
        have hD : va_D A ([(q_10, .inl (κ 0, mq, .inl (upd gq_10_14 k4_14 (nI n_21))))] ++ im) := hD
        have hf_34 : Rn k4_14 R (upd gq_10_14 k4_14 (nI n_21)) := Rn_set hl14_2 (v := n_21) (by omega)
        have hq : Rn (k4_14 + 1) R (upd gq_10_14 k4_14 (nI n_21)) := (Rn_add hl14_2 (by omega))
        generalize upd gq_10_14 k4_14 (nI n_21) = g_33 at hP hD hf_34 hq
        refine lv_iinc (v := (nI (k4_14 + 1))) (lv' := [(4, .int (nI (k4_14 + 1))), (5, .int (nI k5_14)), (3, .ref q_10), (0, .ref q), (1, .int zh), (2, .ref pr)]) hx hb dX7_narrowed_55 hl (k := 1) rfl (nI_i k4_14) (by decide) rfl (fun ls hl => ?_)
        refine lv_iinc (v := (nI (k5_14 + 1))) (lv' := [(5, .int (nI (k5_14 + 1))), (4, .int (nI (k4_14 + 1))), (3, .ref q_10), (0, .ref q), (1, .int zh), (2, .ref pr)]) hx hb dX7_narrowed_58 hl (k := 1) rfl (nI_i k5_14) (by decide) rfl (fun ls hl => ?_)
        refine lv_goto (tgt := 14) hx hb dX7_narrowed_61 (by decide) ?_
        exact ih14 _ _ _ _ (by omega) ⟨(k5_14 + 1), (k4_14 + 1), g_33, (by omega), (by omega), hq, rfl, hP, hD, hS, lv_sub hl [0, 1, 2, 3, 4, 5] rfl⟩
      · refine W.eq (g2 := F0 m 41 ls [.int 0]) rfl ?_
        refine lv_if_eq (tgt := 58) hx hb dX7_narrowed_41 (by decide) (fun c_35 => ?_) (fun c_35 => absurd (by decide) c_35)
        refine lv_iinc (v := (nI (k5_14 + 1))) (lv' := [(5, .int (nI (k5_14 + 1))), (4, .int (nI k4_14)), (3, .ref q_10), (0, .ref q), (1, .int zh), (2, .ref pr)]) hx hb dX7_narrowed_58 hl (k := 0) rfl (nI_i k5_14) (by decide) rfl (fun ls hl => ?_)
        refine lv_goto (tgt := 14) hx hb dX7_narrowed_61 (by decide) ?_
        exact ih14 _ _ _ _ (by omega) ⟨(k5_14 + 1), k4_14, gq_10_14, (by omega), (by omega), hl14_2, rfl, hP, hD, hS, lv_sub hl [0, 1, 2, 3, 4, 5] rfl⟩
set_option maxHeartbeats 4000000 in
set_option maxRecDepth 100000 in
theorem c_X7_narrowed_n (l : Launch) (D : va_G) (κ : Nat → ClassId) (κq : Nat → Nat) (im : va_W) (q : Nat) (S : Nat) (R : Nat) (w : Nat) (co : Nat) (ra : Nat) (mq : Nat) (ty : Nat) (zh : Int32) (hsp : Sp κ im q S R w co ra mq ty) : Et l yX7_narrowed (wl yX7_narrowed cX7_narrowed 6 (some (.array .int))) { frames := 2, cells := 2, slots := 80, locals := 43 } D κ κq [.ref q, .int zh, .null] ([] ++ im) (fun u9 : Nat × Nat × va_W => some (.ref u9.1)) (fun u9 : Nat × Nat × va_W => Sb im u9.2.2 ∧ Ix κ u9.2.2 u9.1 u9.2.1 R) (fun u9 : Nat × Nat × va_W => ([] ++ u9.2.2)) := by
  refine et_of (by decide +kernel) (Nat.le_of_ble_eq_true rfl) ?_
  intro p e s m args below meth c A ls hx hb hr hml hts hown hlk hin hKK hK hA hP hD hS hE hl
  have hS : va_S A s.heap s.heap [] := hS
  have hP : va_P D vwCl ([] ++ im) s.heap := hP
  have hD : va_D A ([] ++ im) := hD
  have hFX : FX p s m args c cX7_narrowed 6 RX7 := ⟨hx, hb, hml, hown, hts⟩
  have hl : lv_has ls 6 [(0, .ref q), (1, .int zh), (2, .null)] := hl
  obtain ⟨h_1, h_2, hm_3, h_4, h_5⟩ := id hsp
  obtain ⟨hn_6, f_7, hm_8, hf_9⟩ := id h_5
  refine lv_aload_n hx hb dX7_narrowed_0 rfl (lv_at hl 0 rfl) ?_
  refine va_get (D := D) (ci := 7) (v := .ref ra) (C := RX7) (T := TX7) (N := 4) hx hb hts inlX7 hown hK (oneP (C := []) hP hm_3) 0 rfl rfl 2 (by decide) (hts _ mw_808) (fun _ h9 => h9) rfl dX7_narrowed_1 ?_
  refine va_alen hx hb hK (oneP (C := []) hP hm_8) 0 0 rfl rfl (v := nI mq) rfl dX7_narrowed_4 ?_
  refine my_newa (atype := .int) hx hb (hts _ mw_39) rfl hK hP hD hS hA 0 rfl (N' := mq) (a0 := (mq, .inl (fun _ => 0))) (fun _ => rfl) (nI_pos (by omega)) (nI_clamp (by omega)) (by show mq * 4 ≤ _; omega) (Nat.le_of_ble_eq_true rfl) (by show _ ≤ 80; omega) dX7_narrowed_5 (fun q_10 H hP hD hS => ?_)
  refine W.widen (k := 1) (n := 40) (Nat.le_refl _) (by omega) ?_
  replace hP : va_P D vwCl ([(q_10, .inl (κ 0, mq, .inl (fun _ => 0)))] ++ im) H := mvP hP
  replace hD : va_D A ([(q_10, .inl (κ 0, mq, .inl (fun _ => 0)))] ++ im) := mvD hD
  refine lv_astore_n (lv' := [(3, .ref q_10), (0, .ref q), (1, .int zh), (2, .null)]) hx hb dX7_narrowed_7 rfl hl (by decide) rfl (fun ls hl => ?_)
  refine lv_iconst (v := 0) hx hb dX7_narrowed_8 (by decide) ?_
  refine lv_istore (lv' := [(4, .int 0), (3, .ref q_10), (0, .ref q), (1, .int zh), (2, .null)]) hx hb dX7_narrowed_9 hl (by decide) rfl (fun ls hl => ?_)
  refine lv_iconst (v := 0) hx hb dX7_narrowed_11 (by decide) ?_
  refine lv_istore (lv' := [(5, .int 0), (4, .int 0), (3, .ref q_10), (0, .ref q), (1, .int zh), (2, .null)]) hx hb dX7_narrowed_12 hl (by decide) rfl (fun ls hl => ?_)
  refine loop_dn (fun k9 H locs ls => ∃ (k5_14 : Nat), ∃ (k4_14 : Nat), ∃ (gq_10_14 : Nat → Int32), (k5_14 ≤ mq) ∧ (k4_14 ≤ k5_14) ∧ (Rn k4_14 R gq_10_14) ∧ mq - k5_14 = k9 ∧ va_P D vwCl ([(q_10, .inl (κ 0, mq, .inl gq_10_14))] ++ im) H ∧ va_D A ([(q_10, .inl (κ 0, mq, .inl gq_10_14))] ++ im) ∧ va_S A s.heap H locs ∧ lv_has ls 6 [(5, .int (nI k5_14)), (4, .int (nI k4_14)), (3, .ref q_10), (0, .ref q), (1, .int zh), (2, .null)]) (fun k9 H locs ls hI14 ih14 => ?_) (mq - 0) _ _ _ ⟨0, 0, (fun _ => 0), (by omega), (by omega), Rn_0, rfl, hP, hD, hS, lv_sub hl [0, 1, 2, 3, 4, 5] rfl⟩
  obtain ⟨k5_14, k4_14, gq_10_14, hl14_0, hl14_1, hl14_2, hm14, hP, hD, hS, hl⟩ := hI14
  refine lv_iload hx hb dX7_narrowed_14 (lv_at hl 0 rfl) ?_
  refine lv_aload_n hx hb dX7_narrowed_16 rfl (lv_at hl 3 rfl) ?_
  refine va_get (D := D) (ci := 7) (v := .ref ra) (C := RX7) (T := TX7) (N := 4) hx hb hts inlX7 hown hK (oneP (C := [(q_10, .inl (κ 0, mq, .inl gq_10_14))]) hP hm_3) 0 rfl rfl 2 (by decide) (hts _ mw_808) (fun _ h9 => h9) rfl dX7_narrowed_17 ?_
  refine va_alen hx hb hK (oneP (C := [(q_10, .inl (κ 0, mq, .inl gq_10_14))]) hP hm_8) 0 0 rfl rfl (v := nI mq) rfl dX7_narrowed_20 ?_
  refine lv_icmp_ge (tgt := 64) hx hb dX7_narrowed_21 (by decide) (fun c_11 => ?_) (fun c_11 => ?_)
  · have nc_11 := cv_le (a := mq) (b := k5_14) (by omega) (by omega) c_11
    refine lv_aload_n hx hb dX7_narrowed_64 rfl (lv_at hl 2 rfl) ?_
    refine lv_iload hx hb dX7_narrowed_65 (lv_at hl 1 rfl) ?_
    refine et_SN (CR := []) (As := [.ref q_10, .int (nI k4_14)]) (rest := []) hFX hKK hE hP hD hS hA (c_copyi_l l D κ κq q_10 mq k4_14 R gq_10_14 (by omega) (by omega) hl14_2) 2 gS_X7_49 hdS_J7_copyOf_59c91 ⟨Nat.le_of_ble_eq_true rfl, Nat.le_of_ble_eq_true rfl⟩ rfl rfl (Nat.le_of_ble_eq_true rfl) dX7_narrowed_67 ⟨Nat.le_of_ble_eq_true rfl, Nat.le_of_ble_eq_true rfl⟩ hl.1 [0] [] rfl rfl (by decide) (by decide) (by decide) (fun u_14 H locs hp_15 hP hD hS => ?_)
    refine W.widen (k := 2) (n := 80) (Nat.le_refl _) (Nat.le_refl _) ?_
    obtain ⟨q__12, g__13⟩ := u_14
    replace hP : va_P D vwCl ([(q_10, .inl (κ 0, mq, .inl gq_10_14)), (q__12, .inl (κ 0, k4_14, .inl g__13))] ++ im) H := subP (C := [(q_10, .inl (κ 0, mq, .inl gq_10_14)), (q__12, .inl (κ 0, k4_14, .inl g__13))]) hP [0, 1] rfl
    replace hD : va_D A ([(q_10, .inl (κ 0, mq, .inl gq_10_14)), (q__12, .inl (κ 0, k4_14, .inl g__13))] ++ im) := subD (C := [(q_10, .inl (κ 0, mq, .inl gq_10_14)), (q__12, .inl (κ 0, k4_14, .inl g__13))]) hD [0, 1] (by decide) rfl
    replace hp_15 : Rn k4_14 R g__13 := hp_15
    have h_16 := hp_15
    clear hp_15
    refine W.eq (g2 := F0 m 70 ls [.ref q__12]) rfl ?_
    replace hP : va_P D vwCl ([(q_10, .inl (κ 0, mq, .inl gq_10_14)), (q__12, .inl (κ 0, k4_14, .inl g__13))] ++ im) _ := subP hP [0, 1] rfl
    replace hD : va_D A ([(q_10, .inl (κ 0, mq, .inl gq_10_14)), (q__12, .inl (κ 0, k4_14, .inl g__13))] ++ im) := subD hD [0, 1] (by decide) rfl
    obtain ⟨im_17, he_18⟩ : ∃ x9 : va_W, x9 = ([(q_10, .inl (κ 0, mq, .inl gq_10_14)), (q__12, .inl (κ 0, k4_14, .inl g__13))] ++ im) := ⟨_, rfl⟩
    have hs_19 : Sb im im_17 := by rw [he_18]; exact Sb.app
    have hm_q_10 : (q_10, .inl (κ 0, mq, .inl gq_10_14)) ∈ im_17 := by rw [he_18]; exact List.mem_of_getElem? (i := 0) rfl
    have hm_q__12 : (q__12, .inl (κ 0, k4_14, .inl g__13)) ∈ im_17 := by rw [he_18]; exact List.mem_of_getElem? (i := 1) rfl
    replace hP : va_P D vwCl ([] ++ ([(q_10, .inl (κ 0, mq, .inl gq_10_14)), (q__12, .inl (κ 0, k4_14, .inl g__13))] ++ im)) _ := hP
    replace hD : va_D A ([] ++ ([(q_10, .inl (κ 0, mq, .inl gq_10_14)), (q__12, .inl (κ 0, k4_14, .inl g__13))] ++ im)) := hD
    rw [← he_18] at hP hD
    clear he_18
    replace hsp := hsp.up hs_19
    replace h_4 := h_4.up hs_19
    replace h_5 := h_5.up hs_19
    replace hm_3 := hs_19 _ hm_3
    replace hm_8 := hs_19 _ hm_8
    have hf_20 : Ix κ im_17 q__12 k4_14 R := ⟨by omega, _, hm_q__12, h_16⟩
    exact et_aret hx hb hr (by first | exact Or.inl ⟨_, rfl⟩ | exact Or.inr ⟨_, rfl⟩) hlk (by first | exact Or.inl rfl | exact Or.inr ⟨_, rfl⟩) hS (q__12, k4_14, im_17) rfl ⟨(show Sb im im_17 from hs_19), (show Ix κ im_17 q__12 k4_14 R from hf_20)⟩ (subP hP [] rfl) (subD hD [] (by decide) rfl) (Nat.le_of_ble_eq_true rfl) (Nat.le_of_ble_eq_true rfl) dX7_narrowed_70
  · have nc_11 := cv_nle (a := mq) (b := k5_14) (by omega) (by omega) c_11
    refine lv_aload_n hx hb dX7_narrowed_24 rfl (lv_at hl 3 rfl) ?_
    refine lv_aload_n hx hb dX7_narrowed_25 rfl (lv_at hl 3 rfl) ?_
    refine lv_aload_n hx hb dX7_narrowed_26 rfl (lv_at hl 3 rfl) ?_
    refine va_get (D := D) (ci := 7) (v := .ref ra) (C := RX7) (T := TX7) (N := 4) hx hb hts inlX7 hown hK (oneP (C := [(q_10, .inl (κ 0, mq, .inl gq_10_14))]) hP hm_3) 0 rfl rfl 2 (by decide) (hts _ mw_808) (fun _ h9 => h9) rfl dX7_narrowed_27 ?_
    refine lv_iload hx hb dX7_narrowed_30 (lv_at hl 0 rfl) ?_
    refine va_iald hx hb hK (oneP (C := [(q_10, .inl (κ 0, mq, .inl gq_10_14))]) hP hm_8) 0 0 rfl rfl (i := nI k5_14) (vp_in_nI (n := k5_14) (by omega) (by omega)) dX7_narrowed_32 ?_
    refine kv (v := .int (f_7 k5_14)) (by rw [nI_clamp (by omega)]) ?_
    obtain ⟨n_21, hn_21, en_21⟩ := hf_9 k5_14 (by omega)
    refine kv (v := .int (nI n_21)) (congrArg Value.int en_21) ?_
    refine er_V (As := [.int (nI n_21)]) (rest := [.ref q]) hFX hKK hE hS (c_X7_cellOf l D κ κq im q S R w co ra mq ty n_21 hsp (by omega)) 1 gV_X7_36 hdV_X7_cellOf rfl rfl ⟨Nat.le_of_ble_eq_true rfl, Nat.le_of_ble_eq_true rfl⟩ rfl rfl (Nat.le_of_ble_eq_true rfl) dX7_narrowed_33 ⟨Nat.le_of_ble_eq_true rfl, Nat.le_of_ble_eq_true rfl⟩ hl.1 (oneP (C := [(q_10, .inl (κ 0, mq, .inl gq_10_14))]) hP hm_3) 0 7 rfl rfl rfl (subP hP [] rfl) (fun r__22 hp_23 => ?_)
    replace hp_23 : ((∃ (p : Nat), ∃ (k : Nat), ∃ (n : Nat), r__22 = some p ∧ Cl κ im p k n)) := hp_23
    have ha_24 := hp_23
    clear hp_23
    rcases ha_24 with ⟨p__25, k__26, n__27, rfl, a_28⟩
    · refine W.eq (g2 := F0 m 36 ls [.ref p__25, .ref q]) rfl ?_
      refine lv_iload_n hx hb dX7_narrowed_36 rfl (lv_at hl 4 rfl) ?_
      refine lv_aload_nN hx hb dX7_narrowed_37 rfl (lv_at hl 5 rfl) ?_
      refine er_V (As := [.ref p__25, .int zh, .null]) (rest := []) hFX hKK hE hS (c_X7_fits_n l D κ κq im q S R w co ra mq ty p__25 k__26 n__27 zh hsp a_28) 3 gV_X7_45 hdV_X7_fits rfl rfl ⟨Nat.le_of_ble_eq_true rfl, Nat.le_of_ble_eq_true rfl⟩ rfl rfl (Nat.le_of_ble_eq_true rfl) dX7_narrowed_38 ⟨Nat.le_of_ble_eq_true rfl, Nat.le_of_ble_eq_true rfl⟩ hl.1 (oneP (C := [(q_10, .inl (κ 0, mq, .inl gq_10_14))]) hP hm_3) 0 7 rfl rfl rfl (subP hP [] rfl) (fun r__29 hp_30 => ?_)
      replace hp_30 : ((r__29 = 1) ∨ (r__29 = 0)) := hp_30
      have ha_31 := hp_30
      clear hp_30
      rcases ha_31 with rfl | rfl
      · refine W.eq (g2 := F0 m 41 ls [.int 1]) rfl ?_
        refine lv_if_eq (tgt := 58) hx hb dX7_narrowed_41 (by decide) (fun c_32 => absurd c_32 (by decide)) (fun c_32 => ?_)
        refine lv_aload_n hx hb dX7_narrowed_44 rfl (lv_at hl 2 rfl) ?_
        refine lv_iload hx hb dX7_narrowed_45 (lv_at hl 1 rfl) ?_
        refine lv_aload_n hx hb dX7_narrowed_47 rfl (lv_at hl 3 rfl) ?_
        refine va_get (D := D) (ci := 7) (v := .ref ra) (C := RX7) (T := TX7) (N := 4) hx hb hts inlX7 hown hK (oneP (C := [(q_10, .inl (κ 0, mq, .inl gq_10_14))]) hP hm_3) 0 rfl rfl 2 (by decide) (hts _ mw_808) (fun _ h9 => h9) rfl dX7_narrowed_48 ?_
        refine lv_iload hx hb dX7_narrowed_51 (lv_at hl 0 rfl) ?_
        refine va_iald hx hb hK (oneP (C := [(q_10, .inl (κ 0, mq, .inl gq_10_14))]) hP hm_8) 0 0 rfl rfl (i := nI k5_14) (vp_in_nI (n := k5_14) (by omega) (by omega)) dX7_narrowed_53 ?_
        refine kv (v := .int (nI n_21)) (by rw [nI_clamp (by omega)]; exact congrArg Value.int en_21) ?_
        refine va_iast hx hb hK hP hD hS 0 0 rfl rfl (i := nI k4_14) (x := nI n_21) (vp_in_nI (n := k4_14) (by omega) (by omega)) dX7_narrowed_54 (fun H locs hP hD hS => ?_)
        rw [nI_clamp (by omega)] at hP hD
        have hP : va_P D vwCl ([(q_10, .inl (κ 0, mq, .inl (upd gq_10_14 k4_14 (nI n_21))))] ++ im) H := hP
        have hD : va_D A ([(q_10, .inl (κ 0, mq, .inl (upd gq_10_14 k4_14 (nI n_21))))] ++ im) := hD
        have hf_34 : Rn k4_14 R (upd gq_10_14 k4_14 (nI n_21)) := Rn_set hl14_2 (v := n_21) (by omega)
        have hq : Rn (k4_14 + 1) R (upd gq_10_14 k4_14 (nI n_21)) := (Rn_add hl14_2 (by omega))
        generalize upd gq_10_14 k4_14 (nI n_21) = g_33 at hP hD hf_34 hq
        refine lv_iinc (v := (nI (k4_14 + 1))) (lv' := [(4, .int (nI (k4_14 + 1))), (5, .int (nI k5_14)), (3, .ref q_10), (0, .ref q), (1, .int zh), (2, .null)]) hx hb dX7_narrowed_55 hl (k := 1) rfl (nI_i k4_14) (by decide) rfl (fun ls hl => ?_)
        refine lv_iinc (v := (nI (k5_14 + 1))) (lv' := [(5, .int (nI (k5_14 + 1))), (4, .int (nI (k4_14 + 1))), (3, .ref q_10), (0, .ref q), (1, .int zh), (2, .null)]) hx hb dX7_narrowed_58 hl (k := 1) rfl (nI_i k5_14) (by decide) rfl (fun ls hl => ?_)
        refine lv_goto (tgt := 14) hx hb dX7_narrowed_61 (by decide) ?_
        exact ih14 _ _ _ _ (by omega) ⟨(k5_14 + 1), (k4_14 + 1), g_33, (by omega), (by omega), hq, rfl, hP, hD, hS, lv_sub hl [0, 1, 2, 3, 4, 5] rfl⟩
      · refine W.eq (g2 := F0 m 41 ls [.int 0]) rfl ?_
        refine lv_if_eq (tgt := 58) hx hb dX7_narrowed_41 (by decide) (fun c_35 => ?_) (fun c_35 => absurd (by decide) c_35)
        refine lv_iinc (v := (nI (k5_14 + 1))) (lv' := [(5, .int (nI (k5_14 + 1))), (4, .int (nI k4_14)), (3, .ref q_10), (0, .ref q), (1, .int zh), (2, .null)]) hx hb dX7_narrowed_58 hl (k := 0) rfl (nI_i k5_14) (by decide) rfl (fun ls hl => ?_)
        refine lv_goto (tgt := 14) hx hb dX7_narrowed_61 (by decide) ?_
        exact ih14 _ _ _ _ (by omega) ⟨(k5_14 + 1), k4_14, gq_10_14, (by omega), (by omega), hl14_2, rfl, hP, hD, hS, lv_sub hl [0, 1, 2, 3, 4, 5] rfl⟩
set_option maxHeartbeats 4000000 in
set_option maxRecDepth 100000 in
theorem c_X7_isLikeOneOf (l : Launch) (D : va_G) (κ : Nat → ClassId) (κq : Nat → Nat) (im : va_W) (q : Nat) (S : Nat) (R : Nat) (w : Nat) (co : Nat) (ra : Nat) (mq : Nat) (ty : Nat) (r9 : Nat) (x : Nat) (N : Nat) (n : Nat) (f : Nat → Int32) (hsp : Sp κ im q S R w co ra mq ty) (hr9 : r9 < R) (hn : n ≤ N) (hN : N ≤ 40) (hrn : Rn n R f) : Er l yX7_isLikeOneOf (wl yX7_isLikeOneOf cX7_isLikeOneOf 5 (some .boolean)) { frames := 4, cells := 0, slots := 0, locals := 88 } D κ κq [.ref q, .int (nI r9), .ref x, .int (nI n)] ([(x, .inl (κ 0, N, .inl f))] ++ im) (fun r : Int32 => some (.int r)) (fun r : Int32 => ((r = 1) ∨ (r = 0))) := by
  refine er_of (by decide +kernel) (Nat.le_of_ble_eq_true rfl) ?_
  intro p e s m args below meth c A ls hx hb hr hml hts hown hlk hKK hK hP hE hl
  have hS : va_S A s.heap s.heap [] := va_S.rf
  have hP : va_P D vwCl ([(x, .inl (κ 0, N, .inl f))] ++ im) s.heap := hP
  have hFX : FX p s m args c cX7_isLikeOneOf 5 RX7 := ⟨hx, hb, hml, hown, hts⟩
  have hl : lv_has ls 5 [(0, .ref q), (1, .int (nI r9)), (2, .ref x), (3, .int (nI n))] := hl
  obtain ⟨h_1, h_2, hm_3, h_4, h_5⟩ := id hsp
  refine lv_iconst (v := 0) hx hb dX7_isLikeOneOf_0 (by decide) ?_
  refine lv_istore (lv' := [(4, .int 0), (0, .ref q), (1, .int (nI r9)), (2, .ref x), (3, .int (nI n))]) hx hb dX7_isLikeOneOf_1 hl (by decide) rfl (fun ls hl => ?_)
  refine loop_r (fun k9 ls => ∃ (k4_3 : Nat), (k4_3 ≤ n) ∧ n - k4_3 = k9 ∧ lv_has ls 5 [(4, .int (nI k4_3)), (0, .ref q), (1, .int (nI r9)), (2, .ref x), (3, .int (nI n))]) (fun k9 ls hI3 ih3 => ?_) (n - 0) _ ⟨0, (by omega), rfl, lv_sub hl [0, 1, 2, 3, 4] rfl⟩
  obtain ⟨k4_3, hl3_0, hm3, hl⟩ := hI3
  refine lv_iload hx hb dX7_isLikeOneOf_3 (lv_at hl 0 rfl) ?_
  refine lv_iload_n hx hb dX7_isLikeOneOf_5 rfl (lv_at hl 4 rfl) ?_
  refine lv_icmp_ge (tgt := 29) hx hb dX7_isLikeOneOf_6 (by decide) (fun c_6 => ?_) (fun c_6 => ?_)
  · have nc_6 := cv_le (a := n) (b := k4_3) (by omega) (by omega) c_6
    refine lv_iconst (v := 0) hx hb dX7_isLikeOneOf_29 (by decide) ?_
    exact cr_iret hx hb hr hlk rfl 0 rfl (by exact Or.inr ((rfl))) dX7_isLikeOneOf_30
  · have nc_6 := cv_nle (a := n) (b := k4_3) (by omega) (by omega) c_6
    refine lv_aload_n hx hb dX7_isLikeOneOf_9 rfl (lv_at hl 1 rfl) ?_
    refine lv_iload_n hx hb dX7_isLikeOneOf_10 rfl (lv_at hl 2 rfl) ?_
    refine lv_aload_n hx hb dX7_isLikeOneOf_11 rfl (lv_at hl 3 rfl) ?_
    refine lv_iload hx hb dX7_isLikeOneOf_12 (lv_at hl 0 rfl) ?_
    refine va_iald hx hb hK hP 0 0 rfl rfl (i := nI k4_3) (vp_in_nI (n := k4_3) (by omega) (by omega)) dX7_isLikeOneOf_14 ?_
    refine kv (v := .int (f k4_3)) (by rw [nI_clamp (by omega)]) ?_
    obtain ⟨n_7, hn_7, en_7⟩ := hrn k4_3 (by omega)
    refine kv (v := .int (nI n_7)) (congrArg Value.int en_7) ?_
    refine er_V (As := [.int (nI r9), .int (nI n_7)]) (rest := []) hFX hKK hE hS (c_X7_areLike l D κ κq im q S R w co ra mq ty r9 n_7 hsp (by omega) (by omega)) 2 gV_X7_75 hdV_X7_areLike rfl rfl ⟨Nat.le_of_ble_eq_true rfl, Nat.le_of_ble_eq_true rfl⟩ rfl rfl (Nat.le_of_ble_eq_true rfl) dX7_isLikeOneOf_15 ⟨Nat.le_of_ble_eq_true rfl, Nat.le_of_ble_eq_true rfl⟩ hl.1 (oneP (C := [(x, .inl (κ 0, N, .inl f))]) hP hm_3) 0 7 rfl rfl rfl (subP hP [] rfl) (fun r__8 hp_9 => ?_)
    replace hp_9 : ((r__8 = 1) ∨ (r__8 = 0)) := hp_9
    have ha_10 := hp_9
    clear hp_9
    rcases ha_10 with rfl | rfl
    · refine W.eq (g2 := F0 m 18 ls [.int 1]) rfl ?_
      refine lv_if_eq (tgt := 23) hx hb dX7_isLikeOneOf_18 (by decide) (fun c_11 => absurd c_11 (by decide)) (fun c_11 => ?_)
      refine lv_iconst (v := 1) hx hb dX7_isLikeOneOf_21 (by decide) ?_
      exact cr_iret hx hb hr hlk rfl 1 rfl (by exact Or.inl (rfl)) dX7_isLikeOneOf_22
    · refine W.eq (g2 := F0 m 18 ls [.int 0]) rfl ?_
      refine lv_if_eq (tgt := 23) hx hb dX7_isLikeOneOf_18 (by decide) (fun c_12 => ?_) (fun c_12 => absurd (by decide) c_12)
      refine lv_iinc (v := (nI (k4_3 + 1))) (lv' := [(4, .int (nI (k4_3 + 1))), (0, .ref q), (1, .int (nI r9)), (2, .ref x), (3, .int (nI n))]) hx hb dX7_isLikeOneOf_23 hl (k := 0) rfl (nI_i k4_3) (by decide) rfl (fun ls hl => ?_)
      refine lv_goto (tgt := 3) hx hb dX7_isLikeOneOf_26 (by decide) ?_
      exact ih3 _ _ (by omega) ⟨(k4_3 + 1), (by omega), rfl, lv_sub hl [0, 1, 2, 3, 4] rfl⟩
set_option maxHeartbeats 4000000 in
set_option maxRecDepth 100000 in
theorem c_X7_firsts (l : Launch) (D : va_G) (κ : Nat → ClassId) (κq : Nat → Nat) (im : va_W) (q : Nat) (S : Nat) (R : Nat) (w : Nat) (co : Nat) (ra : Nat) (mq : Nat) (ty : Nat) (hsp : Sp κ im q S R w co ra mq ty) : Et l yX7_firsts (wl yX7_firsts cX7_firsts 4 (some (.array .int))) { frames := 5, cells := 2, slots := 80, locals := 112 } D κ κq [.ref q] ([] ++ im) (fun u9 : Nat × Nat × va_W => some (.ref u9.1)) (fun u9 : Nat × Nat × va_W => Sb im u9.2.2 ∧ Ix κ u9.2.2 u9.1 u9.2.1 R) (fun u9 : Nat × Nat × va_W => ([] ++ u9.2.2)) := by
  refine et_of (by decide +kernel) (Nat.le_of_ble_eq_true rfl) ?_
  intro p e s m args below meth c A ls hx hb hr hml hts hown hlk hin hKK hK hA hP hD hS hE hl
  have hS : va_S A s.heap s.heap [] := hS
  have hP : va_P D vwCl ([] ++ im) s.heap := hP
  have hD : va_D A ([] ++ im) := hD
  have hFX : FX p s m args c cX7_firsts 4 RX7 := ⟨hx, hb, hml, hown, hts⟩
  have hl : lv_has ls 4 [(0, .ref q)] := hl
  obtain ⟨h_1, h_2, hm_3, h_4, h_5⟩ := id hsp
  obtain ⟨hn_6, f_7, hm_8, hf_9⟩ := id h_5
  refine lv_aload_n hx hb dX7_firsts_0 rfl (lv_at hl 0 rfl) ?_
  refine va_get (D := D) (ci := 7) (v := .ref ra) (C := RX7) (T := TX7) (N := 4) hx hb hts inlX7 hown hK (oneP (C := []) hP hm_3) 0 rfl rfl 2 (by decide) (hts _ mw_808) (fun _ h9 => h9) rfl dX7_firsts_1 ?_
  refine va_alen hx hb hK (oneP (C := []) hP hm_8) 0 0 rfl rfl (v := nI mq) rfl dX7_firsts_4 ?_
  refine my_newa (atype := .int) hx hb (hts _ mw_39) rfl hK hP hD hS hA 0 rfl (N' := mq) (a0 := (mq, .inl (fun _ => 0))) (fun _ => rfl) (nI_pos (by omega)) (nI_clamp (by omega)) (by show mq * 4 ≤ _; omega) (Nat.le_of_ble_eq_true rfl) (by show _ ≤ 80; omega) dX7_firsts_5 (fun q_10 H hP hD hS => ?_)
  refine W.widen (k := 1) (n := 40) (Nat.le_refl _) (by omega) ?_
  replace hP : va_P D vwCl ([(q_10, .inl (κ 0, mq, .inl (fun _ => 0)))] ++ im) H := mvP hP
  replace hD : va_D A ([(q_10, .inl (κ 0, mq, .inl (fun _ => 0)))] ++ im) := mvD hD
  refine lv_astore_n (lv' := [(1, .ref q_10), (0, .ref q)]) hx hb dX7_firsts_7 rfl hl (by decide) rfl (fun ls hl => ?_)
  refine lv_iconst (v := 0) hx hb dX7_firsts_8 (by decide) ?_
  refine lv_istore_n (lv' := [(2, .int 0), (1, .ref q_10), (0, .ref q)]) hx hb dX7_firsts_9 rfl hl (by decide) rfl (fun ls hl => ?_)
  refine lv_iconst (v := 0) hx hb dX7_firsts_10 (by decide) ?_
  refine lv_istore_n (lv' := [(3, .int 0), (2, .int 0), (1, .ref q_10), (0, .ref q)]) hx hb dX7_firsts_11 rfl hl (by decide) rfl (fun ls hl => ?_)
  refine loop_dn (fun k9 H locs ls => ∃ (k3_12 : Nat), ∃ (k2_12 : Nat), ∃ (gq_10_12 : Nat → Int32), (k3_12 ≤ mq) ∧ (k2_12 ≤ k3_12) ∧ (Rn k2_12 R gq_10_12) ∧ mq - k3_12 = k9 ∧ va_P D vwCl ([(q_10, .inl (κ 0, mq, .inl gq_10_12))] ++ im) H ∧ va_D A ([(q_10, .inl (κ 0, mq, .inl gq_10_12))] ++ im) ∧ va_S A s.heap H locs ∧ lv_has ls 4 [(3, .int (nI k3_12)), (2, .int (nI k2_12)), (1, .ref q_10), (0, .ref q)]) (fun k9 H locs ls hI12 ih12 => ?_) (mq - 0) _ _ _ ⟨0, 0, (fun _ => 0), (by omega), (by omega), Rn_0, rfl, hP, hD, hS, lv_sub hl [0, 1, 2, 3] rfl⟩
  obtain ⟨k3_12, k2_12, gq_10_12, hl12_0, hl12_1, hl12_2, hm12, hP, hD, hS, hl⟩ := hI12
  refine lv_iload_n hx hb dX7_firsts_12 rfl (lv_at hl 0 rfl) ?_
  refine lv_aload_n hx hb dX7_firsts_13 rfl (lv_at hl 3 rfl) ?_
  refine va_get (D := D) (ci := 7) (v := .ref ra) (C := RX7) (T := TX7) (N := 4) hx hb hts inlX7 hown hK (oneP (C := [(q_10, .inl (κ 0, mq, .inl gq_10_12))]) hP hm_3) 0 rfl rfl 2 (by decide) (hts _ mw_808) (fun _ h9 => h9) rfl dX7_firsts_14 ?_
  refine va_alen hx hb hK (oneP (C := [(q_10, .inl (κ 0, mq, .inl gq_10_12))]) hP hm_8) 0 0 rfl rfl (v := nI mq) rfl dX7_firsts_17 ?_
  refine lv_icmp_ge (tgt := 54) hx hb dX7_firsts_18 (by decide) (fun c_11 => ?_) (fun c_11 => ?_)
  · have nc_11 := cv_le (a := mq) (b := k3_12) (by omega) (by omega) c_11
    refine lv_aload_n hx hb dX7_firsts_54 rfl (lv_at hl 2 rfl) ?_
    refine lv_iload_n hx hb dX7_firsts_55 rfl (lv_at hl 1 rfl) ?_
    refine et_SN (CR := []) (As := [.ref q_10, .int (nI k2_12)]) (rest := []) hFX hKK hE hP hD hS hA (c_copyi_l l D κ κq q_10 mq k2_12 R gq_10_12 (by omega) (by omega) hl12_2) 2 gS_X7_49 hdS_J7_copyOf_59c91 ⟨Nat.le_of_ble_eq_true rfl, Nat.le_of_ble_eq_true rfl⟩ rfl rfl (Nat.le_of_ble_eq_true rfl) dX7_firsts_56 ⟨Nat.le_of_ble_eq_true rfl, Nat.le_of_ble_eq_true rfl⟩ hl.1 [0] [] rfl rfl (by decide) (by decide) (by decide) (fun u_14 H locs hp_15 hP hD hS => ?_)
    refine W.widen (k := 2) (n := 80) (Nat.le_refl _) (Nat.le_refl _) ?_
    obtain ⟨q__12, g__13⟩ := u_14
    replace hP : va_P D vwCl ([(q_10, .inl (κ 0, mq, .inl gq_10_12)), (q__12, .inl (κ 0, k2_12, .inl g__13))] ++ im) H := subP (C := [(q_10, .inl (κ 0, mq, .inl gq_10_12)), (q__12, .inl (κ 0, k2_12, .inl g__13))]) hP [0, 1] rfl
    replace hD : va_D A ([(q_10, .inl (κ 0, mq, .inl gq_10_12)), (q__12, .inl (κ 0, k2_12, .inl g__13))] ++ im) := subD (C := [(q_10, .inl (κ 0, mq, .inl gq_10_12)), (q__12, .inl (κ 0, k2_12, .inl g__13))]) hD [0, 1] (by decide) rfl
    replace hp_15 : Rn k2_12 R g__13 := hp_15
    have h_16 := hp_15
    clear hp_15
    refine W.eq (g2 := F0 m 59 ls [.ref q__12]) rfl ?_
    replace hP : va_P D vwCl ([(q_10, .inl (κ 0, mq, .inl gq_10_12)), (q__12, .inl (κ 0, k2_12, .inl g__13))] ++ im) _ := subP hP [0, 1] rfl
    replace hD : va_D A ([(q_10, .inl (κ 0, mq, .inl gq_10_12)), (q__12, .inl (κ 0, k2_12, .inl g__13))] ++ im) := subD hD [0, 1] (by decide) rfl
    obtain ⟨im_17, he_18⟩ : ∃ x9 : va_W, x9 = ([(q_10, .inl (κ 0, mq, .inl gq_10_12)), (q__12, .inl (κ 0, k2_12, .inl g__13))] ++ im) := ⟨_, rfl⟩
    have hs_19 : Sb im im_17 := by rw [he_18]; exact Sb.app
    have hm_q_10 : (q_10, .inl (κ 0, mq, .inl gq_10_12)) ∈ im_17 := by rw [he_18]; exact List.mem_of_getElem? (i := 0) rfl
    have hm_q__12 : (q__12, .inl (κ 0, k2_12, .inl g__13)) ∈ im_17 := by rw [he_18]; exact List.mem_of_getElem? (i := 1) rfl
    replace hP : va_P D vwCl ([] ++ ([(q_10, .inl (κ 0, mq, .inl gq_10_12)), (q__12, .inl (κ 0, k2_12, .inl g__13))] ++ im)) _ := hP
    replace hD : va_D A ([] ++ ([(q_10, .inl (κ 0, mq, .inl gq_10_12)), (q__12, .inl (κ 0, k2_12, .inl g__13))] ++ im)) := hD
    rw [← he_18] at hP hD
    clear he_18
    replace hsp := hsp.up hs_19
    replace h_4 := h_4.up hs_19
    replace h_5 := h_5.up hs_19
    replace hm_3 := hs_19 _ hm_3
    replace hm_8 := hs_19 _ hm_8
    have hf_20 : Ix κ im_17 q__12 k2_12 R := ⟨by omega, _, hm_q__12, h_16⟩
    exact et_aret hx hb hr (by first | exact Or.inl ⟨_, rfl⟩ | exact Or.inr ⟨_, rfl⟩) hlk (by first | exact Or.inl rfl | exact Or.inr ⟨_, rfl⟩) hS (q__12, k2_12, im_17) rfl ⟨(show Sb im im_17 from hs_19), (show Ix κ im_17 q__12 k2_12 R from hf_20)⟩ (subP hP [] rfl) (subD hD [] (by decide) rfl) (Nat.le_of_ble_eq_true rfl) (Nat.le_of_ble_eq_true rfl) dX7_firsts_59
  · have nc_11 := cv_nle (a := mq) (b := k3_12) (by omega) (by omega) c_11
    refine lv_aload_n hx hb dX7_firsts_21 rfl (lv_at hl 3 rfl) ?_
    refine lv_aload_n hx hb dX7_firsts_22 rfl (lv_at hl 3 rfl) ?_
    refine va_get (D := D) (ci := 7) (v := .ref ra) (C := RX7) (T := TX7) (N := 4) hx hb hts inlX7 hown hK (oneP (C := [(q_10, .inl (κ 0, mq, .inl gq_10_12))]) hP hm_3) 0 rfl rfl 2 (by decide) (hts _ mw_808) (fun _ h9 => h9) rfl dX7_firsts_23 ?_
    refine lv_iload_n hx hb dX7_firsts_26 rfl (lv_at hl 0 rfl) ?_
    refine va_iald hx hb hK (oneP (C := [(q_10, .inl (κ 0, mq, .inl gq_10_12))]) hP hm_8) 0 0 rfl rfl (i := nI k3_12) (vp_in_nI (n := k3_12) (by omega) (by omega)) dX7_firsts_27 ?_
    refine kv (v := .int (f_7 k3_12)) (by rw [nI_clamp (by omega)]) ?_
    obtain ⟨n_21, hn_21, en_21⟩ := hf_9 k3_12 (by omega)
    refine kv (v := .int (nI n_21)) (congrArg Value.int en_21) ?_
    refine lv_aload_n hx hb dX7_firsts_28 rfl (lv_at hl 2 rfl) ?_
    refine lv_iload_n hx hb dX7_firsts_29 rfl (lv_at hl 1 rfl) ?_
    refine er_V (As := [.int (nI n_21), .ref q_10, .int (nI k2_12)]) (rest := []) hFX hKK hE hS (c_X7_isLikeOneOf l D κ κq im q S R w co ra mq ty n_21 q_10 mq k2_12 gq_10_12 hsp (by omega) (by omega) (by omega) hl12_2) 3 gV_X7_71 hdV_X7_isLikeOneOf rfl rfl ⟨Nat.le_of_ble_eq_true rfl, Nat.le_of_ble_eq_true rfl⟩ rfl rfl (Nat.le_of_ble_eq_true rfl) dX7_firsts_30 ⟨Nat.le_of_ble_eq_true rfl, Nat.le_of_ble_eq_true rfl⟩ hl.1 (oneP (C := [(q_10, .inl (κ 0, mq, .inl gq_10_12))]) hP hm_3) 0 7 rfl rfl rfl (subP hP [0] rfl) (fun r__22 hp_23 => ?_)
    replace hp_23 : ((r__22 = 1) ∨ (r__22 = 0)) := hp_23
    have ha_24 := hp_23
    clear hp_23
    rcases ha_24 with rfl | rfl
    · refine W.eq (g2 := F0 m 33 ls [.int 1]) rfl ?_
      refine lv_if_ne (tgt := 48) hx hb dX7_firsts_33 (by decide) (fun c_25 => ?_) (fun c_25 => absurd c_25 (by decide))
      refine lv_iinc (v := (nI (k3_12 + 1))) (lv' := [(3, .int (nI (k3_12 + 1))), (2, .int (nI k2_12)), (1, .ref q_10), (0, .ref q)]) hx hb dX7_firsts_48 hl (k := 0) rfl (nI_i k3_12) (by decide) rfl (fun ls hl => ?_)
      refine lv_goto (tgt := 12) hx hb dX7_firsts_51 (by decide) ?_
      exact ih12 _ _ _ _ (by omega) ⟨(k3_12 + 1), k2_12, gq_10_12, (by omega), (by omega), hl12_2, rfl, hP, hD, hS, lv_sub hl [0, 1, 2, 3] rfl⟩
    · refine W.eq (g2 := F0 m 33 ls [.int 0]) rfl ?_
      refine lv_if_ne (tgt := 48) hx hb dX7_firsts_33 (by decide) (fun c_26 => absurd c_26 (by decide)) (fun c_26 => ?_)
      refine lv_aload_n hx hb dX7_firsts_36 rfl (lv_at hl 2 rfl) ?_
      refine lv_iload_n hx hb dX7_firsts_37 rfl (lv_at hl 1 rfl) ?_
      refine lv_aload_n hx hb dX7_firsts_38 rfl (lv_at hl 3 rfl) ?_
      refine va_get (D := D) (ci := 7) (v := .ref ra) (C := RX7) (T := TX7) (N := 4) hx hb hts inlX7 hown hK (oneP (C := [(q_10, .inl (κ 0, mq, .inl gq_10_12))]) hP hm_3) 0 rfl rfl 2 (by decide) (hts _ mw_808) (fun _ h9 => h9) rfl dX7_firsts_39 ?_
      refine lv_iload_n hx hb dX7_firsts_42 rfl (lv_at hl 0 rfl) ?_
      refine va_iald hx hb hK (oneP (C := [(q_10, .inl (κ 0, mq, .inl gq_10_12))]) hP hm_8) 0 0 rfl rfl (i := nI k3_12) (vp_in_nI (n := k3_12) (by omega) (by omega)) dX7_firsts_43 ?_
      refine kv (v := .int (nI n_21)) (by rw [nI_clamp (by omega)]; exact congrArg Value.int en_21) ?_
      refine va_iast hx hb hK hP hD hS 0 0 rfl rfl (i := nI k2_12) (x := nI n_21) (vp_in_nI (n := k2_12) (by omega) (by omega)) dX7_firsts_44 (fun H locs hP hD hS => ?_)
      rw [nI_clamp (by omega)] at hP hD
      have hP : va_P D vwCl ([(q_10, .inl (κ 0, mq, .inl (upd gq_10_12 k2_12 (nI n_21))))] ++ im) H := hP
      have hD : va_D A ([(q_10, .inl (κ 0, mq, .inl (upd gq_10_12 k2_12 (nI n_21))))] ++ im) := hD
      have hf_28 : Rn k2_12 R (upd gq_10_12 k2_12 (nI n_21)) := Rn_set hl12_2 (v := n_21) (by omega)
      have hq : Rn (k2_12 + 1) R (upd gq_10_12 k2_12 (nI n_21)) := (Rn_add hl12_2 (by omega))
      generalize upd gq_10_12 k2_12 (nI n_21) = g_27 at hP hD hf_28 hq
      refine lv_iinc (v := (nI (k2_12 + 1))) (lv' := [(2, .int (nI (k2_12 + 1))), (3, .int (nI k3_12)), (1, .ref q_10), (0, .ref q)]) hx hb dX7_firsts_45 hl (k := 1) rfl (nI_i k2_12) (by decide) rfl (fun ls hl => ?_)
      refine lv_iinc (v := (nI (k3_12 + 1))) (lv' := [(3, .int (nI (k3_12 + 1))), (2, .int (nI (k2_12 + 1))), (1, .ref q_10), (0, .ref q)]) hx hb dX7_firsts_48 hl (k := 1) rfl (nI_i k3_12) (by decide) rfl (fun ls hl => ?_)
      refine lv_goto (tgt := 12) hx hb dX7_firsts_51 (by decide) ?_
      exact ih12 _ _ _ _ (by omega) ⟨(k3_12 + 1), (k2_12 + 1), g_27, (by omega), (by omega), hq, rfl, hP, hD, hS, lv_sub hl [0, 1, 2, 3] rfl⟩
set_option maxHeartbeats 4000000 in
set_option maxRecDepth 100000 in
theorem c_X7_rowsLike (l : Launch) (D : va_G) (κ : Nat → ClassId) (κq : Nat → Nat) (im : va_W) (q : Nat) (S : Nat) (R : Nat) (w : Nat) (co : Nat) (ra : Nat) (mq : Nat) (ty : Nat) (r9 : Nat) (hsp : Sp κ im q S R w co ra mq ty) (hr9 : r9 < R) : Et l yX7_rowsLike (wl yX7_rowsLike cX7_rowsLike 5 (some (.array .int))) { frames := 4, cells := 2, slots := 80, locals := 88 } D κ κq [.ref q, .int (nI r9)] ([] ++ im) (fun u9 : Nat × Nat × va_W => some (.ref u9.1)) (fun u9 : Nat × Nat × va_W => Sb im u9.2.2 ∧ Ix κ u9.2.2 u9.1 u9.2.1 R) (fun u9 : Nat × Nat × va_W => ([] ++ u9.2.2)) := by
  refine et_of (by decide +kernel) (Nat.le_of_ble_eq_true rfl) ?_
  intro p e s m args below meth c A ls hx hb hr hml hts hown hlk hin hKK hK hA hP hD hS hE hl
  have hS : va_S A s.heap s.heap [] := hS
  have hP : va_P D vwCl ([] ++ im) s.heap := hP
  have hD : va_D A ([] ++ im) := hD
  have hFX : FX p s m args c cX7_rowsLike 5 RX7 := ⟨hx, hb, hml, hown, hts⟩
  have hl : lv_has ls 5 [(0, .ref q), (1, .int (nI r9))] := hl
  obtain ⟨h_1, h_2, hm_3, h_4, h_5⟩ := id hsp
  obtain ⟨hn_6, f_7, hm_8, hf_9⟩ := id h_5
  refine lv_aload_n hx hb dX7_rowsLike_0 rfl (lv_at hl 0 rfl) ?_
  refine va_get (D := D) (ci := 7) (v := .ref ra) (C := RX7) (T := TX7) (N := 4) hx hb hts inlX7 hown hK (oneP (C := []) hP hm_3) 0 rfl rfl 2 (by decide) (hts _ mw_808) (fun _ h9 => h9) rfl dX7_rowsLike_1 ?_
  refine va_alen hx hb hK (oneP (C := []) hP hm_8) 0 0 rfl rfl (v := nI mq) rfl dX7_rowsLike_4 ?_
  refine my_newa (atype := .int) hx hb (hts _ mw_39) rfl hK hP hD hS hA 0 rfl (N' := mq) (a0 := (mq, .inl (fun _ => 0))) (fun _ => rfl) (nI_pos (by omega)) (nI_clamp (by omega)) (by show mq * 4 ≤ _; omega) (Nat.le_of_ble_eq_true rfl) (by show _ ≤ 80; omega) dX7_rowsLike_5 (fun q_10 H hP hD hS => ?_)
  refine W.widen (k := 1) (n := 40) (Nat.le_refl _) (by omega) ?_
  replace hP : va_P D vwCl ([(q_10, .inl (κ 0, mq, .inl (fun _ => 0)))] ++ im) H := mvP hP
  replace hD : va_D A ([(q_10, .inl (κ 0, mq, .inl (fun _ => 0)))] ++ im) := mvD hD
  refine lv_astore_n (lv' := [(2, .ref q_10), (0, .ref q), (1, .int (nI r9))]) hx hb dX7_rowsLike_7 rfl hl (by decide) rfl (fun ls hl => ?_)
  refine lv_iconst (v := 0) hx hb dX7_rowsLike_8 (by decide) ?_
  refine lv_istore_n (lv' := [(3, .int 0), (2, .ref q_10), (0, .ref q), (1, .int (nI r9))]) hx hb dX7_rowsLike_9 rfl hl (by decide) rfl (fun ls hl => ?_)
  refine lv_iconst (v := 0) hx hb dX7_rowsLike_10 (by decide) ?_
  refine lv_istore (lv' := [(4, .int 0), (3, .int 0), (2, .ref q_10), (0, .ref q), (1, .int (nI r9))]) hx hb dX7_rowsLike_11 hl (by decide) rfl (fun ls hl => ?_)
  refine loop_dn (fun k9 H locs ls => ∃ (k4_13 : Nat), ∃ (k3_13 : Nat), ∃ (gq_10_13 : Nat → Int32), (k4_13 ≤ mq) ∧ (k3_13 ≤ k4_13) ∧ (Rn k3_13 R gq_10_13) ∧ mq - k4_13 = k9 ∧ va_P D vwCl ([(q_10, .inl (κ 0, mq, .inl gq_10_13))] ++ im) H ∧ va_D A ([(q_10, .inl (κ 0, mq, .inl gq_10_13))] ++ im) ∧ va_S A s.heap H locs ∧ lv_has ls 5 [(4, .int (nI k4_13)), (3, .int (nI k3_13)), (2, .ref q_10), (0, .ref q), (1, .int (nI r9))]) (fun k9 H locs ls hI13 ih13 => ?_) (mq - 0) _ _ _ ⟨0, 0, (fun _ => 0), (by omega), (by omega), Rn_0, rfl, hP, hD, hS, lv_sub hl [0, 1, 2, 3, 4] rfl⟩
  obtain ⟨k4_13, k3_13, gq_10_13, hl13_0, hl13_1, hl13_2, hm13, hP, hD, hS, hl⟩ := hI13
  refine lv_iload hx hb dX7_rowsLike_13 (lv_at hl 0 rfl) ?_
  refine lv_aload_n hx hb dX7_rowsLike_15 rfl (lv_at hl 3 rfl) ?_
  refine va_get (D := D) (ci := 7) (v := .ref ra) (C := RX7) (T := TX7) (N := 4) hx hb hts inlX7 hown hK (oneP (C := [(q_10, .inl (κ 0, mq, .inl gq_10_13))]) hP hm_3) 0 rfl rfl 2 (by decide) (hts _ mw_808) (fun _ h9 => h9) rfl dX7_rowsLike_16 ?_
  refine va_alen hx hb hK (oneP (C := [(q_10, .inl (κ 0, mq, .inl gq_10_13))]) hP hm_8) 0 0 rfl rfl (v := nI mq) rfl dX7_rowsLike_19 ?_
  refine lv_icmp_ge (tgt := 57) hx hb dX7_rowsLike_20 (by decide) (fun c_11 => ?_) (fun c_11 => ?_)
  · have nc_11 := cv_le (a := mq) (b := k4_13) (by omega) (by omega) c_11
    refine lv_aload_n hx hb dX7_rowsLike_57 rfl (lv_at hl 2 rfl) ?_
    refine lv_iload_n hx hb dX7_rowsLike_58 rfl (lv_at hl 1 rfl) ?_
    refine et_SN (CR := []) (As := [.ref q_10, .int (nI k3_13)]) (rest := []) hFX hKK hE hP hD hS hA (c_copyi_l l D κ κq q_10 mq k3_13 R gq_10_13 (by omega) (by omega) hl13_2) 2 gS_X7_49 hdS_J7_copyOf_59c91 ⟨Nat.le_of_ble_eq_true rfl, Nat.le_of_ble_eq_true rfl⟩ rfl rfl (Nat.le_of_ble_eq_true rfl) dX7_rowsLike_59 ⟨Nat.le_of_ble_eq_true rfl, Nat.le_of_ble_eq_true rfl⟩ hl.1 [0] [] rfl rfl (by decide) (by decide) (by decide) (fun u_14 H locs hp_15 hP hD hS => ?_)
    refine W.widen (k := 2) (n := 80) (Nat.le_refl _) (Nat.le_refl _) ?_
    obtain ⟨q__12, g__13⟩ := u_14
    replace hP : va_P D vwCl ([(q_10, .inl (κ 0, mq, .inl gq_10_13)), (q__12, .inl (κ 0, k3_13, .inl g__13))] ++ im) H := subP (C := [(q_10, .inl (κ 0, mq, .inl gq_10_13)), (q__12, .inl (κ 0, k3_13, .inl g__13))]) hP [0, 1] rfl
    replace hD : va_D A ([(q_10, .inl (κ 0, mq, .inl gq_10_13)), (q__12, .inl (κ 0, k3_13, .inl g__13))] ++ im) := subD (C := [(q_10, .inl (κ 0, mq, .inl gq_10_13)), (q__12, .inl (κ 0, k3_13, .inl g__13))]) hD [0, 1] (by decide) rfl
    replace hp_15 : Rn k3_13 R g__13 := hp_15
    have h_16 := hp_15
    clear hp_15
    refine W.eq (g2 := F0 m 62 ls [.ref q__12]) rfl ?_
    replace hP : va_P D vwCl ([(q_10, .inl (κ 0, mq, .inl gq_10_13)), (q__12, .inl (κ 0, k3_13, .inl g__13))] ++ im) _ := subP hP [0, 1] rfl
    replace hD : va_D A ([(q_10, .inl (κ 0, mq, .inl gq_10_13)), (q__12, .inl (κ 0, k3_13, .inl g__13))] ++ im) := subD hD [0, 1] (by decide) rfl
    obtain ⟨im_17, he_18⟩ : ∃ x9 : va_W, x9 = ([(q_10, .inl (κ 0, mq, .inl gq_10_13)), (q__12, .inl (κ 0, k3_13, .inl g__13))] ++ im) := ⟨_, rfl⟩
    have hs_19 : Sb im im_17 := by rw [he_18]; exact Sb.app
    have hm_q_10 : (q_10, .inl (κ 0, mq, .inl gq_10_13)) ∈ im_17 := by rw [he_18]; exact List.mem_of_getElem? (i := 0) rfl
    have hm_q__12 : (q__12, .inl (κ 0, k3_13, .inl g__13)) ∈ im_17 := by rw [he_18]; exact List.mem_of_getElem? (i := 1) rfl
    replace hP : va_P D vwCl ([] ++ ([(q_10, .inl (κ 0, mq, .inl gq_10_13)), (q__12, .inl (κ 0, k3_13, .inl g__13))] ++ im)) _ := hP
    replace hD : va_D A ([] ++ ([(q_10, .inl (κ 0, mq, .inl gq_10_13)), (q__12, .inl (κ 0, k3_13, .inl g__13))] ++ im)) := hD
    rw [← he_18] at hP hD
    clear he_18
    replace hsp := hsp.up hs_19
    replace h_4 := h_4.up hs_19
    replace h_5 := h_5.up hs_19
    replace hm_3 := hs_19 _ hm_3
    replace hm_8 := hs_19 _ hm_8
    have hf_20 : Ix κ im_17 q__12 k3_13 R := ⟨by omega, _, hm_q__12, h_16⟩
    exact et_aret hx hb hr (by first | exact Or.inl ⟨_, rfl⟩ | exact Or.inr ⟨_, rfl⟩) hlk (by first | exact Or.inl rfl | exact Or.inr ⟨_, rfl⟩) hS (q__12, k3_13, im_17) rfl ⟨(show Sb im im_17 from hs_19), (show Ix κ im_17 q__12 k3_13 R from hf_20)⟩ (subP hP [] rfl) (subD hD [] (by decide) rfl) (Nat.le_of_ble_eq_true rfl) (Nat.le_of_ble_eq_true rfl) dX7_rowsLike_62
  · have nc_11 := cv_nle (a := mq) (b := k4_13) (by omega) (by omega) c_11
    refine lv_aload_n hx hb dX7_rowsLike_23 rfl (lv_at hl 3 rfl) ?_
    refine lv_aload_n hx hb dX7_rowsLike_24 rfl (lv_at hl 3 rfl) ?_
    refine va_get (D := D) (ci := 7) (v := .ref ra) (C := RX7) (T := TX7) (N := 4) hx hb hts inlX7 hown hK (oneP (C := [(q_10, .inl (κ 0, mq, .inl gq_10_13))]) hP hm_3) 0 rfl rfl 2 (by decide) (hts _ mw_808) (fun _ h9 => h9) rfl dX7_rowsLike_25 ?_
    refine lv_iload hx hb dX7_rowsLike_28 (lv_at hl 0 rfl) ?_
    refine va_iald hx hb hK (oneP (C := [(q_10, .inl (κ 0, mq, .inl gq_10_13))]) hP hm_8) 0 0 rfl rfl (i := nI k4_13) (vp_in_nI (n := k4_13) (by omega) (by omega)) dX7_rowsLike_30 ?_
    refine kv (v := .int (f_7 k4_13)) (by rw [nI_clamp (by omega)]) ?_
    obtain ⟨n_21, hn_21, en_21⟩ := hf_9 k4_13 (by omega)
    refine kv (v := .int (nI n_21)) (congrArg Value.int en_21) ?_
    refine lv_iload_n hx hb dX7_rowsLike_31 rfl (lv_at hl 4 rfl) ?_
    refine er_V (As := [.int (nI n_21), .int (nI r9)]) (rest := []) hFX hKK hE hS (c_X7_areLike l D κ κq im q S R w co ra mq ty n_21 r9 hsp (by omega) (by omega)) 2 gV_X7_75 hdV_X7_areLike rfl rfl ⟨Nat.le_of_ble_eq_true rfl, Nat.le_of_ble_eq_true rfl⟩ rfl rfl (Nat.le_of_ble_eq_true rfl) dX7_rowsLike_32 ⟨Nat.le_of_ble_eq_true rfl, Nat.le_of_ble_eq_true rfl⟩ hl.1 (oneP (C := [(q_10, .inl (κ 0, mq, .inl gq_10_13))]) hP hm_3) 0 7 rfl rfl rfl (subP hP [] rfl) (fun r__22 hp_23 => ?_)
    replace hp_23 : ((r__22 = 1) ∨ (r__22 = 0)) := hp_23
    have ha_24 := hp_23
    clear hp_23
    rcases ha_24 with rfl | rfl
    · refine W.eq (g2 := F0 m 35 ls [.int 1]) rfl ?_
      refine lv_if_eq (tgt := 51) hx hb dX7_rowsLike_35 (by decide) (fun c_25 => absurd c_25 (by decide)) (fun c_25 => ?_)
      refine lv_aload_n hx hb dX7_rowsLike_38 rfl (lv_at hl 2 rfl) ?_
      refine lv_iload_n hx hb dX7_rowsLike_39 rfl (lv_at hl 1 rfl) ?_
      refine lv_aload_n hx hb dX7_rowsLike_40 rfl (lv_at hl 3 rfl) ?_
      refine va_get (D := D) (ci := 7) (v := .ref ra) (C := RX7) (T := TX7) (N := 4) hx hb hts inlX7 hown hK (oneP (C := [(q_10, .inl (κ 0, mq, .inl gq_10_13))]) hP hm_3) 0 rfl rfl 2 (by decide) (hts _ mw_808) (fun _ h9 => h9) rfl dX7_rowsLike_41 ?_
      refine lv_iload hx hb dX7_rowsLike_44 (lv_at hl 0 rfl) ?_
      refine va_iald hx hb hK (oneP (C := [(q_10, .inl (κ 0, mq, .inl gq_10_13))]) hP hm_8) 0 0 rfl rfl (i := nI k4_13) (vp_in_nI (n := k4_13) (by omega) (by omega)) dX7_rowsLike_46 ?_
      refine kv (v := .int (nI n_21)) (by rw [nI_clamp (by omega)]; exact congrArg Value.int en_21) ?_
      refine va_iast hx hb hK hP hD hS 0 0 rfl rfl (i := nI k3_13) (x := nI n_21) (vp_in_nI (n := k3_13) (by omega) (by omega)) dX7_rowsLike_47 (fun H locs hP hD hS => ?_)
      rw [nI_clamp (by omega)] at hP hD
      have hP : va_P D vwCl ([(q_10, .inl (κ 0, mq, .inl (upd gq_10_13 k3_13 (nI n_21))))] ++ im) H := hP
      have hD : va_D A ([(q_10, .inl (κ 0, mq, .inl (upd gq_10_13 k3_13 (nI n_21))))] ++ im) := hD
      have hf_27 : Rn k3_13 R (upd gq_10_13 k3_13 (nI n_21)) := Rn_set hl13_2 (v := n_21) (by omega)
      have hq : Rn (k3_13 + 1) R (upd gq_10_13 k3_13 (nI n_21)) := (Rn_add hl13_2 (by omega))
      generalize upd gq_10_13 k3_13 (nI n_21) = g_26 at hP hD hf_27 hq
      refine lv_iinc (v := (nI (k3_13 + 1))) (lv' := [(3, .int (nI (k3_13 + 1))), (4, .int (nI k4_13)), (2, .ref q_10), (0, .ref q), (1, .int (nI r9))]) hx hb dX7_rowsLike_48 hl (k := 1) rfl (nI_i k3_13) (by decide) rfl (fun ls hl => ?_)
      refine lv_iinc (v := (nI (k4_13 + 1))) (lv' := [(4, .int (nI (k4_13 + 1))), (3, .int (nI (k3_13 + 1))), (2, .ref q_10), (0, .ref q), (1, .int (nI r9))]) hx hb dX7_rowsLike_51 hl (k := 1) rfl (nI_i k4_13) (by decide) rfl (fun ls hl => ?_)
      refine lv_goto (tgt := 13) hx hb dX7_rowsLike_54 (by decide) ?_
      exact ih13 _ _ _ _ (by omega) ⟨(k4_13 + 1), (k3_13 + 1), g_26, (by omega), (by omega), hq, rfl, hP, hD, hS, lv_sub hl [0, 1, 2, 3, 4] rfl⟩
    · refine W.eq (g2 := F0 m 35 ls [.int 0]) rfl ?_
      refine lv_if_eq (tgt := 51) hx hb dX7_rowsLike_35 (by decide) (fun c_28 => ?_) (fun c_28 => absurd (by decide) c_28)
      refine lv_iinc (v := (nI (k4_13 + 1))) (lv' := [(4, .int (nI (k4_13 + 1))), (3, .int (nI k3_13)), (2, .ref q_10), (0, .ref q), (1, .int (nI r9))]) hx hb dX7_rowsLike_51 hl (k := 0) rfl (nI_i k4_13) (by decide) rfl (fun ls hl => ?_)
      refine lv_goto (tgt := 13) hx hb dX7_rowsLike_54 (by decide) ?_
      exact ih13 _ _ _ _ (by omega) ⟨(k4_13 + 1), k3_13, gq_10_13, (by omega), (by omega), hl13_2, rfl, hP, hD, hS, lv_sub hl [0, 1, 2, 3, 4] rfl⟩
set_option maxHeartbeats 4000000 in
set_option maxRecDepth 100000 in
theorem c_X7_filled (l : Launch) (D : va_G) (κ : Nat → ClassId) (κq : Nat → Nat) (im : va_W) (q : Nat) (S : Nat) (R : Nat) (w : Nat) (co : Nat) (ra : Nat) (mq : Nat) (ty : Nat) (hsp : Sp κ im q S R w co ra mq ty) : Et l yX7_filled (wl yX7_filled cX7_filled 4 (some (.object "TypedTables$Strip"))) { frames := 5, cells := 3, slots := 84, locals := 110 } D κ κq [.ref q] ([] ++ im) (fun u9 : Nat × Nat × Nat × Nat × va_W => some (.ref u9.1)) (fun u9 : Nat × Nat × Nat × Nat × va_W => Sb im u9.2.2.2.2 ∧ Sp κ u9.2.2.2.2 u9.1 S R w co u9.2.1 u9.2.2.1 u9.2.2.2.1) (fun u9 : Nat × Nat × Nat × Nat × va_W => ([] ++ u9.2.2.2.2)) := by
  refine et_of (by decide +kernel) (Nat.le_of_ble_eq_true rfl) ?_
  intro p e s m args below meth c A ls hx hb hr hml hts hown hlk hin hKK hK hA hP hD hS hE hl
  have hS : va_S A s.heap s.heap [] := hS
  have hP : va_P D vwCl ([] ++ im) s.heap := hP
  have hD : va_D A ([] ++ im) := hD
  have hFX : FX p s m args c cX7_filled 4 RX7 := ⟨hx, hb, hml, hown, hts⟩
  have hl : lv_has ls 4 [(0, .ref q)] := hl
  obtain ⟨h_1, h_2, hm_3, h_4, h_5⟩ := id hsp
  obtain ⟨hn_6, f_7, hm_8, hf_9⟩ := id h_5
  refine lv_aload_n hx hb dX7_filled_0 rfl (lv_at hl 0 rfl) ?_
  refine va_get (D := D) (ci := 7) (v := .ref ra) (C := RX7) (T := TX7) (N := 4) hx hb hts inlX7 hown hK (oneP (C := []) hP hm_3) 0 rfl rfl 2 (by decide) (hts _ mw_808) (fun _ h9 => h9) rfl dX7_filled_1 ?_
  refine va_alen hx hb hK (oneP (C := []) hP hm_8) 0 0 rfl rfl (v := nI mq) rfl dX7_filled_4 ?_
  refine my_newa (atype := .int) hx hb (hts _ mw_39) rfl hK hP hD hS hA 0 rfl (N' := mq) (a0 := (mq, .inl (fun _ => 0))) (fun _ => rfl) (nI_pos (by omega)) (nI_clamp (by omega)) (by show mq * 4 ≤ _; omega) (Nat.le_of_ble_eq_true rfl) (by show _ ≤ 84; omega) dX7_filled_5 (fun q_10 H hP hD hS => ?_)
  refine W.widen (k := 1) (n := 40) (Nat.le_refl _) (by omega) ?_
  replace hP : va_P D vwCl ([(q_10, .inl (κ 0, mq, .inl (fun _ => 0)))] ++ im) H := mvP hP
  replace hD : va_D A ([(q_10, .inl (κ 0, mq, .inl (fun _ => 0)))] ++ im) := mvD hD
  refine lv_astore_n (lv' := [(1, .ref q_10), (0, .ref q)]) hx hb dX7_filled_7 rfl hl (by decide) rfl (fun ls hl => ?_)
  refine lv_iconst (v := 0) hx hb dX7_filled_8 (by decide) ?_
  refine lv_istore_n (lv' := [(2, .int 0), (1, .ref q_10), (0, .ref q)]) hx hb dX7_filled_9 rfl hl (by decide) rfl (fun ls hl => ?_)
  refine lv_iconst (v := 0) hx hb dX7_filled_10 (by decide) ?_
  refine lv_istore_n (lv' := [(3, .int 0), (2, .int 0), (1, .ref q_10), (0, .ref q)]) hx hb dX7_filled_11 rfl hl (by decide) rfl (fun ls hl => ?_)
  refine loop_dn (fun k9 H locs ls => ∃ (k3_12 : Nat), ∃ (k2_12 : Nat), ∃ (gq_10_12 : Nat → Int32), (k3_12 ≤ mq) ∧ (k2_12 ≤ k3_12) ∧ (Rn k2_12 R gq_10_12) ∧ mq - k3_12 = k9 ∧ va_P D vwCl ([(q_10, .inl (κ 0, mq, .inl gq_10_12))] ++ im) H ∧ va_D A ([(q_10, .inl (κ 0, mq, .inl gq_10_12))] ++ im) ∧ va_S A s.heap H locs ∧ lv_has ls 4 [(3, .int (nI k3_12)), (2, .int (nI k2_12)), (1, .ref q_10), (0, .ref q)]) (fun k9 H locs ls hI12 ih12 => ?_) (mq - 0) _ _ _ ⟨0, 0, (fun _ => 0), (by omega), (by omega), Rn_0, rfl, hP, hD, hS, lv_sub hl [0, 1, 2, 3] rfl⟩
  obtain ⟨k3_12, k2_12, gq_10_12, hl12_0, hl12_1, hl12_2, hm12, hP, hD, hS, hl⟩ := hI12
  refine lv_iload_n hx hb dX7_filled_12 rfl (lv_at hl 0 rfl) ?_
  refine lv_aload_n hx hb dX7_filled_13 rfl (lv_at hl 3 rfl) ?_
  refine va_get (D := D) (ci := 7) (v := .ref ra) (C := RX7) (T := TX7) (N := 4) hx hb hts inlX7 hown hK (oneP (C := [(q_10, .inl (κ 0, mq, .inl gq_10_12))]) hP hm_3) 0 rfl rfl 2 (by decide) (hts _ mw_808) (fun _ h9 => h9) rfl dX7_filled_14 ?_
  refine va_alen hx hb hK (oneP (C := [(q_10, .inl (κ 0, mq, .inl gq_10_12))]) hP hm_8) 0 0 rfl rfl (v := nI mq) rfl dX7_filled_17 ?_
  refine lv_icmp_ge (tgt := 55) hx hb dX7_filled_18 (by decide) (fun c_11 => ?_) (fun c_11 => ?_)
  · have nc_11 := cv_le (a := mq) (b := k3_12) (by omega) (by omega) c_11
    refine va_new (ci := 7) (fs := [.null, .int 0, .null, .int 0]) (C := RX7) (T := TX7) (N := 4) hx hb hts inlX7 tyX7 tyX7_ok hown (hts _ mw_1278) (hts _ mw_793) (hts _ mw_794) hK hP hD hS hA rfl (fun j hj => by rcases (show j = 0 ∨ j = 1 ∨ j = 2 ∨ j = 3 by omega) with rfl | rfl | rfl | rfl <;> rfl) (Nat.le_of_ble_eq_true rfl) (Nat.le_of_ble_eq_true rfl) dX7_filled_55 (fun q_12 H hP hD hS => ?_)
    replace hP : va_P D vwCl ([(q_10, .inl (κ 0, mq, .inl gq_10_12)), (q_12, .inr (7, [.null, .int 0, .null, .int 0]))] ++ im) H := mvP hP
    replace hD : va_D A ([(q_10, .inl (κ 0, mq, .inl gq_10_12)), (q_12, .inr (7, [.null, .int 0, .null, .int 0]))] ++ im) := mvD hD
    refine lv_dup hx hb dX7_filled_58 rfl ?_
    refine lv_aload_n hx hb dX7_filled_59 rfl (lv_at hl 3 rfl) ?_
    refine va_get (D := D) (ci := 7) (v := .ref S) (C := RX7) (T := TX7) (N := 4) hx hb hts inlX7 hown hK (oneP (C := [(q_10, .inl (κ 0, mq, .inl gq_10_12)), (q_12, .inr (7, [.null, .int 0, .null, .int 0]))]) hP hm_3) 0 rfl rfl 0 (by decide) (hts _ mw_806) (fun _ h9 => h9) rfl dX7_filled_60 ?_
    refine lv_aload_n hx hb dX7_filled_63 rfl (lv_at hl 3 rfl) ?_
    refine va_get (D := D) (ci := 7) (v := .int (nI co)) (C := RX7) (T := TX7) (N := 4) hx hb hts inlX7 hown hK (oneP (C := [(q_10, .inl (κ 0, mq, .inl gq_10_12)), (q_12, .inr (7, [.null, .int 0, .null, .int 0]))]) hP hm_3) 0 rfl rfl 1 (by decide) (hts _ mw_807) (fun _ h9 => h9) rfl dX7_filled_64 ?_
    refine lv_aload_n hx hb dX7_filled_67 rfl (lv_at hl 2 rfl) ?_
    refine lv_iload_n hx hb dX7_filled_68 rfl (lv_at hl 1 rfl) ?_
    refine et_SN (CR := [(q_12, .inr (7, [.null, .int 0, .null, .int 0]))]) (As := [.ref q_10, .int (nI k2_12)]) (rest := [.int (nI co), .ref S, .ref q_12, .ref q_12]) hFX hKK hE hP hD hS hA (c_copyi_l l D κ κq q_10 mq k2_12 R gq_10_12 (by omega) (by omega) hl12_2) 2 gS_X7_49 hdS_J7_copyOf_59c91 ⟨Nat.le_of_ble_eq_true rfl, Nat.le_of_ble_eq_true rfl⟩ rfl rfl (Nat.le_of_ble_eq_true rfl) dX7_filled_69 ⟨Nat.le_of_ble_eq_true rfl, Nat.le_of_ble_eq_true rfl⟩ hl.1 [0] [1] rfl rfl (by decide) (by decide) (by decide) (fun u_15 H locs hp_16 hP hD hS => ?_)
    refine W.widen (k := 3) (n := 84) (Nat.le_refl _) (Nat.le_refl _) ?_
    obtain ⟨q__13, g__14⟩ := u_15
    replace hP : va_P D vwCl ([(q_10, .inl (κ 0, mq, .inl gq_10_12)), (q_12, .inr (7, [.null, .int 0, .null, .int 0])), (q__13, .inl (κ 0, k2_12, .inl g__14))] ++ im) H := subP (C := [(q_12, .inr (7, [.null, .int 0, .null, .int 0])), (q_10, .inl (κ 0, mq, .inl gq_10_12)), (q__13, .inl (κ 0, k2_12, .inl g__14))]) hP [1, 0, 2] rfl
    replace hD : va_D A ([(q_10, .inl (κ 0, mq, .inl gq_10_12)), (q_12, .inr (7, [.null, .int 0, .null, .int 0])), (q__13, .inl (κ 0, k2_12, .inl g__14))] ++ im) := subD (C := [(q_12, .inr (7, [.null, .int 0, .null, .int 0])), (q_10, .inl (κ 0, mq, .inl gq_10_12)), (q__13, .inl (κ 0, k2_12, .inl g__14))]) hD [1, 0, 2] (by decide) rfl
    replace hp_16 : Rn k2_12 R g__14 := hp_16
    have h_17 := hp_16
    clear hp_16
    refine W.eq (g2 := F0 m 72 ls [.ref q__13, .int (nI co), .ref S, .ref q_12, .ref q_12]) rfl ?_
    replace hP : va_P D vwCl ([(q_12, .inr (7, [.null, .int 0, .null, .int 0])), (q_10, .inl (κ 0, mq, .inl gq_10_12)), (q__13, .inl (κ 0, k2_12, .inl g__14))] ++ im) _ := subP hP [1, 0, 2] rfl
    replace hD : va_D A ([(q_12, .inr (7, [.null, .int 0, .null, .int 0])), (q_10, .inl (κ 0, mq, .inl gq_10_12)), (q__13, .inl (κ 0, k2_12, .inl g__14))] ++ im) := subD hD [1, 0, 2] (by decide) rfl
    obtain ⟨im_18, he_19⟩ : ∃ x9 : va_W, x9 = ([(q_10, .inl (κ 0, mq, .inl gq_10_12)), (q__13, .inl (κ 0, k2_12, .inl g__14))] ++ im) := ⟨_, rfl⟩
    have hs_20 : Sb im im_18 := by rw [he_19]; exact Sb.app
    have hm_q_10 : (q_10, .inl (κ 0, mq, .inl gq_10_12)) ∈ im_18 := by rw [he_19]; exact List.mem_of_getElem? (i := 0) rfl
    have hm_q__13 : (q__13, .inl (κ 0, k2_12, .inl g__14)) ∈ im_18 := by rw [he_19]; exact List.mem_of_getElem? (i := 1) rfl
    replace hP : va_P D vwCl ([(q_12, .inr (7, [.null, .int 0, .null, .int 0]))] ++ ([(q_10, .inl (κ 0, mq, .inl gq_10_12)), (q__13, .inl (κ 0, k2_12, .inl g__14))] ++ im)) _ := hP
    replace hD : va_D A ([(q_12, .inr (7, [.null, .int 0, .null, .int 0]))] ++ ([(q_10, .inl (κ 0, mq, .inl gq_10_12)), (q__13, .inl (κ 0, k2_12, .inl g__14))] ++ im)) := hD
    rw [← he_19] at hP hD
    clear he_19
    replace hsp := hsp.up hs_20
    replace h_4 := h_4.up hs_20
    replace h_5 := h_5.up hs_20
    replace hm_3 := hs_20 _ hm_3
    replace hm_8 := hs_20 _ hm_8
    have hf_21 : Ix κ im_18 q__13 k2_12 R := ⟨by omega, _, hm_q__13, h_17⟩
    refine et_IT (CR := []) (As := [.ref S, .int (nI co), .ref q__13]) (rest := [.ref q_12]) hFX hKK hE hP hD hS hA (c_X7_init l D κ κq im_18 q_12 S R w co q__13 k2_12 h_4 (by omega) hf_21) 3 mw_1279 mw_803 mw_794 mw_804 hdI_X7_init ⟨Nat.le_of_ble_eq_true rfl, Nat.le_of_ble_eq_true rfl⟩ rfl rfl (Nat.le_of_ble_eq_true rfl) dX7_filled_72 ⟨Nat.le_of_ble_eq_true rfl, Nat.le_of_ble_eq_true rfl⟩ hl.1 [0] [] rfl rfl (by decide) (by decide) (by decide) (fun u_24 H locs hp_25 hP hD hS => ?_)
    refine W.widen (k := 3) (n := 84) (Nat.le_refl _) (Nat.le_refl _) ?_
    obtain ⟨ty__22, im2__23⟩ := u_24
    replace hP : va_P D vwCl ([] ++ im2__23) H := subP (C := []) hP [] rfl
    replace hD : va_D A ([] ++ im2__23) := subD (C := []) hD [] (by decide) rfl
    replace hp_25 : Sb im_18 im2__23 ∧ Sp κ im2__23 q_12 S R w co q__13 k2_12 ty__22 := hp_25
    obtain ⟨h_26, h_27⟩ := hp_25
    replace hsp := hsp.up h_26
    replace h_4 := h_4.up h_26
    replace h_5 := h_5.up h_26
    replace hf_21 := hf_21.up h_26
    replace hm_3 := h_26 _ hm_3
    replace hm_8 := h_26 _ hm_8
    replace hm_q_10 := h_26 _ hm_q_10
    replace hm_q__13 := h_26 _ hm_q__13
    refine W.eq (g2 := F0 m 75 ls [.ref q_12]) rfl ?_
    exact et_aret hx hb hr (by first | exact Or.inl ⟨_, rfl⟩ | exact Or.inr ⟨_, rfl⟩) hlk (by first | exact Or.inl rfl | exact Or.inr ⟨_, rfl⟩) hS (q_12, q__13, k2_12, ty__22, im2__23) rfl ⟨(show Sb im im2__23 from (Sb.tr hs_20 h_26)), (show Sp κ im2__23 q_12 S R w co q__13 k2_12 ty__22 from h_27)⟩ (subP hP [] rfl) (subD hD [] (by decide) rfl) (Nat.le_of_ble_eq_true rfl) (Nat.le_of_ble_eq_true rfl) dX7_filled_75
  · have nc_11 := cv_nle (a := mq) (b := k3_12) (by omega) (by omega) c_11
    refine lv_aload_n hx hb dX7_filled_21 rfl (lv_at hl 3 rfl) ?_
    refine lv_aload_n hx hb dX7_filled_22 rfl (lv_at hl 3 rfl) ?_
    refine va_get (D := D) (ci := 7) (v := .ref ra) (C := RX7) (T := TX7) (N := 4) hx hb hts inlX7 hown hK (oneP (C := [(q_10, .inl (κ 0, mq, .inl gq_10_12))]) hP hm_3) 0 rfl rfl 2 (by decide) (hts _ mw_808) (fun _ h9 => h9) rfl dX7_filled_23 ?_
    refine lv_iload_n hx hb dX7_filled_26 rfl (lv_at hl 0 rfl) ?_
    refine va_iald hx hb hK (oneP (C := [(q_10, .inl (κ 0, mq, .inl gq_10_12))]) hP hm_8) 0 0 rfl rfl (i := nI k3_12) (vp_in_nI (n := k3_12) (by omega) (by omega)) dX7_filled_27 ?_
    refine kv (v := .int (f_7 k3_12)) (by rw [nI_clamp (by omega)]) ?_
    obtain ⟨n_28, hn_28, en_28⟩ := hf_9 k3_12 (by omega)
    refine kv (v := .int (nI n_28)) (congrArg Value.int en_28) ?_
    refine er_V (As := [.int (nI n_28)]) (rest := []) hFX hKK hE hS (c_X7_cellOf l D κ κq im q S R w co ra mq ty n_28 hsp (by omega)) 1 gV_X7_36 hdV_X7_cellOf rfl rfl ⟨Nat.le_of_ble_eq_true rfl, Nat.le_of_ble_eq_true rfl⟩ rfl rfl (Nat.le_of_ble_eq_true rfl) dX7_filled_28 ⟨Nat.le_of_ble_eq_true rfl, Nat.le_of_ble_eq_true rfl⟩ hl.1 (oneP (C := [(q_10, .inl (κ 0, mq, .inl gq_10_12))]) hP hm_3) 0 7 rfl rfl rfl (subP hP [] rfl) (fun r__29 hp_30 => ?_)
    replace hp_30 : ((∃ (p : Nat), ∃ (k : Nat), ∃ (n : Nat), r__29 = some p ∧ Cl κ im p k n)) := hp_30
    have ha_31 := hp_30
    clear hp_30
    rcases ha_31 with ⟨p__32, k__33, n__34, rfl, a_35⟩
    · refine W.eq (g2 := F0 m 31 ls [.ref p__32]) rfl ?_
      obtain ⟨hk_38, b_39, x_40, hm_41, hb_42⟩ := id a_35
      have hn_b_39 := hb_42.1
      refine er_V (As := []) (rest := []) hFX hKK hE hS (c_X0_isEmpty l D κ κq im p__32 k__33 n__34 a_35) 0 gV_X7_55 hdV_X0_isEmpty rfl rfl ⟨Nat.le_of_ble_eq_true rfl, Nat.le_of_ble_eq_true rfl⟩ rfl rfl (Nat.le_of_ble_eq_true rfl) dX7_filled_31 ⟨Nat.le_of_ble_eq_true rfl, Nat.le_of_ble_eq_true rfl⟩ hl.1 (oneP (C := [(q_10, .inl (κ 0, mq, .inl gq_10_12))]) hP hm_41) 0 0 rfl rfl rfl (subP hP [] rfl) (fun r__36 hp_37 => ?_)
      replace hp_37 : ((r__36 = 1 ∧ n__34 = 0) ∨ (r__36 = 0 ∧ 1 ≤ n__34)) := hp_37
      have ha_43 := hp_37
      clear hp_37
      rcases ha_43 with ⟨rfl, a_44⟩ | ⟨rfl, a_45⟩
      · refine W.eq (g2 := F0 m 34 ls [.int 1]) rfl ?_
        refine lv_if_ne (tgt := 49) hx hb dX7_filled_34 (by decide) (fun c_46 => ?_) (fun c_46 => absurd c_46 (by decide))
        refine lv_iinc (v := (nI (k3_12 + 1))) (lv' := [(3, .int (nI (k3_12 + 1))), (2, .int (nI k2_12)), (1, .ref q_10), (0, .ref q)]) hx hb dX7_filled_49 hl (k := 0) rfl (nI_i k3_12) (by decide) rfl (fun ls hl => ?_)
        refine lv_goto (tgt := 12) hx hb dX7_filled_52 (by decide) ?_
        exact ih12 _ _ _ _ (by omega) ⟨(k3_12 + 1), k2_12, gq_10_12, (by omega), (by omega), hl12_2, rfl, hP, hD, hS, lv_sub hl [0, 1, 2, 3] rfl⟩
      · refine W.eq (g2 := F0 m 34 ls [.int 0]) rfl ?_
        refine lv_if_ne (tgt := 49) hx hb dX7_filled_34 (by decide) (fun c_47 => absurd c_47 (by decide)) (fun c_47 => ?_)
        refine lv_aload_n hx hb dX7_filled_37 rfl (lv_at hl 2 rfl) ?_
        refine lv_iload_n hx hb dX7_filled_38 rfl (lv_at hl 1 rfl) ?_
        refine lv_aload_n hx hb dX7_filled_39 rfl (lv_at hl 3 rfl) ?_
        refine va_get (D := D) (ci := 7) (v := .ref ra) (C := RX7) (T := TX7) (N := 4) hx hb hts inlX7 hown hK (oneP (C := [(q_10, .inl (κ 0, mq, .inl gq_10_12))]) hP hm_3) 0 rfl rfl 2 (by decide) (hts _ mw_808) (fun _ h9 => h9) rfl dX7_filled_40 ?_
        refine lv_iload_n hx hb dX7_filled_43 rfl (lv_at hl 0 rfl) ?_
        refine va_iald hx hb hK (oneP (C := [(q_10, .inl (κ 0, mq, .inl gq_10_12))]) hP hm_8) 0 0 rfl rfl (i := nI k3_12) (vp_in_nI (n := k3_12) (by omega) (by omega)) dX7_filled_44 ?_
        refine kv (v := .int (nI n_28)) (by rw [nI_clamp (by omega)]; exact congrArg Value.int en_28) ?_
        refine va_iast hx hb hK hP hD hS 0 0 rfl rfl (i := nI k2_12) (x := nI n_28) (vp_in_nI (n := k2_12) (by omega) (by omega)) dX7_filled_45 (fun H locs hP hD hS => ?_)
        rw [nI_clamp (by omega)] at hP hD
        have hP : va_P D vwCl ([(q_10, .inl (κ 0, mq, .inl (upd gq_10_12 k2_12 (nI n_28))))] ++ im) H := hP
        have hD : va_D A ([(q_10, .inl (κ 0, mq, .inl (upd gq_10_12 k2_12 (nI n_28))))] ++ im) := hD
        have hf_49 : Rn k2_12 R (upd gq_10_12 k2_12 (nI n_28)) := Rn_set hl12_2 (v := n_28) (by omega)
        have hq : Rn (k2_12 + 1) R (upd gq_10_12 k2_12 (nI n_28)) := (Rn_add hl12_2 (by omega))
        generalize upd gq_10_12 k2_12 (nI n_28) = g_48 at hP hD hf_49 hq
        refine lv_iinc (v := (nI (k2_12 + 1))) (lv' := [(2, .int (nI (k2_12 + 1))), (3, .int (nI k3_12)), (1, .ref q_10), (0, .ref q)]) hx hb dX7_filled_46 hl (k := 1) rfl (nI_i k2_12) (by decide) rfl (fun ls hl => ?_)
        refine lv_iinc (v := (nI (k3_12 + 1))) (lv' := [(3, .int (nI (k3_12 + 1))), (2, .int (nI (k2_12 + 1))), (1, .ref q_10), (0, .ref q)]) hx hb dX7_filled_49 hl (k := 1) rfl (nI_i k3_12) (by decide) rfl (fun ls hl => ?_)
        refine lv_goto (tgt := 12) hx hb dX7_filled_52 (by decide) ?_
        exact ih12 _ _ _ _ (by omega) ⟨(k3_12 + 1), (k2_12 + 1), g_48, (by omega), (by omega), hq, rfl, hP, hD, hS, lv_sub hl [0, 1, 2, 3] rfl⟩
set_option maxHeartbeats 4000000 in
set_option maxRecDepth 100000 in
theorem c_X7_ordered (l : Launch) (D : va_G) (κ : Nat → ClassId) (κq : Nat → Nat) (im : va_W) (q : Nat) (S : Nat) (R : Nat) (w : Nat) (co : Nat) (ra : Nat) (mq : Nat) (ty : Nat) (zd : Int32) (hsp : Sp κ im q S R w co ra mq ty) : Et l yX7_ordered (wl yX7_ordered cX7_ordered 6 (some (.array .int))) { frames := 4, cells := 1, slots := 40, locals := 90 } D κ κq [.ref q, .int zd] ([] ++ im) (fun u9 : Nat × va_W => some (.ref u9.1)) (fun u9 : Nat × va_W => Sb im u9.2 ∧ Ix κ u9.2 u9.1 mq R) (fun u9 : Nat × va_W => ([] ++ u9.2)) := by
  refine et_of (by decide +kernel) (Nat.le_of_ble_eq_true rfl) ?_
  intro p e s m args below meth c A ls hx hb hr hml hts hown hlk hin hKK hK hA hP hD hS hE hl
  have hS : va_S A s.heap s.heap [] := hS
  have hP : va_P D vwCl ([] ++ im) s.heap := hP
  have hD : va_D A ([] ++ im) := hD
  have hFX : FX p s m args c cX7_ordered 6 RX7 := ⟨hx, hb, hml, hown, hts⟩
  have hl : lv_has ls 6 [(0, .ref q), (1, .int zd)] := hl
  obtain ⟨h_1, h_2, hm_3, h_4, h_5⟩ := id hsp
  obtain ⟨hn_6, f_7, hm_8, hf_9⟩ := id h_5
  refine lv_aload_n hx hb dX7_ordered_0 rfl (lv_at hl 0 rfl) ?_
  refine va_get (D := D) (ci := 7) (v := .ref ra) (C := RX7) (T := TX7) (N := 4) hx hb hts inlX7 hown hK (oneP (C := []) hP hm_3) 0 rfl rfl 2 (by decide) (hts _ mw_808) (fun _ h9 => h9) rfl dX7_ordered_1 ?_
  refine lv_aload_n hx hb dX7_ordered_4 rfl (lv_at hl 0 rfl) ?_
  refine va_get (D := D) (ci := 7) (v := .ref ra) (C := RX7) (T := TX7) (N := 4) hx hb hts inlX7 hown hK (oneP (C := []) hP hm_3) 0 rfl rfl 2 (by decide) (hts _ mw_808) (fun _ h9 => h9) rfl dX7_ordered_5 ?_
  refine va_alen hx hb hK (oneP (C := []) hP hm_8) 0 0 rfl rfl (v := nI mq) rfl dX7_ordered_8 ?_
  refine et_ST (CR := []) (As := [.ref ra, .int (nI mq)]) (rest := []) hFX hKK hE hP hD hS hA (c_copyi_t l D κ κq im ra mq R h_5) 2 gS_X7_49 hdS_J7_copyOf_59c91 ⟨Nat.le_of_ble_eq_true rfl, Nat.le_of_ble_eq_true rfl⟩ rfl rfl (Nat.le_of_ble_eq_true rfl) dX7_ordered_9 ⟨Nat.le_of_ble_eq_true rfl, Nat.le_of_ble_eq_true rfl⟩ hl.1 [] [] rfl rfl (by decide) (by decide) (by decide) (fun u_12 H locs hp_13 hP hD hS => ?_)
  refine W.widen (k := 1) (n := 40) (Nat.le_refl _) (Nat.le_refl _) ?_
  obtain ⟨q__10, g__11⟩ := u_12
  replace hP : va_P D vwCl ([(q__10, .inl (κ 0, mq, .inl g__11))] ++ im) H := subP (C := [(q__10, .inl (κ 0, mq, .inl g__11))]) hP [0] rfl
  replace hD : va_D A ([(q__10, .inl (κ 0, mq, .inl g__11))] ++ im) := subD (C := [(q__10, .inl (κ 0, mq, .inl g__11))]) hD [0] (by decide) rfl
  replace hp_13 : Rn mq R g__11 := hp_13
  have h_14 := hp_13
  clear hp_13
  refine W.eq (g2 := F0 m 12 ls [.ref q__10]) rfl ?_
  refine lv_astore_n (lv' := [(2, .ref q__10), (0, .ref q), (1, .int zd)]) hx hb dX7_ordered_12 rfl hl (by decide) rfl (fun ls hl => ?_)
  refine lv_iconst (v := 1) hx hb dX7_ordered_13 (by decide) ?_
  refine lv_istore_n (lv' := [(3, .int 1), (2, .ref q__10), (0, .ref q), (1, .int zd)]) hx hb dX7_ordered_14 rfl hl (by decide) rfl (fun ls hl => ?_)
  refine loop_dn (fun k9 H locs ls => ∃ (k3_15 : Nat), ∃ (gq__10_15 : Nat → Int32), (1 ≤ k3_15) ∧ (k3_15 ≤ mq + 1) ∧ Rn mq R gq__10_15 ∧ mq + 1 - k3_15 = k9 ∧ va_P D vwCl ([(q__10, .inl (κ 0, mq, .inl gq__10_15))] ++ im) H ∧ va_D A ([(q__10, .inl (κ 0, mq, .inl gq__10_15))] ++ im) ∧ va_S A s.heap H locs ∧ lv_has ls 6 [(3, .int (nI k3_15)), (2, .ref q__10), (0, .ref q), (1, .int zd)]) (fun k9 H locs ls hI15 ih15 => ?_) (mq + 1 - 1) _ _ _ ⟨1, g__11, (by omega), (by omega), h_14, rfl, hP, hD, hS, lv_sub hl [0, 1, 2, 3] rfl⟩
  obtain ⟨k3_15, gq__10_15, hl15_0, hl15_1, hg15_0, hm15, hP, hD, hS, hl⟩ := hI15
  refine lv_iload_n hx hb dX7_ordered_15 rfl (lv_at hl 0 rfl) ?_
  refine lv_aload_n hx hb dX7_ordered_16 rfl (lv_at hl 1 rfl) ?_
  refine va_alen hx hb hK hP 0 0 rfl rfl (v := nI mq) rfl dX7_ordered_17 ?_
  refine lv_icmp_ge (tgt := 86) hx hb dX7_ordered_18 (by decide) (fun c_15 => ?_) (fun c_15 => ?_)
  · have nc_15 := cv_le (a := mq) (b := k3_15) (by omega) (by omega) c_15
    refine lv_aload_n hx hb dX7_ordered_86 rfl (lv_at hl 1 rfl) ?_
    replace hP : va_P D vwCl ([(q__10, .inl (κ 0, mq, .inl gq__10_15))] ++ im) _ := subP hP [0] rfl
    replace hD : va_D A ([(q__10, .inl (κ 0, mq, .inl gq__10_15))] ++ im) := subD hD [0] (by decide) rfl
    obtain ⟨im_16, he_17⟩ : ∃ x9 : va_W, x9 = ([(q__10, .inl (κ 0, mq, .inl gq__10_15))] ++ im) := ⟨_, rfl⟩
    have hs_18 : Sb im im_16 := by rw [he_17]; exact Sb.app
    have hm_q__10 : (q__10, .inl (κ 0, mq, .inl gq__10_15)) ∈ im_16 := by rw [he_17]; exact List.mem_of_getElem? (i := 0) rfl
    replace hP : va_P D vwCl ([] ++ ([(q__10, .inl (κ 0, mq, .inl gq__10_15))] ++ im)) _ := hP
    replace hD : va_D A ([] ++ ([(q__10, .inl (κ 0, mq, .inl gq__10_15))] ++ im)) := hD
    rw [← he_17] at hP hD
    clear he_17
    replace hsp := hsp.up hs_18
    replace h_4 := h_4.up hs_18
    replace h_5 := h_5.up hs_18
    replace hm_3 := hs_18 _ hm_3
    replace hm_8 := hs_18 _ hm_8
    have hf_19 : Ix κ im_16 q__10 mq R := ⟨by omega, _, hm_q__10, hg15_0⟩
    exact et_aret hx hb hr (by first | exact Or.inl ⟨_, rfl⟩ | exact Or.inr ⟨_, rfl⟩) hlk (by first | exact Or.inl rfl | exact Or.inr ⟨_, rfl⟩) hS (q__10, im_16) rfl ⟨(show Sb im im_16 from hs_18), (show Ix κ im_16 q__10 mq R from hf_19)⟩ (subP hP [] rfl) (subD hD [] (by decide) rfl) (Nat.le_of_ble_eq_true rfl) (Nat.le_of_ble_eq_true rfl) dX7_ordered_87
  · have nc_15 := cv_nle (a := mq) (b := k3_15) (by omega) (by omega) c_15
    refine lv_aload_n hx hb dX7_ordered_21 rfl (lv_at hl 1 rfl) ?_
    refine lv_iload_n hx hb dX7_ordered_22 rfl (lv_at hl 0 rfl) ?_
    refine va_iald hx hb hK hP 0 0 rfl rfl (i := nI k3_15) (vp_in_nI (n := k3_15) (by omega) (by omega)) dX7_ordered_23 ?_
    refine kv (v := .int (gq__10_15 k3_15)) (by rw [nI_clamp (by omega)]) ?_
    obtain ⟨n_20, hn_20, en_20⟩ := hg15_0 k3_15 (by omega)
    refine kv (v := .int (nI n_20)) (congrArg Value.int en_20) ?_
    refine lv_istore (lv' := [(4, .int (nI n_20)), (3, .int (nI k3_15)), (2, .ref q__10), (0, .ref q), (1, .int zd)]) hx hb dX7_ordered_24 hl (by decide) rfl (fun ls hl => ?_)
    refine lv_iload_n hx hb dX7_ordered_26 rfl (lv_at hl 1 rfl) ?_
    refine lv_istore (lv' := [(5, .int (nI k3_15)), (4, .int (nI n_20)), (3, .int (nI k3_15)), (2, .ref q__10), (0, .ref q), (1, .int zd)]) hx hb dX7_ordered_27 hl (by decide) rfl (fun ls hl => ?_)
    refine loop_dn (fun k9 H locs ls => ∃ (k5_29 : Nat), ∃ (gq__10_29 : Nat → Int32), (k5_29 ≤ k3_15) ∧ Rn mq R gq__10_29 ∧ k5_29 = k9 ∧ va_P D vwCl ([(q__10, .inl (κ 0, mq, .inl gq__10_29))] ++ im) H ∧ va_D A ([(q__10, .inl (κ 0, mq, .inl gq__10_29))] ++ im) ∧ va_S A s.heap H locs ∧ lv_has ls 6 [(5, .int (nI k5_29)), (4, .int (nI n_20)), (3, .int (nI k3_15)), (2, .ref q__10), (0, .ref q), (1, .int zd)]) (fun k9 H locs ls hI29 ih29 => ?_) (k3_15) _ _ _ ⟨k3_15, gq__10_15, (by omega), hg15_0, rfl, hP, hD, hS, lv_sub hl [0, 1, 2, 3, 4, 5] rfl⟩
    obtain ⟨k5_29, gq__10_29, hl29_0, hg29_0, hm29, hP, hD, hS, hl⟩ := hI29
    refine lv_iload hx hb dX7_ordered_29 (lv_at hl 0 rfl) ?_
    refine lv_if_le (tgt := 74) hx hb dX7_ordered_31 (by decide) (fun c_21 => ?_) (fun c_21 => ?_)
    · have nc_21 := cv_le (a := k5_29) (b := 0) (by omega) (by omega) c_21
      refine lv_aload_n hx hb dX7_ordered_74 rfl (lv_at hl 3 rfl) ?_
      refine lv_iload hx hb dX7_ordered_75 (lv_at hl 0 rfl) ?_
      refine lv_iload hx hb dX7_ordered_77 (lv_at hl 1 rfl) ?_
      refine va_iast hx hb hK hP hD hS 0 0 rfl rfl (i := nI k5_29) (x := nI n_20) (vp_in_nI (n := k5_29) (by omega) (by omega)) dX7_ordered_79 (fun H locs hP hD hS => ?_)
      rw [nI_clamp (by omega)] at hP hD
      have hP : va_P D vwCl ([(q__10, .inl (κ 0, mq, .inl (upd gq__10_29 k5_29 (nI n_20))))] ++ im) H := hP
      have hD : va_D A ([(q__10, .inl (κ 0, mq, .inl (upd gq__10_29 k5_29 (nI n_20))))] ++ im) := hD
      have hf_23 : Rn mq R (upd gq__10_29 k5_29 (nI n_20)) := Rn_set hg29_0 (v := n_20) (by omega)
      generalize upd gq__10_29 k5_29 (nI n_20) = g_22 at hP hD hf_23
      refine lv_iinc (v := (nI (k3_15 + 1))) (lv' := [(3, .int (nI (k3_15 + 1))), (5, .int (nI k5_29)), (4, .int (nI n_20)), (2, .ref q__10), (0, .ref q), (1, .int zd)]) hx hb dX7_ordered_80 hl (k := 2) rfl (nI_i k3_15) (by decide) rfl (fun ls hl => ?_)
      refine lv_goto (tgt := 15) hx hb dX7_ordered_83 (by decide) ?_
      exact ih15 _ _ _ _ (by omega) ⟨(k3_15 + 1), g_22, (by omega), (by omega), hf_23, rfl, hP, hD, hS, lv_sub hl [0, 3, 4, 5] rfl⟩
    · have nc_21 := cv_nle (a := k5_29) (b := 0) (by omega) (by omega) c_21
      refine lv_aload_n hx hb dX7_ordered_34 rfl (lv_at hl 4 rfl) ?_
      refine lv_aload_n hx hb dX7_ordered_35 rfl (lv_at hl 4 rfl) ?_
      refine lv_iload hx hb dX7_ordered_36 (lv_at hl 1 rfl) ?_
      refine er_V (As := [.int (nI n_20)]) (rest := [.ref q]) hFX hKK hE hS (c_X7_cellOf l D κ κq im q S R w co ra mq ty n_20 hsp (by omega)) 1 gV_X7_36 hdV_X7_cellOf rfl rfl ⟨Nat.le_of_ble_eq_true rfl, Nat.le_of_ble_eq_true rfl⟩ rfl rfl (Nat.le_of_ble_eq_true rfl) dX7_ordered_38 ⟨Nat.le_of_ble_eq_true rfl, Nat.le_of_ble_eq_true rfl⟩ hl.1 (oneP (C := [(q__10, .inl (κ 0, mq, .inl gq__10_29))]) hP hm_3) 0 7 rfl rfl rfl (subP hP [] rfl) (fun r__24 hp_25 => ?_)
      replace hp_25 : ((∃ (p : Nat), ∃ (k : Nat), ∃ (n : Nat), r__24 = some p ∧ Cl κ im p k n)) := hp_25
      have ha_26 := hp_25
      clear hp_25
      rcases ha_26 with ⟨p__27, k__28, n__29, rfl, a_30⟩
      · refine W.eq (g2 := F0 m 41 ls [.ref p__27, .ref q]) rfl ?_
        refine lv_aload_n hx hb dX7_ordered_41 rfl (lv_at hl 4 rfl) ?_
        refine lv_aload_n hx hb dX7_ordered_42 rfl (lv_at hl 3 rfl) ?_
        refine lv_iload hx hb dX7_ordered_43 (lv_at hl 0 rfl) ?_
        refine lv_iconst (v := 1) hx hb dX7_ordered_45 (by decide) ?_
        refine lv_isub hx hb dX7_ordered_46 ?_
        refine ki (v := (nI (k5_29 - 1))) (pk_sub (a := k5_29) (b := 1) (by omega)) ?_
        refine va_iald hx hb hK hP 0 0 rfl rfl (i := nI (k5_29 - 1)) (vp_in_nI (n := (k5_29 - 1)) (by omega) (by omega)) dX7_ordered_47 ?_
        refine kv (v := .int (gq__10_29 (k5_29 - 1))) (by rw [nI_clamp (by omega)]) ?_
        obtain ⟨n_31, hn_31, en_31⟩ := hg29_0 (k5_29 - 1) (by omega)
        refine kv (v := .int (nI n_31)) (congrArg Value.int en_31) ?_
        refine er_V (As := [.int (nI n_31)]) (rest := [.ref p__27, .ref q]) hFX hKK hE hS (c_X7_cellOf l D κ κq im q S R w co ra mq ty n_31 hsp (by omega)) 1 gV_X7_36 hdV_X7_cellOf rfl rfl ⟨Nat.le_of_ble_eq_true rfl, Nat.le_of_ble_eq_true rfl⟩ rfl rfl (Nat.le_of_ble_eq_true rfl) dX7_ordered_48 ⟨Nat.le_of_ble_eq_true rfl, Nat.le_of_ble_eq_true rfl⟩ hl.1 (oneP (C := [(q__10, .inl (κ 0, mq, .inl gq__10_29))]) hP hm_3) 0 7 rfl rfl rfl (subP hP [] rfl) (fun r__32 hp_33 => ?_)
        replace hp_33 : ((∃ (p : Nat), ∃ (k : Nat), ∃ (n : Nat), r__32 = some p ∧ Cl κ im p k n)) := hp_33
        have ha_34 := hp_33
        clear hp_33
        rcases ha_34 with ⟨p__35, k__36, n__37, rfl, a_38⟩
        · refine W.eq (g2 := F0 m 51 ls [.ref p__35, .ref p__27, .ref q]) rfl ?_
          refine lv_iload_n hx hb dX7_ordered_51 rfl (lv_at hl 5 rfl) ?_
          refine er_V (As := [.ref p__27, .ref p__35, .int zd]) (rest := []) hFX hKK hE hS (c_X7_comesAhead l D κ κq im q S R w co ra mq ty p__27 k__28 n__29 p__35 k__36 n__37 zd hsp a_30 a_38) 3 gV_X7_67 hdV_X7_comesAhead rfl rfl ⟨Nat.le_of_ble_eq_true rfl, Nat.le_of_ble_eq_true rfl⟩ rfl rfl (Nat.le_of_ble_eq_true rfl) dX7_ordered_52 ⟨Nat.le_of_ble_eq_true rfl, Nat.le_of_ble_eq_true rfl⟩ hl.1 (oneP (C := [(q__10, .inl (κ 0, mq, .inl gq__10_29))]) hP hm_3) 0 7 rfl rfl rfl (subP hP [] rfl) (fun r__39 hp_40 => ?_)
          replace hp_40 : ((r__39 = 1) ∨ (r__39 = 0)) := hp_40
          have ha_41 := hp_40
          clear hp_40
          rcases ha_41 with rfl | rfl
          · refine W.eq (g2 := F0 m 55 ls [.int 1]) rfl ?_
            refine lv_if_eq (tgt := 74) hx hb dX7_ordered_55 (by decide) (fun c_42 => absurd c_42 (by decide)) (fun c_42 => ?_)
            refine lv_aload_n hx hb dX7_ordered_58 rfl (lv_at hl 3 rfl) ?_
            refine lv_iload hx hb dX7_ordered_59 (lv_at hl 0 rfl) ?_
            refine lv_aload_n hx hb dX7_ordered_61 rfl (lv_at hl 3 rfl) ?_
            refine lv_iload hx hb dX7_ordered_62 (lv_at hl 0 rfl) ?_
            refine lv_iconst (v := 1) hx hb dX7_ordered_64 (by decide) ?_
            refine lv_isub hx hb dX7_ordered_65 ?_
            refine ki (v := (nI (k5_29 - 1))) (pk_sub (a := k5_29) (b := 1) (by omega)) ?_
            refine va_iald hx hb hK hP 0 0 rfl rfl (i := nI (k5_29 - 1)) (vp_in_nI (n := (k5_29 - 1)) (by omega) (by omega)) dX7_ordered_66 ?_
            refine kv (v := .int (nI n_31)) (by rw [nI_clamp (by omega)]; exact congrArg Value.int en_31) ?_
            refine va_iast hx hb hK hP hD hS 0 0 rfl rfl (i := nI k5_29) (x := nI n_31) (vp_in_nI (n := k5_29) (by omega) (by omega)) dX7_ordered_67 (fun H locs hP hD hS => ?_)
            rw [nI_clamp (by omega)] at hP hD
            have hP : va_P D vwCl ([(q__10, .inl (κ 0, mq, .inl (upd gq__10_29 k5_29 (nI n_31))))] ++ im) H := hP
            have hD : va_D A ([(q__10, .inl (κ 0, mq, .inl (upd gq__10_29 k5_29 (nI n_31))))] ++ im) := hD
            have hf_44 : Rn mq R (upd gq__10_29 k5_29 (nI n_31)) := Rn_set hg29_0 (v := n_31) (by omega)
            generalize upd gq__10_29 k5_29 (nI n_31) = g_43 at hP hD hf_44
            refine lv_iinc (v := (nI (k5_29 - 1))) (lv' := [(5, .int (nI (k5_29 - 1))), (4, .int (nI n_20)), (3, .int (nI k3_15)), (2, .ref q__10), (0, .ref q), (1, .int zd)]) hx hb dX7_ordered_68 hl (k := 0) rfl (nI_d (by omega)) (by decide) rfl (fun ls hl => ?_)
            refine lv_goto (tgt := 29) hx hb dX7_ordered_71 (by decide) ?_
            exact ih29 _ _ _ _ (by omega) ⟨(k5_29 - 1), g_43, (by omega), hf_44, rfl, hP, hD, hS, lv_sub hl [0, 1, 2, 3, 4, 5] rfl⟩
          · refine W.eq (g2 := F0 m 55 ls [.int 0]) rfl ?_
            refine lv_if_eq (tgt := 74) hx hb dX7_ordered_55 (by decide) (fun c_45 => ?_) (fun c_45 => absurd (by decide) c_45)
            refine lv_aload_n hx hb dX7_ordered_74 rfl (lv_at hl 3 rfl) ?_
            refine lv_iload hx hb dX7_ordered_75 (lv_at hl 0 rfl) ?_
            refine lv_iload hx hb dX7_ordered_77 (lv_at hl 1 rfl) ?_
            refine va_iast hx hb hK hP hD hS 0 0 rfl rfl (i := nI k5_29) (x := nI n_20) (vp_in_nI (n := k5_29) (by omega) (by omega)) dX7_ordered_79 (fun H locs hP hD hS => ?_)
            rw [nI_clamp (by omega)] at hP hD
            have hP : va_P D vwCl ([(q__10, .inl (κ 0, mq, .inl (upd gq__10_29 k5_29 (nI n_20))))] ++ im) H := hP
            have hD : va_D A ([(q__10, .inl (κ 0, mq, .inl (upd gq__10_29 k5_29 (nI n_20))))] ++ im) := hD
            have hf_47 : Rn mq R (upd gq__10_29 k5_29 (nI n_20)) := Rn_set hg29_0 (v := n_20) (by omega)
            generalize upd gq__10_29 k5_29 (nI n_20) = g_46 at hP hD hf_47
            refine lv_iinc (v := (nI (k3_15 + 1))) (lv' := [(3, .int (nI (k3_15 + 1))), (5, .int (nI k5_29)), (4, .int (nI n_20)), (2, .ref q__10), (0, .ref q), (1, .int zd)]) hx hb dX7_ordered_80 hl (k := 2) rfl (nI_i k3_15) (by decide) rfl (fun ls hl => ?_)
            refine lv_goto (tgt := 15) hx hb dX7_ordered_83 (by decide) ?_
            exact ih15 _ _ _ _ (by omega) ⟨(k3_15 + 1), g_46, (by omega), (by omega), hf_47, rfl, hP, hD, hS, lv_sub hl [0, 3, 4, 5] rfl⟩
set_option maxHeartbeats 4000000 in
set_option maxRecDepth 100000 in
theorem c_X7_sum (l : Launch) (D : va_G) (κ : Nat → ClassId) (κq : Nat → Nat) (im : va_W) (q : Nat) (S : Nat) (R : Nat) (w : Nat) (co : Nat) (ra : Nat) (mq : Nat) (ty : Nat) (hsp : Sp κ im q S R w co ra mq ty) : Er l yX7_sum (wl yX7_sum cX7_sum 5 (some .long)) { frames := 2, cells := 0, slots := 0, locals := 43 } D κ κq [.ref q] ([] ++ im) (fun r : Int64 => some (.long r)) (fun r : Int64 => True) := by
  refine er_of (by decide +kernel) (Nat.le_of_ble_eq_true rfl) ?_
  intro p e s m args below meth c A ls hx hb hr hml hts hown hlk hKK hK hP hE hl
  have hS : va_S A s.heap s.heap [] := va_S.rf
  have hP : va_P D vwCl ([] ++ im) s.heap := hP
  have hFX : FX p s m args c cX7_sum 5 RX7 := ⟨hx, hb, hml, hown, hts⟩
  have hl : lv_has ls 5 [(0, .ref q)] := hl
  obtain ⟨h_1, h_2, hm_3, h_4, h_5⟩ := id hsp
  obtain ⟨hn_6, f_7, hm_8, hf_9⟩ := id h_5
  refine lv_aload_n hx hb dX7_sum_0 rfl (lv_at hl 0 rfl) ?_
  refine va_get (D := D) (ci := 7) (v := .int (nI ty)) (C := RX7) (T := TX7) (N := 4) hx hb hts inlX7 hown hK (oneP (C := []) hP hm_3) 0 rfl rfl 3 (by decide) (hts _ mw_809) (fun _ h9 => h9) rfl dX7_sum_1 ?_
  refine lv_iconst (v := 1) hx hb dX7_sum_4 (by decide) ?_
  refine lv_icmp_eq (tgt := 28) hx hb dX7_sum_5 (by decide) (fun c_10 => ?_) (fun c_10 => ?_)
  · have nc_10 := cv_eq (a := ty) (b := 1) (by omega) (by omega) c_10
    refine lv_lconst (v := 0) hx hb dX7_sum_28 (by decide) ?_
    refine lv_lstore_n (lv' := [(1, .long 0), (0, .ref q)]) hx hb dX7_sum_29 rfl hl (by decide) rfl (fun ls hl => ?_)
    refine lv_iconst (v := 0) hx hb dX7_sum_30 (by decide) ?_
    refine lv_istore_n (lv' := [(3, .int 0), (1, .long 0), (0, .ref q)]) hx hb dX7_sum_31 rfl hl (by decide) rfl (fun ls hl => ?_)
    refine loop_r (fun k9 ls => ∃ (k3_32 : Nat), ∃ (k1_32 : Int64), (k3_32 ≤ mq) ∧ mq - k3_32 = k9 ∧ lv_has ls 5 [(3, .int (nI k3_32)), (1, .long k1_32), (0, .ref q)]) (fun k9 ls hI32 ih32 => ?_) (mq - 0) _ ⟨0, 0, (by omega), rfl, lv_sub hl [0, 1, 2] rfl⟩
    obtain ⟨k3_32, k1_32, hl32_0, hm32, hl⟩ := hI32
    refine lv_iload_n hx hb dX7_sum_32 rfl (lv_at hl 0 rfl) ?_
    refine lv_aload_n hx hb dX7_sum_33 rfl (lv_at hl 2 rfl) ?_
    refine va_get (D := D) (ci := 7) (v := .ref ra) (C := RX7) (T := TX7) (N := 4) hx hb hts inlX7 hown hK (oneP (C := []) hP hm_3) 0 rfl rfl 2 (by decide) (hts _ mw_808) (fun _ h9 => h9) rfl dX7_sum_34 ?_
    refine va_alen hx hb hK (oneP (C := []) hP hm_8) 0 0 rfl rfl (v := nI mq) rfl dX7_sum_37 ?_
    refine lv_icmp_ge (tgt := 83) hx hb dX7_sum_38 (by decide) (fun c_11 => ?_) (fun c_11 => ?_)
    · have nc_11 := cv_le (a := mq) (b := k3_32) (by omega) (by omega) c_11
      refine lv_lload_n hx hb dX7_sum_83 rfl (lv_at hl 1 rfl) ?_
      exact cr_lret hx hb hr hlk k1_32 rfl trivial dX7_sum_84
    · have nc_11 := cv_nle (a := mq) (b := k3_32) (by omega) (by omega) c_11
      refine lv_aload_n hx hb dX7_sum_41 rfl (lv_at hl 2 rfl) ?_
      refine lv_aload_n hx hb dX7_sum_42 rfl (lv_at hl 2 rfl) ?_
      refine va_get (D := D) (ci := 7) (v := .ref ra) (C := RX7) (T := TX7) (N := 4) hx hb hts inlX7 hown hK (oneP (C := []) hP hm_3) 0 rfl rfl 2 (by decide) (hts _ mw_808) (fun _ h9 => h9) rfl dX7_sum_43 ?_
      refine lv_iload_n hx hb dX7_sum_46 rfl (lv_at hl 0 rfl) ?_
      refine va_iald hx hb hK (oneP (C := []) hP hm_8) 0 0 rfl rfl (i := nI k3_32) (vp_in_nI (n := k3_32) (by omega) (by omega)) dX7_sum_47 ?_
      refine kv (v := .int (f_7 k3_32)) (by rw [nI_clamp (by omega)]) ?_
      obtain ⟨n_12, hn_12, en_12⟩ := hf_9 k3_32 (by omega)
      refine kv (v := .int (nI n_12)) (congrArg Value.int en_12) ?_
      refine er_V (As := [.int (nI n_12)]) (rest := []) hFX hKK hE hS (c_X7_cellOf l D κ κq im q S R w co ra mq ty n_12 hsp (by omega)) 1 gV_X7_36 hdV_X7_cellOf rfl rfl ⟨Nat.le_of_ble_eq_true rfl, Nat.le_of_ble_eq_true rfl⟩ rfl rfl (Nat.le_of_ble_eq_true rfl) dX7_sum_48 ⟨Nat.le_of_ble_eq_true rfl, Nat.le_of_ble_eq_true rfl⟩ hl.1 (oneP (C := []) hP hm_3) 0 7 rfl rfl rfl (subP hP [] rfl) (fun r__13 hp_14 => ?_)
      replace hp_14 : ((∃ (p : Nat), ∃ (k : Nat), ∃ (n : Nat), r__13 = some p ∧ Cl κ im p k n)) := hp_14
      have ha_15 := hp_14
      clear hp_14
      rcases ha_15 with ⟨p__16, k__17, n__18, rfl, a_19⟩
      · refine W.eq (g2 := F0 m 51 ls [.ref p__16]) rfl ?_
        refine lv_astore (lv' := [(4, .ref p__16), (3, .int (nI k3_32)), (1, .long k1_32), (0, .ref q)]) hx hb dX7_sum_51 hl (by decide) rfl (fun ls hl => ?_)
        refine lv_lload_n hx hb dX7_sum_53 rfl (lv_at hl 2 rfl) ?_
        refine lv_aload hx hb dX7_sum_54 (lv_at hl 0 rfl) ?_
        obtain ⟨hk_22, b_23, x_24, hm_25, hb_26⟩ := id a_19
        have hn_b_23 := hb_26.1
        refine er_V (As := []) (rest := [.long k1_32]) hFX hKK hE hS (c_X0_isEmpty l D κ κq im p__16 k__17 n__18 a_19) 0 gV_X7_55 hdV_X0_isEmpty rfl rfl ⟨Nat.le_of_ble_eq_true rfl, Nat.le_of_ble_eq_true rfl⟩ rfl rfl (Nat.le_of_ble_eq_true rfl) dX7_sum_56 ⟨Nat.le_of_ble_eq_true rfl, Nat.le_of_ble_eq_true rfl⟩ hl.1 (oneP (C := []) hP hm_25) 0 0 rfl rfl rfl (subP hP [] rfl) (fun r__20 hp_21 => ?_)
        replace hp_21 : ((r__20 = 1 ∧ n__18 = 0) ∨ (r__20 = 0 ∧ 1 ≤ n__18)) := hp_21
        have ha_27 := hp_21
        clear hp_21
        rcases ha_27 with ⟨rfl, a_28⟩ | ⟨rfl, a_29⟩
        · refine W.eq (g2 := F0 m 59 ls [.int 1, .long k1_32]) rfl ?_
          refine lv_if_eq (tgt := 66) hx hb dX7_sum_59 (by decide) (fun c_30 => absurd c_30 (by decide)) (fun c_30 => ?_)
          refine lv_lconst (v := 0) hx hb dX7_sum_62 (by decide) ?_
          refine lv_goto (tgt := 75) hx hb dX7_sum_63 (by decide) ?_
          refine lv_ladd hx hb dX7_sum_75 ?_
          refine lv_topl (fun x_31 ex_31 => ?_)
          refine lv_lstore_n (lv' := [(1, .long x_31), (4, .ref p__16), (3, .int (nI k3_32)), (0, .ref q)]) hx hb dX7_sum_76 rfl hl (by decide) rfl (fun ls hl => ?_)
          refine lv_iinc (v := (nI (k3_32 + 1))) (lv' := [(3, .int (nI (k3_32 + 1))), (1, .long x_31), (4, .ref p__16), (0, .ref q)]) hx hb dX7_sum_77 hl (k := 2) rfl (nI_i k3_32) (by decide) rfl (fun ls hl => ?_)
          refine lv_goto (tgt := 32) hx hb dX7_sum_80 (by decide) ?_
          exact ih32 _ _ (by omega) ⟨(k3_32 + 1), x_31, (by omega), rfl, lv_sub hl [0, 1, 3] rfl⟩
        · refine W.eq (g2 := F0 m 59 ls [.int 0, .long k1_32]) rfl ?_
          refine lv_if_eq (tgt := 66) hx hb dX7_sum_59 (by decide) (fun c_32 => ?_) (fun c_32 => absurd (by decide) c_32)
          refine lv_aload hx hb dX7_sum_66 (lv_at hl 0 rfl) ?_
          refine lv_aload_n hx hb dX7_sum_68 rfl (lv_at hl 3 rfl) ?_
          refine va_get (D := D) (ci := 7) (v := .int (nI ty)) (C := RX7) (T := TX7) (N := 4) hx hb hts inlX7 hown hK (oneP (C := []) hP hm_3) 0 rfl rfl 3 (by decide) (hts _ mw_809) (fun _ h9 => h9) rfl dX7_sum_69 ?_
          refine er_V (As := [.int (nI ty)]) (rest := [.long k1_32]) hFX hKK hE hS (c_X0_numberAs l D κ κq im p__16 k__17 n__18 (nI ty) a_19) 1 gV_X7_83 hdV_X0_numberAs rfl rfl ⟨Nat.le_of_ble_eq_true rfl, Nat.le_of_ble_eq_true rfl⟩ rfl rfl (Nat.le_of_ble_eq_true rfl) dX7_sum_72 ⟨Nat.le_of_ble_eq_true rfl, Nat.le_of_ble_eq_true rfl⟩ hl.1 (oneP (C := []) hP hm_25) 0 0 rfl rfl rfl (subP hP [] rfl) (fun r__33 hp_34 => ?_)
          refine W.eq (g2 := F0 m 75 ls [.long r__33, .long k1_32]) rfl ?_
          refine lv_ladd hx hb dX7_sum_75 ?_
          refine lv_topl (fun x_35 ex_35 => ?_)
          refine lv_lstore_n (lv' := [(1, .long x_35), (4, .ref p__16), (3, .int (nI k3_32)), (0, .ref q)]) hx hb dX7_sum_76 rfl hl (by decide) rfl (fun ls hl => ?_)
          refine lv_iinc (v := (nI (k3_32 + 1))) (lv' := [(3, .int (nI (k3_32 + 1))), (1, .long x_35), (4, .ref p__16), (0, .ref q)]) hx hb dX7_sum_77 hl (k := 2) rfl (nI_i k3_32) (by decide) rfl (fun ls hl => ?_)
          refine lv_goto (tgt := 32) hx hb dX7_sum_80 (by decide) ?_
          exact ih32 _ _ (by omega) ⟨(k3_32 + 1), x_35, (by omega), rfl, lv_sub hl [0, 1, 3] rfl⟩
  · have nc_10 := cv_ne (a := ty) (b := 1) (by omega) (by omega) c_10
    refine lv_aload_n hx hb dX7_sum_8 rfl (lv_at hl 0 rfl) ?_
    refine va_get (D := D) (ci := 7) (v := .int (nI ty)) (C := RX7) (T := TX7) (N := 4) hx hb hts inlX7 hown hK (oneP (C := []) hP hm_3) 0 rfl rfl 3 (by decide) (hts _ mw_809) (fun _ h9 => h9) rfl dX7_sum_9 ?_
    refine lv_iconst (v := 2) hx hb dX7_sum_12 (by decide) ?_
    refine lv_icmp_eq (tgt := 28) hx hb dX7_sum_13 (by decide) (fun c_36 => ?_) (fun c_36 => ?_)
    · have nc_36 := cv_eq (a := ty) (b := 2) (by omega) (by omega) c_36
      refine lv_lconst (v := 0) hx hb dX7_sum_28 (by decide) ?_
      refine lv_lstore_n (lv' := [(1, .long 0), (0, .ref q)]) hx hb dX7_sum_29 rfl hl (by decide) rfl (fun ls hl => ?_)
      refine lv_iconst (v := 0) hx hb dX7_sum_30 (by decide) ?_
      refine lv_istore_n (lv' := [(3, .int 0), (1, .long 0), (0, .ref q)]) hx hb dX7_sum_31 rfl hl (by decide) rfl (fun ls hl => ?_)
      refine loop_r (fun k9 ls => ∃ (k3_32 : Nat), ∃ (k1_32 : Int64), (k3_32 ≤ mq) ∧ mq - k3_32 = k9 ∧ lv_has ls 5 [(3, .int (nI k3_32)), (1, .long k1_32), (0, .ref q)]) (fun k9 ls hI32 ih32 => ?_) (mq - 0) _ ⟨0, 0, (by omega), rfl, lv_sub hl [0, 1, 2] rfl⟩
      obtain ⟨k3_32, k1_32, hl32_0, hm32, hl⟩ := hI32
      refine lv_iload_n hx hb dX7_sum_32 rfl (lv_at hl 0 rfl) ?_
      refine lv_aload_n hx hb dX7_sum_33 rfl (lv_at hl 2 rfl) ?_
      refine va_get (D := D) (ci := 7) (v := .ref ra) (C := RX7) (T := TX7) (N := 4) hx hb hts inlX7 hown hK (oneP (C := []) hP hm_3) 0 rfl rfl 2 (by decide) (hts _ mw_808) (fun _ h9 => h9) rfl dX7_sum_34 ?_
      refine va_alen hx hb hK (oneP (C := []) hP hm_8) 0 0 rfl rfl (v := nI mq) rfl dX7_sum_37 ?_
      refine lv_icmp_ge (tgt := 83) hx hb dX7_sum_38 (by decide) (fun c_37 => ?_) (fun c_37 => ?_)
      · have nc_37 := cv_le (a := mq) (b := k3_32) (by omega) (by omega) c_37
        refine lv_lload_n hx hb dX7_sum_83 rfl (lv_at hl 1 rfl) ?_
        exact cr_lret hx hb hr hlk k1_32 rfl trivial dX7_sum_84
      · have nc_37 := cv_nle (a := mq) (b := k3_32) (by omega) (by omega) c_37
        refine lv_aload_n hx hb dX7_sum_41 rfl (lv_at hl 2 rfl) ?_
        refine lv_aload_n hx hb dX7_sum_42 rfl (lv_at hl 2 rfl) ?_
        refine va_get (D := D) (ci := 7) (v := .ref ra) (C := RX7) (T := TX7) (N := 4) hx hb hts inlX7 hown hK (oneP (C := []) hP hm_3) 0 rfl rfl 2 (by decide) (hts _ mw_808) (fun _ h9 => h9) rfl dX7_sum_43 ?_
        refine lv_iload_n hx hb dX7_sum_46 rfl (lv_at hl 0 rfl) ?_
        refine va_iald hx hb hK (oneP (C := []) hP hm_8) 0 0 rfl rfl (i := nI k3_32) (vp_in_nI (n := k3_32) (by omega) (by omega)) dX7_sum_47 ?_
        refine kv (v := .int (f_7 k3_32)) (by rw [nI_clamp (by omega)]) ?_
        obtain ⟨n_38, hn_38, en_38⟩ := hf_9 k3_32 (by omega)
        refine kv (v := .int (nI n_38)) (congrArg Value.int en_38) ?_
        refine er_V (As := [.int (nI n_38)]) (rest := []) hFX hKK hE hS (c_X7_cellOf l D κ κq im q S R w co ra mq ty n_38 hsp (by omega)) 1 gV_X7_36 hdV_X7_cellOf rfl rfl ⟨Nat.le_of_ble_eq_true rfl, Nat.le_of_ble_eq_true rfl⟩ rfl rfl (Nat.le_of_ble_eq_true rfl) dX7_sum_48 ⟨Nat.le_of_ble_eq_true rfl, Nat.le_of_ble_eq_true rfl⟩ hl.1 (oneP (C := []) hP hm_3) 0 7 rfl rfl rfl (subP hP [] rfl) (fun r__39 hp_40 => ?_)
        replace hp_40 : ((∃ (p : Nat), ∃ (k : Nat), ∃ (n : Nat), r__39 = some p ∧ Cl κ im p k n)) := hp_40
        have ha_41 := hp_40
        clear hp_40
        rcases ha_41 with ⟨p__42, k__43, n__44, rfl, a_45⟩
        · refine W.eq (g2 := F0 m 51 ls [.ref p__42]) rfl ?_
          refine lv_astore (lv' := [(4, .ref p__42), (3, .int (nI k3_32)), (1, .long k1_32), (0, .ref q)]) hx hb dX7_sum_51 hl (by decide) rfl (fun ls hl => ?_)
          refine lv_lload_n hx hb dX7_sum_53 rfl (lv_at hl 2 rfl) ?_
          refine lv_aload hx hb dX7_sum_54 (lv_at hl 0 rfl) ?_
          obtain ⟨hk_48, b_49, x_50, hm_51, hb_52⟩ := id a_45
          have hn_b_49 := hb_52.1
          refine er_V (As := []) (rest := [.long k1_32]) hFX hKK hE hS (c_X0_isEmpty l D κ κq im p__42 k__43 n__44 a_45) 0 gV_X7_55 hdV_X0_isEmpty rfl rfl ⟨Nat.le_of_ble_eq_true rfl, Nat.le_of_ble_eq_true rfl⟩ rfl rfl (Nat.le_of_ble_eq_true rfl) dX7_sum_56 ⟨Nat.le_of_ble_eq_true rfl, Nat.le_of_ble_eq_true rfl⟩ hl.1 (oneP (C := []) hP hm_51) 0 0 rfl rfl rfl (subP hP [] rfl) (fun r__46 hp_47 => ?_)
          replace hp_47 : ((r__46 = 1 ∧ n__44 = 0) ∨ (r__46 = 0 ∧ 1 ≤ n__44)) := hp_47
          have ha_53 := hp_47
          clear hp_47
          rcases ha_53 with ⟨rfl, a_54⟩ | ⟨rfl, a_55⟩
          · refine W.eq (g2 := F0 m 59 ls [.int 1, .long k1_32]) rfl ?_
            refine lv_if_eq (tgt := 66) hx hb dX7_sum_59 (by decide) (fun c_56 => absurd c_56 (by decide)) (fun c_56 => ?_)
            refine lv_lconst (v := 0) hx hb dX7_sum_62 (by decide) ?_
            refine lv_goto (tgt := 75) hx hb dX7_sum_63 (by decide) ?_
            refine lv_ladd hx hb dX7_sum_75 ?_
            refine lv_topl (fun x_57 ex_57 => ?_)
            refine lv_lstore_n (lv' := [(1, .long x_57), (4, .ref p__42), (3, .int (nI k3_32)), (0, .ref q)]) hx hb dX7_sum_76 rfl hl (by decide) rfl (fun ls hl => ?_)
            refine lv_iinc (v := (nI (k3_32 + 1))) (lv' := [(3, .int (nI (k3_32 + 1))), (1, .long x_57), (4, .ref p__42), (0, .ref q)]) hx hb dX7_sum_77 hl (k := 2) rfl (nI_i k3_32) (by decide) rfl (fun ls hl => ?_)
            refine lv_goto (tgt := 32) hx hb dX7_sum_80 (by decide) ?_
            exact ih32 _ _ (by omega) ⟨(k3_32 + 1), x_57, (by omega), rfl, lv_sub hl [0, 1, 3] rfl⟩
          · refine W.eq (g2 := F0 m 59 ls [.int 0, .long k1_32]) rfl ?_
            refine lv_if_eq (tgt := 66) hx hb dX7_sum_59 (by decide) (fun c_58 => ?_) (fun c_58 => absurd (by decide) c_58)
            refine lv_aload hx hb dX7_sum_66 (lv_at hl 0 rfl) ?_
            refine lv_aload_n hx hb dX7_sum_68 rfl (lv_at hl 3 rfl) ?_
            refine va_get (D := D) (ci := 7) (v := .int (nI ty)) (C := RX7) (T := TX7) (N := 4) hx hb hts inlX7 hown hK (oneP (C := []) hP hm_3) 0 rfl rfl 3 (by decide) (hts _ mw_809) (fun _ h9 => h9) rfl dX7_sum_69 ?_
            refine er_V (As := [.int (nI ty)]) (rest := [.long k1_32]) hFX hKK hE hS (c_X0_numberAs l D κ κq im p__42 k__43 n__44 (nI ty) a_45) 1 gV_X7_83 hdV_X0_numberAs rfl rfl ⟨Nat.le_of_ble_eq_true rfl, Nat.le_of_ble_eq_true rfl⟩ rfl rfl (Nat.le_of_ble_eq_true rfl) dX7_sum_72 ⟨Nat.le_of_ble_eq_true rfl, Nat.le_of_ble_eq_true rfl⟩ hl.1 (oneP (C := []) hP hm_51) 0 0 rfl rfl rfl (subP hP [] rfl) (fun r__59 hp_60 => ?_)
            refine W.eq (g2 := F0 m 75 ls [.long r__59, .long k1_32]) rfl ?_
            refine lv_ladd hx hb dX7_sum_75 ?_
            refine lv_topl (fun x_61 ex_61 => ?_)
            refine lv_lstore_n (lv' := [(1, .long x_61), (4, .ref p__42), (3, .int (nI k3_32)), (0, .ref q)]) hx hb dX7_sum_76 rfl hl (by decide) rfl (fun ls hl => ?_)
            refine lv_iinc (v := (nI (k3_32 + 1))) (lv' := [(3, .int (nI (k3_32 + 1))), (1, .long x_61), (4, .ref p__42), (0, .ref q)]) hx hb dX7_sum_77 hl (k := 2) rfl (nI_i k3_32) (by decide) rfl (fun ls hl => ?_)
            refine lv_goto (tgt := 32) hx hb dX7_sum_80 (by decide) ?_
            exact ih32 _ _ (by omega) ⟨(k3_32 + 1), x_61, (by omega), rfl, lv_sub hl [0, 1, 3] rfl⟩
    · have nc_36 := cv_ne (a := ty) (b := 2) (by omega) (by omega) c_36
      refine lv_aload_n hx hb dX7_sum_16 rfl (lv_at hl 0 rfl) ?_
      refine va_get (D := D) (ci := 7) (v := .int (nI ty)) (C := RX7) (T := TX7) (N := 4) hx hb hts inlX7 hown hK (oneP (C := []) hP hm_3) 0 rfl rfl 3 (by decide) (hts _ mw_809) (fun _ h9 => h9) rfl dX7_sum_17 ?_
      refine lv_iconst (v := 3) hx hb dX7_sum_20 (by decide) ?_
      refine lv_icmp_eq (tgt := 28) hx hb dX7_sum_21 (by decide) (fun c_62 => ?_) (fun c_62 => ?_)
      · have nc_62 := cv_eq (a := ty) (b := 3) (by omega) (by omega) c_62
        refine lv_lconst (v := 0) hx hb dX7_sum_28 (by decide) ?_
        refine lv_lstore_n (lv' := [(1, .long 0), (0, .ref q)]) hx hb dX7_sum_29 rfl hl (by decide) rfl (fun ls hl => ?_)
        refine lv_iconst (v := 0) hx hb dX7_sum_30 (by decide) ?_
        refine lv_istore_n (lv' := [(3, .int 0), (1, .long 0), (0, .ref q)]) hx hb dX7_sum_31 rfl hl (by decide) rfl (fun ls hl => ?_)
        refine loop_r (fun k9 ls => ∃ (k3_32 : Nat), ∃ (k1_32 : Int64), (k3_32 ≤ mq) ∧ mq - k3_32 = k9 ∧ lv_has ls 5 [(3, .int (nI k3_32)), (1, .long k1_32), (0, .ref q)]) (fun k9 ls hI32 ih32 => ?_) (mq - 0) _ ⟨0, 0, (by omega), rfl, lv_sub hl [0, 1, 2] rfl⟩
        obtain ⟨k3_32, k1_32, hl32_0, hm32, hl⟩ := hI32
        refine lv_iload_n hx hb dX7_sum_32 rfl (lv_at hl 0 rfl) ?_
        refine lv_aload_n hx hb dX7_sum_33 rfl (lv_at hl 2 rfl) ?_
        refine va_get (D := D) (ci := 7) (v := .ref ra) (C := RX7) (T := TX7) (N := 4) hx hb hts inlX7 hown hK (oneP (C := []) hP hm_3) 0 rfl rfl 2 (by decide) (hts _ mw_808) (fun _ h9 => h9) rfl dX7_sum_34 ?_
        refine va_alen hx hb hK (oneP (C := []) hP hm_8) 0 0 rfl rfl (v := nI mq) rfl dX7_sum_37 ?_
        refine lv_icmp_ge (tgt := 83) hx hb dX7_sum_38 (by decide) (fun c_63 => ?_) (fun c_63 => ?_)
        · have nc_63 := cv_le (a := mq) (b := k3_32) (by omega) (by omega) c_63
          refine lv_lload_n hx hb dX7_sum_83 rfl (lv_at hl 1 rfl) ?_
          exact cr_lret hx hb hr hlk k1_32 rfl trivial dX7_sum_84
        · have nc_63 := cv_nle (a := mq) (b := k3_32) (by omega) (by omega) c_63
          refine lv_aload_n hx hb dX7_sum_41 rfl (lv_at hl 2 rfl) ?_
          refine lv_aload_n hx hb dX7_sum_42 rfl (lv_at hl 2 rfl) ?_
          refine va_get (D := D) (ci := 7) (v := .ref ra) (C := RX7) (T := TX7) (N := 4) hx hb hts inlX7 hown hK (oneP (C := []) hP hm_3) 0 rfl rfl 2 (by decide) (hts _ mw_808) (fun _ h9 => h9) rfl dX7_sum_43 ?_
          refine lv_iload_n hx hb dX7_sum_46 rfl (lv_at hl 0 rfl) ?_
          refine va_iald hx hb hK (oneP (C := []) hP hm_8) 0 0 rfl rfl (i := nI k3_32) (vp_in_nI (n := k3_32) (by omega) (by omega)) dX7_sum_47 ?_
          refine kv (v := .int (f_7 k3_32)) (by rw [nI_clamp (by omega)]) ?_
          obtain ⟨n_64, hn_64, en_64⟩ := hf_9 k3_32 (by omega)
          refine kv (v := .int (nI n_64)) (congrArg Value.int en_64) ?_
          refine er_V (As := [.int (nI n_64)]) (rest := []) hFX hKK hE hS (c_X7_cellOf l D κ κq im q S R w co ra mq ty n_64 hsp (by omega)) 1 gV_X7_36 hdV_X7_cellOf rfl rfl ⟨Nat.le_of_ble_eq_true rfl, Nat.le_of_ble_eq_true rfl⟩ rfl rfl (Nat.le_of_ble_eq_true rfl) dX7_sum_48 ⟨Nat.le_of_ble_eq_true rfl, Nat.le_of_ble_eq_true rfl⟩ hl.1 (oneP (C := []) hP hm_3) 0 7 rfl rfl rfl (subP hP [] rfl) (fun r__65 hp_66 => ?_)
          replace hp_66 : ((∃ (p : Nat), ∃ (k : Nat), ∃ (n : Nat), r__65 = some p ∧ Cl κ im p k n)) := hp_66
          have ha_67 := hp_66
          clear hp_66
          rcases ha_67 with ⟨p__68, k__69, n__70, rfl, a_71⟩
          · refine W.eq (g2 := F0 m 51 ls [.ref p__68]) rfl ?_
            refine lv_astore (lv' := [(4, .ref p__68), (3, .int (nI k3_32)), (1, .long k1_32), (0, .ref q)]) hx hb dX7_sum_51 hl (by decide) rfl (fun ls hl => ?_)
            refine lv_lload_n hx hb dX7_sum_53 rfl (lv_at hl 2 rfl) ?_
            refine lv_aload hx hb dX7_sum_54 (lv_at hl 0 rfl) ?_
            obtain ⟨hk_74, b_75, x_76, hm_77, hb_78⟩ := id a_71
            have hn_b_75 := hb_78.1
            refine er_V (As := []) (rest := [.long k1_32]) hFX hKK hE hS (c_X0_isEmpty l D κ κq im p__68 k__69 n__70 a_71) 0 gV_X7_55 hdV_X0_isEmpty rfl rfl ⟨Nat.le_of_ble_eq_true rfl, Nat.le_of_ble_eq_true rfl⟩ rfl rfl (Nat.le_of_ble_eq_true rfl) dX7_sum_56 ⟨Nat.le_of_ble_eq_true rfl, Nat.le_of_ble_eq_true rfl⟩ hl.1 (oneP (C := []) hP hm_77) 0 0 rfl rfl rfl (subP hP [] rfl) (fun r__72 hp_73 => ?_)
            replace hp_73 : ((r__72 = 1 ∧ n__70 = 0) ∨ (r__72 = 0 ∧ 1 ≤ n__70)) := hp_73
            have ha_79 := hp_73
            clear hp_73
            rcases ha_79 with ⟨rfl, a_80⟩ | ⟨rfl, a_81⟩
            · refine W.eq (g2 := F0 m 59 ls [.int 1, .long k1_32]) rfl ?_
              refine lv_if_eq (tgt := 66) hx hb dX7_sum_59 (by decide) (fun c_82 => absurd c_82 (by decide)) (fun c_82 => ?_)
              refine lv_lconst (v := 0) hx hb dX7_sum_62 (by decide) ?_
              refine lv_goto (tgt := 75) hx hb dX7_sum_63 (by decide) ?_
              refine lv_ladd hx hb dX7_sum_75 ?_
              refine lv_topl (fun x_83 ex_83 => ?_)
              refine lv_lstore_n (lv' := [(1, .long x_83), (4, .ref p__68), (3, .int (nI k3_32)), (0, .ref q)]) hx hb dX7_sum_76 rfl hl (by decide) rfl (fun ls hl => ?_)
              refine lv_iinc (v := (nI (k3_32 + 1))) (lv' := [(3, .int (nI (k3_32 + 1))), (1, .long x_83), (4, .ref p__68), (0, .ref q)]) hx hb dX7_sum_77 hl (k := 2) rfl (nI_i k3_32) (by decide) rfl (fun ls hl => ?_)
              refine lv_goto (tgt := 32) hx hb dX7_sum_80 (by decide) ?_
              exact ih32 _ _ (by omega) ⟨(k3_32 + 1), x_83, (by omega), rfl, lv_sub hl [0, 1, 3] rfl⟩
            · refine W.eq (g2 := F0 m 59 ls [.int 0, .long k1_32]) rfl ?_
              refine lv_if_eq (tgt := 66) hx hb dX7_sum_59 (by decide) (fun c_84 => ?_) (fun c_84 => absurd (by decide) c_84)
              refine lv_aload hx hb dX7_sum_66 (lv_at hl 0 rfl) ?_
              refine lv_aload_n hx hb dX7_sum_68 rfl (lv_at hl 3 rfl) ?_
              refine va_get (D := D) (ci := 7) (v := .int (nI ty)) (C := RX7) (T := TX7) (N := 4) hx hb hts inlX7 hown hK (oneP (C := []) hP hm_3) 0 rfl rfl 3 (by decide) (hts _ mw_809) (fun _ h9 => h9) rfl dX7_sum_69 ?_
              refine er_V (As := [.int (nI ty)]) (rest := [.long k1_32]) hFX hKK hE hS (c_X0_numberAs l D κ κq im p__68 k__69 n__70 (nI ty) a_71) 1 gV_X7_83 hdV_X0_numberAs rfl rfl ⟨Nat.le_of_ble_eq_true rfl, Nat.le_of_ble_eq_true rfl⟩ rfl rfl (Nat.le_of_ble_eq_true rfl) dX7_sum_72 ⟨Nat.le_of_ble_eq_true rfl, Nat.le_of_ble_eq_true rfl⟩ hl.1 (oneP (C := []) hP hm_77) 0 0 rfl rfl rfl (subP hP [] rfl) (fun r__85 hp_86 => ?_)
              refine W.eq (g2 := F0 m 75 ls [.long r__85, .long k1_32]) rfl ?_
              refine lv_ladd hx hb dX7_sum_75 ?_
              refine lv_topl (fun x_87 ex_87 => ?_)
              refine lv_lstore_n (lv' := [(1, .long x_87), (4, .ref p__68), (3, .int (nI k3_32)), (0, .ref q)]) hx hb dX7_sum_76 rfl hl (by decide) rfl (fun ls hl => ?_)
              refine lv_iinc (v := (nI (k3_32 + 1))) (lv' := [(3, .int (nI (k3_32 + 1))), (1, .long x_87), (4, .ref p__68), (0, .ref q)]) hx hb dX7_sum_77 hl (k := 2) rfl (nI_i k3_32) (by decide) rfl (fun ls hl => ?_)
              refine lv_goto (tgt := 32) hx hb dX7_sum_80 (by decide) ?_
              exact ih32 _ _ (by omega) ⟨(k3_32 + 1), x_87, (by omega), rfl, lv_sub hl [0, 1, 3] rfl⟩
      · have nc_62 := cv_ne (a := ty) (b := 3) (by omega) (by omega) c_62
        refine lv_ldc2 hx hb hown (hts _ mw_1284) dX7_sum_24 ?_
        exact cr_lret hx hb hr hlk (-100000000000000) rfl trivial dX7_sum_27
set_option maxHeartbeats 4000000 in
set_option maxRecDepth 100000 in
theorem c_X7_countLike (l : Launch) (D : va_G) (κ : Nat → ClassId) (κq : Nat → Nat) (im : va_W) (q : Nat) (S : Nat) (R : Nat) (w : Nat) (co : Nat) (ra : Nat) (mq : Nat) (ty : Nat) (r9 : Nat) (hsp : Sp κ im q S R w co ra mq ty) (hr9 : r9 < R) : Er l yX7_countLike (wl yX7_countLike cX7_countLike 4 (some .int)) { frames := 4, cells := 0, slots := 0, locals := 88 } D κ κq [.ref q, .int (nI r9)] ([] ++ im) (fun r : Int32 => some (.int r)) (fun r : Int32 => True) := by
  refine er_of (by decide +kernel) (Nat.le_of_ble_eq_true rfl) ?_
  intro p e s m args below meth c A ls hx hb hr hml hts hown hlk hKK hK hP hE hl
  have hS : va_S A s.heap s.heap [] := va_S.rf
  have hP : va_P D vwCl ([] ++ im) s.heap := hP
  have hFX : FX p s m args c cX7_countLike 4 RX7 := ⟨hx, hb, hml, hown, hts⟩
  have hl : lv_has ls 4 [(0, .ref q), (1, .int (nI r9))] := hl
  obtain ⟨h_1, h_2, hm_3, h_4, h_5⟩ := id hsp
  obtain ⟨hn_6, f_7, hm_8, hf_9⟩ := id h_5
  refine lv_iconst (v := 0) hx hb dX7_countLike_0 (by decide) ?_
  refine lv_istore_n (lv' := [(2, .int 0), (0, .ref q), (1, .int (nI r9))]) hx hb dX7_countLike_1 rfl hl (by decide) rfl (fun ls hl => ?_)
  refine lv_iconst (v := 0) hx hb dX7_countLike_2 (by decide) ?_
  refine lv_istore_n (lv' := [(3, .int 0), (2, .int 0), (0, .ref q), (1, .int (nI r9))]) hx hb dX7_countLike_3 rfl hl (by decide) rfl (fun ls hl => ?_)
  refine loop_r (fun k9 ls => ∃ (k3_4 : Nat), ∃ (k2_4 : Int32), (k3_4 ≤ mq) ∧ mq - k3_4 = k9 ∧ lv_has ls 4 [(3, .int (nI k3_4)), (2, .int k2_4), (0, .ref q), (1, .int (nI r9))]) (fun k9 ls hI4 ih4 => ?_) (mq - 0) _ ⟨0, 0, (by omega), rfl, lv_sub hl [0, 1, 2, 3] rfl⟩
  obtain ⟨k3_4, k2_4, hl4_0, hm4, hl⟩ := hI4
  refine lv_iload_n hx hb dX7_countLike_4 rfl (lv_at hl 0 rfl) ?_
  refine lv_aload_n hx hb dX7_countLike_5 rfl (lv_at hl 2 rfl) ?_
  refine va_get (D := D) (ci := 7) (v := .ref ra) (C := RX7) (T := TX7) (N := 4) hx hb hts inlX7 hown hK (oneP (C := []) hP hm_3) 0 rfl rfl 2 (by decide) (hts _ mw_808) (fun _ h9 => h9) rfl dX7_countLike_6 ?_
  refine va_alen hx hb hK (oneP (C := []) hP hm_8) 0 0 rfl rfl (v := nI mq) rfl dX7_countLike_9 ?_
  refine lv_icmp_ge (tgt := 41) hx hb dX7_countLike_10 (by decide) (fun c_10 => ?_) (fun c_10 => ?_)
  · have nc_10 := cv_le (a := mq) (b := k3_4) (by omega) (by omega) c_10
    refine lv_iload_n hx hb dX7_countLike_41 rfl (lv_at hl 1 rfl) ?_
    exact cr_iret hx hb hr hlk rfl k2_4 rfl trivial dX7_countLike_42
  · have nc_10 := cv_nle (a := mq) (b := k3_4) (by omega) (by omega) c_10
    refine lv_iload_n hx hb dX7_countLike_13 rfl (lv_at hl 1 rfl) ?_
    refine lv_aload_n hx hb dX7_countLike_14 rfl (lv_at hl 2 rfl) ?_
    refine lv_aload_n hx hb dX7_countLike_15 rfl (lv_at hl 2 rfl) ?_
    refine va_get (D := D) (ci := 7) (v := .ref ra) (C := RX7) (T := TX7) (N := 4) hx hb hts inlX7 hown hK (oneP (C := []) hP hm_3) 0 rfl rfl 2 (by decide) (hts _ mw_808) (fun _ h9 => h9) rfl dX7_countLike_16 ?_
    refine lv_iload_n hx hb dX7_countLike_19 rfl (lv_at hl 0 rfl) ?_
    refine va_iald hx hb hK (oneP (C := []) hP hm_8) 0 0 rfl rfl (i := nI k3_4) (vp_in_nI (n := k3_4) (by omega) (by omega)) dX7_countLike_20 ?_
    refine kv (v := .int (f_7 k3_4)) (by rw [nI_clamp (by omega)]) ?_
    obtain ⟨n_11, hn_11, en_11⟩ := hf_9 k3_4 (by omega)
    refine kv (v := .int (nI n_11)) (congrArg Value.int en_11) ?_
    refine lv_iload_n hx hb dX7_countLike_21 rfl (lv_at hl 3 rfl) ?_
    refine er_V (As := [.int (nI n_11), .int (nI r9)]) (rest := [.int k2_4]) hFX hKK hE hS (c_X7_areLike l D κ κq im q S R w co ra mq ty n_11 r9 hsp (by omega) (by omega)) 2 gV_X7_75 hdV_X7_areLike rfl rfl ⟨Nat.le_of_ble_eq_true rfl, Nat.le_of_ble_eq_true rfl⟩ rfl rfl (Nat.le_of_ble_eq_true rfl) dX7_countLike_22 ⟨Nat.le_of_ble_eq_true rfl, Nat.le_of_ble_eq_true rfl⟩ hl.1 (oneP (C := []) hP hm_3) 0 7 rfl rfl rfl (subP hP [] rfl) (fun r__12 hp_13 => ?_)
    replace hp_13 : ((r__12 = 1) ∨ (r__12 = 0)) := hp_13
    have ha_14 := hp_13
    clear hp_13
    rcases ha_14 with rfl | rfl
    · refine W.eq (g2 := F0 m 25 ls [.int 1, .int k2_4]) rfl ?_
      refine lv_if_eq (tgt := 32) hx hb dX7_countLike_25 (by decide) (fun c_15 => absurd c_15 (by decide)) (fun c_15 => ?_)
      refine lv_iconst (v := 1) hx hb dX7_countLike_28 (by decide) ?_
      refine lv_goto (tgt := 33) hx hb dX7_countLike_29 (by decide) ?_
      refine lv_iadd hx hb dX7_countLike_33 ?_
      refine lv_topi (fun x_16 ex_16 => ?_)
      refine lv_istore_n (lv' := [(2, .int x_16), (3, .int (nI k3_4)), (0, .ref q), (1, .int (nI r9))]) hx hb dX7_countLike_34 rfl hl (by decide) rfl (fun ls hl => ?_)
      refine lv_iinc (v := (nI (k3_4 + 1))) (lv' := [(3, .int (nI (k3_4 + 1))), (2, .int x_16), (0, .ref q), (1, .int (nI r9))]) hx hb dX7_countLike_35 hl (k := 1) rfl (nI_i k3_4) (by decide) rfl (fun ls hl => ?_)
      refine lv_goto (tgt := 4) hx hb dX7_countLike_38 (by decide) ?_
      exact ih4 _ _ (by omega) ⟨(k3_4 + 1), x_16, (by omega), rfl, lv_sub hl [0, 1, 2, 3] rfl⟩
    · refine W.eq (g2 := F0 m 25 ls [.int 0, .int k2_4]) rfl ?_
      refine lv_if_eq (tgt := 32) hx hb dX7_countLike_25 (by decide) (fun c_17 => ?_) (fun c_17 => absurd (by decide) c_17)
      refine lv_iconst (v := 0) hx hb dX7_countLike_32 (by decide) ?_
      refine lv_iadd hx hb dX7_countLike_33 ?_
      refine lv_topi (fun x_18 ex_18 => ?_)
      refine lv_istore_n (lv' := [(2, .int x_18), (3, .int (nI k3_4)), (0, .ref q), (1, .int (nI r9))]) hx hb dX7_countLike_34 rfl hl (by decide) rfl (fun ls hl => ?_)
      refine lv_iinc (v := (nI (k3_4 + 1))) (lv' := [(3, .int (nI (k3_4 + 1))), (2, .int x_18), (0, .ref q), (1, .int (nI r9))]) hx hb dX7_countLike_35 hl (k := 1) rfl (nI_i k3_4) (by decide) rfl (fun ls hl => ?_)
      refine lv_goto (tgt := 4) hx hb dX7_countLike_38 (by decide) ?_
      exact ih4 _ _ (by omega) ⟨(k3_4 + 1), x_18, (by omega), rfl, lv_sub hl [0, 1, 2, 3] rfl⟩
set_option maxHeartbeats 4000000 in
set_option maxRecDepth 100000 in
theorem c_X7_extremeRow (l : Launch) (D : va_G) (κ : Nat → ClassId) (κq : Nat → Nat) (im : va_W) (q : Nat) (S : Nat) (R : Nat) (w : Nat) (co : Nat) (ra : Nat) (mq : Nat) (ty : Nat) (zb : Int32) (hsp : Sp κ im q S R w co ra mq ty) : Er l yX7_extremeRow (wl yX7_extremeRow cX7_extremeRow 4 (some .int)) { frames := 4, cells := 0, slots := 0, locals := 90 } D κ κq [.ref q, .int zb] ([] ++ im) (fun r : Int32 => some (.int r)) (fun r : Int32 => True) := by
  refine er_of (by decide +kernel) (Nat.le_of_ble_eq_true rfl) ?_
  intro p e s m args below meth c A ls hx hb hr hml hts hown hlk hKK hK hP hE hl
  have hS : va_S A s.heap s.heap [] := va_S.rf
  have hP : va_P D vwCl ([] ++ im) s.heap := hP
  have hFX : FX p s m args c cX7_extremeRow 4 RX7 := ⟨hx, hb, hml, hown, hts⟩
  have hl : lv_has ls 4 [(0, .ref q), (1, .int zb)] := hl
  obtain ⟨h_1, h_2, hm_3, h_4, h_5⟩ := id hsp
  obtain ⟨hn_6, f_7, hm_8, hf_9⟩ := id h_5
  refine lv_iconst (v := (-1)) hx hb dX7_extremeRow_0 (by decide) ?_
  refine lv_istore_n (lv' := [(2, .int (-1)), (0, .ref q), (1, .int zb)]) hx hb dX7_extremeRow_1 rfl hl (by decide) rfl (fun ls hl => ?_)
  refine lv_iconst (v := 0) hx hb dX7_extremeRow_2 (by decide) ?_
  refine lv_istore_n (lv' := [(3, .int 0), (2, .int (-1)), (0, .ref q), (1, .int zb)]) hx hb dX7_extremeRow_3 rfl hl (by decide) rfl (fun ls hl => ?_)
  refine loop_r (fun k9 ls => ∃ (k3_4 : Nat), ∃ (k2_4 : Int32), (k3_4 ≤ mq) ∧ (k2_4 = -1 ∨ ∃ j : Nat, j < R ∧ k2_4 = nI j) ∧ mq - k3_4 = k9 ∧ lv_has ls 4 [(3, .int (nI k3_4)), (2, .int k2_4), (0, .ref q), (1, .int zb)]) (fun k9 ls hI4 ih4 => ?_) (mq - 0) _ ⟨0, (-1), (by omega), (Or.inl rfl), rfl, lv_sub hl [0, 1, 2, 3] rfl⟩
  obtain ⟨k3_4, k2_4, hl4_0, hl4_1, hm4, hl⟩ := hI4
  refine lv_iload_n hx hb dX7_extremeRow_4 rfl (lv_at hl 0 rfl) ?_
  refine lv_aload_n hx hb dX7_extremeRow_5 rfl (lv_at hl 2 rfl) ?_
  refine va_get (D := D) (ci := 7) (v := .ref ra) (C := RX7) (T := TX7) (N := 4) hx hb hts inlX7 hown hK (oneP (C := []) hP hm_3) 0 rfl rfl 2 (by decide) (hts _ mw_808) (fun _ h9 => h9) rfl dX7_extremeRow_6 ?_
  refine va_alen hx hb hK (oneP (C := []) hP hm_8) 0 0 rfl rfl (v := nI mq) rfl dX7_extremeRow_9 ?_
  refine lv_icmp_ge (tgt := 54) hx hb dX7_extremeRow_10 (by decide) (fun c_10 => ?_) (fun c_10 => ?_)
  · have nc_10 := cv_le (a := mq) (b := k3_4) (by omega) (by omega) c_10
    refine lv_iload_n hx hb dX7_extremeRow_54 rfl (lv_at hl 1 rfl) ?_
    exact cr_iret hx hb hr hlk rfl k2_4 rfl trivial dX7_extremeRow_55
  · have nc_10 := cv_nle (a := mq) (b := k3_4) (by omega) (by omega) c_10
    refine lv_iload_n hx hb dX7_extremeRow_13 rfl (lv_at hl 1 rfl) ?_
    refine lv_iconst (v := (-1)) hx hb dX7_extremeRow_14 (by decide) ?_
    refine lv_icmp_eq (tgt := 41) hx hb dX7_extremeRow_15 (by decide) (fun c_11 => ?_) (fun c_11 => ?_)
    · refine lv_aload_n hx hb dX7_extremeRow_41 rfl (lv_at hl 2 rfl) ?_
      refine va_get (D := D) (ci := 7) (v := .ref ra) (C := RX7) (T := TX7) (N := 4) hx hb hts inlX7 hown hK (oneP (C := []) hP hm_3) 0 rfl rfl 2 (by decide) (hts _ mw_808) (fun _ h9 => h9) rfl dX7_extremeRow_42 ?_
      refine lv_iload_n hx hb dX7_extremeRow_45 rfl (lv_at hl 0 rfl) ?_
      refine va_iald hx hb hK (oneP (C := []) hP hm_8) 0 0 rfl rfl (i := nI k3_4) (vp_in_nI (n := k3_4) (by omega) (by omega)) dX7_extremeRow_46 ?_
      refine kv (v := .int (f_7 k3_4)) (by rw [nI_clamp (by omega)]) ?_
      obtain ⟨n_12, hn_12, en_12⟩ := hf_9 k3_4 (by omega)
      refine kv (v := .int (nI n_12)) (congrArg Value.int en_12) ?_
      refine lv_istore_n (lv' := [(2, .int (nI n_12)), (3, .int (nI k3_4)), (0, .ref q), (1, .int zb)]) hx hb dX7_extremeRow_47 rfl hl (by decide) rfl (fun ls hl => ?_)
      refine lv_iinc (v := (nI (k3_4 + 1))) (lv' := [(3, .int (nI (k3_4 + 1))), (2, .int (nI n_12)), (0, .ref q), (1, .int zb)]) hx hb dX7_extremeRow_48 hl (k := 1) rfl (nI_i k3_4) (by decide) rfl (fun ls hl => ?_)
      refine lv_goto (tgt := 4) hx hb dX7_extremeRow_51 (by decide) ?_
      exact ih4 _ _ (by omega) ⟨(k3_4 + 1), (nI n_12), (by omega), (Or.inr ⟨_, (by omega), rfl⟩), rfl, lv_sub hl [0, 1, 2, 3] rfl⟩
    · refine lv_aload_n hx hb dX7_extremeRow_18 rfl (lv_at hl 2 rfl) ?_
      refine lv_aload_n hx hb dX7_extremeRow_19 rfl (lv_at hl 2 rfl) ?_
      refine lv_aload_n hx hb dX7_extremeRow_20 rfl (lv_at hl 2 rfl) ?_
      refine va_get (D := D) (ci := 7) (v := .ref ra) (C := RX7) (T := TX7) (N := 4) hx hb hts inlX7 hown hK (oneP (C := []) hP hm_3) 0 rfl rfl 2 (by decide) (hts _ mw_808) (fun _ h9 => h9) rfl dX7_extremeRow_21 ?_
      refine lv_iload_n hx hb dX7_extremeRow_24 rfl (lv_at hl 0 rfl) ?_
      refine va_iald hx hb hK (oneP (C := []) hP hm_8) 0 0 rfl rfl (i := nI k3_4) (vp_in_nI (n := k3_4) (by omega) (by omega)) dX7_extremeRow_25 ?_
      refine kv (v := .int (f_7 k3_4)) (by rw [nI_clamp (by omega)]) ?_
      obtain ⟨n_13, hn_13, en_13⟩ := hf_9 k3_4 (by omega)
      refine kv (v := .int (nI n_13)) (congrArg Value.int en_13) ?_
      refine er_V (As := [.int (nI n_13)]) (rest := [.ref q]) hFX hKK hE hS (c_X7_cellOf l D κ κq im q S R w co ra mq ty n_13 hsp (by omega)) 1 gV_X7_36 hdV_X7_cellOf rfl rfl ⟨Nat.le_of_ble_eq_true rfl, Nat.le_of_ble_eq_true rfl⟩ rfl rfl (Nat.le_of_ble_eq_true rfl) dX7_extremeRow_26 ⟨Nat.le_of_ble_eq_true rfl, Nat.le_of_ble_eq_true rfl⟩ hl.1 (oneP (C := []) hP hm_3) 0 7 rfl rfl rfl (subP hP [] rfl) (fun r__14 hp_15 => ?_)
      replace hp_15 : ((∃ (p : Nat), ∃ (k : Nat), ∃ (n : Nat), r__14 = some p ∧ Cl κ im p k n)) := hp_15
      have ha_16 := hp_15
      clear hp_15
      rcases ha_16 with ⟨p__17, k__18, n__19, rfl, a_20⟩
      · refine W.eq (g2 := F0 m 29 ls [.ref p__17, .ref q]) rfl ?_
        refine lv_aload_n hx hb dX7_extremeRow_29 rfl (lv_at hl 2 rfl) ?_
        obtain ⟨j_21, hj_21, rfl⟩ := Or.resolve_left hl4_1 c_11
        refine lv_iload_n hx hb dX7_extremeRow_30 rfl (lv_at hl 1 rfl) ?_
        refine er_V (As := [.int (nI j_21)]) (rest := [.ref p__17, .ref q]) hFX hKK hE hS (c_X7_cellOf l D κ κq im q S R w co ra mq ty j_21 hsp (by omega)) 1 gV_X7_36 hdV_X7_cellOf rfl rfl ⟨Nat.le_of_ble_eq_true rfl, Nat.le_of_ble_eq_true rfl⟩ rfl rfl (Nat.le_of_ble_eq_true rfl) dX7_extremeRow_31 ⟨Nat.le_of_ble_eq_true rfl, Nat.le_of_ble_eq_true rfl⟩ hl.1 (oneP (C := []) hP hm_3) 0 7 rfl rfl rfl (subP hP [] rfl) (fun r__22 hp_23 => ?_)
        replace hp_23 : ((∃ (p : Nat), ∃ (k : Nat), ∃ (n : Nat), r__22 = some p ∧ Cl κ im p k n)) := hp_23
        have ha_24 := hp_23
        clear hp_23
        rcases ha_24 with ⟨p__25, k__26, n__27, rfl, a_28⟩
        · refine W.eq (g2 := F0 m 34 ls [.ref p__25, .ref p__17, .ref q]) rfl ?_
          refine lv_iload_n hx hb dX7_extremeRow_34 rfl (lv_at hl 3 rfl) ?_
          refine er_V (As := [.ref p__17, .ref p__25, .int zb]) (rest := []) hFX hKK hE hS (c_X7_comesAhead l D κ κq im q S R w co ra mq ty p__17 k__18 n__19 p__25 k__26 n__27 zb hsp a_20 a_28) 3 gV_X7_67 hdV_X7_comesAhead rfl rfl ⟨Nat.le_of_ble_eq_true rfl, Nat.le_of_ble_eq_true rfl⟩ rfl rfl (Nat.le_of_ble_eq_true rfl) dX7_extremeRow_35 ⟨Nat.le_of_ble_eq_true rfl, Nat.le_of_ble_eq_true rfl⟩ hl.1 (oneP (C := []) hP hm_3) 0 7 rfl rfl rfl (subP hP [] rfl) (fun r__29 hp_30 => ?_)
          replace hp_30 : ((r__29 = 1) ∨ (r__29 = 0)) := hp_30
          have ha_31 := hp_30
          clear hp_30
          rcases ha_31 with rfl | rfl
          · refine W.eq (g2 := F0 m 38 ls [.int 1]) rfl ?_
            refine lv_if_eq (tgt := 48) hx hb dX7_extremeRow_38 (by decide) (fun c_32 => absurd c_32 (by decide)) (fun c_32 => ?_)
            refine lv_aload_n hx hb dX7_extremeRow_41 rfl (lv_at hl 2 rfl) ?_
            refine va_get (D := D) (ci := 7) (v := .ref ra) (C := RX7) (T := TX7) (N := 4) hx hb hts inlX7 hown hK (oneP (C := []) hP hm_3) 0 rfl rfl 2 (by decide) (hts _ mw_808) (fun _ h9 => h9) rfl dX7_extremeRow_42 ?_
            refine lv_iload_n hx hb dX7_extremeRow_45 rfl (lv_at hl 0 rfl) ?_
            refine va_iald hx hb hK (oneP (C := []) hP hm_8) 0 0 rfl rfl (i := nI k3_4) (vp_in_nI (n := k3_4) (by omega) (by omega)) dX7_extremeRow_46 ?_
            refine kv (v := .int (nI n_13)) (by rw [nI_clamp (by omega)]; exact congrArg Value.int en_13) ?_
            refine lv_istore_n (lv' := [(2, .int (nI n_13)), (3, .int (nI k3_4)), (0, .ref q), (1, .int zb)]) hx hb dX7_extremeRow_47 rfl hl (by decide) rfl (fun ls hl => ?_)
            refine lv_iinc (v := (nI (k3_4 + 1))) (lv' := [(3, .int (nI (k3_4 + 1))), (2, .int (nI n_13)), (0, .ref q), (1, .int zb)]) hx hb dX7_extremeRow_48 hl (k := 1) rfl (nI_i k3_4) (by decide) rfl (fun ls hl => ?_)
            refine lv_goto (tgt := 4) hx hb dX7_extremeRow_51 (by decide) ?_
            exact ih4 _ _ (by omega) ⟨(k3_4 + 1), (nI n_13), (by omega), (Or.inr ⟨_, (by omega), rfl⟩), rfl, lv_sub hl [0, 1, 2, 3] rfl⟩
          · refine W.eq (g2 := F0 m 38 ls [.int 0]) rfl ?_
            refine lv_if_eq (tgt := 48) hx hb dX7_extremeRow_38 (by decide) (fun c_33 => ?_) (fun c_33 => absurd (by decide) c_33)
            refine lv_iinc (v := (nI (k3_4 + 1))) (lv' := [(3, .int (nI (k3_4 + 1))), (2, .int (nI j_21)), (0, .ref q), (1, .int zb)]) hx hb dX7_extremeRow_48 hl (k := 0) rfl (nI_i k3_4) (by decide) rfl (fun ls hl => ?_)
            refine lv_goto (tgt := 4) hx hb dX7_extremeRow_51 (by decide) ?_
            exact ih4 _ _ (by omega) ⟨(k3_4 + 1), (nI j_21), (by omega), (Or.inr ⟨_, (by omega), rfl⟩), rfl, lv_sub hl [0, 1, 2, 3] rfl⟩
set_option maxHeartbeats 4000000 in
set_option maxRecDepth 100000 in
theorem c_X7_leastRow (l : Launch) (D : va_G) (κ : Nat → ClassId) (κq : Nat → Nat) (im : va_W) (q : Nat) (S : Nat) (R : Nat) (w : Nat) (co : Nat) (ra : Nat) (mq : Nat) (ty : Nat) (hsp : Sp κ im q S R w co ra mq ty) : Er l yX7_leastRow (wl yX7_leastRow cX7_leastRow 1 (some .int)) { frames := 5, cells := 0, slots := 0, locals := 113 } D κ κq [.ref q] ([] ++ im) (fun r : Int32 => some (.int r)) (fun r : Int32 => True) := by
  refine er_of (by decide +kernel) (Nat.le_of_ble_eq_true rfl) ?_
  intro p e s m args below meth c A ls hx hb hr hml hts hown hlk hKK hK hP hE hl
  have hS : va_S A s.heap s.heap [] := va_S.rf
  have hP : va_P D vwCl ([] ++ im) s.heap := hP
  have hFX : FX p s m args c cX7_leastRow 1 RX7 := ⟨hx, hb, hml, hown, hts⟩
  have hl : lv_has ls 1 [(0, .ref q)] := hl
  refine lv_aload_n hx hb dX7_leastRow_0 rfl (lv_at hl 0 rfl) ?_
  refine lv_iconst (v := 0) hx hb dX7_leastRow_1 (by decide) ?_
  obtain ⟨h_3, h_4, hm_5, h_6, h_7⟩ := id hsp
  refine er_V (As := [.int 0]) (rest := []) hFX hKK hE hS (c_X7_extremeRow l D κ κq im q S R w co ra mq ty 0 hsp) 1 gV_X7_99 hdV_X7_extremeRow rfl rfl ⟨Nat.le_of_ble_eq_true rfl, Nat.le_of_ble_eq_true rfl⟩ rfl rfl (Nat.le_of_ble_eq_true rfl) dX7_leastRow_2 ⟨Nat.le_of_ble_eq_true rfl, Nat.le_of_ble_eq_true rfl⟩ hl.1 (oneP (C := []) hP hm_5) 0 7 rfl rfl rfl (subP hP [] rfl) (fun r__1 hp_2 => ?_)
  refine W.eq (g2 := F0 m 5 ls [.int r__1]) rfl ?_
  exact cr_iret hx hb hr hlk rfl r__1 rfl trivial dX7_leastRow_5
set_option maxHeartbeats 4000000 in
set_option maxRecDepth 100000 in
theorem c_X7_greatestRow (l : Launch) (D : va_G) (κ : Nat → ClassId) (κq : Nat → Nat) (im : va_W) (q : Nat) (S : Nat) (R : Nat) (w : Nat) (co : Nat) (ra : Nat) (mq : Nat) (ty : Nat) (hsp : Sp κ im q S R w co ra mq ty) : Er l yX7_greatestRow (wl yX7_greatestRow cX7_greatestRow 1 (some .int)) { frames := 5, cells := 0, slots := 0, locals := 113 } D κ κq [.ref q] ([] ++ im) (fun r : Int32 => some (.int r)) (fun r : Int32 => True) := by
  refine er_of (by decide +kernel) (Nat.le_of_ble_eq_true rfl) ?_
  intro p e s m args below meth c A ls hx hb hr hml hts hown hlk hKK hK hP hE hl
  have hS : va_S A s.heap s.heap [] := va_S.rf
  have hP : va_P D vwCl ([] ++ im) s.heap := hP
  have hFX : FX p s m args c cX7_greatestRow 1 RX7 := ⟨hx, hb, hml, hown, hts⟩
  have hl : lv_has ls 1 [(0, .ref q)] := hl
  refine lv_aload_n hx hb dX7_greatestRow_0 rfl (lv_at hl 0 rfl) ?_
  refine lv_iconst (v := 1) hx hb dX7_greatestRow_1 (by decide) ?_
  obtain ⟨h_3, h_4, hm_5, h_6, h_7⟩ := id hsp
  refine er_V (As := [.int 1]) (rest := []) hFX hKK hE hS (c_X7_extremeRow l D κ κq im q S R w co ra mq ty 1 hsp) 1 gV_X7_99 hdV_X7_extremeRow rfl rfl ⟨Nat.le_of_ble_eq_true rfl, Nat.le_of_ble_eq_true rfl⟩ rfl rfl (Nat.le_of_ble_eq_true rfl) dX7_greatestRow_2 ⟨Nat.le_of_ble_eq_true rfl, Nat.le_of_ble_eq_true rfl⟩ hl.1 (oneP (C := []) hP hm_5) 0 7 rfl rfl rfl (subP hP [] rfl) (fun r__1 hp_2 => ?_)
  refine W.eq (g2 := F0 m 5 ls [.int r__1]) rfl ?_
  exact cr_iret hx hb hr hlk rfl r__1 rfl trivial dX7_greatestRow_5
set_option maxHeartbeats 4000000 in
set_option maxRecDepth 100000 in
theorem c_X7_medianRow (l : Launch) (D : va_G) (κ : Nat → ClassId) (κq : Nat → Nat) (im : va_W) (q : Nat) (S : Nat) (R : Nat) (w : Nat) (co : Nat) (ra : Nat) (mq : Nat) (ty : Nat) (hsp : Sp κ im q S R w co ra mq ty) : Et l yX7_medianRow (wl yX7_medianRow cX7_medianRow 1 (some .int)) { frames := 5, cells := 1, slots := 40, locals := 115 } D κ κq [.ref q] ([] ++ im) (fun u9 : Int32 × va_W => some (.int u9.1)) (fun u9 : Int32 × va_W => Sb im u9.2) (fun u9 : Int32 × va_W => ([] ++ u9.2)) := by
  refine et_of (by decide +kernel) (Nat.le_of_ble_eq_true rfl) ?_
  intro p e s m args below meth c A ls hx hb hr hml hts hown hlk hin hKK hK hA hP hD hS hE hl
  have hS : va_S A s.heap s.heap [] := hS
  have hP : va_P D vwCl ([] ++ im) s.heap := hP
  have hD : va_D A ([] ++ im) := hD
  have hFX : FX p s m args c cX7_medianRow 1 RX7 := ⟨hx, hb, hml, hown, hts⟩
  have hl : lv_has ls 1 [(0, .ref q)] := hl
  obtain ⟨h_1, h_2, hm_3, h_4, h_5⟩ := id hsp
  obtain ⟨hn_6, f_7, hm_8, hf_9⟩ := id h_5
  refine lv_aload_n hx hb dX7_medianRow_0 rfl (lv_at hl 0 rfl) ?_
  refine va_get (D := D) (ci := 7) (v := .ref ra) (C := RX7) (T := TX7) (N := 4) hx hb hts inlX7 hown hK (oneP (C := []) hP hm_3) 0 rfl rfl 2 (by decide) (hts _ mw_808) (fun _ h9 => h9) rfl dX7_medianRow_1 ?_
  refine va_alen hx hb hK (oneP (C := []) hP hm_8) 0 0 rfl rfl (v := nI mq) rfl dX7_medianRow_4 ?_
  refine lv_if_ne (tgt := 12) hx hb dX7_medianRow_5 (by decide) (fun c_10 => ?_) (fun c_10 => ?_)
  · have nc_10 := cv_ne (a := mq) (b := 0) (by omega) (by omega) c_10
    refine lv_aload_n hx hb dX7_medianRow_12 rfl (lv_at hl 0 rfl) ?_
    refine lv_iconst (v := 0) hx hb dX7_medianRow_13 (by decide) ?_
    refine et_VT (CR := []) (As := [.int 0]) (rest := []) hFX hKK hE hP hD hS hA (c_X7_ordered l D κ κq im q S R w co ra mq ty 0 hsp) 1 gV_X7_103 hdV_X7_ordered ⟨Nat.le_of_ble_eq_true rfl, Nat.le_of_ble_eq_true rfl⟩ rfl rfl (Nat.le_of_ble_eq_true rfl) dX7_medianRow_14 ⟨Nat.le_of_ble_eq_true rfl, Nat.le_of_ble_eq_true rfl⟩ hl.1 [] [] rfl rfl (by decide) (by decide) (by decide) (oneP (C := []) hP hm_3) 0 7 rfl rfl rfl (fun u_13 H locs hp_14 hP hD hS => ?_)
    refine W.widen (k := 1) (n := 40) (Nat.le_refl _) (Nat.le_refl _) ?_
    obtain ⟨p__11, im2__12⟩ := u_13
    replace hP : va_P D vwCl ([] ++ im2__12) H := subP (C := []) hP [] rfl
    replace hD : va_D A ([] ++ im2__12) := subD (C := []) hD [] (by decide) rfl
    replace hp_14 : Sb im im2__12 ∧ Ix κ im2__12 p__11 mq R := hp_14
    obtain ⟨h_15, h_16⟩ := hp_14
    replace hsp := hsp.up h_15
    replace h_4 := h_4.up h_15
    replace h_5 := h_5.up h_15
    replace hm_3 := h_15 _ hm_3
    replace hm_8 := h_15 _ hm_8
    refine W.eq (g2 := F0 m 17 ls [.ref p__11]) rfl ?_
    refine lv_aload_n hx hb dX7_medianRow_17 rfl (lv_at hl 0 rfl) ?_
    refine va_get (D := D) (ci := 7) (v := .ref ra) (C := RX7) (T := TX7) (N := 4) hx hb hts inlX7 hown hK (oneP (C := []) hP hm_3) 0 rfl rfl 2 (by decide) (hts _ mw_808) (fun _ h9 => h9) rfl dX7_medianRow_18 ?_
    refine va_alen hx hb hK (oneP (C := []) hP hm_8) 0 0 rfl rfl (v := nI mq) rfl dX7_medianRow_21 ?_
    refine lv_iconst (v := 2) hx hb dX7_medianRow_22 (by decide) ?_
    refine lv_idiv hx hb dX7_medianRow_23 (by decide) ?_
    refine ki (v := nI (mq / 2)) (pk_div (a := mq) (d := 2) (by omega) (by omega) (by omega)) ?_
    obtain ⟨hn_17, f_18, hm_19, hf_20⟩ := id h_16
    refine va_iald hx hb hK (oneP (C := []) hP hm_19) 0 0 rfl rfl (i := nI (mq / 2)) (vp_in_nI (n := (mq / 2)) (by omega) (by omega)) dX7_medianRow_24 ?_
    refine kv (v := .int (f_18 (mq / 2))) (by rw [nI_clamp (by omega)]) ?_
    obtain ⟨n_21, hn_21, en_21⟩ := hf_20 (mq / 2) (by omega)
    refine kv (v := .int (nI n_21)) (congrArg Value.int en_21) ?_
    exact et_iret hx hb hr hlk rfl hS (nI n_21, im2__12) rfl (show Sb im im2__12 from h_15) (subP hP [] rfl) (subD hD [] (by decide) rfl) (Nat.le_of_ble_eq_true rfl) (Nat.le_of_ble_eq_true rfl) dX7_medianRow_25
  · have nc_10 := cv_eq (a := mq) (b := 0) (by omega) (by omega) c_10
    refine lv_iconst (v := (-1)) hx hb dX7_medianRow_8 (by decide) ?_
    refine lv_goto (tgt := 25) hx hb dX7_medianRow_9 (by decide) ?_
    exact et_iret hx hb hr hlk rfl hS ((-1), im) rfl (show Sb im im from Sb.rf) (subP hP [] rfl) (subD hD [] (by decide) rfl) (Nat.le_of_ble_eq_true rfl) (Nat.le_of_ble_eq_true rfl) dX7_medianRow_25
set_option maxHeartbeats 4000000 in
set_option maxRecDepth 100000 in
theorem c_X7_sumLike (l : Launch) (D : va_G) (κ : Nat → ClassId) (κq : Nat → Nat) (im : va_W) (q : Nat) (S : Nat) (R : Nat) (w : Nat) (co : Nat) (ra : Nat) (mq : Nat) (ty : Nat) (r9 : Nat) (zc : Int32) (hsp : Sp κ im q S R w co ra mq ty) (hr9 : r9 < R) : Et l yX7_sumLike (wl yX7_sumLike cX7_sumLike 3 (some .long)) { frames := 5, cells := 3, slots := 84, locals := 112 } D κ κq [.ref q, .int (nI r9), .int zc] ([] ++ im) (fun u9 : Int64 × va_W => some (.long u9.1)) (fun u9 : Int64 × va_W => Sb im u9.2) (fun u9 : Int64 × va_W => ([] ++ u9.2)) := by
  refine et_of (by decide +kernel) (Nat.le_of_ble_eq_true rfl) ?_
  intro p e s m args below meth c A ls hx hb hr hml hts hown hlk hin hKK hK hA hP hD hS hE hl
  have hS : va_S A s.heap s.heap [] := hS
  have hP : va_P D vwCl ([] ++ im) s.heap := hP
  have hD : va_D A ([] ++ im) := hD
  have hFX : FX p s m args c cX7_sumLike 3 RX7 := ⟨hx, hb, hml, hown, hts⟩
  have hl : lv_has ls 3 [(0, .ref q), (1, .int (nI r9)), (2, .int zc)] := hl
  obtain ⟨h_1, h_2, hm_3, h_4, h_5⟩ := id hsp
  refine lv_aload_n hx hb dX7_sumLike_0 rfl (lv_at hl 0 rfl) ?_
  refine va_get (D := D) (ci := 7) (v := .ref S) (C := RX7) (T := TX7) (N := 4) hx hb hts inlX7 hown hK (oneP (C := []) hP hm_3) 0 rfl rfl 0 (by decide) (hts _ mw_806) (fun _ h9 => h9) rfl dX7_sumLike_1 ?_
  refine lv_iload_n hx hb dX7_sumLike_4 rfl (lv_at hl 2 rfl) ?_
  obtain ⟨hb_8, c_9, x_10, v_11, g_12, h_13, hm_14, hm_15, hm_16, lo_17, lc_18, vw_19⟩ := id h_4
  obtain ⟨hb_8_1, hb_8_2, hb_8_3⟩ := hb_8
  have hrw_hb_8 := rw_le hb_8_1 hb_8_3
  refine er_V (As := [.int zc]) (rest := []) hFX hKK hE hS (c_X5_hasColumn l D κ κq im S R w zc h_4) 1 gV_X7_87 hdV_X5_hasColumn rfl rfl ⟨Nat.le_of_ble_eq_true rfl, Nat.le_of_ble_eq_true rfl⟩ rfl rfl (Nat.le_of_ble_eq_true rfl) dX7_sumLike_5 ⟨Nat.le_of_ble_eq_true rfl, Nat.le_of_ble_eq_true rfl⟩ hl.1 (oneP (C := []) hP hm_14) 0 5 rfl rfl rfl (subP hP [] rfl) (fun r__6 hp_7 => ?_)
  replace hp_7 : ((r__6 = 1 ∧ (∃ j : Nat, j < w ∧ zc = nI j)) ∨ (r__6 = 0)) := hp_7
  have ha_20 := hp_7
  clear hp_7
  rcases ha_20 with ⟨rfl, ⟨j_21, hj_21, rfl⟩⟩ | rfl
  · refine W.eq (g2 := F0 m 8 ls [.int 1]) rfl ?_
    refine lv_if_eq (tgt := 34) hx hb dX7_sumLike_8 (by decide) (fun c_23 => absurd c_23 (by decide)) (fun c_23 => ?_)
    refine va_new (ci := 7) (fs := [.null, .int 0, .null, .int 0]) (C := RX7) (T := TX7) (N := 4) hx hb hts inlX7 tyX7 tyX7_ok hown (hts _ mw_1278) (hts _ mw_793) (hts _ mw_794) hK hP hD hS hA rfl (fun j hj => by rcases (show j = 0 ∨ j = 1 ∨ j = 2 ∨ j = 3 by omega) with rfl | rfl | rfl | rfl <;> rfl) (Nat.le_of_ble_eq_true rfl) (Nat.le_of_ble_eq_true rfl) dX7_sumLike_11 (fun q_24 H hP hD hS => ?_)
    replace hP : va_P D vwCl ([(q_24, .inr (7, [.null, .int 0, .null, .int 0]))] ++ im) H := mvP hP
    replace hD : va_D A ([(q_24, .inr (7, [.null, .int 0, .null, .int 0]))] ++ im) := mvD hD
    refine lv_dup hx hb dX7_sumLike_14 rfl ?_
    refine lv_aload_n hx hb dX7_sumLike_15 rfl (lv_at hl 0 rfl) ?_
    refine va_get (D := D) (ci := 7) (v := .ref S) (C := RX7) (T := TX7) (N := 4) hx hb hts inlX7 hown hK (oneP (C := [(q_24, .inr (7, [.null, .int 0, .null, .int 0]))]) hP hm_3) 0 rfl rfl 0 (by decide) (hts _ mw_806) (fun _ h9 => h9) rfl dX7_sumLike_16 ?_
    refine lv_iload_n hx hb dX7_sumLike_19 rfl (lv_at hl 2 rfl) ?_
    refine lv_aload_n hx hb dX7_sumLike_20 rfl (lv_at hl 0 rfl) ?_
    refine lv_iload_n hx hb dX7_sumLike_21 rfl (lv_at hl 1 rfl) ?_
    refine et_VT (CR := [(q_24, .inr (7, [.null, .int 0, .null, .int 0]))]) (As := [.int (nI r9)]) (rest := [.int (nI j_21), .ref S, .ref q_24, .ref q_24]) hFX hKK hE hP hD hS hA (c_X7_rowsLike l D κ κq im q S R w co ra mq ty r9 hsp (by omega)) 1 gV_X7_91 hdV_X7_rowsLike ⟨Nat.le_of_ble_eq_true rfl, Nat.le_of_ble_eq_true rfl⟩ rfl rfl (Nat.le_of_ble_eq_true rfl) dX7_sumLike_22 ⟨Nat.le_of_ble_eq_true rfl, Nat.le_of_ble_eq_true rfl⟩ hl.1 [] [0] rfl rfl (by decide) (by decide) (by decide) (oneP (C := [(q_24, .inr (7, [.null, .int 0, .null, .int 0]))]) hP hm_3) 0 7 rfl rfl rfl (fun u_28 H locs hp_29 hP hD hS => ?_)
    refine W.widen (k := 3) (n := 84) (Nat.le_refl _) (Nat.le_refl _) ?_
    obtain ⟨p__25, n__26, im2__27⟩ := u_28
    replace hP : va_P D vwCl ([(q_24, .inr (7, [.null, .int 0, .null, .int 0]))] ++ im2__27) H := subP (C := [(q_24, .inr (7, [.null, .int 0, .null, .int 0]))]) hP [0] rfl
    replace hD : va_D A ([(q_24, .inr (7, [.null, .int 0, .null, .int 0]))] ++ im2__27) := subD (C := [(q_24, .inr (7, [.null, .int 0, .null, .int 0]))]) hD [0] (by decide) rfl
    replace hp_29 : Sb im im2__27 ∧ Ix κ im2__27 p__25 n__26 R := hp_29
    obtain ⟨h_30, h_31⟩ := hp_29
    replace hsp := hsp.up h_30
    replace h_4 := h_4.up h_30
    replace h_5 := h_5.up h_30
    replace lo_17 := lo_17.up h_30
    replace lc_18 := lc_18.up h_30
    replace vw_19 := vw_19.up h_30
    replace hm_3 := h_30 _ hm_3
    replace hm_14 := h_30 _ hm_14
    replace hm_15 := h_30 _ hm_15
    replace hm_16 := h_30 _ hm_16
    refine W.eq (g2 := F0 m 25 ls [.ref p__25, .int (nI j_21), .ref S, .ref q_24, .ref q_24]) rfl ?_
    refine et_IT (CR := []) (As := [.ref S, .int (nI j_21), .ref p__25]) (rest := [.ref q_24]) hFX hKK hE hP hD hS hA (c_X7_init l D κ κq im2__27 q_24 S R w j_21 p__25 n__26 h_4 (by omega) h_31) 3 mw_1279 mw_803 mw_794 mw_804 hdI_X7_init ⟨Nat.le_of_ble_eq_true rfl, Nat.le_of_ble_eq_true rfl⟩ rfl rfl (Nat.le_of_ble_eq_true rfl) dX7_sumLike_25 ⟨Nat.le_of_ble_eq_true rfl, Nat.le_of_ble_eq_true rfl⟩ hl.1 [0] [] rfl rfl (by decide) (by decide) (by decide) (fun u_34 H locs hp_35 hP hD hS => ?_)
    refine W.widen (k := 3) (n := 84) (Nat.le_refl _) (Nat.le_refl _) ?_
    obtain ⟨ty__32, im2__33⟩ := u_34
    replace hP : va_P D vwCl ([] ++ im2__33) H := subP (C := []) hP [] rfl
    replace hD : va_D A ([] ++ im2__33) := subD (C := []) hD [] (by decide) rfl
    replace hp_35 : Sb im2__27 im2__33 ∧ Sp κ im2__33 q_24 S R w j_21 p__25 n__26 ty__32 := hp_35
    obtain ⟨h_36, h_37⟩ := hp_35
    replace hsp := hsp.up h_36
    replace h_4 := h_4.up h_36
    replace h_5 := h_5.up h_36
    replace lo_17 := lo_17.up h_36
    replace lc_18 := lc_18.up h_36
    replace vw_19 := vw_19.up h_36
    replace h_31 := h_31.up h_36
    replace hm_3 := h_36 _ hm_3
    replace hm_14 := h_36 _ hm_14
    replace hm_15 := h_36 _ hm_15
    replace hm_16 := h_36 _ hm_16
    refine W.eq (g2 := F0 m 28 ls [.ref q_24]) rfl ?_
    obtain ⟨h_40, h_41, hm_42, h_43, h_44⟩ := id h_37
    refine er_V (As := []) (rest := []) hFX hKK hE hS (c_X7_sum l D κ κq im2__33 q_24 S R w j_21 p__25 n__26 ty__32 h_37) 0 gV_X7_95 hdV_X7_sum rfl rfl ⟨Nat.le_of_ble_eq_true rfl, Nat.le_of_ble_eq_true rfl⟩ rfl rfl (Nat.le_of_ble_eq_true rfl) dX7_sumLike_28 ⟨Nat.le_of_ble_eq_true rfl, Nat.le_of_ble_eq_true rfl⟩ hl.1 (oneP (C := []) hP hm_42) 0 7 rfl rfl rfl (subP hP [] rfl) (fun r__38 hp_39 => ?_)
    refine W.eq (g2 := F0 m 31 ls [.long r__38]) rfl ?_
    refine lv_goto (tgt := 37) hx hb dX7_sumLike_31 (by decide) ?_
    exact et_lret hx hb hr hlk hS (r__38, im2__33) rfl (show Sb im im2__33 from (Sb.tr h_30 h_36)) (subP hP [] rfl) (subD hD [] (by decide) rfl) (Nat.le_of_ble_eq_true rfl) (Nat.le_of_ble_eq_true rfl) dX7_sumLike_37
  · refine W.eq (g2 := F0 m 8 ls [.int 0]) rfl ?_
    refine lv_if_eq (tgt := 34) hx hb dX7_sumLike_8 (by decide) (fun c_45 => ?_) (fun c_45 => absurd (by decide) c_45)
    refine lv_ldc2 hx hb hown (hts _ mw_1284) dX7_sumLike_34 ?_
    exact et_lret hx hb hr hlk hS ((-100000000000000), im) rfl (show Sb im im from Sb.rf) (subP hP [] rfl) (subD hD [] (by decide) rfl) (Nat.le_of_ble_eq_true rfl) (Nat.le_of_ble_eq_true rfl) dX7_sumLike_37
