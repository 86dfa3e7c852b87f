theorem dX11_view_0 : decode cX11_view 0 = .ok (.aload_n 0, 1) := by decide +kernel
theorem dX11_view_1 : decode cX11_view 1 = .ok (.getfield 12, 3) := by decide +kernel
theorem dX11_view_4 : decode cX11_view 4 = .ok (.iload_n 1, 1) := by decide +kernel
theorem dX11_view_5 : decode cX11_view 5 = .ok (.invokevirtual 231, 3) := by decide +kernel
theorem mw_1080 : Cond.methodLink RX11 231 yX6_topOf ∈ wsL_law := lrk_46 _ (List.mem_of_getElem? (i := 0) rfl)
theorem gV_X11_231 : GoodIn wsL_law (wsV RX11 231 RX6 yX6_topOf (wl yX6_topOf cX6_topOf 2 (some (.object "TypedTables$View")))) := g_V mw_1080 mw_798 mw_799 mw_14 mw_800
theorem dX11_view_8 : decode cX11_view 8 = .ok (.astore_n 3, 1) := by decide +kernel
theorem dX11_view_9 : decode cX11_view 9 = .ok (.aload_n 3, 1) := by decide +kernel
theorem dX11_view_10 : decode cX11_view 10 = .ok (.ifnonnull 5, 3) := by decide +kernel
theorem dX11_view_13 : decode cX11_view 13 = .ok (.iconst (-1), 1) := by decide +kernel
theorem dX11_view_14 : decode cX11_view 14 = .ok (.ireturn, 1) := by decide +kernel
theorem dX11_view_15 : decode cX11_view 15 = .ok (.iload_n 2, 1) := by decide +kernel
theorem dX11_view_16 : decode cX11_view 16 = .ok (.iconst (-1), 1) := by decide +kernel
theorem dX11_view_17 : decode cX11_view 17 = .ok (.if_icmp .ne 9, 3) := by decide +kernel
theorem dX11_view_26 : decode cX11_view 26 = .ok (.iload_n 2, 1) := by decide +kernel
theorem dX11_view_27 : decode cX11_view 27 = .ok (.ifCond .lt 12, 3) := by decide +kernel
theorem dX11_view_39 : decode cX11_view 39 = .ok (.iconst (-1), 1) := by decide +kernel
theorem dX11_view_40 : decode cX11_view 40 = .ok (.goto 9, 3) := by decide +kernel
theorem dX11_view_49 : decode cX11_view 49 = .ok (.ireturn, 1) := by decide +kernel
theorem dX11_view_30 : decode cX11_view 30 = .ok (.iload_n 2, 1) := by decide +kernel
theorem dX11_view_31 : decode cX11_view 31 = .ok (.aload_n 3, 1) := by decide +kernel
theorem dX11_view_32 : decode cX11_view 32 = .ok (.getfield 235, 3) := by decide +kernel
theorem mw_1078 : Cond.fieldLink RX11 235 "TypedTables$View" "rows" "[I" ∈ wsL_law := lrk_45 _ (List.mem_of_getElem? (i := 22) rfl)
theorem dX11_view_35 : decode cX11_view 35 = .ok (.arraylength, 1) := by decide +kernel
theorem dX11_view_36 : decode cX11_view 36 = .ok (.if_icmp .lt 7, 3) := by decide +kernel
theorem dX11_view_43 : decode cX11_view 43 = .ok (.aload_n 3, 1) := by decide +kernel
theorem dX11_view_44 : decode cX11_view 44 = .ok (.getfield 235, 3) := by decide +kernel
theorem dX11_view_47 : decode cX11_view 47 = .ok (.iload_n 2, 1) := by decide +kernel
theorem dX11_view_48 : decode cX11_view 48 = .ok (.iaload, 1) := by decide +kernel
theorem dX11_view_20 : decode cX11_view 20 = .ok (.aload_n 3, 1) := by decide +kernel
theorem dX11_view_21 : decode cX11_view 21 = .ok (.getfield 235, 3) := by decide +kernel
theorem dX11_view_24 : decode cX11_view 24 = .ok (.arraylength, 1) := by decide +kernel
theorem dX11_view_25 : decode cX11_view 25 = .ok (.ireturn, 1) := by decide +kernel
theorem dX11_table_0 : decode cX11_table 0 = .ok (.aload_n 0, 1) := by decide +kernel
theorem dX11_table_1 : decode cX11_table 1 = .ok (.getfield 12, 3) := by decide +kernel
theorem dX11_table_4 : decode cX11_table 4 = .ok (.iload_n 1, 1) := by decide +kernel
theorem dX11_table_5 : decode cX11_table 5 = .ok (.invokevirtual 114, 3) := by decide +kernel
theorem mw_571 : Cond.methodLink RX11 114 yX6_sheetOf ∈ wsL_law := lrk_24 _ (List.mem_of_getElem? (i := 19) rfl)
theorem gV_X11_114 : GoodIn wsL_law (wsV RX11 114 RX6 yX6_sheetOf (wl yX6_sheetOf cX6_sheetOf 2 (some (.object "TypedTables$Sheet")))) := g_V mw_571 mw_572 mw_573 mw_14 mw_574
theorem dX11_table_8 : decode cX11_table 8 = .ok (.astore_n 3, 1) := by decide +kernel
theorem dX11_table_9 : decode cX11_table 9 = .ok (.aload_n 0, 1) := by decide +kernel
theorem dX11_table_10 : decode cX11_table 10 = .ok (.getfield 12, 3) := by decide +kernel
theorem dX11_table_13 : decode cX11_table 13 = .ok (.iload_n 1, 1) := by decide +kernel
theorem dX11_table_14 : decode cX11_table 14 = .ok (.invokevirtual 231, 3) := by decide +kernel
theorem dX11_table_17 : decode cX11_table 17 = .ok (.astore 4, 2) := by decide +kernel
theorem dX11_table_19 : decode cX11_table 19 = .ok (.aload_n 3, 1) := by decide +kernel
theorem dX11_table_20 : decode cX11_table 20 = .ok (.ifnull 8, 3) := by decide +kernel
theorem dX11_table_28 : decode cX11_table 28 = .ok (.iconst (-1), 1) := by decide +kernel
theorem dX11_table_29 : decode cX11_table 29 = .ok (.ireturn, 1) := by decide +kernel
theorem dX11_table_23 : decode cX11_table 23 = .ok (.aload 4, 2) := by decide +kernel
theorem dX11_table_25 : decode cX11_table 25 = .ok (.ifnonnull 5, 3) := by decide +kernel
theorem dX11_table_30 : decode cX11_table 30 = .ok (.iload_n 2, 1) := by decide +kernel
theorem dX11_table_31 : decode cX11_table 31 = .ok (.tableswitch 51 0 3 #[29, 35, 40, 46], 29) := by decide +kernel
theorem dX11_table_82 : decode cX11_table 82 = .ok (.iconst (-1), 1) := by decide +kernel
theorem dX11_table_83 : decode cX11_table 83 = .ok (.ireturn, 1) := by decide +kernel
theorem dX11_table_60 : decode cX11_table 60 = .ok (.aload_n 3, 1) := by decide +kernel
theorem dX11_table_61 : decode cX11_table 61 = .ok (.getfield 121, 3) := by decide +kernel
theorem dX11_table_64 : decode cX11_table 64 = .ok (.arraylength, 1) := by decide +kernel
theorem dX11_table_65 : decode cX11_table 65 = .ok (.ireturn, 1) := by decide +kernel
theorem dX11_table_66 : decode cX11_table 66 = .ok (.aload_n 3, 1) := by decide +kernel
theorem dX11_table_67 : decode cX11_table 67 = .ok (.getfield 90, 3) := by decide +kernel
theorem mw_253 : Cond.fieldLink RX11 90 "TypedTables$Sheet" "rows" "I" ∈ wsL_law := lrk_11 _ (List.mem_of_getElem? (i := 13) rfl)
theorem dX11_table_70 : decode cX11_table 70 = .ok (.ireturn, 1) := by decide +kernel
theorem dX11_table_71 : decode cX11_table 71 = .ok (.aload 4, 2) := by decide +kernel
theorem dX11_table_73 : decode cX11_table 73 = .ok (.getfield 263, 3) := by decide +kernel
theorem mw_1123 : Cond.fieldLink RX11 263 "TypedTables$View" "depth" "I" ∈ wsL_law := lrk_47 _ (List.mem_of_getElem? (i := 19) rfl)
theorem dX11_table_76 : decode cX11_table 76 = .ok (.ireturn, 1) := by decide +kernel
theorem dX11_table_77 : decode cX11_table 77 = .ok (.aload_n 3, 1) := by decide +kernel
theorem dX11_table_78 : decode cX11_table 78 = .ok (.invokevirtual 266, 3) := by decide +kernel
theorem mw_1147 : Cond.code yX5_countBytes cX5_countBytes 3 (some .int) ∈ wsL_law := lrk_48 _ (List.mem_of_getElem? (i := 19) rfl)
theorem mw_1144 : Cond.methodLink RX11 266 yX5_countBytes ∈ wsL_law := lrk_48 _ (List.mem_of_getElem? (i := 16) rfl)
theorem mw_1145 : Cond.instanceMethod yX5_countBytes ∈ wsL_law := lrk_48 _ (List.mem_of_getElem? (i := 17) rfl)
theorem mw_1146 : Cond.selects RX5 yX5_countBytes yX5_countBytes ∈ wsL_law := lrk_48 _ (List.mem_of_getElem? (i := 18) rfl)
theorem gV_X11_266 : GoodIn wsL_law (wsV RX11 266 RX5 yX5_countBytes (wl yX5_countBytes cX5_countBytes 3 (some .int))) := g_V mw_1144 mw_1145 mw_1146 mw_377 mw_1147
theorem hdV_X5_countBytes : yX5_countBytes.cls = RX5 ∧ okD yX5_countBytes 0 := by decide +kernel
theorem dX11_table_81 : decode cX11_table 81 = .ok (.ireturn, 1) := by decide +kernel
theorem dX11_column_0 : decode cX11_column 0 = .ok (.aload_n 0, 1) := by decide +kernel
theorem dX11_column_1 : decode cX11_column 1 = .ok (.getfield 12, 3) := by decide +kernel
theorem dX11_column_4 : decode cX11_column 4 = .ok (.iload_n 1, 1) := by decide +kernel
theorem dX11_column_5 : decode cX11_column 5 = .ok (.invokevirtual 114, 3) := by decide +kernel
theorem dX11_column_8 : decode cX11_column 8 = .ok (.astore 4, 2) := by decide +kernel
theorem dX11_column_10 : decode cX11_column 10 = .ok (.aload 4, 2) := by decide +kernel
theorem dX11_column_12 : decode cX11_column 12 = .ok (.ifnull 12, 3) := by decide +kernel
theorem dX11_column_24 : decode cX11_column 24 = .ok (.iconst (-1), 1) := by decide +kernel
theorem dX11_column_25 : decode cX11_column 25 = .ok (.ireturn, 1) := by decide +kernel
theorem dX11_column_15 : decode cX11_column 15 = .ok (.aload 4, 2) := by decide +kernel
theorem dX11_column_17 : decode cX11_column 17 = .ok (.iload_n 2, 1) := by decide +kernel
theorem dX11_column_18 : decode cX11_column 18 = .ok (.invokevirtual 161, 3) := by decide +kernel
theorem mw_720 : Cond.methodLink RX11 161 yX5_hasColumn ∈ wsL_law := lrk_31 _ (List.mem_of_getElem? (i := 0) rfl)
theorem gV_X11_161 : GoodIn wsL_law (wsV RX11 161 RX5 yX5_hasColumn (wl yX5_hasColumn cX5_hasColumn 2 (some .boolean))) := g_V mw_720 mw_585 mw_586 mw_377 mw_587
theorem dX11_column_21 : decode cX11_column 21 = .ok (.ifCond .ne 5, 3) := by decide +kernel
theorem dX11_column_26 : decode cX11_column 26 = .ok (.iload_n 3, 1) := by decide +kernel
theorem dX11_column_27 : decode cX11_column 27 = .ok (.tableswitch 93 0 5 #[37, 44, 56, 67, 79, 86], 37) := by decide +kernel
theorem dX11_column_120 : decode cX11_column 120 = .ok (.iconst (-1), 1) := by decide +kernel
theorem dX11_column_121 : decode cX11_column 121 = .ok (.ireturn, 1) := by decide +kernel
theorem dX11_column_64 : decode cX11_column 64 = .ok (.aload 4, 2) := by decide +kernel
theorem dX11_column_66 : decode cX11_column 66 = .ok (.iload_n 2, 1) := by decide +kernel
theorem dX11_column_67 : decode cX11_column 67 = .ok (.invokevirtual 270, 3) := by decide +kernel
theorem mw_1161 : Cond.methodLink RX11 270 yX5_typeOf ∈ wsL_law := lrk_49 _ (List.mem_of_getElem? (i := 9) rfl)
theorem gV_X11_270 : GoodIn wsL_law (wsV RX11 270 RX5 yX5_typeOf (wl yX5_typeOf cX5_typeOf 3 (some .int))) := g_V mw_1161 mw_811 mw_812 mw_377 mw_813
theorem dX11_column_70 : decode cX11_column 70 = .ok (.ireturn, 1) := by decide +kernel
theorem dX11_column_71 : decode cX11_column 71 = .ok (.aload 4, 2) := by decide +kernel
theorem dX11_column_73 : decode cX11_column 73 = .ok (.iload_n 2, 1) := by decide +kernel
theorem dX11_column_74 : decode cX11_column 74 = .ok (.aload 4, 2) := by decide +kernel
theorem dX11_column_76 : decode cX11_column 76 = .ok (.getfield 90, 3) := by decide +kernel
theorem dX11_column_79 : decode cX11_column 79 = .ok (.invokevirtual 274, 3) := by decide +kernel
theorem mw_1162 : Cond.methodLink RX11 274 yX5_guessTo ∈ wsL_law := lrk_49 _ (List.mem_of_getElem? (i := 10) rfl)
theorem gV_X11_274 : GoodIn wsL_law (wsV RX11 274 RX5 yX5_guessTo (wl yX5_guessTo cX5_guessTo 5 (some .int))) := g_V mw_1162 mw_816 mw_817 mw_377 mw_818
theorem dX11_column_82 : decode cX11_column 82 = .ok (.ireturn, 1) := by decide +kernel
theorem dX11_column_83 : decode cX11_column 83 = .ok (.aload 4, 2) := by decide +kernel
theorem dX11_column_85 : decode cX11_column 85 = .ok (.getfield 121, 3) := by decide +kernel
theorem dX11_column_88 : decode cX11_column 88 = .ok (.iload_n 2, 1) := by decide +kernel
theorem dX11_column_89 : decode cX11_column 89 = .ok (.aaload, 1) := by decide +kernel
theorem dX11_column_90 : decode cX11_column 90 = .ok (.getfield 168, 3) := by decide +kernel
theorem dX11_column_93 : decode cX11_column 93 = .ok (.ireturn, 1) := by decide +kernel
theorem dX11_column_94 : decode cX11_column 94 = .ok (.aload 4, 2) := by decide +kernel
theorem dX11_column_96 : decode cX11_column 96 = .ok (.getfield 121, 3) := by decide +kernel
theorem dX11_column_99 : decode cX11_column 99 = .ok (.iload_n 2, 1) := by decide +kernel
theorem dX11_column_100 : decode cX11_column 100 = .ok (.aaload, 1) := by decide +kernel
theorem dX11_column_101 : decode cX11_column 101 = .ok (.getfield 185, 3) := by decide +kernel
theorem mw_759 : Cond.fieldLink RX11 185 "TypedTables$Column" "name" "[B" ∈ wsL_law := lrk_32 _ (List.mem_of_getElem? (i := 15) rfl)
theorem dX11_column_104 : decode cX11_column 104 = .ok (.arraylength, 1) := by decide +kernel
theorem dX11_column_105 : decode cX11_column 105 = .ok (.ireturn, 1) := by decide +kernel
theorem dX11_column_106 : decode cX11_column 106 = .ok (.aload 4, 2) := by decide +kernel
theorem dX11_column_108 : decode cX11_column 108 = .ok (.iload_n 2, 1) := by decide +kernel
theorem dX11_column_109 : decode cX11_column 109 = .ok (.invokevirtual 277, 3) := by decide +kernel
theorem mw_1166 : Cond.code yX5_proofSize cX5_proofSize 3 (some .int) ∈ wsL_law := lrk_49 _ (List.mem_of_getElem? (i := 14) rfl)
theorem mw_1163 : Cond.methodLink RX11 277 yX5_proofSize ∈ wsL_law := lrk_49 _ (List.mem_of_getElem? (i := 11) rfl)
theorem mw_1164 : Cond.instanceMethod yX5_proofSize ∈ wsL_law := lrk_49 _ (List.mem_of_getElem? (i := 12) rfl)
theorem mw_1165 : Cond.selects RX5 yX5_proofSize yX5_proofSize ∈ wsL_law := lrk_49 _ (List.mem_of_getElem? (i := 13) rfl)
theorem gV_X11_277 : GoodIn wsL_law (wsV RX11 277 RX5 yX5_proofSize (wl yX5_proofSize cX5_proofSize 3 (some .int))) := g_V mw_1163 mw_1164 mw_1165 mw_377 mw_1166
theorem hdV_X5_proofSize : yX5_proofSize.cls = RX5 ∧ okD yX5_proofSize 1 := by decide +kernel
theorem dX11_column_112 : decode cX11_column 112 = .ok (.ireturn, 1) := by decide +kernel
theorem dX11_column_113 : decode cX11_column 113 = .ok (.aload 4, 2) := by decide +kernel
theorem dX11_column_115 : decode cX11_column 115 = .ok (.iload_n 2, 1) := by decide +kernel
theorem dX11_column_116 : decode cX11_column 116 = .ok (.invokevirtual 280, 3) := by decide +kernel
theorem mw_1174 : Cond.code yX5_countEmpty cX5_countEmpty 4 (some .int) ∈ wsL_law := lrk_49 _ (List.mem_of_getElem? (i := 22) rfl)
theorem mw_1171 : Cond.methodLink RX11 280 yX5_countEmpty ∈ wsL_law := lrk_49 _ (List.mem_of_getElem? (i := 19) rfl)
theorem mw_1172 : Cond.instanceMethod yX5_countEmpty ∈ wsL_law := lrk_49 _ (List.mem_of_getElem? (i := 20) rfl)
theorem mw_1173 : Cond.selects RX5 yX5_countEmpty yX5_countEmpty ∈ wsL_law := lrk_49 _ (List.mem_of_getElem? (i := 21) rfl)
theorem gV_X11_280 : GoodIn wsL_law (wsV RX11 280 RX5 yX5_countEmpty (wl yX5_countEmpty cX5_countEmpty 4 (some .int))) := g_V mw_1171 mw_1172 mw_1173 mw_377 mw_1174
theorem hdV_X5_countEmpty : yX5_countEmpty.cls = RX5 ∧ okD yX5_countEmpty 1 := by decide +kernel
theorem dX11_column_119 : decode cX11_column 119 = .ok (.ireturn, 1) := by decide +kernel
theorem dX11_nameAt_0 : decode cX11_nameAt 0 = .ok (.aload_n 0, 1) := by decide +kernel
theorem dX11_nameAt_1 : decode cX11_nameAt 1 = .ok (.getfield 12, 3) := by decide +kernel
theorem dX11_nameAt_4 : decode cX11_nameAt 4 = .ok (.iload_n 1, 1) := by decide +kernel
theorem dX11_nameAt_5 : decode cX11_nameAt 5 = .ok (.invokevirtual 114, 3) := by decide +kernel
theorem dX11_nameAt_8 : decode cX11_nameAt 8 = .ok (.astore 4, 2) := by decide +kernel
theorem dX11_nameAt_10 : decode cX11_nameAt 10 = .ok (.aload 4, 2) := by decide +kernel
theorem dX11_nameAt_12 : decode cX11_nameAt 12 = .ok (.ifnull 12, 3) := by decide +kernel
theorem dX11_nameAt_24 : decode cX11_nameAt 24 = .ok (.iconst (-1), 1) := by decide +kernel
theorem dX11_nameAt_25 : decode cX11_nameAt 25 = .ok (.ireturn, 1) := by decide +kernel
theorem dX11_nameAt_15 : decode cX11_nameAt 15 = .ok (.aload 4, 2) := by decide +kernel
theorem dX11_nameAt_17 : decode cX11_nameAt 17 = .ok (.iload_n 2, 1) := by decide +kernel
theorem dX11_nameAt_18 : decode cX11_nameAt 18 = .ok (.invokevirtual 161, 3) := by decide +kernel
theorem dX11_nameAt_21 : decode cX11_nameAt 21 = .ok (.ifCond .ne 5, 3) := by decide +kernel
theorem dX11_nameAt_26 : decode cX11_nameAt 26 = .ok (.aload 4, 2) := by decide +kernel
theorem dX11_nameAt_28 : decode cX11_nameAt 28 = .ok (.getfield 121, 3) := by decide +kernel
theorem dX11_nameAt_31 : decode cX11_nameAt 31 = .ok (.iload_n 2, 1) := by decide +kernel
theorem dX11_nameAt_32 : decode cX11_nameAt 32 = .ok (.aaload, 1) := by decide +kernel
theorem dX11_nameAt_33 : decode cX11_nameAt 33 = .ok (.getfield 185, 3) := by decide +kernel
theorem dX11_nameAt_36 : decode cX11_nameAt 36 = .ok (.astore 5, 2) := by decide +kernel
theorem dX11_nameAt_38 : decode cX11_nameAt 38 = .ok (.iload_n 3, 1) := by decide +kernel
theorem dX11_nameAt_39 : decode cX11_nameAt 39 = .ok (.ifCond .lt 10, 3) := by decide +kernel
theorem dX11_nameAt_49 : decode cX11_nameAt 49 = .ok (.iconst (-1), 1) := by decide +kernel
theorem dX11_nameAt_50 : decode cX11_nameAt 50 = .ok (.goto 7, 3) := by decide +kernel
theorem dX11_nameAt_57 : decode cX11_nameAt 57 = .ok (.ireturn, 1) := by decide +kernel
theorem dX11_nameAt_42 : decode cX11_nameAt 42 = .ok (.iload_n 3, 1) := by decide +kernel
theorem dX11_nameAt_43 : decode cX11_nameAt 43 = .ok (.aload 5, 2) := by decide +kernel
theorem dX11_nameAt_45 : decode cX11_nameAt 45 = .ok (.arraylength, 1) := by decide +kernel
theorem dX11_nameAt_46 : decode cX11_nameAt 46 = .ok (.if_icmp .lt 7, 3) := by decide +kernel
theorem dX11_nameAt_53 : decode cX11_nameAt 53 = .ok (.aload 5, 2) := by decide +kernel
theorem dX11_nameAt_55 : decode cX11_nameAt 55 = .ok (.iload_n 3, 1) := by decide +kernel
theorem dX11_nameAt_56 : decode cX11_nameAt 56 = .ok (.baload, 1) := by decide +kernel
theorem dX11_proof_0 : decode cX11_proof 0 = .ok (.aload_n 0, 1) := by decide +kernel
theorem dX11_proof_1 : decode cX11_proof 1 = .ok (.getfield 12, 3) := by decide +kernel
theorem dX11_proof_4 : decode cX11_proof 4 = .ok (.iload_n 1, 1) := by decide +kernel
theorem dX11_proof_5 : decode cX11_proof 5 = .ok (.invokevirtual 114, 3) := by decide +kernel
theorem dX11_proof_8 : decode cX11_proof 8 = .ok (.astore 5, 2) := by decide +kernel
theorem dX11_proof_10 : decode cX11_proof 10 = .ok (.aload 5, 2) := by decide +kernel
theorem dX11_proof_12 : decode cX11_proof 12 = .ok (.ifnull 12, 3) := by decide +kernel
theorem dX11_proof_24 : decode cX11_proof 24 = .ok (.iconst (-1), 1) := by decide +kernel
theorem dX11_proof_25 : decode cX11_proof 25 = .ok (.ireturn, 1) := by decide +kernel
theorem dX11_proof_15 : decode cX11_proof 15 = .ok (.aload 5, 2) := by decide +kernel
theorem dX11_proof_17 : decode cX11_proof 17 = .ok (.iload_n 2, 1) := by decide +kernel
theorem dX11_proof_18 : decode cX11_proof 18 = .ok (.invokevirtual 161, 3) := by decide +kernel
theorem dX11_proof_21 : decode cX11_proof 21 = .ok (.ifCond .ne 5, 3) := by decide +kernel
theorem dX11_proof_26 : decode cX11_proof 26 = .ok (.aload 5, 2) := by decide +kernel
theorem dX11_proof_28 : decode cX11_proof 28 = .ok (.iload_n 2, 1) := by decide +kernel
theorem dX11_proof_29 : decode cX11_proof 29 = .ok (.iload_n 3, 1) := by decide +kernel
theorem dX11_proof_30 : decode cX11_proof 30 = .ok (.invokevirtual 283, 3) := by decide +kernel
theorem mw_1208 : Cond.methodLink RX11 283 yX5_proofRow ∈ wsL_law := lrk_51 _ (List.mem_of_getElem? (i := 8) rfl)
theorem gV_X11_283 : GoodIn wsL_law (wsV RX11 283 RX5 yX5_proofRow (wl yX5_proofRow cX5_proofRow 7 (some .int))) := g_V mw_1208 mw_1168 mw_1169 mw_377 mw_1170
theorem dX11_proof_33 : decode cX11_proof 33 = .ok (.istore 6, 2) := by decide +kernel
theorem dX11_proof_35 : decode cX11_proof 35 = .ok (.iload 6, 2) := by decide +kernel
theorem dX11_proof_37 : decode cX11_proof 37 = .ok (.iconst (-1), 1) := by decide +kernel
theorem dX11_proof_38 : decode cX11_proof 38 = .ok (.if_icmp .eq 14, 3) := by decide +kernel
theorem dX11_proof_52 : decode cX11_proof 52 = .ok (.iconst (-1), 1) := by decide +kernel
theorem dX11_proof_53 : decode cX11_proof 53 = .ok (.ireturn, 1) := by decide +kernel
theorem dX11_proof_41 : decode cX11_proof 41 = .ok (.iload 4, 2) := by decide +kernel
theorem dX11_proof_43 : decode cX11_proof 43 = .ok (.ifCond .lt 9, 3) := by decide +kernel
theorem dX11_proof_46 : decode cX11_proof 46 = .ok (.iload 4, 2) := by decide +kernel
theorem dX11_proof_48 : decode cX11_proof 48 = .ok (.iconst 1, 1) := by decide +kernel
theorem dX11_proof_49 : decode cX11_proof 49 = .ok (.if_icmp .le 5, 3) := by decide +kernel
theorem dX11_proof_54 : decode cX11_proof 54 = .ok (.iload 4, 2) := by decide +kernel
theorem dX11_proof_56 : decode cX11_proof 56 = .ok (.ifCond .ne 8, 3) := by decide +kernel
theorem dX11_proof_64 : decode cX11_proof 64 = .ok (.aload 5, 2) := by decide +kernel
theorem dX11_proof_66 : decode cX11_proof 66 = .ok (.iload_n 2, 1) := by decide +kernel
theorem dX11_proof_67 : decode cX11_proof 67 = .ok (.iload 6, 2) := by decide +kernel
theorem dX11_proof_69 : decode cX11_proof 69 = .ok (.iconst 1, 1) := by decide +kernel
theorem dX11_proof_70 : decode cX11_proof 70 = .ok (.iadd, 1) := by decide +kernel
theorem dX11_proof_71 : decode cX11_proof 71 = .ok (.invokevirtual 274, 3) := by decide +kernel
theorem dX11_proof_74 : decode cX11_proof 74 = .ok (.ireturn, 1) := by decide +kernel
theorem dX11_proof_59 : decode cX11_proof 59 = .ok (.iload 6, 2) := by decide +kernel
theorem dX11_proof_61 : decode cX11_proof 61 = .ok (.goto 13, 3) := by decide +kernel
theorem dX11_against_0 : decode cX11_against 0 = .ok (.aload_n 0, 1) := by decide +kernel
theorem dX11_against_1 : decode cX11_against 1 = .ok (.getfield 12, 3) := by decide +kernel
theorem dX11_against_4 : decode cX11_against 4 = .ok (.iload_n 1, 1) := by decide +kernel
theorem dX11_against_5 : decode cX11_against 5 = .ok (.invokevirtual 114, 3) := by decide +kernel
theorem dX11_against_8 : decode cX11_against 8 = .ok (.astore 4, 2) := by decide +kernel
theorem dX11_against_10 : decode cX11_against 10 = .ok (.aload 4, 2) := by decide +kernel
theorem dX11_against_12 : decode cX11_against 12 = .ok (.ifnull 21, 3) := by decide +kernel
theorem dX11_against_33 : decode cX11_against 33 = .ok (.iconst (-1), 1) := by decide +kernel
theorem dX11_against_34 : decode cX11_against 34 = .ok (.ireturn, 1) := by decide +kernel
theorem dX11_against_15 : decode cX11_against 15 = .ok (.aload 4, 2) := by decide +kernel
theorem dX11_against_17 : decode cX11_against 17 = .ok (.iload_n 2, 1) := by decide +kernel
theorem dX11_against_18 : decode cX11_against 18 = .ok (.invokevirtual 161, 3) := by decide +kernel
theorem dX11_against_21 : decode cX11_against 21 = .ok (.ifCond .eq 12, 3) := by decide +kernel
theorem dX11_against_24 : decode cX11_against 24 = .ok (.iload_n 3, 1) := by decide +kernel
theorem dX11_against_25 : decode cX11_against 25 = .ok (.ifCond .lt 8, 3) := by decide +kernel
theorem dX11_against_28 : decode cX11_against 28 = .ok (.iload_n 3, 1) := by decide +kernel
theorem dX11_against_29 : decode cX11_against 29 = .ok (.iconst 5, 1) := by decide +kernel
theorem dX11_against_30 : decode cX11_against 30 = .ok (.if_icmp .le 5, 3) := by decide +kernel
theorem dX11_against_35 : decode cX11_against 35 = .ok (.aload 4, 2) := by decide +kernel
theorem dX11_against_37 : decode cX11_against 37 = .ok (.iload_n 2, 1) := by decide +kernel
theorem dX11_against_38 : decode cX11_against 38 = .ok (.iload_n 3, 1) := by decide +kernel
theorem dX11_against_39 : decode cX11_against 39 = .ok (.invokevirtual 286, 3) := by decide +kernel
theorem dX11_against_42 : decode cX11_against 42 = .ok (.ireturn, 1) := by decide +kernel
theorem dX11_cell_0 : decode cX11_cell 0 = .ok (.aload_n 0, 1) := by decide +kernel
theorem dX11_cell_1 : decode cX11_cell 1 = .ok (.getfield 12, 3) := by decide +kernel
theorem dX11_cell_4 : decode cX11_cell 4 = .ok (.iload_n 1, 1) := by decide +kernel
theorem dX11_cell_5 : decode cX11_cell 5 = .ok (.invokevirtual 114, 3) := by decide +kernel
theorem dX11_cell_8 : decode cX11_cell 8 = .ok (.astore 5, 2) := by decide +kernel
theorem dX11_cell_10 : decode cX11_cell 10 = .ok (.aload 5, 2) := by decide +kernel
theorem dX11_cell_12 : decode cX11_cell 12 = .ok (.ifnull 13, 3) := by decide +kernel
theorem dX11_cell_25 : decode cX11_cell 25 = .ok (.iconst (-1), 1) := by decide +kernel
theorem dX11_cell_26 : decode cX11_cell 26 = .ok (.ireturn, 1) := by decide +kernel
theorem dX11_cell_15 : decode cX11_cell 15 = .ok (.aload 5, 2) := by decide +kernel
theorem dX11_cell_17 : decode cX11_cell 17 = .ok (.iload_n 2, 1) := by decide +kernel
theorem dX11_cell_18 : decode cX11_cell 18 = .ok (.iload_n 3, 1) := by decide +kernel
theorem dX11_cell_19 : decode cX11_cell 19 = .ok (.invokevirtual 118, 3) := by decide +kernel
theorem mw_576 : Cond.methodLink RX11 118 yX5_hasCell ∈ wsL_law := lrk_25 _ (List.mem_of_getElem? (i := 0) rfl)
theorem gV_X11_118 : GoodIn wsL_law (wsV RX11 118 RX5 yX5_hasCell (wl yX5_hasCell cX5_hasCell 3 (some .boolean))) := g_V mw_576 mw_577 mw_578 mw_377 mw_579
theorem dX11_cell_22 : decode cX11_cell 22 = .ok (.ifCond .ne 5, 3) := by decide +kernel
theorem dX11_cell_27 : decode cX11_cell 27 = .ok (.aload 5, 2) := by decide +kernel
theorem dX11_cell_29 : decode cX11_cell 29 = .ok (.iload_n 2, 1) := by decide +kernel
theorem dX11_cell_30 : decode cX11_cell 30 = .ok (.iload_n 3, 1) := by decide +kernel
theorem dX11_cell_31 : decode cX11_cell 31 = .ok (.invokevirtual 289, 3) := by decide +kernel
theorem mw_1226 : Cond.methodLink RX11 289 yX5_cellOf ∈ wsL_law := lrk_52 _ (List.mem_of_getElem? (i := 2) rfl)
theorem gV_X11_289 : GoodIn wsL_law (wsV RX11 289 RX5 yX5_cellOf (wl yX5_cellOf cX5_cellOf 3 (some (.object "TypedTables$Cell")))) := g_V mw_1226 mw_748 mw_749 mw_377 mw_750
theorem dX11_cell_34 : decode cX11_cell 34 = .ok (.astore 6, 2) := by decide +kernel
theorem dX11_cell_36 : decode cX11_cell 36 = .ok (.iload 4, 2) := by decide +kernel
theorem dX11_cell_38 : decode cX11_cell 38 = .ok (.tableswitch 64 0 2 #[26, 32, 39], 26) := by decide +kernel
theorem dX11_cell_102 : decode cX11_cell 102 = .ok (.iconst (-1), 1) := by decide +kernel
theorem dX11_cell_103 : decode cX11_cell 103 = .ok (.ireturn, 1) := by decide +kernel
theorem dX11_cell_64 : decode cX11_cell 64 = .ok (.aload 6, 2) := by decide +kernel
theorem dX11_cell_66 : decode cX11_cell 66 = .ok (.getfield 213, 3) := by decide +kernel
theorem mw_983 : Cond.fieldLink RX11 213 "TypedTables$Cell" "kind" "I" ∈ wsL_law := lrk_41 _ (List.mem_of_getElem? (i := 23) rfl)
theorem dX11_cell_69 : decode cX11_cell 69 = .ok (.ireturn, 1) := by decide +kernel
theorem dX11_cell_70 : decode cX11_cell 70 = .ok (.aload 6, 2) := by decide +kernel
theorem dX11_cell_72 : decode cX11_cell 72 = .ok (.getfield 293, 3) := by decide +kernel
theorem mw_1225 : Cond.fieldLink RX11 293 "TypedTables$Cell" "bytes" "[B" ∈ wsL_law := lrk_52 _ (List.mem_of_getElem? (i := 1) rfl)
theorem dX11_cell_75 : decode cX11_cell 75 = .ok (.arraylength, 1) := by decide +kernel
theorem dX11_cell_76 : decode cX11_cell 76 = .ok (.ireturn, 1) := by decide +kernel
theorem dX11_cell_77 : decode cX11_cell 77 = .ok (.aload_n 0, 1) := by decide +kernel
theorem dX11_cell_78 : decode cX11_cell 78 = .ok (.getfield 48, 3) := by decide +kernel
theorem dX11_cell_81 : decode cX11_cell 81 = .ok (.aload 6, 2) := by decide +kernel
theorem dX11_cell_83 : decode cX11_cell 83 = .ok (.iload_n 3, 1) := by decide +kernel
theorem dX11_cell_84 : decode cX11_cell 84 = .ok (.aload 5, 2) := by decide +kernel
theorem dX11_cell_86 : decode cX11_cell 86 = .ok (.getfield 121, 3) := by decide +kernel
theorem dX11_cell_89 : decode cX11_cell 89 = .ok (.arraylength, 1) := by decide +kernel
theorem dX11_cell_90 : decode cX11_cell 90 = .ok (.invokevirtual 296, 3) := by decide +kernel
theorem mw_1227 : Cond.methodLink RX11 296 yX10_needsQuotes ∈ wsL_law := lrk_52 _ (List.mem_of_getElem? (i := 3) rfl)
theorem gV_X11_296 : GoodIn wsL_law (wsV RX11 296 RX10 yX10_needsQuotes (wl yX10_needsQuotes cX10_needsQuotes 6 (some .boolean))) := g_V mw_1227 mw_1228 mw_1229 mw_31 mw_1230
theorem dX11_cell_93 : decode cX11_cell 93 = .ok (.ifCond .eq 7, 3) := by decide +kernel
theorem dX11_cell_96 : decode cX11_cell 96 = .ok (.iconst 1, 1) := by decide +kernel
theorem dX11_cell_97 : decode cX11_cell 97 = .ok (.goto 4, 3) := by decide +kernel
theorem dX11_cell_101 : decode cX11_cell 101 = .ok (.ireturn, 1) := by decide +kernel
theorem dX11_cell_100 : decode cX11_cell 100 = .ok (.iconst 0, 1) := by decide +kernel
theorem dX11_cellAt_0 : decode cX11_cellAt 0 = .ok (.aload_n 0, 1) := by decide +kernel
theorem dX11_cellAt_1 : decode cX11_cellAt 1 = .ok (.getfield 12, 3) := by decide +kernel
theorem dX11_cellAt_4 : decode cX11_cellAt 4 = .ok (.iload_n 1, 1) := by decide +kernel
theorem dX11_cellAt_5 : decode cX11_cellAt 5 = .ok (.invokevirtual 114, 3) := by decide +kernel
theorem dX11_cellAt_8 : decode cX11_cellAt 8 = .ok (.astore 5, 2) := by decide +kernel
theorem dX11_cellAt_10 : decode cX11_cellAt 10 = .ok (.aload 5, 2) := by decide +kernel
theorem dX11_cellAt_12 : decode cX11_cellAt 12 = .ok (.ifnull 13, 3) := by decide +kernel
theorem dX11_cellAt_25 : decode cX11_cellAt 25 = .ok (.iconst (-1), 1) := by decide +kernel
theorem dX11_cellAt_26 : decode cX11_cellAt 26 = .ok (.ireturn, 1) := by decide +kernel
theorem dX11_cellAt_15 : decode cX11_cellAt 15 = .ok (.aload 5, 2) := by decide +kernel
theorem dX11_cellAt_17 : decode cX11_cellAt 17 = .ok (.iload_n 2, 1) := by decide +kernel
theorem dX11_cellAt_18 : decode cX11_cellAt 18 = .ok (.iload_n 3, 1) := by decide +kernel
theorem dX11_cellAt_19 : decode cX11_cellAt 19 = .ok (.invokevirtual 118, 3) := by decide +kernel
theorem dX11_cellAt_22 : decode cX11_cellAt 22 = .ok (.ifCond .ne 5, 3) := by decide +kernel
theorem dX11_cellAt_27 : decode cX11_cellAt 27 = .ok (.aload 5, 2) := by decide +kernel
theorem dX11_cellAt_29 : decode cX11_cellAt 29 = .ok (.iload_n 2, 1) := by decide +kernel
theorem dX11_cellAt_30 : decode cX11_cellAt 30 = .ok (.iload_n 3, 1) := by decide +kernel
theorem dX11_cellAt_31 : decode cX11_cellAt 31 = .ok (.invokevirtual 289, 3) := by decide +kernel
theorem dX11_cellAt_34 : decode cX11_cellAt 34 = .ok (.getfield 293, 3) := by decide +kernel
theorem dX11_cellAt_37 : decode cX11_cellAt 37 = .ok (.astore 6, 2) := by decide +kernel
theorem dX11_cellAt_39 : decode cX11_cellAt 39 = .ok (.iload 4, 2) := by decide +kernel
theorem dX11_cellAt_41 : decode cX11_cellAt 41 = .ok (.ifCond .lt 11, 3) := by decide +kernel
theorem dX11_cellAt_52 : decode cX11_cellAt 52 = .ok (.iconst (-1), 1) := by decide +kernel
theorem dX11_cellAt_53 : decode cX11_cellAt 53 = .ok (.goto 8, 3) := by decide +kernel
theorem dX11_cellAt_61 : decode cX11_cellAt 61 = .ok (.ireturn, 1) := by decide +kernel
theorem dX11_cellAt_44 : decode cX11_cellAt 44 = .ok (.iload 4, 2) := by decide +kernel
theorem dX11_cellAt_46 : decode cX11_cellAt 46 = .ok (.aload 6, 2) := by decide +kernel
theorem dX11_cellAt_48 : decode cX11_cellAt 48 = .ok (.arraylength, 1) := by decide +kernel
theorem dX11_cellAt_49 : decode cX11_cellAt 49 = .ok (.if_icmp .lt 7, 3) := by decide +kernel
theorem dX11_cellAt_56 : decode cX11_cellAt 56 = .ok (.aload 6, 2) := by decide +kernel
theorem dX11_cellAt_58 : decode cX11_cellAt 58 = .ok (.iload 4, 2) := by decide +kernel
theorem dX11_cellAt_60 : decode cX11_cellAt 60 = .ok (.baload, 1) := by decide +kernel
theorem dX11_value_0 : decode cX11_value 0 = .ok (.aload_n 0, 1) := by decide +kernel
theorem dX11_value_1 : decode cX11_value 1 = .ok (.getfield 12, 3) := by decide +kernel
theorem dX11_value_4 : decode cX11_value 4 = .ok (.iload_n 1, 1) := by decide +kernel
theorem dX11_value_5 : decode cX11_value 5 = .ok (.invokevirtual 114, 3) := by decide +kernel
theorem dX11_value_8 : decode cX11_value 8 = .ok (.astore 4, 2) := by decide +kernel
theorem dX11_value_10 : decode cX11_value 10 = .ok (.aload 4, 2) := by decide +kernel
theorem dX11_value_12 : decode cX11_value 12 = .ok (.ifnull 13, 3) := by decide +kernel
theorem dX11_value_25 : decode cX11_value 25 = .ok (.ldc2_w 300, 3) := by decide +kernel
theorem mw_1252 : Cond.constantLong RX11 300 (-100000000000000) ∈ wsL_law := lrk_53 _ (List.mem_of_getElem? (i := 4) rfl)
theorem dX11_value_28 : decode cX11_value 28 = .ok (.lreturn, 1) := by decide +kernel
theorem dX11_value_15 : decode cX11_value 15 = .ok (.aload 4, 2) := by decide +kernel
theorem dX11_value_17 : decode cX11_value 17 = .ok (.iload_n 2, 1) := by decide +kernel
theorem dX11_value_18 : decode cX11_value 18 = .ok (.iload_n 3, 1) := by decide +kernel
theorem dX11_value_19 : decode cX11_value 19 = .ok (.invokevirtual 118, 3) := by decide +kernel
theorem dX11_value_22 : decode cX11_value 22 = .ok (.ifCond .ne 7, 3) := by decide +kernel
theorem dX11_value_29 : decode cX11_value 29 = .ok (.aload 4, 2) := by decide +kernel
theorem dX11_value_31 : decode cX11_value 31 = .ok (.iload_n 2, 1) := by decide +kernel
theorem dX11_value_32 : decode cX11_value 32 = .ok (.iload_n 3, 1) := by decide +kernel
theorem dX11_value_33 : decode cX11_value 33 = .ok (.invokevirtual 289, 3) := by decide +kernel
theorem dX11_value_36 : decode cX11_value 36 = .ok (.astore 5, 2) := by decide +kernel
theorem dX11_value_38 : decode cX11_value 38 = .ok (.aload 5, 2) := by decide +kernel
theorem dX11_value_40 : decode cX11_value 40 = .ok (.invokevirtual 302, 3) := by decide +kernel
theorem mw_1253 : Cond.methodLink RX11 302 yX0_isEmpty ∈ wsL_law := lrk_53 _ (List.mem_of_getElem? (i := 5) rfl)
theorem gV_X11_302 : GoodIn wsL_law (wsV RX11 302 RX0 yX0_isEmpty (wl yX0_isEmpty cX0_isEmpty 1 (some .boolean))) := g_V mw_1253 mw_870 mw_871 mw_68 mw_872
theorem dX11_value_43 : decode cX11_value 43 = .ok (.ifCond .eq 9, 3) := by decide +kernel
theorem dX11_value_46 : decode cX11_value 46 = .ok (.ldc2_w 300, 3) := by decide +kernel
theorem dX11_value_49 : decode cX11_value 49 = .ok (.goto 14, 3) := by decide +kernel
theorem dX11_value_63 : decode cX11_value 63 = .ok (.lreturn, 1) := by decide +kernel
theorem dX11_value_52 : decode cX11_value 52 = .ok (.aload 5, 2) := by decide +kernel
theorem dX11_value_54 : decode cX11_value 54 = .ok (.aload 4, 2) := by decide +kernel
theorem dX11_value_56 : decode cX11_value 56 = .ok (.iload_n 3, 1) := by decide +kernel
theorem dX11_value_57 : decode cX11_value 57 = .ok (.invokevirtual 270, 3) := by decide +kernel
theorem dX11_value_60 : decode cX11_value 60 = .ok (.invokevirtual 306, 3) := by decide +kernel
theorem mw_1254 : Cond.methodLink RX11 306 yX0_numberAs ∈ wsL_law := lrk_53 _ (List.mem_of_getElem? (i := 6) rfl)
theorem gV_X11_306 : GoodIn wsL_law (wsV RX11 306 RX0 yX0_numberAs (wl yX0_numberAs cX0_numberAs 2 (some .long))) := g_V mw_1254 mw_888 mw_889 mw_68 mw_890
theorem dX11_compare_0 : decode cX11_compare 0 = .ok (.aload_n 0, 1) := by decide +kernel
theorem dX11_compare_1 : decode cX11_compare 1 = .ok (.getfield 12, 3) := by decide +kernel
theorem dX11_compare_4 : decode cX11_compare 4 = .ok (.iload_n 1, 1) := by decide +kernel
theorem dX11_compare_5 : decode cX11_compare 5 = .ok (.invokevirtual 114, 3) := by decide +kernel
theorem dX11_compare_8 : decode cX11_compare 8 = .ok (.astore 5, 2) := by decide +kernel
theorem dX11_compare_10 : decode cX11_compare 10 = .ok (.aload 5, 2) := by decide +kernel
theorem dX11_compare_12 : decode cX11_compare 12 = .ok (.ifnull 23, 3) := by decide +kernel
theorem dX11_compare_35 : decode cX11_compare 35 = .ok (.iconst (-1), 1) := by decide +kernel
theorem dX11_compare_36 : decode cX11_compare 36 = .ok (.ireturn, 1) := by decide +kernel
theorem dX11_compare_15 : decode cX11_compare 15 = .ok (.aload 5, 2) := by decide +kernel
theorem dX11_compare_17 : decode cX11_compare 17 = .ok (.iload_n 3, 1) := by decide +kernel
theorem dX11_compare_18 : decode cX11_compare 18 = .ok (.iload_n 2, 1) := by decide +kernel
theorem dX11_compare_19 : decode cX11_compare 19 = .ok (.invokevirtual 118, 3) := by decide +kernel
theorem dX11_compare_22 : decode cX11_compare 22 = .ok (.ifCond .eq 13, 3) := by decide +kernel
theorem dX11_compare_25 : decode cX11_compare 25 = .ok (.aload 5, 2) := by decide +kernel
theorem dX11_compare_27 : decode cX11_compare 27 = .ok (.iload 4, 2) := by decide +kernel
theorem dX11_compare_29 : decode cX11_compare 29 = .ok (.invokevirtual 151, 3) := by decide +kernel
theorem mw_700 : Cond.methodLink RX11 151 yX5_hasRow ∈ wsL_law := lrk_30 _ (List.mem_of_getElem? (i := 4) rfl)
theorem gV_X11_151 : GoodIn wsL_law (wsV RX11 151 RX5 yX5_hasRow (wl yX5_hasRow cX5_hasRow 2 (some .boolean))) := g_V mw_700 mw_581 mw_582 mw_377 mw_583
theorem dX11_compare_32 : decode cX11_compare 32 = .ok (.ifCond .ne 5, 3) := by decide +kernel
theorem dX11_compare_37 : decode cX11_compare 37 = .ok (.aload 5, 2) := by decide +kernel
theorem dX11_compare_39 : decode cX11_compare 39 = .ok (.iload_n 3, 1) := by decide +kernel
theorem dX11_compare_40 : decode cX11_compare 40 = .ok (.iload_n 2, 1) := by decide +kernel
theorem dX11_compare_41 : decode cX11_compare 41 = .ok (.invokevirtual 289, 3) := by decide +kernel
theorem dX11_compare_44 : decode cX11_compare 44 = .ok (.aload 5, 2) := by decide +kernel
theorem dX11_compare_46 : decode cX11_compare 46 = .ok (.iload 4, 2) := by decide +kernel
theorem dX11_compare_48 : decode cX11_compare 48 = .ok (.iload_n 2, 1) := by decide +kernel
theorem dX11_compare_49 : decode cX11_compare 49 = .ok (.invokevirtual 289, 3) := by decide +kernel
theorem dX11_compare_52 : decode cX11_compare 52 = .ok (.aload 5, 2) := by decide +kernel
theorem dX11_compare_54 : decode cX11_compare 54 = .ok (.iload_n 2, 1) := by decide +kernel
theorem dX11_compare_55 : decode cX11_compare 55 = .ok (.invokevirtual 270, 3) := by decide +kernel
theorem dX11_compare_58 : decode cX11_compare 58 = .ok (.invokevirtual 310, 3) := by decide +kernel
theorem mw_1264 : Cond.methodLink RX11 310 yX0_comparedTo ∈ wsL_law := lrk_53 _ (List.mem_of_getElem? (i := 16) rfl)
theorem gV_X11_310 : GoodIn wsL_law (wsV RX11 310 RX0 yX0_comparedTo (wl yX0_comparedTo cX0_comparedTo 3 (some .int))) := g_V mw_1264 mw_874 mw_875 mw_68 mw_876
theorem dX11_compare_61 : decode cX11_compare 61 = .ok (.istore 6, 2) := by decide +kernel
theorem dX11_compare_63 : decode cX11_compare 63 = .ok (.iload 6, 2) := by decide +kernel
theorem dX11_compare_65 : decode cX11_compare 65 = .ok (.ifCond .ne 7, 3) := by decide +kernel
theorem dX11_compare_72 : decode cX11_compare 72 = .ok (.iload 6, 2) := by decide +kernel
theorem dX11_compare_74 : decode cX11_compare 74 = .ok (.ifCond .le 7, 3) := by decide +kernel
theorem dX11_compare_81 : decode cX11_compare 81 = .ok (.iconst 2, 1) := by decide +kernel
theorem dX11_compare_82 : decode cX11_compare 82 = .ok (.ireturn, 1) := by decide +kernel
theorem dX11_compare_77 : decode cX11_compare 77 = .ok (.iconst 1, 1) := by decide +kernel
theorem dX11_compare_78 : decode cX11_compare 78 = .ok (.goto 4, 3) := by decide +kernel
theorem dX11_compare_68 : decode cX11_compare 68 = .ok (.iconst 0, 1) := by decide +kernel
theorem dX11_compare_69 : decode cX11_compare 69 = .ok (.goto 13, 3) := by decide +kernel
theorem dX11_differ_0 : decode cX11_differ 0 = .ok (.aload_n 0, 1) := by decide +kernel
theorem dX11_differ_1 : decode cX11_differ 1 = .ok (.getfield 12, 3) := by decide +kernel
theorem dX11_differ_4 : decode cX11_differ 4 = .ok (.iload_n 1, 1) := by decide +kernel
theorem dX11_differ_5 : decode cX11_differ 5 = .ok (.invokevirtual 114, 3) := by decide +kernel
theorem dX11_differ_8 : decode cX11_differ 8 = .ok (.astore_n 3, 1) := by decide +kernel
theorem dX11_differ_9 : decode cX11_differ 9 = .ok (.aload_n 0, 1) := by decide +kernel
theorem dX11_differ_10 : decode cX11_differ 10 = .ok (.getfield 12, 3) := by decide +kernel
theorem dX11_differ_13 : decode cX11_differ 13 = .ok (.iload_n 2, 1) := by decide +kernel
theorem dX11_differ_14 : decode cX11_differ 14 = .ok (.invokevirtual 114, 3) := by decide +kernel
theorem dX11_differ_17 : decode cX11_differ 17 = .ok (.astore 4, 2) := by decide +kernel
theorem dX11_differ_19 : decode cX11_differ 19 = .ok (.aload_n 3, 1) := by decide +kernel
theorem dX11_differ_20 : decode cX11_differ 20 = .ok (.ifnull 8, 3) := by decide +kernel
theorem dX11_differ_28 : decode cX11_differ 28 = .ok (.iconst (-1), 1) := by decide +kernel
theorem dX11_differ_29 : decode cX11_differ 29 = .ok (.goto 9, 3) := by decide +kernel
theorem dX11_differ_38 : decode cX11_differ 38 = .ok (.ireturn, 1) := by decide +kernel
theorem dX11_differ_23 : decode cX11_differ 23 = .ok (.aload 4, 2) := by decide +kernel
theorem dX11_differ_25 : decode cX11_differ 25 = .ok (.ifnonnull 7, 3) := by decide +kernel
theorem dX11_differ_32 : decode cX11_differ 32 = .ok (.aload_n 3, 1) := by decide +kernel
theorem dX11_differ_33 : decode cX11_differ 33 = .ok (.aload 4, 2) := by decide +kernel
theorem dX11_differ_35 : decode cX11_differ 35 = .ok (.invokevirtual 346, 3) := by decide +kernel
theorem mw_1384 : Cond.code yX5_countUnlike cX5_countUnlike 7 (some .int) ∈ wsL_law := lrk_58 _ (List.mem_of_getElem? (i := 16) rfl)
theorem mw_1381 : Cond.methodLink RX11 346 yX5_countUnlike ∈ wsL_law := lrk_58 _ (List.mem_of_getElem? (i := 13) rfl)
theorem mw_1382 : Cond.instanceMethod yX5_countUnlike ∈ wsL_law := lrk_58 _ (List.mem_of_getElem? (i := 14) rfl)
theorem mw_1383 : Cond.selects RX5 yX5_countUnlike yX5_countUnlike ∈ wsL_law := lrk_58 _ (List.mem_of_getElem? (i := 15) rfl)
theorem gV_X11_346 : GoodIn wsL_law (wsV RX11 346 RX5 yX5_countUnlike (wl yX5_countUnlike cX5_countUnlike 7 (some .int))) := g_V mw_1381 mw_1382 mw_1383 mw_377 mw_1384
theorem hdV_X5_countUnlike : yX5_countUnlike.cls = RX5 ∧ okD yX5_countUnlike 1 := by decide +kernel
theorem dX11_look_0 : decode cX11_look 0 = .ok (.iload_n 1, 1) := by decide +kernel
theorem dX11_look_1 : decode cX11_look 1 = .ok (.ifCond .lt 19, 3) := by decide +kernel
theorem dX11_look_20 : decode cX11_look 20 = .ok (.iload_n 1, 1) := by decide +kernel
theorem dX11_look_21 : decode cX11_look 21 = .ok (.tableswitch 75 6 10 #[35, 43, 51, 59, 67], 35) := by decide +kernel
theorem dX11_look_96 : decode cX11_look 96 = .ok (.iconst (-1), 1) := by decide +kernel
theorem dX11_look_97 : decode cX11_look 97 = .ok (.ireturn, 1) := by decide +kernel
theorem dX11_look_56 : decode cX11_look 56 = .ok (.aload_n 0, 1) := by decide +kernel
theorem dX11_look_57 : decode cX11_look 57 = .ok (.getfield 12, 3) := by decide +kernel
theorem dX11_look_60 : decode cX11_look 60 = .ok (.invokevirtual 360, 3) := by decide +kernel
theorem mw_1492 : Cond.code yX6_tablesThere cX6_tablesThere 3 (some .int) ∈ wsL_law := lrk_63 _ (List.mem_of_getElem? (i := 4) rfl)
theorem mw_1489 : Cond.methodLink RX11 360 yX6_tablesThere ∈ wsL_law := lrk_63 _ (List.mem_of_getElem? (i := 1) rfl)
theorem mw_1490 : Cond.instanceMethod yX6_tablesThere ∈ wsL_law := lrk_63 _ (List.mem_of_getElem? (i := 2) rfl)
theorem mw_1491 : Cond.selects RX6 yX6_tablesThere yX6_tablesThere ∈ wsL_law := lrk_63 _ (List.mem_of_getElem? (i := 3) rfl)
theorem gV_X11_360 : GoodIn wsL_law (wsV RX11 360 RX6 yX6_tablesThere (wl yX6_tablesThere cX6_tablesThere 3 (some .int))) := g_V mw_1489 mw_1490 mw_1491 mw_14 mw_1492
theorem hdV_X6_tablesThere : yX6_tablesThere.cls = RX6 ∧ okD yX6_tablesThere 0 := by decide +kernel
theorem dX11_look_63 : decode cX11_look 63 = .ok (.ireturn, 1) := by decide +kernel
theorem dX11_look_64 : decode cX11_look 64 = .ok (.aload_n 0, 1) := by decide +kernel
theorem dX11_look_65 : decode cX11_look 65 = .ok (.getfield 12, 3) := by decide +kernel
theorem dX11_look_68 : decode cX11_look 68 = .ok (.getfield 199, 3) := by decide +kernel
theorem mw_969 : Cond.fieldLink RX11 199 "TypedTables$State" "acts" "I" ∈ wsL_law := lrk_41 _ (List.mem_of_getElem? (i := 9) rfl)
theorem dX11_look_71 : decode cX11_look 71 = .ok (.ireturn, 1) := by decide +kernel
theorem dX11_look_72 : decode cX11_look 72 = .ok (.aload_n 0, 1) := by decide +kernel
theorem dX11_look_73 : decode cX11_look 73 = .ok (.getfield 19, 3) := by decide +kernel
theorem dX11_look_76 : decode cX11_look 76 = .ok (.getfield 71, 3) := by decide +kernel
theorem mw_223 : Cond.fieldLink RX11 71 "TypedTables$Tape" "length" "I" ∈ wsL_law := lrk_10 _ (List.mem_of_getElem? (i := 7) rfl)
theorem dX11_look_79 : decode cX11_look 79 = .ok (.ireturn, 1) := by decide +kernel
theorem dX11_look_80 : decode cX11_look 80 = .ok (.aload_n 0, 1) := by decide +kernel
theorem dX11_look_81 : decode cX11_look 81 = .ok (.getfield 12, 3) := by decide +kernel
theorem dX11_look_84 : decode cX11_look 84 = .ok (.invokevirtual 363, 3) := by decide +kernel
theorem mw_1496 : Cond.code yX6_countCells cX6_countCells 4 (some .int) ∈ wsL_law := lrk_63 _ (List.mem_of_getElem? (i := 8) rfl)
theorem mw_1493 : Cond.methodLink RX11 363 yX6_countCells ∈ wsL_law := lrk_63 _ (List.mem_of_getElem? (i := 5) rfl)
theorem mw_1494 : Cond.instanceMethod yX6_countCells ∈ wsL_law := lrk_63 _ (List.mem_of_getElem? (i := 6) rfl)
theorem mw_1495 : Cond.selects RX6 yX6_countCells yX6_countCells ∈ wsL_law := lrk_63 _ (List.mem_of_getElem? (i := 7) rfl)
theorem gV_X11_363 : GoodIn wsL_law (wsV RX11 363 RX6 yX6_countCells (wl yX6_countCells cX6_countCells 4 (some .int))) := g_V mw_1493 mw_1494 mw_1495 mw_14 mw_1496
theorem hdV_X6_countCells : yX6_countCells.cls = RX6 ∧ okD yX6_countCells 0 := by decide +kernel
theorem dX11_look_87 : decode cX11_look 87 = .ok (.ireturn, 1) := by decide +kernel
theorem dX11_look_88 : decode cX11_look 88 = .ok (.aload_n 0, 1) := by decide +kernel
theorem dX11_look_89 : decode cX11_look 89 = .ok (.getfield 26, 3) := by decide +kernel
theorem dX11_look_92 : decode cX11_look 92 = .ok (.getfield 366, 3) := by decide +kernel
theorem mw_1488 : Cond.fieldLink RX11 366 "TypedTables$Fault" "readings" "I" ∈ wsL_law := lrk_63 _ (List.mem_of_getElem? (i := 0) rfl)
theorem dX11_look_95 : decode cX11_look 95 = .ok (.ireturn, 1) := by decide +kernel
theorem dX11_look_4 : decode cX11_look 4 = .ok (.iload_n 1, 1) := by decide +kernel
theorem dX11_look_5 : decode cX11_look 5 = .ok (.bipush 6, 2) := by decide +kernel
theorem dX11_look_7 : decode cX11_look 7 = .ok (.if_icmp .ge 13, 3) := by decide +kernel
theorem dX11_look_10 : decode cX11_look 10 = .ok (.aload_n 0, 1) := by decide +kernel
theorem dX11_look_11 : decode cX11_look 11 = .ok (.getfield 12, 3) := by decide +kernel
theorem dX11_look_14 : decode cX11_look 14 = .ok (.getfield 32, 3) := by decide +kernel
theorem dX11_look_17 : decode cX11_look 17 = .ok (.iload_n 1, 1) := by decide +kernel
theorem dX11_look_18 : decode cX11_look 18 = .ok (.iaload, 1) := by decide +kernel
theorem dX11_look_19 : decode cX11_look 19 = .ok (.ireturn, 1) := by decide +kernel
theorem dX11_sign_0 : decode cX11_sign 0 = .ok (.iload_n 1, 1) := by decide +kernel
theorem dX11_sign_1 : decode cX11_sign 1 = .ok (.ifCond .lt 14, 3) := by decide +kernel
theorem dX11_sign_15 : decode cX11_sign 15 = .ok (.iconst (-1), 1) := by decide +kernel
theorem dX11_sign_16 : decode cX11_sign 16 = .ok (.goto 12, 3) := by decide +kernel
theorem dX11_sign_28 : decode cX11_sign 28 = .ok (.ireturn, 1) := by decide +kernel
theorem dX11_sign_4 : decode cX11_sign 4 = .ok (.iload_n 1, 1) := by decide +kernel
theorem dX11_sign_5 : decode cX11_sign 5 = .ok (.aload_n 0, 1) := by decide +kernel
theorem dX11_sign_6 : decode cX11_sign 6 = .ok (.getfield 48, 3) := by decide +kernel
theorem dX11_sign_9 : decode cX11_sign 9 = .ok (.getfield 354, 3) := by decide +kernel
theorem mw_1405 : Cond.fieldLink RX11 354 "TypedTables$Writer" "length" "I" ∈ wsL_law := lrk_59 _ (List.mem_of_getElem? (i := 13) rfl)
theorem dX11_sign_12 : decode cX11_sign 12 = .ok (.if_icmp .lt 7, 3) := by decide +kernel
theorem dX11_sign_19 : decode cX11_sign 19 = .ok (.aload_n 0, 1) := by decide +kernel
theorem dX11_sign_20 : decode cX11_sign 20 = .ok (.getfield 48, 3) := by decide +kernel
theorem dX11_sign_23 : decode cX11_sign 23 = .ok (.getfield 355, 3) := by decide +kernel
theorem mw_1465 : Cond.fieldLink RX11 355 "TypedTables$Writer" "bytes" "[B" ∈ wsL_law := lrk_62 _ (List.mem_of_getElem? (i := 1) rfl)
theorem dX11_sign_26 : decode cX11_sign 26 = .ok (.iload_n 1, 1) := by decide +kernel
theorem dX11_sign_27 : decode cX11_sign 27 = .ok (.baload, 1) := by decide +kernel
theorem dX11_fault_0 : decode cX11_fault 0 = .ok (.iload_n 1, 1) := by decide +kernel
theorem dX11_fault_1 : decode cX11_fault 1 = .ok (.tableswitch 75 0 4 #[35, 43, 51, 59, 67], 35) := by decide +kernel
theorem dX11_fault_76 : decode cX11_fault 76 = .ok (.iconst (-1), 1) := by decide +kernel
theorem dX11_fault_77 : decode cX11_fault 77 = .ok (.ireturn, 1) := by decide +kernel
theorem dX11_fault_36 : decode cX11_fault 36 = .ok (.aload_n 0, 1) := by decide +kernel
theorem dX11_fault_37 : decode cX11_fault 37 = .ok (.getfield 26, 3) := by decide +kernel
theorem dX11_fault_40 : decode cX11_fault 40 = .ok (.getfield 95, 3) := by decide +kernel
theorem mw_545 : Cond.fieldLink RX11 95 "TypedTables$Fault" "kind" "I" ∈ wsL_law := lrk_23 _ (List.mem_of_getElem? (i := 17) rfl)
theorem dX11_fault_43 : decode cX11_fault 43 = .ok (.ireturn, 1) := by decide +kernel
theorem dX11_fault_44 : decode cX11_fault 44 = .ok (.aload_n 0, 1) := by decide +kernel
theorem dX11_fault_45 : decode cX11_fault 45 = .ok (.getfield 26, 3) := by decide +kernel
theorem dX11_fault_48 : decode cX11_fault 48 = .ok (.getfield 98, 3) := by decide +kernel
theorem mw_546 : Cond.fieldLink RX11 98 "TypedTables$Fault" "place" "I" ∈ wsL_law := lrk_23 _ (List.mem_of_getElem? (i := 18) rfl)
theorem dX11_fault_51 : decode cX11_fault 51 = .ok (.ireturn, 1) := by decide +kernel
theorem dX11_fault_52 : decode cX11_fault 52 = .ok (.aload_n 0, 1) := by decide +kernel
theorem dX11_fault_53 : decode cX11_fault 53 = .ok (.getfield 26, 3) := by decide +kernel
theorem dX11_fault_56 : decode cX11_fault 56 = .ok (.getfield 101, 3) := by decide +kernel
theorem mw_547 : Cond.fieldLink RX11 101 "TypedTables$Fault" "line" "I" ∈ wsL_law := lrk_23 _ (List.mem_of_getElem? (i := 19) rfl)
theorem dX11_fault_59 : decode cX11_fault 59 = .ok (.ireturn, 1) := by decide +kernel
theorem dX11_fault_60 : decode cX11_fault 60 = .ok (.aload_n 0, 1) := by decide +kernel
theorem dX11_fault_61 : decode cX11_fault 61 = .ok (.getfield 26, 3) := by decide +kernel
theorem dX11_fault_64 : decode cX11_fault 64 = .ok (.getfield 104, 3) := by decide +kernel
theorem mw_548 : Cond.fieldLink RX11 104 "TypedTables$Fault" "column" "I" ∈ wsL_law := lrk_23 _ (List.mem_of_getElem? (i := 20) rfl)
theorem dX11_fault_67 : decode cX11_fault 67 = .ok (.ireturn, 1) := by decide +kernel
theorem dX11_fault_68 : decode cX11_fault 68 = .ok (.aload_n 0, 1) := by decide +kernel
theorem dX11_fault_69 : decode cX11_fault 69 = .ok (.getfield 26, 3) := by decide +kernel
theorem dX11_fault_72 : decode cX11_fault 72 = .ok (.getfield 107, 3) := by decide +kernel
theorem mw_549 : Cond.fieldLink RX11 107 "TypedTables$Fault" "cause" "I" ∈ wsL_law := lrk_23 _ (List.mem_of_getElem? (i := 21) rfl)
theorem dX11_fault_75 : decode cX11_fault 75 = .ok (.ireturn, 1) := by decide +kernel
set_option maxHeartbeats 4000000 in
set_option maxRecDepth 100000 in
theorem c_X11_view (l : Launch) (D : va_G) (κ : Nat → ClassId) (κq : Nat → Nat) (im : va_W) (xx : Nat) (tp : Nat) (ft : Nat) (rd : Nat) (wr : Nat) (st2 : Nat) (zi : Int32) (st : Nat) (d : Nat) (sh : Nat) (vw : Nat) (ta : Nat) (sa : Nat) (n : Nat) (fs : Nat → Option Nat) (fv : Nat → Option Nat) (za : Int32) (zb : Int32) (htb : Tb κ im fs fv 3) : Er l yX11_view (wl yX11_view cX11_view 4 (some .int)) { frames := 2, cells := 0, slots := 0, locals := 41 } D κ κq [.ref xx, .int za, .int zb] ([(xx, .inr (11, [.ref st, .ref tp, .ref ft, .ref rd, .ref wr, .ref st2, .int zi])), (st, .inr (6, [.ref d, .ref sh, .ref vw, .ref ta, .ref sa, .int (nI n)])), (sh, .inl (κ 4, 3, .inr (.inr (.inr (.inr fs))))), (vw, .inl (κ 5, 3, .inr (.inr (.inr (.inr fv)))))] ++ im) (fun r : Int32 => some (.int r)) (fun r : Int32 => True) := by
  refine er_of (by decide +kernel) (Nat.le_of_ble_eq_true rfl) ?_
  intro p e s m args below meth c A ls hx hb hr hml hts hown hlk hKK hK hP hE hl
  have hS : va_S A s.heap s.heap [] := va_S.rf
  have hP : va_P D vwCl ([(xx, .inr (11, [.ref st, .ref tp, .ref ft, .ref rd, .ref wr, .ref st2, .int zi])), (st, .inr (6, [.ref d, .ref sh, .ref vw, .ref ta, .ref sa, .int (nI n)])), (sh, .inl (κ 4, 3, .inr (.inr (.inr (.inr fs))))), (vw, .inl (κ 5, 3, .inr (.inr (.inr (.inr fv)))))] ++ im) s.heap := hP
  have hFX : FX p s m args c cX11_view 4 RX11 := ⟨hx, hb, hml, hown, hts⟩
  have hl : lv_has ls 4 [(0, .ref xx), (1, .int za), (2, .int zb)] := hl
  rcases pl_cases za with ⟨t, ht_t, rfl⟩ | hnp_za
  · skip
    rcases htb t (by omega) with ⟨e_1, e_2⟩ | ⟨a_3, R_4, w_5, d_6, v_7, e_1, e_2, h_8, h_9, hd_10⟩
    · skip
      refine lv_aload_n hx hb dX11_view_0 rfl (lv_at hl 0 rfl) ?_
      refine va_get (D := D) (ci := 11) (v := .ref st) (C := RX11) (T := TX11) (N := 7) hx hb hts inlX11 hown hK hP 0 rfl rfl 0 (by decide) (hts _ mw_15) (fun _ h9 => h9) rfl dX11_view_1 ?_
      refine lv_iload_n hx hb dX11_view_4 rfl (lv_at hl 1 rfl) ?_
      refine er_V (As := [.int (nI t)]) (rest := []) hFX hKK hE hS (c_X6_topOf_n l D κ κq st d sh vw ta sa n fv t (by omega) e_2) 1 gV_X11_231 hdV_X6_topOf rfl rfl ⟨Nat.le_of_ble_eq_true rfl, Nat.le_of_ble_eq_true rfl⟩ rfl rfl (Nat.le_of_ble_eq_true rfl) dX11_view_5 ⟨Nat.le_of_ble_eq_true rfl, Nat.le_of_ble_eq_true rfl⟩ hl.1 hP 1 6 rfl rfl rfl (subP0 hP [1, 3] rfl) (fun _ hp_11 => ?_)
      refine W.eq (g2 := F0 m 8 ls [.null]) rfl ?_
      refine lv_astore_nN (lv' := [(3, .null), (0, .ref xx), (1, .int (nI t)), (2, .int zb)]) hx hb dX11_view_8 rfl hl (by decide) rfl (fun ls hl => ?_)
      refine lv_aload_nN hx hb dX11_view_9 rfl (lv_at hl 0 rfl) ?_
      refine lv_ifnonnullN hx hb dX11_view_10 ?_
      refine lv_iconst (v := (-1)) hx hb dX11_view_13 (by decide) ?_
      exact cr_iret hx hb hr hlk rfl (-1) rfl trivial dX11_view_14
    · have hle_a_3 := h_8.le
      refine lv_aload_n hx hb dX11_view_0 rfl (lv_at hl 0 rfl) ?_
      refine va_get (D := D) (ci := 11) (v := .ref st) (C := RX11) (T := TX11) (N := 7) hx hb hts inlX11 hown hK hP 0 rfl rfl 0 (by decide) (hts _ mw_15) (fun _ h9 => h9) rfl dX11_view_1 ?_
      refine lv_iload_n hx hb dX11_view_4 rfl (lv_at hl 1 rfl) ?_
      refine er_V (As := [.int (nI t)]) (rest := []) hFX hKK hE hS (c_X6_topOf_s l D κ κq st d sh vw ta sa n fv t v_7 (by omega) e_2) 1 gV_X11_231 hdV_X6_topOf rfl rfl ⟨Nat.le_of_ble_eq_true rfl, Nat.le_of_ble_eq_true rfl⟩ rfl rfl (Nat.le_of_ble_eq_true rfl) dX11_view_5 ⟨Nat.le_of_ble_eq_true rfl, Nat.le_of_ble_eq_true rfl⟩ hl.1 hP 1 6 rfl rfl rfl (subP0 hP [1, 3] rfl) (fun _ hp_12 => ?_)
      refine W.eq (g2 := F0 m 8 ls [.ref v_7]) rfl ?_
      refine lv_astore_n (lv' := [(3, .ref v_7), (0, .ref xx), (1, .int (nI t)), (2, .int zb)]) hx hb dX11_view_8 rfl hl (by decide) rfl (fun ls hl => ?_)
      refine lv_aload_n hx hb dX11_view_9 rfl (lv_at hl 0 rfl) ?_
      refine lv_ifnonnull (tgt := 15) hx hb dX11_view_10 (by decide) ?_
      refine lv_iload_n hx hb dX11_view_15 rfl (lv_at hl 3 rfl) ?_
      refine lv_iconst (v := (-1)) hx hb dX11_view_16 (by decide) ?_
      refine lv_icmp_ne (tgt := 26) hx hb dX11_view_17 (by decide) (fun c_13 => ?_) (fun c_13 => ?_)
      · refine lv_iload_n hx hb dX11_view_26 rfl (lv_at hl 3 rfl) ?_
        refine lv_if_lt (tgt := 39) hx hb dX11_view_27 (by decide) (fun c_14 => ?_) (fun c_14 => ?_)
        · have nc_14 := cz_lt (a := zb.toInt) (b := (0 : Int)) rfl (by decide) c_14
          refine lv_iconst (v := (-1)) hx hb dX11_view_39 (by decide) ?_
          refine lv_goto (tgt := 49) hx hb dX11_view_40 (by decide) ?_
          exact cr_iret hx hb hr hlk rfl (-1) rfl trivial dX11_view_49
        · have nc_14 := cz_nlt (a := zb.toInt) (b := (0 : Int)) rfl (by decide) c_14
          refine lv_iload_n hx hb dX11_view_30 rfl (lv_at hl 3 rfl) ?_
          refine lv_aload_n hx hb dX11_view_31 rfl (lv_at hl 0 rfl) ?_
          obtain ⟨r_15, n_16, u_17, hm_18, ix_19⟩ := Vw_cell h_9
          refine va_get (D := D) (ci := 9) (v := .ref r_15) (C := RX9) (T := TX9) (N := 3) hx hb hts inlX9 hown hK (oneP (C := [(xx, .inr (11, [.ref st, .ref tp, .ref ft, .ref rd, .ref wr, .ref st2, .int zi])), (st, .inr (6, [.ref d, .ref sh, .ref vw, .ref ta, .ref sa, .int (nI n)])), (sh, .inl (κ 4, 3, .inr (.inr (.inr (.inr fs))))), (vw, .inl (κ 5, 3, .inr (.inr (.inr (.inr fv)))))]) hP hm_18) 0 rfl rfl 0 (by decide) (hts _ mw_1078) (fun _ h9 => h9) rfl dX11_view_32 ?_
          obtain ⟨hn_20, f_21, hm_22, hf_23⟩ := id ix_19
          refine va_alen hx hb hK (oneP (C := [(xx, .inr (11, [.ref st, .ref tp, .ref ft, .ref rd, .ref wr, .ref st2, .int zi])), (st, .inr (6, [.ref d, .ref sh, .ref vw, .ref ta, .ref sa, .int (nI n)])), (sh, .inl (κ 4, 3, .inr (.inr (.inr (.inr fs))))), (vw, .inl (κ 5, 3, .inr (.inr (.inr (.inr fv)))))]) hP hm_22) 0 0 rfl rfl (v := nI n_16) rfl dX11_view_35 ?_
          refine lv_icmp_lt (tgt := 43) hx hb dX11_view_36 (by decide) (fun c_24 => ?_) (fun c_24 => ?_)
          · have nc_24 := cz_lt (a := zb.toInt) (b := ((n_16 : Nat) : Int)) rfl (nI_toInt (by omega)) c_24
            refine lv_aload_n hx hb dX11_view_43 rfl (lv_at hl 0 rfl) ?_
            refine va_get (D := D) (ci := 9) (v := .ref r_15) (C := RX9) (T := TX9) (N := 3) hx hb hts inlX9 hown hK (oneP (C := [(xx, .inr (11, [.ref st, .ref tp, .ref ft, .ref rd, .ref wr, .ref st2, .int zi])), (st, .inr (6, [.ref d, .ref sh, .ref vw, .ref ta, .ref sa, .int (nI n)])), (sh, .inl (κ 4, 3, .inr (.inr (.inr (.inr fs))))), (vw, .inl (κ 5, 3, .inr (.inr (.inr (.inr fv)))))]) hP hm_18) 0 rfl rfl 0 (by decide) (hts _ mw_1078) (fun _ h9 => h9) rfl dX11_view_44 ?_
            refine lv_iload_n hx hb dX11_view_47 rfl (lv_at hl 3 rfl) ?_
            obtain ⟨j_25, hj_25, rfl⟩ := i_nat (x := zb) (B := 40) (by omega) (by omega)
            have hz_j_25 : (nI j_25).toInt = ((j_25 : Nat) : Int) := nI_toInt (by omega)
            refine va_iald hx hb hK (oneP (C := [(xx, .inr (11, [.ref st, .ref tp, .ref ft, .ref rd, .ref wr, .ref st2, .int zi])), (st, .inr (6, [.ref d, .ref sh, .ref vw, .ref ta, .ref sa, .int (nI n)])), (sh, .inl (κ 4, 3, .inr (.inr (.inr (.inr fs))))), (vw, .inl (κ 5, 3, .inr (.inr (.inr (.inr fv)))))]) hP hm_22) 0 0 rfl rfl (i := nI j_25) (vp_in_nI (n := j_25) (by omega) (by omega)) dX11_view_48 ?_
            refine kv (v := .int (f_21 j_25)) (by rw [nI_clamp (by omega)]) ?_
            obtain ⟨n_26, hn_26, en_26⟩ := hf_23 j_25 (by omega)
            refine kv (v := .int (nI n_26)) (congrArg Value.int en_26) ?_
            exact cr_iret hx hb hr hlk rfl (nI n_26) rfl trivial dX11_view_49
          · have nc_24 := cz_nlt (a := zb.toInt) (b := ((n_16 : Nat) : Int)) rfl (nI_toInt (by omega)) c_24
            refine lv_iconst (v := (-1)) hx hb dX11_view_39 (by decide) ?_
            refine lv_goto (tgt := 49) hx hb dX11_view_40 (by decide) ?_
            exact cr_iret hx hb hr hlk rfl (-1) rfl trivial dX11_view_49
      · refine lv_aload_n hx hb dX11_view_20 rfl (lv_at hl 0 rfl) ?_
        obtain ⟨r_27, n_28, u_29, hm_30, ix_31⟩ := Vw_cell h_9
        refine va_get (D := D) (ci := 9) (v := .ref r_27) (C := RX9) (T := TX9) (N := 3) hx hb hts inlX9 hown hK (oneP (C := [(xx, .inr (11, [.ref st, .ref tp, .ref ft, .ref rd, .ref wr, .ref st2, .int zi])), (st, .inr (6, [.ref d, .ref sh, .ref vw, .ref ta, .ref sa, .int (nI n)])), (sh, .inl (κ 4, 3, .inr (.inr (.inr (.inr fs))))), (vw, .inl (κ 5, 3, .inr (.inr (.inr (.inr fv)))))]) hP hm_30) 0 rfl rfl 0 (by decide) (hts _ mw_1078) (fun _ h9 => h9) rfl dX11_view_21 ?_
        obtain ⟨hn_32, f_33, hm_34, hf_35⟩ := id ix_31
        refine va_alen hx hb hK (oneP (C := [(xx, .inr (11, [.ref st, .ref tp, .ref ft, .ref rd, .ref wr, .ref st2, .int zi])), (st, .inr (6, [.ref d, .ref sh, .ref vw, .ref ta, .ref sa, .int (nI n)])), (sh, .inl (κ 4, 3, .inr (.inr (.inr (.inr fs))))), (vw, .inl (κ 5, 3, .inr (.inr (.inr (.inr fv)))))]) hP hm_34) 0 0 rfl rfl (v := nI n_28) rfl dX11_view_24 ?_
        exact cr_iret hx hb hr hlk rfl (nI n_28) rfl trivial dX11_view_25
  · skip
    refine lv_aload_n hx hb dX11_view_0 rfl (lv_at hl 0 rfl) ?_
    refine va_get (D := D) (ci := 11) (v := .ref st) (C := RX11) (T := TX11) (N := 7) hx hb hts inlX11 hown hK hP 0 rfl rfl 0 (by decide) (hts _ mw_15) (fun _ h9 => h9) rfl dX11_view_1 ?_
    refine lv_iload_n hx hb dX11_view_4 rfl (lv_at hl 1 rfl) ?_
    refine er_V (As := [.int za]) (rest := []) hFX hKK hE hS (c_X6_topOf_x l D κ κq st d sh vw ta sa n za (by assumption)) 1 gV_X11_231 hdV_X6_topOf rfl rfl ⟨Nat.le_of_ble_eq_true rfl, Nat.le_of_ble_eq_true rfl⟩ rfl rfl (Nat.le_of_ble_eq_true rfl) dX11_view_5 ⟨Nat.le_of_ble_eq_true rfl, Nat.le_of_ble_eq_true rfl⟩ hl.1 hP 1 6 rfl rfl rfl (subP0 hP [1] rfl) (fun _ hp_36 => ?_)
    refine W.eq (g2 := F0 m 8 ls [.null]) rfl ?_
    refine lv_astore_nN (lv' := [(3, .null), (0, .ref xx), (1, .int za), (2, .int zb)]) hx hb dX11_view_8 rfl hl (by decide) rfl (fun ls hl => ?_)
    refine lv_aload_nN hx hb dX11_view_9 rfl (lv_at hl 0 rfl) ?_
    refine lv_ifnonnullN hx hb dX11_view_10 ?_
    refine lv_iconst (v := (-1)) hx hb dX11_view_13 (by decide) ?_
    exact cr_iret hx hb hr hlk rfl (-1) rfl trivial dX11_view_14
set_option maxHeartbeats 4000000 in
set_option maxRecDepth 100000 in
theorem c_X11_table (l : Launch) (D : va_G) (κ : Nat → ClassId) (κq : Nat → Nat) (im : va_W) (xx : Nat) (tp : Nat) (ft : Nat) (rd : Nat) (wr : Nat) (st2 : Nat) (zi : Int32) (st : Nat) (d : Nat) (sh : Nat) (vw : Nat) (ta : Nat) (sa : Nat) (n : Nat) (fs : Nat → Option Nat) (fv : Nat → Option Nat) (za : Int32) (zb : Int32) (htb : Tb κ im fs fv 3) : Er l yX11_table (wl yX11_table cX11_table 5 (some .int)) { frames := 2, cells := 0, slots := 0, locals := 41 } D κ κq [.ref xx, .int za, .int zb] ([(xx, .inr (11, [.ref st, .ref tp, .ref ft, .ref rd, .ref wr, .ref st2, .int zi])), (st, .inr (6, [.ref d, .ref sh, .ref vw, .ref ta, .ref sa, .int (nI n)])), (sh, .inl (κ 4, 3, .inr (.inr (.inr (.inr fs))))), (vw, .inl (κ 5, 3, .inr (.inr (.inr (.inr fv)))))] ++ im) (fun r : Int32 => some (.int r)) (fun r : Int32 => True) := by
  refine er_of (by decide +kernel) (Nat.le_of_ble_eq_true rfl) ?_
  intro p e s m args below meth c A ls hx hb hr hml hts hown hlk hKK hK hP hE hl
  have hS : va_S A s.heap s.heap [] := va_S.rf
  have hP : va_P D vwCl ([(xx, .inr (11, [.ref st, .ref tp, .ref ft, .ref rd, .ref wr, .ref st2, .int zi])), (st, .inr (6, [.ref d, .ref sh, .ref vw, .ref ta, .ref sa, .int (nI n)])), (sh, .inl (κ 4, 3, .inr (.inr (.inr (.inr fs))))), (vw, .inl (κ 5, 3, .inr (.inr (.inr (.inr fv)))))] ++ im) s.heap := hP
  have hFX : FX p s m args c cX11_table 5 RX11 := ⟨hx, hb, hml, hown, hts⟩
  have hl : lv_has ls 5 [(0, .ref xx), (1, .int za), (2, .int zb)] := hl
  rcases pl_cases za with ⟨t, ht_t, rfl⟩ | hnp_za
  · skip
    rcases htb t (by omega) with ⟨e_1, e_2⟩ | ⟨a_3, R_4, w_5, d_6, v_7, e_1, e_2, h_8, h_9, hd_10⟩
    · skip
      refine lv_aload_n hx hb dX11_table_0 rfl (lv_at hl 0 rfl) ?_
      refine va_get (D := D) (ci := 11) (v := .ref st) (C := RX11) (T := TX11) (N := 7) hx hb hts inlX11 hown hK hP 0 rfl rfl 0 (by decide) (hts _ mw_15) (fun _ h9 => h9) rfl dX11_table_1 ?_
      refine lv_iload_n hx hb dX11_table_4 rfl (lv_at hl 1 rfl) ?_
      refine er_V (As := [.int (nI t)]) (rest := []) hFX hKK hE hS (c_X6_sheetOf_n l D κ κq st d sh vw ta sa n fs t (by omega) e_1) 1 gV_X11_114 hdV_X6_sheetOf rfl rfl ⟨Nat.le_of_ble_eq_true rfl, Nat.le_of_ble_eq_true rfl⟩ rfl rfl (Nat.le_of_ble_eq_true rfl) dX11_table_5 ⟨Nat.le_of_ble_eq_true rfl, Nat.le_of_ble_eq_true rfl⟩ hl.1 hP 1 6 rfl rfl rfl (subP0 hP [1, 2] rfl) (fun _ hp_11 => ?_)
      refine W.eq (g2 := F0 m 8 ls [.null]) rfl ?_
      refine lv_astore_nN (lv' := [(3, .null), (0, .ref xx), (1, .int (nI t)), (2, .int zb)]) hx hb dX11_table_8 rfl hl (by decide) rfl (fun ls hl => ?_)
      refine lv_aload_n hx hb dX11_table_9 rfl (lv_at hl 1 rfl) ?_
      refine va_get (D := D) (ci := 11) (v := .ref st) (C := RX11) (T := TX11) (N := 7) hx hb hts inlX11 hown hK hP 0 rfl rfl 0 (by decide) (hts _ mw_15) (fun _ h9 => h9) rfl dX11_table_10 ?_
      refine lv_iload_n hx hb dX11_table_13 rfl (lv_at hl 2 rfl) ?_
      refine er_V (As := [.int (nI t)]) (rest := []) hFX hKK hE hS (c_X6_topOf_n l D κ κq st d sh vw ta sa n fv t (by omega) e_2) 1 gV_X11_231 hdV_X6_topOf rfl rfl ⟨Nat.le_of_ble_eq_true rfl, Nat.le_of_ble_eq_true rfl⟩ rfl rfl (Nat.le_of_ble_eq_true rfl) dX11_table_14 ⟨Nat.le_of_ble_eq_true rfl, Nat.le_of_ble_eq_true rfl⟩ hl.1 hP 1 6 rfl rfl rfl (subP0 hP [1, 3] rfl) (fun _ hp_12 => ?_)
      refine W.eq (g2 := F0 m 17 ls [.null]) rfl ?_
      refine lv_astoreN (lv' := [(4, .null), (3, .null), (0, .ref xx), (1, .int (nI t)), (2, .int zb)]) hx hb dX11_table_17 hl (by decide) rfl (fun ls hl => ?_)
      refine lv_aload_nN hx hb dX11_table_19 rfl (lv_at hl 1 rfl) ?_
      refine lv_ifnullN (tgt := 28) hx hb dX11_table_20 (by decide) ?_
      refine lv_iconst (v := (-1)) hx hb dX11_table_28 (by decide) ?_
      exact cr_iret hx hb hr hlk rfl (-1) rfl trivial dX11_table_29
    · have hle_a_3 := h_8.le
      refine lv_aload_n hx hb dX11_table_0 rfl (lv_at hl 0 rfl) ?_
      refine va_get (D := D) (ci := 11) (v := .ref st) (C := RX11) (T := TX11) (N := 7) hx hb hts inlX11 hown hK hP 0 rfl rfl 0 (by decide) (hts _ mw_15) (fun _ h9 => h9) rfl dX11_table_1 ?_
      refine lv_iload_n hx hb dX11_table_4 rfl (lv_at hl 1 rfl) ?_
      refine er_V (As := [.int (nI t)]) (rest := []) hFX hKK hE hS (c_X6_sheetOf_s l D κ κq st d sh vw ta sa n fs t a_3 (by omega) e_1) 1 gV_X11_114 hdV_X6_sheetOf rfl rfl ⟨Nat.le_of_ble_eq_true rfl, Nat.le_of_ble_eq_true rfl⟩ rfl rfl (Nat.le_of_ble_eq_true rfl) dX11_table_5 ⟨Nat.le_of_ble_eq_true rfl, Nat.le_of_ble_eq_true rfl⟩ hl.1 hP 1 6 rfl rfl rfl (subP0 hP [1, 2] rfl) (fun _ hp_13 => ?_)
      refine W.eq (g2 := F0 m 8 ls [.ref a_3]) rfl ?_
      refine lv_astore_n (lv' := [(3, .ref a_3), (0, .ref xx), (1, .int (nI t)), (2, .int zb)]) hx hb dX11_table_8 rfl hl (by decide) rfl (fun ls hl => ?_)
      refine lv_aload_n hx hb dX11_table_9 rfl (lv_at hl 1 rfl) ?_
      refine va_get (D := D) (ci := 11) (v := .ref st) (C := RX11) (T := TX11) (N := 7) hx hb hts inlX11 hown hK hP 0 rfl rfl 0 (by decide) (hts _ mw_15) (fun _ h9 => h9) rfl dX11_table_10 ?_
      refine lv_iload_n hx hb dX11_table_13 rfl (lv_at hl 2 rfl) ?_
      refine er_V (As := [.int (nI t)]) (rest := []) hFX hKK hE hS (c_X6_topOf_s l D κ κq st d sh vw ta sa n fv t v_7 (by omega) e_2) 1 gV_X11_231 hdV_X6_topOf rfl rfl ⟨Nat.le_of_ble_eq_true rfl, Nat.le_of_ble_eq_true rfl⟩ rfl rfl (Nat.le_of_ble_eq_true rfl) dX11_table_14 ⟨Nat.le_of_ble_eq_true rfl, Nat.le_of_ble_eq_true rfl⟩ hl.1 hP 1 6 rfl rfl rfl (subP0 hP [1, 3] rfl) (fun _ hp_14 => ?_)
      refine W.eq (g2 := F0 m 17 ls [.ref v_7]) rfl ?_
      refine lv_astore (lv' := [(4, .ref v_7), (3, .ref a_3), (0, .ref xx), (1, .int (nI t)), (2, .int zb)]) hx hb dX11_table_17 hl (by decide) rfl (fun ls hl => ?_)
      refine lv_aload_n hx hb dX11_table_19 rfl (lv_at hl 1 rfl) ?_
      refine lv_ifnull hx hb dX11_table_20 ?_
      refine lv_aload hx hb dX11_table_23 (lv_at hl 0 rfl) ?_
      refine lv_ifnonnull (tgt := 30) hx hb dX11_table_25 (by decide) ?_
      refine lv_iload_n hx hb dX11_table_30 rfl (lv_at hl 4 rfl) ?_
      rcases Classical.em (zb.toInt < 0 ∨ 3 < zb.toInt) with c_15 | c_15
      · refine lv_tableOut (tgt := 82) hx hb dX11_table_31 c_15 (by decide) ?_
        refine lv_iconst (v := (-1)) hx hb dX11_table_82 (by decide) ?_
        exact cr_iret hx hb hr hlk rfl (-1) rfl trivial dX11_table_83
      · have e_16 : zb = 0 ∨ zb = 1 ∨ zb = 2 ∨ zb = 3 := by
          have q1 : ¬ zb.toInt < 0 := fun h => c_15 (Or.inl h)
          have q2 : ¬ 3 < zb.toInt := fun h => c_15 (Or.inr h)
          have q3 : ∀ v : Int32, zb.toInt = v.toInt → zb = v := fun v h => Int32.toInt_inj.mp h
          rcases (show zb.toInt = 0 ∨ zb.toInt = 1 ∨ zb.toInt = 2 ∨ zb.toInt = 3 by omega) with h | h | h | h
          · exact Or.inl (q3 0 (h.trans (by decide)))
          · exact Or.inr (Or.inl (q3 1 (h.trans (by decide))))
          · exact Or.inr (Or.inr (Or.inl (q3 2 (h.trans (by decide)))))
          · exact Or.inr (Or.inr (Or.inr ((q3 3 (h.trans (by decide))))))
        clear c_15
        rcases e_16 with rfl | rfl | rfl | rfl
        · refine lv_tableIn (tgt := 60) hx hb dX11_table_31 (by decide) (by decide) rfl (by decide) ?_
          refine lv_aload_n hx hb dX11_table_60 rfl (lv_at hl 1 rfl) ?_
          obtain ⟨hb_17, c_18, x_19, v_20, g_21, h_22, hm_23, hm_24, hm_25, lo_26, lc_27, vw_28⟩ := id h_8
          obtain ⟨hb_17_1, hb_17_2, hb_17_3⟩ := hb_17
          have hrw_hb_17 := rw_le hb_17_1 hb_17_3
          refine va_get (D := D) (ci := 5) (v := .ref c_18) (C := RX5) (T := TX5) (N := 4) hx hb hts inlX5 hown hK (oneP (C := [(xx, .inr (11, [.ref st, .ref tp, .ref ft, .ref rd, .ref wr, .ref st2, .int zi])), (st, .inr (6, [.ref d, .ref sh, .ref vw, .ref ta, .ref sa, .int (nI n)])), (sh, .inl (κ 4, 3, .inr (.inr (.inr (.inr fs))))), (vw, .inl (κ 5, 3, .inr (.inr (.inr (.inr fv)))))]) hP hm_23) 0 rfl rfl 0 (by decide) (hts _ mw_559) (fun _ h9 => h9) rfl dX11_table_61 ?_
          refine va_alen hx hb hK (oneP (C := [(xx, .inr (11, [.ref st, .ref tp, .ref ft, .ref rd, .ref wr, .ref st2, .int zi])), (st, .inr (6, [.ref d, .ref sh, .ref vw, .ref ta, .ref sa, .int (nI n)])), (sh, .inl (κ 4, 3, .inr (.inr (.inr (.inr fs))))), (vw, .inl (κ 5, 3, .inr (.inr (.inr (.inr fv)))))]) hP hm_24) 0 3 rfl rfl (v := nI w_5) rfl dX11_table_64 ?_
          exact cr_iret hx hb hr hlk rfl (nI w_5) rfl trivial dX11_table_65
        · refine lv_tableIn (tgt := 66) hx hb dX11_table_31 (by decide) (by decide) rfl (by decide) ?_
          refine lv_aload_n hx hb dX11_table_66 rfl (lv_at hl 1 rfl) ?_
          obtain ⟨hb_29, c_30, x_31, v_32, g_33, h_34, hm_35, hm_36, hm_37, lo_38, lc_39, vw_40⟩ := id h_8
          obtain ⟨hb_29_1, hb_29_2, hb_29_3⟩ := hb_29
          have hrw_hb_29 := rw_le hb_29_1 hb_29_3
          refine va_get (D := D) (ci := 5) (v := .int (nI R_4)) (C := RX5) (T := TX5) (N := 4) hx hb hts inlX5 hown hK (oneP (C := [(xx, .inr (11, [.ref st, .ref tp, .ref ft, .ref rd, .ref wr, .ref st2, .int zi])), (st, .inr (6, [.ref d, .ref sh, .ref vw, .ref ta, .ref sa, .int (nI n)])), (sh, .inl (κ 4, 3, .inr (.inr (.inr (.inr fs))))), (vw, .inl (κ 5, 3, .inr (.inr (.inr (.inr fv)))))]) hP hm_35) 0 rfl rfl 2 (by decide) (hts _ mw_253) (fun _ h9 => h9) rfl dX11_table_67 ?_
          exact cr_iret hx hb hr hlk rfl (nI R_4) rfl trivial dX11_table_70
        · refine lv_tableIn (tgt := 71) hx hb dX11_table_31 (by decide) (by decide) rfl (by decide) ?_
          refine lv_aload hx hb dX11_table_71 (lv_at hl 0 rfl) ?_
          obtain ⟨r_41, n_42, u_43, hm_44, ix_45⟩ := Vw_cell h_9
          refine va_get (D := D) (ci := 9) (v := .int (nI d_6)) (C := RX9) (T := TX9) (N := 3) hx hb hts inlX9 hown hK (oneP (C := [(xx, .inr (11, [.ref st, .ref tp, .ref ft, .ref rd, .ref wr, .ref st2, .int zi])), (st, .inr (6, [.ref d, .ref sh, .ref vw, .ref ta, .ref sa, .int (nI n)])), (sh, .inl (κ 4, 3, .inr (.inr (.inr (.inr fs))))), (vw, .inl (κ 5, 3, .inr (.inr (.inr (.inr fv)))))]) hP hm_44) 0 rfl rfl 2 (by decide) (hts _ mw_1123) (fun _ h9 => h9) rfl dX11_table_73 ?_
          exact cr_iret hx hb hr hlk rfl (nI d_6) rfl trivial dX11_table_76
        · refine lv_tableIn (tgt := 77) hx hb dX11_table_31 (by decide) (by decide) rfl (by decide) ?_
          refine lv_aload_n hx hb dX11_table_77 rfl (lv_at hl 1 rfl) ?_
          obtain ⟨hb_48, c_49, x_50, v_51, g_52, h_53, hm_54, hm_55, hm_56, lo_57, lc_58, vw_59⟩ := id h_8
          obtain ⟨hb_48_1, hb_48_2, hb_48_3⟩ := hb_48
          have hrw_hb_48 := rw_le hb_48_1 hb_48_3
          refine er_V (As := []) (rest := []) hFX hKK hE hS (c_X5_countBytes l D κ κq im a_3 R_4 w_5 h_8) 0 gV_X11_266 hdV_X5_countBytes rfl rfl ⟨Nat.le_of_ble_eq_true rfl, Nat.le_of_ble_eq_true rfl⟩ rfl rfl (Nat.le_of_ble_eq_true rfl) dX11_table_78 ⟨Nat.le_of_ble_eq_true rfl, Nat.le_of_ble_eq_true rfl⟩ hl.1 (oneP (C := [(xx, .inr (11, [.ref st, .ref tp, .ref ft, .ref rd, .ref wr, .ref st2, .int zi])), (st, .inr (6, [.ref d, .ref sh, .ref vw, .ref ta, .ref sa, .int (nI n)])), (sh, .inl (κ 4, 3, .inr (.inr (.inr (.inr fs))))), (vw, .inl (κ 5, 3, .inr (.inr (.inr (.inr fv)))))]) hP hm_54) 0 5 rfl rfl rfl (subP hP [] rfl) (fun r__46 hp_47 => ?_)
          refine W.eq (g2 := F0 m 81 ls [.int r__46]) rfl ?_
          exact cr_iret hx hb hr hlk rfl r__46 rfl trivial dX11_table_81
  · skip
    refine lv_aload_n hx hb dX11_table_0 rfl (lv_at hl 0 rfl) ?_
    refine va_get (D := D) (ci := 11) (v := .ref st) (C := RX11) (T := TX11) (N := 7) hx hb hts inlX11 hown hK hP 0 rfl rfl 0 (by decide) (hts _ mw_15) (fun _ h9 => h9) rfl dX11_table_1 ?_
    refine lv_iload_n hx hb dX11_table_4 rfl (lv_at hl 1 rfl) ?_
    refine er_V (As := [.int za]) (rest := []) hFX hKK hE hS (c_X6_sheetOf_x l D κ κq st d sh vw ta sa n za (by assumption)) 1 gV_X11_114 hdV_X6_sheetOf rfl rfl ⟨Nat.le_of_ble_eq_true rfl, Nat.le_of_ble_eq_true rfl⟩ rfl rfl (Nat.le_of_ble_eq_true rfl) dX11_table_5 ⟨Nat.le_of_ble_eq_true rfl, Nat.le_of_ble_eq_true rfl⟩ hl.1 hP 1 6 rfl rfl rfl (subP0 hP [1] rfl) (fun _ hp_60 => ?_)
    refine W.eq (g2 := F0 m 8 ls [.null]) rfl ?_
    refine lv_astore_nN (lv' := [(3, .null), (0, .ref xx), (1, .int za), (2, .int zb)]) hx hb dX11_table_8 rfl hl (by decide) rfl (fun ls hl => ?_)
    refine lv_aload_n hx hb dX11_table_9 rfl (lv_at hl 1 rfl) ?_
    refine va_get (D := D) (ci := 11) (v := .ref st) (C := RX11) (T := TX11) (N := 7) hx hb hts inlX11 hown hK hP 0 rfl rfl 0 (by decide) (hts _ mw_15) (fun _ h9 => h9) rfl dX11_table_10 ?_
    refine lv_iload_n hx hb dX11_table_13 rfl (lv_at hl 2 rfl) ?_
    refine er_V (As := [.int za]) (rest := []) hFX hKK hE hS (c_X6_topOf_x l D κ κq st d sh vw ta sa n za (by assumption)) 1 gV_X11_231 hdV_X6_topOf rfl rfl ⟨Nat.le_of_ble_eq_true rfl, Nat.le_of_ble_eq_true rfl⟩ rfl rfl (Nat.le_of_ble_eq_true rfl) dX11_table_14 ⟨Nat.le_of_ble_eq_true rfl, Nat.le_of_ble_eq_true rfl⟩ hl.1 hP 1 6 rfl rfl rfl (subP0 hP [1] rfl) (fun _ hp_61 => ?_)
    refine W.eq (g2 := F0 m 17 ls [.null]) rfl ?_
    refine lv_astoreN (lv' := [(4, .null), (3, .null), (0, .ref xx), (1, .int za), (2, .int zb)]) hx hb dX11_table_17 hl (by decide) rfl (fun ls hl => ?_)
    refine lv_aload_nN hx hb dX11_table_19 rfl (lv_at hl 1 rfl) ?_
    refine lv_ifnullN (tgt := 28) hx hb dX11_table_20 (by decide) ?_
    refine lv_iconst (v := (-1)) hx hb dX11_table_28 (by decide) ?_
    exact cr_iret hx hb hr hlk rfl (-1) rfl trivial dX11_table_29
set_option maxHeartbeats 4000000 in
set_option maxRecDepth 100000 in
theorem c_X11_column (l : Launch) (D : va_G) (κ : Nat → ClassId) (κq : Nat → Nat) (im : va_W) (xx : Nat) (tp : Nat) (ft : Nat) (rd : Nat) (wr : Nat) (st2 : Nat) (zi : Int32) (st : Nat) (d : Nat) (sh : Nat) (vw : Nat) (ta : Nat) (sa : Nat) (n : Nat) (fs : Nat → Option Nat) (fv : Nat → Option Nat) (za : Int32) (zb : Int32) (zc : Int32) (htb : Tb κ im fs fv 3) : Er l yX11_column (wl yX11_column cX11_column 5 (some .int)) { frames := 4, cells := 0, slots := 0, locals := 89 } D κ κq [.ref xx, .int za, .int zb, .int zc] ([(xx, .inr (11, [.ref st, .ref tp, .ref ft, .ref rd, .ref wr, .ref st2, .int zi])), (st, .inr (6, [.ref d, .ref sh, .ref vw, .ref ta, .ref sa, .int (nI n)])), (sh, .inl (κ 4, 3, .inr (.inr (.inr (.inr fs))))), (vw, .inl (κ 5, 3, .inr (.inr (.inr (.inr fv)))))] ++ im) (fun r : Int32 => some (.int r)) (fun r : Int32 => True) := by
  refine er_of (by decide +kernel) (Nat.le_of_ble_eq_true rfl) ?_
  intro p e s m args below meth c A ls hx hb hr hml hts hown hlk hKK hK hP hE hl
  have hS : va_S A s.heap s.heap [] := va_S.rf
  have hP : va_P D vwCl ([(xx, .inr (11, [.ref st, .ref tp, .ref ft, .ref rd, .ref wr, .ref st2, .int zi])), (st, .inr (6, [.ref d, .ref sh, .ref vw, .ref ta, .ref sa, .int (nI n)])), (sh, .inl (κ 4, 3, .inr (.inr (.inr (.inr fs))))), (vw, .inl (κ 5, 3, .inr (.inr (.inr (.inr fv)))))] ++ im) s.heap := hP
  have hFX : FX p s m args c cX11_column 5 RX11 := ⟨hx, hb, hml, hown, hts⟩
  have hl : lv_has ls 5 [(0, .ref xx), (1, .int za), (2, .int zb), (3, .int zc)] := hl
  rcases pl_cases za with ⟨t, ht_t, rfl⟩ | hnp_za
  · skip
    rcases htb t (by omega) with ⟨e_1, e_2⟩ | ⟨a_3, R_4, w_5, d_6, v_7, e_1, e_2, h_8, h_9, hd_10⟩
    · skip
      refine lv_aload_n hx hb dX11_column_0 rfl (lv_at hl 0 rfl) ?_
      refine va_get (D := D) (ci := 11) (v := .ref st) (C := RX11) (T := TX11) (N := 7) hx hb hts inlX11 hown hK hP 0 rfl rfl 0 (by decide) (hts _ mw_15) (fun _ h9 => h9) rfl dX11_column_1 ?_
      refine lv_iload_n hx hb dX11_column_4 rfl (lv_at hl 1 rfl) ?_
      refine er_V (As := [.int (nI t)]) (rest := []) hFX hKK hE hS (c_X6_sheetOf_n l D κ κq st d sh vw ta sa n fs t (by omega) e_1) 1 gV_X11_114 hdV_X6_sheetOf rfl rfl ⟨Nat.le_of_ble_eq_true rfl, Nat.le_of_ble_eq_true rfl⟩ rfl rfl (Nat.le_of_ble_eq_true rfl) dX11_column_5 ⟨Nat.le_of_ble_eq_true rfl, Nat.le_of_ble_eq_true rfl⟩ hl.1 hP 1 6 rfl rfl rfl (subP0 hP [1, 2] rfl) (fun _ hp_11 => ?_)
      refine W.eq (g2 := F0 m 8 ls [.null]) rfl ?_
      refine lv_astoreN (lv' := [(4, .null), (0, .ref xx), (1, .int (nI t)), (2, .int zb), (3, .int zc)]) hx hb dX11_column_8 hl (by decide) rfl (fun ls hl => ?_)
      refine lv_aloadN hx hb dX11_column_10 (lv_at hl 0 rfl) ?_
      refine lv_ifnullN (tgt := 24) hx hb dX11_column_12 (by decide) ?_
      refine lv_iconst (v := (-1)) hx hb dX11_column_24 (by decide) ?_
      exact cr_iret hx hb hr hlk rfl (-1) rfl trivial dX11_column_25
    · have hle_a_3 := h_8.le
      refine lv_aload_n hx hb dX11_column_0 rfl (lv_at hl 0 rfl) ?_
      refine va_get (D := D) (ci := 11) (v := .ref st) (C := RX11) (T := TX11) (N := 7) hx hb hts inlX11 hown hK hP 0 rfl rfl 0 (by decide) (hts _ mw_15) (fun _ h9 => h9) rfl dX11_column_1 ?_
      refine lv_iload_n hx hb dX11_column_4 rfl (lv_at hl 1 rfl) ?_
      refine er_V (As := [.int (nI t)]) (rest := []) hFX hKK hE hS (c_X6_sheetOf_s l D κ κq st d sh vw ta sa n fs t a_3 (by omega) e_1) 1 gV_X11_114 hdV_X6_sheetOf rfl rfl ⟨Nat.le_of_ble_eq_true rfl, Nat.le_of_ble_eq_true rfl⟩ rfl rfl (Nat.le_of_ble_eq_true rfl) dX11_column_5 ⟨Nat.le_of_ble_eq_true rfl, Nat.le_of_ble_eq_true rfl⟩ hl.1 hP 1 6 rfl rfl rfl (subP0 hP [1, 2] rfl) (fun _ hp_12 => ?_)
      refine W.eq (g2 := F0 m 8 ls [.ref a_3]) rfl ?_
      refine lv_astore (lv' := [(4, .ref a_3), (0, .ref xx), (1, .int (nI t)), (2, .int zb), (3, .int zc)]) hx hb dX11_column_8 hl (by decide) rfl (fun ls hl => ?_)
      refine lv_aload hx hb dX11_column_10 (lv_at hl 0 rfl) ?_
      refine lv_ifnull hx hb dX11_column_12 ?_
      refine lv_aload hx hb dX11_column_15 (lv_at hl 0 rfl) ?_
      refine lv_iload_n hx hb dX11_column_17 rfl (lv_at hl 3 rfl) ?_
      obtain ⟨hb_15, c_16, x_17, v_18, g_19, h_20, hm_21, hm_22, hm_23, lo_24, lc_25, vw_26⟩ := id h_8
      obtain ⟨hb_15_1, hb_15_2, hb_15_3⟩ := hb_15
      have hrw_hb_15 := rw_le hb_15_1 hb_15_3
      refine er_V (As := [.int zb]) (rest := []) hFX hKK hE hS (c_X5_hasColumn l D κ κq im a_3 R_4 w_5 zb h_8) 1 gV_X11_161 hdV_X5_hasColumn rfl rfl ⟨Nat.le_of_ble_eq_true rfl, Nat.le_of_ble_eq_true rfl⟩ rfl rfl (Nat.le_of_ble_eq_true rfl) dX11_column_18 ⟨Nat.le_of_ble_eq_true rfl, Nat.le_of_ble_eq_true rfl⟩ hl.1 (oneP (C := [(xx, .inr (11, [.ref st, .ref tp, .ref ft, .ref rd, .ref wr, .ref st2, .int zi])), (st, .inr (6, [.ref d, .ref sh, .ref vw, .ref ta, .ref sa, .int (nI n)])), (sh, .inl (κ 4, 3, .inr (.inr (.inr (.inr fs))))), (vw, .inl (κ 5, 3, .inr (.inr (.inr (.inr fv)))))]) hP hm_21) 0 5 rfl rfl rfl (subP hP [] rfl) (fun r__13 hp_14 => ?_)
      replace hp_14 : ((r__13 = 1 ∧ (∃ j : Nat, j < w_5 ∧ zb = nI j)) ∨ (r__13 = 0)) := hp_14
      have ha_27 := hp_14
      clear hp_14
      rcases ha_27 with ⟨rfl, ⟨j_28, hj_28, rfl⟩⟩ | rfl
      · refine W.eq (g2 := F0 m 21 ls [.int 1]) rfl ?_
        refine lv_if_ne (tgt := 26) hx hb dX11_column_21 (by decide) (fun c_30 => ?_) (fun c_30 => absurd c_30 (by decide))
        refine lv_iload_n hx hb dX11_column_26 rfl (lv_at hl 4 rfl) ?_
        rcases Classical.em (zc.toInt < 0 ∨ 5 < zc.toInt) with c_31 | c_31
        · refine lv_tableOut (tgt := 120) hx hb dX11_column_27 c_31 (by decide) ?_
          refine lv_iconst (v := (-1)) hx hb dX11_column_120 (by decide) ?_
          exact cr_iret hx hb hr hlk rfl (-1) rfl trivial dX11_column_121
        · have e_32 : zc = 0 ∨ zc = 1 ∨ zc = 2 ∨ zc = 3 ∨ zc = 4 ∨ zc = 5 := by
            have q1 : ¬ zc.toInt < 0 := fun h => c_31 (Or.inl h)
            have q2 : ¬ 5 < zc.toInt := fun h => c_31 (Or.inr h)
            have q3 : ∀ v : Int32, zc.toInt = v.toInt → zc = v := fun v h => Int32.toInt_inj.mp h
            rcases (show zc.toInt = 0 ∨ zc.toInt = 1 ∨ zc.toInt = 2 ∨ zc.toInt = 3 ∨ zc.toInt = 4 ∨ zc.toInt = 5 by omega) with h | h | h | h | h | h
            · exact Or.inl (q3 0 (h.trans (by decide)))
            · exact Or.inr (Or.inl (q3 1 (h.trans (by decide))))
            · exact Or.inr (Or.inr (Or.inl (q3 2 (h.trans (by decide)))))
            · exact Or.inr (Or.inr (Or.inr (Or.inl (q3 3 (h.trans (by decide))))))
            · exact Or.inr (Or.inr (Or.inr (Or.inr (Or.inl (q3 4 (h.trans (by decide)))))))
            · exact Or.inr (Or.inr (Or.inr (Or.inr (Or.inr ((q3 5 (h.trans (by decide))))))))
          clear c_31
          rcases e_32 with rfl | rfl | rfl | rfl | rfl | rfl
          · refine lv_tableIn (tgt := 64) hx hb dX11_column_27 (by decide) (by decide) rfl (by decide) ?_
            refine lv_aload hx hb dX11_column_64 (lv_at hl 0 rfl) ?_
            refine lv_iload_n hx hb dX11_column_66 rfl (lv_at hl 3 rfl) ?_
            refine er_V (As := [.int (nI j_28)]) (rest := []) hFX hKK hE hS (c_X5_typeOf l D κ κq im a_3 R_4 w_5 j_28 h_8 (by omega)) 1 gV_X11_270 hdV_X5_typeOf rfl rfl ⟨Nat.le_of_ble_eq_true rfl, Nat.le_of_ble_eq_true rfl⟩ rfl rfl (Nat.le_of_ble_eq_true rfl) dX11_column_67 ⟨Nat.le_of_ble_eq_true rfl, Nat.le_of_ble_eq_true rfl⟩ hl.1 (oneP (C := [(xx, .inr (11, [.ref st, .ref tp, .ref ft, .ref rd, .ref wr, .ref st2, .int zi])), (st, .inr (6, [.ref d, .ref sh, .ref vw, .ref ta, .ref sa, .int (nI n)])), (sh, .inl (κ 4, 3, .inr (.inr (.inr (.inr fs))))), (vw, .inl (κ 5, 3, .inr (.inr (.inr (.inr fv)))))]) hP hm_21) 0 5 rfl rfl rfl (subP hP [] rfl) (fun r__33 hp_34 => ?_)
            replace hp_34 : r__33 ≤ 5 := hp_34
            have h_35 := hp_34
            clear hp_34
            refine W.eq (g2 := F0 m 70 ls [.int (nI r__33)]) rfl ?_
            exact cr_iret hx hb hr hlk rfl (nI r__33) rfl trivial dX11_column_70
          · refine lv_tableIn (tgt := 71) hx hb dX11_column_27 (by decide) (by decide) rfl (by decide) ?_
            refine lv_aload hx hb dX11_column_71 (lv_at hl 0 rfl) ?_
            refine lv_iload_n hx hb dX11_column_73 rfl (lv_at hl 3 rfl) ?_
            refine lv_aload hx hb dX11_column_74 (lv_at hl 0 rfl) ?_
            refine va_get (D := D) (ci := 5) (v := .int (nI R_4)) (C := RX5) (T := TX5) (N := 4) hx hb hts inlX5 hown hK (oneP (C := [(xx, .inr (11, [.ref st, .ref tp, .ref ft, .ref rd, .ref wr, .ref st2, .int zi])), (st, .inr (6, [.ref d, .ref sh, .ref vw, .ref ta, .ref sa, .int (nI n)])), (sh, .inl (κ 4, 3, .inr (.inr (.inr (.inr fs))))), (vw, .inl (κ 5, 3, .inr (.inr (.inr (.inr fv)))))]) hP hm_21) 0 rfl rfl 2 (by decide) (hts _ mw_253) (fun _ h9 => h9) rfl dX11_column_76 ?_
            refine er_V (As := [.int (nI j_28), .int (nI R_4)]) (rest := []) hFX hKK hE hS (c_X5_guessTo l D κ κq im a_3 R_4 w_5 j_28 R_4 h_8 (by omega) (by omega)) 2 gV_X11_274 hdV_X5_guessTo rfl rfl ⟨Nat.le_of_ble_eq_true rfl, Nat.le_of_ble_eq_true rfl⟩ rfl rfl (Nat.le_of_ble_eq_true rfl) dX11_column_79 ⟨Nat.le_of_ble_eq_true rfl, Nat.le_of_ble_eq_true rfl⟩ hl.1 (oneP (C := [(xx, .inr (11, [.ref st, .ref tp, .ref ft, .ref rd, .ref wr, .ref st2, .int zi])), (st, .inr (6, [.ref d, .ref sh, .ref vw, .ref ta, .ref sa, .int (nI n)])), (sh, .inl (κ 4, 3, .inr (.inr (.inr (.inr fs))))), (vw, .inl (κ 5, 3, .inr (.inr (.inr (.inr fv)))))]) hP hm_21) 0 5 rfl rfl rfl (subP hP [] rfl) (fun r__36 hp_37 => ?_)
            replace hp_37 : r__36 ≤ 5 := hp_37
            have h_38 := hp_37
            clear hp_37
            refine W.eq (g2 := F0 m 82 ls [.int (nI r__36)]) rfl ?_
            exact cr_iret hx hb hr hlk rfl (nI r__36) rfl trivial dX11_column_82
          · refine lv_tableIn (tgt := 83) hx hb dX11_column_27 (by decide) (by decide) rfl (by decide) ?_
            refine lv_aload hx hb dX11_column_83 (lv_at hl 0 rfl) ?_
            refine va_get (D := D) (ci := 5) (v := .ref c_16) (C := RX5) (T := TX5) (N := 4) hx hb hts inlX5 hown hK (oneP (C := [(xx, .inr (11, [.ref st, .ref tp, .ref ft, .ref rd, .ref wr, .ref st2, .int zi])), (st, .inr (6, [.ref d, .ref sh, .ref vw, .ref ta, .ref sa, .int (nI n)])), (sh, .inl (κ 4, 3, .inr (.inr (.inr (.inr fs))))), (vw, .inl (κ 5, 3, .inr (.inr (.inr (.inr fv)))))]) hP hm_21) 0 rfl rfl 0 (by decide) (hts _ mw_559) (fun _ h9 => h9) rfl dX11_column_85 ?_
            refine lv_iload_n hx hb dX11_column_88 rfl (lv_at hl 3 rfl) ?_
            refine va_aldq hx hb hK (oneP (C := [(xx, .inr (11, [.ref st, .ref tp, .ref ft, .ref rd, .ref wr, .ref st2, .int zi])), (st, .inr (6, [.ref d, .ref sh, .ref vw, .ref ta, .ref sa, .int (nI n)])), (sh, .inl (κ 4, 3, .inr (.inr (.inr (.inr fs))))), (vw, .inl (κ 5, 3, .inr (.inr (.inr (.inr fv)))))]) hP hm_22) 0 3 rfl rfl (i := nI j_28) (vp_in_nI (n := j_28) (by omega) (by omega)) dX11_column_89 ?_
            obtain ⟨q_39, e_40, m_41, t_42, h_43⟩ := lo_24 j_28 (by omega)
            refine kv (v := .ref q_39) (by rw [nI_clamp (by omega)]; rw [e_40]; rfl) ?_
            obtain ⟨ht_44, b_45, hm_46, hb_47⟩ := id h_43
            have hn_b_45 := hb_47.1
            refine va_get (D := D) (ci := 1) (v := .int t_42) (C := RX1) (T := TX1) (N := 2) hx hb hts inlX1 hown hK (oneP (C := [(xx, .inr (11, [.ref st, .ref tp, .ref ft, .ref rd, .ref wr, .ref st2, .int zi])), (st, .inr (6, [.ref d, .ref sh, .ref vw, .ref ta, .ref sa, .int (nI n)])), (sh, .inl (κ 4, 3, .inr (.inr (.inr (.inr fs))))), (vw, .inl (κ 5, 3, .inr (.inr (.inr (.inr fv)))))]) hP hm_46) 0 rfl rfl 1 (by decide) (hts _ mw_714) (fun _ h9 => h9) rfl dX11_column_90 ?_
            exact cr_iret hx hb hr hlk rfl t_42 rfl trivial dX11_column_93
          · refine lv_tableIn (tgt := 94) hx hb dX11_column_27 (by decide) (by decide) rfl (by decide) ?_
            refine lv_aload hx hb dX11_column_94 (lv_at hl 0 rfl) ?_
            refine va_get (D := D) (ci := 5) (v := .ref c_16) (C := RX5) (T := TX5) (N := 4) hx hb hts inlX5 hown hK (oneP (C := [(xx, .inr (11, [.ref st, .ref tp, .ref ft, .ref rd, .ref wr, .ref st2, .int zi])), (st, .inr (6, [.ref d, .ref sh, .ref vw, .ref ta, .ref sa, .int (nI n)])), (sh, .inl (κ 4, 3, .inr (.inr (.inr (.inr fs))))), (vw, .inl (κ 5, 3, .inr (.inr (.inr (.inr fv)))))]) hP hm_21) 0 rfl rfl 0 (by decide) (hts _ mw_559) (fun _ h9 => h9) rfl dX11_column_96 ?_
            refine lv_iload_n hx hb dX11_column_99 rfl (lv_at hl 3 rfl) ?_
            refine va_aldq hx hb hK (oneP (C := [(xx, .inr (11, [.ref st, .ref tp, .ref ft, .ref rd, .ref wr, .ref st2, .int zi])), (st, .inr (6, [.ref d, .ref sh, .ref vw, .ref ta, .ref sa, .int (nI n)])), (sh, .inl (κ 4, 3, .inr (.inr (.inr (.inr fs))))), (vw, .inl (κ 5, 3, .inr (.inr (.inr (.inr fv)))))]) hP hm_22) 0 3 rfl rfl (i := nI j_28) (vp_in_nI (n := j_28) (by omega) (by omega)) dX11_column_100 ?_
            obtain ⟨q_48, e_49, m_50, t_51, h_52⟩ := lo_24 j_28 (by omega)
            refine kv (v := .ref q_48) (by rw [nI_clamp (by omega)]; rw [e_49]; rfl) ?_
            obtain ⟨ht_53, b_54, hm_55, hb_56⟩ := id h_52
            have hn_b_54 := hb_56.1
            refine va_get (D := D) (ci := 1) (v := .ref b_54) (C := RX1) (T := TX1) (N := 2) hx hb hts inlX1 hown hK (oneP (C := [(xx, .inr (11, [.ref st, .ref tp, .ref ft, .ref rd, .ref wr, .ref st2, .int zi])), (st, .inr (6, [.ref d, .ref sh, .ref vw, .ref ta, .ref sa, .int (nI n)])), (sh, .inl (κ 4, 3, .inr (.inr (.inr (.inr fs))))), (vw, .inl (κ 5, 3, .inr (.inr (.inr (.inr fv)))))]) hP hm_55) 0 rfl rfl 0 (by decide) (hts _ mw_759) (fun _ h9 => h9) rfl dX11_column_101 ?_
            obtain ⟨hn_58, f_57, hm_59, hfit_60⟩ := id hb_56
            refine va_alen hx hb hK (oneP (C := [(xx, .inr (11, [.ref st, .ref tp, .ref ft, .ref rd, .ref wr, .ref st2, .int zi])), (st, .inr (6, [.ref d, .ref sh, .ref vw, .ref ta, .ref sa, .int (nI n)])), (sh, .inl (κ 4, 3, .inr (.inr (.inr (.inr fs))))), (vw, .inl (κ 5, 3, .inr (.inr (.inr (.inr fv)))))]) hP hm_59) 0 1 rfl rfl (v := nI m_50) rfl dX11_column_104 ?_
            exact cr_iret hx hb hr hlk rfl (nI m_50) rfl trivial dX11_column_105
          · refine lv_tableIn (tgt := 106) hx hb dX11_column_27 (by decide) (by decide) rfl (by decide) ?_
            refine lv_aload hx hb dX11_column_106 (lv_at hl 0 rfl) ?_
            refine lv_iload_n hx hb dX11_column_108 rfl (lv_at hl 3 rfl) ?_
            refine er_V (As := [.int (nI j_28)]) (rest := []) hFX hKK hE hS (c_X5_proofSize l D κ κq im a_3 R_4 w_5 j_28 h_8 (by omega)) 1 gV_X11_277 hdV_X5_proofSize rfl rfl ⟨Nat.le_of_ble_eq_true rfl, Nat.le_of_ble_eq_true rfl⟩ rfl rfl (Nat.le_of_ble_eq_true rfl) dX11_column_109 ⟨Nat.le_of_ble_eq_true rfl, Nat.le_of_ble_eq_true rfl⟩ hl.1 (oneP (C := [(xx, .inr (11, [.ref st, .ref tp, .ref ft, .ref rd, .ref wr, .ref st2, .int zi])), (st, .inr (6, [.ref d, .ref sh, .ref vw, .ref ta, .ref sa, .int (nI n)])), (sh, .inl (κ 4, 3, .inr (.inr (.inr (.inr fs))))), (vw, .inl (κ 5, 3, .inr (.inr (.inr (.inr fv)))))]) hP hm_21) 0 5 rfl rfl rfl (subP hP [] rfl) (fun r__61 hp_62 => ?_)
            refine W.eq (g2 := F0 m 112 ls [.int r__61]) rfl ?_
            exact cr_iret hx hb hr hlk rfl r__61 rfl trivial dX11_column_112
          · refine lv_tableIn (tgt := 113) hx hb dX11_column_27 (by decide) (by decide) rfl (by decide) ?_
            refine lv_aload hx hb dX11_column_113 (lv_at hl 0 rfl) ?_
            refine lv_iload_n hx hb dX11_column_115 rfl (lv_at hl 3 rfl) ?_
            refine er_V (As := [.int (nI j_28)]) (rest := []) hFX hKK hE hS (c_X5_countEmpty l D κ κq im a_3 R_4 w_5 j_28 h_8 (by omega)) 1 gV_X11_280 hdV_X5_countEmpty rfl rfl ⟨Nat.le_of_ble_eq_true rfl, Nat.le_of_ble_eq_true rfl⟩ rfl rfl (Nat.le_of_ble_eq_true rfl) dX11_column_116 ⟨Nat.le_of_ble_eq_true rfl, Nat.le_of_ble_eq_true rfl⟩ hl.1 (oneP (C := [(xx, .inr (11, [.ref st, .ref tp, .ref ft, .ref rd, .ref wr, .ref st2, .int zi])), (st, .inr (6, [.ref d, .ref sh, .ref vw, .ref ta, .ref sa, .int (nI n)])), (sh, .inl (κ 4, 3, .inr (.inr (.inr (.inr fs))))), (vw, .inl (κ 5, 3, .inr (.inr (.inr (.inr fv)))))]) hP hm_21) 0 5 rfl rfl rfl (subP hP [] rfl) (fun r__63 hp_64 => ?_)
            refine W.eq (g2 := F0 m 119 ls [.int r__63]) rfl ?_
            exact cr_iret hx hb hr hlk rfl r__63 rfl trivial dX11_column_119
      · refine W.eq (g2 := F0 m 21 ls [.int 0]) rfl ?_
        refine lv_if_ne (tgt := 26) hx hb dX11_column_21 (by decide) (fun c_65 => absurd c_65 (by decide)) (fun c_65 => ?_)
        refine lv_iconst (v := (-1)) hx hb dX11_column_24 (by decide) ?_
        exact cr_iret hx hb hr hlk rfl (-1) rfl trivial dX11_column_25
  · skip
    refine lv_aload_n hx hb dX11_column_0 rfl (lv_at hl 0 rfl) ?_
    refine va_get (D := D) (ci := 11) (v := .ref st) (C := RX11) (T := TX11) (N := 7) hx hb hts inlX11 hown hK hP 0 rfl rfl 0 (by decide) (hts _ mw_15) (fun _ h9 => h9) rfl dX11_column_1 ?_
    refine lv_iload_n hx hb dX11_column_4 rfl (lv_at hl 1 rfl) ?_
    refine er_V (As := [.int za]) (rest := []) hFX hKK hE hS (c_X6_sheetOf_x l D κ κq st d sh vw ta sa n za (by assumption)) 1 gV_X11_114 hdV_X6_sheetOf rfl rfl ⟨Nat.le_of_ble_eq_true rfl, Nat.le_of_ble_eq_true rfl⟩ rfl rfl (Nat.le_of_ble_eq_true rfl) dX11_column_5 ⟨Nat.le_of_ble_eq_true rfl, Nat.le_of_ble_eq_true rfl⟩ hl.1 hP 1 6 rfl rfl rfl (subP0 hP [1] rfl) (fun _ hp_66 => ?_)
    refine W.eq (g2 := F0 m 8 ls [.null]) rfl ?_
    refine lv_astoreN (lv' := [(4, .null), (0, .ref xx), (1, .int za), (2, .int zb), (3, .int zc)]) hx hb dX11_column_8 hl (by decide) rfl (fun ls hl => ?_)
    refine lv_aloadN hx hb dX11_column_10 (lv_at hl 0 rfl) ?_
    refine lv_ifnullN (tgt := 24) hx hb dX11_column_12 (by decide) ?_
    refine lv_iconst (v := (-1)) hx hb dX11_column_24 (by decide) ?_
    exact cr_iret hx hb hr hlk rfl (-1) rfl trivial dX11_column_25
set_option maxHeartbeats 4000000 in
set_option maxRecDepth 100000 in
theorem c_X11_nameAt (l : Launch) (D : va_G) (κ : Nat → ClassId) (κq : Nat → Nat) (im : va_W) (xx : Nat) (tp : Nat) (ft : Nat) (rd : Nat) (wr : Nat) (st2 : Nat) (zi : Int32) (st : Nat) (d : Nat) (sh : Nat) (vw : Nat) (ta : Nat) (sa : Nat) (n : Nat) (fs : Nat → Option Nat) (fv : Nat → Option Nat) (za : Int32) (zb : Int32) (zc : Int32) (htb : Tb κ im fs fv 3) : Er l yX11_nameAt (wl yX11_nameAt cX11_nameAt 6 (some .int)) { frames := 2, cells := 0, slots := 0, locals := 41 } D κ κq [.ref xx, .int za, .int zb, .int zc] ([(xx, .inr (11, [.ref st, .ref tp, .ref ft, .ref rd, .ref wr, .ref st2, .int zi])), (st, .inr (6, [.ref d, .ref sh, .ref vw, .ref ta, .ref sa, .int (nI n)])), (sh, .inl (κ 4, 3, .inr (.inr (.inr (.inr fs))))), (vw, .inl (κ 5, 3, .inr (.inr (.inr (.inr fv)))))] ++ im) (fun r : Int32 => some (.int r)) (fun r : Int32 => True) := by
  refine er_of (by decide +kernel) (Nat.le_of_ble_eq_true rfl) ?_
  intro p e s m args below meth c A ls hx hb hr hml hts hown hlk hKK hK hP hE hl
  have hS : va_S A s.heap s.heap [] := va_S.rf
  have hP : va_P D vwCl ([(xx, .inr (11, [.ref st, .ref tp, .ref ft, .ref rd, .ref wr, .ref st2, .int zi])), (st, .inr (6, [.ref d, .ref sh, .ref vw, .ref ta, .ref sa, .int (nI n)])), (sh, .inl (κ 4, 3, .inr (.inr (.inr (.inr fs))))), (vw, .inl (κ 5, 3, .inr (.inr (.inr (.inr fv)))))] ++ im) s.heap := hP
  have hFX : FX p s m args c cX11_nameAt 6 RX11 := ⟨hx, hb, hml, hown, hts⟩
  have hl : lv_has ls 6 [(0, .ref xx), (1, .int za), (2, .int zb), (3, .int zc)] := hl
  rcases pl_cases za with ⟨t, ht_t, rfl⟩ | hnp_za
  · skip
    rcases htb t (by omega) with ⟨e_1, e_2⟩ | ⟨a_3, R_4, w_5, d_6, v_7, e_1, e_2, h_8, h_9, hd_10⟩
    · skip
      refine lv_aload_n hx hb dX11_nameAt_0 rfl (lv_at hl 0 rfl) ?_
      refine va_get (D := D) (ci := 11) (v := .ref st) (C := RX11) (T := TX11) (N := 7) hx hb hts inlX11 hown hK hP 0 rfl rfl 0 (by decide) (hts _ mw_15) (fun _ h9 => h9) rfl dX11_nameAt_1 ?_
      refine lv_iload_n hx hb dX11_nameAt_4 rfl (lv_at hl 1 rfl) ?_
      refine er_V (As := [.int (nI t)]) (rest := []) hFX hKK hE hS (c_X6_sheetOf_n l D κ κq st d sh vw ta sa n fs t (by omega) e_1) 1 gV_X11_114 hdV_X6_sheetOf rfl rfl ⟨Nat.le_of_ble_eq_true rfl, Nat.le_of_ble_eq_true rfl⟩ rfl rfl (Nat.le_of_ble_eq_true rfl) dX11_nameAt_5 ⟨Nat.le_of_ble_eq_true rfl, Nat.le_of_ble_eq_true rfl⟩ hl.1 hP 1 6 rfl rfl rfl (subP0 hP [1, 2] rfl) (fun _ hp_11 => ?_)
      refine W.eq (g2 := F0 m 8 ls [.null]) rfl ?_
      refine lv_astoreN (lv' := [(4, .null), (0, .ref xx), (1, .int (nI t)), (2, .int zb), (3, .int zc)]) hx hb dX11_nameAt_8 hl (by decide) rfl (fun ls hl => ?_)
      refine lv_aloadN hx hb dX11_nameAt_10 (lv_at hl 0 rfl) ?_
      refine lv_ifnullN (tgt := 24) hx hb dX11_nameAt_12 (by decide) ?_
      refine lv_iconst (v := (-1)) hx hb dX11_nameAt_24 (by decide) ?_
      exact cr_iret hx hb hr hlk rfl (-1) rfl trivial dX11_nameAt_25
    · have hle_a_3 := h_8.le
      refine lv_aload_n hx hb dX11_nameAt_0 rfl (lv_at hl 0 rfl) ?_
      refine va_get (D := D) (ci := 11) (v := .ref st) (C := RX11) (T := TX11) (N := 7) hx hb hts inlX11 hown hK hP 0 rfl rfl 0 (by decide) (hts _ mw_15) (fun _ h9 => h9) rfl dX11_nameAt_1 ?_
      refine lv_iload_n hx hb dX11_nameAt_4 rfl (lv_at hl 1 rfl) ?_
      refine er_V (As := [.int (nI t)]) (rest := []) hFX hKK hE hS (c_X6_sheetOf_s l D κ κq st d sh vw ta sa n fs t a_3 (by omega) e_1) 1 gV_X11_114 hdV_X6_sheetOf rfl rfl ⟨Nat.le_of_ble_eq_true rfl, Nat.le_of_ble_eq_true rfl⟩ rfl rfl (Nat.le_of_ble_eq_true rfl) dX11_nameAt_5 ⟨Nat.le_of_ble_eq_true rfl, Nat.le_of_ble_eq_true rfl⟩ hl.1 hP 1 6 rfl rfl rfl (subP0 hP [1, 2] rfl) (fun _ hp_12 => ?_)
      refine W.eq (g2 := F0 m 8 ls [.ref a_3]) rfl ?_
      refine lv_astore (lv' := [(4, .ref a_3), (0, .ref xx), (1, .int (nI t)), (2, .int zb), (3, .int zc)]) hx hb dX11_nameAt_8 hl (by decide) rfl (fun ls hl => ?_)
      refine lv_aload hx hb dX11_nameAt_10 (lv_at hl 0 rfl) ?_
      refine lv_ifnull hx hb dX11_nameAt_12 ?_
      refine lv_aload hx hb dX11_nameAt_15 (lv_at hl 0 rfl) ?_
      refine lv_iload_n hx hb dX11_nameAt_17 rfl (lv_at hl 3 rfl) ?_
      obtain ⟨hb_15, c_16, x_17, v_18, g_19, h_20, hm_21, hm_22, hm_23, lo_24, lc_25, vw_26⟩ := id h_8
      obtain ⟨hb_15_1, hb_15_2, hb_15_3⟩ := hb_15
      have hrw_hb_15 := rw_le hb_15_1 hb_15_3
      refine er_V (As := [.int zb]) (rest := []) hFX hKK hE hS (c_X5_hasColumn l D κ κq im a_3 R_4 w_5 zb h_8) 1 gV_X11_161 hdV_X5_hasColumn rfl rfl ⟨Nat.le_of_ble_eq_true rfl, Nat.le_of_ble_eq_true rfl⟩ rfl rfl (Nat.le_of_ble_eq_true rfl) dX11_nameAt_18 ⟨Nat.le_of_ble_eq_true rfl, Nat.le_of_ble_eq_true rfl⟩ hl.1 (oneP (C := [(xx, .inr (11, [.ref st, .ref tp, .ref ft, .ref rd, .ref wr, .ref st2, .int zi])), (st, .inr (6, [.ref d, .ref sh, .ref vw, .ref ta, .ref sa, .int (nI n)])), (sh, .inl (κ 4, 3, .inr (.inr (.inr (.inr fs))))), (vw, .inl (κ 5, 3, .inr (.inr (.inr (.inr fv)))))]) hP hm_21) 0 5 rfl rfl rfl (subP hP [] rfl) (fun r__13 hp_14 => ?_)
      replace hp_14 : ((r__13 = 1 ∧ (∃ j : Nat, j < w_5 ∧ zb = nI j)) ∨ (r__13 = 0)) := hp_14
      have ha_27 := hp_14
      clear hp_14
      rcases ha_27 with ⟨rfl, ⟨j_28, hj_28, rfl⟩⟩ | rfl
      · refine W.eq (g2 := F0 m 21 ls [.int 1]) rfl ?_
        refine lv_if_ne (tgt := 26) hx hb dX11_nameAt_21 (by decide) (fun c_30 => ?_) (fun c_30 => absurd c_30 (by decide))
        refine lv_aload hx hb dX11_nameAt_26 (lv_at hl 0 rfl) ?_
        refine va_get (D := D) (ci := 5) (v := .ref c_16) (C := RX5) (T := TX5) (N := 4) hx hb hts inlX5 hown hK (oneP (C := [(xx, .inr (11, [.ref st, .ref tp, .ref ft, .ref rd, .ref wr, .ref st2, .int zi])), (st, .inr (6, [.ref d, .ref sh, .ref vw, .ref ta, .ref sa, .int (nI n)])), (sh, .inl (κ 4, 3, .inr (.inr (.inr (.inr fs))))), (vw, .inl (κ 5, 3, .inr (.inr (.inr (.inr fv)))))]) hP hm_21) 0 rfl rfl 0 (by decide) (hts _ mw_559) (fun _ h9 => h9) rfl dX11_nameAt_28 ?_
        refine lv_iload_n hx hb dX11_nameAt_31 rfl (lv_at hl 3 rfl) ?_
        refine va_aldq hx hb hK (oneP (C := [(xx, .inr (11, [.ref st, .ref tp, .ref ft, .ref rd, .ref wr, .ref st2, .int zi])), (st, .inr (6, [.ref d, .ref sh, .ref vw, .ref ta, .ref sa, .int (nI n)])), (sh, .inl (κ 4, 3, .inr (.inr (.inr (.inr fs))))), (vw, .inl (κ 5, 3, .inr (.inr (.inr (.inr fv)))))]) hP hm_22) 0 3 rfl rfl (i := nI j_28) (vp_in_nI (n := j_28) (by omega) (by omega)) dX11_nameAt_32 ?_
        obtain ⟨q_31, e_32, m_33, t_34, h_35⟩ := lo_24 j_28 (by omega)
        refine kv (v := .ref q_31) (by rw [nI_clamp (by omega)]; rw [e_32]; rfl) ?_
        obtain ⟨ht_36, b_37, hm_38, hb_39⟩ := id h_35
        have hn_b_37 := hb_39.1
        refine va_get (D := D) (ci := 1) (v := .ref b_37) (C := RX1) (T := TX1) (N := 2) hx hb hts inlX1 hown hK (oneP (C := [(xx, .inr (11, [.ref st, .ref tp, .ref ft, .ref rd, .ref wr, .ref st2, .int zi])), (st, .inr (6, [.ref d, .ref sh, .ref vw, .ref ta, .ref sa, .int (nI n)])), (sh, .inl (κ 4, 3, .inr (.inr (.inr (.inr fs))))), (vw, .inl (κ 5, 3, .inr (.inr (.inr (.inr fv)))))]) hP hm_38) 0 rfl rfl 0 (by decide) (hts _ mw_759) (fun _ h9 => h9) rfl dX11_nameAt_33 ?_
        refine lv_astore (lv' := [(5, .ref b_37), (4, .ref a_3), (0, .ref xx), (1, .int (nI t)), (2, .int (nI j_28)), (3, .int zc)]) hx hb dX11_nameAt_36 hl (by decide) rfl (fun ls hl => ?_)
        refine lv_iload_n hx hb dX11_nameAt_38 rfl (lv_at hl 5 rfl) ?_
        refine lv_if_lt (tgt := 49) hx hb dX11_nameAt_39 (by decide) (fun c_40 => ?_) (fun c_40 => ?_)
        · have nc_40 := cz_lt (a := zc.toInt) (b := (0 : Int)) rfl (by decide) c_40
          refine lv_iconst (v := (-1)) hx hb dX11_nameAt_49 (by decide) ?_
          refine lv_goto (tgt := 57) hx hb dX11_nameAt_50 (by decide) ?_
          exact cr_iret hx hb hr hlk rfl (-1) rfl trivial dX11_nameAt_57
        · have nc_40 := cz_nlt (a := zc.toInt) (b := (0 : Int)) rfl (by decide) c_40
          refine lv_iload_n hx hb dX11_nameAt_42 rfl (lv_at hl 5 rfl) ?_
          refine lv_aload hx hb dX11_nameAt_43 (lv_at hl 0 rfl) ?_
          obtain ⟨hn_42, f_41, hm_43, hfit_44⟩ := id hb_39
          refine va_alen hx hb hK (oneP (C := [(xx, .inr (11, [.ref st, .ref tp, .ref ft, .ref rd, .ref wr, .ref st2, .int zi])), (st, .inr (6, [.ref d, .ref sh, .ref vw, .ref ta, .ref sa, .int (nI n)])), (sh, .inl (κ 4, 3, .inr (.inr (.inr (.inr fs))))), (vw, .inl (κ 5, 3, .inr (.inr (.inr (.inr fv)))))]) hP hm_43) 0 1 rfl rfl (v := nI m_33) rfl dX11_nameAt_45 ?_
          refine lv_icmp_lt (tgt := 53) hx hb dX11_nameAt_46 (by decide) (fun c_45 => ?_) (fun c_45 => ?_)
          · have nc_45 := cz_lt (a := zc.toInt) (b := ((m_33 : Nat) : Int)) rfl (nI_toInt (by omega)) c_45
            refine lv_aload hx hb dX11_nameAt_53 (lv_at hl 0 rfl) ?_
            refine lv_iload_n hx hb dX11_nameAt_55 rfl (lv_at hl 5 rfl) ?_
            obtain ⟨j_46, hj_46, rfl⟩ := i_nat (x := zc) (B := 40) (by omega) (by omega)
            have hz_j_46 : (nI j_46).toInt = ((j_46 : Nat) : Int) := nI_toInt (by omega)
            refine va_bald hx hb hK (oneP (C := [(xx, .inr (11, [.ref st, .ref tp, .ref ft, .ref rd, .ref wr, .ref st2, .int zi])), (st, .inr (6, [.ref d, .ref sh, .ref vw, .ref ta, .ref sa, .int (nI n)])), (sh, .inl (κ 4, 3, .inr (.inr (.inr (.inr fs))))), (vw, .inl (κ 5, 3, .inr (.inr (.inr (.inr fv)))))]) hP hm_43) 0 1 rfl rfl (i := nI j_46) (vp_in_nI (n := j_46) (by omega) (by omega)) dX11_nameAt_56 ?_
            refine kv (v := .int (f_41 j_46)) (by rw [nI_clamp (by omega)]) ?_
            obtain ⟨x_47, ex_47⟩ : ∃ y9 : Int32, f_41 j_46 = y9 := ⟨_, rfl⟩
            refine kv (v := .int x_47) (congrArg Value.int ex_47) ?_
            exact cr_iret hx hb hr hlk rfl x_47 rfl trivial dX11_nameAt_57
          · have nc_45 := cz_nlt (a := zc.toInt) (b := ((m_33 : Nat) : Int)) rfl (nI_toInt (by omega)) c_45
            refine lv_iconst (v := (-1)) hx hb dX11_nameAt_49 (by decide) ?_
            refine lv_goto (tgt := 57) hx hb dX11_nameAt_50 (by decide) ?_
            exact cr_iret hx hb hr hlk rfl (-1) rfl trivial dX11_nameAt_57
      · refine W.eq (g2 := F0 m 21 ls [.int 0]) rfl ?_
        refine lv_if_ne (tgt := 26) hx hb dX11_nameAt_21 (by decide) (fun c_48 => absurd c_48 (by decide)) (fun c_48 => ?_)
        refine lv_iconst (v := (-1)) hx hb dX11_nameAt_24 (by decide) ?_
        exact cr_iret hx hb hr hlk rfl (-1) rfl trivial dX11_nameAt_25
  · skip
    refine lv_aload_n hx hb dX11_nameAt_0 rfl (lv_at hl 0 rfl) ?_
    refine va_get (D := D) (ci := 11) (v := .ref st) (C := RX11) (T := TX11) (N := 7) hx hb hts inlX11 hown hK hP 0 rfl rfl 0 (by decide) (hts _ mw_15) (fun _ h9 => h9) rfl dX11_nameAt_1 ?_
    refine lv_iload_n hx hb dX11_nameAt_4 rfl (lv_at hl 1 rfl) ?_
    refine er_V (As := [.int za]) (rest := []) hFX hKK hE hS (c_X6_sheetOf_x l D κ κq st d sh vw ta sa n za (by assumption)) 1 gV_X11_114 hdV_X6_sheetOf rfl rfl ⟨Nat.le_of_ble_eq_true rfl, Nat.le_of_ble_eq_true rfl⟩ rfl rfl (Nat.le_of_ble_eq_true rfl) dX11_nameAt_5 ⟨Nat.le_of_ble_eq_true rfl, Nat.le_of_ble_eq_true rfl⟩ hl.1 hP 1 6 rfl rfl rfl (subP0 hP [1] rfl) (fun _ hp_49 => ?_)
    refine W.eq (g2 := F0 m 8 ls [.null]) rfl ?_
    refine lv_astoreN (lv' := [(4, .null), (0, .ref xx), (1, .int za), (2, .int zb), (3, .int zc)]) hx hb dX11_nameAt_8 hl (by decide) rfl (fun ls hl => ?_)
    refine lv_aloadN hx hb dX11_nameAt_10 (lv_at hl 0 rfl) ?_
    refine lv_ifnullN (tgt := 24) hx hb dX11_nameAt_12 (by decide) ?_
    refine lv_iconst (v := (-1)) hx hb dX11_nameAt_24 (by decide) ?_
    exact cr_iret hx hb hr hlk rfl (-1) rfl trivial dX11_nameAt_25
set_option maxHeartbeats 4000000 in
set_option maxRecDepth 100000 in
theorem c_X11_proof (l : Launch) (D : va_G) (κ : Nat → ClassId) (κq : Nat → Nat) (im : va_W) (xx : Nat) (tp : Nat) (ft : Nat) (rd : Nat) (wr : Nat) (st2 : Nat) (zi : Int32) (st : Nat) (d : Nat) (sh : Nat) (vw : Nat) (ta : Nat) (sa : Nat) (n : Nat) (fs : Nat → Option Nat) (fv : Nat → Option Nat) (za : Int32) (zb : Int32) (zc : Int32) (zd : Int32) (htb : Tb κ im fs fv 3) : Er l yX11_proof (wl yX11_proof cX11_proof 7 (some .int)) { frames := 3, cells := 0, slots := 0, locals := 67 } D κ κq [.ref xx, .int za, .int zb, .int zc, .int zd] ([(xx, .inr (11, [.ref st, .ref tp, .ref ft, .ref rd, .ref wr, .ref st2, .int zi])), (st, .inr (6, [.ref d, .ref sh, .ref vw, .ref ta, .ref sa, .int (nI n)])), (sh, .inl (κ 4, 3, .inr (.inr (.inr (.inr fs))))), (vw, .inl (κ 5, 3, .inr (.inr (.inr (.inr fv)))))] ++ im) (fun r : Int32 => some (.int r)) (fun r : Int32 => True) := by
  refine er_of (by decide +kernel) (Nat.le_of_ble_eq_true rfl) ?_
  intro p e s m args below meth c A ls hx hb hr hml hts hown hlk hKK hK hP hE hl
  have hS : va_S A s.heap s.heap [] := va_S.rf
  have hP : va_P D vwCl ([(xx, .inr (11, [.ref st, .ref tp, .ref ft, .ref rd, .ref wr, .ref st2, .int zi])), (st, .inr (6, [.ref d, .ref sh, .ref vw, .ref ta, .ref sa, .int (nI n)])), (sh, .inl (κ 4, 3, .inr (.inr (.inr (.inr fs))))), (vw, .inl (κ 5, 3, .inr (.inr (.inr (.inr fv)))))] ++ im) s.heap := hP
  have hFX : FX p s m args c cX11_proof 7 RX11 := ⟨hx, hb, hml, hown, hts⟩
  have hl : lv_has ls 7 [(0, .ref xx), (1, .int za), (2, .int zb), (3, .int zc), (4, .int zd)] := hl
  rcases pl_cases za with ⟨t, ht_t, rfl⟩ | hnp_za
  · skip
    rcases htb t (by omega) with ⟨e_1, e_2⟩ | ⟨a_3, R_4, w_5, d_6, v_7, e_1, e_2, h_8, h_9, hd_10⟩
    · skip
      refine lv_aload_n hx hb dX11_proof_0 rfl (lv_at hl 0 rfl) ?_
      refine va_get (D := D) (ci := 11) (v := .ref st) (C := RX11) (T := TX11) (N := 7) hx hb hts inlX11 hown hK hP 0 rfl rfl 0 (by decide) (hts _ mw_15) (fun _ h9 => h9) rfl dX11_proof_1 ?_
      refine lv_iload_n hx hb dX11_proof_4 rfl (lv_at hl 1 rfl) ?_
      refine er_V (As := [.int (nI t)]) (rest := []) hFX hKK hE hS (c_X6_sheetOf_n l D κ κq st d sh vw ta sa n fs t (by omega) e_1) 1 gV_X11_114 hdV_X6_sheetOf rfl rfl ⟨Nat.le_of_ble_eq_true rfl, Nat.le_of_ble_eq_true rfl⟩ rfl rfl (Nat.le_of_ble_eq_true rfl) dX11_proof_5 ⟨Nat.le_of_ble_eq_true rfl, Nat.le_of_ble_eq_true rfl⟩ hl.1 hP 1 6 rfl rfl rfl (subP0 hP [1, 2] rfl) (fun _ hp_11 => ?_)
      refine W.eq (g2 := F0 m 8 ls [.null]) rfl ?_
      refine lv_astoreN (lv' := [(5, .null), (0, .ref xx), (1, .int (nI t)), (2, .int zb), (3, .int zc), (4, .int zd)]) hx hb dX11_proof_8 hl (by decide) rfl (fun ls hl => ?_)
      refine lv_aloadN hx hb dX11_proof_10 (lv_at hl 0 rfl) ?_
      refine lv_ifnullN (tgt := 24) hx hb dX11_proof_12 (by decide) ?_
      refine lv_iconst (v := (-1)) hx hb dX11_proof_24 (by decide) ?_
      exact cr_iret hx hb hr hlk rfl (-1) rfl trivial dX11_proof_25
    · have hle_a_3 := h_8.le
      refine lv_aload_n hx hb dX11_proof_0 rfl (lv_at hl 0 rfl) ?_
      refine va_get (D := D) (ci := 11) (v := .ref st) (C := RX11) (T := TX11) (N := 7) hx hb hts inlX11 hown hK hP 0 rfl rfl 0 (by decide) (hts _ mw_15) (fun _ h9 => h9) rfl dX11_proof_1 ?_
      refine lv_iload_n hx hb dX11_proof_4 rfl (lv_at hl 1 rfl) ?_
      refine er_V (As := [.int (nI t)]) (rest := []) hFX hKK hE hS (c_X6_sheetOf_s l D κ κq st d sh vw ta sa n fs t a_3 (by omega) e_1) 1 gV_X11_114 hdV_X6_sheetOf rfl rfl ⟨Nat.le_of_ble_eq_true rfl, Nat.le_of_ble_eq_true rfl⟩ rfl rfl (Nat.le_of_ble_eq_true rfl) dX11_proof_5 ⟨Nat.le_of_ble_eq_true rfl, Nat.le_of_ble_eq_true rfl⟩ hl.1 hP 1 6 rfl rfl rfl (subP0 hP [1, 2] rfl) (fun _ hp_12 => ?_)
      refine W.eq (g2 := F0 m 8 ls [.ref a_3]) rfl ?_
      refine lv_astore (lv' := [(5, .ref a_3), (0, .ref xx), (1, .int (nI t)), (2, .int zb), (3, .int zc), (4, .int zd)]) hx hb dX11_proof_8 hl (by decide) rfl (fun ls hl => ?_)
      refine lv_aload hx hb dX11_proof_10 (lv_at hl 0 rfl) ?_
      refine lv_ifnull hx hb dX11_proof_12 ?_
      refine lv_aload hx hb dX11_proof_15 (lv_at hl 0 rfl) ?_
      refine lv_iload_n hx hb dX11_proof_17 rfl (lv_at hl 3 rfl) ?_
      obtain ⟨hb_15, c_16, x_17, v_18, g_19, h_20, hm_21, hm_22, hm_23, lo_24, lc_25, vw_26⟩ := id h_8
      obtain ⟨hb_15_1, hb_15_2, hb_15_3⟩ := hb_15
      have hrw_hb_15 := rw_le hb_15_1 hb_15_3
      refine er_V (As := [.int zb]) (rest := []) hFX hKK hE hS (c_X5_hasColumn l D κ κq im a_3 R_4 w_5 zb h_8) 1 gV_X11_161 hdV_X5_hasColumn rfl rfl ⟨Nat.le_of_ble_eq_true rfl, Nat.le_of_ble_eq_true rfl⟩ rfl rfl (Nat.le_of_ble_eq_true rfl) dX11_proof_18 ⟨Nat.le_of_ble_eq_true rfl, Nat.le_of_ble_eq_true rfl⟩ hl.1 (oneP (C := [(xx, .inr (11, [.ref st, .ref tp, .ref ft, .ref rd, .ref wr, .ref st2, .int zi])), (st, .inr (6, [.ref d, .ref sh, .ref vw, .ref ta, .ref sa, .int (nI n)])), (sh, .inl (κ 4, 3, .inr (.inr (.inr (.inr fs))))), (vw, .inl (κ 5, 3, .inr (.inr (.inr (.inr fv)))))]) hP hm_21) 0 5 rfl rfl rfl (subP hP [] rfl) (fun r__13 hp_14 => ?_)
      replace hp_14 : ((r__13 = 1 ∧ (∃ j : Nat, j < w_5 ∧ zb = nI j)) ∨ (r__13 = 0)) := hp_14
      have ha_27 := hp_14
      clear hp_14
      rcases ha_27 with ⟨rfl, ⟨j_28, hj_28, rfl⟩⟩ | rfl
      · refine W.eq (g2 := F0 m 21 ls [.int 1]) rfl ?_
        refine lv_if_ne (tgt := 26) hx hb dX11_proof_21 (by decide) (fun c_30 => ?_) (fun c_30 => absurd c_30 (by decide))
        refine lv_aload hx hb dX11_proof_26 (lv_at hl 0 rfl) ?_
        refine lv_iload_n hx hb dX11_proof_28 rfl (lv_at hl 3 rfl) ?_
        refine lv_iload_n hx hb dX11_proof_29 rfl (lv_at hl 4 rfl) ?_
        refine er_V (As := [.int (nI j_28), .int zc]) (rest := []) hFX hKK hE hS (c_X5_proofRow l D κ κq im a_3 R_4 w_5 j_28 zc h_8 (by omega)) 2 gV_X11_283 hdV_X5_proofRow rfl rfl ⟨Nat.le_of_ble_eq_true rfl, Nat.le_of_ble_eq_true rfl⟩ rfl rfl (Nat.le_of_ble_eq_true rfl) dX11_proof_30 ⟨Nat.le_of_ble_eq_true rfl, Nat.le_of_ble_eq_true rfl⟩ hl.1 (oneP (C := [(xx, .inr (11, [.ref st, .ref tp, .ref ft, .ref rd, .ref wr, .ref st2, .int zi])), (st, .inr (6, [.ref d, .ref sh, .ref vw, .ref ta, .ref sa, .int (nI n)])), (sh, .inl (κ 4, 3, .inr (.inr (.inr (.inr fs))))), (vw, .inl (κ 5, 3, .inr (.inr (.inr (.inr fv)))))]) hP hm_21) 0 5 rfl rfl rfl (subP hP [] rfl) (fun r__31 hp_32 => ?_)
        replace hp_32 : (r__31 = -1 ∨ ∃ j : Nat, j < R_4 ∧ r__31 = nI j) := hp_32
        have h_33 := hp_32
        clear hp_32
        refine W.eq (g2 := F0 m 33 ls [.int r__31]) rfl ?_
        refine lv_istore (lv' := [(6, .int r__31), (5, .ref a_3), (0, .ref xx), (1, .int (nI t)), (2, .int (nI j_28)), (3, .int zc), (4, .int zd)]) hx hb dX11_proof_33 hl (by decide) rfl (fun ls hl => ?_)
        refine lv_iload hx hb dX11_proof_35 (lv_at hl 0 rfl) ?_
        refine lv_iconst (v := (-1)) hx hb dX11_proof_37 (by decide) ?_
        refine lv_icmp_eq (tgt := 52) hx hb dX11_proof_38 (by decide) (fun c_34 => ?_) (fun c_34 => ?_)
        · refine lv_iconst (v := (-1)) hx hb dX11_proof_52 (by decide) ?_
          exact cr_iret hx hb hr hlk rfl (-1) rfl trivial dX11_proof_53
        · obtain ⟨j_35, hj_35, rfl⟩ := Or.resolve_left h_33 c_34
          refine lv_iload hx hb dX11_proof_41 (lv_at hl 6 rfl) ?_
          refine lv_if_lt (tgt := 52) hx hb dX11_proof_43 (by decide) (fun c_36 => ?_) (fun c_36 => ?_)
          · refine lv_iconst (v := (-1)) hx hb dX11_proof_52 (by decide) ?_
            exact cr_iret hx hb hr hlk rfl (-1) rfl trivial dX11_proof_53
          · refine lv_iload hx hb dX11_proof_46 (lv_at hl 6 rfl) ?_
            refine lv_iconst (v := 1) hx hb dX11_proof_48 (by decide) ?_
            refine lv_icmp_le (tgt := 54) hx hb dX11_proof_49 (by decide) (fun c_37 => ?_) (fun c_37 => ?_)
            · refine lv_iload hx hb dX11_proof_54 (lv_at hl 6 rfl) ?_
              refine lv_if_ne (tgt := 64) hx hb dX11_proof_56 (by decide) (fun c_38 => ?_) (fun c_38 => ?_)
              · refine lv_aload hx hb dX11_proof_64 (lv_at hl 1 rfl) ?_
                refine lv_iload_n hx hb dX11_proof_66 rfl (lv_at hl 4 rfl) ?_
                refine lv_iload hx hb dX11_proof_67 (lv_at hl 0 rfl) ?_
                refine lv_iconst (v := 1) hx hb dX11_proof_69 (by decide) ?_
                refine lv_iadd hx hb dX11_proof_70 ?_
                refine ki (v := (nI (j_35 + 1))) (nI_add j_35 1) ?_
                refine er_V (As := [.int (nI j_28), .int (nI (j_35 + 1))]) (rest := []) hFX hKK hE hS (c_X5_guessTo l D κ κq im a_3 R_4 w_5 j_28 (j_35 + 1) h_8 (by omega) (by omega)) 2 gV_X11_274 hdV_X5_guessTo rfl rfl ⟨Nat.le_of_ble_eq_true rfl, Nat.le_of_ble_eq_true rfl⟩ rfl rfl (Nat.le_of_ble_eq_true rfl) dX11_proof_71 ⟨Nat.le_of_ble_eq_true rfl, Nat.le_of_ble_eq_true rfl⟩ hl.1 (oneP (C := [(xx, .inr (11, [.ref st, .ref tp, .ref ft, .ref rd, .ref wr, .ref st2, .int zi])), (st, .inr (6, [.ref d, .ref sh, .ref vw, .ref ta, .ref sa, .int (nI n)])), (sh, .inl (κ 4, 3, .inr (.inr (.inr (.inr fs))))), (vw, .inl (κ 5, 3, .inr (.inr (.inr (.inr fv)))))]) hP hm_21) 0 5 rfl rfl rfl (subP hP [] rfl) (fun r__39 hp_40 => ?_)
                replace hp_40 : r__39 ≤ 5 := hp_40
                have h_41 := hp_40
                clear hp_40
                refine W.eq (g2 := F0 m 74 ls [.int (nI r__39)]) rfl ?_
                exact cr_iret hx hb hr hlk rfl (nI r__39) rfl trivial dX11_proof_74
              · refine lv_iload hx hb dX11_proof_59 (lv_at hl 0 rfl) ?_
                refine lv_goto (tgt := 74) hx hb dX11_proof_61 (by decide) ?_
                exact cr_iret hx hb hr hlk rfl (nI j_35) rfl trivial dX11_proof_74
            · refine lv_iconst (v := (-1)) hx hb dX11_proof_52 (by decide) ?_
              exact cr_iret hx hb hr hlk rfl (-1) rfl trivial dX11_proof_53
      · refine W.eq (g2 := F0 m 21 ls [.int 0]) rfl ?_
        refine lv_if_ne (tgt := 26) hx hb dX11_proof_21 (by decide) (fun c_42 => absurd c_42 (by decide)) (fun c_42 => ?_)
        refine lv_iconst (v := (-1)) hx hb dX11_proof_24 (by decide) ?_
        exact cr_iret hx hb hr hlk rfl (-1) rfl trivial dX11_proof_25
  · skip
    refine lv_aload_n hx hb dX11_proof_0 rfl (lv_at hl 0 rfl) ?_
    refine va_get (D := D) (ci := 11) (v := .ref st) (C := RX11) (T := TX11) (N := 7) hx hb hts inlX11 hown hK hP 0 rfl rfl 0 (by decide) (hts _ mw_15) (fun _ h9 => h9) rfl dX11_proof_1 ?_
    refine lv_iload_n hx hb dX11_proof_4 rfl (lv_at hl 1 rfl) ?_
    refine er_V (As := [.int za]) (rest := []) hFX hKK hE hS (c_X6_sheetOf_x l D κ κq st d sh vw ta sa n za (by assumption)) 1 gV_X11_114 hdV_X6_sheetOf rfl rfl ⟨Nat.le_of_ble_eq_true rfl, Nat.le_of_ble_eq_true rfl⟩ rfl rfl (Nat.le_of_ble_eq_true rfl) dX11_proof_5 ⟨Nat.le_of_ble_eq_true rfl, Nat.le_of_ble_eq_true rfl⟩ hl.1 hP 1 6 rfl rfl rfl (subP0 hP [1] rfl) (fun _ hp_43 => ?_)
    refine W.eq (g2 := F0 m 8 ls [.null]) rfl ?_
    refine lv_astoreN (lv' := [(5, .null), (0, .ref xx), (1, .int za), (2, .int zb), (3, .int zc), (4, .int zd)]) hx hb dX11_proof_8 hl (by decide) rfl (fun ls hl => ?_)
    refine lv_aloadN hx hb dX11_proof_10 (lv_at hl 0 rfl) ?_
    refine lv_ifnullN (tgt := 24) hx hb dX11_proof_12 (by decide) ?_
    refine lv_iconst (v := (-1)) hx hb dX11_proof_24 (by decide) ?_
    exact cr_iret hx hb hr hlk rfl (-1) rfl trivial dX11_proof_25
set_option maxHeartbeats 4000000 in
set_option maxRecDepth 100000 in
theorem c_X11_against (l : Launch) (D : va_G) (κ : Nat → ClassId) (κq : Nat → Nat) (im : va_W) (xx : Nat) (tp : Nat) (ft : Nat) (rd : Nat) (wr : Nat) (st2 : Nat) (zi : Int32) (st : Nat) (d : Nat) (sh : Nat) (vw : Nat) (ta : Nat) (sa : Nat) (n : Nat) (fs : Nat → Option Nat) (fv : Nat → Option Nat) (za : Int32) (zb : Int32) (zc : Int32) (htb : Tb κ im fs fv 3) : Er l yX11_against (wl yX11_against cX11_against 5 (some .int)) { frames := 4, cells := 0, slots := 0, locals := 85 } D κ κq [.ref xx, .int za, .int zb, .int zc] ([(xx, .inr (11, [.ref st, .ref tp, .ref ft, .ref rd, .ref wr, .ref st2, .int zi])), (st, .inr (6, [.ref d, .ref sh, .ref vw, .ref ta, .ref sa, .int (nI n)])), (sh, .inl (κ 4, 3, .inr (.inr (.inr (.inr fs))))), (vw, .inl (κ 5, 3, .inr (.inr (.inr (.inr fv)))))] ++ im) (fun r : Int32 => some (.int r)) (fun r : Int32 => True) := by
  refine er_of (by decide +kernel) (Nat.le_of_ble_eq_true rfl) ?_
  intro p e s m args below meth c A ls hx hb hr hml hts hown hlk hKK hK hP hE hl
  have hS : va_S A s.heap s.heap [] := va_S.rf
  have hP : va_P D vwCl ([(xx, .inr (11, [.ref st, .ref tp, .ref ft, .ref rd, .ref wr, .ref st2, .int zi])), (st, .inr (6, [.ref d, .ref sh, .ref vw, .ref ta, .ref sa, .int (nI n)])), (sh, .inl (κ 4, 3, .inr (.inr (.inr (.inr fs))))), (vw, .inl (κ 5, 3, .inr (.inr (.inr (.inr fv)))))] ++ im) s.heap := hP
  have hFX : FX p s m args c cX11_against 5 RX11 := ⟨hx, hb, hml, hown, hts⟩
  have hl : lv_has ls 5 [(0, .ref xx), (1, .int za), (2, .int zb), (3, .int zc)] := hl
  rcases pl_cases za with ⟨t, ht_t, rfl⟩ | hnp_za
  · skip
    rcases htb t (by omega) with ⟨e_1, e_2⟩ | ⟨a_3, R_4, w_5, d_6, v_7, e_1, e_2, h_8, h_9, hd_10⟩
    · skip
      refine lv_aload_n hx hb dX11_against_0 rfl (lv_at hl 0 rfl) ?_
      refine va_get (D := D) (ci := 11) (v := .ref st) (C := RX11) (T := TX11) (N := 7) hx hb hts inlX11 hown hK hP 0 rfl rfl 0 (by decide) (hts _ mw_15) (fun _ h9 => h9) rfl dX11_against_1 ?_
      refine lv_iload_n hx hb dX11_against_4 rfl (lv_at hl 1 rfl) ?_
      refine er_V (As := [.int (nI t)]) (rest := []) hFX hKK hE hS (c_X6_sheetOf_n l D κ κq st d sh vw ta sa n fs t (by omega) e_1) 1 gV_X11_114 hdV_X6_sheetOf rfl rfl ⟨Nat.le_of_ble_eq_true rfl, Nat.le_of_ble_eq_true rfl⟩ rfl rfl (Nat.le_of_ble_eq_true rfl) dX11_against_5 ⟨Nat.le_of_ble_eq_true rfl, Nat.le_of_ble_eq_true rfl⟩ hl.1 hP 1 6 rfl rfl rfl (subP0 hP [1, 2] rfl) (fun _ hp_11 => ?_)
      refine W.eq (g2 := F0 m 8 ls [.null]) rfl ?_
      refine lv_astoreN (lv' := [(4, .null), (0, .ref xx), (1, .int (nI t)), (2, .int zb), (3, .int zc)]) hx hb dX11_against_8 hl (by decide) rfl (fun ls hl => ?_)
      refine lv_aloadN hx hb dX11_against_10 (lv_at hl 0 rfl) ?_
      refine lv_ifnullN (tgt := 33) hx hb dX11_against_12 (by decide) ?_
      refine lv_iconst (v := (-1)) hx hb dX11_against_33 (by decide) ?_
      exact cr_iret hx hb hr hlk rfl (-1) rfl trivial dX11_against_34
    · have hle_a_3 := h_8.le
      refine lv_aload_n hx hb dX11_against_0 rfl (lv_at hl 0 rfl) ?_
      refine va_get (D := D) (ci := 11) (v := .ref st) (C := RX11) (T := TX11) (N := 7) hx hb hts inlX11 hown hK hP 0 rfl rfl 0 (by decide) (hts _ mw_15) (fun _ h9 => h9) rfl dX11_against_1 ?_
      refine lv_iload_n hx hb dX11_against_4 rfl (lv_at hl 1 rfl) ?_
      refine er_V (As := [.int (nI t)]) (rest := []) hFX hKK hE hS (c_X6_sheetOf_s l D κ κq st d sh vw ta sa n fs t a_3 (by omega) e_1) 1 gV_X11_114 hdV_X6_sheetOf rfl rfl ⟨Nat.le_of_ble_eq_true rfl, Nat.le_of_ble_eq_true rfl⟩ rfl rfl (Nat.le_of_ble_eq_true rfl) dX11_against_5 ⟨Nat.le_of_ble_eq_true rfl, Nat.le_of_ble_eq_true rfl⟩ hl.1 hP 1 6 rfl rfl rfl (subP0 hP [1, 2] rfl) (fun _ hp_12 => ?_)
      refine W.eq (g2 := F0 m 8 ls [.ref a_3]) rfl ?_
      refine lv_astore (lv' := [(4, .ref a_3), (0, .ref xx), (1, .int (nI t)), (2, .int zb), (3, .int zc)]) hx hb dX11_against_8 hl (by decide) rfl (fun ls hl => ?_)
      refine lv_aload hx hb dX11_against_10 (lv_at hl 0 rfl) ?_
      refine lv_ifnull hx hb dX11_against_12 ?_
      refine lv_aload hx hb dX11_against_15 (lv_at hl 0 rfl) ?_
      refine lv_iload_n hx hb dX11_against_17 rfl (lv_at hl 3 rfl) ?_
      obtain ⟨hb_15, c_16, x_17, v_18, g_19, h_20, hm_21, hm_22, hm_23, lo_24, lc_25, vw_26⟩ := id h_8
      obtain ⟨hb_15_1, hb_15_2, hb_15_3⟩ := hb_15
      have hrw_hb_15 := rw_le hb_15_1 hb_15_3
      refine er_V (As := [.int zb]) (rest := []) hFX hKK hE hS (c_X5_hasColumn l D κ κq im a_3 R_4 w_5 zb h_8) 1 gV_X11_161 hdV_X5_hasColumn rfl rfl ⟨Nat.le_of_ble_eq_true rfl, Nat.le_of_ble_eq_true rfl⟩ rfl rfl (Nat.le_of_ble_eq_true rfl) dX11_against_18 ⟨Nat.le_of_ble_eq_true rfl, Nat.le_of_ble_eq_true rfl⟩ hl.1 (oneP (C := [(xx, .inr (11, [.ref st, .ref tp, .ref ft, .ref rd, .ref wr, .ref st2, .int zi])), (st, .inr (6, [.ref d, .ref sh, .ref vw, .ref ta, .ref sa, .int (nI n)])), (sh, .inl (κ 4, 3, .inr (.inr (.inr (.inr fs))))), (vw, .inl (κ 5, 3, .inr (.inr (.inr (.inr fv)))))]) hP hm_21) 0 5 rfl rfl rfl (subP hP [] rfl) (fun r__13 hp_14 => ?_)
      replace hp_14 : ((r__13 = 1 ∧ (∃ j : Nat, j < w_5 ∧ zb = nI j)) ∨ (r__13 = 0)) := hp_14
      have ha_27 := hp_14
      clear hp_14
      rcases ha_27 with ⟨rfl, ⟨j_28, hj_28, rfl⟩⟩ | rfl
      · refine W.eq (g2 := F0 m 21 ls [.int 1]) rfl ?_
        refine lv_if_eq (tgt := 33) hx hb dX11_against_21 (by decide) (fun c_30 => absurd c_30 (by decide)) (fun c_30 => ?_)
        refine lv_iload_n hx hb dX11_against_24 rfl (lv_at hl 4 rfl) ?_
        refine lv_if_lt (tgt := 33) hx hb dX11_against_25 (by decide) (fun c_31 => ?_) (fun c_31 => ?_)
        · have nc_31 := cz_lt (a := zc.toInt) (b := (0 : Int)) rfl (by decide) c_31
          refine lv_iconst (v := (-1)) hx hb dX11_against_33 (by decide) ?_
          exact cr_iret hx hb hr hlk rfl (-1) rfl trivial dX11_against_34
        · have nc_31 := cz_nlt (a := zc.toInt) (b := (0 : Int)) rfl (by decide) c_31
          refine lv_iload_n hx hb dX11_against_28 rfl (lv_at hl 4 rfl) ?_
          refine lv_iconst (v := 5) hx hb dX11_against_29 (by decide) ?_
          refine lv_icmp_le (tgt := 35) hx hb dX11_against_30 (by decide) (fun c_32 => ?_) (fun c_32 => ?_)
          · have nc_32 := cz_le (a := zc.toInt) (b := (5 : Int)) rfl (by decide) c_32
            refine lv_aload hx hb dX11_against_35 (lv_at hl 0 rfl) ?_
            refine lv_iload_n hx hb dX11_against_37 rfl (lv_at hl 3 rfl) ?_
            refine lv_iload_n hx hb dX11_against_38 rfl (lv_at hl 4 rfl) ?_
            obtain ⟨j_33, hj_33, rfl⟩ := i_nat (x := zc) (B := 5) (by omega) (by omega)
            have hz_j_33 : (nI j_33).toInt = ((j_33 : Nat) : Int) := nI_toInt (by omega)
            refine er_V (As := [.int (nI j_28), .int (nI j_33)]) (rest := []) hFX hKK hE hS (c_X5_firstNotHeld l D κ κq im a_3 R_4 w_5 j_28 j_33 h_8 (by omega) (by omega)) 2 gV_X11_286 hdV_X5_firstNotHeld rfl rfl ⟨Nat.le_of_ble_eq_true rfl, Nat.le_of_ble_eq_true rfl⟩ rfl rfl (Nat.le_of_ble_eq_true rfl) dX11_against_39 ⟨Nat.le_of_ble_eq_true rfl, Nat.le_of_ble_eq_true rfl⟩ hl.1 (oneP (C := [(xx, .inr (11, [.ref st, .ref tp, .ref ft, .ref rd, .ref wr, .ref st2, .int zi])), (st, .inr (6, [.ref d, .ref sh, .ref vw, .ref ta, .ref sa, .int (nI n)])), (sh, .inl (κ 4, 3, .inr (.inr (.inr (.inr fs))))), (vw, .inl (κ 5, 3, .inr (.inr (.inr (.inr fv)))))]) hP hm_21) 0 5 rfl rfl rfl (subP hP [] rfl) (fun r__34 hp_35 => ?_)
            refine W.eq (g2 := F0 m 42 ls [.int r__34]) rfl ?_
            exact cr_iret hx hb hr hlk rfl r__34 rfl trivial dX11_against_42
          · have nc_32 := cz_nle (a := zc.toInt) (b := (5 : Int)) rfl (by decide) c_32
            refine lv_iconst (v := (-1)) hx hb dX11_against_33 (by decide) ?_
            exact cr_iret hx hb hr hlk rfl (-1) rfl trivial dX11_against_34
      · refine W.eq (g2 := F0 m 21 ls [.int 0]) rfl ?_
        refine lv_if_eq (tgt := 33) hx hb dX11_against_21 (by decide) (fun c_36 => ?_) (fun c_36 => absurd (by decide) c_36)
        refine lv_iconst (v := (-1)) hx hb dX11_against_33 (by decide) ?_
        exact cr_iret hx hb hr hlk rfl (-1) rfl trivial dX11_against_34
  · skip
    refine lv_aload_n hx hb dX11_against_0 rfl (lv_at hl 0 rfl) ?_
    refine va_get (D := D) (ci := 11) (v := .ref st) (C := RX11) (T := TX11) (N := 7) hx hb hts inlX11 hown hK hP 0 rfl rfl 0 (by decide) (hts _ mw_15) (fun _ h9 => h9) rfl dX11_against_1 ?_
    refine lv_iload_n hx hb dX11_against_4 rfl (lv_at hl 1 rfl) ?_
    refine er_V (As := [.int za]) (rest := []) hFX hKK hE hS (c_X6_sheetOf_x l D κ κq st d sh vw ta sa n za (by assumption)) 1 gV_X11_114 hdV_X6_sheetOf rfl rfl ⟨Nat.le_of_ble_eq_true rfl, Nat.le_of_ble_eq_true rfl⟩ rfl rfl (Nat.le_of_ble_eq_true rfl) dX11_against_5 ⟨Nat.le_of_ble_eq_true rfl, Nat.le_of_ble_eq_true rfl⟩ hl.1 hP 1 6 rfl rfl rfl (subP0 hP [1] rfl) (fun _ hp_37 => ?_)
    refine W.eq (g2 := F0 m 8 ls [.null]) rfl ?_
    refine lv_astoreN (lv' := [(4, .null), (0, .ref xx), (1, .int za), (2, .int zb), (3, .int zc)]) hx hb dX11_against_8 hl (by decide) rfl (fun ls hl => ?_)
    refine lv_aloadN hx hb dX11_against_10 (lv_at hl 0 rfl) ?_
    refine lv_ifnullN (tgt := 33) hx hb dX11_against_12 (by decide) ?_
    refine lv_iconst (v := (-1)) hx hb dX11_against_33 (by decide) ?_
    exact cr_iret hx hb hr hlk rfl (-1) rfl trivial dX11_against_34
set_option maxHeartbeats 4000000 in
set_option maxRecDepth 100000 in
theorem c_X11_cell (l : Launch) (D : va_G) (κ : Nat → ClassId) (κq : Nat → Nat) (im : va_W) (xx : Nat) (tp : Nat) (ft : Nat) (rd : Nat) (wr : Nat) (st2 : Nat) (zi : Int32) (st : Nat) (d : Nat) (sh : Nat) (vw : Nat) (ta : Nat) (sa : Nat) (n : Nat) (fs : Nat → Option Nat) (fv : Nat → Option Nat) (wb : Nat) (Lw : Nat) (dl : Nat → Int32) (za : Int32) (zb : Int32) (zc : Int32) (zd : Int32) (htb : Tb κ im fs fv 3) : Er l yX11_cell (wl yX11_cell cX11_cell 7 (some .int)) { frames := 2, cells := 0, slots := 0, locals := 43 } D κ κq [.ref xx, .int za, .int zb, .int zc, .int zd] ([(xx, .inr (11, [.ref st, .ref tp, .ref ft, .ref rd, .ref wr, .ref st2, .int zi])), (st, .inr (6, [.ref d, .ref sh, .ref vw, .ref ta, .ref sa, .int (nI n)])), (sh, .inl (κ 4, 3, .inr (.inr (.inr (.inr fs))))), (vw, .inl (κ 5, 3, .inr (.inr (.inr (.inr fv))))), (wr, .inr (10, [.ref d, .ref wb, .int (nI Lw)])), (d, .inl (κ 0, 6, .inl dl))] ++ im) (fun r : Int32 => some (.int r)) (fun r : Int32 => True) := by
  refine er_of (by decide +kernel) (Nat.le_of_ble_eq_true rfl) ?_
  intro p e s m args below meth c A ls hx hb hr hml hts hown hlk hKK hK hP hE hl
  have hS : va_S A s.heap s.heap [] := va_S.rf
  have hP : va_P D vwCl ([(xx, .inr (11, [.ref st, .ref tp, .ref ft, .ref rd, .ref wr, .ref st2, .int zi])), (st, .inr (6, [.ref d, .ref sh, .ref vw, .ref ta, .ref sa, .int (nI n)])), (sh, .inl (κ 4, 3, .inr (.inr (.inr (.inr fs))))), (vw, .inl (κ 5, 3, .inr (.inr (.inr (.inr fv))))), (wr, .inr (10, [.ref d, .ref wb, .int (nI Lw)])), (d, .inl (κ 0, 6, .inl dl))] ++ im) s.heap := hP
  have hFX : FX p s m args c cX11_cell 7 RX11 := ⟨hx, hb, hml, hown, hts⟩
  have hl : lv_has ls 7 [(0, .ref xx), (1, .int za), (2, .int zb), (3, .int zc), (4, .int zd)] := hl
  rcases pl_cases za with ⟨t, ht_t, rfl⟩ | hnp_za
  · skip
    rcases htb t (by omega) with ⟨e_1, e_2⟩ | ⟨a_3, R_4, w_5, d_6, v_7, e_1, e_2, h_8, h_9, hd_10⟩
    · skip
      refine lv_aload_n hx hb dX11_cell_0 rfl (lv_at hl 0 rfl) ?_
      refine va_get (D := D) (ci := 11) (v := .ref st) (C := RX11) (T := TX11) (N := 7) hx hb hts inlX11 hown hK hP 0 rfl rfl 0 (by decide) (hts _ mw_15) (fun _ h9 => h9) rfl dX11_cell_1 ?_
      refine lv_iload_n hx hb dX11_cell_4 rfl (lv_at hl 1 rfl) ?_
      refine er_V (As := [.int (nI t)]) (rest := []) hFX hKK hE hS (c_X6_sheetOf_n l D κ κq st d sh vw ta sa n fs t (by omega) e_1) 1 gV_X11_114 hdV_X6_sheetOf rfl rfl ⟨Nat.le_of_ble_eq_true rfl, Nat.le_of_ble_eq_true rfl⟩ rfl rfl (Nat.le_of_ble_eq_true rfl) dX11_cell_5 ⟨Nat.le_of_ble_eq_true rfl, Nat.le_of_ble_eq_true rfl⟩ hl.1 hP 1 6 rfl rfl rfl (subP0 hP [1, 2] rfl) (fun _ hp_11 => ?_)
      refine W.eq (g2 := F0 m 8 ls [.null]) rfl ?_
      refine lv_astoreN (lv' := [(5, .null), (0, .ref xx), (1, .int (nI t)), (2, .int zb), (3, .int zc), (4, .int zd)]) hx hb dX11_cell_8 hl (by decide) rfl (fun ls hl => ?_)
      refine lv_aloadN hx hb dX11_cell_10 (lv_at hl 0 rfl) ?_
      refine lv_ifnullN (tgt := 25) hx hb dX11_cell_12 (by decide) ?_
      refine lv_iconst (v := (-1)) hx hb dX11_cell_25 (by decide) ?_
      exact cr_iret hx hb hr hlk rfl (-1) rfl trivial dX11_cell_26
    · have hle_a_3 := h_8.le
      refine lv_aload_n hx hb dX11_cell_0 rfl (lv_at hl 0 rfl) ?_
      refine va_get (D := D) (ci := 11) (v := .ref st) (C := RX11) (T := TX11) (N := 7) hx hb hts inlX11 hown hK hP 0 rfl rfl 0 (by decide) (hts _ mw_15) (fun _ h9 => h9) rfl dX11_cell_1 ?_
      refine lv_iload_n hx hb dX11_cell_4 rfl (lv_at hl 1 rfl) ?_
      refine er_V (As := [.int (nI t)]) (rest := []) hFX hKK hE hS (c_X6_sheetOf_s l D κ κq st d sh vw ta sa n fs t a_3 (by omega) e_1) 1 gV_X11_114 hdV_X6_sheetOf rfl rfl ⟨Nat.le_of_ble_eq_true rfl, Nat.le_of_ble_eq_true rfl⟩ rfl rfl (Nat.le_of_ble_eq_true rfl) dX11_cell_5 ⟨Nat.le_of_ble_eq_true rfl, Nat.le_of_ble_eq_true rfl⟩ hl.1 hP 1 6 rfl rfl rfl (subP0 hP [1, 2] rfl) (fun _ hp_12 => ?_)
      refine W.eq (g2 := F0 m 8 ls [.ref a_3]) rfl ?_
      refine lv_astore (lv' := [(5, .ref a_3), (0, .ref xx), (1, .int (nI t)), (2, .int zb), (3, .int zc), (4, .int zd)]) hx hb dX11_cell_8 hl (by decide) rfl (fun ls hl => ?_)
      refine lv_aload hx hb dX11_cell_10 (lv_at hl 0 rfl) ?_
      refine lv_ifnull hx hb dX11_cell_12 ?_
      refine lv_aload hx hb dX11_cell_15 (lv_at hl 0 rfl) ?_
      refine lv_iload_n hx hb dX11_cell_17 rfl (lv_at hl 3 rfl) ?_
      refine lv_iload_n hx hb dX11_cell_18 rfl (lv_at hl 4 rfl) ?_
      obtain ⟨hb_15, c_16, x_17, v_18, g_19, h_20, hm_21, hm_22, hm_23, lo_24, lc_25, vw_26⟩ := id h_8
      obtain ⟨hb_15_1, hb_15_2, hb_15_3⟩ := hb_15
      have hrw_hb_15 := rw_le hb_15_1 hb_15_3
      refine er_V (As := [.int zb, .int zc]) (rest := []) hFX hKK hE hS (c_X5_hasCell l D κ κq im a_3 R_4 w_5 zb zc h_8) 2 gV_X11_118 hdV_X5_hasCell rfl rfl ⟨Nat.le_of_ble_eq_true rfl, Nat.le_of_ble_eq_true rfl⟩ rfl rfl (Nat.le_of_ble_eq_true rfl) dX11_cell_19 ⟨Nat.le_of_ble_eq_true rfl, Nat.le_of_ble_eq_true rfl⟩ hl.1 (oneP (C := [(xx, .inr (11, [.ref st, .ref tp, .ref ft, .ref rd, .ref wr, .ref st2, .int zi])), (st, .inr (6, [.ref d, .ref sh, .ref vw, .ref ta, .ref sa, .int (nI n)])), (sh, .inl (κ 4, 3, .inr (.inr (.inr (.inr fs))))), (vw, .inl (κ 5, 3, .inr (.inr (.inr (.inr fv))))), (wr, .inr (10, [.ref d, .ref wb, .int (nI Lw)])), (d, .inl (κ 0, 6, .inl dl))]) hP hm_21) 0 5 rfl rfl rfl (subP hP [] rfl) (fun r__13 hp_14 => ?_)
      replace hp_14 : ((r__13 = 1 ∧ (∃ j : Nat, j < R_4 ∧ zb = nI j) ∧ (∃ k : Nat, k < w_5 ∧ zc = nI k)) ∨ (r__13 = 0)) := hp_14
      have ha_27 := hp_14
      clear hp_14
      rcases ha_27 with ⟨rfl, ⟨j_28, hj_28, rfl⟩, ⟨k_30, hk_30, rfl⟩⟩ | rfl
      · refine W.eq (g2 := F0 m 22 ls [.int 1]) rfl ?_
        refine lv_if_ne (tgt := 27) hx hb dX11_cell_22 (by decide) (fun c_32 => ?_) (fun c_32 => absurd c_32 (by decide))
        refine lv_aload hx hb dX11_cell_27 (lv_at hl 0 rfl) ?_
        refine lv_iload_n hx hb dX11_cell_29 rfl (lv_at hl 3 rfl) ?_
        refine lv_iload_n hx hb dX11_cell_30 rfl (lv_at hl 4 rfl) ?_
        refine er_V (As := [.int (nI j_28), .int (nI k_30)]) (rest := []) hFX hKK hE hS (c_X5_cellOf l D κ κq im a_3 R_4 w_5 j_28 k_30 h_8 (by omega) (by omega)) 2 gV_X11_289 hdV_X5_cellOf rfl rfl ⟨Nat.le_of_ble_eq_true rfl, Nat.le_of_ble_eq_true rfl⟩ rfl rfl (Nat.le_of_ble_eq_true rfl) dX11_cell_31 ⟨Nat.le_of_ble_eq_true rfl, Nat.le_of_ble_eq_true rfl⟩ hl.1 (oneP (C := [(xx, .inr (11, [.ref st, .ref tp, .ref ft, .ref rd, .ref wr, .ref st2, .int zi])), (st, .inr (6, [.ref d, .ref sh, .ref vw, .ref ta, .ref sa, .int (nI n)])), (sh, .inl (κ 4, 3, .inr (.inr (.inr (.inr fs))))), (vw, .inl (κ 5, 3, .inr (.inr (.inr (.inr fv))))), (wr, .inr (10, [.ref d, .ref wb, .int (nI Lw)])), (d, .inl (κ 0, 6, .inl dl))]) hP hm_21) 0 5 rfl rfl rfl (subP hP [] rfl) (fun r__33 hp_34 => ?_)
        replace hp_34 : ((∃ (q : Nat), ∃ (k : Nat), ∃ (m : Nat), r__33 = some q ∧ Cl κ im q k m)) := hp_34
        have ha_35 := hp_34
        clear hp_34
        rcases ha_35 with ⟨q__36, k__37, m__38, rfl, a_39⟩
        · refine W.eq (g2 := F0 m 34 ls [.ref q__36]) rfl ?_
          refine lv_astore (lv' := [(6, .ref q__36), (5, .ref a_3), (0, .ref xx), (1, .int (nI t)), (2, .int (nI j_28)), (3, .int (nI k_30)), (4, .int zd)]) hx hb dX11_cell_34 hl (by decide) rfl (fun ls hl => ?_)
          refine lv_iload hx hb dX11_cell_36 (lv_at hl 6 rfl) ?_
          rcases Classical.em (zd.toInt < 0 ∨ 2 < zd.toInt) with c_40 | c_40
          · refine lv_tableOut (tgt := 102) hx hb dX11_cell_38 c_40 (by decide) ?_
            refine lv_iconst (v := (-1)) hx hb dX11_cell_102 (by decide) ?_
            exact cr_iret hx hb hr hlk rfl (-1) rfl trivial dX11_cell_103
          · have e_41 : zd = 0 ∨ zd = 1 ∨ zd = 2 := by
              have q1 : ¬ zd.toInt < 0 := fun h => c_40 (Or.inl h)
              have q2 : ¬ 2 < zd.toInt := fun h => c_40 (Or.inr h)
              have q3 : ∀ v : Int32, zd.toInt = v.toInt → zd = v := fun v h => Int32.toInt_inj.mp h
              rcases (show zd.toInt = 0 ∨ zd.toInt = 1 ∨ zd.toInt = 2 by omega) with h | h | h
              · exact Or.inl (q3 0 (h.trans (by decide)))
              · exact Or.inr (Or.inl (q3 1 (h.trans (by decide))))
              · exact Or.inr (Or.inr ((q3 2 (h.trans (by decide)))))
            clear c_40
            rcases e_41 with rfl | rfl | rfl
            · refine lv_tableIn (tgt := 64) hx hb dX11_cell_38 (by decide) (by decide) rfl (by decide) ?_
              refine lv_aload hx hb dX11_cell_64 (lv_at hl 0 rfl) ?_
              obtain ⟨hk_42, b_43, x_44, hm_45, hb_46⟩ := id a_39
              have hn_b_43 := hb_46.1
              refine va_get (D := D) (ci := 0) (v := .int (nI k__37)) (C := RX0) (T := TX0) (N := 3) hx hb hts inlX0 hown hK (oneP (C := [(xx, .inr (11, [.ref st, .ref tp, .ref ft, .ref rd, .ref wr, .ref st2, .int zi])), (st, .inr (6, [.ref d, .ref sh, .ref vw, .ref ta, .ref sa, .int (nI n)])), (sh, .inl (κ 4, 3, .inr (.inr (.inr (.inr fs))))), (vw, .inl (κ 5, 3, .inr (.inr (.inr (.inr fv))))), (wr, .inr (10, [.ref d, .ref wb, .int (nI Lw)])), (d, .inl (κ 0, 6, .inl dl))]) hP hm_45) 0 rfl rfl 1 (by decide) (hts _ mw_983) (fun _ h9 => h9) rfl dX11_cell_66 ?_
              exact cr_iret hx hb hr hlk rfl (nI k__37) rfl trivial dX11_cell_69
            · refine lv_tableIn (tgt := 70) hx hb dX11_cell_38 (by decide) (by decide) rfl (by decide) ?_
              refine lv_aload hx hb dX11_cell_70 (lv_at hl 0 rfl) ?_
              obtain ⟨hk_47, b_48, x_49, hm_50, hb_51⟩ := id a_39
              have hn_b_48 := hb_51.1
              refine va_get (D := D) (ci := 0) (v := .ref b_48) (C := RX0) (T := TX0) (N := 3) hx hb hts inlX0 hown hK (oneP (C := [(xx, .inr (11, [.ref st, .ref tp, .ref ft, .ref rd, .ref wr, .ref st2, .int zi])), (st, .inr (6, [.ref d, .ref sh, .ref vw, .ref ta, .ref sa, .int (nI n)])), (sh, .inl (κ 4, 3, .inr (.inr (.inr (.inr fs))))), (vw, .inl (κ 5, 3, .inr (.inr (.inr (.inr fv))))), (wr, .inr (10, [.ref d, .ref wb, .int (nI Lw)])), (d, .inl (κ 0, 6, .inl dl))]) hP hm_50) 0 rfl rfl 0 (by decide) (hts _ mw_1225) (fun _ h9 => h9) rfl dX11_cell_72 ?_
              obtain ⟨hn_53, f_52, hm_54, hfit_55⟩ := id hb_51
              refine va_alen hx hb hK (oneP (C := [(xx, .inr (11, [.ref st, .ref tp, .ref ft, .ref rd, .ref wr, .ref st2, .int zi])), (st, .inr (6, [.ref d, .ref sh, .ref vw, .ref ta, .ref sa, .int (nI n)])), (sh, .inl (κ 4, 3, .inr (.inr (.inr (.inr fs))))), (vw, .inl (κ 5, 3, .inr (.inr (.inr (.inr fv))))), (wr, .inr (10, [.ref d, .ref wb, .int (nI Lw)])), (d, .inl (κ 0, 6, .inl dl))]) hP hm_54) 0 1 rfl rfl (v := nI m__38) rfl dX11_cell_75 ?_
              exact cr_iret hx hb hr hlk rfl (nI m__38) rfl trivial dX11_cell_76
            · refine lv_tableIn (tgt := 77) hx hb dX11_cell_38 (by decide) (by decide) rfl (by decide) ?_
              refine lv_aload_n hx hb dX11_cell_77 rfl (lv_at hl 2 rfl) ?_
              refine va_get (D := D) (ci := 11) (v := .ref wr) (C := RX11) (T := TX11) (N := 7) hx hb hts inlX11 hown hK hP 0 rfl rfl 4 (by decide) (hts _ mw_32) (fun _ h9 => h9) rfl dX11_cell_78 ?_
              refine lv_aload hx hb dX11_cell_81 (lv_at hl 0 rfl) ?_
              refine lv_iload_n hx hb dX11_cell_83 rfl (lv_at hl 5 rfl) ?_
              refine lv_aload hx hb dX11_cell_84 (lv_at hl 1 rfl) ?_
              refine va_get (D := D) (ci := 5) (v := .ref c_16) (C := RX5) (T := TX5) (N := 4) hx hb hts inlX5 hown hK (oneP (C := [(xx, .inr (11, [.ref st, .ref tp, .ref ft, .ref rd, .ref wr, .ref st2, .int zi])), (st, .inr (6, [.ref d, .ref sh, .ref vw, .ref ta, .ref sa, .int (nI n)])), (sh, .inl (κ 4, 3, .inr (.inr (.inr (.inr fs))))), (vw, .inl (κ 5, 3, .inr (.inr (.inr (.inr fv))))), (wr, .inr (10, [.ref d, .ref wb, .int (nI Lw)])), (d, .inl (κ 0, 6, .inl dl))]) hP hm_21) 0 rfl rfl 0 (by decide) (hts _ mw_559) (fun _ h9 => h9) rfl dX11_cell_86 ?_
              refine va_alen hx hb hK (oneP (C := [(xx, .inr (11, [.ref st, .ref tp, .ref ft, .ref rd, .ref wr, .ref st2, .int zi])), (st, .inr (6, [.ref d, .ref sh, .ref vw, .ref ta, .ref sa, .int (nI n)])), (sh, .inl (κ 4, 3, .inr (.inr (.inr (.inr fs))))), (vw, .inl (κ 5, 3, .inr (.inr (.inr (.inr fv))))), (wr, .inr (10, [.ref d, .ref wb, .int (nI Lw)])), (d, .inl (κ 0, 6, .inl dl))]) hP hm_22) 0 3 rfl rfl (v := nI w_5) rfl dX11_cell_89 ?_
              refine er_V (As := [.ref q__36, .int (nI k_30), .int (nI w_5)]) (rest := []) hFX hKK hE hS (c_X10_needsQuotes l D κ κq im wr d wb Lw dl q__36 k__37 m__38 k_30 w_5 a_39 (by omega) (by omega)) 3 gV_X11_296 hdV_X10_needsQuotes rfl rfl ⟨Nat.le_of_ble_eq_true rfl, Nat.le_of_ble_eq_true rfl⟩ rfl rfl (Nat.le_of_ble_eq_true rfl) dX11_cell_90 ⟨Nat.le_of_ble_eq_true rfl, Nat.le_of_ble_eq_true rfl⟩ hl.1 hP 4 10 rfl rfl rfl (subP hP [4, 5] rfl) (fun r__56 hp_57 => ?_)
              replace hp_57 : ((r__56 = 1) ∨ (r__56 = 0)) := hp_57
              have ha_58 := hp_57
              clear hp_57
              rcases ha_58 with rfl | rfl
              · refine W.eq (g2 := F0 m 93 ls [.int 1]) rfl ?_
                refine lv_if_eq (tgt := 100) hx hb dX11_cell_93 (by decide) (fun c_59 => absurd c_59 (by decide)) (fun c_59 => ?_)
                refine lv_iconst (v := 1) hx hb dX11_cell_96 (by decide) ?_
                refine lv_goto (tgt := 101) hx hb dX11_cell_97 (by decide) ?_
                exact cr_iret hx hb hr hlk rfl 1 rfl trivial dX11_cell_101
              · refine W.eq (g2 := F0 m 93 ls [.int 0]) rfl ?_
                refine lv_if_eq (tgt := 100) hx hb dX11_cell_93 (by decide) (fun c_60 => ?_) (fun c_60 => absurd (by decide) c_60)
                refine lv_iconst (v := 0) hx hb dX11_cell_100 (by decide) ?_
                exact cr_iret hx hb hr hlk rfl 0 rfl trivial dX11_cell_101
      · refine W.eq (g2 := F0 m 22 ls [.int 0]) rfl ?_
        refine lv_if_ne (tgt := 27) hx hb dX11_cell_22 (by decide) (fun c_61 => absurd c_61 (by decide)) (fun c_61 => ?_)
        refine lv_iconst (v := (-1)) hx hb dX11_cell_25 (by decide) ?_
        exact cr_iret hx hb hr hlk rfl (-1) rfl trivial dX11_cell_26
  · skip
    refine lv_aload_n hx hb dX11_cell_0 rfl (lv_at hl 0 rfl) ?_
    refine va_get (D := D) (ci := 11) (v := .ref st) (C := RX11) (T := TX11) (N := 7) hx hb hts inlX11 hown hK hP 0 rfl rfl 0 (by decide) (hts _ mw_15) (fun _ h9 => h9) rfl dX11_cell_1 ?_
    refine lv_iload_n hx hb dX11_cell_4 rfl (lv_at hl 1 rfl) ?_
    refine er_V (As := [.int za]) (rest := []) hFX hKK hE hS (c_X6_sheetOf_x l D κ κq st d sh vw ta sa n za (by assumption)) 1 gV_X11_114 hdV_X6_sheetOf rfl rfl ⟨Nat.le_of_ble_eq_true rfl, Nat.le_of_ble_eq_true rfl⟩ rfl rfl (Nat.le_of_ble_eq_true rfl) dX11_cell_5 ⟨Nat.le_of_ble_eq_true rfl, Nat.le_of_ble_eq_true rfl⟩ hl.1 hP 1 6 rfl rfl rfl (subP0 hP [1] rfl) (fun _ hp_62 => ?_)
    refine W.eq (g2 := F0 m 8 ls [.null]) rfl ?_
    refine lv_astoreN (lv' := [(5, .null), (0, .ref xx), (1, .int za), (2, .int zb), (3, .int zc), (4, .int zd)]) hx hb dX11_cell_8 hl (by decide) rfl (fun ls hl => ?_)
    refine lv_aloadN hx hb dX11_cell_10 (lv_at hl 0 rfl) ?_
    refine lv_ifnullN (tgt := 25) hx hb dX11_cell_12 (by decide) ?_
    refine lv_iconst (v := (-1)) hx hb dX11_cell_25 (by decide) ?_
    exact cr_iret hx hb hr hlk rfl (-1) rfl trivial dX11_cell_26
set_option maxHeartbeats 4000000 in
set_option maxRecDepth 100000 in
theorem c_X11_cellAt (l : Launch) (D : va_G) (κ : Nat → ClassId) (κq : Nat → Nat) (im : va_W) (xx : Nat) (tp : Nat) (ft : Nat) (rd : Nat) (wr : Nat) (st2 : Nat) (zi : Int32) (st : Nat) (d : Nat) (sh : Nat) (vw : Nat) (ta : Nat) (sa : Nat) (n : Nat) (fs : Nat → Option Nat) (fv : Nat → Option Nat) (za : Int32) (zb : Int32) (zc : Int32) (zd : Int32) (htb : Tb κ im fs fv 3) : Er l yX11_cellAt (wl yX11_cellAt cX11_cellAt 7 (some .int)) { frames := 2, cells := 0, slots := 0, locals := 43 } D κ κq [.ref xx, .int za, .int zb, .int zc, .int zd] ([(xx, .inr (11, [.ref st, .ref tp, .ref ft, .ref rd, .ref wr, .ref st2, .int zi])), (st, .inr (6, [.ref d, .ref sh, .ref vw, .ref ta, .ref sa, .int (nI n)])), (sh, .inl (κ 4, 3, .inr (.inr (.inr (.inr fs))))), (vw, .inl (κ 5, 3, .inr (.inr (.inr (.inr fv)))))] ++ im) (fun r : Int32 => some (.int r)) (fun r : Int32 => True) := by
  refine er_of (by decide +kernel) (Nat.le_of_ble_eq_true rfl) ?_
  intro p e s m args below meth c A ls hx hb hr hml hts hown hlk hKK hK hP hE hl
  have hS : va_S A s.heap s.heap [] := va_S.rf
  have hP : va_P D vwCl ([(xx, .inr (11, [.ref st, .ref tp, .ref ft, .ref rd, .ref wr, .ref st2, .int zi])), (st, .inr (6, [.ref d, .ref sh, .ref vw, .ref ta, .ref sa, .int (nI n)])), (sh, .inl (κ 4, 3, .inr (.inr (.inr (.inr fs))))), (vw, .inl (κ 5, 3, .inr (.inr (.inr (.inr fv)))))] ++ im) s.heap := hP
  have hFX : FX p s m args c cX11_cellAt 7 RX11 := ⟨hx, hb, hml, hown, hts⟩
  have hl : lv_has ls 7 [(0, .ref xx), (1, .int za), (2, .int zb), (3, .int zc), (4, .int zd)] := hl
  rcases pl_cases za with ⟨t, ht_t, rfl⟩ | hnp_za
  · skip
    rcases htb t (by omega) with ⟨e_1, e_2⟩ | ⟨a_3, R_4, w_5, d_6, v_7, e_1, e_2, h_8, h_9, hd_10⟩
    · skip
      refine lv_aload_n hx hb dX11_cellAt_0 rfl (lv_at hl 0 rfl) ?_
      refine va_get (D := D) (ci := 11) (v := .ref st) (C := RX11) (T := TX11) (N := 7) hx hb hts inlX11 hown hK hP 0 rfl rfl 0 (by decide) (hts _ mw_15) (fun _ h9 => h9) rfl dX11_cellAt_1 ?_
      refine lv_iload_n hx hb dX11_cellAt_4 rfl (lv_at hl 1 rfl) ?_
      refine er_V (As := [.int (nI t)]) (rest := []) hFX hKK hE hS (c_X6_sheetOf_n l D κ κq st d sh vw ta sa n fs t (by omega) e_1) 1 gV_X11_114 hdV_X6_sheetOf rfl rfl ⟨Nat.le_of_ble_eq_true rfl, Nat.le_of_ble_eq_true rfl⟩ rfl rfl (Nat.le_of_ble_eq_true rfl) dX11_cellAt_5 ⟨Nat.le_of_ble_eq_true rfl, Nat.le_of_ble_eq_true rfl⟩ hl.1 hP 1 6 rfl rfl rfl (subP0 hP [1, 2] rfl) (fun _ hp_11 => ?_)
      refine W.eq (g2 := F0 m 8 ls [.null]) rfl ?_
      refine lv_astoreN (lv' := [(5, .null), (0, .ref xx), (1, .int (nI t)), (2, .int zb), (3, .int zc), (4, .int zd)]) hx hb dX11_cellAt_8 hl (by decide) rfl (fun ls hl => ?_)
      refine lv_aloadN hx hb dX11_cellAt_10 (lv_at hl 0 rfl) ?_
      refine lv_ifnullN (tgt := 25) hx hb dX11_cellAt_12 (by decide) ?_
      refine lv_iconst (v := (-1)) hx hb dX11_cellAt_25 (by decide) ?_
      exact cr_iret hx hb hr hlk rfl (-1) rfl trivial dX11_cellAt_26
    · have hle_a_3 := h_8.le
      refine lv_aload_n hx hb dX11_cellAt_0 rfl (lv_at hl 0 rfl) ?_
      refine va_get (D := D) (ci := 11) (v := .ref st) (C := RX11) (T := TX11) (N := 7) hx hb hts inlX11 hown hK hP 0 rfl rfl 0 (by decide) (hts _ mw_15) (fun _ h9 => h9) rfl dX11_cellAt_1 ?_
      refine lv_iload_n hx hb dX11_cellAt_4 rfl (lv_at hl 1 rfl) ?_
      refine er_V (As := [.int (nI t)]) (rest := []) hFX hKK hE hS (c_X6_sheetOf_s l D κ κq st d sh vw ta sa n fs t a_3 (by omega) e_1) 1 gV_X11_114 hdV_X6_sheetOf rfl rfl ⟨Nat.le_of_ble_eq_true rfl, Nat.le_of_ble_eq_true rfl⟩ rfl rfl (Nat.le_of_ble_eq_true rfl) dX11_cellAt_5 ⟨Nat.le_of_ble_eq_true rfl, Nat.le_of_ble_eq_true rfl⟩ hl.1 hP 1 6 rfl rfl rfl (subP0 hP [1, 2] rfl) (fun _ hp_12 => ?_)
      refine W.eq (g2 := F0 m 8 ls [.ref a_3]) rfl ?_
      refine lv_astore (lv' := [(5, .ref a_3), (0, .ref xx), (1, .int (nI t)), (2, .int zb), (3, .int zc), (4, .int zd)]) hx hb dX11_cellAt_8 hl (by decide) rfl (fun ls hl => ?_)
      refine lv_aload hx hb dX11_cellAt_10 (lv_at hl 0 rfl) ?_
      refine lv_ifnull hx hb dX11_cellAt_12 ?_
      refine lv_aload hx hb dX11_cellAt_15 (lv_at hl 0 rfl) ?_
      refine lv_iload_n hx hb dX11_cellAt_17 rfl (lv_at hl 3 rfl) ?_
      refine lv_iload_n hx hb dX11_cellAt_18 rfl (lv_at hl 4 rfl) ?_
      obtain ⟨hb_15, c_16, x_17, v_18, g_19, h_20, hm_21, hm_22, hm_23, lo_24, lc_25, vw_26⟩ := id h_8
      obtain ⟨hb_15_1, hb_15_2, hb_15_3⟩ := hb_15
      have hrw_hb_15 := rw_le hb_15_1 hb_15_3
      refine er_V (As := [.int zb, .int zc]) (rest := []) hFX hKK hE hS (c_X5_hasCell l D κ κq im a_3 R_4 w_5 zb zc h_8) 2 gV_X11_118 hdV_X5_hasCell rfl rfl ⟨Nat.le_of_ble_eq_true rfl, Nat.le_of_ble_eq_true rfl⟩ rfl rfl (Nat.le_of_ble_eq_true rfl) dX11_cellAt_19 ⟨Nat.le_of_ble_eq_true rfl, Nat.le_of_ble_eq_true rfl⟩ hl.1 (oneP (C := [(xx, .inr (11, [.ref st, .ref tp, .ref ft, .ref rd, .ref wr, .ref st2, .int zi])), (st, .inr (6, [.ref d, .ref sh, .ref vw, .ref ta, .ref sa, .int (nI n)])), (sh, .inl (κ 4, 3, .inr (.inr (.inr (.inr fs))))), (vw, .inl (κ 5, 3, .inr (.inr (.inr (.inr fv)))))]) hP hm_21) 0 5 rfl rfl rfl (subP hP [] rfl) (fun r__13 hp_14 => ?_)
      replace hp_14 : ((r__13 = 1 ∧ (∃ j : Nat, j < R_4 ∧ zb = nI j) ∧ (∃ k : Nat, k < w_5 ∧ zc = nI k)) ∨ (r__13 = 0)) := hp_14
      have ha_27 := hp_14
      clear hp_14
      rcases ha_27 with ⟨rfl, ⟨j_28, hj_28, rfl⟩, ⟨k_30, hk_30, rfl⟩⟩ | rfl
      · refine W.eq (g2 := F0 m 22 ls [.int 1]) rfl ?_
        refine lv_if_ne (tgt := 27) hx hb dX11_cellAt_22 (by decide) (fun c_32 => ?_) (fun c_32 => absurd c_32 (by decide))
        refine lv_aload hx hb dX11_cellAt_27 (lv_at hl 0 rfl) ?_
        refine lv_iload_n hx hb dX11_cellAt_29 rfl (lv_at hl 3 rfl) ?_
        refine lv_iload_n hx hb dX11_cellAt_30 rfl (lv_at hl 4 rfl) ?_
        refine er_V (As := [.int (nI j_28), .int (nI k_30)]) (rest := []) hFX hKK hE hS (c_X5_cellOf l D κ κq im a_3 R_4 w_5 j_28 k_30 h_8 (by omega) (by omega)) 2 gV_X11_289 hdV_X5_cellOf rfl rfl ⟨Nat.le_of_ble_eq_true rfl, Nat.le_of_ble_eq_true rfl⟩ rfl rfl (Nat.le_of_ble_eq_true rfl) dX11_cellAt_31 ⟨Nat.le_of_ble_eq_true rfl, Nat.le_of_ble_eq_true rfl⟩ hl.1 (oneP (C := [(xx, .inr (11, [.ref st, .ref tp, .ref ft, .ref rd, .ref wr, .ref st2, .int zi])), (st, .inr (6, [.ref d, .ref sh, .ref vw, .ref ta, .ref sa, .int (nI n)])), (sh, .inl (κ 4, 3, .inr (.inr (.inr (.inr fs))))), (vw, .inl (κ 5, 3, .inr (.inr (.inr (.inr fv)))))]) hP hm_21) 0 5 rfl rfl rfl (subP hP [] rfl) (fun r__33 hp_34 => ?_)
        replace hp_34 : ((∃ (q : Nat), ∃ (k : Nat), ∃ (m : Nat), r__33 = some q ∧ Cl κ im q k m)) := hp_34
        have ha_35 := hp_34
        clear hp_34
        rcases ha_35 with ⟨q__36, k__37, m__38, rfl, a_39⟩
        · refine W.eq (g2 := F0 m 34 ls [.ref q__36]) rfl ?_
          obtain ⟨hk_40, b_41, x_42, hm_43, hb_44⟩ := id a_39
          have hn_b_41 := hb_44.1
          refine va_get (D := D) (ci := 0) (v := .ref b_41) (C := RX0) (T := TX0) (N := 3) hx hb hts inlX0 hown hK (oneP (C := [(xx, .inr (11, [.ref st, .ref tp, .ref ft, .ref rd, .ref wr, .ref st2, .int zi])), (st, .inr (6, [.ref d, .ref sh, .ref vw, .ref ta, .ref sa, .int (nI n)])), (sh, .inl (κ 4, 3, .inr (.inr (.inr (.inr fs))))), (vw, .inl (κ 5, 3, .inr (.inr (.inr (.inr fv)))))]) hP hm_43) 0 rfl rfl 0 (by decide) (hts _ mw_1225) (fun _ h9 => h9) rfl dX11_cellAt_34 ?_
          refine lv_astore (lv' := [(6, .ref b_41), (5, .ref a_3), (0, .ref xx), (1, .int (nI t)), (2, .int (nI j_28)), (3, .int (nI k_30)), (4, .int zd)]) hx hb dX11_cellAt_37 hl (by decide) rfl (fun ls hl => ?_)
          refine lv_iload hx hb dX11_cellAt_39 (lv_at hl 6 rfl) ?_
          refine lv_if_lt (tgt := 52) hx hb dX11_cellAt_41 (by decide) (fun c_45 => ?_) (fun c_45 => ?_)
          · have nc_45 := cz_lt (a := zd.toInt) (b := (0 : Int)) rfl (by decide) c_45
            refine lv_iconst (v := (-1)) hx hb dX11_cellAt_52 (by decide) ?_
            refine lv_goto (tgt := 61) hx hb dX11_cellAt_53 (by decide) ?_
            exact cr_iret hx hb hr hlk rfl (-1) rfl trivial dX11_cellAt_61
          · have nc_45 := cz_nlt (a := zd.toInt) (b := (0 : Int)) rfl (by decide) c_45
            refine lv_iload hx hb dX11_cellAt_44 (lv_at hl 6 rfl) ?_
            refine lv_aload hx hb dX11_cellAt_46 (lv_at hl 0 rfl) ?_
            obtain ⟨hn_47, f_46, hm_48, hfit_49⟩ := id hb_44
            refine va_alen hx hb hK (oneP (C := [(xx, .inr (11, [.ref st, .ref tp, .ref ft, .ref rd, .ref wr, .ref st2, .int zi])), (st, .inr (6, [.ref d, .ref sh, .ref vw, .ref ta, .ref sa, .int (nI n)])), (sh, .inl (κ 4, 3, .inr (.inr (.inr (.inr fs))))), (vw, .inl (κ 5, 3, .inr (.inr (.inr (.inr fv)))))]) hP hm_48) 0 1 rfl rfl (v := nI m__38) rfl dX11_cellAt_48 ?_
            refine lv_icmp_lt (tgt := 56) hx hb dX11_cellAt_49 (by decide) (fun c_50 => ?_) (fun c_50 => ?_)
            · have nc_50 := cz_lt (a := zd.toInt) (b := ((m__38 : Nat) : Int)) rfl (nI_toInt (by omega)) c_50
              refine lv_aload hx hb dX11_cellAt_56 (lv_at hl 0 rfl) ?_
              refine lv_iload hx hb dX11_cellAt_58 (lv_at hl 6 rfl) ?_
              obtain ⟨j_51, hj_51, rfl⟩ := i_nat (x := zd) (B := 40) (by omega) (by omega)
              have hz_j_51 : (nI j_51).toInt = ((j_51 : Nat) : Int) := nI_toInt (by omega)
              refine va_bald hx hb hK (oneP (C := [(xx, .inr (11, [.ref st, .ref tp, .ref ft, .ref rd, .ref wr, .ref st2, .int zi])), (st, .inr (6, [.ref d, .ref sh, .ref vw, .ref ta, .ref sa, .int (nI n)])), (sh, .inl (κ 4, 3, .inr (.inr (.inr (.inr fs))))), (vw, .inl (κ 5, 3, .inr (.inr (.inr (.inr fv)))))]) hP hm_48) 0 1 rfl rfl (i := nI j_51) (vp_in_nI (n := j_51) (by omega) (by omega)) dX11_cellAt_60 ?_
              refine kv (v := .int (f_46 j_51)) (by rw [nI_clamp (by omega)]) ?_
              obtain ⟨x_52, ex_52⟩ : ∃ y9 : Int32, f_46 j_51 = y9 := ⟨_, rfl⟩
              refine kv (v := .int x_52) (congrArg Value.int ex_52) ?_
              exact cr_iret hx hb hr hlk rfl x_52 rfl trivial dX11_cellAt_61
            · have nc_50 := cz_nlt (a := zd.toInt) (b := ((m__38 : Nat) : Int)) rfl (nI_toInt (by omega)) c_50
              refine lv_iconst (v := (-1)) hx hb dX11_cellAt_52 (by decide) ?_
              refine lv_goto (tgt := 61) hx hb dX11_cellAt_53 (by decide) ?_
              exact cr_iret hx hb hr hlk rfl (-1) rfl trivial dX11_cellAt_61
      · refine W.eq (g2 := F0 m 22 ls [.int 0]) rfl ?_
        refine lv_if_ne (tgt := 27) hx hb dX11_cellAt_22 (by decide) (fun c_53 => absurd c_53 (by decide)) (fun c_53 => ?_)
        refine lv_iconst (v := (-1)) hx hb dX11_cellAt_25 (by decide) ?_
        exact cr_iret hx hb hr hlk rfl (-1) rfl trivial dX11_cellAt_26
  · skip
    refine lv_aload_n hx hb dX11_cellAt_0 rfl (lv_at hl 0 rfl) ?_
    refine va_get (D := D) (ci := 11) (v := .ref st) (C := RX11) (T := TX11) (N := 7) hx hb hts inlX11 hown hK hP 0 rfl rfl 0 (by decide) (hts _ mw_15) (fun _ h9 => h9) rfl dX11_cellAt_1 ?_
    refine lv_iload_n hx hb dX11_cellAt_4 rfl (lv_at hl 1 rfl) ?_
    refine er_V (As := [.int za]) (rest := []) hFX hKK hE hS (c_X6_sheetOf_x l D κ κq st d sh vw ta sa n za (by assumption)) 1 gV_X11_114 hdV_X6_sheetOf rfl rfl ⟨Nat.le_of_ble_eq_true rfl, Nat.le_of_ble_eq_true rfl⟩ rfl rfl (Nat.le_of_ble_eq_true rfl) dX11_cellAt_5 ⟨Nat.le_of_ble_eq_true rfl, Nat.le_of_ble_eq_true rfl⟩ hl.1 hP 1 6 rfl rfl rfl (subP0 hP [1] rfl) (fun _ hp_54 => ?_)
    refine W.eq (g2 := F0 m 8 ls [.null]) rfl ?_
    refine lv_astoreN (lv' := [(5, .null), (0, .ref xx), (1, .int za), (2, .int zb), (3, .int zc), (4, .int zd)]) hx hb dX11_cellAt_8 hl (by decide) rfl (fun ls hl => ?_)
    refine lv_aloadN hx hb dX11_cellAt_10 (lv_at hl 0 rfl) ?_
    refine lv_ifnullN (tgt := 25) hx hb dX11_cellAt_12 (by decide) ?_
    refine lv_iconst (v := (-1)) hx hb dX11_cellAt_25 (by decide) ?_
    exact cr_iret hx hb hr hlk rfl (-1) rfl trivial dX11_cellAt_26
set_option maxHeartbeats 4000000 in
set_option maxRecDepth 100000 in
theorem c_X11_value (l : Launch) (D : va_G) (κ : Nat → ClassId) (κq : Nat → Nat) (im : va_W) (xx : Nat) (tp : Nat) (ft : Nat) (rd : Nat) (wr : Nat) (st2 : Nat) (zi : Int32) (st : Nat) (d : Nat) (sh : Nat) (vw : Nat) (ta : Nat) (sa : Nat) (n : Nat) (fs : Nat → Option Nat) (fv : Nat → Option Nat) (za : Int32) (zb : Int32) (zc : Int32) (htb : Tb κ im fs fv 3) : Er l yX11_value (wl yX11_value cX11_value 6 (some .long)) { frames := 4, cells := 0, slots := 0, locals := 87 } D κ κq [.ref xx, .int za, .int zb, .int zc] ([(xx, .inr (11, [.ref st, .ref tp, .ref ft, .ref rd, .ref wr, .ref st2, .int zi])), (st, .inr (6, [.ref d, .ref sh, .ref vw, .ref ta, .ref sa, .int (nI n)])), (sh, .inl (κ 4, 3, .inr (.inr (.inr (.inr fs))))), (vw, .inl (κ 5, 3, .inr (.inr (.inr (.inr fv)))))] ++ im) (fun r : Int64 => some (.long r)) (fun r : Int64 => True) := by
  refine er_of (by decide +kernel) (Nat.le_of_ble_eq_true rfl) ?_
  intro p e s m args below meth c A ls hx hb hr hml hts hown hlk hKK hK hP hE hl
  have hS : va_S A s.heap s.heap [] := va_S.rf
  have hP : va_P D vwCl ([(xx, .inr (11, [.ref st, .ref tp, .ref ft, .ref rd, .ref wr, .ref st2, .int zi])), (st, .inr (6, [.ref d, .ref sh, .ref vw, .ref ta, .ref sa, .int (nI n)])), (sh, .inl (κ 4, 3, .inr (.inr (.inr (.inr fs))))), (vw, .inl (κ 5, 3, .inr (.inr (.inr (.inr fv)))))] ++ im) s.heap := hP
  have hFX : FX p s m args c cX11_value 6 RX11 := ⟨hx, hb, hml, hown, hts⟩
  have hl : lv_has ls 6 [(0, .ref xx), (1, .int za), (2, .int zb), (3, .int zc)] := hl
  rcases pl_cases za with ⟨t, ht_t, rfl⟩ | hnp_za
  · skip
    rcases htb t (by omega) with ⟨e_1, e_2⟩ | ⟨a_3, R_4, w_5, d_6, v_7, e_1, e_2, h_8, h_9, hd_10⟩
    · skip
      refine lv_aload_n hx hb dX11_value_0 rfl (lv_at hl 0 rfl) ?_
      refine va_get (D := D) (ci := 11) (v := .ref st) (C := RX11) (T := TX11) (N := 7) hx hb hts inlX11 hown hK hP 0 rfl rfl 0 (by decide) (hts _ mw_15) (fun _ h9 => h9) rfl dX11_value_1 ?_
      refine lv_iload_n hx hb dX11_value_4 rfl (lv_at hl 1 rfl) ?_
      refine er_V (As := [.int (nI t)]) (rest := []) hFX hKK hE hS (c_X6_sheetOf_n l D κ κq st d sh vw ta sa n fs t (by omega) e_1) 1 gV_X11_114 hdV_X6_sheetOf rfl rfl ⟨Nat.le_of_ble_eq_true rfl, Nat.le_of_ble_eq_true rfl⟩ rfl rfl (Nat.le_of_ble_eq_true rfl) dX11_value_5 ⟨Nat.le_of_ble_eq_true rfl, Nat.le_of_ble_eq_true rfl⟩ hl.1 hP 1 6 rfl rfl rfl (subP0 hP [1, 2] rfl) (fun _ hp_11 => ?_)
      refine W.eq (g2 := F0 m 8 ls [.null]) rfl ?_
      refine lv_astoreN (lv' := [(4, .null), (0, .ref xx), (1, .int (nI t)), (2, .int zb), (3, .int zc)]) hx hb dX11_value_8 hl (by decide) rfl (fun ls hl => ?_)
      refine lv_aloadN hx hb dX11_value_10 (lv_at hl 0 rfl) ?_
      refine lv_ifnullN (tgt := 25) hx hb dX11_value_12 (by decide) ?_
      refine lv_ldc2 hx hb hown (hts _ mw_1252) dX11_value_25 ?_
      exact cr_lret hx hb hr hlk (-100000000000000) rfl trivial dX11_value_28
    · have hle_a_3 := h_8.le
      refine lv_aload_n hx hb dX11_value_0 rfl (lv_at hl 0 rfl) ?_
      refine va_get (D := D) (ci := 11) (v := .ref st) (C := RX11) (T := TX11) (N := 7) hx hb hts inlX11 hown hK hP 0 rfl rfl 0 (by decide) (hts _ mw_15) (fun _ h9 => h9) rfl dX11_value_1 ?_
      refine lv_iload_n hx hb dX11_value_4 rfl (lv_at hl 1 rfl) ?_
      refine er_V (As := [.int (nI t)]) (rest := []) hFX hKK hE hS (c_X6_sheetOf_s l D κ κq st d sh vw ta sa n fs t a_3 (by omega) e_1) 1 gV_X11_114 hdV_X6_sheetOf rfl rfl ⟨Nat.le_of_ble_eq_true rfl, Nat.le_of_ble_eq_true rfl⟩ rfl rfl (Nat.le_of_ble_eq_true rfl) dX11_value_5 ⟨Nat.le_of_ble_eq_true rfl, Nat.le_of_ble_eq_true rfl⟩ hl.1 hP 1 6 rfl rfl rfl (subP0 hP [1, 2] rfl) (fun _ hp_12 => ?_)
      refine W.eq (g2 := F0 m 8 ls [.ref a_3]) rfl ?_
      refine lv_astore (lv' := [(4, .ref a_3), (0, .ref xx), (1, .int (nI t)), (2, .int zb), (3, .int zc)]) hx hb dX11_value_8 hl (by decide) rfl (fun ls hl => ?_)
      refine lv_aload hx hb dX11_value_10 (lv_at hl 0 rfl) ?_
      refine lv_ifnull hx hb dX11_value_12 ?_
      refine lv_aload hx hb dX11_value_15 (lv_at hl 0 rfl) ?_
      refine lv_iload_n hx hb dX11_value_17 rfl (lv_at hl 3 rfl) ?_
      refine lv_iload_n hx hb dX11_value_18 rfl (lv_at hl 4 rfl) ?_
      obtain ⟨hb_15, c_16, x_17, v_18, g_19, h_20, hm_21, hm_22, hm_23, lo_24, lc_25, vw_26⟩ := id h_8
      obtain ⟨hb_15_1, hb_15_2, hb_15_3⟩ := hb_15
      have hrw_hb_15 := rw_le hb_15_1 hb_15_3
      refine er_V (As := [.int zb, .int zc]) (rest := []) hFX hKK hE hS (c_X5_hasCell l D κ κq im a_3 R_4 w_5 zb zc h_8) 2 gV_X11_118 hdV_X5_hasCell rfl rfl ⟨Nat.le_of_ble_eq_true rfl, Nat.le_of_ble_eq_true rfl⟩ rfl rfl (Nat.le_of_ble_eq_true rfl) dX11_value_19 ⟨Nat.le_of_ble_eq_true rfl, Nat.le_of_ble_eq_true rfl⟩ hl.1 (oneP (C := [(xx, .inr (11, [.ref st, .ref tp, .ref ft, .ref rd, .ref wr, .ref st2, .int zi])), (st, .inr (6, [.ref d, .ref sh, .ref vw, .ref ta, .ref sa, .int (nI n)])), (sh, .inl (κ 4, 3, .inr (.inr (.inr (.inr fs))))), (vw, .inl (κ 5, 3, .inr (.inr (.inr (.inr fv)))))]) hP hm_21) 0 5 rfl rfl rfl (subP hP [] rfl) (fun r__13 hp_14 => ?_)
      replace hp_14 : ((r__13 = 1 ∧ (∃ j : Nat, j < R_4 ∧ zb = nI j) ∧ (∃ k : Nat, k < w_5 ∧ zc = nI k)) ∨ (r__13 = 0)) := hp_14
      have ha_27 := hp_14
      clear hp_14
      rcases ha_27 with ⟨rfl, ⟨j_28, hj_28, rfl⟩, ⟨k_30, hk_30, rfl⟩⟩ | rfl
      · refine W.eq (g2 := F0 m 22 ls [.int 1]) rfl ?_
        refine lv_if_ne (tgt := 29) hx hb dX11_value_22 (by decide) (fun c_32 => ?_) (fun c_32 => absurd c_32 (by decide))
        refine lv_aload hx hb dX11_value_29 (lv_at hl 0 rfl) ?_
        refine lv_iload_n hx hb dX11_value_31 rfl (lv_at hl 3 rfl) ?_
        refine lv_iload_n hx hb dX11_value_32 rfl (lv_at hl 4 rfl) ?_
        refine er_V (As := [.int (nI j_28), .int (nI k_30)]) (rest := []) hFX hKK hE hS (c_X5_cellOf l D κ κq im a_3 R_4 w_5 j_28 k_30 h_8 (by omega) (by omega)) 2 gV_X11_289 hdV_X5_cellOf rfl rfl ⟨Nat.le_of_ble_eq_true rfl, Nat.le_of_ble_eq_true rfl⟩ rfl rfl (Nat.le_of_ble_eq_true rfl) dX11_value_33 ⟨Nat.le_of_ble_eq_true rfl, Nat.le_of_ble_eq_true rfl⟩ hl.1 (oneP (C := [(xx, .inr (11, [.ref st, .ref tp, .ref ft, .ref rd, .ref wr, .ref st2, .int zi])), (st, .inr (6, [.ref d, .ref sh, .ref vw, .ref ta, .ref sa, .int (nI n)])), (sh, .inl (κ 4, 3, .inr (.inr (.inr (.inr fs))))), (vw, .inl (κ 5, 3, .inr (.inr (.inr (.inr fv)))))]) hP hm_21) 0 5 rfl rfl rfl (subP hP [] rfl) (fun r__33 hp_34 => ?_)
        replace hp_34 : ((∃ (q : Nat), ∃ (k : Nat), ∃ (m : Nat), r__33 = some q ∧ Cl κ im q k m)) := hp_34
        have ha_35 := hp_34
        clear hp_34
        rcases ha_35 with ⟨q__36, k__37, m__38, rfl, a_39⟩
        · refine W.eq (g2 := F0 m 36 ls [.ref q__36]) rfl ?_
          refine lv_astore (lv' := [(5, .ref q__36), (4, .ref a_3), (0, .ref xx), (1, .int (nI t)), (2, .int (nI j_28)), (3, .int (nI k_30))]) hx hb dX11_value_36 hl (by decide) rfl (fun ls hl => ?_)
          refine lv_aload hx hb dX11_value_38 (lv_at hl 0 rfl) ?_
          obtain ⟨hk_42, b_43, x_44, hm_45, hb_46⟩ := id a_39
          have hn_b_43 := hb_46.1
          refine er_V (As := []) (rest := []) hFX hKK hE hS (c_X0_isEmpty l D κ κq im q__36 k__37 m__38 a_39) 0 gV_X11_302 hdV_X0_isEmpty rfl rfl ⟨Nat.le_of_ble_eq_true rfl, Nat.le_of_ble_eq_true rfl⟩ rfl rfl (Nat.le_of_ble_eq_true rfl) dX11_value_40 ⟨Nat.le_of_ble_eq_true rfl, Nat.le_of_ble_eq_true rfl⟩ hl.1 (oneP (C := [(xx, .inr (11, [.ref st, .ref tp, .ref ft, .ref rd, .ref wr, .ref st2, .int zi])), (st, .inr (6, [.ref d, .ref sh, .ref vw, .ref ta, .ref sa, .int (nI n)])), (sh, .inl (κ 4, 3, .inr (.inr (.inr (.inr fs))))), (vw, .inl (κ 5, 3, .inr (.inr (.inr (.inr fv)))))]) hP hm_45) 0 0 rfl rfl rfl (subP hP [] rfl) (fun r__40 hp_41 => ?_)
          replace hp_41 : ((r__40 = 1 ∧ m__38 = 0) ∨ (r__40 = 0 ∧ 1 ≤ m__38)) := hp_41
          have ha_47 := hp_41
          clear hp_41
          rcases ha_47 with ⟨rfl, a_48⟩ | ⟨rfl, a_49⟩
          · refine W.eq (g2 := F0 m 43 ls [.int 1]) rfl ?_
            refine lv_if_eq (tgt := 52) hx hb dX11_value_43 (by decide) (fun c_50 => absurd c_50 (by decide)) (fun c_50 => ?_)
            refine lv_ldc2 hx hb hown (hts _ mw_1252) dX11_value_46 ?_
            refine lv_goto (tgt := 63) hx hb dX11_value_49 (by decide) ?_
            exact cr_lret hx hb hr hlk (-100000000000000) rfl trivial dX11_value_63
          · refine W.eq (g2 := F0 m 43 ls [.int 0]) rfl ?_
            refine lv_if_eq (tgt := 52) hx hb dX11_value_43 (by decide) (fun c_51 => ?_) (fun c_51 => absurd (by decide) c_51)
            refine lv_aload hx hb dX11_value_52 (lv_at hl 0 rfl) ?_
            refine lv_aload hx hb dX11_value_54 (lv_at hl 1 rfl) ?_
            refine lv_iload_n hx hb dX11_value_56 rfl (lv_at hl 5 rfl) ?_
            refine er_V (As := [.int (nI k_30)]) (rest := [.ref q__36]) hFX hKK hE hS (c_X5_typeOf l D κ κq im a_3 R_4 w_5 k_30 h_8 (by omega)) 1 gV_X11_270 hdV_X5_typeOf rfl rfl ⟨Nat.le_of_ble_eq_true rfl, Nat.le_of_ble_eq_true rfl⟩ rfl rfl (Nat.le_of_ble_eq_true rfl) dX11_value_57 ⟨Nat.le_of_ble_eq_true rfl, Nat.le_of_ble_eq_true rfl⟩ hl.1 (oneP (C := [(xx, .inr (11, [.ref st, .ref tp, .ref ft, .ref rd, .ref wr, .ref st2, .int zi])), (st, .inr (6, [.ref d, .ref sh, .ref vw, .ref ta, .ref sa, .int (nI n)])), (sh, .inl (κ 4, 3, .inr (.inr (.inr (.inr fs))))), (vw, .inl (κ 5, 3, .inr (.inr (.inr (.inr fv)))))]) hP hm_21) 0 5 rfl rfl rfl (subP hP [] rfl) (fun r__52 hp_53 => ?_)
            replace hp_53 : r__52 ≤ 5 := hp_53
            have h_54 := hp_53
            clear hp_53
            refine W.eq (g2 := F0 m 60 ls [.int (nI r__52), .ref q__36]) rfl ?_
            refine er_V (As := [.int (nI r__52)]) (rest := []) hFX hKK hE hS (c_X0_numberAs l D κ κq im q__36 k__37 m__38 (nI r__52) a_39) 1 gV_X11_306 hdV_X0_numberAs rfl rfl ⟨Nat.le_of_ble_eq_true rfl, Nat.le_of_ble_eq_true rfl⟩ rfl rfl (Nat.le_of_ble_eq_true rfl) dX11_value_60 ⟨Nat.le_of_ble_eq_true rfl, Nat.le_of_ble_eq_true rfl⟩ hl.1 (oneP (C := [(xx, .inr (11, [.ref st, .ref tp, .ref ft, .ref rd, .ref wr, .ref st2, .int zi])), (st, .inr (6, [.ref d, .ref sh, .ref vw, .ref ta, .ref sa, .int (nI n)])), (sh, .inl (κ 4, 3, .inr (.inr (.inr (.inr fs))))), (vw, .inl (κ 5, 3, .inr (.inr (.inr (.inr fv)))))]) hP hm_45) 0 0 rfl rfl rfl (subP hP [] rfl) (fun r__55 hp_56 => ?_)
            refine W.eq (g2 := F0 m 63 ls [.long r__55]) rfl ?_
            exact cr_lret hx hb hr hlk r__55 rfl trivial dX11_value_63
      · refine W.eq (g2 := F0 m 22 ls [.int 0]) rfl ?_
        refine lv_if_ne (tgt := 29) hx hb dX11_value_22 (by decide) (fun c_57 => absurd c_57 (by decide)) (fun c_57 => ?_)
        refine lv_ldc2 hx hb hown (hts _ mw_1252) dX11_value_25 ?_
        exact cr_lret hx hb hr hlk (-100000000000000) rfl trivial dX11_value_28
  · skip
    refine lv_aload_n hx hb dX11_value_0 rfl (lv_at hl 0 rfl) ?_
    refine va_get (D := D) (ci := 11) (v := .ref st) (C := RX11) (T := TX11) (N := 7) hx hb hts inlX11 hown hK hP 0 rfl rfl 0 (by decide) (hts _ mw_15) (fun _ h9 => h9) rfl dX11_value_1 ?_
    refine lv_iload_n hx hb dX11_value_4 rfl (lv_at hl 1 rfl) ?_
    refine er_V (As := [.int za]) (rest := []) hFX hKK hE hS (c_X6_sheetOf_x l D κ κq st d sh vw ta sa n za (by assumption)) 1 gV_X11_114 hdV_X6_sheetOf rfl rfl ⟨Nat.le_of_ble_eq_true rfl, Nat.le_of_ble_eq_true rfl⟩ rfl rfl (Nat.le_of_ble_eq_true rfl) dX11_value_5 ⟨Nat.le_of_ble_eq_true rfl, Nat.le_of_ble_eq_true rfl⟩ hl.1 hP 1 6 rfl rfl rfl (subP0 hP [1] rfl) (fun _ hp_58 => ?_)
    refine W.eq (g2 := F0 m 8 ls [.null]) rfl ?_
    refine lv_astoreN (lv' := [(4, .null), (0, .ref xx), (1, .int za), (2, .int zb), (3, .int zc)]) hx hb dX11_value_8 hl (by decide) rfl (fun ls hl => ?_)
    refine lv_aloadN hx hb dX11_value_10 (lv_at hl 0 rfl) ?_
    refine lv_ifnullN (tgt := 25) hx hb dX11_value_12 (by decide) ?_
    refine lv_ldc2 hx hb hown (hts _ mw_1252) dX11_value_25 ?_
    exact cr_lret hx hb hr hlk (-100000000000000) rfl trivial dX11_value_28
set_option maxHeartbeats 4000000 in
set_option maxRecDepth 100000 in
theorem c_X11_compare (l : Launch) (D : va_G) (κ : Nat → ClassId) (κq : Nat → Nat) (im : va_W) (xx : Nat) (tp : Nat) (ft : Nat) (rd : Nat) (wr : Nat) (st2 : Nat) (zi : Int32) (st : Nat) (d : Nat) (sh : Nat) (vw : Nat) (ta : Nat) (sa : Nat) (n : Nat) (fs : Nat → Option Nat) (fv : Nat → Option Nat) (za : Int32) (zb : Int32) (zc : Int32) (zd : Int32) (htb : Tb κ im fs fv 3) : Er l yX11_compare (wl yX11_compare cX11_compare 7 (some .int)) { frames := 4, cells := 0, slots := 0, locals := 87 } D κ κq [.ref xx, .int za, .int zb, .int zc, .int zd] ([(xx, .inr (11, [.ref st, .ref tp, .ref ft, .ref rd, .ref wr, .ref st2, .int zi])), (st, .inr (6, [.ref d, .ref sh, .ref vw, .ref ta, .ref sa, .int (nI n)])), (sh, .inl (κ 4, 3, .inr (.inr (.inr (.inr fs))))), (vw, .inl (κ 5, 3, .inr (.inr (.inr (.inr fv)))))] ++ im) (fun r : Int32 => some (.int r)) (fun r : Int32 => True) := by
  refine er_of (by decide +kernel) (Nat.le_of_ble_eq_true rfl) ?_
  intro p e s m args below meth c A ls hx hb hr hml hts hown hlk hKK hK hP hE hl
  have hS : va_S A s.heap s.heap [] := va_S.rf
  have hP : va_P D vwCl ([(xx, .inr (11, [.ref st, .ref tp, .ref ft, .ref rd, .ref wr, .ref st2, .int zi])), (st, .inr (6, [.ref d, .ref sh, .ref vw, .ref ta, .ref sa, .int (nI n)])), (sh, .inl (κ 4, 3, .inr (.inr (.inr (.inr fs))))), (vw, .inl (κ 5, 3, .inr (.inr (.inr (.inr fv)))))] ++ im) s.heap := hP
  have hFX : FX p s m args c cX11_compare 7 RX11 := ⟨hx, hb, hml, hown, hts⟩
  have hl : lv_has ls 7 [(0, .ref xx), (1, .int za), (2, .int zb), (3, .int zc), (4, .int zd)] := hl
  rcases pl_cases za with ⟨t, ht_t, rfl⟩ | hnp_za
  · skip
    rcases htb t (by omega) with ⟨e_1, e_2⟩ | ⟨a_3, R_4, w_5, d_6, v_7, e_1, e_2, h_8, h_9, hd_10⟩
    · skip
      refine lv_aload_n hx hb dX11_compare_0 rfl (lv_at hl 0 rfl) ?_
      refine va_get (D := D) (ci := 11) (v := .ref st) (C := RX11) (T := TX11) (N := 7) hx hb hts inlX11 hown hK hP 0 rfl rfl 0 (by decide) (hts _ mw_15) (fun _ h9 => h9) rfl dX11_compare_1 ?_
      refine lv_iload_n hx hb dX11_compare_4 rfl (lv_at hl 1 rfl) ?_
      refine er_V (As := [.int (nI t)]) (rest := []) hFX hKK hE hS (c_X6_sheetOf_n l D κ κq st d sh vw ta sa n fs t (by omega) e_1) 1 gV_X11_114 hdV_X6_sheetOf rfl rfl ⟨Nat.le_of_ble_eq_true rfl, Nat.le_of_ble_eq_true rfl⟩ rfl rfl (Nat.le_of_ble_eq_true rfl) dX11_compare_5 ⟨Nat.le_of_ble_eq_true rfl, Nat.le_of_ble_eq_true rfl⟩ hl.1 hP 1 6 rfl rfl rfl (subP0 hP [1, 2] rfl) (fun _ hp_11 => ?_)
      refine W.eq (g2 := F0 m 8 ls [.null]) rfl ?_
      refine lv_astoreN (lv' := [(5, .null), (0, .ref xx), (1, .int (nI t)), (2, .int zb), (3, .int zc), (4, .int zd)]) hx hb dX11_compare_8 hl (by decide) rfl (fun ls hl => ?_)
      refine lv_aloadN hx hb dX11_compare_10 (lv_at hl 0 rfl) ?_
      refine lv_ifnullN (tgt := 35) hx hb dX11_compare_12 (by decide) ?_
      refine lv_iconst (v := (-1)) hx hb dX11_compare_35 (by decide) ?_
      exact cr_iret hx hb hr hlk rfl (-1) rfl trivial dX11_compare_36
    · have hle_a_3 := h_8.le
      refine lv_aload_n hx hb dX11_compare_0 rfl (lv_at hl 0 rfl) ?_
      refine va_get (D := D) (ci := 11) (v := .ref st) (C := RX11) (T := TX11) (N := 7) hx hb hts inlX11 hown hK hP 0 rfl rfl 0 (by decide) (hts _ mw_15) (fun _ h9 => h9) rfl dX11_compare_1 ?_
      refine lv_iload_n hx hb dX11_compare_4 rfl (lv_at hl 1 rfl) ?_
      refine er_V (As := [.int (nI t)]) (rest := []) hFX hKK hE hS (c_X6_sheetOf_s l D κ κq st d sh vw ta sa n fs t a_3 (by omega) e_1) 1 gV_X11_114 hdV_X6_sheetOf rfl rfl ⟨Nat.le_of_ble_eq_true rfl, Nat.le_of_ble_eq_true rfl⟩ rfl rfl (Nat.le_of_ble_eq_true rfl) dX11_compare_5 ⟨Nat.le_of_ble_eq_true rfl, Nat.le_of_ble_eq_true rfl⟩ hl.1 hP 1 6 rfl rfl rfl (subP0 hP [1, 2] rfl) (fun _ hp_12 => ?_)
      refine W.eq (g2 := F0 m 8 ls [.ref a_3]) rfl ?_
      refine lv_astore (lv' := [(5, .ref a_3), (0, .ref xx), (1, .int (nI t)), (2, .int zb), (3, .int zc), (4, .int zd)]) hx hb dX11_compare_8 hl (by decide) rfl (fun ls hl => ?_)
      refine lv_aload hx hb dX11_compare_10 (lv_at hl 0 rfl) ?_
      refine lv_ifnull hx hb dX11_compare_12 ?_
      refine lv_aload hx hb dX11_compare_15 (lv_at hl 0 rfl) ?_
      refine lv_iload_n hx hb dX11_compare_17 rfl (lv_at hl 4 rfl) ?_
      refine lv_iload_n hx hb dX11_compare_18 rfl (lv_at hl 3 rfl) ?_
      obtain ⟨hb_15, c_16, x_17, v_18, g_19, h_20, hm_21, hm_22, hm_23, lo_24, lc_25, vw_26⟩ := id h_8
      obtain ⟨hb_15_1, hb_15_2, hb_15_3⟩ := hb_15
      have hrw_hb_15 := rw_le hb_15_1 hb_15_3
      refine er_V (As := [.int zc, .int zb]) (rest := []) hFX hKK hE hS (c_X5_hasCell l D κ κq im a_3 R_4 w_5 zc zb h_8) 2 gV_X11_118 hdV_X5_hasCell rfl rfl ⟨Nat.le_of_ble_eq_true rfl, Nat.le_of_ble_eq_true rfl⟩ rfl rfl (Nat.le_of_ble_eq_true rfl) dX11_compare_19 ⟨Nat.le_of_ble_eq_true rfl, Nat.le_of_ble_eq_true rfl⟩ hl.1 (oneP (C := [(xx, .inr (11, [.ref st, .ref tp, .ref ft, .ref rd, .ref wr, .ref st2, .int zi])), (st, .inr (6, [.ref d, .ref sh, .ref vw, .ref ta, .ref sa, .int (nI n)])), (sh, .inl (κ 4, 3, .inr (.inr (.inr (.inr fs))))), (vw, .inl (κ 5, 3, .inr (.inr (.inr (.inr fv)))))]) hP hm_21) 0 5 rfl rfl rfl (subP hP [] rfl) (fun r__13 hp_14 => ?_)
      replace hp_14 : ((r__13 = 1 ∧ (∃ j : Nat, j < R_4 ∧ zc = nI j) ∧ (∃ k : Nat, k < w_5 ∧ zb = nI k)) ∨ (r__13 = 0)) := hp_14
      have ha_27 := hp_14
      clear hp_14
      rcases ha_27 with ⟨rfl, ⟨j_28, hj_28, rfl⟩, ⟨k_30, hk_30, rfl⟩⟩ | rfl
      · refine W.eq (g2 := F0 m 22 ls [.int 1]) rfl ?_
        refine lv_if_eq (tgt := 35) hx hb dX11_compare_22 (by decide) (fun c_32 => absurd c_32 (by decide)) (fun c_32 => ?_)
        refine lv_aload hx hb dX11_compare_25 (lv_at hl 0 rfl) ?_
        refine lv_iload hx hb dX11_compare_27 (lv_at hl 5 rfl) ?_
        refine er_V (As := [.int zd]) (rest := []) hFX hKK hE hS (c_X5_hasRow l D κ κq im a_3 R_4 w_5 zd h_8) 1 gV_X11_151 hdV_X5_hasRow rfl rfl ⟨Nat.le_of_ble_eq_true rfl, Nat.le_of_ble_eq_true rfl⟩ rfl rfl (Nat.le_of_ble_eq_true rfl) dX11_compare_29 ⟨Nat.le_of_ble_eq_true rfl, Nat.le_of_ble_eq_true rfl⟩ hl.1 (oneP (C := [(xx, .inr (11, [.ref st, .ref tp, .ref ft, .ref rd, .ref wr, .ref st2, .int zi])), (st, .inr (6, [.ref d, .ref sh, .ref vw, .ref ta, .ref sa, .int (nI n)])), (sh, .inl (κ 4, 3, .inr (.inr (.inr (.inr fs))))), (vw, .inl (κ 5, 3, .inr (.inr (.inr (.inr fv)))))]) hP hm_21) 0 5 rfl rfl rfl (subP hP [] rfl) (fun r__33 hp_34 => ?_)
        replace hp_34 : ((r__33 = 1 ∧ (∃ j : Nat, j < R_4 ∧ zd = nI j)) ∨ (r__33 = 0)) := hp_34
        have ha_35 := hp_34
        clear hp_34
        rcases ha_35 with ⟨rfl, ⟨j_36, hj_36, rfl⟩⟩ | rfl
        · refine W.eq (g2 := F0 m 32 ls [.int 1]) rfl ?_
          refine lv_if_ne (tgt := 37) hx hb dX11_compare_32 (by decide) (fun c_38 => ?_) (fun c_38 => absurd c_38 (by decide))
          refine lv_aload hx hb dX11_compare_37 (lv_at hl 0 rfl) ?_
          refine lv_iload_n hx hb dX11_compare_39 rfl (lv_at hl 4 rfl) ?_
          refine lv_iload_n hx hb dX11_compare_40 rfl (lv_at hl 3 rfl) ?_
          refine er_V (As := [.int (nI j_28), .int (nI k_30)]) (rest := []) hFX hKK hE hS (c_X5_cellOf l D κ κq im a_3 R_4 w_5 j_28 k_30 h_8 (by omega) (by omega)) 2 gV_X11_289 hdV_X5_cellOf rfl rfl ⟨Nat.le_of_ble_eq_true rfl, Nat.le_of_ble_eq_true rfl⟩ rfl rfl (Nat.le_of_ble_eq_true rfl) dX11_compare_41 ⟨Nat.le_of_ble_eq_true rfl, Nat.le_of_ble_eq_true rfl⟩ hl.1 (oneP (C := [(xx, .inr (11, [.ref st, .ref tp, .ref ft, .ref rd, .ref wr, .ref st2, .int zi])), (st, .inr (6, [.ref d, .ref sh, .ref vw, .ref ta, .ref sa, .int (nI n)])), (sh, .inl (κ 4, 3, .inr (.inr (.inr (.inr fs))))), (vw, .inl (κ 5, 3, .inr (.inr (.inr (.inr fv)))))]) hP hm_21) 0 5 rfl rfl rfl (subP hP [] rfl) (fun r__39 hp_40 => ?_)
          replace hp_40 : ((∃ (q : Nat), ∃ (k : Nat), ∃ (m : Nat), r__39 = some q ∧ Cl κ im q k m)) := hp_40
          have ha_41 := hp_40
          clear hp_40
          rcases ha_41 with ⟨q__42, k__43, m__44, rfl, a_45⟩
          · refine W.eq (g2 := F0 m 44 ls [.ref q__42]) rfl ?_
            refine lv_aload hx hb dX11_compare_44 (lv_at hl 0 rfl) ?_
            refine lv_iload hx hb dX11_compare_46 (lv_at hl 5 rfl) ?_
            refine lv_iload_n hx hb dX11_compare_48 rfl (lv_at hl 3 rfl) ?_
            refine er_V (As := [.int (nI j_36), .int (nI k_30)]) (rest := [.ref q__42]) hFX hKK hE hS (c_X5_cellOf l D κ κq im a_3 R_4 w_5 j_36 k_30 h_8 (by omega) (by omega)) 2 gV_X11_289 hdV_X5_cellOf rfl rfl ⟨Nat.le_of_ble_eq_true rfl, Nat.le_of_ble_eq_true rfl⟩ rfl rfl (Nat.le_of_ble_eq_true rfl) dX11_compare_49 ⟨Nat.le_of_ble_eq_true rfl, Nat.le_of_ble_eq_true rfl⟩ hl.1 (oneP (C := [(xx, .inr (11, [.ref st, .ref tp, .ref ft, .ref rd, .ref wr, .ref st2, .int zi])), (st, .inr (6, [.ref d, .ref sh, .ref vw, .ref ta, .ref sa, .int (nI n)])), (sh, .inl (κ 4, 3, .inr (.inr (.inr (.inr fs))))), (vw, .inl (κ 5, 3, .inr (.inr (.inr (.inr fv)))))]) hP hm_21) 0 5 rfl rfl rfl (subP hP [] rfl) (fun r__46 hp_47 => ?_)
            replace hp_47 : ((∃ (q : Nat), ∃ (k : Nat), ∃ (m : Nat), r__46 = some q ∧ Cl κ im q k m)) := hp_47
            have ha_48 := hp_47
            clear hp_47
            rcases ha_48 with ⟨q__49, k__50, m__51, rfl, a_52⟩
            · refine W.eq (g2 := F0 m 52 ls [.ref q__49, .ref q__42]) rfl ?_
              refine lv_aload hx hb dX11_compare_52 (lv_at hl 0 rfl) ?_
              refine lv_iload_n hx hb dX11_compare_54 rfl (lv_at hl 3 rfl) ?_
              refine er_V (As := [.int (nI k_30)]) (rest := [.ref q__49, .ref q__42]) hFX hKK hE hS (c_X5_typeOf l D κ κq im a_3 R_4 w_5 k_30 h_8 (by omega)) 1 gV_X11_270 hdV_X5_typeOf rfl rfl ⟨Nat.le_of_ble_eq_true rfl, Nat.le_of_ble_eq_true rfl⟩ rfl rfl (Nat.le_of_ble_eq_true rfl) dX11_compare_55 ⟨Nat.le_of_ble_eq_true rfl, Nat.le_of_ble_eq_true rfl⟩ hl.1 (oneP (C := [(xx, .inr (11, [.ref st, .ref tp, .ref ft, .ref rd, .ref wr, .ref st2, .int zi])), (st, .inr (6, [.ref d, .ref sh, .ref vw, .ref ta, .ref sa, .int (nI n)])), (sh, .inl (κ 4, 3, .inr (.inr (.inr (.inr fs))))), (vw, .inl (κ 5, 3, .inr (.inr (.inr (.inr fv)))))]) hP hm_21) 0 5 rfl rfl rfl (subP hP [] rfl) (fun r__53 hp_54 => ?_)
              replace hp_54 : r__53 ≤ 5 := hp_54
              have h_55 := hp_54
              clear hp_54
              refine W.eq (g2 := F0 m 58 ls [.int (nI r__53), .ref q__49, .ref q__42]) rfl ?_
              obtain ⟨hk_58, b_59, x_60, hm_61, hb_62⟩ := id a_45
              have hn_b_59 := hb_62.1
              refine er_V (As := [.ref q__49, .int (nI r__53)]) (rest := []) hFX hKK hE hS (c_X0_comparedTo l D κ κq im q__42 k__43 m__44 q__49 k__50 m__51 (nI r__53) a_45 a_52) 2 gV_X11_310 hdV_X0_comparedTo rfl rfl ⟨Nat.le_of_ble_eq_true rfl, Nat.le_of_ble_eq_true rfl⟩ rfl rfl (Nat.le_of_ble_eq_true rfl) dX11_compare_58 ⟨Nat.le_of_ble_eq_true rfl, Nat.le_of_ble_eq_true rfl⟩ hl.1 (oneP (C := [(xx, .inr (11, [.ref st, .ref tp, .ref ft, .ref rd, .ref wr, .ref st2, .int zi])), (st, .inr (6, [.ref d, .ref sh, .ref vw, .ref ta, .ref sa, .int (nI n)])), (sh, .inl (κ 4, 3, .inr (.inr (.inr (.inr fs))))), (vw, .inl (κ 5, 3, .inr (.inr (.inr (.inr fv)))))]) hP hm_61) 0 0 rfl rfl rfl (subP hP [] rfl) (fun r__56 hp_57 => ?_)
              refine W.eq (g2 := F0 m 61 ls [.int r__56]) rfl ?_
              refine lv_istore (lv' := [(6, .int r__56), (5, .ref a_3), (0, .ref xx), (1, .int (nI t)), (2, .int (nI k_30)), (3, .int (nI j_28)), (4, .int (nI j_36))]) hx hb dX11_compare_61 hl (by decide) rfl (fun ls hl => ?_)
              refine lv_iload hx hb dX11_compare_63 (lv_at hl 0 rfl) ?_
              refine lv_if_ne (tgt := 72) hx hb dX11_compare_65 (by decide) (fun c_63 => ?_) (fun c_63 => ?_)
              · refine lv_iload hx hb dX11_compare_72 (lv_at hl 0 rfl) ?_
                refine lv_if_le (tgt := 81) hx hb dX11_compare_74 (by decide) (fun c_64 => ?_) (fun c_64 => ?_)
                · refine lv_iconst (v := 2) hx hb dX11_compare_81 (by decide) ?_
                  exact cr_iret hx hb hr hlk rfl 2 rfl trivial dX11_compare_82
                · refine lv_iconst (v := 1) hx hb dX11_compare_77 (by decide) ?_
                  refine lv_goto (tgt := 82) hx hb dX11_compare_78 (by decide) ?_
                  exact cr_iret hx hb hr hlk rfl 1 rfl trivial dX11_compare_82
              · refine lv_iconst (v := 0) hx hb dX11_compare_68 (by decide) ?_
                refine lv_goto (tgt := 82) hx hb dX11_compare_69 (by decide) ?_
                exact cr_iret hx hb hr hlk rfl 0 rfl trivial dX11_compare_82
        · refine W.eq (g2 := F0 m 32 ls [.int 0]) rfl ?_
          refine lv_if_ne (tgt := 37) hx hb dX11_compare_32 (by decide) (fun c_65 => absurd c_65 (by decide)) (fun c_65 => ?_)
          refine lv_iconst (v := (-1)) hx hb dX11_compare_35 (by decide) ?_
          exact cr_iret hx hb hr hlk rfl (-1) rfl trivial dX11_compare_36
      · refine W.eq (g2 := F0 m 22 ls [.int 0]) rfl ?_
        refine lv_if_eq (tgt := 35) hx hb dX11_compare_22 (by decide) (fun c_66 => ?_) (fun c_66 => absurd (by decide) c_66)
        refine lv_iconst (v := (-1)) hx hb dX11_compare_35 (by decide) ?_
        exact cr_iret hx hb hr hlk rfl (-1) rfl trivial dX11_compare_36
  · skip
    refine lv_aload_n hx hb dX11_compare_0 rfl (lv_at hl 0 rfl) ?_
    refine va_get (D := D) (ci := 11) (v := .ref st) (C := RX11) (T := TX11) (N := 7) hx hb hts inlX11 hown hK hP 0 rfl rfl 0 (by decide) (hts _ mw_15) (fun _ h9 => h9) rfl dX11_compare_1 ?_
    refine lv_iload_n hx hb dX11_compare_4 rfl (lv_at hl 1 rfl) ?_
    refine er_V (As := [.int za]) (rest := []) hFX hKK hE hS (c_X6_sheetOf_x l D κ κq st d sh vw ta sa n za (by assumption)) 1 gV_X11_114 hdV_X6_sheetOf rfl rfl ⟨Nat.le_of_ble_eq_true rfl, Nat.le_of_ble_eq_true rfl⟩ rfl rfl (Nat.le_of_ble_eq_true rfl) dX11_compare_5 ⟨Nat.le_of_ble_eq_true rfl, Nat.le_of_ble_eq_true rfl⟩ hl.1 hP 1 6 rfl rfl rfl (subP0 hP [1] rfl) (fun _ hp_67 => ?_)
    refine W.eq (g2 := F0 m 8 ls [.null]) rfl ?_
    refine lv_astoreN (lv' := [(5, .null), (0, .ref xx), (1, .int za), (2, .int zb), (3, .int zc), (4, .int zd)]) hx hb dX11_compare_8 hl (by decide) rfl (fun ls hl => ?_)
    refine lv_aloadN hx hb dX11_compare_10 (lv_at hl 0 rfl) ?_
    refine lv_ifnullN (tgt := 35) hx hb dX11_compare_12 (by decide) ?_
    refine lv_iconst (v := (-1)) hx hb dX11_compare_35 (by decide) ?_
    exact cr_iret hx hb hr hlk rfl (-1) rfl trivial dX11_compare_36
set_option maxHeartbeats 4000000 in
set_option maxRecDepth 100000 in
theorem c_X11_differ (l : Launch) (D : va_G) (κ : Nat → ClassId) (κq : Nat → Nat) (im : va_W) (xx : Nat) (tp : Nat) (ft : Nat) (rd : Nat) (wr : Nat) (st2 : Nat) (zi : Int32) (st : Nat) (d : Nat) (sh : Nat) (vw : Nat) (ta : Nat) (sa : Nat) (n : Nat) (fs : Nat → Option Nat) (fv : Nat → Option Nat) (za : Int32) (zb : Int32) (htb : Tb κ im fs fv 3) : Er l yX11_differ (wl yX11_differ cX11_differ 5 (some .int)) { frames := 5, cells := 0, slots := 0, locals := 116 } D κ κq [.ref xx, .int za, .int zb] ([(xx, .inr (11, [.ref st, .ref tp, .ref ft, .ref rd, .ref wr, .ref st2, .int zi])), (st, .inr (6, [.ref d, .ref sh, .ref vw, .ref ta, .ref sa, .int (nI n)])), (sh, .inl (κ 4, 3, .inr (.inr (.inr (.inr fs))))), (vw, .inl (κ 5, 3, .inr (.inr (.inr (.inr fv)))))] ++ im) (fun r : Int32 => some (.int r)) (fun r : Int32 => True) := by
  refine er_of (by decide +kernel) (Nat.le_of_ble_eq_true rfl) ?_
  intro p e s m args below meth c A ls hx hb hr hml hts hown hlk hKK hK hP hE hl
  have hS : va_S A s.heap s.heap [] := va_S.rf
  have hP : va_P D vwCl ([(xx, .inr (11, [.ref st, .ref tp, .ref ft, .ref rd, .ref wr, .ref st2, .int zi])), (st, .inr (6, [.ref d, .ref sh, .ref vw, .ref ta, .ref sa, .int (nI n)])), (sh, .inl (κ 4, 3, .inr (.inr (.inr (.inr fs))))), (vw, .inl (κ 5, 3, .inr (.inr (.inr (.inr fv)))))] ++ im) s.heap := hP
  have hFX : FX p s m args c cX11_differ 5 RX11 := ⟨hx, hb, hml, hown, hts⟩
  have hl : lv_has ls 5 [(0, .ref xx), (1, .int za), (2, .int zb)] := hl
  rcases pl_cases za with ⟨t, ht_t, rfl⟩ | hnp_za
  · skip
    rcases htb t (by omega) with ⟨e_1, e_2⟩ | ⟨a_3, R_4, w_5, d_6, v_7, e_1, e_2, h_8, h_9, hd_10⟩
    · skip
      rcases pl_cases zb with ⟨t2, ht_t2, rfl⟩ | hnp_zb
      · skip
        rcases htb t2 (by omega) with ⟨e_11, e_12⟩ | ⟨a_13, R_14, w_15, d_16, v_17, e_11, e_12, h_18, h_19, hd_20⟩
        · skip
          refine lv_aload_n hx hb dX11_differ_0 rfl (lv_at hl 0 rfl) ?_
          refine va_get (D := D) (ci := 11) (v := .ref st) (C := RX11) (T := TX11) (N := 7) hx hb hts inlX11 hown hK hP 0 rfl rfl 0 (by decide) (hts _ mw_15) (fun _ h9 => h9) rfl dX11_differ_1 ?_
          refine lv_iload_n hx hb dX11_differ_4 rfl (lv_at hl 1 rfl) ?_
          refine er_V (As := [.int (nI t)]) (rest := []) hFX hKK hE hS (c_X6_sheetOf_n l D κ κq st d sh vw ta sa n fs t (by omega) e_1) 1 gV_X11_114 hdV_X6_sheetOf rfl rfl ⟨Nat.le_of_ble_eq_true rfl, Nat.le_of_ble_eq_true rfl⟩ rfl rfl (Nat.le_of_ble_eq_true rfl) dX11_differ_5 ⟨Nat.le_of_ble_eq_true rfl, Nat.le_of_ble_eq_true rfl⟩ hl.1 hP 1 6 rfl rfl rfl (subP0 hP [1, 2] rfl) (fun _ hp_21 => ?_)
          refine W.eq (g2 := F0 m 8 ls [.null]) rfl ?_
          refine lv_astore_nN (lv' := [(3, .null), (0, .ref xx), (1, .int (nI t)), (2, .int (nI t2))]) hx hb dX11_differ_8 rfl hl (by decide) rfl (fun ls hl => ?_)
          refine lv_aload_n hx hb dX11_differ_9 rfl (lv_at hl 1 rfl) ?_
          refine va_get (D := D) (ci := 11) (v := .ref st) (C := RX11) (T := TX11) (N := 7) hx hb hts inlX11 hown hK hP 0 rfl rfl 0 (by decide) (hts _ mw_15) (fun _ h9 => h9) rfl dX11_differ_10 ?_
          refine lv_iload_n hx hb dX11_differ_13 rfl (lv_at hl 3 rfl) ?_
          refine er_V (As := [.int (nI t2)]) (rest := []) hFX hKK hE hS (c_X6_sheetOf_n l D κ κq st d sh vw ta sa n fs t2 (by omega) e_11) 1 gV_X11_114 hdV_X6_sheetOf rfl rfl ⟨Nat.le_of_ble_eq_true rfl, Nat.le_of_ble_eq_true rfl⟩ rfl rfl (Nat.le_of_ble_eq_true rfl) dX11_differ_14 ⟨Nat.le_of_ble_eq_true rfl, Nat.le_of_ble_eq_true rfl⟩ hl.1 hP 1 6 rfl rfl rfl (subP0 hP [1, 2] rfl) (fun _ hp_22 => ?_)
          refine W.eq (g2 := F0 m 17 ls [.null]) rfl ?_
          refine lv_astoreN (lv' := [(4, .null), (3, .null), (0, .ref xx), (1, .int (nI t)), (2, .int (nI t2))]) hx hb dX11_differ_17 hl (by decide) rfl (fun ls hl => ?_)
          refine lv_aload_nN hx hb dX11_differ_19 rfl (lv_at hl 1 rfl) ?_
          refine lv_ifnullN (tgt := 28) hx hb dX11_differ_20 (by decide) ?_
          refine lv_iconst (v := (-1)) hx hb dX11_differ_28 (by decide) ?_
          refine lv_goto (tgt := 38) hx hb dX11_differ_29 (by decide) ?_
          exact cr_iret hx hb hr hlk rfl (-1) rfl trivial dX11_differ_38
        · have hle_a_13 := h_18.le
          refine lv_aload_n hx hb dX11_differ_0 rfl (lv_at hl 0 rfl) ?_
          refine va_get (D := D) (ci := 11) (v := .ref st) (C := RX11) (T := TX11) (N := 7) hx hb hts inlX11 hown hK hP 0 rfl rfl 0 (by decide) (hts _ mw_15) (fun _ h9 => h9) rfl dX11_differ_1 ?_
          refine lv_iload_n hx hb dX11_differ_4 rfl (lv_at hl 1 rfl) ?_
          refine er_V (As := [.int (nI t)]) (rest := []) hFX hKK hE hS (c_X6_sheetOf_n l D κ κq st d sh vw ta sa n fs t (by omega) e_1) 1 gV_X11_114 hdV_X6_sheetOf rfl rfl ⟨Nat.le_of_ble_eq_true rfl, Nat.le_of_ble_eq_true rfl⟩ rfl rfl (Nat.le_of_ble_eq_true rfl) dX11_differ_5 ⟨Nat.le_of_ble_eq_true rfl, Nat.le_of_ble_eq_true rfl⟩ hl.1 hP 1 6 rfl rfl rfl (subP0 hP [1, 2] rfl) (fun _ hp_23 => ?_)
          refine W.eq (g2 := F0 m 8 ls [.null]) rfl ?_
          refine lv_astore_nN (lv' := [(3, .null), (0, .ref xx), (1, .int (nI t)), (2, .int (nI t2))]) hx hb dX11_differ_8 rfl hl (by decide) rfl (fun ls hl => ?_)
          refine lv_aload_n hx hb dX11_differ_9 rfl (lv_at hl 1 rfl) ?_
          refine va_get (D := D) (ci := 11) (v := .ref st) (C := RX11) (T := TX11) (N := 7) hx hb hts inlX11 hown hK hP 0 rfl rfl 0 (by decide) (hts _ mw_15) (fun _ h9 => h9) rfl dX11_differ_10 ?_
          refine lv_iload_n hx hb dX11_differ_13 rfl (lv_at hl 3 rfl) ?_
          refine er_V (As := [.int (nI t2)]) (rest := []) hFX hKK hE hS (c_X6_sheetOf_s l D κ κq st d sh vw ta sa n fs t2 a_13 (by omega) e_11) 1 gV_X11_114 hdV_X6_sheetOf rfl rfl ⟨Nat.le_of_ble_eq_true rfl, Nat.le_of_ble_eq_true rfl⟩ rfl rfl (Nat.le_of_ble_eq_true rfl) dX11_differ_14 ⟨Nat.le_of_ble_eq_true rfl, Nat.le_of_ble_eq_true rfl⟩ hl.1 hP 1 6 rfl rfl rfl (subP0 hP [1, 2] rfl) (fun _ hp_24 => ?_)
          refine W.eq (g2 := F0 m 17 ls [.ref a_13]) rfl ?_
          refine lv_astore (lv' := [(4, .ref a_13), (3, .null), (0, .ref xx), (1, .int (nI t)), (2, .int (nI t2))]) hx hb dX11_differ_17 hl (by decide) rfl (fun ls hl => ?_)
          refine lv_aload_nN hx hb dX11_differ_19 rfl (lv_at hl 1 rfl) ?_
          refine lv_ifnullN (tgt := 28) hx hb dX11_differ_20 (by decide) ?_
          refine lv_iconst (v := (-1)) hx hb dX11_differ_28 (by decide) ?_
          refine lv_goto (tgt := 38) hx hb dX11_differ_29 (by decide) ?_
          exact cr_iret hx hb hr hlk rfl (-1) rfl trivial dX11_differ_38
      · skip
        refine lv_aload_n hx hb dX11_differ_0 rfl (lv_at hl 0 rfl) ?_
        refine va_get (D := D) (ci := 11) (v := .ref st) (C := RX11) (T := TX11) (N := 7) hx hb hts inlX11 hown hK hP 0 rfl rfl 0 (by decide) (hts _ mw_15) (fun _ h9 => h9) rfl dX11_differ_1 ?_
        refine lv_iload_n hx hb dX11_differ_4 rfl (lv_at hl 1 rfl) ?_
        refine er_V (As := [.int (nI t)]) (rest := []) hFX hKK hE hS (c_X6_sheetOf_n l D κ κq st d sh vw ta sa n fs t (by omega) e_1) 1 gV_X11_114 hdV_X6_sheetOf rfl rfl ⟨Nat.le_of_ble_eq_true rfl, Nat.le_of_ble_eq_true rfl⟩ rfl rfl (Nat.le_of_ble_eq_true rfl) dX11_differ_5 ⟨Nat.le_of_ble_eq_true rfl, Nat.le_of_ble_eq_true rfl⟩ hl.1 hP 1 6 rfl rfl rfl (subP0 hP [1, 2] rfl) (fun _ hp_25 => ?_)
        refine W.eq (g2 := F0 m 8 ls [.null]) rfl ?_
        refine lv_astore_nN (lv' := [(3, .null), (0, .ref xx), (1, .int (nI t)), (2, .int zb)]) hx hb dX11_differ_8 rfl hl (by decide) rfl (fun ls hl => ?_)
        refine lv_aload_n hx hb dX11_differ_9 rfl (lv_at hl 1 rfl) ?_
        refine va_get (D := D) (ci := 11) (v := .ref st) (C := RX11) (T := TX11) (N := 7) hx hb hts inlX11 hown hK hP 0 rfl rfl 0 (by decide) (hts _ mw_15) (fun _ h9 => h9) rfl dX11_differ_10 ?_
        refine lv_iload_n hx hb dX11_differ_13 rfl (lv_at hl 3 rfl) ?_
        refine er_V (As := [.int zb]) (rest := []) hFX hKK hE hS (c_X6_sheetOf_x l D κ κq st d sh vw ta sa n zb (by assumption)) 1 gV_X11_114 hdV_X6_sheetOf rfl rfl ⟨Nat.le_of_ble_eq_true rfl, Nat.le_of_ble_eq_true rfl⟩ rfl rfl (Nat.le_of_ble_eq_true rfl) dX11_differ_14 ⟨Nat.le_of_ble_eq_true rfl, Nat.le_of_ble_eq_true rfl⟩ hl.1 hP 1 6 rfl rfl rfl (subP0 hP [1] rfl) (fun _ hp_26 => ?_)
        refine W.eq (g2 := F0 m 17 ls [.null]) rfl ?_
        refine lv_astoreN (lv' := [(4, .null), (3, .null), (0, .ref xx), (1, .int (nI t)), (2, .int zb)]) hx hb dX11_differ_17 hl (by decide) rfl (fun ls hl => ?_)
        refine lv_aload_nN hx hb dX11_differ_19 rfl (lv_at hl 1 rfl) ?_
        refine lv_ifnullN (tgt := 28) hx hb dX11_differ_20 (by decide) ?_
        refine lv_iconst (v := (-1)) hx hb dX11_differ_28 (by decide) ?_
        refine lv_goto (tgt := 38) hx hb dX11_differ_29 (by decide) ?_
        exact cr_iret hx hb hr hlk rfl (-1) rfl trivial dX11_differ_38
    · have hle_a_3 := h_8.le
      rcases pl_cases zb with ⟨t2, ht_t2, rfl⟩ | hnp_zb
      · skip
        rcases htb t2 (by omega) with ⟨e_27, e_28⟩ | ⟨a_29, R_30, w_31, d_32, v_33, e_27, e_28, h_34, h_35, hd_36⟩
        · skip
          refine lv_aload_n hx hb dX11_differ_0 rfl (lv_at hl 0 rfl) ?_
          refine va_get (D := D) (ci := 11) (v := .ref st) (C := RX11) (T := TX11) (N := 7) hx hb hts inlX11 hown hK hP 0 rfl rfl 0 (by decide) (hts _ mw_15) (fun _ h9 => h9) rfl dX11_differ_1 ?_
          refine lv_iload_n hx hb dX11_differ_4 rfl (lv_at hl 1 rfl) ?_
          refine er_V (As := [.int (nI t)]) (rest := []) hFX hKK hE hS (c_X6_sheetOf_s l D κ κq st d sh vw ta sa n fs t a_3 (by omega) e_1) 1 gV_X11_114 hdV_X6_sheetOf rfl rfl ⟨Nat.le_of_ble_eq_true rfl, Nat.le_of_ble_eq_true rfl⟩ rfl rfl (Nat.le_of_ble_eq_true rfl) dX11_differ_5 ⟨Nat.le_of_ble_eq_true rfl, Nat.le_of_ble_eq_true rfl⟩ hl.1 hP 1 6 rfl rfl rfl (subP0 hP [1, 2] rfl) (fun _ hp_37 => ?_)
          refine W.eq (g2 := F0 m 8 ls [.ref a_3]) rfl ?_
          refine lv_astore_n (lv' := [(3, .ref a_3), (0, .ref xx), (1, .int (nI t)), (2, .int (nI t2))]) hx hb dX11_differ_8 rfl hl (by decide) rfl (fun ls hl => ?_)
          refine lv_aload_n hx hb dX11_differ_9 rfl (lv_at hl 1 rfl) ?_
          refine va_get (D := D) (ci := 11) (v := .ref st) (C := RX11) (T := TX11) (N := 7) hx hb hts inlX11 hown hK hP 0 rfl rfl 0 (by decide) (hts _ mw_15) (fun _ h9 => h9) rfl dX11_differ_10 ?_
          refine lv_iload_n hx hb dX11_differ_13 rfl (lv_at hl 3 rfl) ?_
          refine er_V (As := [.int (nI t2)]) (rest := []) hFX hKK hE hS (c_X6_sheetOf_n l D κ κq st d sh vw ta sa n fs t2 (by omega) e_27) 1 gV_X11_114 hdV_X6_sheetOf rfl rfl ⟨Nat.le_of_ble_eq_true rfl, Nat.le_of_ble_eq_true rfl⟩ rfl rfl (Nat.le_of_ble_eq_true rfl) dX11_differ_14 ⟨Nat.le_of_ble_eq_true rfl, Nat.le_of_ble_eq_true rfl⟩ hl.1 hP 1 6 rfl rfl rfl (subP0 hP [1, 2] rfl) (fun _ hp_38 => ?_)
          refine W.eq (g2 := F0 m 17 ls [.null]) rfl ?_
          refine lv_astoreN (lv' := [(4, .null), (3, .ref a_3), (0, .ref xx), (1, .int (nI t)), (2, .int (nI t2))]) hx hb dX11_differ_17 hl (by decide) rfl (fun ls hl => ?_)
          refine lv_aload_n hx hb dX11_differ_19 rfl (lv_at hl 1 rfl) ?_
          refine lv_ifnull hx hb dX11_differ_20 ?_
          refine lv_aloadN hx hb dX11_differ_23 (lv_at hl 0 rfl) ?_
          refine lv_ifnonnullN hx hb dX11_differ_25 ?_
          refine lv_iconst (v := (-1)) hx hb dX11_differ_28 (by decide) ?_
          refine lv_goto (tgt := 38) hx hb dX11_differ_29 (by decide) ?_
          exact cr_iret hx hb hr hlk rfl (-1) rfl trivial dX11_differ_38
        · have hle_a_29 := h_34.le
          refine lv_aload_n hx hb dX11_differ_0 rfl (lv_at hl 0 rfl) ?_
          refine va_get (D := D) (ci := 11) (v := .ref st) (C := RX11) (T := TX11) (N := 7) hx hb hts inlX11 hown hK hP 0 rfl rfl 0 (by decide) (hts _ mw_15) (fun _ h9 => h9) rfl dX11_differ_1 ?_
          refine lv_iload_n hx hb dX11_differ_4 rfl (lv_at hl 1 rfl) ?_
          refine er_V (As := [.int (nI t)]) (rest := []) hFX hKK hE hS (c_X6_sheetOf_s l D κ κq st d sh vw ta sa n fs t a_3 (by omega) e_1) 1 gV_X11_114 hdV_X6_sheetOf rfl rfl ⟨Nat.le_of_ble_eq_true rfl, Nat.le_of_ble_eq_true rfl⟩ rfl rfl (Nat.le_of_ble_eq_true rfl) dX11_differ_5 ⟨Nat.le_of_ble_eq_true rfl, Nat.le_of_ble_eq_true rfl⟩ hl.1 hP 1 6 rfl rfl rfl (subP0 hP [1, 2] rfl) (fun _ hp_39 => ?_)
          refine W.eq (g2 := F0 m 8 ls [.ref a_3]) rfl ?_
          refine lv_astore_n (lv' := [(3, .ref a_3), (0, .ref xx), (1, .int (nI t)), (2, .int (nI t2))]) hx hb dX11_differ_8 rfl hl (by decide) rfl (fun ls hl => ?_)
          refine lv_aload_n hx hb dX11_differ_9 rfl (lv_at hl 1 rfl) ?_
          refine va_get (D := D) (ci := 11) (v := .ref st) (C := RX11) (T := TX11) (N := 7) hx hb hts inlX11 hown hK hP 0 rfl rfl 0 (by decide) (hts _ mw_15) (fun _ h9 => h9) rfl dX11_differ_10 ?_
          refine lv_iload_n hx hb dX11_differ_13 rfl (lv_at hl 3 rfl) ?_
          refine er_V (As := [.int (nI t2)]) (rest := []) hFX hKK hE hS (c_X6_sheetOf_s l D κ κq st d sh vw ta sa n fs t2 a_29 (by omega) e_27) 1 gV_X11_114 hdV_X6_sheetOf rfl rfl ⟨Nat.le_of_ble_eq_true rfl, Nat.le_of_ble_eq_true rfl⟩ rfl rfl (Nat.le_of_ble_eq_true rfl) dX11_differ_14 ⟨Nat.le_of_ble_eq_true rfl, Nat.le_of_ble_eq_true rfl⟩ hl.1 hP 1 6 rfl rfl rfl (subP0 hP [1, 2] rfl) (fun _ hp_40 => ?_)
          refine W.eq (g2 := F0 m 17 ls [.ref a_29]) rfl ?_
          refine lv_astore (lv' := [(4, .ref a_29), (3, .ref a_3), (0, .ref xx), (1, .int (nI t)), (2, .int (nI t2))]) hx hb dX11_differ_17 hl (by decide) rfl (fun ls hl => ?_)
          refine lv_aload_n hx hb dX11_differ_19 rfl (lv_at hl 1 rfl) ?_
          refine lv_ifnull hx hb dX11_differ_20 ?_
          refine lv_aload hx hb dX11_differ_23 (lv_at hl 0 rfl) ?_
          refine lv_ifnonnull (tgt := 32) hx hb dX11_differ_25 (by decide) ?_
          refine lv_aload_n hx hb dX11_differ_32 rfl (lv_at hl 1 rfl) ?_
          refine lv_aload hx hb dX11_differ_33 (lv_at hl 0 rfl) ?_
          obtain ⟨hb_43, c_44, x_45, v_46, g_47, h_48, hm_49, hm_50, hm_51, lo_52, lc_53, vw_54⟩ := id h_8
          obtain ⟨hb_43_1, hb_43_2, hb_43_3⟩ := hb_43
          have hrw_hb_43 := rw_le hb_43_1 hb_43_3
          refine er_V (As := [.ref a_29]) (rest := []) hFX hKK hE hS (c_X5_countUnlike l D κ κq im a_3 R_4 w_5 a_29 R_30 w_31 h_8 h_34) 1 gV_X11_346 hdV_X5_countUnlike rfl rfl ⟨Nat.le_of_ble_eq_true rfl, Nat.le_of_ble_eq_true rfl⟩ rfl rfl (Nat.le_of_ble_eq_true rfl) dX11_differ_35 ⟨Nat.le_of_ble_eq_true rfl, Nat.le_of_ble_eq_true rfl⟩ hl.1 (oneP (C := [(xx, .inr (11, [.ref st, .ref tp, .ref ft, .ref rd, .ref wr, .ref st2, .int zi])), (st, .inr (6, [.ref d, .ref sh, .ref vw, .ref ta, .ref sa, .int (nI n)])), (sh, .inl (κ 4, 3, .inr (.inr (.inr (.inr fs))))), (vw, .inl (κ 5, 3, .inr (.inr (.inr (.inr fv)))))]) hP hm_49) 0 5 rfl rfl rfl (subP hP [] rfl) (fun r__41 hp_42 => ?_)
          refine W.eq (g2 := F0 m 38 ls [.int r__41]) rfl ?_
          exact cr_iret hx hb hr hlk rfl r__41 rfl trivial dX11_differ_38
      · skip
        refine lv_aload_n hx hb dX11_differ_0 rfl (lv_at hl 0 rfl) ?_
        refine va_get (D := D) (ci := 11) (v := .ref st) (C := RX11) (T := TX11) (N := 7) hx hb hts inlX11 hown hK hP 0 rfl rfl 0 (by decide) (hts _ mw_15) (fun _ h9 => h9) rfl dX11_differ_1 ?_
        refine lv_iload_n hx hb dX11_differ_4 rfl (lv_at hl 1 rfl) ?_
        refine er_V (As := [.int (nI t)]) (rest := []) hFX hKK hE hS (c_X6_sheetOf_s l D κ κq st d sh vw ta sa n fs t a_3 (by omega) e_1) 1 gV_X11_114 hdV_X6_sheetOf rfl rfl ⟨Nat.le_of_ble_eq_true rfl, Nat.le_of_ble_eq_true rfl⟩ rfl rfl (Nat.le_of_ble_eq_true rfl) dX11_differ_5 ⟨Nat.le_of_ble_eq_true rfl, Nat.le_of_ble_eq_true rfl⟩ hl.1 hP 1 6 rfl rfl rfl (subP0 hP [1, 2] rfl) (fun _ hp_55 => ?_)
        refine W.eq (g2 := F0 m 8 ls [.ref a_3]) rfl ?_
        refine lv_astore_n (lv' := [(3, .ref a_3), (0, .ref xx), (1, .int (nI t)), (2, .int zb)]) hx hb dX11_differ_8 rfl hl (by decide) rfl (fun ls hl => ?_)
        refine lv_aload_n hx hb dX11_differ_9 rfl (lv_at hl 1 rfl) ?_
        refine va_get (D := D) (ci := 11) (v := .ref st) (C := RX11) (T := TX11) (N := 7) hx hb hts inlX11 hown hK hP 0 rfl rfl 0 (by decide) (hts _ mw_15) (fun _ h9 => h9) rfl dX11_differ_10 ?_
        refine lv_iload_n hx hb dX11_differ_13 rfl (lv_at hl 3 rfl) ?_
        refine er_V (As := [.int zb]) (rest := []) hFX hKK hE hS (c_X6_sheetOf_x l D κ κq st d sh vw ta sa n zb (by assumption)) 1 gV_X11_114 hdV_X6_sheetOf rfl rfl ⟨Nat.le_of_ble_eq_true rfl, Nat.le_of_ble_eq_true rfl⟩ rfl rfl (Nat.le_of_ble_eq_true rfl) dX11_differ_14 ⟨Nat.le_of_ble_eq_true rfl, Nat.le_of_ble_eq_true rfl⟩ hl.1 hP 1 6 rfl rfl rfl (subP0 hP [1] rfl) (fun _ hp_56 => ?_)
        refine W.eq (g2 := F0 m 17 ls [.null]) rfl ?_
        refine lv_astoreN (lv' := [(4, .null), (3, .ref a_3), (0, .ref xx), (1, .int (nI t)), (2, .int zb)]) hx hb dX11_differ_17 hl (by decide) rfl (fun ls hl => ?_)
        refine lv_aload_n hx hb dX11_differ_19 rfl (lv_at hl 1 rfl) ?_
        refine lv_ifnull hx hb dX11_differ_20 ?_
        refine lv_aloadN hx hb dX11_differ_23 (lv_at hl 0 rfl) ?_
        refine lv_ifnonnullN hx hb dX11_differ_25 ?_
        refine lv_iconst (v := (-1)) hx hb dX11_differ_28 (by decide) ?_
        refine lv_goto (tgt := 38) hx hb dX11_differ_29 (by decide) ?_
        exact cr_iret hx hb hr hlk rfl (-1) rfl trivial dX11_differ_38
  · skip
    rcases pl_cases zb with ⟨t2, ht_t2, rfl⟩ | hnp_zb
    · skip
      rcases htb t2 (by omega) with ⟨e_57, e_58⟩ | ⟨a_59, R_60, w_61, d_62, v_63, e_57, e_58, h_64, h_65, hd_66⟩
      · skip
        refine lv_aload_n hx hb dX11_differ_0 rfl (lv_at hl 0 rfl) ?_
        refine va_get (D := D) (ci := 11) (v := .ref st) (C := RX11) (T := TX11) (N := 7) hx hb hts inlX11 hown hK hP 0 rfl rfl 0 (by decide) (hts _ mw_15) (fun _ h9 => h9) rfl dX11_differ_1 ?_
        refine lv_iload_n hx hb dX11_differ_4 rfl (lv_at hl 1 rfl) ?_
        refine er_V (As := [.int za]) (rest := []) hFX hKK hE hS (c_X6_sheetOf_x l D κ κq st d sh vw ta sa n za (by assumption)) 1 gV_X11_114 hdV_X6_sheetOf rfl rfl ⟨Nat.le_of_ble_eq_true rfl, Nat.le_of_ble_eq_true rfl⟩ rfl rfl (Nat.le_of_ble_eq_true rfl) dX11_differ_5 ⟨Nat.le_of_ble_eq_true rfl, Nat.le_of_ble_eq_true rfl⟩ hl.1 hP 1 6 rfl rfl rfl (subP0 hP [1] rfl) (fun _ hp_67 => ?_)
        refine W.eq (g2 := F0 m 8 ls [.null]) rfl ?_
        refine lv_astore_nN (lv' := [(3, .null), (0, .ref xx), (1, .int za), (2, .int (nI t2))]) hx hb dX11_differ_8 rfl hl (by decide) rfl (fun ls hl => ?_)
        refine lv_aload_n hx hb dX11_differ_9 rfl (lv_at hl 1 rfl) ?_
        refine va_get (D := D) (ci := 11) (v := .ref st) (C := RX11) (T := TX11) (N := 7) hx hb hts inlX11 hown hK hP 0 rfl rfl 0 (by decide) (hts _ mw_15) (fun _ h9 => h9) rfl dX11_differ_10 ?_
        refine lv_iload_n hx hb dX11_differ_13 rfl (lv_at hl 3 rfl) ?_
        refine er_V (As := [.int (nI t2)]) (rest := []) hFX hKK hE hS (c_X6_sheetOf_n l D κ κq st d sh vw ta sa n fs t2 (by omega) e_57) 1 gV_X11_114 hdV_X6_sheetOf rfl rfl ⟨Nat.le_of_ble_eq_true rfl, Nat.le_of_ble_eq_true rfl⟩ rfl rfl (Nat.le_of_ble_eq_true rfl) dX11_differ_14 ⟨Nat.le_of_ble_eq_true rfl, Nat.le_of_ble_eq_true rfl⟩ hl.1 hP 1 6 rfl rfl rfl (subP0 hP [1, 2] rfl) (fun _ hp_68 => ?_)
        refine W.eq (g2 := F0 m 17 ls [.null]) rfl ?_
        refine lv_astoreN (lv' := [(4, .null), (3, .null), (0, .ref xx), (1, .int za), (2, .int (nI t2))]) hx hb dX11_differ_17 hl (by decide) rfl (fun ls hl => ?_)
        refine lv_aload_nN hx hb dX11_differ_19 rfl (lv_at hl 1 rfl) ?_
        refine lv_ifnullN (tgt := 28) hx hb dX11_differ_20 (by decide) ?_
        refine lv_iconst (v := (-1)) hx hb dX11_differ_28 (by decide) ?_
        refine lv_goto (tgt := 38) hx hb dX11_differ_29 (by decide) ?_
        exact cr_iret hx hb hr hlk rfl (-1) rfl trivial dX11_differ_38
      · have hle_a_59 := h_64.le
        refine lv_aload_n hx hb dX11_differ_0 rfl (lv_at hl 0 rfl) ?_
        refine va_get (D := D) (ci := 11) (v := .ref st) (C := RX11) (T := TX11) (N := 7) hx hb hts inlX11 hown hK hP 0 rfl rfl 0 (by decide) (hts _ mw_15) (fun _ h9 => h9) rfl dX11_differ_1 ?_
        refine lv_iload_n hx hb dX11_differ_4 rfl (lv_at hl 1 rfl) ?_
        refine er_V (As := [.int za]) (rest := []) hFX hKK hE hS (c_X6_sheetOf_x l D κ κq st d sh vw ta sa n za (by assumption)) 1 gV_X11_114 hdV_X6_sheetOf rfl rfl ⟨Nat.le_of_ble_eq_true rfl, Nat.le_of_ble_eq_true rfl⟩ rfl rfl (Nat.le_of_ble_eq_true rfl) dX11_differ_5 ⟨Nat.le_of_ble_eq_true rfl, Nat.le_of_ble_eq_true rfl⟩ hl.1 hP 1 6 rfl rfl rfl (subP0 hP [1] rfl) (fun _ hp_69 => ?_)
        refine W.eq (g2 := F0 m 8 ls [.null]) rfl ?_
        refine lv_astore_nN (lv' := [(3, .null), (0, .ref xx), (1, .int za), (2, .int (nI t2))]) hx hb dX11_differ_8 rfl hl (by decide) rfl (fun ls hl => ?_)
        refine lv_aload_n hx hb dX11_differ_9 rfl (lv_at hl 1 rfl) ?_
        refine va_get (D := D) (ci := 11) (v := .ref st) (C := RX11) (T := TX11) (N := 7) hx hb hts inlX11 hown hK hP 0 rfl rfl 0 (by decide) (hts _ mw_15) (fun _ h9 => h9) rfl dX11_differ_10 ?_
        refine lv_iload_n hx hb dX11_differ_13 rfl (lv_at hl 3 rfl) ?_
        refine er_V (As := [.int (nI t2)]) (rest := []) hFX hKK hE hS (c_X6_sheetOf_s l D κ κq st d sh vw ta sa n fs t2 a_59 (by omega) e_57) 1 gV_X11_114 hdV_X6_sheetOf rfl rfl ⟨Nat.le_of_ble_eq_true rfl, Nat.le_of_ble_eq_true rfl⟩ rfl rfl (Nat.le_of_ble_eq_true rfl) dX11_differ_14 ⟨Nat.le_of_ble_eq_true rfl, Nat.le_of_ble_eq_true rfl⟩ hl.1 hP 1 6 rfl rfl rfl (subP0 hP [1, 2] rfl) (fun _ hp_70 => ?_)
        refine W.eq (g2 := F0 m 17 ls [.ref a_59]) rfl ?_
        refine lv_astore (lv' := [(4, .ref a_59), (3, .null), (0, .ref xx), (1, .int za), (2, .int (nI t2))]) hx hb dX11_differ_17 hl (by decide) rfl (fun ls hl => ?_)
        refine lv_aload_nN hx hb dX11_differ_19 rfl (lv_at hl 1 rfl) ?_
        refine lv_ifnullN (tgt := 28) hx hb dX11_differ_20 (by decide) ?_
        refine lv_iconst (v := (-1)) hx hb dX11_differ_28 (by decide) ?_
        refine lv_goto (tgt := 38) hx hb dX11_differ_29 (by decide) ?_
        exact cr_iret hx hb hr hlk rfl (-1) rfl trivial dX11_differ_38
    · skip
      refine lv_aload_n hx hb dX11_differ_0 rfl (lv_at hl 0 rfl) ?_
      refine va_get (D := D) (ci := 11) (v := .ref st) (C := RX11) (T := TX11) (N := 7) hx hb hts inlX11 hown hK hP 0 rfl rfl 0 (by decide) (hts _ mw_15) (fun _ h9 => h9) rfl dX11_differ_1 ?_
      refine lv_iload_n hx hb dX11_differ_4 rfl (lv_at hl 1 rfl) ?_
      refine er_V (As := [.int za]) (rest := []) hFX hKK hE hS (c_X6_sheetOf_x l D κ κq st d sh vw ta sa n za (by assumption)) 1 gV_X11_114 hdV_X6_sheetOf rfl rfl ⟨Nat.le_of_ble_eq_true rfl, Nat.le_of_ble_eq_true rfl⟩ rfl rfl (Nat.le_of_ble_eq_true rfl) dX11_differ_5 ⟨Nat.le_of_ble_eq_true rfl, Nat.le_of_ble_eq_true rfl⟩ hl.1 hP 1 6 rfl rfl rfl (subP0 hP [1] rfl) (fun _ hp_71 => ?_)
      refine W.eq (g2 := F0 m 8 ls [.null]) rfl ?_
      refine lv_astore_nN (lv' := [(3, .null), (0, .ref xx), (1, .int za), (2, .int zb)]) hx hb dX11_differ_8 rfl hl (by decide) rfl (fun ls hl => ?_)
      refine lv_aload_n hx hb dX11_differ_9 rfl (lv_at hl 1 rfl) ?_
      refine va_get (D := D) (ci := 11) (v := .ref st) (C := RX11) (T := TX11) (N := 7) hx hb hts inlX11 hown hK hP 0 rfl rfl 0 (by decide) (hts _ mw_15) (fun _ h9 => h9) rfl dX11_differ_10 ?_
      refine lv_iload_n hx hb dX11_differ_13 rfl (lv_at hl 3 rfl) ?_
      refine er_V (As := [.int zb]) (rest := []) hFX hKK hE hS (c_X6_sheetOf_x l D κ κq st d sh vw ta sa n zb (by assumption)) 1 gV_X11_114 hdV_X6_sheetOf rfl rfl ⟨Nat.le_of_ble_eq_true rfl, Nat.le_of_ble_eq_true rfl⟩ rfl rfl (Nat.le_of_ble_eq_true rfl) dX11_differ_14 ⟨Nat.le_of_ble_eq_true rfl, Nat.le_of_ble_eq_true rfl⟩ hl.1 hP 1 6 rfl rfl rfl (subP0 hP [1] rfl) (fun _ hp_72 => ?_)
      refine W.eq (g2 := F0 m 17 ls [.null]) rfl ?_
      refine lv_astoreN (lv' := [(4, .null), (3, .null), (0, .ref xx), (1, .int za), (2, .int zb)]) hx hb dX11_differ_17 hl (by decide) rfl (fun ls hl => ?_)
      refine lv_aload_nN hx hb dX11_differ_19 rfl (lv_at hl 1 rfl) ?_
      refine lv_ifnullN (tgt := 28) hx hb dX11_differ_20 (by decide) ?_
      refine lv_iconst (v := (-1)) hx hb dX11_differ_28 (by decide) ?_
      refine lv_goto (tgt := 38) hx hb dX11_differ_29 (by decide) ?_
      exact cr_iret hx hb hr hlk rfl (-1) rfl trivial dX11_differ_38
set_option maxHeartbeats 4000000 in
set_option maxRecDepth 100000 in
theorem c_X11_look (l : Launch) (D : va_G) (κ : Nat → ClassId) (κq : Nat → Nat) (im : va_W) (xx : Nat) (tp : Nat) (ft : Nat) (rd : Nat) (wr : Nat) (st2 : Nat) (zi : Int32) (st : Nat) (d : Nat) (sh : Nat) (vw : Nat) (ta : Nat) (sa : Nat) (n : Nat) (fs : Nat → Option Nat) (fv : Nat → Option Nat) (tb : Nat) (L : Nat) (f0 : Int32) (f1 : Int32) (f2 : Int32) (f3 : Int32) (f4 : Int32) (f5 : Int32) (dl : Nat → Int32) (za : Int32) (htb : Tb κ im fs fv 3) : Er l yX11_look (wl yX11_look cX11_look 2 (some .int)) { frames := 1, cells := 0, slots := 0, locals := 23 } D κ κq [.ref xx, .int za] ([(xx, .inr (11, [.ref st, .ref tp, .ref ft, .ref rd, .ref wr, .ref st2, .int zi])), (st, .inr (6, [.ref d, .ref sh, .ref vw, .ref ta, .ref sa, .int (nI n)])), (sh, .inl (κ 4, 3, .inr (.inr (.inr (.inr fs))))), (vw, .inl (κ 5, 3, .inr (.inr (.inr (.inr fv))))), (tp, .inr (8, [.ref tb, .int (nI L)])), (ft, .inr (2, [.int f0, .int f1, .int f2, .int f3, .int f4, .int f5])), (d, .inl (κ 0, 6, .inl dl))] ++ im) (fun r : Int32 => some (.int r)) (fun r : Int32 => True) := by
  refine er_of (by decide +kernel) (Nat.le_of_ble_eq_true rfl) ?_
  intro p e s m args below meth c A ls hx hb hr hml hts hown hlk hKK hK hP hE hl
  have hS : va_S A s.heap s.heap [] := va_S.rf
  have hP : va_P D vwCl ([(xx, .inr (11, [.ref st, .ref tp, .ref ft, .ref rd, .ref wr, .ref st2, .int zi])), (st, .inr (6, [.ref d, .ref sh, .ref vw, .ref ta, .ref sa, .int (nI n)])), (sh, .inl (κ 4, 3, .inr (.inr (.inr (.inr fs))))), (vw, .inl (κ 5, 3, .inr (.inr (.inr (.inr fv))))), (tp, .inr (8, [.ref tb, .int (nI L)])), (ft, .inr (2, [.int f0, .int f1, .int f2, .int f3, .int f4, .int f5])), (d, .inl (κ 0, 6, .inl dl))] ++ im) s.heap := hP
  have hFX : FX p s m args c cX11_look 2 RX11 := ⟨hx, hb, hml, hown, hts⟩
  have hl : lv_has ls 2 [(0, .ref xx), (1, .int za)] := hl
  have hss3 := htb.ss
  refine lv_iload_n hx hb dX11_look_0 rfl (lv_at hl 1 rfl) ?_
  refine lv_if_lt (tgt := 20) hx hb dX11_look_1 (by decide) (fun c_1 => ?_) (fun c_1 => ?_)
  · have nc_1 := cz_lt (a := za.toInt) (b := (0 : Int)) rfl (by decide) c_1
    refine lv_iload_n hx hb dX11_look_20 rfl (lv_at hl 1 rfl) ?_
    rcases Classical.em (za.toInt < 6 ∨ 10 < za.toInt) with c_2 | c_2
    · refine lv_tableOut (tgt := 96) hx hb dX11_look_21 c_2 (by decide) ?_
      refine lv_iconst (v := (-1)) hx hb dX11_look_96 (by decide) ?_
      exact cr_iret hx hb hr hlk rfl (-1) rfl trivial dX11_look_97
    · have e_3 : za = 6 ∨ za = 7 ∨ za = 8 ∨ za = 9 ∨ za = 10 := by
        have q1 : ¬ za.toInt < 6 := fun h => c_2 (Or.inl h)
        have q2 : ¬ 10 < za.toInt := fun h => c_2 (Or.inr h)
        have q3 : ∀ v : Int32, za.toInt = v.toInt → za = v := fun v h => Int32.toInt_inj.mp h
        rcases (show za.toInt = 6 ∨ za.toInt = 7 ∨ za.toInt = 8 ∨ za.toInt = 9 ∨ za.toInt = 10 by omega) with h | h | h | h | h
        · exact Or.inl (q3 6 (h.trans (by decide)))
        · exact Or.inr (Or.inl (q3 7 (h.trans (by decide))))
        · exact Or.inr (Or.inr (Or.inl (q3 8 (h.trans (by decide)))))
        · exact Or.inr (Or.inr (Or.inr (Or.inl (q3 9 (h.trans (by decide))))))
        · exact Or.inr (Or.inr (Or.inr (Or.inr ((q3 10 (h.trans (by decide)))))))
      clear c_2
      rcases e_3 with rfl | rfl | rfl | rfl | rfl
      · refine lv_tableIn (tgt := 56) hx hb dX11_look_21 (by decide) (by decide) rfl (by decide) ?_
        refine lv_aload_n hx hb dX11_look_56 rfl (lv_at hl 0 rfl) ?_
        refine va_get (D := D) (ci := 11) (v := .ref st) (C := RX11) (T := TX11) (N := 7) hx hb hts inlX11 hown hK hP 0 rfl rfl 0 (by decide) (hts _ mw_15) (fun _ h9 => h9) rfl dX11_look_57 ?_
        refine er_V (As := []) (rest := []) hFX hKK hE hS (c_X6_tablesThere l D κ κq im st d sh vw ta sa n fs hss3) 0 gV_X11_360 hdV_X6_tablesThere rfl rfl ⟨Nat.le_of_ble_eq_true rfl, Nat.le_of_ble_eq_true rfl⟩ rfl rfl (Nat.le_of_ble_eq_true rfl) dX11_look_60 ⟨Nat.le_of_ble_eq_true rfl, Nat.le_of_ble_eq_true rfl⟩ hl.1 hP 1 6 rfl rfl rfl (subP hP [1, 2] rfl) (fun r__4 hp_5 => ?_)
        refine W.eq (g2 := F0 m 63 ls [.int r__4]) rfl ?_
        exact cr_iret hx hb hr hlk rfl r__4 rfl trivial dX11_look_63
      · refine lv_tableIn (tgt := 64) hx hb dX11_look_21 (by decide) (by decide) rfl (by decide) ?_
        refine lv_aload_n hx hb dX11_look_64 rfl (lv_at hl 0 rfl) ?_
        refine va_get (D := D) (ci := 11) (v := .ref st) (C := RX11) (T := TX11) (N := 7) hx hb hts inlX11 hown hK hP 0 rfl rfl 0 (by decide) (hts _ mw_15) (fun _ h9 => h9) rfl dX11_look_65 ?_
        refine va_get (D := D) (ci := 6) (v := .int (nI n)) (C := RX6) (T := TX6) (N := 6) hx hb hts inlX6 hown hK hP 1 rfl rfl 5 (by decide) (hts _ mw_969) (fun _ h9 => h9) rfl dX11_look_68 ?_
        exact cr_iret hx hb hr hlk rfl (nI n) rfl trivial dX11_look_71
      · refine lv_tableIn (tgt := 72) hx hb dX11_look_21 (by decide) (by decide) rfl (by decide) ?_
        refine lv_aload_n hx hb dX11_look_72 rfl (lv_at hl 0 rfl) ?_
        refine va_get (D := D) (ci := 11) (v := .ref tp) (C := RX11) (T := TX11) (N := 7) hx hb hts inlX11 hown hK hP 0 rfl rfl 1 (by decide) (hts _ mw_19) (fun _ h9 => h9) rfl dX11_look_73 ?_
        refine va_get (D := D) (ci := 8) (v := .int (nI L)) (C := RX8) (T := TX8) (N := 2) hx hb hts inlX8 hown hK hP 4 rfl rfl 1 (by decide) (hts _ mw_223) (fun _ h9 => h9) rfl dX11_look_76 ?_
        exact cr_iret hx hb hr hlk rfl (nI L) rfl trivial dX11_look_79
      · refine lv_tableIn (tgt := 80) hx hb dX11_look_21 (by decide) (by decide) rfl (by decide) ?_
        refine lv_aload_n hx hb dX11_look_80 rfl (lv_at hl 0 rfl) ?_
        refine va_get (D := D) (ci := 11) (v := .ref st) (C := RX11) (T := TX11) (N := 7) hx hb hts inlX11 hown hK hP 0 rfl rfl 0 (by decide) (hts _ mw_15) (fun _ h9 => h9) rfl dX11_look_81 ?_
        refine er_V (As := []) (rest := []) hFX hKK hE hS (c_X6_countCells l D κ κq im st d sh vw ta sa n fs hss3) 0 gV_X11_363 hdV_X6_countCells rfl rfl ⟨Nat.le_of_ble_eq_true rfl, Nat.le_of_ble_eq_true rfl⟩ rfl rfl (Nat.le_of_ble_eq_true rfl) dX11_look_84 ⟨Nat.le_of_ble_eq_true rfl, Nat.le_of_ble_eq_true rfl⟩ hl.1 hP 1 6 rfl rfl rfl (subP hP [1, 2] rfl) (fun r__6 hp_7 => ?_)
        refine W.eq (g2 := F0 m 87 ls [.int r__6]) rfl ?_
        exact cr_iret hx hb hr hlk rfl r__6 rfl trivial dX11_look_87
      · refine lv_tableIn (tgt := 88) hx hb dX11_look_21 (by decide) (by decide) rfl (by decide) ?_
        refine lv_aload_n hx hb dX11_look_88 rfl (lv_at hl 0 rfl) ?_
        refine va_get (D := D) (ci := 11) (v := .ref ft) (C := RX11) (T := TX11) (N := 7) hx hb hts inlX11 hown hK hP 0 rfl rfl 2 (by decide) (hts _ mw_23) (fun _ h9 => h9) rfl dX11_look_89 ?_
        refine va_get (D := D) (ci := 2) (v := .int f5) (C := RX2) (T := TX2) (N := 6) hx hb hts inlX2 hown hK hP 5 rfl rfl 5 (by decide) (hts _ mw_1488) (fun _ h9 => h9) rfl dX11_look_92 ?_
        exact cr_iret hx hb hr hlk rfl f5 rfl trivial dX11_look_95
  · have nc_1 := cz_nlt (a := za.toInt) (b := (0 : Int)) rfl (by decide) c_1
    refine lv_iload_n hx hb dX11_look_4 rfl (lv_at hl 1 rfl) ?_
    refine lv_bipush (v := 6) hx hb dX11_look_5 (by decide) ?_
    refine lv_icmp_ge (tgt := 20) hx hb dX11_look_7 (by decide) (fun c_8 => ?_) (fun c_8 => ?_)
    · have nc_8 := cz_le (a := (6 : Int)) (b := za.toInt) (by decide) rfl c_8
      refine lv_iload_n hx hb dX11_look_20 rfl (lv_at hl 1 rfl) ?_
      rcases Classical.em (za.toInt < 6 ∨ 10 < za.toInt) with c_9 | c_9
      · refine lv_tableOut (tgt := 96) hx hb dX11_look_21 c_9 (by decide) ?_
        refine lv_iconst (v := (-1)) hx hb dX11_look_96 (by decide) ?_
        exact cr_iret hx hb hr hlk rfl (-1) rfl trivial dX11_look_97
      · have e_10 : za = 6 ∨ za = 7 ∨ za = 8 ∨ za = 9 ∨ za = 10 := by
          have q1 : ¬ za.toInt < 6 := fun h => c_9 (Or.inl h)
          have q2 : ¬ 10 < za.toInt := fun h => c_9 (Or.inr h)
          have q3 : ∀ v : Int32, za.toInt = v.toInt → za = v := fun v h => Int32.toInt_inj.mp h
          rcases (show za.toInt = 6 ∨ za.toInt = 7 ∨ za.toInt = 8 ∨ za.toInt = 9 ∨ za.toInt = 10 by omega) with h | h | h | h | h
          · exact Or.inl (q3 6 (h.trans (by decide)))
          · exact Or.inr (Or.inl (q3 7 (h.trans (by decide))))
          · exact Or.inr (Or.inr (Or.inl (q3 8 (h.trans (by decide)))))
          · exact Or.inr (Or.inr (Or.inr (Or.inl (q3 9 (h.trans (by decide))))))
          · exact Or.inr (Or.inr (Or.inr (Or.inr ((q3 10 (h.trans (by decide)))))))
        clear c_9
        rcases e_10 with rfl | rfl | rfl | rfl | rfl
        · refine lv_tableIn (tgt := 56) hx hb dX11_look_21 (by decide) (by decide) rfl (by decide) ?_
          refine lv_aload_n hx hb dX11_look_56 rfl (lv_at hl 0 rfl) ?_
          refine va_get (D := D) (ci := 11) (v := .ref st) (C := RX11) (T := TX11) (N := 7) hx hb hts inlX11 hown hK hP 0 rfl rfl 0 (by decide) (hts _ mw_15) (fun _ h9 => h9) rfl dX11_look_57 ?_
          refine er_V (As := []) (rest := []) hFX hKK hE hS (c_X6_tablesThere l D κ κq im st d sh vw ta sa n fs hss3) 0 gV_X11_360 hdV_X6_tablesThere rfl rfl ⟨Nat.le_of_ble_eq_true rfl, Nat.le_of_ble_eq_true rfl⟩ rfl rfl (Nat.le_of_ble_eq_true rfl) dX11_look_60 ⟨Nat.le_of_ble_eq_true rfl, Nat.le_of_ble_eq_true rfl⟩ hl.1 hP 1 6 rfl rfl rfl (subP hP [1, 2] rfl) (fun r__11 hp_12 => ?_)
          refine W.eq (g2 := F0 m 63 ls [.int r__11]) rfl ?_
          exact cr_iret hx hb hr hlk rfl r__11 rfl trivial dX11_look_63
        · refine lv_tableIn (tgt := 64) hx hb dX11_look_21 (by decide) (by decide) rfl (by decide) ?_
          refine lv_aload_n hx hb dX11_look_64 rfl (lv_at hl 0 rfl) ?_
          refine va_get (D := D) (ci := 11) (v := .ref st) (C := RX11) (T := TX11) (N := 7) hx hb hts inlX11 hown hK hP 0 rfl rfl 0 (by decide) (hts _ mw_15) (fun _ h9 => h9) rfl dX11_look_65 ?_
          refine va_get (D := D) (ci := 6) (v := .int (nI n)) (C := RX6) (T := TX6) (N := 6) hx hb hts inlX6 hown hK hP 1 rfl rfl 5 (by decide) (hts _ mw_969) (fun _ h9 => h9) rfl dX11_look_68 ?_
          exact cr_iret hx hb hr hlk rfl (nI n) rfl trivial dX11_look_71
        · refine lv_tableIn (tgt := 72) hx hb dX11_look_21 (by decide) (by decide) rfl (by decide) ?_
          refine lv_aload_n hx hb dX11_look_72 rfl (lv_at hl 0 rfl) ?_
          refine va_get (D := D) (ci := 11) (v := .ref tp) (C := RX11) (T := TX11) (N := 7) hx hb hts inlX11 hown hK hP 0 rfl rfl 1 (by decide) (hts _ mw_19) (fun _ h9 => h9) rfl dX11_look_73 ?_
          refine va_get (D := D) (ci := 8) (v := .int (nI L)) (C := RX8) (T := TX8) (N := 2) hx hb hts inlX8 hown hK hP 4 rfl rfl 1 (by decide) (hts _ mw_223) (fun _ h9 => h9) rfl dX11_look_76 ?_
          exact cr_iret hx hb hr hlk rfl (nI L) rfl trivial dX11_look_79
        · refine lv_tableIn (tgt := 80) hx hb dX11_look_21 (by decide) (by decide) rfl (by decide) ?_
          refine lv_aload_n hx hb dX11_look_80 rfl (lv_at hl 0 rfl) ?_
          refine va_get (D := D) (ci := 11) (v := .ref st) (C := RX11) (T := TX11) (N := 7) hx hb hts inlX11 hown hK hP 0 rfl rfl 0 (by decide) (hts _ mw_15) (fun _ h9 => h9) rfl dX11_look_81 ?_
          refine er_V (As := []) (rest := []) hFX hKK hE hS (c_X6_countCells l D κ κq im st d sh vw ta sa n fs hss3) 0 gV_X11_363 hdV_X6_countCells rfl rfl ⟨Nat.le_of_ble_eq_true rfl, Nat.le_of_ble_eq_true rfl⟩ rfl rfl (Nat.le_of_ble_eq_true rfl) dX11_look_84 ⟨Nat.le_of_ble_eq_true rfl, Nat.le_of_ble_eq_true rfl⟩ hl.1 hP 1 6 rfl rfl rfl (subP hP [1, 2] rfl) (fun r__13 hp_14 => ?_)
          refine W.eq (g2 := F0 m 87 ls [.int r__13]) rfl ?_
          exact cr_iret hx hb hr hlk rfl r__13 rfl trivial dX11_look_87
        · refine lv_tableIn (tgt := 88) hx hb dX11_look_21 (by decide) (by decide) rfl (by decide) ?_
          refine lv_aload_n hx hb dX11_look_88 rfl (lv_at hl 0 rfl) ?_
          refine va_get (D := D) (ci := 11) (v := .ref ft) (C := RX11) (T := TX11) (N := 7) hx hb hts inlX11 hown hK hP 0 rfl rfl 2 (by decide) (hts _ mw_23) (fun _ h9 => h9) rfl dX11_look_89 ?_
          refine va_get (D := D) (ci := 2) (v := .int f5) (C := RX2) (T := TX2) (N := 6) hx hb hts inlX2 hown hK hP 5 rfl rfl 5 (by decide) (hts _ mw_1488) (fun _ h9 => h9) rfl dX11_look_92 ?_
          exact cr_iret hx hb hr hlk rfl f5 rfl trivial dX11_look_95
    · have nc_8 := cz_nle (a := (6 : Int)) (b := za.toInt) (by decide) rfl c_8
      refine lv_aload_n hx hb dX11_look_10 rfl (lv_at hl 0 rfl) ?_
      refine va_get (D := D) (ci := 11) (v := .ref st) (C := RX11) (T := TX11) (N := 7) hx hb hts inlX11 hown hK hP 0 rfl rfl 0 (by decide) (hts _ mw_15) (fun _ h9 => h9) rfl dX11_look_11 ?_
      refine va_get (D := D) (ci := 6) (v := .ref d) (C := RX6) (T := TX6) (N := 6) hx hb hts inlX6 hown hK hP 1 rfl rfl 0 (by decide) (hts _ mw_27) (fun _ h9 => h9) rfl dX11_look_14 ?_
      refine lv_iload_n hx hb dX11_look_17 rfl (lv_at hl 1 rfl) ?_
      obtain ⟨j_15, hj_15, rfl⟩ := i_nat (x := za) (B := 5) (by omega) (by omega)
      have hz_j_15 : (nI j_15).toInt = ((j_15 : Nat) : Int) := nI_toInt (by omega)
      refine va_iald hx hb hK hP 6 0 rfl rfl (i := nI j_15) (vp_in_nI (n := j_15) (by omega) (by omega)) dX11_look_18 ?_
      refine kv (v := .int (dl j_15)) (by rw [nI_clamp (by omega)]) ?_
      obtain ⟨x_16, ex_16⟩ : ∃ y9 : Int32, dl j_15 = y9 := ⟨_, rfl⟩
      refine kv (v := .int x_16) (congrArg Value.int ex_16) ?_
      exact cr_iret hx hb hr hlk rfl x_16 rfl trivial dX11_look_19
set_option maxHeartbeats 4000000 in
set_option maxRecDepth 100000 in
theorem c_X11_sign (l : Launch) (D : va_G) (κ : Nat → ClassId) (κq : Nat → Nat) (im : va_W) (xx : Nat) (tp : Nat) (ft : Nat) (rd : Nat) (wr : Nat) (st2 : Nat) (zi : Int32) (st : Nat) (d : Nat) (sh : Nat) (vw : Nat) (ta : Nat) (sa : Nat) (n : Nat) (fs : Nat → Option Nat) (fv : Nat → Option Nat) (wb : Nat) (Lw : Nat) (bf : Nat → Int32) (za : Int32) (htb : Tb κ im fs fv 3) (hLw : Lw ≤ 6000) : Er l yX11_sign (wl yX11_sign cX11_sign 2 (some .int)) { frames := 0, cells := 0, slots := 0, locals := 0 } D κ κq [.ref xx, .int za] ([(xx, .inr (11, [.ref st, .ref tp, .ref ft, .ref rd, .ref wr, .ref st2, .int zi])), (st, .inr (6, [.ref d, .ref sh, .ref vw, .ref ta, .ref sa, .int (nI n)])), (sh, .inl (κ 4, 3, .inr (.inr (.inr (.inr fs))))), (vw, .inl (κ 5, 3, .inr (.inr (.inr (.inr fv))))), (wr, .inr (10, [.ref d, .ref wb, .int (nI Lw)])), (wb, .inl (κ 1, 6000, .inl bf))] ++ im) (fun r : Int32 => some (.int r)) (fun r : Int32 => True) := by
  refine er_of (by decide +kernel) (Nat.le_of_ble_eq_true rfl) ?_
  intro p e s m args below meth c A ls hx hb hr hml hts hown hlk hKK hK hP hE hl
  have hS : va_S A s.heap s.heap [] := va_S.rf
  have hP : va_P D vwCl ([(xx, .inr (11, [.ref st, .ref tp, .ref ft, .ref rd, .ref wr, .ref st2, .int zi])), (st, .inr (6, [.ref d, .ref sh, .ref vw, .ref ta, .ref sa, .int (nI n)])), (sh, .inl (κ 4, 3, .inr (.inr (.inr (.inr fs))))), (vw, .inl (κ 5, 3, .inr (.inr (.inr (.inr fv))))), (wr, .inr (10, [.ref d, .ref wb, .int (nI Lw)])), (wb, .inl (κ 1, 6000, .inl bf))] ++ im) s.heap := hP
  have hFX : FX p s m args c cX11_sign 2 RX11 := ⟨hx, hb, hml, hown, hts⟩
  have hl : lv_has ls 2 [(0, .ref xx), (1, .int za)] := hl
  refine lv_iload_n hx hb dX11_sign_0 rfl (lv_at hl 1 rfl) ?_
  refine lv_if_lt (tgt := 15) hx hb dX11_sign_1 (by decide) (fun c_1 => ?_) (fun c_1 => ?_)
  · have nc_1 := cz_lt (a := za.toInt) (b := (0 : Int)) rfl (by decide) c_1
    refine lv_iconst (v := (-1)) hx hb dX11_sign_15 (by decide) ?_
    refine lv_goto (tgt := 28) hx hb dX11_sign_16 (by decide) ?_
    exact cr_iret hx hb hr hlk rfl (-1) rfl trivial dX11_sign_28
  · have nc_1 := cz_nlt (a := za.toInt) (b := (0 : Int)) rfl (by decide) c_1
    refine lv_iload_n hx hb dX11_sign_4 rfl (lv_at hl 1 rfl) ?_
    refine lv_aload_n hx hb dX11_sign_5 rfl (lv_at hl 0 rfl) ?_
    refine va_get (D := D) (ci := 11) (v := .ref wr) (C := RX11) (T := TX11) (N := 7) hx hb hts inlX11 hown hK hP 0 rfl rfl 4 (by decide) (hts _ mw_32) (fun _ h9 => h9) rfl dX11_sign_6 ?_
    refine va_get (D := D) (ci := 10) (v := .int (nI Lw)) (C := RX10) (T := TX10) (N := 3) hx hb hts inlX10 hown hK hP 4 rfl rfl 2 (by decide) (hts _ mw_1405) (fun _ h9 => h9) rfl dX11_sign_9 ?_
    refine lv_icmp_lt (tgt := 19) hx hb dX11_sign_12 (by decide) (fun c_2 => ?_) (fun c_2 => ?_)
    · have nc_2 := cz_lt (a := za.toInt) (b := ((Lw : Nat) : Int)) rfl (nI_toInt (by omega)) c_2
      refine lv_aload_n hx hb dX11_sign_19 rfl (lv_at hl 0 rfl) ?_
      refine va_get (D := D) (ci := 11) (v := .ref wr) (C := RX11) (T := TX11) (N := 7) hx hb hts inlX11 hown hK hP 0 rfl rfl 4 (by decide) (hts _ mw_32) (fun _ h9 => h9) rfl dX11_sign_20 ?_
      refine va_get (D := D) (ci := 10) (v := .ref wb) (C := RX10) (T := TX10) (N := 3) hx hb hts inlX10 hown hK hP 4 rfl rfl 1 (by decide) (hts _ mw_1465) (fun _ h9 => h9) rfl dX11_sign_23 ?_
      refine lv_iload_n hx hb dX11_sign_26 rfl (lv_at hl 1 rfl) ?_
      obtain ⟨j_3, hj_3, rfl⟩ := i_nat (x := za) (B := 6000) (by omega) (by omega)
      have hz_j_3 : (nI j_3).toInt = ((j_3 : Nat) : Int) := nI_toInt (by omega)
      refine va_bald hx hb hK hP 5 1 rfl rfl (i := nI j_3) (vp_in_nI (n := j_3) (by omega) (by omega)) dX11_sign_27 ?_
      refine kv (v := .int (bf j_3)) (by rw [nI_clamp (by omega)]) ?_
      obtain ⟨x_4, ex_4⟩ : ∃ y9 : Int32, bf j_3 = y9 := ⟨_, rfl⟩
      refine kv (v := .int x_4) (congrArg Value.int ex_4) ?_
      exact cr_iret hx hb hr hlk rfl x_4 rfl trivial dX11_sign_28
    · have nc_2 := cz_nlt (a := za.toInt) (b := ((Lw : Nat) : Int)) rfl (nI_toInt (by omega)) c_2
      refine lv_iconst (v := (-1)) hx hb dX11_sign_15 (by decide) ?_
      refine lv_goto (tgt := 28) hx hb dX11_sign_16 (by decide) ?_
      exact cr_iret hx hb hr hlk rfl (-1) rfl trivial dX11_sign_28
set_option maxHeartbeats 4000000 in
set_option maxRecDepth 100000 in
theorem c_X11_fault (l : Launch) (D : va_G) (κ : Nat → ClassId) (κq : Nat → Nat) (xx : Nat) (st : Nat) (tp : Nat) (ft : Nat) (rd : Nat) (wr : Nat) (st2 : Nat) (zi : Int32) (f0 : Int32) (f1 : Int32) (f2 : Int32) (f3 : Int32) (f4 : Int32) (f5 : Int32) (za : Int32) : Er l yX11_fault (wl yX11_fault cX11_fault 2 (some .int)) { frames := 0, cells := 0, slots := 0, locals := 0 } D κ κq [.ref xx, .int za] [(xx, .inr (11, [.ref st, .ref tp, .ref ft, .ref rd, .ref wr, .ref st2, .int zi])), (ft, .inr (2, [.int f0, .int f1, .int f2, .int f3, .int f4, .int f5]))] (fun r : Int32 => some (.int r)) (fun r : Int32 => True) := by
  refine er_of (by decide +kernel) (Nat.le_of_ble_eq_true rfl) ?_
  intro p e s m args below meth c A ls hx hb hr hml hts hown hlk hKK hK hP hE hl
  have hS : va_S A s.heap s.heap [] := va_S.rf
  have hP : va_P D vwCl ([(xx, .inr (11, [.ref st, .ref tp, .ref ft, .ref rd, .ref wr, .ref st2, .int zi])), (ft, .inr (2, [.int f0, .int f1, .int f2, .int f3, .int f4, .int f5]))] ++ []) s.heap := hP
  have hFX : FX p s m args c cX11_fault 2 RX11 := ⟨hx, hb, hml, hown, hts⟩
  have hl : lv_has ls 2 [(0, .ref xx), (1, .int za)] := hl
  refine lv_iload_n hx hb dX11_fault_0 rfl (lv_at hl 1 rfl) ?_
  rcases Classical.em (za.toInt < 0 ∨ 4 < za.toInt) with c_1 | c_1
  · refine lv_tableOut (tgt := 76) hx hb dX11_fault_1 c_1 (by decide) ?_
    refine lv_iconst (v := (-1)) hx hb dX11_fault_76 (by decide) ?_
    exact cr_iret hx hb hr hlk rfl (-1) rfl trivial dX11_fault_77
  · have e_2 : za = 0 ∨ za = 1 ∨ za = 2 ∨ za = 3 ∨ za = 4 := by
      have q1 : ¬ za.toInt < 0 := fun h => c_1 (Or.inl h)
      have q2 : ¬ 4 < za.toInt := fun h => c_1 (Or.inr h)
      have q3 : ∀ v : Int32, za.toInt = v.toInt → za = v := fun v h => Int32.toInt_inj.mp h
      rcases (show za.toInt = 0 ∨ za.toInt = 1 ∨ za.toInt = 2 ∨ za.toInt = 3 ∨ za.toInt = 4 by omega) with h | h | h | h | h
      · exact Or.inl (q3 0 (h.trans (by decide)))
      · exact Or.inr (Or.inl (q3 1 (h.trans (by decide))))
      · exact Or.inr (Or.inr (Or.inl (q3 2 (h.trans (by decide)))))
      · exact Or.inr (Or.inr (Or.inr (Or.inl (q3 3 (h.trans (by decide))))))
      · exact Or.inr (Or.inr (Or.inr (Or.inr ((q3 4 (h.trans (by decide)))))))
    clear c_1
    rcases e_2 with rfl | rfl | rfl | rfl | rfl
    · refine lv_tableIn (tgt := 36) hx hb dX11_fault_1 (by decide) (by decide) rfl (by decide) ?_
      refine lv_aload_n hx hb dX11_fault_36 rfl (lv_at hl 0 rfl) ?_
      refine va_get (D := D) (ci := 11) (v := .ref ft) (C := RX11) (T := TX11) (N := 7) hx hb hts inlX11 hown hK hP 0 rfl rfl 2 (by decide) (hts _ mw_23) (fun _ h9 => h9) rfl dX11_fault_37 ?_
      refine va_get (D := D) (ci := 2) (v := .int f0) (C := RX2) (T := TX2) (N := 6) hx hb hts inlX2 hown hK hP 1 rfl rfl 0 (by decide) (hts _ mw_545) (fun _ h9 => h9) rfl dX11_fault_40 ?_
      exact cr_iret hx hb hr hlk rfl f0 rfl trivial dX11_fault_43
    · refine lv_tableIn (tgt := 44) hx hb dX11_fault_1 (by decide) (by decide) rfl (by decide) ?_
      refine lv_aload_n hx hb dX11_fault_44 rfl (lv_at hl 0 rfl) ?_
      refine va_get (D := D) (ci := 11) (v := .ref ft) (C := RX11) (T := TX11) (N := 7) hx hb hts inlX11 hown hK hP 0 rfl rfl 2 (by decide) (hts _ mw_23) (fun _ h9 => h9) rfl dX11_fault_45 ?_
      refine va_get (D := D) (ci := 2) (v := .int f1) (C := RX2) (T := TX2) (N := 6) hx hb hts inlX2 hown hK hP 1 rfl rfl 1 (by decide) (hts _ mw_546) (fun _ h9 => h9) rfl dX11_fault_48 ?_
      exact cr_iret hx hb hr hlk rfl f1 rfl trivial dX11_fault_51
    · refine lv_tableIn (tgt := 52) hx hb dX11_fault_1 (by decide) (by decide) rfl (by decide) ?_
      refine lv_aload_n hx hb dX11_fault_52 rfl (lv_at hl 0 rfl) ?_
      refine va_get (D := D) (ci := 11) (v := .ref ft) (C := RX11) (T := TX11) (N := 7) hx hb hts inlX11 hown hK hP 0 rfl rfl 2 (by decide) (hts _ mw_23) (fun _ h9 => h9) rfl dX11_fault_53 ?_
      refine va_get (D := D) (ci := 2) (v := .int f2) (C := RX2) (T := TX2) (N := 6) hx hb hts inlX2 hown hK hP 1 rfl rfl 2 (by decide) (hts _ mw_547) (fun _ h9 => h9) rfl dX11_fault_56 ?_
      exact cr_iret hx hb hr hlk rfl f2 rfl trivial dX11_fault_59
    · refine lv_tableIn (tgt := 60) hx hb dX11_fault_1 (by decide) (by decide) rfl (by decide) ?_
      refine lv_aload_n hx hb dX11_fault_60 rfl (lv_at hl 0 rfl) ?_
      refine va_get (D := D) (ci := 11) (v := .ref ft) (C := RX11) (T := TX11) (N := 7) hx hb hts inlX11 hown hK hP 0 rfl rfl 2 (by decide) (hts _ mw_23) (fun _ h9 => h9) rfl dX11_fault_61 ?_
      refine va_get (D := D) (ci := 2) (v := .int f3) (C := RX2) (T := TX2) (N := 6) hx hb hts inlX2 hown hK hP 1 rfl rfl 3 (by decide) (hts _ mw_548) (fun _ h9 => h9) rfl dX11_fault_64 ?_
      exact cr_iret hx hb hr hlk rfl f3 rfl trivial dX11_fault_67
    · refine lv_tableIn (tgt := 68) hx hb dX11_fault_1 (by decide) (by decide) rfl (by decide) ?_
      refine lv_aload_n hx hb dX11_fault_68 rfl (lv_at hl 0 rfl) ?_
      refine va_get (D := D) (ci := 11) (v := .ref ft) (C := RX11) (T := TX11) (N := 7) hx hb hts inlX11 hown hK hP 0 rfl rfl 2 (by decide) (hts _ mw_23) (fun _ h9 => h9) rfl dX11_fault_69 ?_
      refine va_get (D := D) (ci := 2) (v := .int f4) (C := RX2) (T := TX2) (N := 6) hx hb hts inlX2 hown hK hP 1 rfl rfl 4 (by decide) (hts _ mw_549) (fun _ h9 => h9) rfl dX11_fault_72 ?_
      exact cr_iret hx hb hr hlk rfl f4 rfl trivial dX11_fault_75
