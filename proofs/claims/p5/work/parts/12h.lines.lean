theorem dX4_splitLine_0 : decode cX4_splitLine 0 = .ok (.aload_n 0, 1) := by decide +kernel
theorem dX4_splitLine_1 : decode cX4_splitLine 1 = .ok (.iconst 0, 1) := by decide +kernel
theorem dX4_splitLine_2 : decode cX4_splitLine 2 = .ok (.putfield 42, 3) := by decide +kernel
theorem mw_77 : Cond.fieldLink RX4 42 "TypedTables$Reader" "count" "I" ∈ wsL_law := lrk_4 _ (List.mem_of_getElem? (i := 5) rfl)
theorem dX4_splitLine_5 : decode cX4_splitLine 5 = .ok (.aload_n 0, 1) := by decide +kernel
theorem dX4_splitLine_6 : decode cX4_splitLine 6 = .ok (.getfield 42, 3) := by decide +kernel
theorem dX4_splitLine_9 : decode cX4_splitLine 9 = .ok (.bipush 8, 2) := by decide +kernel
theorem dX4_splitLine_11 : decode cX4_splitLine 11 = .ok (.if_icmp .ge 141, 3) := by decide +kernel
theorem dX4_splitLine_152 : decode cX4_splitLine 152 = .ok (.bipush 6, 2) := by decide +kernel
theorem dX4_splitLine_154 : decode cX4_splitLine 154 = .ok (.ireturn, 1) := by decide +kernel
theorem dX4_splitLine_14 : decode cX4_splitLine 14 = .ok (.aload_n 0, 1) := by decide +kernel
theorem dX4_splitLine_15 : decode cX4_splitLine 15 = .ok (.getfield 38, 3) := by decide +kernel
theorem mw_76 : Cond.fieldLink RX4 38 "TypedTables$Reader" "starts" "[I" ∈ wsL_law := lrk_4 _ (List.mem_of_getElem? (i := 4) rfl)
theorem dX4_splitLine_18 : decode cX4_splitLine 18 = .ok (.aload_n 0, 1) := by decide +kernel
theorem dX4_splitLine_19 : decode cX4_splitLine 19 = .ok (.getfield 42, 3) := by decide +kernel
theorem dX4_splitLine_22 : decode cX4_splitLine 22 = .ok (.aload_n 0, 1) := by decide +kernel
theorem dX4_splitLine_23 : decode cX4_splitLine 23 = .ok (.getfield 20, 3) := by decide +kernel
theorem dX4_splitLine_26 : decode cX4_splitLine 26 = .ok (.iastore, 1) := by decide +kernel
theorem dX4_splitLine_27 : decode cX4_splitLine 27 = .ok (.aload_n 0, 1) := by decide +kernel
theorem dX4_splitLine_28 : decode cX4_splitLine 28 = .ok (.invokevirtual 119, 3) := by decide +kernel
theorem mw_285 : Cond.code yX4_readField cX4_readField 2 (some .int) ∈ wsL_law := lrk_12 _ (List.mem_of_getElem? (i := 21) rfl)
theorem mw_282 : Cond.methodLink RX4 119 yX4_readField ∈ wsL_law := lrk_12 _ (List.mem_of_getElem? (i := 18) rfl)
theorem mw_283 : Cond.instanceMethod yX4_readField ∈ wsL_law := lrk_12 _ (List.mem_of_getElem? (i := 19) rfl)
theorem mw_284 : Cond.selects RX4 yX4_readField yX4_readField ∈ wsL_law := lrk_12 _ (List.mem_of_getElem? (i := 20) rfl)
theorem gV_X4_119 : GoodIn wsL_law (wsV RX4 119 RX4 yX4_readField (wl yX4_readField cX4_readField 2 (some .int))) := g_V mw_282 mw_283 mw_284 mw_26 mw_285
theorem hdV_X4_readField : yX4_readField.cls = RX4 ∧ okD yX4_readField 0 := by decide +kernel
theorem dX4_splitLine_31 : decode cX4_splitLine 31 = .ok (.istore_n 1, 1) := by decide +kernel
theorem dX4_splitLine_32 : decode cX4_splitLine 32 = .ok (.iload_n 1, 1) := by decide +kernel
theorem dX4_splitLine_33 : decode cX4_splitLine 33 = .ok (.ifCond .eq 13, 3) := by decide +kernel
theorem dX4_splitLine_46 : decode cX4_splitLine 46 = .ok (.aload_n 0, 1) := by decide +kernel
theorem dX4_splitLine_47 : decode cX4_splitLine 47 = .ok (.getfield 34, 3) := by decide +kernel
theorem mw_75 : Cond.fieldLink RX4 34 "TypedTables$Reader" "fields" "[LTypedTables$Cell;" ∈ wsL_law := lrk_4 _ (List.mem_of_getElem? (i := 3) rfl)
theorem dX4_splitLine_50 : decode cX4_splitLine 50 = .ok (.aload_n 0, 1) := by decide +kernel
theorem dX4_splitLine_51 : decode cX4_splitLine 51 = .ok (.getfield 42, 3) := by decide +kernel
theorem dX4_splitLine_54 : decode cX4_splitLine 54 = .ok (.aload_n 0, 1) := by decide +kernel
theorem dX4_splitLine_55 : decode cX4_splitLine 55 = .ok (.getfield 31, 3) := by decide +kernel
theorem dX4_splitLine_58 : decode cX4_splitLine 58 = .ok (.ifCond .ne 10, 3) := by decide +kernel
theorem dX4_splitLine_68 : decode cX4_splitLine 68 = .ok (.new 9, 3) := by decide +kernel
theorem mw_66 : Cond.classLink RX4 9 RX0 ∈ wsL_law := lrk_3 _ (List.mem_of_getElem? (i := 18) rfl)
theorem dX4_splitLine_71 : decode cX4_splitLine 71 = .ok (.dup, 1) := by decide +kernel
theorem dX4_splitLine_72 : decode cX4_splitLine 72 = .ok (.aload_n 0, 1) := by decide +kernel
theorem dX4_splitLine_73 : decode cX4_splitLine 73 = .ok (.getfield 27, 3) := by decide +kernel
theorem dX4_splitLine_76 : decode cX4_splitLine 76 = .ok (.aload_n 0, 1) := by decide +kernel
theorem dX4_splitLine_77 : decode cX4_splitLine 77 = .ok (.getfield 31, 3) := by decide +kernel
theorem dX4_splitLine_80 : decode cX4_splitLine 80 = .ok (.invokestatic 122, 3) := by decide +kernel
theorem mw_309 : Cond.code yJ7_copyOf_9075b cJ7_copyOf_9075b 3 (some (.array .byte)) ∈ wsL_law := lrk_13 _ (List.mem_of_getElem? (i := 21) rfl)
theorem mw_306 : Cond.methodLink RX4 122 yJ7_copyOf_9075b ∈ wsL_law := lrk_13 _ (List.mem_of_getElem? (i := 18) rfl)
theorem mw_307 : Cond.static yJ7_copyOf_9075b ∈ wsL_law := lrk_13 _ (List.mem_of_getElem? (i := 19) rfl)
theorem gS_X4_122 : GoodIn wsL_law (va_wsS RX4 122 yJ7_copyOf_9075b (wl yJ7_copyOf_9075b cJ7_copyOf_9075b 3 (some (.array .byte)))) := g_S mw_306 mw_307 mw_308 mw_309
theorem hdS_J7_copyOf_9075b : okD yJ7_copyOf_9075b 2 := by decide +kernel
theorem dX4_splitLine_83 : decode cX4_splitLine 83 = .ok (.invokespecial 11, 3) := by decide +kernel
theorem mw_84 : Cond.methodLink RX4 11 yX0_init ∈ wsL_law := lrk_4 _ (List.mem_of_getElem? (i := 12) rfl)
theorem dX4_splitLine_86 : decode cX4_splitLine 86 = .ok (.aastore, 1) := by decide +kernel
theorem dX4_splitLine_87 : decode cX4_splitLine 87 = .ok (.aload_n 0, 1) := by decide +kernel
theorem dX4_splitLine_88 : decode cX4_splitLine 88 = .ok (.dup, 1) := by decide +kernel
theorem dX4_splitLine_89 : decode cX4_splitLine 89 = .ok (.getfield 42, 3) := by decide +kernel
theorem dX4_splitLine_92 : decode cX4_splitLine 92 = .ok (.iconst 1, 1) := by decide +kernel
theorem dX4_splitLine_93 : decode cX4_splitLine 93 = .ok (.iadd, 1) := by decide +kernel
theorem dX4_splitLine_94 : decode cX4_splitLine 94 = .ok (.putfield 42, 3) := by decide +kernel
theorem dX4_splitLine_97 : decode cX4_splitLine 97 = .ok (.aload_n 0, 1) := by decide +kernel
theorem dX4_splitLine_98 : decode cX4_splitLine 98 = .ok (.getfield 20, 3) := by decide +kernel
theorem dX4_splitLine_101 : decode cX4_splitLine 101 = .ok (.aload_n 0, 1) := by decide +kernel
theorem dX4_splitLine_102 : decode cX4_splitLine 102 = .ok (.getfield 55, 3) := by decide +kernel
theorem dX4_splitLine_105 : decode cX4_splitLine 105 = .ok (.getfield 80, 3) := by decide +kernel
theorem dX4_splitLine_108 : decode cX4_splitLine 108 = .ok (.if_icmp .ge 20, 3) := by decide +kernel
theorem dX4_splitLine_128 : decode cX4_splitLine 128 = .ok (.iconst 0, 1) := by decide +kernel
theorem dX4_splitLine_129 : decode cX4_splitLine 129 = .ok (.ireturn, 1) := by decide +kernel
theorem dX4_splitLine_111 : decode cX4_splitLine 111 = .ok (.aload_n 0, 1) := by decide +kernel
theorem dX4_splitLine_112 : decode cX4_splitLine 112 = .ok (.getfield 55, 3) := by decide +kernel
theorem dX4_splitLine_115 : decode cX4_splitLine 115 = .ok (.getfield 93, 3) := by decide +kernel
theorem dX4_splitLine_118 : decode cX4_splitLine 118 = .ok (.aload_n 0, 1) := by decide +kernel
theorem dX4_splitLine_119 : decode cX4_splitLine 119 = .ok (.getfield 20, 3) := by decide +kernel
theorem dX4_splitLine_122 : decode cX4_splitLine 122 = .ok (.iaload, 1) := by decide +kernel
theorem dX4_splitLine_123 : decode cX4_splitLine 123 = .ok (.bipush 10, 2) := by decide +kernel
theorem dX4_splitLine_125 : decode cX4_splitLine 125 = .ok (.if_icmp .ne 5, 3) := by decide +kernel
theorem dX4_splitLine_130 : decode cX4_splitLine 130 = .ok (.aload_n 0, 1) := by decide +kernel
theorem dX4_splitLine_131 : decode cX4_splitLine 131 = .ok (.getfield 42, 3) := by decide +kernel
theorem dX4_splitLine_134 : decode cX4_splitLine 134 = .ok (.bipush 8, 2) := by decide +kernel
theorem dX4_splitLine_136 : decode cX4_splitLine 136 = .ok (.if_icmp .ge 13, 3) := by decide +kernel
theorem dX4_splitLine_149 : decode cX4_splitLine 149 = .ok (.goto (-144), 3) := by decide +kernel
theorem dX4_splitLine_139 : decode cX4_splitLine 139 = .ok (.aload_n 0, 1) := by decide +kernel
theorem dX4_splitLine_140 : decode cX4_splitLine 140 = .ok (.dup, 1) := by decide +kernel
theorem dX4_splitLine_141 : decode cX4_splitLine 141 = .ok (.getfield 20, 3) := by decide +kernel
theorem dX4_splitLine_144 : decode cX4_splitLine 144 = .ok (.iconst 1, 1) := by decide +kernel
theorem dX4_splitLine_145 : decode cX4_splitLine 145 = .ok (.iadd, 1) := by decide +kernel
theorem dX4_splitLine_146 : decode cX4_splitLine 146 = .ok (.putfield 20, 3) := by decide +kernel
theorem dX4_splitLine_61 : decode cX4_splitLine 61 = .ok (.aload_n 0, 1) := by decide +kernel
theorem dX4_splitLine_62 : decode cX4_splitLine 62 = .ok (.getfield 14, 3) := by decide +kernel
theorem mw_70 : Cond.fieldLink RX4 14 "TypedTables$Reader" "blank" "LTypedTables$Cell;" ∈ wsL_law := lrk_3 _ (List.mem_of_getElem? (i := 22) rfl)
theorem dX4_splitLine_65 : decode cX4_splitLine 65 = .ok (.goto 21, 3) := by decide +kernel
theorem dX4_splitLine_36 : decode cX4_splitLine 36 = .ok (.aload_n 0, 1) := by decide +kernel
theorem dX4_splitLine_37 : decode cX4_splitLine 37 = .ok (.aload_n 0, 1) := by decide +kernel
theorem dX4_splitLine_38 : decode cX4_splitLine 38 = .ok (.getfield 42, 3) := by decide +kernel
theorem dX4_splitLine_41 : decode cX4_splitLine 41 = .ok (.putfield 24, 3) := by decide +kernel
theorem dX4_splitLine_44 : decode cX4_splitLine 44 = .ok (.iload_n 1, 1) := by decide +kernel
theorem dX4_splitLine_45 : decode cX4_splitLine 45 = .ok (.ireturn, 1) := by decide +kernel
theorem dX4_takeNames_0 : decode cX4_takeNames 0 = .ok (.aload_n 0, 1) := by decide +kernel
theorem dX4_takeNames_1 : decode cX4_takeNames 1 = .ok (.getfield 42, 3) := by decide +kernel
theorem dX4_takeNames_4 : decode cX4_takeNames 4 = .ok (.anewarray 107, 3) := by decide +kernel
theorem mw_328 : Cond.classLink RX4 107 RX1 ∈ wsL_law := lrk_14 _ (List.mem_of_getElem? (i := 16) rfl)
theorem dX4_takeNames_7 : decode cX4_takeNames 7 = .ok (.astore_n 1, 1) := by decide +kernel
theorem dX4_takeNames_8 : decode cX4_takeNames 8 = .ok (.iconst 0, 1) := by decide +kernel
theorem dX4_takeNames_9 : decode cX4_takeNames 9 = .ok (.istore_n 2, 1) := by decide +kernel
theorem dX4_takeNames_10 : decode cX4_takeNames 10 = .ok (.iload_n 2, 1) := by decide +kernel
theorem dX4_takeNames_11 : decode cX4_takeNames 11 = .ok (.aload_n 0, 1) := by decide +kernel
theorem dX4_takeNames_12 : decode cX4_takeNames 12 = .ok (.getfield 42, 3) := by decide +kernel
theorem dX4_takeNames_15 : decode cX4_takeNames 15 = .ok (.if_icmp .ge 66, 3) := by decide +kernel
theorem dX4_takeNames_81 : decode cX4_takeNames 81 = .ok (.aload_n 0, 1) := by decide +kernel
theorem dX4_takeNames_82 : decode cX4_takeNames 82 = .ok (.aload_n 1, 1) := by decide +kernel
theorem dX4_takeNames_83 : decode cX4_takeNames 83 = .ok (.putfield 45, 3) := by decide +kernel
theorem mw_78 : Cond.fieldLink RX4 45 "TypedTables$Reader" "columns" "[LTypedTables$Column;" ∈ wsL_law := lrk_4 _ (List.mem_of_getElem? (i := 6) rfl)
theorem dX4_takeNames_86 : decode cX4_takeNames 86 = .ok (.iconst 0, 1) := by decide +kernel
theorem dX4_takeNames_87 : decode cX4_takeNames 87 = .ok (.ireturn, 1) := by decide +kernel
theorem dX4_takeNames_18 : decode cX4_takeNames 18 = .ok (.aload_n 0, 1) := by decide +kernel
theorem dX4_takeNames_19 : decode cX4_takeNames 19 = .ok (.getfield 34, 3) := by decide +kernel
theorem dX4_takeNames_22 : decode cX4_takeNames 22 = .ok (.iload_n 2, 1) := by decide +kernel
theorem dX4_takeNames_23 : decode cX4_takeNames 23 = .ok (.aaload, 1) := by decide +kernel
theorem dX4_takeNames_24 : decode cX4_takeNames 24 = .ok (.getfield 128, 3) := by decide +kernel
theorem mw_329 : Cond.fieldLink RX4 128 "TypedTables$Cell" "bytes" "[B" ∈ wsL_law := lrk_14 _ (List.mem_of_getElem? (i := 17) rfl)
theorem dX4_takeNames_27 : decode cX4_takeNames 27 = .ok (.astore_n 3, 1) := by decide +kernel
theorem dX4_takeNames_28 : decode cX4_takeNames 28 = .ok (.aload_n 3, 1) := by decide +kernel
theorem dX4_takeNames_29 : decode cX4_takeNames 29 = .ok (.invokestatic 130, 3) := by decide +kernel
theorem mw_332 : Cond.methodLink RX4 130 yX1_canBeName ∈ wsL_law := lrk_14 _ (List.mem_of_getElem? (i := 20) rfl)
theorem gS_X4_130 : GoodIn wsL_law (va_wsS RX4 130 yX1_canBeName (wl yX1_canBeName cX1_canBeName 2 (some .boolean))) := g_S mw_332 mw_333 mw_331 mw_334
theorem dX4_takeNames_32 : decode cX4_takeNames 32 = .ok (.ifCond .eq 13, 3) := by decide +kernel
theorem dX4_takeNames_35 : decode cX4_takeNames 35 = .ok (.aload_n 1, 1) := by decide +kernel
theorem dX4_takeNames_36 : decode cX4_takeNames 36 = .ok (.iload_n 2, 1) := by decide +kernel
theorem dX4_takeNames_37 : decode cX4_takeNames 37 = .ok (.aload_n 3, 1) := by decide +kernel
theorem dX4_takeNames_38 : decode cX4_takeNames 38 = .ok (.invokestatic 134, 3) := by decide +kernel
theorem mw_341 : Cond.code yX1_indexOf cX1_indexOf 4 (some .int) ∈ wsL_law := lrk_15 _ (List.mem_of_getElem? (i := 5) rfl)
theorem mw_339 : Cond.methodLink RX4 134 yX1_indexOf ∈ wsL_law := lrk_15 _ (List.mem_of_getElem? (i := 3) rfl)
theorem mw_340 : Cond.static yX1_indexOf ∈ wsL_law := lrk_15 _ (List.mem_of_getElem? (i := 4) rfl)
theorem gS_X4_134 : GoodIn wsL_law (va_wsS RX4 134 yX1_indexOf (wl yX1_indexOf cX1_indexOf 4 (some .int))) := g_S mw_339 mw_340 mw_331 mw_341
theorem hdS_X1_indexOf : okD yX1_indexOf 3 := by decide +kernel
theorem dX4_takeNames_41 : decode cX4_takeNames 41 = .ok (.iconst (-1), 1) := by decide +kernel
theorem dX4_takeNames_42 : decode cX4_takeNames 42 = .ok (.if_icmp .eq 21, 3) := by decide +kernel
theorem dX4_takeNames_63 : decode cX4_takeNames 63 = .ok (.aload_n 1, 1) := by decide +kernel
theorem dX4_takeNames_64 : decode cX4_takeNames 64 = .ok (.iload_n 2, 1) := by decide +kernel
theorem dX4_takeNames_65 : decode cX4_takeNames 65 = .ok (.new 107, 3) := by decide +kernel
theorem dX4_takeNames_68 : decode cX4_takeNames 68 = .ok (.dup, 1) := by decide +kernel
theorem dX4_takeNames_69 : decode cX4_takeNames 69 = .ok (.aload_n 3, 1) := by decide +kernel
theorem dX4_takeNames_70 : decode cX4_takeNames 70 = .ok (.iconst (-1), 1) := by decide +kernel
theorem dX4_takeNames_71 : decode cX4_takeNames 71 = .ok (.invokespecial 138, 3) := by decide +kernel
theorem mw_347 : Cond.methodLink RX4 138 yX1_init ∈ wsL_law := lrk_15 _ (List.mem_of_getElem? (i := 11) rfl)
theorem dX4_takeNames_74 : decode cX4_takeNames 74 = .ok (.aastore, 1) := by decide +kernel
theorem dX4_takeNames_75 : decode cX4_takeNames 75 = .ok (.iinc 2 1, 3) := by decide +kernel
theorem dX4_takeNames_78 : decode cX4_takeNames 78 = .ok (.goto (-68), 3) := by decide +kernel
theorem dX4_takeNames_45 : decode cX4_takeNames 45 = .ok (.aload_n 0, 1) := by decide +kernel
theorem dX4_takeNames_46 : decode cX4_takeNames 46 = .ok (.aload_n 0, 1) := by decide +kernel
theorem dX4_takeNames_47 : decode cX4_takeNames 47 = .ok (.getfield 38, 3) := by decide +kernel
theorem dX4_takeNames_50 : decode cX4_takeNames 50 = .ok (.iload_n 2, 1) := by decide +kernel
theorem dX4_takeNames_51 : decode cX4_takeNames 51 = .ok (.iaload, 1) := by decide +kernel
theorem dX4_takeNames_52 : decode cX4_takeNames 52 = .ok (.putfield 20, 3) := by decide +kernel
theorem dX4_takeNames_55 : decode cX4_takeNames 55 = .ok (.aload_n 0, 1) := by decide +kernel
theorem dX4_takeNames_56 : decode cX4_takeNames 56 = .ok (.iload_n 2, 1) := by decide +kernel
theorem dX4_takeNames_57 : decode cX4_takeNames 57 = .ok (.putfield 24, 3) := by decide +kernel
theorem dX4_takeNames_60 : decode cX4_takeNames 60 = .ok (.bipush 7, 2) := by decide +kernel
theorem dX4_takeNames_62 : decode cX4_takeNames 62 = .ok (.ireturn, 1) := by decide +kernel
theorem dX4_takeRow_0 : decode cX4_takeRow 0 = .ok (.aload_n 0, 1) := by decide +kernel
theorem dX4_takeRow_1 : decode cX4_takeRow 1 = .ok (.getfield 45, 3) := by decide +kernel
theorem dX4_takeRow_4 : decode cX4_takeRow 4 = .ok (.arraylength, 1) := by decide +kernel
theorem dX4_takeRow_5 : decode cX4_takeRow 5 = .ok (.istore_n 1, 1) := by decide +kernel
theorem dX4_takeRow_6 : decode cX4_takeRow 6 = .ok (.aload_n 0, 1) := by decide +kernel
theorem dX4_takeRow_7 : decode cX4_takeRow 7 = .ok (.getfield 42, 3) := by decide +kernel
theorem dX4_takeRow_10 : decode cX4_takeRow 10 = .ok (.iload_n 1, 1) := by decide +kernel
theorem dX4_takeRow_11 : decode cX4_takeRow 11 = .ok (.if_icmp .ge 25, 3) := by decide +kernel
theorem dX4_takeRow_36 : decode cX4_takeRow 36 = .ok (.aload_n 0, 1) := by decide +kernel
theorem dX4_takeRow_37 : decode cX4_takeRow 37 = .ok (.getfield 42, 3) := by decide +kernel
theorem dX4_takeRow_40 : decode cX4_takeRow 40 = .ok (.iload_n 1, 1) := by decide +kernel
theorem dX4_takeRow_41 : decode cX4_takeRow 41 = .ok (.if_icmp .le 37, 3) := by decide +kernel
theorem dX4_takeRow_78 : decode cX4_takeRow 78 = .ok (.iconst 0, 1) := by decide +kernel
theorem dX4_takeRow_79 : decode cX4_takeRow 79 = .ok (.istore_n 2, 1) := by decide +kernel
theorem dX4_takeRow_80 : decode cX4_takeRow 80 = .ok (.iload_n 2, 1) := by decide +kernel
theorem dX4_takeRow_81 : decode cX4_takeRow 81 = .ok (.iload_n 1, 1) := by decide +kernel
theorem dX4_takeRow_82 : decode cX4_takeRow 82 = .ok (.if_icmp .ge 43, 3) := by decide +kernel
theorem dX4_takeRow_125 : decode cX4_takeRow 125 = .ok (.aload_n 0, 1) := by decide +kernel
theorem dX4_takeRow_126 : decode cX4_takeRow 126 = .ok (.dup, 1) := by decide +kernel
theorem dX4_takeRow_127 : decode cX4_takeRow 127 = .ok (.getfield 52, 3) := by decide +kernel
theorem mw_80 : Cond.fieldLink RX4 52 "TypedTables$Reader" "rows" "I" ∈ wsL_law := lrk_4 _ (List.mem_of_getElem? (i := 8) rfl)
theorem dX4_takeRow_130 : decode cX4_takeRow 130 = .ok (.iconst 1, 1) := by decide +kernel
theorem dX4_takeRow_131 : decode cX4_takeRow 131 = .ok (.iadd, 1) := by decide +kernel
theorem dX4_takeRow_132 : decode cX4_takeRow 132 = .ok (.putfield 52, 3) := by decide +kernel
theorem dX4_takeRow_135 : decode cX4_takeRow 135 = .ok (.iconst 0, 1) := by decide +kernel
theorem dX4_takeRow_136 : decode cX4_takeRow 136 = .ok (.ireturn, 1) := by decide +kernel
theorem dX4_takeRow_85 : decode cX4_takeRow 85 = .ok (.aload_n 0, 1) := by decide +kernel
theorem dX4_takeRow_86 : decode cX4_takeRow 86 = .ok (.getfield 49, 3) := by decide +kernel
theorem mw_79 : Cond.fieldLink RX4 49 "TypedTables$Reader" "cells" "[LTypedTables$Cell;" ∈ wsL_law := lrk_4 _ (List.mem_of_getElem? (i := 7) rfl)
theorem dX4_takeRow_89 : decode cX4_takeRow 89 = .ok (.aload_n 0, 1) := by decide +kernel
theorem dX4_takeRow_90 : decode cX4_takeRow 90 = .ok (.getfield 52, 3) := by decide +kernel
theorem dX4_takeRow_93 : decode cX4_takeRow 93 = .ok (.iload_n 1, 1) := by decide +kernel
theorem dX4_takeRow_94 : decode cX4_takeRow 94 = .ok (.imul, 1) := by decide +kernel
theorem dX4_takeRow_95 : decode cX4_takeRow 95 = .ok (.iload_n 2, 1) := by decide +kernel
theorem dX4_takeRow_96 : decode cX4_takeRow 96 = .ok (.iadd, 1) := by decide +kernel
theorem dX4_takeRow_97 : decode cX4_takeRow 97 = .ok (.iload_n 2, 1) := by decide +kernel
theorem dX4_takeRow_98 : decode cX4_takeRow 98 = .ok (.aload_n 0, 1) := by decide +kernel
theorem dX4_takeRow_99 : decode cX4_takeRow 99 = .ok (.getfield 42, 3) := by decide +kernel
theorem dX4_takeRow_102 : decode cX4_takeRow 102 = .ok (.if_icmp .ge 12, 3) := by decide +kernel
theorem dX4_takeRow_114 : decode cX4_takeRow 114 = .ok (.aload_n 0, 1) := by decide +kernel
theorem dX4_takeRow_115 : decode cX4_takeRow 115 = .ok (.getfield 14, 3) := by decide +kernel
theorem dX4_takeRow_118 : decode cX4_takeRow 118 = .ok (.aastore, 1) := by decide +kernel
theorem dX4_takeRow_119 : decode cX4_takeRow 119 = .ok (.iinc 2 1, 3) := by decide +kernel
theorem dX4_takeRow_122 : decode cX4_takeRow 122 = .ok (.goto (-42), 3) := by decide +kernel
theorem dX4_takeRow_105 : decode cX4_takeRow 105 = .ok (.aload_n 0, 1) := by decide +kernel
theorem dX4_takeRow_106 : decode cX4_takeRow 106 = .ok (.getfield 34, 3) := by decide +kernel
theorem dX4_takeRow_109 : decode cX4_takeRow 109 = .ok (.iload_n 2, 1) := by decide +kernel
theorem dX4_takeRow_110 : decode cX4_takeRow 110 = .ok (.aaload, 1) := by decide +kernel
theorem dX4_takeRow_111 : decode cX4_takeRow 111 = .ok (.goto 7, 3) := by decide +kernel
theorem dX4_takeRow_44 : decode cX4_takeRow 44 = .ok (.aload_n 0, 1) := by decide +kernel
theorem dX4_takeRow_45 : decode cX4_takeRow 45 = .ok (.getfield 59, 3) := by decide +kernel
theorem dX4_takeRow_48 : decode cX4_takeRow 48 = .ok (.iconst 4, 1) := by decide +kernel
theorem dX4_takeRow_49 : decode cX4_takeRow 49 = .ok (.iaload, 1) := by decide +kernel
theorem dX4_takeRow_50 : decode cX4_takeRow 50 = .ok (.iconst 2, 1) := by decide +kernel
theorem dX4_takeRow_51 : decode cX4_takeRow 51 = .ok (.iand, 1) := by decide +kernel
theorem dX4_takeRow_52 : decode cX4_takeRow 52 = .ok (.ifCond .ne 26, 3) := by decide +kernel
theorem dX4_takeRow_55 : decode cX4_takeRow 55 = .ok (.aload_n 0, 1) := by decide +kernel
theorem dX4_takeRow_56 : decode cX4_takeRow 56 = .ok (.aload_n 0, 1) := by decide +kernel
theorem dX4_takeRow_57 : decode cX4_takeRow 57 = .ok (.getfield 42, 3) := by decide +kernel
theorem dX4_takeRow_60 : decode cX4_takeRow 60 = .ok (.putfield 24, 3) := by decide +kernel
theorem dX4_takeRow_63 : decode cX4_takeRow 63 = .ok (.aload_n 0, 1) := by decide +kernel
theorem dX4_takeRow_64 : decode cX4_takeRow 64 = .ok (.aload_n 0, 1) := by decide +kernel
theorem dX4_takeRow_65 : decode cX4_takeRow 65 = .ok (.getfield 38, 3) := by decide +kernel
theorem dX4_takeRow_68 : decode cX4_takeRow 68 = .ok (.iload_n 1, 1) := by decide +kernel
theorem dX4_takeRow_69 : decode cX4_takeRow 69 = .ok (.iaload, 1) := by decide +kernel
theorem dX4_takeRow_70 : decode cX4_takeRow 70 = .ok (.iconst 1, 1) := by decide +kernel
theorem dX4_takeRow_71 : decode cX4_takeRow 71 = .ok (.isub, 1) := by decide +kernel
theorem dX4_takeRow_72 : decode cX4_takeRow 72 = .ok (.putfield 20, 3) := by decide +kernel
theorem dX4_takeRow_75 : decode cX4_takeRow 75 = .ok (.bipush 8, 2) := by decide +kernel
theorem dX4_takeRow_77 : decode cX4_takeRow 77 = .ok (.ireturn, 1) := by decide +kernel
theorem dX4_takeRow_14 : decode cX4_takeRow 14 = .ok (.aload_n 0, 1) := by decide +kernel
theorem dX4_takeRow_15 : decode cX4_takeRow 15 = .ok (.getfield 59, 3) := by decide +kernel
theorem dX4_takeRow_18 : decode cX4_takeRow 18 = .ok (.iconst 4, 1) := by decide +kernel
theorem dX4_takeRow_19 : decode cX4_takeRow 19 = .ok (.iaload, 1) := by decide +kernel
theorem dX4_takeRow_20 : decode cX4_takeRow 20 = .ok (.iconst 1, 1) := by decide +kernel
theorem dX4_takeRow_21 : decode cX4_takeRow 21 = .ok (.iand, 1) := by decide +kernel
theorem dX4_takeRow_22 : decode cX4_takeRow 22 = .ok (.ifCond .ne 14, 3) := by decide +kernel
theorem dX4_takeRow_25 : decode cX4_takeRow 25 = .ok (.aload_n 0, 1) := by decide +kernel
theorem dX4_takeRow_26 : decode cX4_takeRow 26 = .ok (.aload_n 0, 1) := by decide +kernel
theorem dX4_takeRow_27 : decode cX4_takeRow 27 = .ok (.getfield 42, 3) := by decide +kernel
theorem dX4_takeRow_30 : decode cX4_takeRow 30 = .ok (.putfield 24, 3) := by decide +kernel
theorem dX4_takeRow_33 : decode cX4_takeRow 33 = .ok (.bipush 8, 2) := by decide +kernel
theorem dX4_takeRow_35 : decode cX4_takeRow 35 = .ok (.ireturn, 1) := by decide +kernel
theorem dX4_takeLine_0 : decode cX4_takeLine 0 = .ok (.aload_n 0, 1) := by decide +kernel
theorem dX4_takeLine_1 : decode cX4_takeLine 1 = .ok (.getfield 52, 3) := by decide +kernel
theorem dX4_takeLine_4 : decode cX4_takeLine 4 = .ok (.iload_n 1, 1) := by decide +kernel
theorem dX4_takeLine_5 : decode cX4_takeLine 5 = .ok (.if_icmp .lt 8, 3) := by decide +kernel
theorem dX4_takeLine_13 : decode cX4_takeLine 13 = .ok (.aload_n 0, 1) := by decide +kernel
theorem dX4_takeLine_14 : decode cX4_takeLine 14 = .ok (.invokevirtual 100, 3) := by decide +kernel
theorem mw_281 : Cond.code yX4_splitLine cX4_splitLine 2 (some .int) ∈ wsL_law := lrk_12 _ (List.mem_of_getElem? (i := 17) rfl)
theorem mw_278 : Cond.methodLink RX4 100 yX4_splitLine ∈ wsL_law := lrk_12 _ (List.mem_of_getElem? (i := 14) rfl)
theorem mw_279 : Cond.instanceMethod yX4_splitLine ∈ wsL_law := lrk_12 _ (List.mem_of_getElem? (i := 15) rfl)
theorem mw_280 : Cond.selects RX4 yX4_splitLine yX4_splitLine ∈ wsL_law := lrk_12 _ (List.mem_of_getElem? (i := 16) rfl)
theorem gV_X4_100 : GoodIn wsL_law (wsV RX4 100 RX4 yX4_splitLine (wl yX4_splitLine cX4_splitLine 2 (some .int))) := g_V mw_278 mw_279 mw_280 mw_26 mw_281
theorem hdV_X4_splitLine : yX4_splitLine.cls = RX4 ∧ okD yX4_splitLine 0 := by decide +kernel
theorem dX4_takeLine_17 : decode cX4_takeLine 17 = .ok (.istore_n 2, 1) := by decide +kernel
theorem dX4_takeLine_18 : decode cX4_takeLine 18 = .ok (.iload_n 2, 1) := by decide +kernel
theorem dX4_takeLine_19 : decode cX4_takeLine 19 = .ok (.ifCond .eq 5, 3) := by decide +kernel
theorem dX4_takeLine_24 : decode cX4_takeLine 24 = .ok (.aload_n 0, 1) := by decide +kernel
theorem dX4_takeLine_25 : decode cX4_takeLine 25 = .ok (.getfield 45, 3) := by decide +kernel
theorem dX4_takeLine_28 : decode cX4_takeLine 28 = .ok (.ifnonnull 18, 3) := by decide +kernel
theorem dX4_takeLine_46 : decode cX4_takeLine 46 = .ok (.aload_n 0, 1) := by decide +kernel
theorem dX4_takeLine_47 : decode cX4_takeLine 47 = .ok (.getfield 45, 3) := by decide +kernel
theorem dX4_takeLine_50 : decode cX4_takeLine 50 = .ok (.ifnonnull 14, 3) := by decide +kernel
theorem dX4_takeLine_64 : decode cX4_takeLine 64 = .ok (.aload_n 0, 1) := by decide +kernel
theorem dX4_takeLine_65 : decode cX4_takeLine 65 = .ok (.invokevirtual 112, 3) := by decide +kernel
theorem mw_360 : Cond.code yX4_takeRow cX4_takeRow 3 (some .int) ∈ wsL_law := lrk_16 _ (List.mem_of_getElem? (i := 0) rfl)
theorem mw_357 : Cond.methodLink RX4 112 yX4_takeRow ∈ wsL_law := lrk_15 _ (List.mem_of_getElem? (i := 21) rfl)
theorem mw_358 : Cond.instanceMethod yX4_takeRow ∈ wsL_law := lrk_15 _ (List.mem_of_getElem? (i := 22) rfl)
theorem mw_359 : Cond.selects RX4 yX4_takeRow yX4_takeRow ∈ wsL_law := lrk_15 _ (List.mem_of_getElem? (i := 23) rfl)
theorem gV_X4_112 : GoodIn wsL_law (wsV RX4 112 RX4 yX4_takeRow (wl yX4_takeRow cX4_takeRow 3 (some .int))) := g_V mw_357 mw_358 mw_359 mw_26 mw_360
theorem hdV_X4_takeRow : yX4_takeRow.cls = RX4 ∧ okD yX4_takeRow 0 := by decide +kernel
theorem dX4_takeLine_68 : decode cX4_takeLine 68 = .ok (.ireturn, 1) := by decide +kernel
theorem dX4_takeLine_22 : decode cX4_takeLine 22 = .ok (.iload_n 2, 1) := by decide +kernel
theorem dX4_takeLine_23 : decode cX4_takeLine 23 = .ok (.ireturn, 1) := by decide +kernel
theorem dX4_takeLine_8 : decode cX4_takeLine 8 = .ok (.aload_n 0, 1) := by decide +kernel
theorem dX4_takeLine_9 : decode cX4_takeLine 9 = .ok (.invokevirtual 96, 3) := by decide +kernel
theorem mw_274 : Cond.code yX4_tooManyLines cX4_tooManyLines 2 (some .int) ∈ wsL_law := lrk_12 _ (List.mem_of_getElem? (i := 10) rfl)
theorem mw_271 : Cond.methodLink RX4 96 yX4_tooManyLines ∈ wsL_law := lrk_12 _ (List.mem_of_getElem? (i := 7) rfl)
theorem mw_272 : Cond.instanceMethod yX4_tooManyLines ∈ wsL_law := lrk_12 _ (List.mem_of_getElem? (i := 8) rfl)
theorem mw_273 : Cond.selects RX4 yX4_tooManyLines yX4_tooManyLines ∈ wsL_law := lrk_12 _ (List.mem_of_getElem? (i := 9) rfl)
theorem gV_X4_96 : GoodIn wsL_law (wsV RX4 96 RX4 yX4_tooManyLines (wl yX4_tooManyLines cX4_tooManyLines 2 (some .int))) := g_V mw_271 mw_272 mw_273 mw_26 mw_274
theorem hdV_X4_tooManyLines : yX4_tooManyLines.cls = RX4 ∧ okD yX4_tooManyLines 0 := by decide +kernel
theorem dX4_takeLine_12 : decode cX4_takeLine 12 = .ok (.ireturn, 1) := by decide +kernel
theorem dX4_takeLine_31 : decode cX4_takeLine 31 = .ok (.aload_n 0, 1) := by decide +kernel
theorem dX4_takeLine_32 : decode cX4_takeLine 32 = .ok (.getfield 59, 3) := by decide +kernel
theorem dX4_takeLine_35 : decode cX4_takeLine 35 = .ok (.iconst 2, 1) := by decide +kernel
theorem dX4_takeLine_36 : decode cX4_takeLine 36 = .ok (.iaload, 1) := by decide +kernel
theorem dX4_takeLine_37 : decode cX4_takeLine 37 = .ok (.iconst 1, 1) := by decide +kernel
theorem dX4_takeLine_38 : decode cX4_takeLine 38 = .ok (.if_icmp .ne 8, 3) := by decide +kernel
theorem dX4_takeLine_53 : decode cX4_takeLine 53 = .ok (.aload_n 0, 1) := by decide +kernel
theorem dX4_takeLine_54 : decode cX4_takeLine 54 = .ok (.aload_n 0, 1) := by decide +kernel
theorem dX4_takeLine_55 : decode cX4_takeLine 55 = .ok (.getfield 42, 3) := by decide +kernel
theorem dX4_takeLine_58 : decode cX4_takeLine 58 = .ok (.invokestatic 106, 3) := by decide +kernel
theorem mw_354 : Cond.code yX1_numbered cX1_numbered 4 (some (.array (.object "TypedTables$Column"))) ∈ wsL_law := lrk_15 _ (List.mem_of_getElem? (i := 18) rfl)
theorem mw_352 : Cond.methodLink RX4 106 yX1_numbered ∈ wsL_law := lrk_15 _ (List.mem_of_getElem? (i := 16) rfl)
theorem mw_353 : Cond.static yX1_numbered ∈ wsL_law := lrk_15 _ (List.mem_of_getElem? (i := 17) rfl)
theorem gS_X4_106 : GoodIn wsL_law (va_wsS RX4 106 yX1_numbered (wl yX1_numbered cX1_numbered 4 (some (.array (.object "TypedTables$Column"))))) := g_S mw_352 mw_353 mw_331 mw_354
theorem hdS_X1_numbered : okD yX1_numbered 1 := by decide +kernel
theorem dX4_takeLine_61 : decode cX4_takeLine 61 = .ok (.putfield 45, 3) := by decide +kernel
theorem dX4_takeLine_41 : decode cX4_takeLine 41 = .ok (.aload_n 0, 1) := by decide +kernel
theorem dX4_takeLine_42 : decode cX4_takeLine 42 = .ok (.invokevirtual 103, 3) := by decide +kernel
theorem mw_327 : Cond.code yX4_takeNames cX4_takeNames 4 (some .int) ∈ wsL_law := lrk_14 _ (List.mem_of_getElem? (i := 15) rfl)
theorem mw_324 : Cond.methodLink RX4 103 yX4_takeNames ∈ wsL_law := lrk_14 _ (List.mem_of_getElem? (i := 12) rfl)
theorem mw_325 : Cond.instanceMethod yX4_takeNames ∈ wsL_law := lrk_14 _ (List.mem_of_getElem? (i := 13) rfl)
theorem mw_326 : Cond.selects RX4 yX4_takeNames yX4_takeNames ∈ wsL_law := lrk_14 _ (List.mem_of_getElem? (i := 14) rfl)
theorem gV_X4_103 : GoodIn wsL_law (wsV RX4 103 RX4 yX4_takeNames (wl yX4_takeNames cX4_takeNames 4 (some .int))) := g_V mw_324 mw_325 mw_326 mw_26 mw_327
theorem hdV_X4_takeNames : yX4_takeNames.cls = RX4 ∧ okD yX4_takeNames 0 := by decide +kernel
theorem dX4_takeLine_45 : decode cX4_takeLine 45 = .ok (.ireturn, 1) := by decide +kernel
theorem dX4_newSheet_0 : decode cX4_newSheet 0 = .ok (.aload_n 0, 1) := by decide +kernel
theorem dX4_newSheet_1 : decode cX4_newSheet 1 = .ok (.getfield 45, 3) := by decide +kernel
theorem dX4_newSheet_4 : decode cX4_newSheet 4 = .ok (.ifnonnull 5, 3) := by decide +kernel
theorem dX4_newSheet_9 : decode cX4_newSheet 9 = .ok (.aload_n 0, 1) := by decide +kernel
theorem dX4_newSheet_10 : decode cX4_newSheet 10 = .ok (.getfield 52, 3) := by decide +kernel
theorem dX4_newSheet_13 : decode cX4_newSheet 13 = .ok (.aload_n 0, 1) := by decide +kernel
theorem dX4_newSheet_14 : decode cX4_newSheet 14 = .ok (.getfield 45, 3) := by decide +kernel
theorem dX4_newSheet_17 : decode cX4_newSheet 17 = .ok (.arraylength, 1) := by decide +kernel
theorem dX4_newSheet_18 : decode cX4_newSheet 18 = .ok (.imul, 1) := by decide +kernel
theorem dX4_newSheet_19 : decode cX4_newSheet 19 = .ok (.anewarray 9, 3) := by decide +kernel
theorem dX4_newSheet_22 : decode cX4_newSheet 22 = .ok (.astore_n 1, 1) := by decide +kernel
theorem dX4_newSheet_23 : decode cX4_newSheet 23 = .ok (.iconst 0, 1) := by decide +kernel
theorem dX4_newSheet_24 : decode cX4_newSheet 24 = .ok (.istore_n 2, 1) := by decide +kernel
theorem dX4_newSheet_25 : decode cX4_newSheet 25 = .ok (.iload_n 2, 1) := by decide +kernel
theorem dX4_newSheet_26 : decode cX4_newSheet 26 = .ok (.aload_n 1, 1) := by decide +kernel
theorem dX4_newSheet_27 : decode cX4_newSheet 27 = .ok (.arraylength, 1) := by decide +kernel
theorem dX4_newSheet_28 : decode cX4_newSheet 28 = .ok (.if_icmp .ge 18, 3) := by decide +kernel
theorem dX4_newSheet_46 : decode cX4_newSheet 46 = .ok (.new 88, 3) := by decide +kernel
theorem mw_375 : Cond.classLink RX4 88 RX5 ∈ wsL_law := lrk_16 _ (List.mem_of_getElem? (i := 15) rfl)
theorem dX4_newSheet_49 : decode cX4_newSheet 49 = .ok (.dup, 1) := by decide +kernel
theorem dX4_newSheet_50 : decode cX4_newSheet 50 = .ok (.aload_n 0, 1) := by decide +kernel
theorem dX4_newSheet_51 : decode cX4_newSheet 51 = .ok (.getfield 45, 3) := by decide +kernel
theorem dX4_newSheet_54 : decode cX4_newSheet 54 = .ok (.aload_n 1, 1) := by decide +kernel
theorem dX4_newSheet_55 : decode cX4_newSheet 55 = .ok (.aload_n 0, 1) := by decide +kernel
theorem dX4_newSheet_56 : decode cX4_newSheet 56 = .ok (.getfield 52, 3) := by decide +kernel
theorem dX4_newSheet_59 : decode cX4_newSheet 59 = .ok (.invokespecial 90, 3) := by decide +kernel
theorem mw_378 : Cond.methodLink RX4 90 yX5_init ∈ wsL_law := lrk_16 _ (List.mem_of_getElem? (i := 18) rfl)
theorem dX4_newSheet_62 : decode cX4_newSheet 62 = .ok (.areturn, 1) := by decide +kernel
theorem dX4_newSheet_31 : decode cX4_newSheet 31 = .ok (.aload_n 1, 1) := by decide +kernel
theorem dX4_newSheet_32 : decode cX4_newSheet 32 = .ok (.iload_n 2, 1) := by decide +kernel
theorem dX4_newSheet_33 : decode cX4_newSheet 33 = .ok (.aload_n 0, 1) := by decide +kernel
theorem dX4_newSheet_34 : decode cX4_newSheet 34 = .ok (.getfield 49, 3) := by decide +kernel
theorem dX4_newSheet_37 : decode cX4_newSheet 37 = .ok (.iload_n 2, 1) := by decide +kernel
theorem dX4_newSheet_38 : decode cX4_newSheet 38 = .ok (.aaload, 1) := by decide +kernel
theorem dX4_newSheet_39 : decode cX4_newSheet 39 = .ok (.aastore, 1) := by decide +kernel
theorem dX4_newSheet_40 : decode cX4_newSheet 40 = .ok (.iinc 2 1, 3) := by decide +kernel
theorem dX4_newSheet_43 : decode cX4_newSheet 43 = .ok (.goto (-18), 3) := by decide +kernel
set_option maxHeartbeats 4000000 in
set_option maxRecDepth 100000 in
theorem c_X4_splitLine (l : Launch) (D : va_G) (κ : Nat → ClassId) (κq : Nat → Nat) (im : va_W) (rd : Nat) (tp : Nat) (d : Nat) (ft : Nat) (bl : Nat) (aq : Nat) (wk : Nat) (sz : Nat) (fl : Nat) (sr : Nat) (cnt : Nat) (cl : Nat) (rw : Nat) (ca : Int32) (cv : Value) (tb : Nat) (L : Nat) (tf : Nat → Int32) (dl : Nat → Int32) (wf : Nat → Int32) (ff : Nat → Option Nat) (sf : Nat → Int32) (kb : Nat) (nb : Nat) (hL8 : L ≤ 800) (hat : aq ≤ L) (hsz : sz ≤ 20) (hwf : sb_Fit wf) (hbl : Cl κ im bl kb nb) : Et l yX4_splitLine (wl yX4_splitLine cX4_splitLine 2 (some .int)) { frames := 7, cells := 16, slots := 192, locals := 148 } D κ κq [.ref rd] ([(rd, .inr (4, [.ref tp, .ref d, .ref ft, .ref bl, .int (nI aq), .int ca, .ref wk, .int (nI sz), .ref fl, .ref sr, .int (nI cnt), cv, .ref cl, .int (nI rw)])), (tp, .inr (8, [.ref tb, .int (nI L)])), (tb, .inl (κ 0, 800, .inl tf)), (d, .inl (κ 0, 6, .inl dl)), (wk, .inl (κ 1, 20, .inl wf)), (fl, .inl (κ 2, 8, .inr (.inr (.inr (.inr ff))))), (sr, .inl (κ 0, 8, .inl sf))] ++ im) (fun u9 : Int32 × Nat × Int32 × Nat × Nat × (Nat → Int32) × (Nat → Option Nat) × (Nat → Int32) × va_W => some (.int u9.1)) (fun u9 : Int32 × Nat × Int32 × Nat × Nat × (Nat → Int32) × (Nat → Option Nat) × (Nat → Int32) × va_W => u9.2.1 ≤ L ∧ u9.2.2.2.1 ≤ 20 ∧ sb_Fit u9.2.2.2.2.2.1 ∧ u9.2.2.2.2.1 ≤ 8 ∧ (u9.1 = 0 → 1 ≤ u9.2.2.2.2.1) ∧ Sb im u9.2.2.2.2.2.2.2.2 ∧ Lc κ u9.2.2.2.2.2.2.2.2 u9.2.2.2.2.2.2.1 u9.2.2.2.2.1) (fun u9 : Int32 × Nat × Int32 × Nat × Nat × (Nat → Int32) × (Nat → Option Nat) × (Nat → Int32) × va_W => ([(rd, .inr (4, [.ref tp, .ref d, .ref ft, .ref bl, .int (nI u9.2.1), .int u9.2.2.1, .ref wk, .int (nI u9.2.2.2.1), .ref fl, .ref sr, .int (nI u9.2.2.2.2.1), cv, .ref cl, .int (nI rw)])), (tp, .inr (8, [.ref tb, .int (nI L)])), (tb, .inl (κ 0, 800, .inl tf)), (d, .inl (κ 0, 6, .inl dl)), (wk, .inl (κ 1, 20, .inl u9.2.2.2.2.2.1)), (fl, .inl (κ 2, 8, .inr (.inr (.inr (.inr u9.2.2.2.2.2.2.1))))), (sr, .inl (κ 0, 8, .inl u9.2.2.2.2.2.2.2.1))] ++ u9.2.2.2.2.2.2.2.2)) := by
  refine et_of (by decide +kernel) (Nat.le_of_ble_eq_true rfl) ?_
  intro p e s m args below meth c A ls hx hb hr hml hts hown hlk hin hKK hK hA hP hD hS hE hl
  have hS : va_S A s.heap s.heap [] := hS
  have hP : va_P D vwCl ([(rd, .inr (4, [.ref tp, .ref d, .ref ft, .ref bl, .int (nI aq), .int ca, .ref wk, .int (nI sz), .ref fl, .ref sr, .int (nI cnt), cv, .ref cl, .int (nI rw)])), (tp, .inr (8, [.ref tb, .int (nI L)])), (tb, .inl (κ 0, 800, .inl tf)), (d, .inl (κ 0, 6, .inl dl)), (wk, .inl (κ 1, 20, .inl wf)), (fl, .inl (κ 2, 8, .inr (.inr (.inr (.inr ff))))), (sr, .inl (κ 0, 8, .inl sf))] ++ im) s.heap := hP
  have hD : va_D A ([(rd, .inr (4, [.ref tp, .ref d, .ref ft, .ref bl, .int (nI aq), .int ca, .ref wk, .int (nI sz), .ref fl, .ref sr, .int (nI cnt), cv, .ref cl, .int (nI rw)])), (tp, .inr (8, [.ref tb, .int (nI L)])), (tb, .inl (κ 0, 800, .inl tf)), (d, .inl (κ 0, 6, .inl dl)), (wk, .inl (κ 1, 20, .inl wf)), (fl, .inl (κ 2, 8, .inr (.inr (.inr (.inr ff))))), (sr, .inl (κ 0, 8, .inl sf))] ++ im) := hD
  have hFX : FX p s m args c cX4_splitLine 2 RX4 := ⟨hx, hb, hml, hown, hts⟩
  have hl : lv_has ls 2 [(0, .ref rd)] := hl
  refine lv_aload_n hx hb dX4_splitLine_0 rfl (lv_at hl 0 rfl) ?_
  refine lv_iconst (v := 0) hx hb dX4_splitLine_1 (by decide) ?_
  refine va_put (D := D) (ci := 4) (v := .int 0) (ty := tyX4 10) (C := RX4) (T := TX4) (N := 14) hx hb hts inlX4 tyX4 tyX4_ok nmX4 hown hK hP hD hS 0 rfl rfl 10 (by decide) (hts _ mw_77) (fun _ h9 => h9) rfl (tyX4_ok 10 (by decide)) rfl rfl (Nat.le_of_ble_eq_true rfl) dX4_splitLine_2 (fun H locs hP hD hS => ?_)
  have hP : va_P D vwCl ([(rd, .inr (4, [.ref tp, .ref d, .ref ft, .ref bl, .int (nI aq), .int ca, .ref wk, .int (nI sz), .ref fl, .ref sr, .int 0, cv, .ref cl, .int (nI rw)])), (tp, .inr (8, [.ref tb, .int (nI L)])), (tb, .inl (κ 0, 800, .inl tf)), (d, .inl (κ 0, 6, .inl dl)), (wk, .inl (κ 1, 20, .inl wf)), (fl, .inl (κ 2, 8, .inr (.inr (.inr (.inr ff))))), (sr, .inl (κ 0, 8, .inl sf))] ++ im) H := hP
  have hD : va_D A ([(rd, .inr (4, [.ref tp, .ref d, .ref ft, .ref bl, .int (nI aq), .int ca, .ref wk, .int (nI sz), .ref fl, .ref sr, .int 0, cv, .ref cl, .int (nI rw)])), (tp, .inr (8, [.ref tb, .int (nI L)])), (tb, .inl (κ 0, 800, .inl tf)), (d, .inl (κ 0, 6, .inl dl)), (wk, .inl (κ 1, 20, .inl wf)), (fl, .inl (κ 2, 8, .inr (.inr (.inr (.inr ff))))), (sr, .inl (κ 0, 8, .inl sf))] ++ im) := hD
  refine W.widen (k := 16 - 2 * (8 - 0)) (n := 192 - 24 * (8 - 0)) (by omega) (by omega) ?_
  refine loop_mk (8) 2 24 16 192 (fun k9 H locs ls => ∃ (v4_5 : Nat), ∃ (v5_5 : Int32), ∃ (v7_5 : Nat), ∃ (v10_5 : Nat), ∃ (gwk_5 : Nat → Int32), ∃ (gfl_5 : Nat → Option Nat), ∃ (gsr_5 : Nat → Int32), ∃ (im_L5 : va_W), (v4_5 ≤ L) ∧ (v7_5 ≤ 20) ∧ (v10_5 ≤ 8) ∧ (Sb im im_L5) ∧ sb_Fit gwk_5 ∧ Lc κ im_L5 gfl_5 v10_5 ∧ 8 - v10_5 = k9 ∧ va_P D vwCl ([(rd, .inr (4, [.ref tp, .ref d, .ref ft, .ref bl, .int (nI v4_5), .int v5_5, .ref wk, .int (nI v7_5), .ref fl, .ref sr, .int (nI v10_5), cv, .ref cl, .int (nI rw)])), (tp, .inr (8, [.ref tb, .int (nI L)])), (tb, .inl (κ 0, 800, .inl tf)), (d, .inl (κ 0, 6, .inl dl)), (wk, .inl (κ 1, 20, .inl gwk_5)), (fl, .inl (κ 2, 8, .inr (.inr (.inr (.inr gfl_5))))), (sr, .inl (κ 0, 8, .inl gsr_5))] ++ im_L5) H ∧ va_D A ([(rd, .inr (4, [.ref tp, .ref d, .ref ft, .ref bl, .int (nI v4_5), .int v5_5, .ref wk, .int (nI v7_5), .ref fl, .ref sr, .int (nI v10_5), cv, .ref cl, .int (nI rw)])), (tp, .inr (8, [.ref tb, .int (nI L)])), (tb, .inl (κ 0, 800, .inl tf)), (d, .inl (κ 0, 6, .inl dl)), (wk, .inl (κ 1, 20, .inl gwk_5)), (fl, .inl (κ 2, 8, .inr (.inr (.inr (.inr gfl_5))))), (sr, .inl (κ 0, 8, .inl gsr_5))] ++ im_L5) ∧ va_S A s.heap H locs ∧ lv_has ls 2 [(0, .ref rd)]) (fun kz5 H locs ls hkz5 hI5 ih5 => ?_) (8 - 0) _ _ _ (by omega) ⟨aq, ca, sz, 0, wf, ff, sf, im, (by omega), (by omega), (by omega), Sb.rf, hwf, Lc_0, rfl, hP, hD, hS, lv_sub hl [0] rfl⟩
  obtain ⟨v4_5, v5_5, v7_5, v10_5, gwk_5, gfl_5, gsr_5, im_L5, hl5_0, hl5_1, hl5_2, hl5_3, hg5_0, hq5_0, hm5, hP, hD, hS, hl⟩ := hI5
  replace hbl := hbl.up hl5_3
  refine lv_aload_n hx hb dX4_splitLine_5 rfl (lv_at hl 0 rfl) ?_
  refine va_get (D := D) (ci := 4) (v := .int (nI v10_5)) (C := RX4) (T := TX4) (N := 14) hx hb hts inlX4 hown hK hP 0 rfl rfl 10 (by decide) (hts _ mw_77) (fun _ h9 => h9) rfl dX4_splitLine_6 ?_
  refine lv_bipush (v := 8) hx hb dX4_splitLine_9 (by decide) ?_
  refine lv_icmp_ge (tgt := 152) hx hb dX4_splitLine_11 (by decide) (fun c_1 => ?_) (fun c_1 => ?_)
  · have nc_1 := cv_le (a := 8) (b := v10_5) (by omega) (by omega) c_1
    refine lv_bipush (v := 6) hx hb dX4_splitLine_152 (by decide) ?_
    exact et_iret hx hb hr hlk rfl hS (6, v4_5, v5_5, v7_5, v10_5, gwk_5, gfl_5, gsr_5, im_L5) rfl ⟨(show v4_5 ≤ L from (by first | assumption | omega | rfl | exact Or.inl (by assumption) | exact Or.inr (by assumption))), (show v7_5 ≤ 20 from (by first | assumption | omega | rfl | exact Or.inl (by assumption) | exact Or.inr (by assumption))), (show sb_Fit gwk_5 from (by first | assumption | omega | rfl | exact Or.inl (by assumption) | exact Or.inr (by assumption))), (show v10_5 ≤ 8 from (by first | assumption | omega | rfl | exact Or.inl (by assumption) | exact Or.inr (by assumption))), (show (6 : Int32) = 0 → 1 ≤ v10_5 from (fun h9 => absurd h9 (by decide))), (show Sb im im_L5 from hl5_3), (show Lc κ im_L5 gfl_5 v10_5 from hq5_0)⟩ (subP hP [0, 1, 2, 3, 4, 5, 6] rfl) (subD hD [0, 1, 2, 3, 4, 5, 6] (by decide) rfl) (by show _ ≤ 16; omega) (by show _ ≤ 192; omega) dX4_splitLine_154
  · have nc_1 := cv_nle (a := 8) (b := v10_5) (by omega) (by omega) c_1
    refine lv_aload_n hx hb dX4_splitLine_14 rfl (lv_at hl 0 rfl) ?_
    refine va_get (D := D) (ci := 4) (v := .ref sr) (C := RX4) (T := TX4) (N := 14) hx hb hts inlX4 hown hK hP 0 rfl rfl 9 (by decide) (hts _ mw_76) (fun _ h9 => h9) rfl dX4_splitLine_15 ?_
    refine lv_aload_n hx hb dX4_splitLine_18 rfl (lv_at hl 0 rfl) ?_
    refine va_get (D := D) (ci := 4) (v := .int (nI v10_5)) (C := RX4) (T := TX4) (N := 14) hx hb hts inlX4 hown hK hP 0 rfl rfl 10 (by decide) (hts _ mw_77) (fun _ h9 => h9) rfl dX4_splitLine_19 ?_
    refine lv_aload_n hx hb dX4_splitLine_22 rfl (lv_at hl 0 rfl) ?_
    refine va_get (D := D) (ci := 4) (v := .int (nI v4_5)) (C := RX4) (T := TX4) (N := 14) hx hb hts inlX4 hown hK hP 0 rfl rfl 4 (by decide) (hts _ mw_71) (fun _ h9 => h9) rfl dX4_splitLine_23 ?_
    refine va_iast hx hb hK hP hD hS 6 0 rfl rfl (i := nI v10_5) (x := nI v4_5) (vp_in_nI (n := v10_5) (by omega) (by omega)) dX4_splitLine_26 (fun H locs hP hD hS => ?_)
    rw [nI_clamp (by omega)] at hP hD
    have hP : va_P D vwCl ([(rd, .inr (4, [.ref tp, .ref d, .ref ft, .ref bl, .int (nI v4_5), .int v5_5, .ref wk, .int (nI v7_5), .ref fl, .ref sr, .int (nI v10_5), cv, .ref cl, .int (nI rw)])), (tp, .inr (8, [.ref tb, .int (nI L)])), (tb, .inl (κ 0, 800, .inl tf)), (d, .inl (κ 0, 6, .inl dl)), (wk, .inl (κ 1, 20, .inl gwk_5)), (fl, .inl (κ 2, 8, .inr (.inr (.inr (.inr gfl_5))))), (sr, .inl (κ 0, 8, .inl (upd gsr_5 v10_5 (nI v4_5))))] ++ im_L5) H := hP
    have hD : va_D A ([(rd, .inr (4, [.ref tp, .ref d, .ref ft, .ref bl, .int (nI v4_5), .int v5_5, .ref wk, .int (nI v7_5), .ref fl, .ref sr, .int (nI v10_5), cv, .ref cl, .int (nI rw)])), (tp, .inr (8, [.ref tb, .int (nI L)])), (tb, .inl (κ 0, 800, .inl tf)), (d, .inl (κ 0, 6, .inl dl)), (wk, .inl (κ 1, 20, .inl gwk_5)), (fl, .inl (κ 2, 8, .inr (.inr (.inr (.inr gfl_5))))), (sr, .inl (κ 0, 8, .inl (upd gsr_5 v10_5 (nI v4_5))))] ++ im_L5) := hD
    generalize upd gsr_5 v10_5 (nI v4_5) = g_2 at hP hD 
    refine lv_aload_n hx hb dX4_splitLine_27 rfl (lv_at hl 0 rfl) ?_
    refine et_VN (CR := [(fl, .inl (κ 2, 8, .inr (.inr (.inr (.inr gfl_5))))), (sr, .inl (κ 0, 8, .inl g_2))]) (As := []) (rest := []) hFX hKK hE hP hD hS hA (c_X4_readField l D κ κq rd tp d ft bl v4_5 wk v7_5 fl sr v10_5 cl rw v5_5 cv tb L tf dl gwk_5 (by omega) (by omega) (by omega) hg5_0) 0 gV_X4_119 hdV_X4_readField ⟨Nat.le_of_ble_eq_true rfl, Nat.le_of_ble_eq_true rfl⟩ rfl rfl (Nat.le_of_ble_eq_true rfl) dX4_splitLine_28 ⟨(by show 16 - 2 * kz5 + 0 + 0 ≤ 16; omega), (by show 192 - 24 * kz5 + 0 + 0 ≤ 192; omega)⟩ hl.1 [0, 1, 2, 3, 4] [5, 6] rfl rfl (by decide) (by decide) (by decide) hP 0 4 rfl rfl rfl (fun u_7 H locs hp_8 hP hD hS => ?_)
    refine W.widen (k := 16 - 2 * kz5 + 0) (n := 192 - 24 * kz5 + 0) (Nat.le_refl _) (Nat.le_refl _) ?_
    obtain ⟨r__3, y__4, s__5, g__6⟩ := u_7
    replace hP : va_P D vwCl ([(rd, .inr (4, [.ref tp, .ref d, .ref ft, .ref bl, .int (nI y__4), .int v5_5, .ref wk, .int (nI s__5), .ref fl, .ref sr, .int (nI v10_5), cv, .ref cl, .int (nI rw)])), (tp, .inr (8, [.ref tb, .int (nI L)])), (tb, .inl (κ 0, 800, .inl tf)), (d, .inl (κ 0, 6, .inl dl)), (wk, .inl (κ 1, 20, .inl g__6)), (fl, .inl (κ 2, 8, .inr (.inr (.inr (.inr gfl_5))))), (sr, .inl (κ 0, 8, .inl g_2))] ++ im_L5) H := subP (C := [(fl, .inl (κ 2, 8, .inr (.inr (.inr (.inr gfl_5))))), (sr, .inl (κ 0, 8, .inl g_2)), (rd, .inr (4, [.ref tp, .ref d, .ref ft, .ref bl, .int (nI y__4), .int v5_5, .ref wk, .int (nI s__5), .ref fl, .ref sr, .int (nI v10_5), cv, .ref cl, .int (nI rw)])), (tp, .inr (8, [.ref tb, .int (nI L)])), (tb, .inl (κ 0, 800, .inl tf)), (d, .inl (κ 0, 6, .inl dl)), (wk, .inl (κ 1, 20, .inl g__6))]) hP [2, 3, 4, 5, 6, 0, 1] rfl
    replace hD : va_D A ([(rd, .inr (4, [.ref tp, .ref d, .ref ft, .ref bl, .int (nI y__4), .int v5_5, .ref wk, .int (nI s__5), .ref fl, .ref sr, .int (nI v10_5), cv, .ref cl, .int (nI rw)])), (tp, .inr (8, [.ref tb, .int (nI L)])), (tb, .inl (κ 0, 800, .inl tf)), (d, .inl (κ 0, 6, .inl dl)), (wk, .inl (κ 1, 20, .inl g__6)), (fl, .inl (κ 2, 8, .inr (.inr (.inr (.inr gfl_5))))), (sr, .inl (κ 0, 8, .inl g_2))] ++ im_L5) := subD (C := [(fl, .inl (κ 2, 8, .inr (.inr (.inr (.inr gfl_5))))), (sr, .inl (κ 0, 8, .inl g_2)), (rd, .inr (4, [.ref tp, .ref d, .ref ft, .ref bl, .int (nI y__4), .int v5_5, .ref wk, .int (nI s__5), .ref fl, .ref sr, .int (nI v10_5), cv, .ref cl, .int (nI rw)])), (tp, .inr (8, [.ref tb, .int (nI L)])), (tb, .inl (κ 0, 800, .inl tf)), (d, .inl (κ 0, 6, .inl dl)), (wk, .inl (κ 1, 20, .inl g__6))]) hD [2, 3, 4, 5, 6, 0, 1] (by decide) rfl
    replace hp_8 : y__4 ≤ L ∧ v4_5 ≤ y__4 ∧ s__5 ≤ 20 ∧ sb_Fit g__6 := hp_8
    obtain ⟨h_9, h_10, h_11, h_12⟩ := hp_8
    refine W.eq (g2 := F0 m 31 ls [.int r__3]) rfl ?_
    refine lv_istore_n (lv' := [(1, .int r__3), (0, .ref rd)]) hx hb dX4_splitLine_31 rfl hl (by decide) rfl (fun ls hl => ?_)
    refine lv_iload_n hx hb dX4_splitLine_32 rfl (lv_at hl 0 rfl) ?_
    refine lv_if_eq (tgt := 46) hx hb dX4_splitLine_33 (by decide) (fun c_13 => ?_) (fun c_13 => ?_)
    · refine lv_aload_n hx hb dX4_splitLine_46 rfl (lv_at hl 1 rfl) ?_
      refine va_get (D := D) (ci := 4) (v := .ref fl) (C := RX4) (T := TX4) (N := 14) hx hb hts inlX4 hown hK hP 0 rfl rfl 8 (by decide) (hts _ mw_75) (fun _ h9 => h9) rfl dX4_splitLine_47 ?_
      refine lv_aload_n hx hb dX4_splitLine_50 rfl (lv_at hl 1 rfl) ?_
      refine va_get (D := D) (ci := 4) (v := .int (nI v10_5)) (C := RX4) (T := TX4) (N := 14) hx hb hts inlX4 hown hK hP 0 rfl rfl 10 (by decide) (hts _ mw_77) (fun _ h9 => h9) rfl dX4_splitLine_51 ?_
      refine lv_aload_n hx hb dX4_splitLine_54 rfl (lv_at hl 1 rfl) ?_
      refine va_get (D := D) (ci := 4) (v := .int (nI s__5)) (C := RX4) (T := TX4) (N := 14) hx hb hts inlX4 hown hK hP 0 rfl rfl 7 (by decide) (hts _ mw_74) (fun _ h9 => h9) rfl dX4_splitLine_55 ?_
      refine lv_if_ne (tgt := 68) hx hb dX4_splitLine_58 (by decide) (fun c_14 => ?_) (fun c_14 => ?_)
      · have nc_14 := cv_ne (a := s__5) (b := 0) (by omega) (by omega) c_14
        refine va_new (ci := 0) (fs := [.null, .int 0, .long 0]) (C := RX0) (T := TX0) (N := 3) hx hb hts inlX0 tyX0 tyX0_ok hown (hts _ mw_66) (hts _ mw_67) (hts _ mw_68) hK hP hD hS hA rfl (fun j hj => by rcases (show j = 0 ∨ j = 1 ∨ j = 2 by omega) with rfl | rfl | rfl <;> rfl) (by show _ ≤ 16; omega) (by show _ ≤ 192; omega) dX4_splitLine_68 (fun q_15 H hP hD hS => ?_)
        replace hP : va_P D vwCl ([(rd, .inr (4, [.ref tp, .ref d, .ref ft, .ref bl, .int (nI y__4), .int v5_5, .ref wk, .int (nI s__5), .ref fl, .ref sr, .int (nI v10_5), cv, .ref cl, .int (nI rw)])), (tp, .inr (8, [.ref tb, .int (nI L)])), (tb, .inl (κ 0, 800, .inl tf)), (d, .inl (κ 0, 6, .inl dl)), (wk, .inl (κ 1, 20, .inl g__6)), (fl, .inl (κ 2, 8, .inr (.inr (.inr (.inr gfl_5))))), (sr, .inl (κ 0, 8, .inl g_2)), (q_15, .inr (0, [.null, .int 0, .long 0]))] ++ im_L5) H := mvP hP
        replace hD : va_D A ([(rd, .inr (4, [.ref tp, .ref d, .ref ft, .ref bl, .int (nI y__4), .int v5_5, .ref wk, .int (nI s__5), .ref fl, .ref sr, .int (nI v10_5), cv, .ref cl, .int (nI rw)])), (tp, .inr (8, [.ref tb, .int (nI L)])), (tb, .inl (κ 0, 800, .inl tf)), (d, .inl (κ 0, 6, .inl dl)), (wk, .inl (κ 1, 20, .inl g__6)), (fl, .inl (κ 2, 8, .inr (.inr (.inr (.inr gfl_5))))), (sr, .inl (κ 0, 8, .inl g_2)), (q_15, .inr (0, [.null, .int 0, .long 0]))] ++ im_L5) := mvD hD
        refine lv_dup hx hb dX4_splitLine_71 rfl ?_
        refine lv_aload_n hx hb dX4_splitLine_72 rfl (lv_at hl 1 rfl) ?_
        refine va_get (D := D) (ci := 4) (v := .ref wk) (C := RX4) (T := TX4) (N := 14) hx hb hts inlX4 hown hK hP 0 rfl rfl 6 (by decide) (hts _ mw_73) (fun _ h9 => h9) rfl dX4_splitLine_73 ?_
        refine lv_aload_n hx hb dX4_splitLine_76 rfl (lv_at hl 1 rfl) ?_
        refine va_get (D := D) (ci := 4) (v := .int (nI s__5)) (C := RX4) (T := TX4) (N := 14) hx hb hts inlX4 hown hK hP 0 rfl rfl 7 (by decide) (hts _ mw_74) (fun _ h9 => h9) rfl dX4_splitLine_77 ?_
        refine et_SN (CR := [(rd, .inr (4, [.ref tp, .ref d, .ref ft, .ref bl, .int (nI y__4), .int v5_5, .ref wk, .int (nI s__5), .ref fl, .ref sr, .int (nI v10_5), cv, .ref cl, .int (nI rw)])), (tp, .inr (8, [.ref tb, .int (nI L)])), (tb, .inl (κ 0, 800, .inl tf)), (d, .inl (κ 0, 6, .inl dl)), (fl, .inl (κ 2, 8, .inr (.inr (.inr (.inr gfl_5))))), (sr, .inl (κ 0, 8, .inl g_2)), (q_15, .inr (0, [.null, .int 0, .long 0]))]) (As := [.ref wk, .int (nI s__5)]) (rest := [.ref q_15, .ref q_15, .int (nI v10_5), .ref fl]) hFX hKK hE hP hD hS hA (c_copyb_l l D κ κq wk 20 s__5 g__6 (by omega) (by omega) h_12) 2 gS_X4_122 hdS_J7_copyOf_9075b ⟨Nat.le_of_ble_eq_true rfl, Nat.le_of_ble_eq_true rfl⟩ rfl rfl (Nat.le_of_ble_eq_true rfl) dX4_splitLine_80 ⟨(by show 16 - 2 * kz5 + 1 + 1 ≤ 16; omega), (by show 192 - 24 * kz5 + 3 + 21 ≤ 192; omega)⟩ hl.1 [4] [0, 1, 2, 3, 5, 6, 7] rfl rfl (by decide) (by decide) (by decide) (fun u_18 H locs hp_19 hP hD hS => ?_)
        refine W.widen (k := 16 - 2 * kz5 + 2) (n := 192 - 24 * kz5 + 24) (Nat.le_refl _) (Nat.le_refl _) ?_
        obtain ⟨q__16, g__17⟩ := u_18
        replace hP : va_P D vwCl ([(rd, .inr (4, [.ref tp, .ref d, .ref ft, .ref bl, .int (nI y__4), .int v5_5, .ref wk, .int (nI s__5), .ref fl, .ref sr, .int (nI v10_5), cv, .ref cl, .int (nI rw)])), (tp, .inr (8, [.ref tb, .int (nI L)])), (tb, .inl (κ 0, 800, .inl tf)), (d, .inl (κ 0, 6, .inl dl)), (wk, .inl (κ 1, 20, .inl g__6)), (fl, .inl (κ 2, 8, .inr (.inr (.inr (.inr gfl_5))))), (sr, .inl (κ 0, 8, .inl g_2)), (q_15, .inr (0, [.null, .int 0, .long 0])), (q__16, .inl (κ 1, s__5, .inl g__17))] ++ im_L5) H := subP (C := [(rd, .inr (4, [.ref tp, .ref d, .ref ft, .ref bl, .int (nI y__4), .int v5_5, .ref wk, .int (nI s__5), .ref fl, .ref sr, .int (nI v10_5), cv, .ref cl, .int (nI rw)])), (tp, .inr (8, [.ref tb, .int (nI L)])), (tb, .inl (κ 0, 800, .inl tf)), (d, .inl (κ 0, 6, .inl dl)), (fl, .inl (κ 2, 8, .inr (.inr (.inr (.inr gfl_5))))), (sr, .inl (κ 0, 8, .inl g_2)), (q_15, .inr (0, [.null, .int 0, .long 0])), (wk, .inl (κ 1, 20, .inl g__6)), (q__16, .inl (κ 1, s__5, .inl g__17))]) hP [0, 1, 2, 3, 7, 4, 5, 6, 8] rfl
        replace hD : va_D A ([(rd, .inr (4, [.ref tp, .ref d, .ref ft, .ref bl, .int (nI y__4), .int v5_5, .ref wk, .int (nI s__5), .ref fl, .ref sr, .int (nI v10_5), cv, .ref cl, .int (nI rw)])), (tp, .inr (8, [.ref tb, .int (nI L)])), (tb, .inl (κ 0, 800, .inl tf)), (d, .inl (κ 0, 6, .inl dl)), (wk, .inl (κ 1, 20, .inl g__6)), (fl, .inl (κ 2, 8, .inr (.inr (.inr (.inr gfl_5))))), (sr, .inl (κ 0, 8, .inl g_2)), (q_15, .inr (0, [.null, .int 0, .long 0])), (q__16, .inl (κ 1, s__5, .inl g__17))] ++ im_L5) := subD (C := [(rd, .inr (4, [.ref tp, .ref d, .ref ft, .ref bl, .int (nI y__4), .int v5_5, .ref wk, .int (nI s__5), .ref fl, .ref sr, .int (nI v10_5), cv, .ref cl, .int (nI rw)])), (tp, .inr (8, [.ref tb, .int (nI L)])), (tb, .inl (κ 0, 800, .inl tf)), (d, .inl (κ 0, 6, .inl dl)), (fl, .inl (κ 2, 8, .inr (.inr (.inr (.inr gfl_5))))), (sr, .inl (κ 0, 8, .inl g_2)), (q_15, .inr (0, [.null, .int 0, .long 0])), (wk, .inl (κ 1, 20, .inl g__6)), (q__16, .inl (κ 1, s__5, .inl g__17))]) hD [0, 1, 2, 3, 7, 4, 5, 6, 8] (by decide) rfl
        replace hp_19 : sb_Fit g__17 := hp_19
        have h_20 := hp_19
        clear hp_19
        refine W.eq (g2 := F0 m 83 ls [.ref q__16, .ref q_15, .ref q_15, .int (nI v10_5), .ref fl]) rfl ?_
        replace hP : va_P D vwCl ([(rd, .inr (4, [.ref tp, .ref d, .ref ft, .ref bl, .int (nI y__4), .int v5_5, .ref wk, .int (nI s__5), .ref fl, .ref sr, .int (nI v10_5), cv, .ref cl, .int (nI rw)])), (tp, .inr (8, [.ref tb, .int (nI L)])), (tb, .inl (κ 0, 800, .inl tf)), (d, .inl (κ 0, 6, .inl dl)), (wk, .inl (κ 1, 20, .inl g__6)), (fl, .inl (κ 2, 8, .inr (.inr (.inr (.inr gfl_5))))), (sr, .inl (κ 0, 8, .inl g_2)), (q_15, .inr (0, [.null, .int 0, .long 0])), (q__16, .inl (κ 1, s__5, .inl g__17))] ++ im_L5) _ := subP hP [0, 1, 2, 3, 4, 5, 6, 7, 8] rfl
        replace hD : va_D A ([(rd, .inr (4, [.ref tp, .ref d, .ref ft, .ref bl, .int (nI y__4), .int v5_5, .ref wk, .int (nI s__5), .ref fl, .ref sr, .int (nI v10_5), cv, .ref cl, .int (nI rw)])), (tp, .inr (8, [.ref tb, .int (nI L)])), (tb, .inl (κ 0, 800, .inl tf)), (d, .inl (κ 0, 6, .inl dl)), (wk, .inl (κ 1, 20, .inl g__6)), (fl, .inl (κ 2, 8, .inr (.inr (.inr (.inr gfl_5))))), (sr, .inl (κ 0, 8, .inl g_2)), (q_15, .inr (0, [.null, .int 0, .long 0])), (q__16, .inl (κ 1, s__5, .inl g__17))] ++ im_L5) := subD hD [0, 1, 2, 3, 4, 5, 6, 7, 8] (by decide) rfl
        obtain ⟨im_21, he_22⟩ : ∃ x9 : va_W, x9 = ([(q__16, .inl (κ 1, s__5, .inl g__17))] ++ im_L5) := ⟨_, rfl⟩
        have hs_23 : Sb im_L5 im_21 := by rw [he_22]; exact Sb.app
        have hm_q__16 : (q__16, .inl (κ 1, s__5, .inl g__17)) ∈ im_21 := by rw [he_22]; exact List.mem_of_getElem? (i := 0) rfl
        replace hP : va_P D vwCl ([(rd, .inr (4, [.ref tp, .ref d, .ref ft, .ref bl, .int (nI y__4), .int v5_5, .ref wk, .int (nI s__5), .ref fl, .ref sr, .int (nI v10_5), cv, .ref cl, .int (nI rw)])), (tp, .inr (8, [.ref tb, .int (nI L)])), (tb, .inl (κ 0, 800, .inl tf)), (d, .inl (κ 0, 6, .inl dl)), (wk, .inl (κ 1, 20, .inl g__6)), (fl, .inl (κ 2, 8, .inr (.inr (.inr (.inr gfl_5))))), (sr, .inl (κ 0, 8, .inl g_2)), (q_15, .inr (0, [.null, .int 0, .long 0]))] ++ ([(q__16, .inl (κ 1, s__5, .inl g__17))] ++ im_L5)) _ := hP
        replace hD : va_D A ([(rd, .inr (4, [.ref tp, .ref d, .ref ft, .ref bl, .int (nI y__4), .int v5_5, .ref wk, .int (nI s__5), .ref fl, .ref sr, .int (nI v10_5), cv, .ref cl, .int (nI rw)])), (tp, .inr (8, [.ref tb, .int (nI L)])), (tb, .inl (κ 0, 800, .inl tf)), (d, .inl (κ 0, 6, .inl dl)), (wk, .inl (κ 1, 20, .inl g__6)), (fl, .inl (κ 2, 8, .inr (.inr (.inr (.inr gfl_5))))), (sr, .inl (κ 0, 8, .inl g_2)), (q_15, .inr (0, [.null, .int 0, .long 0]))] ++ ([(q__16, .inl (κ 1, s__5, .inl g__17))] ++ im_L5)) := hD
        rw [← he_22] at hP hD
        clear he_22
        replace hbl := hbl.up hs_23
        replace hq5_0 := hq5_0.up hs_23
        have hf_24 : By κ im_21 q__16 s__5 := ⟨by omega, _, hm_q__16, h_20⟩
        refine et_IT (CR := [(rd, .inr (4, [.ref tp, .ref d, .ref ft, .ref bl, .int (nI y__4), .int v5_5, .ref wk, .int (nI s__5), .ref fl, .ref sr, .int (nI v10_5), cv, .ref cl, .int (nI rw)])), (tp, .inr (8, [.ref tb, .int (nI L)])), (tb, .inl (κ 0, 800, .inl tf)), (d, .inl (κ 0, 6, .inl dl)), (wk, .inl (κ 1, 20, .inl g__6)), (fl, .inl (κ 2, 8, .inr (.inr (.inr (.inr gfl_5))))), (sr, .inl (κ 0, 8, .inl g_2))]) (As := [.ref q__16]) (rest := [.ref q_15, .int (nI v10_5), .ref fl]) hFX hKK hE hP hD hS hA (c_X0_init l D κ κq im_21 q_15 q__16 s__5 hf_24) 1 mw_84 mw_85 mw_68 mw_86 hdI_X0_init ⟨Nat.le_of_ble_eq_true rfl, Nat.le_of_ble_eq_true rfl⟩ rfl rfl (Nat.le_of_ble_eq_true rfl) dX4_splitLine_83 ⟨(by show 16 - 2 * kz5 + 2 + 0 ≤ 16; omega), (by show 192 - 24 * kz5 + 24 + 0 ≤ 192; omega)⟩ hl.1 [7] [0, 1, 2, 3, 4, 5, 6] rfl rfl (by decide) (by decide) (by decide) (fun u_27 H locs hp_28 hP hD hS => ?_)
        refine W.widen (k := 16 - 2 * kz5 + 2) (n := 192 - 24 * kz5 + 24) (Nat.le_refl _) (Nat.le_refl _) ?_
        obtain ⟨k__25, im2__26⟩ := u_27
        replace hP : va_P D vwCl ([(rd, .inr (4, [.ref tp, .ref d, .ref ft, .ref bl, .int (nI y__4), .int v5_5, .ref wk, .int (nI s__5), .ref fl, .ref sr, .int (nI v10_5), cv, .ref cl, .int (nI rw)])), (tp, .inr (8, [.ref tb, .int (nI L)])), (tb, .inl (κ 0, 800, .inl tf)), (d, .inl (κ 0, 6, .inl dl)), (wk, .inl (κ 1, 20, .inl g__6)), (fl, .inl (κ 2, 8, .inr (.inr (.inr (.inr gfl_5))))), (sr, .inl (κ 0, 8, .inl g_2))] ++ im2__26) H := subP (C := [(rd, .inr (4, [.ref tp, .ref d, .ref ft, .ref bl, .int (nI y__4), .int v5_5, .ref wk, .int (nI s__5), .ref fl, .ref sr, .int (nI v10_5), cv, .ref cl, .int (nI rw)])), (tp, .inr (8, [.ref tb, .int (nI L)])), (tb, .inl (κ 0, 800, .inl tf)), (d, .inl (κ 0, 6, .inl dl)), (wk, .inl (κ 1, 20, .inl g__6)), (fl, .inl (κ 2, 8, .inr (.inr (.inr (.inr gfl_5))))), (sr, .inl (κ 0, 8, .inl g_2))]) hP [0, 1, 2, 3, 4, 5, 6] rfl
        replace hD : va_D A ([(rd, .inr (4, [.ref tp, .ref d, .ref ft, .ref bl, .int (nI y__4), .int v5_5, .ref wk, .int (nI s__5), .ref fl, .ref sr, .int (nI v10_5), cv, .ref cl, .int (nI rw)])), (tp, .inr (8, [.ref tb, .int (nI L)])), (tb, .inl (κ 0, 800, .inl tf)), (d, .inl (κ 0, 6, .inl dl)), (wk, .inl (κ 1, 20, .inl g__6)), (fl, .inl (κ 2, 8, .inr (.inr (.inr (.inr gfl_5))))), (sr, .inl (κ 0, 8, .inl g_2))] ++ im2__26) := subD (C := [(rd, .inr (4, [.ref tp, .ref d, .ref ft, .ref bl, .int (nI y__4), .int v5_5, .ref wk, .int (nI s__5), .ref fl, .ref sr, .int (nI v10_5), cv, .ref cl, .int (nI rw)])), (tp, .inr (8, [.ref tb, .int (nI L)])), (tb, .inl (κ 0, 800, .inl tf)), (d, .inl (κ 0, 6, .inl dl)), (wk, .inl (κ 1, 20, .inl g__6)), (fl, .inl (κ 2, 8, .inr (.inr (.inr (.inr gfl_5))))), (sr, .inl (κ 0, 8, .inl g_2))]) hD [0, 1, 2, 3, 4, 5, 6] (by decide) rfl
        replace hp_28 : Sb im_21 im2__26 ∧ Cl κ im2__26 q_15 k__25 s__5 := hp_28
        obtain ⟨h_29, h_30⟩ := hp_28
        replace hbl := hbl.up h_29
        replace hq5_0 := hq5_0.up h_29
        replace hf_24 := hf_24.up h_29
        replace hm_q__16 := h_29 _ hm_q__16
        refine W.eq (g2 := F0 m 86 ls [.ref q_15, .int (nI v10_5), .ref fl]) rfl ?_
        obtain ⟨hk_31, b_32, x_33, hm_34, hb_35⟩ := id h_30
        have hn_b_32 := hb_35.1
        obtain ⟨k_36, ek_36⟩ := tl_at [(rd, .inr (4, [.ref tp, .ref d, .ref ft, .ref bl, .int (nI y__4), .int v5_5, .ref wk, .int (nI s__5), .ref fl, .ref sr, .int (nI v10_5), cv, .ref cl, .int (nI rw)])), (tp, .inr (8, [.ref tb, .int (nI L)])), (tb, .inl (κ 0, 800, .inl tf)), (d, .inl (κ 0, 6, .inl dl)), (wk, .inl (κ 1, 20, .inl g__6)), (fl, .inl (κ 2, 8, .inr (.inr (.inr (.inr gfl_5))))), (sr, .inl (κ 0, 8, .inl g_2))] hm_34
        refine va_astq hx hb hK hP hD hS 5 2 k_36 0 rfl rfl ek_36 rfl (i := nI v10_5) (vp_in_nI (n := v10_5) (by omega) (by omega)) dX4_splitLine_86 (fun H locs hP hD hS => ?_)
        rw [nI_clamp (by omega)] at hP hD
        have hP : va_P D vwCl ([(rd, .inr (4, [.ref tp, .ref d, .ref ft, .ref bl, .int (nI y__4), .int v5_5, .ref wk, .int (nI s__5), .ref fl, .ref sr, .int (nI v10_5), cv, .ref cl, .int (nI rw)])), (tp, .inr (8, [.ref tb, .int (nI L)])), (tb, .inl (κ 0, 800, .inl tf)), (d, .inl (κ 0, 6, .inl dl)), (wk, .inl (κ 1, 20, .inl g__6)), (fl, .inl (κ 2, 8, .inr (.inr (.inr (.inr (va_up gfl_5 v10_5 (some q_15))))))), (sr, .inl (κ 0, 8, .inl g_2))] ++ im2__26) H := hP
        have hD : va_D A ([(rd, .inr (4, [.ref tp, .ref d, .ref ft, .ref bl, .int (nI y__4), .int v5_5, .ref wk, .int (nI s__5), .ref fl, .ref sr, .int (nI v10_5), cv, .ref cl, .int (nI rw)])), (tp, .inr (8, [.ref tb, .int (nI L)])), (tb, .inl (κ 0, 800, .inl tf)), (d, .inl (κ 0, 6, .inl dl)), (wk, .inl (κ 1, 20, .inl g__6)), (fl, .inl (κ 2, 8, .inr (.inr (.inr (.inr (va_up gfl_5 v10_5 (some q_15))))))), (sr, .inl (κ 0, 8, .inl g_2))] ++ im2__26) := hD
        have hf_38 : Lc κ im2__26 (va_up gfl_5 v10_5 (some q_15)) (v10_5 + 1) := Lc_add hq5_0 h_30
        generalize va_up gfl_5 v10_5 (some q_15) = g_37 at hP hD hf_38
        refine lv_aload_n hx hb dX4_splitLine_87 rfl (lv_at hl 1 rfl) ?_
        refine lv_dup hx hb dX4_splitLine_88 rfl ?_
        refine va_get (D := D) (ci := 4) (v := .int (nI v10_5)) (C := RX4) (T := TX4) (N := 14) hx hb hts inlX4 hown hK hP 0 rfl rfl 10 (by decide) (hts _ mw_77) (fun _ h9 => h9) rfl dX4_splitLine_89 ?_
        refine lv_iconst (v := 1) hx hb dX4_splitLine_92 (by decide) ?_
        refine lv_iadd hx hb dX4_splitLine_93 ?_
        refine ki (v := (nI (v10_5 + 1))) (nI_add v10_5 1) ?_
        refine va_put (D := D) (ci := 4) (v := .int (nI (v10_5 + 1))) (ty := tyX4 10) (C := RX4) (T := TX4) (N := 14) hx hb hts inlX4 tyX4 tyX4_ok nmX4 hown hK hP hD hS 0 rfl rfl 10 (by decide) (hts _ mw_77) (fun _ h9 => h9) rfl (tyX4_ok 10 (by decide)) rfl rfl (Nat.le_of_ble_eq_true rfl) dX4_splitLine_94 (fun H locs hP hD hS => ?_)
        have hP : va_P D vwCl ([(rd, .inr (4, [.ref tp, .ref d, .ref ft, .ref bl, .int (nI y__4), .int v5_5, .ref wk, .int (nI s__5), .ref fl, .ref sr, .int (nI (v10_5 + 1)), cv, .ref cl, .int (nI rw)])), (tp, .inr (8, [.ref tb, .int (nI L)])), (tb, .inl (κ 0, 800, .inl tf)), (d, .inl (κ 0, 6, .inl dl)), (wk, .inl (κ 1, 20, .inl g__6)), (fl, .inl (κ 2, 8, .inr (.inr (.inr (.inr g_37))))), (sr, .inl (κ 0, 8, .inl g_2))] ++ im2__26) H := hP
        have hD : va_D A ([(rd, .inr (4, [.ref tp, .ref d, .ref ft, .ref bl, .int (nI y__4), .int v5_5, .ref wk, .int (nI s__5), .ref fl, .ref sr, .int (nI (v10_5 + 1)), cv, .ref cl, .int (nI rw)])), (tp, .inr (8, [.ref tb, .int (nI L)])), (tb, .inl (κ 0, 800, .inl tf)), (d, .inl (κ 0, 6, .inl dl)), (wk, .inl (κ 1, 20, .inl g__6)), (fl, .inl (κ 2, 8, .inr (.inr (.inr (.inr g_37))))), (sr, .inl (κ 0, 8, .inl g_2))] ++ im2__26) := hD
        refine lv_aload_n hx hb dX4_splitLine_97 rfl (lv_at hl 1 rfl) ?_
        refine va_get (D := D) (ci := 4) (v := .int (nI y__4)) (C := RX4) (T := TX4) (N := 14) hx hb hts inlX4 hown hK hP 0 rfl rfl 4 (by decide) (hts _ mw_71) (fun _ h9 => h9) rfl dX4_splitLine_98 ?_
        refine lv_aload_n hx hb dX4_splitLine_101 rfl (lv_at hl 1 rfl) ?_
        refine va_get (D := D) (ci := 4) (v := .ref tp) (C := RX4) (T := TX4) (N := 14) hx hb hts inlX4 hown hK hP 0 rfl rfl 0 (by decide) (hts _ mw_81) (fun _ h9 => h9) rfl dX4_splitLine_102 ?_
        refine va_get (D := D) (ci := 8) (v := .int (nI L)) (C := RX8) (T := TX8) (N := 2) hx hb hts inlX8 hown hK hP 1 rfl rfl 1 (by decide) (hts _ mw_261) (fun _ h9 => h9) rfl dX4_splitLine_105 ?_
        refine lv_icmp_ge (tgt := 128) hx hb dX4_splitLine_108 (by decide) (fun c_39 => ?_) (fun c_39 => ?_)
        · have nc_39 := cv_le (a := L) (b := y__4) (by omega) (by omega) c_39
          refine lv_iconst (v := 0) hx hb dX4_splitLine_128 (by decide) ?_
          exact et_iret hx hb hr hlk rfl hS (0, y__4, v5_5, s__5, v10_5 + 1, g__6, g_37, g_2, im2__26) rfl ⟨(show y__4 ≤ L from (by first | assumption | omega | rfl | exact Or.inl (by assumption) | exact Or.inr (by assumption))), (show s__5 ≤ 20 from (by first | assumption | omega | rfl | exact Or.inl (by assumption) | exact Or.inr (by assumption))), (show sb_Fit g__6 from (by first | assumption | omega | rfl | exact Or.inl (by assumption) | exact Or.inr (by assumption))), (show (v10_5 + 1) ≤ 8 from (by first | assumption | omega | rfl | exact Or.inl (by assumption) | exact Or.inr (by assumption))), (show (0 : Int32) = 0 → 1 ≤ (v10_5 + 1) from (fun _ => by omega)), (show Sb im im2__26 from (Sb.tr (Sb.tr hl5_3 hs_23) h_29)), (show Lc κ im2__26 g_37 (v10_5 + 1) from hf_38)⟩ (subP hP [0, 1, 2, 3, 4, 5, 6] rfl) (subD hD [0, 1, 2, 3, 4, 5, 6] (by decide) rfl) (by show _ ≤ 16; omega) (by show _ ≤ 192; omega) dX4_splitLine_129
        · have nc_39 := cv_nle (a := L) (b := y__4) (by omega) (by omega) c_39
          refine lv_aload_n hx hb dX4_splitLine_111 rfl (lv_at hl 1 rfl) ?_
          refine va_get (D := D) (ci := 4) (v := .ref tp) (C := RX4) (T := TX4) (N := 14) hx hb hts inlX4 hown hK hP 0 rfl rfl 0 (by decide) (hts _ mw_81) (fun _ h9 => h9) rfl dX4_splitLine_112 ?_
          refine va_get (D := D) (ci := 8) (v := .ref tb) (C := RX8) (T := TX8) (N := 2) hx hb hts inlX8 hown hK hP 1 rfl rfl 0 (by decide) (hts _ mw_266) (fun _ h9 => h9) rfl dX4_splitLine_115 ?_
          refine lv_aload_n hx hb dX4_splitLine_118 rfl (lv_at hl 1 rfl) ?_
          refine va_get (D := D) (ci := 4) (v := .int (nI y__4)) (C := RX4) (T := TX4) (N := 14) hx hb hts inlX4 hown hK hP 0 rfl rfl 4 (by decide) (hts _ mw_71) (fun _ h9 => h9) rfl dX4_splitLine_119 ?_
          refine va_iald hx hb hK hP 2 0 rfl rfl (i := nI y__4) (vp_in_nI (n := y__4) (by omega) (by omega)) dX4_splitLine_122 ?_
          refine kv (v := .int (tf y__4)) (by rw [nI_clamp (by omega)]) ?_
          obtain ⟨x_40, ex_40⟩ : ∃ y9 : Int32, tf y__4 = y9 := ⟨_, rfl⟩
          refine kv (v := .int x_40) (congrArg Value.int ex_40) ?_
          refine lv_bipush (v := 10) hx hb dX4_splitLine_123 (by decide) ?_
          refine lv_icmp_ne (tgt := 130) hx hb dX4_splitLine_125 (by decide) (fun c_41 => ?_) (fun c_41 => ?_)
          · refine lv_aload_n hx hb dX4_splitLine_130 rfl (lv_at hl 1 rfl) ?_
            refine va_get (D := D) (ci := 4) (v := .int (nI (v10_5 + 1))) (C := RX4) (T := TX4) (N := 14) hx hb hts inlX4 hown hK hP 0 rfl rfl 10 (by decide) (hts _ mw_77) (fun _ h9 => h9) rfl dX4_splitLine_131 ?_
            refine lv_bipush (v := 8) hx hb dX4_splitLine_134 (by decide) ?_
            refine lv_icmp_ge (tgt := 149) hx hb dX4_splitLine_136 (by decide) (fun c_42 => ?_) (fun c_42 => ?_)
            · have nc_42 := cv_le (a := 8) (b := (v10_5 + 1)) (by omega) (by omega) c_42
              refine lv_goto (tgt := 5) hx hb dX4_splitLine_149 (by decide) ?_
              refine W.widen (k := 16 - 2 * (8 - (v10_5 + 1))) (n := 192 - 24 * (8 - (v10_5 + 1))) (by omega) (by omega) ?_
              exact ih5 (8 - (v10_5 + 1)) _ _ _ (by omega) ⟨y__4, v5_5, s__5, (v10_5 + 1), g__6, g_37, g_2, im2__26, (by omega), (by omega), (by omega), (Sb.tr (Sb.tr hl5_3 hs_23) h_29), h_12, hf_38, rfl, hP, hD, hS, lv_sub hl [1] rfl⟩
            · have nc_42 := cv_nle (a := 8) (b := (v10_5 + 1)) (by omega) (by omega) c_42
              refine lv_aload_n hx hb dX4_splitLine_139 rfl (lv_at hl 1 rfl) ?_
              refine lv_dup hx hb dX4_splitLine_140 rfl ?_
              refine va_get (D := D) (ci := 4) (v := .int (nI y__4)) (C := RX4) (T := TX4) (N := 14) hx hb hts inlX4 hown hK hP 0 rfl rfl 4 (by decide) (hts _ mw_71) (fun _ h9 => h9) rfl dX4_splitLine_141 ?_
              refine lv_iconst (v := 1) hx hb dX4_splitLine_144 (by decide) ?_
              refine lv_iadd hx hb dX4_splitLine_145 ?_
              refine ki (v := (nI (y__4 + 1))) (nI_add y__4 1) ?_
              refine va_put (D := D) (ci := 4) (v := .int (nI (y__4 + 1))) (ty := tyX4 4) (C := RX4) (T := TX4) (N := 14) hx hb hts inlX4 tyX4 tyX4_ok nmX4 hown hK hP hD hS 0 rfl rfl 4 (by decide) (hts _ mw_71) (fun _ h9 => h9) rfl (tyX4_ok 4 (by decide)) rfl rfl (Nat.le_of_ble_eq_true rfl) dX4_splitLine_146 (fun H locs hP hD hS => ?_)
              have hP : va_P D vwCl ([(rd, .inr (4, [.ref tp, .ref d, .ref ft, .ref bl, .int (nI (y__4 + 1)), .int v5_5, .ref wk, .int (nI s__5), .ref fl, .ref sr, .int (nI (v10_5 + 1)), cv, .ref cl, .int (nI rw)])), (tp, .inr (8, [.ref tb, .int (nI L)])), (tb, .inl (κ 0, 800, .inl tf)), (d, .inl (κ 0, 6, .inl dl)), (wk, .inl (κ 1, 20, .inl g__6)), (fl, .inl (κ 2, 8, .inr (.inr (.inr (.inr g_37))))), (sr, .inl (κ 0, 8, .inl g_2))] ++ im2__26) H := hP
              have hD : va_D A ([(rd, .inr (4, [.ref tp, .ref d, .ref ft, .ref bl, .int (nI (y__4 + 1)), .int v5_5, .ref wk, .int (nI s__5), .ref fl, .ref sr, .int (nI (v10_5 + 1)), cv, .ref cl, .int (nI rw)])), (tp, .inr (8, [.ref tb, .int (nI L)])), (tb, .inl (κ 0, 800, .inl tf)), (d, .inl (κ 0, 6, .inl dl)), (wk, .inl (κ 1, 20, .inl g__6)), (fl, .inl (κ 2, 8, .inr (.inr (.inr (.inr g_37))))), (sr, .inl (κ 0, 8, .inl g_2))] ++ im2__26) := hD
              refine lv_goto (tgt := 5) hx hb dX4_splitLine_149 (by decide) ?_
              refine W.widen (k := 16 - 2 * (8 - (v10_5 + 1))) (n := 192 - 24 * (8 - (v10_5 + 1))) (by omega) (by omega) ?_
              exact ih5 (8 - (v10_5 + 1)) _ _ _ (by omega) ⟨(y__4 + 1), v5_5, s__5, (v10_5 + 1), g__6, g_37, g_2, im2__26, (by omega), (by omega), (by omega), (Sb.tr (Sb.tr hl5_3 hs_23) h_29), h_12, hf_38, rfl, hP, hD, hS, lv_sub hl [1] rfl⟩
          · refine lv_iconst (v := 0) hx hb dX4_splitLine_128 (by decide) ?_
            exact et_iret hx hb hr hlk rfl hS (0, y__4, v5_5, s__5, v10_5 + 1, g__6, g_37, g_2, im2__26) rfl ⟨(show y__4 ≤ L from (by first | assumption | omega | rfl | exact Or.inl (by assumption) | exact Or.inr (by assumption))), (show s__5 ≤ 20 from (by first | assumption | omega | rfl | exact Or.inl (by assumption) | exact Or.inr (by assumption))), (show sb_Fit g__6 from (by first | assumption | omega | rfl | exact Or.inl (by assumption) | exact Or.inr (by assumption))), (show (v10_5 + 1) ≤ 8 from (by first | assumption | omega | rfl | exact Or.inl (by assumption) | exact Or.inr (by assumption))), (show (0 : Int32) = 0 → 1 ≤ (v10_5 + 1) from (fun _ => by omega)), (show Sb im im2__26 from (Sb.tr (Sb.tr hl5_3 hs_23) h_29)), (show Lc κ im2__26 g_37 (v10_5 + 1) from hf_38)⟩ (subP hP [0, 1, 2, 3, 4, 5, 6] rfl) (subD hD [0, 1, 2, 3, 4, 5, 6] (by decide) rfl) (by show _ ≤ 16; omega) (by show _ ≤ 192; omega) dX4_splitLine_129
      · have nc_14 := cv_eq (a := s__5) (b := 0) (by omega) (by omega) c_14
        refine lv_aload_n hx hb dX4_splitLine_61 rfl (lv_at hl 1 rfl) ?_
        refine va_get (D := D) (ci := 4) (v := .ref bl) (C := RX4) (T := TX4) (N := 14) hx hb hts inlX4 hown hK hP 0 rfl rfl 3 (by decide) (hts _ mw_70) (fun _ h9 => h9) rfl dX4_splitLine_62 ?_
        refine lv_goto (tgt := 86) hx hb dX4_splitLine_65 (by decide) ?_
        obtain ⟨hk_43, b_44, x_45, hm_46, hb_47⟩ := id hbl
        have hn_b_44 := hb_47.1
        obtain ⟨k_48, ek_48⟩ := tl_at [(rd, .inr (4, [.ref tp, .ref d, .ref ft, .ref bl, .int (nI y__4), .int v5_5, .ref wk, .int (nI s__5), .ref fl, .ref sr, .int (nI v10_5), cv, .ref cl, .int (nI rw)])), (tp, .inr (8, [.ref tb, .int (nI L)])), (tb, .inl (κ 0, 800, .inl tf)), (d, .inl (κ 0, 6, .inl dl)), (wk, .inl (κ 1, 20, .inl g__6)), (fl, .inl (κ 2, 8, .inr (.inr (.inr (.inr gfl_5))))), (sr, .inl (κ 0, 8, .inl g_2))] hm_46
        refine va_astq hx hb hK hP hD hS 5 2 k_48 0 rfl rfl ek_48 rfl (i := nI v10_5) (vp_in_nI (n := v10_5) (by omega) (by omega)) dX4_splitLine_86 (fun H locs hP hD hS => ?_)
        rw [nI_clamp (by omega)] at hP hD
        have hP : va_P D vwCl ([(rd, .inr (4, [.ref tp, .ref d, .ref ft, .ref bl, .int (nI y__4), .int v5_5, .ref wk, .int (nI s__5), .ref fl, .ref sr, .int (nI v10_5), cv, .ref cl, .int (nI rw)])), (tp, .inr (8, [.ref tb, .int (nI L)])), (tb, .inl (κ 0, 800, .inl tf)), (d, .inl (κ 0, 6, .inl dl)), (wk, .inl (κ 1, 20, .inl g__6)), (fl, .inl (κ 2, 8, .inr (.inr (.inr (.inr (va_up gfl_5 v10_5 (some bl))))))), (sr, .inl (κ 0, 8, .inl g_2))] ++ im_L5) H := hP
        have hD : va_D A ([(rd, .inr (4, [.ref tp, .ref d, .ref ft, .ref bl, .int (nI y__4), .int v5_5, .ref wk, .int (nI s__5), .ref fl, .ref sr, .int (nI v10_5), cv, .ref cl, .int (nI rw)])), (tp, .inr (8, [.ref tb, .int (nI L)])), (tb, .inl (κ 0, 800, .inl tf)), (d, .inl (κ 0, 6, .inl dl)), (wk, .inl (κ 1, 20, .inl g__6)), (fl, .inl (κ 2, 8, .inr (.inr (.inr (.inr (va_up gfl_5 v10_5 (some bl))))))), (sr, .inl (κ 0, 8, .inl g_2))] ++ im_L5) := hD
        have hf_50 : Lc κ im_L5 (va_up gfl_5 v10_5 (some bl)) (v10_5 + 1) := Lc_add hq5_0 hbl
        generalize va_up gfl_5 v10_5 (some bl) = g_49 at hP hD hf_50
        refine lv_aload_n hx hb dX4_splitLine_87 rfl (lv_at hl 1 rfl) ?_
        refine lv_dup hx hb dX4_splitLine_88 rfl ?_
        refine va_get (D := D) (ci := 4) (v := .int (nI v10_5)) (C := RX4) (T := TX4) (N := 14) hx hb hts inlX4 hown hK hP 0 rfl rfl 10 (by decide) (hts _ mw_77) (fun _ h9 => h9) rfl dX4_splitLine_89 ?_
        refine lv_iconst (v := 1) hx hb dX4_splitLine_92 (by decide) ?_
        refine lv_iadd hx hb dX4_splitLine_93 ?_
        refine ki (v := (nI (v10_5 + 1))) (nI_add v10_5 1) ?_
        refine va_put (D := D) (ci := 4) (v := .int (nI (v10_5 + 1))) (ty := tyX4 10) (C := RX4) (T := TX4) (N := 14) hx hb hts inlX4 tyX4 tyX4_ok nmX4 hown hK hP hD hS 0 rfl rfl 10 (by decide) (hts _ mw_77) (fun _ h9 => h9) rfl (tyX4_ok 10 (by decide)) rfl rfl (Nat.le_of_ble_eq_true rfl) dX4_splitLine_94 (fun H locs hP hD hS => ?_)
        have hP : va_P D vwCl ([(rd, .inr (4, [.ref tp, .ref d, .ref ft, .ref bl, .int (nI y__4), .int v5_5, .ref wk, .int (nI s__5), .ref fl, .ref sr, .int (nI (v10_5 + 1)), cv, .ref cl, .int (nI rw)])), (tp, .inr (8, [.ref tb, .int (nI L)])), (tb, .inl (κ 0, 800, .inl tf)), (d, .inl (κ 0, 6, .inl dl)), (wk, .inl (κ 1, 20, .inl g__6)), (fl, .inl (κ 2, 8, .inr (.inr (.inr (.inr g_49))))), (sr, .inl (κ 0, 8, .inl g_2))] ++ im_L5) H := hP
        have hD : va_D A ([(rd, .inr (4, [.ref tp, .ref d, .ref ft, .ref bl, .int (nI y__4), .int v5_5, .ref wk, .int (nI s__5), .ref fl, .ref sr, .int (nI (v10_5 + 1)), cv, .ref cl, .int (nI rw)])), (tp, .inr (8, [.ref tb, .int (nI L)])), (tb, .inl (κ 0, 800, .inl tf)), (d, .inl (κ 0, 6, .inl dl)), (wk, .inl (κ 1, 20, .inl g__6)), (fl, .inl (κ 2, 8, .inr (.inr (.inr (.inr g_49))))), (sr, .inl (κ 0, 8, .inl g_2))] ++ im_L5) := hD
        refine lv_aload_n hx hb dX4_splitLine_97 rfl (lv_at hl 1 rfl) ?_
        refine va_get (D := D) (ci := 4) (v := .int (nI y__4)) (C := RX4) (T := TX4) (N := 14) hx hb hts inlX4 hown hK hP 0 rfl rfl 4 (by decide) (hts _ mw_71) (fun _ h9 => h9) rfl dX4_splitLine_98 ?_
        refine lv_aload_n hx hb dX4_splitLine_101 rfl (lv_at hl 1 rfl) ?_
        refine va_get (D := D) (ci := 4) (v := .ref tp) (C := RX4) (T := TX4) (N := 14) hx hb hts inlX4 hown hK hP 0 rfl rfl 0 (by decide) (hts _ mw_81) (fun _ h9 => h9) rfl dX4_splitLine_102 ?_
        refine va_get (D := D) (ci := 8) (v := .int (nI L)) (C := RX8) (T := TX8) (N := 2) hx hb hts inlX8 hown hK hP 1 rfl rfl 1 (by decide) (hts _ mw_261) (fun _ h9 => h9) rfl dX4_splitLine_105 ?_
        refine lv_icmp_ge (tgt := 128) hx hb dX4_splitLine_108 (by decide) (fun c_51 => ?_) (fun c_51 => ?_)
        · have nc_51 := cv_le (a := L) (b := y__4) (by omega) (by omega) c_51
          refine lv_iconst (v := 0) hx hb dX4_splitLine_128 (by decide) ?_
          exact et_iret hx hb hr hlk rfl hS (0, y__4, v5_5, s__5, v10_5 + 1, g__6, g_49, g_2, im_L5) rfl ⟨(show y__4 ≤ L from (by first | assumption | omega | rfl | exact Or.inl (by assumption) | exact Or.inr (by assumption))), (show s__5 ≤ 20 from (by first | assumption | omega | rfl | exact Or.inl (by assumption) | exact Or.inr (by assumption))), (show sb_Fit g__6 from (by first | assumption | omega | rfl | exact Or.inl (by assumption) | exact Or.inr (by assumption))), (show (v10_5 + 1) ≤ 8 from (by first | assumption | omega | rfl | exact Or.inl (by assumption) | exact Or.inr (by assumption))), (show (0 : Int32) = 0 → 1 ≤ (v10_5 + 1) from (fun _ => by omega)), (show Sb im im_L5 from hl5_3), (show Lc κ im_L5 g_49 (v10_5 + 1) from hf_50)⟩ (subP hP [0, 1, 2, 3, 4, 5, 6] rfl) (subD hD [0, 1, 2, 3, 4, 5, 6] (by decide) rfl) (by show _ ≤ 16; omega) (by show _ ≤ 192; omega) dX4_splitLine_129
        · have nc_51 := cv_nle (a := L) (b := y__4) (by omega) (by omega) c_51
          refine lv_aload_n hx hb dX4_splitLine_111 rfl (lv_at hl 1 rfl) ?_
          refine va_get (D := D) (ci := 4) (v := .ref tp) (C := RX4) (T := TX4) (N := 14) hx hb hts inlX4 hown hK hP 0 rfl rfl 0 (by decide) (hts _ mw_81) (fun _ h9 => h9) rfl dX4_splitLine_112 ?_
          refine va_get (D := D) (ci := 8) (v := .ref tb) (C := RX8) (T := TX8) (N := 2) hx hb hts inlX8 hown hK hP 1 rfl rfl 0 (by decide) (hts _ mw_266) (fun _ h9 => h9) rfl dX4_splitLine_115 ?_
          refine lv_aload_n hx hb dX4_splitLine_118 rfl (lv_at hl 1 rfl) ?_
          refine va_get (D := D) (ci := 4) (v := .int (nI y__4)) (C := RX4) (T := TX4) (N := 14) hx hb hts inlX4 hown hK hP 0 rfl rfl 4 (by decide) (hts _ mw_71) (fun _ h9 => h9) rfl dX4_splitLine_119 ?_
          refine va_iald hx hb hK hP 2 0 rfl rfl (i := nI y__4) (vp_in_nI (n := y__4) (by omega) (by omega)) dX4_splitLine_122 ?_
          refine kv (v := .int (tf y__4)) (by rw [nI_clamp (by omega)]) ?_
          obtain ⟨x_52, ex_52⟩ : ∃ y9 : Int32, tf y__4 = y9 := ⟨_, rfl⟩
          refine kv (v := .int x_52) (congrArg Value.int ex_52) ?_
          refine lv_bipush (v := 10) hx hb dX4_splitLine_123 (by decide) ?_
          refine lv_icmp_ne (tgt := 130) hx hb dX4_splitLine_125 (by decide) (fun c_53 => ?_) (fun c_53 => ?_)
          · refine lv_aload_n hx hb dX4_splitLine_130 rfl (lv_at hl 1 rfl) ?_
            refine va_get (D := D) (ci := 4) (v := .int (nI (v10_5 + 1))) (C := RX4) (T := TX4) (N := 14) hx hb hts inlX4 hown hK hP 0 rfl rfl 10 (by decide) (hts _ mw_77) (fun _ h9 => h9) rfl dX4_splitLine_131 ?_
            refine lv_bipush (v := 8) hx hb dX4_splitLine_134 (by decide) ?_
            refine lv_icmp_ge (tgt := 149) hx hb dX4_splitLine_136 (by decide) (fun c_54 => ?_) (fun c_54 => ?_)
            · have nc_54 := cv_le (a := 8) (b := (v10_5 + 1)) (by omega) (by omega) c_54
              refine lv_goto (tgt := 5) hx hb dX4_splitLine_149 (by decide) ?_
              refine W.widen (k := 16 - 2 * (8 - (v10_5 + 1))) (n := 192 - 24 * (8 - (v10_5 + 1))) (by omega) (by omega) ?_
              exact ih5 (8 - (v10_5 + 1)) _ _ _ (by omega) ⟨y__4, v5_5, s__5, (v10_5 + 1), g__6, g_49, g_2, im_L5, (by omega), (by omega), (by omega), hl5_3, h_12, hf_50, rfl, hP, hD, hS, lv_sub hl [1] rfl⟩
            · have nc_54 := cv_nle (a := 8) (b := (v10_5 + 1)) (by omega) (by omega) c_54
              refine lv_aload_n hx hb dX4_splitLine_139 rfl (lv_at hl 1 rfl) ?_
              refine lv_dup hx hb dX4_splitLine_140 rfl ?_
              refine va_get (D := D) (ci := 4) (v := .int (nI y__4)) (C := RX4) (T := TX4) (N := 14) hx hb hts inlX4 hown hK hP 0 rfl rfl 4 (by decide) (hts _ mw_71) (fun _ h9 => h9) rfl dX4_splitLine_141 ?_
              refine lv_iconst (v := 1) hx hb dX4_splitLine_144 (by decide) ?_
              refine lv_iadd hx hb dX4_splitLine_145 ?_
              refine ki (v := (nI (y__4 + 1))) (nI_add y__4 1) ?_
              refine va_put (D := D) (ci := 4) (v := .int (nI (y__4 + 1))) (ty := tyX4 4) (C := RX4) (T := TX4) (N := 14) hx hb hts inlX4 tyX4 tyX4_ok nmX4 hown hK hP hD hS 0 rfl rfl 4 (by decide) (hts _ mw_71) (fun _ h9 => h9) rfl (tyX4_ok 4 (by decide)) rfl rfl (Nat.le_of_ble_eq_true rfl) dX4_splitLine_146 (fun H locs hP hD hS => ?_)
              have hP : va_P D vwCl ([(rd, .inr (4, [.ref tp, .ref d, .ref ft, .ref bl, .int (nI (y__4 + 1)), .int v5_5, .ref wk, .int (nI s__5), .ref fl, .ref sr, .int (nI (v10_5 + 1)), cv, .ref cl, .int (nI rw)])), (tp, .inr (8, [.ref tb, .int (nI L)])), (tb, .inl (κ 0, 800, .inl tf)), (d, .inl (κ 0, 6, .inl dl)), (wk, .inl (κ 1, 20, .inl g__6)), (fl, .inl (κ 2, 8, .inr (.inr (.inr (.inr g_49))))), (sr, .inl (κ 0, 8, .inl g_2))] ++ im_L5) H := hP
              have hD : va_D A ([(rd, .inr (4, [.ref tp, .ref d, .ref ft, .ref bl, .int (nI (y__4 + 1)), .int v5_5, .ref wk, .int (nI s__5), .ref fl, .ref sr, .int (nI (v10_5 + 1)), cv, .ref cl, .int (nI rw)])), (tp, .inr (8, [.ref tb, .int (nI L)])), (tb, .inl (κ 0, 800, .inl tf)), (d, .inl (κ 0, 6, .inl dl)), (wk, .inl (κ 1, 20, .inl g__6)), (fl, .inl (κ 2, 8, .inr (.inr (.inr (.inr g_49))))), (sr, .inl (κ 0, 8, .inl g_2))] ++ im_L5) := hD
              refine lv_goto (tgt := 5) hx hb dX4_splitLine_149 (by decide) ?_
              refine W.widen (k := 16 - 2 * (8 - (v10_5 + 1))) (n := 192 - 24 * (8 - (v10_5 + 1))) (by omega) (by omega) ?_
              exact ih5 (8 - (v10_5 + 1)) _ _ _ (by omega) ⟨(y__4 + 1), v5_5, s__5, (v10_5 + 1), g__6, g_49, g_2, im_L5, (by omega), (by omega), (by omega), hl5_3, h_12, hf_50, rfl, hP, hD, hS, lv_sub hl [1] rfl⟩
          · refine lv_iconst (v := 0) hx hb dX4_splitLine_128 (by decide) ?_
            exact et_iret hx hb hr hlk rfl hS (0, y__4, v5_5, s__5, v10_5 + 1, g__6, g_49, g_2, im_L5) rfl ⟨(show y__4 ≤ L from (by first | assumption | omega | rfl | exact Or.inl (by assumption) | exact Or.inr (by assumption))), (show s__5 ≤ 20 from (by first | assumption | omega | rfl | exact Or.inl (by assumption) | exact Or.inr (by assumption))), (show sb_Fit g__6 from (by first | assumption | omega | rfl | exact Or.inl (by assumption) | exact Or.inr (by assumption))), (show (v10_5 + 1) ≤ 8 from (by first | assumption | omega | rfl | exact Or.inl (by assumption) | exact Or.inr (by assumption))), (show (0 : Int32) = 0 → 1 ≤ (v10_5 + 1) from (fun _ => by omega)), (show Sb im im_L5 from hl5_3), (show Lc κ im_L5 g_49 (v10_5 + 1) from hf_50)⟩ (subP hP [0, 1, 2, 3, 4, 5, 6] rfl) (subD hD [0, 1, 2, 3, 4, 5, 6] (by decide) rfl) (by show _ ≤ 16; omega) (by show _ ≤ 192; omega) dX4_splitLine_129
    · refine lv_aload_n hx hb dX4_splitLine_36 rfl (lv_at hl 1 rfl) ?_
      refine lv_aload_n hx hb dX4_splitLine_37 rfl (lv_at hl 1 rfl) ?_
      refine va_get (D := D) (ci := 4) (v := .int (nI v10_5)) (C := RX4) (T := TX4) (N := 14) hx hb hts inlX4 hown hK hP 0 rfl rfl 10 (by decide) (hts _ mw_77) (fun _ h9 => h9) rfl dX4_splitLine_38 ?_
      refine va_put (D := D) (ci := 4) (v := .int (nI v10_5)) (ty := tyX4 5) (C := RX4) (T := TX4) (N := 14) hx hb hts inlX4 tyX4 tyX4_ok nmX4 hown hK hP hD hS 0 rfl rfl 5 (by decide) (hts _ mw_72) (fun _ h9 => h9) rfl (tyX4_ok 5 (by decide)) rfl rfl (Nat.le_of_ble_eq_true rfl) dX4_splitLine_41 (fun H locs hP hD hS => ?_)
      have hP : va_P D vwCl ([(rd, .inr (4, [.ref tp, .ref d, .ref ft, .ref bl, .int (nI y__4), .int (nI v10_5), .ref wk, .int (nI s__5), .ref fl, .ref sr, .int (nI v10_5), cv, .ref cl, .int (nI rw)])), (tp, .inr (8, [.ref tb, .int (nI L)])), (tb, .inl (κ 0, 800, .inl tf)), (d, .inl (κ 0, 6, .inl dl)), (wk, .inl (κ 1, 20, .inl g__6)), (fl, .inl (κ 2, 8, .inr (.inr (.inr (.inr gfl_5))))), (sr, .inl (κ 0, 8, .inl g_2))] ++ im_L5) H := hP
      have hD : va_D A ([(rd, .inr (4, [.ref tp, .ref d, .ref ft, .ref bl, .int (nI y__4), .int (nI v10_5), .ref wk, .int (nI s__5), .ref fl, .ref sr, .int (nI v10_5), cv, .ref cl, .int (nI rw)])), (tp, .inr (8, [.ref tb, .int (nI L)])), (tb, .inl (κ 0, 800, .inl tf)), (d, .inl (κ 0, 6, .inl dl)), (wk, .inl (κ 1, 20, .inl g__6)), (fl, .inl (κ 2, 8, .inr (.inr (.inr (.inr gfl_5))))), (sr, .inl (κ 0, 8, .inl g_2))] ++ im_L5) := hD
      refine lv_iload_n hx hb dX4_splitLine_44 rfl (lv_at hl 0 rfl) ?_
      exact et_iret hx hb hr hlk rfl hS (r__3, y__4, nI v10_5, s__5, v10_5, g__6, gfl_5, g_2, im_L5) rfl ⟨(show y__4 ≤ L from (by first | assumption | omega | rfl | exact Or.inl (by assumption) | exact Or.inr (by assumption))), (show s__5 ≤ 20 from (by first | assumption | omega | rfl | exact Or.inl (by assumption) | exact Or.inr (by assumption))), (show sb_Fit g__6 from (by first | assumption | omega | rfl | exact Or.inl (by assumption) | exact Or.inr (by assumption))), (show v10_5 ≤ 8 from (by first | assumption | omega | rfl | exact Or.inl (by assumption) | exact Or.inr (by assumption))), (show r__3 = 0 → 1 ≤ v10_5 from (fun h9 => absurd h9 c_13)), (show Sb im im_L5 from hl5_3), (show Lc κ im_L5 gfl_5 v10_5 from hq5_0)⟩ (subP hP [0, 1, 2, 3, 4, 5, 6] rfl) (subD hD [0, 1, 2, 3, 4, 5, 6] (by decide) rfl) (by show _ ≤ 16; omega) (by show _ ≤ 192; omega) dX4_splitLine_45
set_option maxHeartbeats 4000000 in
set_option maxRecDepth 100000 in
theorem c_X4_takeNames (l : Launch) (D : va_G) (κ : Nat → ClassId) (κq : Nat → Nat) (im : va_W) (rd : Nat) (tp : Nat) (d : Nat) (ft : Nat) (bl : Nat) (aq : Nat) (wk : Nat) (sz : Nat) (fl : Nat) (sr : Nat) (cnt : Nat) (cl : Nat) (rw : Nat) (ca : Int32) (cv : Value) (ff : Nat → Option Nat) (sf : Nat → Int32) (hlc : Lc κ im ff cnt) (hc8 : cnt ≤ 8) (hc1 : 1 ≤ cnt) : Et l yX4_takeNames (wl yX4_takeNames cX4_takeNames 4 (some .int)) { frames := 3, cells := 9, slots := 24, locals := 61 } D κ κq [.ref rd] ([(rd, .inr (4, [.ref tp, .ref d, .ref ft, .ref bl, .int (nI aq), .int ca, .ref wk, .int (nI sz), .ref fl, .ref sr, .int (nI cnt), cv, .ref cl, .int (nI rw)])), (fl, .inl (κ 2, 8, .inr (.inr (.inr (.inr ff))))), (sr, .inl (κ 0, 8, .inl sf))] ++ im) (fun u9 : Int32 × Int32 × Int32 × Value × va_W => some (.int u9.1)) (fun u9 : Int32 × Int32 × Int32 × Value × va_W => Sb im u9.2.2.2.2 ∧ (u9.1 = 0 → u9.2.1 = nI aq ∧ ∃ q : Nat, u9.2.2.2.1 = .ref q ∧ Ca κ u9.2.2.2.2 q cnt)) (fun u9 : Int32 × Int32 × Int32 × Value × va_W => ([(rd, .inr (4, [.ref tp, .ref d, .ref ft, .ref bl, .int u9.2.1, .int u9.2.2.1, .ref wk, .int (nI sz), .ref fl, .ref sr, .int (nI cnt), u9.2.2.2.1, .ref cl, .int (nI rw)])), (fl, .inl (κ 2, 8, .inr (.inr (.inr (.inr ff))))), (sr, .inl (κ 0, 8, .inl sf))] ++ u9.2.2.2.2)) := by
  refine et_of (by decide +kernel) (Nat.le_of_ble_eq_true rfl) ?_
  intro p e s m args below meth c A ls hx hb hr hml hts hown hlk hin hKK hK hA hP hD hS hE hl
  have hS : va_S A s.heap s.heap [] := hS
  have hP : va_P D vwCl ([(rd, .inr (4, [.ref tp, .ref d, .ref ft, .ref bl, .int (nI aq), .int ca, .ref wk, .int (nI sz), .ref fl, .ref sr, .int (nI cnt), cv, .ref cl, .int (nI rw)])), (fl, .inl (κ 2, 8, .inr (.inr (.inr (.inr ff))))), (sr, .inl (κ 0, 8, .inl sf))] ++ im) s.heap := hP
  have hD : va_D A ([(rd, .inr (4, [.ref tp, .ref d, .ref ft, .ref bl, .int (nI aq), .int ca, .ref wk, .int (nI sz), .ref fl, .ref sr, .int (nI cnt), cv, .ref cl, .int (nI rw)])), (fl, .inl (κ 2, 8, .inr (.inr (.inr (.inr ff))))), (sr, .inl (κ 0, 8, .inl sf))] ++ im) := hD
  have hFX : FX p s m args c cX4_takeNames 4 RX4 := ⟨hx, hb, hml, hown, hts⟩
  have hl : lv_has ls 4 [(0, .ref rd)] := hl
  refine lv_aload_n hx hb dX4_takeNames_0 rfl (lv_at hl 0 rfl) ?_
  refine va_get (D := D) (ci := 4) (v := .int (nI cnt)) (C := RX4) (T := TX4) (N := 14) hx hb hts inlX4 hown hK hP 0 rfl rfl 10 (by decide) (hts _ mw_77) (fun _ h9 => h9) rfl dX4_takeNames_1 ?_
  refine my_newq hx hb hown (hts _ mw_328) hKK.2.2.1 hK hP hD hS hA 3 rfl (N' := cnt) (nI_pos (by omega)) (nI_clamp (by omega)) (by omega) (Nat.le_of_ble_eq_true rfl) (by show _ ≤ 24; omega) dX4_takeNames_4 (fun q_1 H hP hD hS => ?_)
  refine W.widen (k := 1) (n := 8) (Nat.le_refl _) (by omega) ?_
  replace hP : va_P D vwCl ([(rd, .inr (4, [.ref tp, .ref d, .ref ft, .ref bl, .int (nI aq), .int ca, .ref wk, .int (nI sz), .ref fl, .ref sr, .int (nI cnt), cv, .ref cl, .int (nI rw)])), (fl, .inl (κ 2, 8, .inr (.inr (.inr (.inr ff))))), (sr, .inl (κ 0, 8, .inl sf)), (q_1, .inl (κ 3, cnt, .inr (.inr (.inr (.inr (fun _ => none))))))] ++ im) H := mvP hP
  replace hD : va_D A ([(rd, .inr (4, [.ref tp, .ref d, .ref ft, .ref bl, .int (nI aq), .int ca, .ref wk, .int (nI sz), .ref fl, .ref sr, .int (nI cnt), cv, .ref cl, .int (nI rw)])), (fl, .inl (κ 2, 8, .inr (.inr (.inr (.inr ff))))), (sr, .inl (κ 0, 8, .inl sf)), (q_1, .inl (κ 3, cnt, .inr (.inr (.inr (.inr (fun _ => none))))))] ++ im) := mvD hD
  refine lv_astore_n (lv' := [(1, .ref q_1), (0, .ref rd)]) hx hb dX4_takeNames_7 rfl hl (by decide) rfl (fun ls hl => ?_)
  refine lv_iconst (v := 0) hx hb dX4_takeNames_8 (by decide) ?_
  refine lv_istore_n (lv' := [(2, .int 0), (1, .ref q_1), (0, .ref rd)]) hx hb dX4_takeNames_9 rfl hl (by decide) rfl (fun ls hl => ?_)
  refine W.widen (k := 9 - 1 * (cnt - 0)) (n := 24 - 2 * (cnt - 0)) (by omega) (by omega) ?_
  refine loop_mk (8) 1 2 9 24 (fun k9 H locs ls => ∃ (k2_10 : Nat), ∃ (gq_1_10 : Nat → Option Nat), ∃ (im_L10 : va_W), (k2_10 ≤ cnt) ∧ (Sb im im_L10) ∧ Lo κ im_L10 gq_1_10 k2_10 ∧ cnt - k2_10 = k9 ∧ va_P D vwCl ([(rd, .inr (4, [.ref tp, .ref d, .ref ft, .ref bl, .int (nI aq), .int ca, .ref wk, .int (nI sz), .ref fl, .ref sr, .int (nI cnt), cv, .ref cl, .int (nI rw)])), (fl, .inl (κ 2, 8, .inr (.inr (.inr (.inr ff))))), (sr, .inl (κ 0, 8, .inl sf)), (q_1, .inl (κ 3, cnt, .inr (.inr (.inr (.inr gq_1_10)))))] ++ im_L10) H ∧ va_D A ([(rd, .inr (4, [.ref tp, .ref d, .ref ft, .ref bl, .int (nI aq), .int ca, .ref wk, .int (nI sz), .ref fl, .ref sr, .int (nI cnt), cv, .ref cl, .int (nI rw)])), (fl, .inl (κ 2, 8, .inr (.inr (.inr (.inr ff))))), (sr, .inl (κ 0, 8, .inl sf)), (q_1, .inl (κ 3, cnt, .inr (.inr (.inr (.inr gq_1_10)))))] ++ im_L10) ∧ va_S A s.heap H locs ∧ lv_has ls 4 [(2, .int (nI k2_10)), (1, .ref q_1), (0, .ref rd)]) (fun kz10 H locs ls hkz10 hI10 ih10 => ?_) (cnt - 0) _ _ _ (by omega) ⟨0, (fun _ => none), im, (by omega), Sb.rf, Lo_0, rfl, hP, hD, hS, lv_sub hl [0, 1, 2] rfl⟩
  obtain ⟨k2_10, gq_1_10, im_L10, hl10_0, hl10_1, hq10_0, hm10, hP, hD, hS, hl⟩ := hI10
  replace hlc := hlc.up hl10_1
  refine lv_iload_n hx hb dX4_takeNames_10 rfl (lv_at hl 0 rfl) ?_
  refine lv_aload_n hx hb dX4_takeNames_11 rfl (lv_at hl 2 rfl) ?_
  refine va_get (D := D) (ci := 4) (v := .int (nI cnt)) (C := RX4) (T := TX4) (N := 14) hx hb hts inlX4 hown hK hP 0 rfl rfl 10 (by decide) (hts _ mw_77) (fun _ h9 => h9) rfl dX4_takeNames_12 ?_
  refine lv_icmp_ge (tgt := 81) hx hb dX4_takeNames_15 (by decide) (fun c_2 => ?_) (fun c_2 => ?_)
  · have nc_2 := cv_le (a := cnt) (b := k2_10) (by omega) (by omega) c_2
    obtain rfl : cnt = k2_10 := by omega
    refine lv_aload_n hx hb dX4_takeNames_81 rfl (lv_at hl 2 rfl) ?_
    refine lv_aload_n hx hb dX4_takeNames_82 rfl (lv_at hl 1 rfl) ?_
    refine va_put (D := D) (ci := 4) (v := .ref q_1) (ty := tyX4 11) (C := RX4) (T := TX4) (N := 14) hx hb hts inlX4 tyX4 tyX4_ok nmX4 hown hK hP hD hS 0 rfl rfl 11 (by decide) (hts _ mw_78) (fun _ h9 => h9) rfl (tyX4_ok 11 (by decide)) rfl rfl (Nat.le_of_ble_eq_true rfl) dX4_takeNames_83 (fun H locs hP hD hS => ?_)
    have hP : va_P D vwCl ([(rd, .inr (4, [.ref tp, .ref d, .ref ft, .ref bl, .int (nI aq), .int ca, .ref wk, .int (nI sz), .ref fl, .ref sr, .int (nI cnt), .ref q_1, .ref cl, .int (nI rw)])), (fl, .inl (κ 2, 8, .inr (.inr (.inr (.inr ff))))), (sr, .inl (κ 0, 8, .inl sf)), (q_1, .inl (κ 3, cnt, .inr (.inr (.inr (.inr gq_1_10)))))] ++ im_L10) H := hP
    have hD : va_D A ([(rd, .inr (4, [.ref tp, .ref d, .ref ft, .ref bl, .int (nI aq), .int ca, .ref wk, .int (nI sz), .ref fl, .ref sr, .int (nI cnt), .ref q_1, .ref cl, .int (nI rw)])), (fl, .inl (κ 2, 8, .inr (.inr (.inr (.inr ff))))), (sr, .inl (κ 0, 8, .inl sf)), (q_1, .inl (κ 3, cnt, .inr (.inr (.inr (.inr gq_1_10)))))] ++ im_L10) := hD
    refine lv_iconst (v := 0) hx hb dX4_takeNames_86 (by decide) ?_
    replace hP : va_P D vwCl ([(rd, .inr (4, [.ref tp, .ref d, .ref ft, .ref bl, .int (nI aq), .int ca, .ref wk, .int (nI sz), .ref fl, .ref sr, .int (nI cnt), .ref q_1, .ref cl, .int (nI rw)])), (fl, .inl (κ 2, 8, .inr (.inr (.inr (.inr ff))))), (sr, .inl (κ 0, 8, .inl sf)), (q_1, .inl (κ 3, cnt, .inr (.inr (.inr (.inr gq_1_10)))))] ++ im_L10) _ := subP hP [0, 1, 2, 3] rfl
    replace hD : va_D A ([(rd, .inr (4, [.ref tp, .ref d, .ref ft, .ref bl, .int (nI aq), .int ca, .ref wk, .int (nI sz), .ref fl, .ref sr, .int (nI cnt), .ref q_1, .ref cl, .int (nI rw)])), (fl, .inl (κ 2, 8, .inr (.inr (.inr (.inr ff))))), (sr, .inl (κ 0, 8, .inl sf)), (q_1, .inl (κ 3, cnt, .inr (.inr (.inr (.inr gq_1_10)))))] ++ im_L10) := subD hD [0, 1, 2, 3] (by decide) rfl
    obtain ⟨im_3, he_4⟩ : ∃ x9 : va_W, x9 = ([(q_1, .inl (κ 3, cnt, .inr (.inr (.inr (.inr gq_1_10)))))] ++ im_L10) := ⟨_, rfl⟩
    have hs_5 : Sb im_L10 im_3 := by rw [he_4]; exact Sb.app
    have hm_q_1 : (q_1, .inl (κ 3, cnt, .inr (.inr (.inr (.inr gq_1_10))))) ∈ im_3 := by rw [he_4]; exact List.mem_of_getElem? (i := 0) rfl
    replace hP : va_P D vwCl ([(rd, .inr (4, [.ref tp, .ref d, .ref ft, .ref bl, .int (nI aq), .int ca, .ref wk, .int (nI sz), .ref fl, .ref sr, .int (nI cnt), .ref q_1, .ref cl, .int (nI rw)])), (fl, .inl (κ 2, 8, .inr (.inr (.inr (.inr ff))))), (sr, .inl (κ 0, 8, .inl sf))] ++ ([(q_1, .inl (κ 3, cnt, .inr (.inr (.inr (.inr gq_1_10)))))] ++ im_L10)) _ := hP
    replace hD : va_D A ([(rd, .inr (4, [.ref tp, .ref d, .ref ft, .ref bl, .int (nI aq), .int ca, .ref wk, .int (nI sz), .ref fl, .ref sr, .int (nI cnt), .ref q_1, .ref cl, .int (nI rw)])), (fl, .inl (κ 2, 8, .inr (.inr (.inr (.inr ff))))), (sr, .inl (κ 0, 8, .inl sf))] ++ ([(q_1, .inl (κ 3, cnt, .inr (.inr (.inr (.inr gq_1_10)))))] ++ im_L10)) := hD
    rw [← he_4] at hP hD
    clear he_4
    replace hlc := hlc.up hs_5
    replace hq10_0 := hq10_0.up hs_5
    have hf_6 : Ca κ im_3 q_1 cnt := ⟨_, hm_q_1, hq10_0⟩
    exact et_iret hx hb hr hlk rfl hS (0, nI aq, ca, (Value.ref q_1), im_3) rfl ⟨(show Sb im im_3 from (Sb.tr hl10_1 hs_5)), (show (0 : Int32) = 0 → (nI aq) = nI aq ∧ ∃ q : Nat, (Value.ref q_1) = .ref q ∧ Ca κ im_3 q cnt from (fun _ => ⟨rfl, q_1, rfl, hf_6⟩))⟩ (subP hP [0, 1, 2] rfl) (subD hD [0, 1, 2] (by decide) rfl) (by show _ ≤ 9; omega) (by show _ ≤ 24; omega) dX4_takeNames_87
  · have nc_2 := cv_nle (a := cnt) (b := k2_10) (by omega) (by omega) c_2
    refine lv_aload_n hx hb dX4_takeNames_18 rfl (lv_at hl 2 rfl) ?_
    refine va_get (D := D) (ci := 4) (v := .ref fl) (C := RX4) (T := TX4) (N := 14) hx hb hts inlX4 hown hK hP 0 rfl rfl 8 (by decide) (hts _ mw_75) (fun _ h9 => h9) rfl dX4_takeNames_19 ?_
    refine lv_iload_n hx hb dX4_takeNames_22 rfl (lv_at hl 0 rfl) ?_
    refine va_aldq hx hb hK hP 1 2 rfl rfl (i := nI k2_10) (vp_in_nI (n := k2_10) (by omega) (by omega)) dX4_takeNames_23 ?_
    obtain ⟨q_7, e_8, k_9, m_10, h_11⟩ := hlc k2_10 (by omega)
    refine kv (v := .ref q_7) (by rw [nI_clamp (by omega)]; rw [e_8]; rfl) ?_
    obtain ⟨hk_12, b_13, x_14, hm_15, hb_16⟩ := id h_11
    have hn_b_13 := hb_16.1
    refine va_get (D := D) (ci := 0) (v := .ref b_13) (C := RX0) (T := TX0) (N := 3) hx hb hts inlX0 hown hK (oneP (C := [(rd, .inr (4, [.ref tp, .ref d, .ref ft, .ref bl, .int (nI aq), .int ca, .ref wk, .int (nI sz), .ref fl, .ref sr, .int (nI cnt), cv, .ref cl, .int (nI rw)])), (fl, .inl (κ 2, 8, .inr (.inr (.inr (.inr ff))))), (sr, .inl (κ 0, 8, .inl sf)), (q_1, .inl (κ 3, cnt, .inr (.inr (.inr (.inr gq_1_10)))))]) hP hm_15) 0 rfl rfl 0 (by decide) (hts _ mw_329) (fun _ h9 => h9) rfl dX4_takeNames_24 ?_
    obtain ⟨hn_18, f_17, hm_19, hfit_20⟩ := id hb_16
    refine lv_astore_n (lv' := [(3, .ref b_13), (2, .int (nI k2_10)), (1, .ref q_1), (0, .ref rd)]) hx hb dX4_takeNames_27 rfl hl (by decide) rfl (fun ls hl => ?_)
    refine lv_aload_n hx hb dX4_takeNames_28 rfl (lv_at hl 0 rfl) ?_
    refine er_S (As := [.ref b_13]) (rest := []) hFX hKK hE hS (c_X1_canBeName l D κ κq b_13 m_10 f_17 (by omega)) 1 gS_X4_130 hdS_X1_canBeName rfl rfl ⟨Nat.le_of_ble_eq_true rfl, Nat.le_of_ble_eq_true rfl⟩ rfl rfl (Nat.le_of_ble_eq_true rfl) dX4_takeNames_29 ⟨(by show _ ≤ 9; omega), (by show _ ≤ 24; omega)⟩ hl.1 (oneP (C := [(rd, .inr (4, [.ref tp, .ref d, .ref ft, .ref bl, .int (nI aq), .int ca, .ref wk, .int (nI sz), .ref fl, .ref sr, .int (nI cnt), cv, .ref cl, .int (nI rw)])), (fl, .inl (κ 2, 8, .inr (.inr (.inr (.inr ff))))), (sr, .inl (κ 0, 8, .inl sf)), (q_1, .inl (κ 3, cnt, .inr (.inr (.inr (.inr gq_1_10)))))]) hP hm_19) (fun r__21 hp_22 => ?_)
    replace hp_22 : ((r__21 = 1 ∧ m_10 ≤ 12 ∧ 1 ≤ m_10) ∨ (r__21 = 0)) := hp_22
    have ha_23 := hp_22
    clear hp_22
    rcases ha_23 with ⟨rfl, a_24, a_25⟩ | rfl
    · refine W.eq (g2 := F0 m 32 ls [.int 1]) rfl ?_
      refine lv_if_eq (tgt := 45) hx hb dX4_takeNames_32 (by decide) (fun c_26 => absurd c_26 (by decide)) (fun c_26 => ?_)
      refine lv_aload_n hx hb dX4_takeNames_35 rfl (lv_at hl 2 rfl) ?_
      refine lv_iload_n hx hb dX4_takeNames_36 rfl (lv_at hl 1 rfl) ?_
      refine lv_aload_n hx hb dX4_takeNames_37 rfl (lv_at hl 0 rfl) ?_
      refine er_S (As := [.ref q_1, .int (nI k2_10), .ref b_13]) (rest := []) hFX hKK hE hS (c_X1_indexOf l D κ κq im_L10 q_1 k2_10 b_13 m_10 cnt gq_1_10 hb_16 hq10_0 (by omega) (by omega)) 3 gS_X4_134 hdS_X1_indexOf rfl rfl ⟨Nat.le_of_ble_eq_true rfl, Nat.le_of_ble_eq_true rfl⟩ rfl rfl (Nat.le_of_ble_eq_true rfl) dX4_takeNames_38 ⟨(by show _ ≤ 9; omega), (by show _ ≤ 24; omega)⟩ hl.1 (subP hP [3] rfl) (fun r__27 hp_28 => ?_)
      replace hp_28 : (r__27 = -1 ∨ ∃ j : Nat, j < k2_10 ∧ r__27 = nI j) := hp_28
      have h_29 := hp_28
      clear hp_28
      refine W.eq (g2 := F0 m 41 ls [.int r__27]) rfl ?_
      refine lv_iconst (v := (-1)) hx hb dX4_takeNames_41 (by decide) ?_
      refine lv_icmp_eq (tgt := 63) hx hb dX4_takeNames_42 (by decide) (fun c_30 => ?_) (fun c_30 => ?_)
      · refine lv_aload_n hx hb dX4_takeNames_63 rfl (lv_at hl 2 rfl) ?_
        refine lv_iload_n hx hb dX4_takeNames_64 rfl (lv_at hl 1 rfl) ?_
        refine va_new (ci := 1) (fs := [.null, .int 0]) (C := RX1) (T := TX1) (N := 2) hx hb hts inlX1 tyX1 tyX1_ok hown (hts _ mw_328) (hts _ mw_330) (hts _ mw_331) hK hP hD hS hA rfl (fun j hj => by rcases (show j = 0 ∨ j = 1 by omega) with rfl | rfl <;> rfl) (by show _ ≤ 9; omega) (by show _ ≤ 24; omega) dX4_takeNames_65 (fun q_31 H hP hD hS => ?_)
        replace hP : va_P D vwCl ([(rd, .inr (4, [.ref tp, .ref d, .ref ft, .ref bl, .int (nI aq), .int ca, .ref wk, .int (nI sz), .ref fl, .ref sr, .int (nI cnt), cv, .ref cl, .int (nI rw)])), (fl, .inl (κ 2, 8, .inr (.inr (.inr (.inr ff))))), (sr, .inl (κ 0, 8, .inl sf)), (q_1, .inl (κ 3, cnt, .inr (.inr (.inr (.inr gq_1_10))))), (q_31, .inr (1, [.null, .int 0]))] ++ im_L10) H := mvP hP
        replace hD : va_D A ([(rd, .inr (4, [.ref tp, .ref d, .ref ft, .ref bl, .int (nI aq), .int ca, .ref wk, .int (nI sz), .ref fl, .ref sr, .int (nI cnt), cv, .ref cl, .int (nI rw)])), (fl, .inl (κ 2, 8, .inr (.inr (.inr (.inr ff))))), (sr, .inl (κ 0, 8, .inl sf)), (q_1, .inl (κ 3, cnt, .inr (.inr (.inr (.inr gq_1_10))))), (q_31, .inr (1, [.null, .int 0]))] ++ im_L10) := mvD hD
        refine lv_dup hx hb dX4_takeNames_68 rfl ?_
        refine lv_aload_n hx hb dX4_takeNames_69 rfl (lv_at hl 0 rfl) ?_
        refine lv_iconst (v := (-1)) hx hb dX4_takeNames_70 (by decide) ?_
        refine et_IT (CR := [(rd, .inr (4, [.ref tp, .ref d, .ref ft, .ref bl, .int (nI aq), .int ca, .ref wk, .int (nI sz), .ref fl, .ref sr, .int (nI cnt), cv, .ref cl, .int (nI rw)])), (fl, .inl (κ 2, 8, .inr (.inr (.inr (.inr ff))))), (sr, .inl (κ 0, 8, .inl sf)), (q_1, .inl (κ 3, cnt, .inr (.inr (.inr (.inr gq_1_10)))))]) (As := [.ref b_13, .int (-1)]) (rest := [.ref q_31, .int (nI k2_10), .ref q_1]) hFX hKK hE hP hD hS hA (c_X1_init l D κ κq im_L10 q_31 b_13 m_10 (-1) hb_16 (by first | assumption | exact To_m | exact To_n (by omega))) 2 mw_347 mw_348 mw_331 mw_349 hdI_X1_init ⟨Nat.le_of_ble_eq_true rfl, Nat.le_of_ble_eq_true rfl⟩ rfl rfl (Nat.le_of_ble_eq_true rfl) dX4_takeNames_71 ⟨(by show 9 - 1 * kz10 + 1 + 0 ≤ 9; omega), (by show 24 - 2 * kz10 + 2 + 0 ≤ 24; omega)⟩ hl.1 [4] [0, 1, 2, 3] rfl rfl (by decide) (by decide) (by decide) (fun im2__32 H locs hp_33 hP hD hS => ?_)
        refine W.widen (k := 9 - 1 * kz10 + 1) (n := 24 - 2 * kz10 + 2) (Nat.le_refl _) (Nat.le_refl _) ?_
        replace hP : va_P D vwCl ([(rd, .inr (4, [.ref tp, .ref d, .ref ft, .ref bl, .int (nI aq), .int ca, .ref wk, .int (nI sz), .ref fl, .ref sr, .int (nI cnt), cv, .ref cl, .int (nI rw)])), (fl, .inl (κ 2, 8, .inr (.inr (.inr (.inr ff))))), (sr, .inl (κ 0, 8, .inl sf)), (q_1, .inl (κ 3, cnt, .inr (.inr (.inr (.inr gq_1_10)))))] ++ im2__32) H := subP (C := [(rd, .inr (4, [.ref tp, .ref d, .ref ft, .ref bl, .int (nI aq), .int ca, .ref wk, .int (nI sz), .ref fl, .ref sr, .int (nI cnt), cv, .ref cl, .int (nI rw)])), (fl, .inl (κ 2, 8, .inr (.inr (.inr (.inr ff))))), (sr, .inl (κ 0, 8, .inl sf)), (q_1, .inl (κ 3, cnt, .inr (.inr (.inr (.inr gq_1_10)))))]) hP [0, 1, 2, 3] rfl
        replace hD : va_D A ([(rd, .inr (4, [.ref tp, .ref d, .ref ft, .ref bl, .int (nI aq), .int ca, .ref wk, .int (nI sz), .ref fl, .ref sr, .int (nI cnt), cv, .ref cl, .int (nI rw)])), (fl, .inl (κ 2, 8, .inr (.inr (.inr (.inr ff))))), (sr, .inl (κ 0, 8, .inl sf)), (q_1, .inl (κ 3, cnt, .inr (.inr (.inr (.inr gq_1_10)))))] ++ im2__32) := subD (C := [(rd, .inr (4, [.ref tp, .ref d, .ref ft, .ref bl, .int (nI aq), .int ca, .ref wk, .int (nI sz), .ref fl, .ref sr, .int (nI cnt), cv, .ref cl, .int (nI rw)])), (fl, .inl (κ 2, 8, .inr (.inr (.inr (.inr ff))))), (sr, .inl (κ 0, 8, .inl sf)), (q_1, .inl (κ 3, cnt, .inr (.inr (.inr (.inr gq_1_10)))))]) hD [0, 1, 2, 3] (by decide) rfl
        replace hp_33 : Sb im_L10 im2__32 ∧ Co κ im2__32 q_31 m_10 (-1 : Int32) := hp_33
        obtain ⟨h_34, h_35⟩ := hp_33
        replace hlc := hlc.up h_34
        replace hq10_0 := hq10_0.up h_34
        replace h_11 := h_11.up h_34
        replace hb_16 := hb_16.up h_34
        replace hm_15 := h_34 _ hm_15
        replace hm_19 := h_34 _ hm_19
        refine W.eq (g2 := F0 m 74 ls [.ref q_31, .int (nI k2_10), .ref q_1]) rfl ?_
        obtain ⟨ht_36, b_37, hm_38, hb_39⟩ := id h_35
        have hn_b_37 := hb_39.1
        obtain ⟨k_40, ek_40⟩ := tl_at [(rd, .inr (4, [.ref tp, .ref d, .ref ft, .ref bl, .int (nI aq), .int ca, .ref wk, .int (nI sz), .ref fl, .ref sr, .int (nI cnt), cv, .ref cl, .int (nI rw)])), (fl, .inl (κ 2, 8, .inr (.inr (.inr (.inr ff))))), (sr, .inl (κ 0, 8, .inl sf)), (q_1, .inl (κ 3, cnt, .inr (.inr (.inr (.inr gq_1_10)))))] hm_38
        refine va_astq hx hb hK hP hD hS 3 3 k_40 1 rfl rfl ek_40 rfl (i := nI k2_10) (vp_in_nI (n := k2_10) (by omega) (by omega)) dX4_takeNames_74 (fun H locs hP hD hS => ?_)
        rw [nI_clamp (by omega)] at hP hD
        have hP : va_P D vwCl ([(rd, .inr (4, [.ref tp, .ref d, .ref ft, .ref bl, .int (nI aq), .int ca, .ref wk, .int (nI sz), .ref fl, .ref sr, .int (nI cnt), cv, .ref cl, .int (nI rw)])), (fl, .inl (κ 2, 8, .inr (.inr (.inr (.inr ff))))), (sr, .inl (κ 0, 8, .inl sf)), (q_1, .inl (κ 3, cnt, .inr (.inr (.inr (.inr (va_up gq_1_10 k2_10 (some q_31)))))))] ++ im2__32) H := hP
        have hD : va_D A ([(rd, .inr (4, [.ref tp, .ref d, .ref ft, .ref bl, .int (nI aq), .int ca, .ref wk, .int (nI sz), .ref fl, .ref sr, .int (nI cnt), cv, .ref cl, .int (nI rw)])), (fl, .inl (κ 2, 8, .inr (.inr (.inr (.inr ff))))), (sr, .inl (κ 0, 8, .inl sf)), (q_1, .inl (κ 3, cnt, .inr (.inr (.inr (.inr (va_up gq_1_10 k2_10 (some q_31)))))))] ++ im2__32) := hD
        have hf_42 : Lo κ im2__32 (va_up gq_1_10 k2_10 (some q_31)) (k2_10 + 1) := Lo_add hq10_0 h_35
        generalize va_up gq_1_10 k2_10 (some q_31) = g_41 at hP hD hf_42
        refine lv_iinc (v := (nI (k2_10 + 1))) (lv' := [(2, .int (nI (k2_10 + 1))), (3, .ref b_13), (1, .ref q_1), (0, .ref rd)]) hx hb dX4_takeNames_75 hl (k := 1) rfl (nI_i k2_10) (by decide) rfl (fun ls hl => ?_)
        refine lv_goto (tgt := 10) hx hb dX4_takeNames_78 (by decide) ?_
        refine W.widen (k := 9 - 1 * (cnt - (k2_10 + 1))) (n := 24 - 2 * (cnt - (k2_10 + 1))) (by omega) (by omega) ?_
        exact ih10 (cnt - (k2_10 + 1)) _ _ _ (by omega) ⟨(k2_10 + 1), g_41, im2__32, (by omega), (Sb.tr hl10_1 h_34), hf_42, rfl, hP, hD, hS, lv_sub hl [0, 2, 3] rfl⟩
      · refine lv_aload_n hx hb dX4_takeNames_45 rfl (lv_at hl 3 rfl) ?_
        refine lv_aload_n hx hb dX4_takeNames_46 rfl (lv_at hl 3 rfl) ?_
        refine va_get (D := D) (ci := 4) (v := .ref sr) (C := RX4) (T := TX4) (N := 14) hx hb hts inlX4 hown hK hP 0 rfl rfl 9 (by decide) (hts _ mw_76) (fun _ h9 => h9) rfl dX4_takeNames_47 ?_
        refine lv_iload_n hx hb dX4_takeNames_50 rfl (lv_at hl 1 rfl) ?_
        refine va_iald hx hb hK hP 2 0 rfl rfl (i := nI k2_10) (vp_in_nI (n := k2_10) (by omega) (by omega)) dX4_takeNames_51 ?_
        refine kv (v := .int (sf k2_10)) (by rw [nI_clamp (by omega)]) ?_
        obtain ⟨x_43, ex_43⟩ : ∃ y9 : Int32, sf k2_10 = y9 := ⟨_, rfl⟩
        refine kv (v := .int x_43) (congrArg Value.int ex_43) ?_
        refine va_put (D := D) (ci := 4) (v := .int x_43) (ty := tyX4 4) (C := RX4) (T := TX4) (N := 14) hx hb hts inlX4 tyX4 tyX4_ok nmX4 hown hK hP hD hS 0 rfl rfl 4 (by decide) (hts _ mw_71) (fun _ h9 => h9) rfl (tyX4_ok 4 (by decide)) rfl rfl (Nat.le_of_ble_eq_true rfl) dX4_takeNames_52 (fun H locs hP hD hS => ?_)
        have hP : va_P D vwCl ([(rd, .inr (4, [.ref tp, .ref d, .ref ft, .ref bl, .int x_43, .int ca, .ref wk, .int (nI sz), .ref fl, .ref sr, .int (nI cnt), cv, .ref cl, .int (nI rw)])), (fl, .inl (κ 2, 8, .inr (.inr (.inr (.inr ff))))), (sr, .inl (κ 0, 8, .inl sf)), (q_1, .inl (κ 3, cnt, .inr (.inr (.inr (.inr gq_1_10)))))] ++ im_L10) H := hP
        have hD : va_D A ([(rd, .inr (4, [.ref tp, .ref d, .ref ft, .ref bl, .int x_43, .int ca, .ref wk, .int (nI sz), .ref fl, .ref sr, .int (nI cnt), cv, .ref cl, .int (nI rw)])), (fl, .inl (κ 2, 8, .inr (.inr (.inr (.inr ff))))), (sr, .inl (κ 0, 8, .inl sf)), (q_1, .inl (κ 3, cnt, .inr (.inr (.inr (.inr gq_1_10)))))] ++ im_L10) := hD
        refine lv_aload_n hx hb dX4_takeNames_55 rfl (lv_at hl 3 rfl) ?_
        refine lv_iload_n hx hb dX4_takeNames_56 rfl (lv_at hl 1 rfl) ?_
        refine va_put (D := D) (ci := 4) (v := .int (nI k2_10)) (ty := tyX4 5) (C := RX4) (T := TX4) (N := 14) hx hb hts inlX4 tyX4 tyX4_ok nmX4 hown hK hP hD hS 0 rfl rfl 5 (by decide) (hts _ mw_72) (fun _ h9 => h9) rfl (tyX4_ok 5 (by decide)) rfl rfl (Nat.le_of_ble_eq_true rfl) dX4_takeNames_57 (fun H locs hP hD hS => ?_)
        have hP : va_P D vwCl ([(rd, .inr (4, [.ref tp, .ref d, .ref ft, .ref bl, .int x_43, .int (nI k2_10), .ref wk, .int (nI sz), .ref fl, .ref sr, .int (nI cnt), cv, .ref cl, .int (nI rw)])), (fl, .inl (κ 2, 8, .inr (.inr (.inr (.inr ff))))), (sr, .inl (κ 0, 8, .inl sf)), (q_1, .inl (κ 3, cnt, .inr (.inr (.inr (.inr gq_1_10)))))] ++ im_L10) H := hP
        have hD : va_D A ([(rd, .inr (4, [.ref tp, .ref d, .ref ft, .ref bl, .int x_43, .int (nI k2_10), .ref wk, .int (nI sz), .ref fl, .ref sr, .int (nI cnt), cv, .ref cl, .int (nI rw)])), (fl, .inl (κ 2, 8, .inr (.inr (.inr (.inr ff))))), (sr, .inl (κ 0, 8, .inl sf)), (q_1, .inl (κ 3, cnt, .inr (.inr (.inr (.inr gq_1_10)))))] ++ im_L10) := hD
        refine lv_bipush (v := 7) hx hb dX4_takeNames_60 (by decide) ?_
        replace hP : va_P D vwCl ([(rd, .inr (4, [.ref tp, .ref d, .ref ft, .ref bl, .int x_43, .int (nI k2_10), .ref wk, .int (nI sz), .ref fl, .ref sr, .int (nI cnt), cv, .ref cl, .int (nI rw)])), (fl, .inl (κ 2, 8, .inr (.inr (.inr (.inr ff))))), (sr, .inl (κ 0, 8, .inl sf)), (q_1, .inl (κ 3, cnt, .inr (.inr (.inr (.inr gq_1_10)))))] ++ im_L10) _ := subP hP [0, 1, 2, 3] rfl
        replace hD : va_D A ([(rd, .inr (4, [.ref tp, .ref d, .ref ft, .ref bl, .int x_43, .int (nI k2_10), .ref wk, .int (nI sz), .ref fl, .ref sr, .int (nI cnt), cv, .ref cl, .int (nI rw)])), (fl, .inl (κ 2, 8, .inr (.inr (.inr (.inr ff))))), (sr, .inl (κ 0, 8, .inl sf)), (q_1, .inl (κ 3, cnt, .inr (.inr (.inr (.inr gq_1_10)))))] ++ im_L10) := subD hD [0, 1, 2, 3] (by decide) rfl
        obtain ⟨im_44, he_45⟩ : ∃ x9 : va_W, x9 = ([(q_1, .inl (κ 3, cnt, .inr (.inr (.inr (.inr gq_1_10)))))] ++ im_L10) := ⟨_, rfl⟩
        have hs_46 : Sb im_L10 im_44 := by rw [he_45]; exact Sb.app
        have hm_q_1 : (q_1, .inl (κ 3, cnt, .inr (.inr (.inr (.inr gq_1_10))))) ∈ im_44 := by rw [he_45]; exact List.mem_of_getElem? (i := 0) rfl
        replace hP : va_P D vwCl ([(rd, .inr (4, [.ref tp, .ref d, .ref ft, .ref bl, .int x_43, .int (nI k2_10), .ref wk, .int (nI sz), .ref fl, .ref sr, .int (nI cnt), cv, .ref cl, .int (nI rw)])), (fl, .inl (κ 2, 8, .inr (.inr (.inr (.inr ff))))), (sr, .inl (κ 0, 8, .inl sf))] ++ ([(q_1, .inl (κ 3, cnt, .inr (.inr (.inr (.inr gq_1_10)))))] ++ im_L10)) _ := hP
        replace hD : va_D A ([(rd, .inr (4, [.ref tp, .ref d, .ref ft, .ref bl, .int x_43, .int (nI k2_10), .ref wk, .int (nI sz), .ref fl, .ref sr, .int (nI cnt), cv, .ref cl, .int (nI rw)])), (fl, .inl (κ 2, 8, .inr (.inr (.inr (.inr ff))))), (sr, .inl (κ 0, 8, .inl sf))] ++ ([(q_1, .inl (κ 3, cnt, .inr (.inr (.inr (.inr gq_1_10)))))] ++ im_L10)) := hD
        rw [← he_45] at hP hD
        clear he_45
        replace hlc := hlc.up hs_46
        replace hq10_0 := hq10_0.up hs_46
        replace h_11 := h_11.up hs_46
        replace hb_16 := hb_16.up hs_46
        replace hm_15 := hs_46 _ hm_15
        replace hm_19 := hs_46 _ hm_19
        exact et_iret hx hb hr hlk rfl hS (7, x_43, nI k2_10, cv, im_44) rfl ⟨(show Sb im im_44 from (Sb.tr hl10_1 hs_46)), (show (7 : Int32) = 0 → x_43 = nI aq ∧ ∃ q : Nat, cv = .ref q ∧ Ca κ im_44 q cnt from (fun h9 => absurd h9 (by decide)))⟩ (subP hP [0, 1, 2] rfl) (subD hD [0, 1, 2] (by decide) rfl) (by show _ ≤ 9; omega) (by show _ ≤ 24; omega) dX4_takeNames_62
    · refine W.eq (g2 := F0 m 32 ls [.int 0]) rfl ?_
      refine lv_if_eq (tgt := 45) hx hb dX4_takeNames_32 (by decide) (fun c_47 => ?_) (fun c_47 => absurd (by decide) c_47)
      refine lv_aload_n hx hb dX4_takeNames_45 rfl (lv_at hl 3 rfl) ?_
      refine lv_aload_n hx hb dX4_takeNames_46 rfl (lv_at hl 3 rfl) ?_
      refine va_get (D := D) (ci := 4) (v := .ref sr) (C := RX4) (T := TX4) (N := 14) hx hb hts inlX4 hown hK hP 0 rfl rfl 9 (by decide) (hts _ mw_76) (fun _ h9 => h9) rfl dX4_takeNames_47 ?_
      refine lv_iload_n hx hb dX4_takeNames_50 rfl (lv_at hl 1 rfl) ?_
      refine va_iald hx hb hK hP 2 0 rfl rfl (i := nI k2_10) (vp_in_nI (n := k2_10) (by omega) (by omega)) dX4_takeNames_51 ?_
      refine kv (v := .int (sf k2_10)) (by rw [nI_clamp (by omega)]) ?_
      obtain ⟨x_48, ex_48⟩ : ∃ y9 : Int32, sf k2_10 = y9 := ⟨_, rfl⟩
      refine kv (v := .int x_48) (congrArg Value.int ex_48) ?_
      refine va_put (D := D) (ci := 4) (v := .int x_48) (ty := tyX4 4) (C := RX4) (T := TX4) (N := 14) hx hb hts inlX4 tyX4 tyX4_ok nmX4 hown hK hP hD hS 0 rfl rfl 4 (by decide) (hts _ mw_71) (fun _ h9 => h9) rfl (tyX4_ok 4 (by decide)) rfl rfl (Nat.le_of_ble_eq_true rfl) dX4_takeNames_52 (fun H locs hP hD hS => ?_)
      have hP : va_P D vwCl ([(rd, .inr (4, [.ref tp, .ref d, .ref ft, .ref bl, .int x_48, .int ca, .ref wk, .int (nI sz), .ref fl, .ref sr, .int (nI cnt), cv, .ref cl, .int (nI rw)])), (fl, .inl (κ 2, 8, .inr (.inr (.inr (.inr ff))))), (sr, .inl (κ 0, 8, .inl sf)), (q_1, .inl (κ 3, cnt, .inr (.inr (.inr (.inr gq_1_10)))))] ++ im_L10) H := hP
      have hD : va_D A ([(rd, .inr (4, [.ref tp, .ref d, .ref ft, .ref bl, .int x_48, .int ca, .ref wk, .int (nI sz), .ref fl, .ref sr, .int (nI cnt), cv, .ref cl, .int (nI rw)])), (fl, .inl (κ 2, 8, .inr (.inr (.inr (.inr ff))))), (sr, .inl (κ 0, 8, .inl sf)), (q_1, .inl (κ 3, cnt, .inr (.inr (.inr (.inr gq_1_10)))))] ++ im_L10) := hD
      refine lv_aload_n hx hb dX4_takeNames_55 rfl (lv_at hl 3 rfl) ?_
      refine lv_iload_n hx hb dX4_takeNames_56 rfl (lv_at hl 1 rfl) ?_
      refine va_put (D := D) (ci := 4) (v := .int (nI k2_10)) (ty := tyX4 5) (C := RX4) (T := TX4) (N := 14) hx hb hts inlX4 tyX4 tyX4_ok nmX4 hown hK hP hD hS 0 rfl rfl 5 (by decide) (hts _ mw_72) (fun _ h9 => h9) rfl (tyX4_ok 5 (by decide)) rfl rfl (Nat.le_of_ble_eq_true rfl) dX4_takeNames_57 (fun H locs hP hD hS => ?_)
      have hP : va_P D vwCl ([(rd, .inr (4, [.ref tp, .ref d, .ref ft, .ref bl, .int x_48, .int (nI k2_10), .ref wk, .int (nI sz), .ref fl, .ref sr, .int (nI cnt), cv, .ref cl, .int (nI rw)])), (fl, .inl (κ 2, 8, .inr (.inr (.inr (.inr ff))))), (sr, .inl (κ 0, 8, .inl sf)), (q_1, .inl (κ 3, cnt, .inr (.inr (.inr (.inr gq_1_10)))))] ++ im_L10) H := hP
      have hD : va_D A ([(rd, .inr (4, [.ref tp, .ref d, .ref ft, .ref bl, .int x_48, .int (nI k2_10), .ref wk, .int (nI sz), .ref fl, .ref sr, .int (nI cnt), cv, .ref cl, .int (nI rw)])), (fl, .inl (κ 2, 8, .inr (.inr (.inr (.inr ff))))), (sr, .inl (κ 0, 8, .inl sf)), (q_1, .inl (κ 3, cnt, .inr (.inr (.inr (.inr gq_1_10)))))] ++ im_L10) := hD
      refine lv_bipush (v := 7) hx hb dX4_takeNames_60 (by decide) ?_
      replace hP : va_P D vwCl ([(rd, .inr (4, [.ref tp, .ref d, .ref ft, .ref bl, .int x_48, .int (nI k2_10), .ref wk, .int (nI sz), .ref fl, .ref sr, .int (nI cnt), cv, .ref cl, .int (nI rw)])), (fl, .inl (κ 2, 8, .inr (.inr (.inr (.inr ff))))), (sr, .inl (κ 0, 8, .inl sf)), (q_1, .inl (κ 3, cnt, .inr (.inr (.inr (.inr gq_1_10)))))] ++ im_L10) _ := subP hP [0, 1, 2, 3] rfl
      replace hD : va_D A ([(rd, .inr (4, [.ref tp, .ref d, .ref ft, .ref bl, .int x_48, .int (nI k2_10), .ref wk, .int (nI sz), .ref fl, .ref sr, .int (nI cnt), cv, .ref cl, .int (nI rw)])), (fl, .inl (κ 2, 8, .inr (.inr (.inr (.inr ff))))), (sr, .inl (κ 0, 8, .inl sf)), (q_1, .inl (κ 3, cnt, .inr (.inr (.inr (.inr gq_1_10)))))] ++ im_L10) := subD hD [0, 1, 2, 3] (by decide) rfl
      obtain ⟨im_49, he_50⟩ : ∃ x9 : va_W, x9 = ([(q_1, .inl (κ 3, cnt, .inr (.inr (.inr (.inr gq_1_10)))))] ++ im_L10) := ⟨_, rfl⟩
      have hs_51 : Sb im_L10 im_49 := by rw [he_50]; exact Sb.app
      have hm_q_1 : (q_1, .inl (κ 3, cnt, .inr (.inr (.inr (.inr gq_1_10))))) ∈ im_49 := by rw [he_50]; exact List.mem_of_getElem? (i := 0) rfl
      replace hP : va_P D vwCl ([(rd, .inr (4, [.ref tp, .ref d, .ref ft, .ref bl, .int x_48, .int (nI k2_10), .ref wk, .int (nI sz), .ref fl, .ref sr, .int (nI cnt), cv, .ref cl, .int (nI rw)])), (fl, .inl (κ 2, 8, .inr (.inr (.inr (.inr ff))))), (sr, .inl (κ 0, 8, .inl sf))] ++ ([(q_1, .inl (κ 3, cnt, .inr (.inr (.inr (.inr gq_1_10)))))] ++ im_L10)) _ := hP
      replace hD : va_D A ([(rd, .inr (4, [.ref tp, .ref d, .ref ft, .ref bl, .int x_48, .int (nI k2_10), .ref wk, .int (nI sz), .ref fl, .ref sr, .int (nI cnt), cv, .ref cl, .int (nI rw)])), (fl, .inl (κ 2, 8, .inr (.inr (.inr (.inr ff))))), (sr, .inl (κ 0, 8, .inl sf))] ++ ([(q_1, .inl (κ 3, cnt, .inr (.inr (.inr (.inr gq_1_10)))))] ++ im_L10)) := hD
      rw [← he_50] at hP hD
      clear he_50
      replace hlc := hlc.up hs_51
      replace hq10_0 := hq10_0.up hs_51
      replace h_11 := h_11.up hs_51
      replace hb_16 := hb_16.up hs_51
      replace hm_15 := hs_51 _ hm_15
      replace hm_19 := hs_51 _ hm_19
      exact et_iret hx hb hr hlk rfl hS (7, x_48, nI k2_10, cv, im_49) rfl ⟨(show Sb im im_49 from (Sb.tr hl10_1 hs_51)), (show (7 : Int32) = 0 → x_48 = nI aq ∧ ∃ q : Nat, cv = .ref q ∧ Ca κ im_49 q cnt from (fun h9 => absurd h9 (by decide)))⟩ (subP hP [0, 1, 2] rfl) (subD hD [0, 1, 2] (by decide) rfl) (by show _ ≤ 9; omega) (by show _ ≤ 24; omega) dX4_takeNames_62
set_option maxHeartbeats 4000000 in
set_option maxRecDepth 100000 in
theorem c_X4_takeRow (l : Launch) (D : va_G) (κ : Nat → ClassId) (κq : Nat → Nat) (im : va_W) (rd : Nat) (tp : Nat) (d : Nat) (ft : Nat) (bl : Nat) (aq : Nat) (wk : Nat) (sz : Nat) (fl : Nat) (sr : Nat) (cnt : Nat) (cl : Nat) (rw : Nat) (ca : Int32) (dl : Nat → Int32) (ff : Nat → Option Nat) (sf : Nat → Int32) (fc : Nat → Option Nat) (ca9 : Nat) (w : Nat) (kb : Nat) (nb : Nat) (hlf : Lc κ im ff cnt) (hlc : Lc κ im fc (rw * w)) (hca : Ca κ im ca9 w) (hbl : Cl κ im bl kb nb) (hr39 : rw ≤ 39) (hc8 : cnt ≤ 8) (hc1 : 1 ≤ cnt) (hw1 : 1 ≤ w) (hw8 : w ≤ 8) : Et l yX4_takeRow (wl yX4_takeRow cX4_takeRow 3 (some .int)) { frames := 0, cells := 0, slots := 0, locals := 0 } D κ κq [.ref rd] ([(rd, .inr (4, [.ref tp, .ref d, .ref ft, .ref bl, .int (nI aq), .int ca, .ref wk, .int (nI sz), .ref fl, .ref sr, .int (nI cnt), .ref ca9, .ref cl, .int (nI rw)])), (d, .inl (κ 0, 6, .inl dl)), (fl, .inl (κ 2, 8, .inr (.inr (.inr (.inr ff))))), (sr, .inl (κ 0, 8, .inl sf)), (cl, .inl (κ 2, 320, .inr (.inr (.inr (.inr fc)))))] ++ im) (fun u9 : Int32 × Int32 × Int32 × Nat × (Nat → Option Nat) => some (.int u9.1)) (fun u9 : Int32 × Int32 × Int32 × Nat × (Nat → Option Nat) => u9.2.2.2.1 ≤ 40 ∧ (u9.1 = 0 → u9.2.1 = nI aq ∧ u9.2.2.2.1 = rw + 1 ∧ Lc κ im u9.2.2.2.2 ((rw + 1) * w))) (fun u9 : Int32 × Int32 × Int32 × Nat × (Nat → Option Nat) => ([(rd, .inr (4, [.ref tp, .ref d, .ref ft, .ref bl, .int u9.2.1, .int u9.2.2.1, .ref wk, .int (nI sz), .ref fl, .ref sr, .int (nI cnt), .ref ca9, .ref cl, .int (nI u9.2.2.2.1)])), (d, .inl (κ 0, 6, .inl dl)), (fl, .inl (κ 2, 8, .inr (.inr (.inr (.inr ff))))), (sr, .inl (κ 0, 8, .inl sf)), (cl, .inl (κ 2, 320, .inr (.inr (.inr (.inr u9.2.2.2.2)))))] ++ im)) := by
  refine et_of (by decide +kernel) (Nat.le_of_ble_eq_true rfl) ?_
  intro p e s m args below meth c A ls hx hb hr hml hts hown hlk hin hKK hK hA hP hD hS hE hl
  have hS : va_S A s.heap s.heap [] := hS
  have hP : va_P D vwCl ([(rd, .inr (4, [.ref tp, .ref d, .ref ft, .ref bl, .int (nI aq), .int ca, .ref wk, .int (nI sz), .ref fl, .ref sr, .int (nI cnt), .ref ca9, .ref cl, .int (nI rw)])), (d, .inl (κ 0, 6, .inl dl)), (fl, .inl (κ 2, 8, .inr (.inr (.inr (.inr ff))))), (sr, .inl (κ 0, 8, .inl sf)), (cl, .inl (κ 2, 320, .inr (.inr (.inr (.inr fc)))))] ++ im) s.heap := hP
  have hD : va_D A ([(rd, .inr (4, [.ref tp, .ref d, .ref ft, .ref bl, .int (nI aq), .int ca, .ref wk, .int (nI sz), .ref fl, .ref sr, .int (nI cnt), .ref ca9, .ref cl, .int (nI rw)])), (d, .inl (κ 0, 6, .inl dl)), (fl, .inl (κ 2, 8, .inr (.inr (.inr (.inr ff))))), (sr, .inl (κ 0, 8, .inl sf)), (cl, .inl (κ 2, 320, .inr (.inr (.inr (.inr fc)))))] ++ im) := hD
  have hFX : FX p s m args c cX4_takeRow 3 RX4 := ⟨hx, hb, hml, hown, hts⟩
  have hl : lv_has ls 3 [(0, .ref rd)] := hl
  obtain ⟨g_1, hm_2, lo_3⟩ := id hca
  refine lv_aload_n hx hb dX4_takeRow_0 rfl (lv_at hl 0 rfl) ?_
  refine va_get (D := D) (ci := 4) (v := .ref ca9) (C := RX4) (T := TX4) (N := 14) hx hb hts inlX4 hown hK hP 0 rfl rfl 11 (by decide) (hts _ mw_78) (fun _ h9 => h9) rfl dX4_takeRow_1 ?_
  refine va_alen hx hb hK (oneP (C := [(rd, .inr (4, [.ref tp, .ref d, .ref ft, .ref bl, .int (nI aq), .int ca, .ref wk, .int (nI sz), .ref fl, .ref sr, .int (nI cnt), .ref ca9, .ref cl, .int (nI rw)])), (d, .inl (κ 0, 6, .inl dl)), (fl, .inl (κ 2, 8, .inr (.inr (.inr (.inr ff))))), (sr, .inl (κ 0, 8, .inl sf)), (cl, .inl (κ 2, 320, .inr (.inr (.inr (.inr fc)))))]) hP hm_2) 0 3 rfl rfl (v := nI w) rfl dX4_takeRow_4 ?_
  refine lv_istore_n (lv' := [(1, .int (nI w)), (0, .ref rd)]) hx hb dX4_takeRow_5 rfl hl (by decide) rfl (fun ls hl => ?_)
  refine lv_aload_n hx hb dX4_takeRow_6 rfl (lv_at hl 1 rfl) ?_
  refine va_get (D := D) (ci := 4) (v := .int (nI cnt)) (C := RX4) (T := TX4) (N := 14) hx hb hts inlX4 hown hK hP 0 rfl rfl 10 (by decide) (hts _ mw_77) (fun _ h9 => h9) rfl dX4_takeRow_7 ?_
  refine lv_iload_n hx hb dX4_takeRow_10 rfl (lv_at hl 0 rfl) ?_
  refine lv_icmp_ge (tgt := 36) hx hb dX4_takeRow_11 (by decide) (fun c_4 => ?_) (fun c_4 => ?_)
  · have nc_4 := cv_le (a := w) (b := cnt) (by omega) (by omega) c_4
    refine lv_aload_n hx hb dX4_takeRow_36 rfl (lv_at hl 1 rfl) ?_
    refine va_get (D := D) (ci := 4) (v := .int (nI cnt)) (C := RX4) (T := TX4) (N := 14) hx hb hts inlX4 hown hK hP 0 rfl rfl 10 (by decide) (hts _ mw_77) (fun _ h9 => h9) rfl dX4_takeRow_37 ?_
    refine lv_iload_n hx hb dX4_takeRow_40 rfl (lv_at hl 0 rfl) ?_
    refine lv_icmp_le (tgt := 78) hx hb dX4_takeRow_41 (by decide) (fun c_5 => ?_) (fun c_5 => ?_)
    · have nc_5 := cv_le (a := cnt) (b := w) (by omega) (by omega) c_5
      refine lv_iconst (v := 0) hx hb dX4_takeRow_78 (by decide) ?_
      refine lv_istore_n (lv' := [(2, .int 0), (1, .int (nI w)), (0, .ref rd)]) hx hb dX4_takeRow_79 rfl hl (by decide) rfl (fun ls hl => ?_)
      refine loop_dn (fun k9 H locs ls => ∃ (k2_80 : Nat), ∃ (gcl_80 : Nat → Option Nat), (k2_80 ≤ w) ∧ Lc κ im gcl_80 (rw * w + k2_80) ∧ w - k2_80 = k9 ∧ va_P D vwCl ([(rd, .inr (4, [.ref tp, .ref d, .ref ft, .ref bl, .int (nI aq), .int ca, .ref wk, .int (nI sz), .ref fl, .ref sr, .int (nI cnt), .ref ca9, .ref cl, .int (nI rw)])), (d, .inl (κ 0, 6, .inl dl)), (fl, .inl (κ 2, 8, .inr (.inr (.inr (.inr ff))))), (sr, .inl (κ 0, 8, .inl sf)), (cl, .inl (κ 2, 320, .inr (.inr (.inr (.inr gcl_80)))))] ++ im) H ∧ va_D A ([(rd, .inr (4, [.ref tp, .ref d, .ref ft, .ref bl, .int (nI aq), .int ca, .ref wk, .int (nI sz), .ref fl, .ref sr, .int (nI cnt), .ref ca9, .ref cl, .int (nI rw)])), (d, .inl (κ 0, 6, .inl dl)), (fl, .inl (κ 2, 8, .inr (.inr (.inr (.inr ff))))), (sr, .inl (κ 0, 8, .inl sf)), (cl, .inl (κ 2, 320, .inr (.inr (.inr (.inr gcl_80)))))] ++ im) ∧ va_S A s.heap H locs ∧ lv_has ls 3 [(2, .int (nI k2_80)), (1, .int (nI w)), (0, .ref rd)]) (fun k9 H locs ls hI80 ih80 => ?_) (w - 0) _ _ _ ⟨0, fc, (by omega), hlc, rfl, hP, hD, hS, lv_sub hl [0, 1, 2] rfl⟩
      obtain ⟨k2_80, gcl_80, hl80_0, hq80_0, hm80, hP, hD, hS, hl⟩ := hI80
      refine lv_iload_n hx hb dX4_takeRow_80 rfl (lv_at hl 0 rfl) ?_
      refine lv_iload_n hx hb dX4_takeRow_81 rfl (lv_at hl 1 rfl) ?_
      refine lv_icmp_ge (tgt := 125) hx hb dX4_takeRow_82 (by decide) (fun c_6 => ?_) (fun c_6 => ?_)
      · have nc_6 := cv_le (a := w) (b := k2_80) (by omega) (by omega) c_6
        obtain rfl : w = k2_80 := by omega
        refine lv_aload_n hx hb dX4_takeRow_125 rfl (lv_at hl 2 rfl) ?_
        refine lv_dup hx hb dX4_takeRow_126 rfl ?_
        refine va_get (D := D) (ci := 4) (v := .int (nI rw)) (C := RX4) (T := TX4) (N := 14) hx hb hts inlX4 hown hK hP 0 rfl rfl 13 (by decide) (hts _ mw_80) (fun _ h9 => h9) rfl dX4_takeRow_127 ?_
        refine lv_iconst (v := 1) hx hb dX4_takeRow_130 (by decide) ?_
        refine lv_iadd hx hb dX4_takeRow_131 ?_
        refine ki (v := (nI (rw + 1))) (nI_add rw 1) ?_
        refine va_put (D := D) (ci := 4) (v := .int (nI (rw + 1))) (ty := tyX4 13) (C := RX4) (T := TX4) (N := 14) hx hb hts inlX4 tyX4 tyX4_ok nmX4 hown hK hP hD hS 0 rfl rfl 13 (by decide) (hts _ mw_80) (fun _ h9 => h9) rfl (tyX4_ok 13 (by decide)) rfl rfl (Nat.le_of_ble_eq_true rfl) dX4_takeRow_132 (fun H locs hP hD hS => ?_)
        have hP : va_P D vwCl ([(rd, .inr (4, [.ref tp, .ref d, .ref ft, .ref bl, .int (nI aq), .int ca, .ref wk, .int (nI sz), .ref fl, .ref sr, .int (nI cnt), .ref ca9, .ref cl, .int (nI (rw + 1))])), (d, .inl (κ 0, 6, .inl dl)), (fl, .inl (κ 2, 8, .inr (.inr (.inr (.inr ff))))), (sr, .inl (κ 0, 8, .inl sf)), (cl, .inl (κ 2, 320, .inr (.inr (.inr (.inr gcl_80)))))] ++ im) H := hP
        have hD : va_D A ([(rd, .inr (4, [.ref tp, .ref d, .ref ft, .ref bl, .int (nI aq), .int ca, .ref wk, .int (nI sz), .ref fl, .ref sr, .int (nI cnt), .ref ca9, .ref cl, .int (nI (rw + 1))])), (d, .inl (κ 0, 6, .inl dl)), (fl, .inl (κ 2, 8, .inr (.inr (.inr (.inr ff))))), (sr, .inl (κ 0, 8, .inl sf)), (cl, .inl (κ 2, 320, .inr (.inr (.inr (.inr gcl_80)))))] ++ im) := hD
        refine lv_iconst (v := 0) hx hb dX4_takeRow_135 (by decide) ?_
        exact et_iret hx hb hr hlk rfl hS (0, nI aq, ca, rw + 1, gcl_80) rfl ⟨(show (rw + 1) ≤ 40 from (by first | assumption | omega | rfl | exact Or.inl (by assumption) | exact Or.inr (by assumption))), (show (0 : Int32) = 0 → (nI aq) = nI aq ∧ (rw + 1) = rw + 1 ∧ Lc κ im gcl_80 ((rw + 1) * w) from (fun _ => ⟨rfl, rfl, by rw [Nat.add_one_mul]; exact hq80_0⟩))⟩ (subP hP [0, 1, 2, 3, 4] rfl) (subD hD [0, 1, 2, 3, 4] (by decide) rfl) (Nat.le_of_ble_eq_true rfl) (Nat.le_of_ble_eq_true rfl) dX4_takeRow_136
      · have nc_6 := cv_nle (a := w) (b := k2_80) (by omega) (by omega) c_6
        refine lv_aload_n hx hb dX4_takeRow_85 rfl (lv_at hl 2 rfl) ?_
        refine va_get (D := D) (ci := 4) (v := .ref cl) (C := RX4) (T := TX4) (N := 14) hx hb hts inlX4 hown hK hP 0 rfl rfl 12 (by decide) (hts _ mw_79) (fun _ h9 => h9) rfl dX4_takeRow_86 ?_
        refine lv_aload_n hx hb dX4_takeRow_89 rfl (lv_at hl 2 rfl) ?_
        refine va_get (D := D) (ci := 4) (v := .int (nI rw)) (C := RX4) (T := TX4) (N := 14) hx hb hts inlX4 hown hK hP 0 rfl rfl 13 (by decide) (hts _ mw_80) (fun _ h9 => h9) rfl dX4_takeRow_90 ?_
        refine lv_iload_n hx hb dX4_takeRow_93 rfl (lv_at hl 1 rfl) ?_
        refine lv_imul hx hb dX4_takeRow_94 ?_
        refine ki (v := (nI (rw * w))) (pk_mul rw w) ?_
        refine lv_iload_n hx hb dX4_takeRow_95 rfl (lv_at hl 0 rfl) ?_
        refine lv_iadd hx hb dX4_takeRow_96 ?_
        refine ki (v := (nI (rw * w + k2_80))) (nI_add (rw * w) k2_80) ?_
        refine lv_iload_n hx hb dX4_takeRow_97 rfl (lv_at hl 0 rfl) ?_
        refine lv_aload_n hx hb dX4_takeRow_98 rfl (lv_at hl 2 rfl) ?_
        refine va_get (D := D) (ci := 4) (v := .int (nI cnt)) (C := RX4) (T := TX4) (N := 14) hx hb hts inlX4 hown hK hP 0 rfl rfl 10 (by decide) (hts _ mw_77) (fun _ h9 => h9) rfl dX4_takeRow_99 ?_
        refine lv_icmp_ge (tgt := 114) hx hb dX4_takeRow_102 (by decide) (fun c_7 => ?_) (fun c_7 => ?_)
        · have nc_7 := cv_le (a := cnt) (b := k2_80) (by omega) (by omega) c_7
          refine lv_aload_n hx hb dX4_takeRow_114 rfl (lv_at hl 2 rfl) ?_
          refine va_get (D := D) (ci := 4) (v := .ref bl) (C := RX4) (T := TX4) (N := 14) hx hb hts inlX4 hown hK hP 0 rfl rfl 3 (by decide) (hts _ mw_70) (fun _ h9 => h9) rfl dX4_takeRow_115 ?_
          obtain ⟨hk_8, b_9, x_10, hm_11, hb_12⟩ := id hbl
          have hn_b_9 := hb_12.1
          obtain ⟨k_13, ek_13⟩ := tl_at [(rd, .inr (4, [.ref tp, .ref d, .ref ft, .ref bl, .int (nI aq), .int ca, .ref wk, .int (nI sz), .ref fl, .ref sr, .int (nI cnt), .ref ca9, .ref cl, .int (nI rw)])), (d, .inl (κ 0, 6, .inl dl)), (fl, .inl (κ 2, 8, .inr (.inr (.inr (.inr ff))))), (sr, .inl (κ 0, 8, .inl sf)), (cl, .inl (κ 2, 320, .inr (.inr (.inr (.inr gcl_80)))))] hm_11
          refine va_astq hx hb hK hP hD hS 4 2 k_13 0 rfl rfl ek_13 rfl (i := nI (rw * w + k2_80)) (vp_in_nI (n := rw * w + k2_80) (by have q9 := ix_lt (R := 40) (w := w) (r := rw) (c := k2_80) (by omega) (by omega); omega) (by have q9 := ix_lt (R := 40) (w := w) (r := rw) (c := k2_80) (by omega) (by omega); omega)) dX4_takeRow_118 (fun H locs hP hD hS => ?_)
          rw [nI_clamp (by have q9 := ix_lt (R := 40) (w := w) (r := rw) (c := k2_80) (by omega) (by omega); omega)] at hP hD
          have hP : va_P D vwCl ([(rd, .inr (4, [.ref tp, .ref d, .ref ft, .ref bl, .int (nI aq), .int ca, .ref wk, .int (nI sz), .ref fl, .ref sr, .int (nI cnt), .ref ca9, .ref cl, .int (nI rw)])), (d, .inl (κ 0, 6, .inl dl)), (fl, .inl (κ 2, 8, .inr (.inr (.inr (.inr ff))))), (sr, .inl (κ 0, 8, .inl sf)), (cl, .inl (κ 2, 320, .inr (.inr (.inr (.inr (va_up gcl_80 (rw * w + k2_80) (some bl)))))))] ++ im) H := hP
          have hD : va_D A ([(rd, .inr (4, [.ref tp, .ref d, .ref ft, .ref bl, .int (nI aq), .int ca, .ref wk, .int (nI sz), .ref fl, .ref sr, .int (nI cnt), .ref ca9, .ref cl, .int (nI rw)])), (d, .inl (κ 0, 6, .inl dl)), (fl, .inl (κ 2, 8, .inr (.inr (.inr (.inr ff))))), (sr, .inl (κ 0, 8, .inl sf)), (cl, .inl (κ 2, 320, .inr (.inr (.inr (.inr (va_up gcl_80 (rw * w + k2_80) (some bl)))))))] ++ im) := hD
          have hf_15 : Lc κ im (va_up gcl_80 (rw * w + k2_80) (some bl)) (rw * w + k2_80 + 1) := Lc_add hq80_0 hbl
          generalize va_up gcl_80 (rw * w + k2_80) (some bl) = g_14 at hP hD hf_15
          refine lv_iinc (v := (nI (k2_80 + 1))) (lv' := [(2, .int (nI (k2_80 + 1))), (1, .int (nI w)), (0, .ref rd)]) hx hb dX4_takeRow_119 hl (k := 0) rfl (nI_i k2_80) (by decide) rfl (fun ls hl => ?_)
          refine lv_goto (tgt := 80) hx hb dX4_takeRow_122 (by decide) ?_
          exact ih80 _ _ _ _ (by omega) ⟨(k2_80 + 1), g_14, (by omega), hf_15, rfl, hP, hD, hS, lv_sub hl [0, 1, 2] rfl⟩
        · have nc_7 := cv_nle (a := cnt) (b := k2_80) (by omega) (by omega) c_7
          refine lv_aload_n hx hb dX4_takeRow_105 rfl (lv_at hl 2 rfl) ?_
          refine va_get (D := D) (ci := 4) (v := .ref fl) (C := RX4) (T := TX4) (N := 14) hx hb hts inlX4 hown hK hP 0 rfl rfl 8 (by decide) (hts _ mw_75) (fun _ h9 => h9) rfl dX4_takeRow_106 ?_
          refine lv_iload_n hx hb dX4_takeRow_109 rfl (lv_at hl 0 rfl) ?_
          refine va_aldq hx hb hK hP 2 2 rfl rfl (i := nI k2_80) (vp_in_nI (n := k2_80) (by omega) (by omega)) dX4_takeRow_110 ?_
          obtain ⟨q_16, e_17, k_18, m_19, h_20⟩ := hlf k2_80 (by omega)
          refine kv (v := .ref q_16) (by rw [nI_clamp (by omega)]; rw [e_17]; rfl) ?_
          refine lv_goto (tgt := 118) hx hb dX4_takeRow_111 (by decide) ?_
          obtain ⟨hk_21, b_22, x_23, hm_24, hb_25⟩ := id h_20
          have hn_b_22 := hb_25.1
          obtain ⟨k_26, ek_26⟩ := tl_at [(rd, .inr (4, [.ref tp, .ref d, .ref ft, .ref bl, .int (nI aq), .int ca, .ref wk, .int (nI sz), .ref fl, .ref sr, .int (nI cnt), .ref ca9, .ref cl, .int (nI rw)])), (d, .inl (κ 0, 6, .inl dl)), (fl, .inl (κ 2, 8, .inr (.inr (.inr (.inr ff))))), (sr, .inl (κ 0, 8, .inl sf)), (cl, .inl (κ 2, 320, .inr (.inr (.inr (.inr gcl_80)))))] hm_24
          refine va_astq hx hb hK hP hD hS 4 2 k_26 0 rfl rfl ek_26 rfl (i := nI (rw * w + k2_80)) (vp_in_nI (n := rw * w + k2_80) (by have q9 := ix_lt (R := 40) (w := w) (r := rw) (c := k2_80) (by omega) (by omega); omega) (by have q9 := ix_lt (R := 40) (w := w) (r := rw) (c := k2_80) (by omega) (by omega); omega)) dX4_takeRow_118 (fun H locs hP hD hS => ?_)
          rw [nI_clamp (by have q9 := ix_lt (R := 40) (w := w) (r := rw) (c := k2_80) (by omega) (by omega); omega)] at hP hD
          have hP : va_P D vwCl ([(rd, .inr (4, [.ref tp, .ref d, .ref ft, .ref bl, .int (nI aq), .int ca, .ref wk, .int (nI sz), .ref fl, .ref sr, .int (nI cnt), .ref ca9, .ref cl, .int (nI rw)])), (d, .inl (κ 0, 6, .inl dl)), (fl, .inl (κ 2, 8, .inr (.inr (.inr (.inr ff))))), (sr, .inl (κ 0, 8, .inl sf)), (cl, .inl (κ 2, 320, .inr (.inr (.inr (.inr (va_up gcl_80 (rw * w + k2_80) (some q_16)))))))] ++ im) H := hP
          have hD : va_D A ([(rd, .inr (4, [.ref tp, .ref d, .ref ft, .ref bl, .int (nI aq), .int ca, .ref wk, .int (nI sz), .ref fl, .ref sr, .int (nI cnt), .ref ca9, .ref cl, .int (nI rw)])), (d, .inl (κ 0, 6, .inl dl)), (fl, .inl (κ 2, 8, .inr (.inr (.inr (.inr ff))))), (sr, .inl (κ 0, 8, .inl sf)), (cl, .inl (κ 2, 320, .inr (.inr (.inr (.inr (va_up gcl_80 (rw * w + k2_80) (some q_16)))))))] ++ im) := hD
          have hf_28 : Lc κ im (va_up gcl_80 (rw * w + k2_80) (some q_16)) (rw * w + k2_80 + 1) := Lc_add hq80_0 h_20
          generalize va_up gcl_80 (rw * w + k2_80) (some q_16) = g_27 at hP hD hf_28
          refine lv_iinc (v := (nI (k2_80 + 1))) (lv' := [(2, .int (nI (k2_80 + 1))), (1, .int (nI w)), (0, .ref rd)]) hx hb dX4_takeRow_119 hl (k := 0) rfl (nI_i k2_80) (by decide) rfl (fun ls hl => ?_)
          refine lv_goto (tgt := 80) hx hb dX4_takeRow_122 (by decide) ?_
          exact ih80 _ _ _ _ (by omega) ⟨(k2_80 + 1), g_27, (by omega), hf_28, rfl, hP, hD, hS, lv_sub hl [0, 1, 2] rfl⟩
    · have nc_5 := cv_nle (a := cnt) (b := w) (by omega) (by omega) c_5
      refine lv_aload_n hx hb dX4_takeRow_44 rfl (lv_at hl 1 rfl) ?_
      refine va_get (D := D) (ci := 4) (v := .ref d) (C := RX4) (T := TX4) (N := 14) hx hb hts inlX4 hown hK hP 0 rfl rfl 1 (by decide) (hts _ mw_82) (fun _ h9 => h9) rfl dX4_takeRow_45 ?_
      refine lv_iconst (v := 4) hx hb dX4_takeRow_48 (by decide) ?_
      refine va_iald hx hb hK hP 1 0 rfl rfl (i := 4) (vp_k (by decide)) dX4_takeRow_49 ?_
      obtain ⟨x_29, ex_29⟩ : ∃ y9 : Int32, dl 4 = y9 := ⟨_, rfl⟩
      refine kv (v := .int x_29) (congrArg Value.int ex_29) ?_
      refine lv_iconst (v := 2) hx hb dX4_takeRow_50 (by decide) ?_
      refine lv_iand hx hb dX4_takeRow_51 ?_
      refine lv_topi (fun x_30 ex_30 => ?_)
      refine lv_if_ne (tgt := 78) hx hb dX4_takeRow_52 (by decide) (fun c_31 => ?_) (fun c_31 => ?_)
      · refine lv_iconst (v := 0) hx hb dX4_takeRow_78 (by decide) ?_
        refine lv_istore_n (lv' := [(2, .int 0), (1, .int (nI w)), (0, .ref rd)]) hx hb dX4_takeRow_79 rfl hl (by decide) rfl (fun ls hl => ?_)
        refine loop_dn (fun k9 H locs ls => ∃ (k2_80 : Nat), ∃ (gcl_80 : Nat → Option Nat), (k2_80 ≤ w) ∧ Lc κ im gcl_80 (rw * w + k2_80) ∧ w - k2_80 = k9 ∧ va_P D vwCl ([(rd, .inr (4, [.ref tp, .ref d, .ref ft, .ref bl, .int (nI aq), .int ca, .ref wk, .int (nI sz), .ref fl, .ref sr, .int (nI cnt), .ref ca9, .ref cl, .int (nI rw)])), (d, .inl (κ 0, 6, .inl dl)), (fl, .inl (κ 2, 8, .inr (.inr (.inr (.inr ff))))), (sr, .inl (κ 0, 8, .inl sf)), (cl, .inl (κ 2, 320, .inr (.inr (.inr (.inr gcl_80)))))] ++ im) H ∧ va_D A ([(rd, .inr (4, [.ref tp, .ref d, .ref ft, .ref bl, .int (nI aq), .int ca, .ref wk, .int (nI sz), .ref fl, .ref sr, .int (nI cnt), .ref ca9, .ref cl, .int (nI rw)])), (d, .inl (κ 0, 6, .inl dl)), (fl, .inl (κ 2, 8, .inr (.inr (.inr (.inr ff))))), (sr, .inl (κ 0, 8, .inl sf)), (cl, .inl (κ 2, 320, .inr (.inr (.inr (.inr gcl_80)))))] ++ im) ∧ va_S A s.heap H locs ∧ lv_has ls 3 [(2, .int (nI k2_80)), (1, .int (nI w)), (0, .ref rd)]) (fun k9 H locs ls hI80 ih80 => ?_) (w - 0) _ _ _ ⟨0, fc, (by omega), hlc, rfl, hP, hD, hS, lv_sub hl [0, 1, 2] rfl⟩
        obtain ⟨k2_80, gcl_80, hl80_0, hq80_0, hm80, hP, hD, hS, hl⟩ := hI80
        refine lv_iload_n hx hb dX4_takeRow_80 rfl (lv_at hl 0 rfl) ?_
        refine lv_iload_n hx hb dX4_takeRow_81 rfl (lv_at hl 1 rfl) ?_
        refine lv_icmp_ge (tgt := 125) hx hb dX4_takeRow_82 (by decide) (fun c_32 => ?_) (fun c_32 => ?_)
        · have nc_32 := cv_le (a := w) (b := k2_80) (by omega) (by omega) c_32
          obtain rfl : w = k2_80 := by omega
          refine lv_aload_n hx hb dX4_takeRow_125 rfl (lv_at hl 2 rfl) ?_
          refine lv_dup hx hb dX4_takeRow_126 rfl ?_
          refine va_get (D := D) (ci := 4) (v := .int (nI rw)) (C := RX4) (T := TX4) (N := 14) hx hb hts inlX4 hown hK hP 0 rfl rfl 13 (by decide) (hts _ mw_80) (fun _ h9 => h9) rfl dX4_takeRow_127 ?_
          refine lv_iconst (v := 1) hx hb dX4_takeRow_130 (by decide) ?_
          refine lv_iadd hx hb dX4_takeRow_131 ?_
          refine ki (v := (nI (rw + 1))) (nI_add rw 1) ?_
          refine va_put (D := D) (ci := 4) (v := .int (nI (rw + 1))) (ty := tyX4 13) (C := RX4) (T := TX4) (N := 14) hx hb hts inlX4 tyX4 tyX4_ok nmX4 hown hK hP hD hS 0 rfl rfl 13 (by decide) (hts _ mw_80) (fun _ h9 => h9) rfl (tyX4_ok 13 (by decide)) rfl rfl (Nat.le_of_ble_eq_true rfl) dX4_takeRow_132 (fun H locs hP hD hS => ?_)
          have hP : va_P D vwCl ([(rd, .inr (4, [.ref tp, .ref d, .ref ft, .ref bl, .int (nI aq), .int ca, .ref wk, .int (nI sz), .ref fl, .ref sr, .int (nI cnt), .ref ca9, .ref cl, .int (nI (rw + 1))])), (d, .inl (κ 0, 6, .inl dl)), (fl, .inl (κ 2, 8, .inr (.inr (.inr (.inr ff))))), (sr, .inl (κ 0, 8, .inl sf)), (cl, .inl (κ 2, 320, .inr (.inr (.inr (.inr gcl_80)))))] ++ im) H := hP
          have hD : va_D A ([(rd, .inr (4, [.ref tp, .ref d, .ref ft, .ref bl, .int (nI aq), .int ca, .ref wk, .int (nI sz), .ref fl, .ref sr, .int (nI cnt), .ref ca9, .ref cl, .int (nI (rw + 1))])), (d, .inl (κ 0, 6, .inl dl)), (fl, .inl (κ 2, 8, .inr (.inr (.inr (.inr ff))))), (sr, .inl (κ 0, 8, .inl sf)), (cl, .inl (κ 2, 320, .inr (.inr (.inr (.inr gcl_80)))))] ++ im) := hD
          refine lv_iconst (v := 0) hx hb dX4_takeRow_135 (by decide) ?_
          exact et_iret hx hb hr hlk rfl hS (0, nI aq, ca, rw + 1, gcl_80) rfl ⟨(show (rw + 1) ≤ 40 from (by first | assumption | omega | rfl | exact Or.inl (by assumption) | exact Or.inr (by assumption))), (show (0 : Int32) = 0 → (nI aq) = nI aq ∧ (rw + 1) = rw + 1 ∧ Lc κ im gcl_80 ((rw + 1) * w) from (fun _ => ⟨rfl, rfl, by rw [Nat.add_one_mul]; exact hq80_0⟩))⟩ (subP hP [0, 1, 2, 3, 4] rfl) (subD hD [0, 1, 2, 3, 4] (by decide) rfl) (Nat.le_of_ble_eq_true rfl) (Nat.le_of_ble_eq_true rfl) dX4_takeRow_136
        · have nc_32 := cv_nle (a := w) (b := k2_80) (by omega) (by omega) c_32
          refine lv_aload_n hx hb dX4_takeRow_85 rfl (lv_at hl 2 rfl) ?_
          refine va_get (D := D) (ci := 4) (v := .ref cl) (C := RX4) (T := TX4) (N := 14) hx hb hts inlX4 hown hK hP 0 rfl rfl 12 (by decide) (hts _ mw_79) (fun _ h9 => h9) rfl dX4_takeRow_86 ?_
          refine lv_aload_n hx hb dX4_takeRow_89 rfl (lv_at hl 2 rfl) ?_
          refine va_get (D := D) (ci := 4) (v := .int (nI rw)) (C := RX4) (T := TX4) (N := 14) hx hb hts inlX4 hown hK hP 0 rfl rfl 13 (by decide) (hts _ mw_80) (fun _ h9 => h9) rfl dX4_takeRow_90 ?_
          refine lv_iload_n hx hb dX4_takeRow_93 rfl (lv_at hl 1 rfl) ?_
          refine lv_imul hx hb dX4_takeRow_94 ?_
          refine ki (v := (nI (rw * w))) (pk_mul rw w) ?_
          refine lv_iload_n hx hb dX4_takeRow_95 rfl (lv_at hl 0 rfl) ?_
          refine lv_iadd hx hb dX4_takeRow_96 ?_
          refine ki (v := (nI (rw * w + k2_80))) (nI_add (rw * w) k2_80) ?_
          refine lv_iload_n hx hb dX4_takeRow_97 rfl (lv_at hl 0 rfl) ?_
          refine lv_aload_n hx hb dX4_takeRow_98 rfl (lv_at hl 2 rfl) ?_
          refine va_get (D := D) (ci := 4) (v := .int (nI cnt)) (C := RX4) (T := TX4) (N := 14) hx hb hts inlX4 hown hK hP 0 rfl rfl 10 (by decide) (hts _ mw_77) (fun _ h9 => h9) rfl dX4_takeRow_99 ?_
          refine lv_icmp_ge (tgt := 114) hx hb dX4_takeRow_102 (by decide) (fun c_33 => ?_) (fun c_33 => ?_)
          · have nc_33 := cv_le (a := cnt) (b := k2_80) (by omega) (by omega) c_33
            refine lv_aload_n hx hb dX4_takeRow_114 rfl (lv_at hl 2 rfl) ?_
            refine va_get (D := D) (ci := 4) (v := .ref bl) (C := RX4) (T := TX4) (N := 14) hx hb hts inlX4 hown hK hP 0 rfl rfl 3 (by decide) (hts _ mw_70) (fun _ h9 => h9) rfl dX4_takeRow_115 ?_
            obtain ⟨hk_34, b_35, x_36, hm_37, hb_38⟩ := id hbl
            have hn_b_35 := hb_38.1
            obtain ⟨k_39, ek_39⟩ := tl_at [(rd, .inr (4, [.ref tp, .ref d, .ref ft, .ref bl, .int (nI aq), .int ca, .ref wk, .int (nI sz), .ref fl, .ref sr, .int (nI cnt), .ref ca9, .ref cl, .int (nI rw)])), (d, .inl (κ 0, 6, .inl dl)), (fl, .inl (κ 2, 8, .inr (.inr (.inr (.inr ff))))), (sr, .inl (κ 0, 8, .inl sf)), (cl, .inl (κ 2, 320, .inr (.inr (.inr (.inr gcl_80)))))] hm_37
            refine va_astq hx hb hK hP hD hS 4 2 k_39 0 rfl rfl ek_39 rfl (i := nI (rw * w + k2_80)) (vp_in_nI (n := rw * w + k2_80) (by have q9 := ix_lt (R := 40) (w := w) (r := rw) (c := k2_80) (by omega) (by omega); omega) (by have q9 := ix_lt (R := 40) (w := w) (r := rw) (c := k2_80) (by omega) (by omega); omega)) dX4_takeRow_118 (fun H locs hP hD hS => ?_)
            rw [nI_clamp (by have q9 := ix_lt (R := 40) (w := w) (r := rw) (c := k2_80) (by omega) (by omega); omega)] at hP hD
            have hP : va_P D vwCl ([(rd, .inr (4, [.ref tp, .ref d, .ref ft, .ref bl, .int (nI aq), .int ca, .ref wk, .int (nI sz), .ref fl, .ref sr, .int (nI cnt), .ref ca9, .ref cl, .int (nI rw)])), (d, .inl (κ 0, 6, .inl dl)), (fl, .inl (κ 2, 8, .inr (.inr (.inr (.inr ff))))), (sr, .inl (κ 0, 8, .inl sf)), (cl, .inl (κ 2, 320, .inr (.inr (.inr (.inr (va_up gcl_80 (rw * w + k2_80) (some bl)))))))] ++ im) H := hP
            have hD : va_D A ([(rd, .inr (4, [.ref tp, .ref d, .ref ft, .ref bl, .int (nI aq), .int ca, .ref wk, .int (nI sz), .ref fl, .ref sr, .int (nI cnt), .ref ca9, .ref cl, .int (nI rw)])), (d, .inl (κ 0, 6, .inl dl)), (fl, .inl (κ 2, 8, .inr (.inr (.inr (.inr ff))))), (sr, .inl (κ 0, 8, .inl sf)), (cl, .inl (κ 2, 320, .inr (.inr (.inr (.inr (va_up gcl_80 (rw * w + k2_80) (some bl)))))))] ++ im) := hD
            have hf_41 : Lc κ im (va_up gcl_80 (rw * w + k2_80) (some bl)) (rw * w + k2_80 + 1) := Lc_add hq80_0 hbl
            generalize va_up gcl_80 (rw * w + k2_80) (some bl) = g_40 at hP hD hf_41
            refine lv_iinc (v := (nI (k2_80 + 1))) (lv' := [(2, .int (nI (k2_80 + 1))), (1, .int (nI w)), (0, .ref rd)]) hx hb dX4_takeRow_119 hl (k := 0) rfl (nI_i k2_80) (by decide) rfl (fun ls hl => ?_)
            refine lv_goto (tgt := 80) hx hb dX4_takeRow_122 (by decide) ?_
            exact ih80 _ _ _ _ (by omega) ⟨(k2_80 + 1), g_40, (by omega), hf_41, rfl, hP, hD, hS, lv_sub hl [0, 1, 2] rfl⟩
          · have nc_33 := cv_nle (a := cnt) (b := k2_80) (by omega) (by omega) c_33
            refine lv_aload_n hx hb dX4_takeRow_105 rfl (lv_at hl 2 rfl) ?_
            refine va_get (D := D) (ci := 4) (v := .ref fl) (C := RX4) (T := TX4) (N := 14) hx hb hts inlX4 hown hK hP 0 rfl rfl 8 (by decide) (hts _ mw_75) (fun _ h9 => h9) rfl dX4_takeRow_106 ?_
            refine lv_iload_n hx hb dX4_takeRow_109 rfl (lv_at hl 0 rfl) ?_
            refine va_aldq hx hb hK hP 2 2 rfl rfl (i := nI k2_80) (vp_in_nI (n := k2_80) (by omega) (by omega)) dX4_takeRow_110 ?_
            obtain ⟨q_42, e_43, k_44, m_45, h_46⟩ := hlf k2_80 (by omega)
            refine kv (v := .ref q_42) (by rw [nI_clamp (by omega)]; rw [e_43]; rfl) ?_
            refine lv_goto (tgt := 118) hx hb dX4_takeRow_111 (by decide) ?_
            obtain ⟨hk_47, b_48, x_49, hm_50, hb_51⟩ := id h_46
            have hn_b_48 := hb_51.1
            obtain ⟨k_52, ek_52⟩ := tl_at [(rd, .inr (4, [.ref tp, .ref d, .ref ft, .ref bl, .int (nI aq), .int ca, .ref wk, .int (nI sz), .ref fl, .ref sr, .int (nI cnt), .ref ca9, .ref cl, .int (nI rw)])), (d, .inl (κ 0, 6, .inl dl)), (fl, .inl (κ 2, 8, .inr (.inr (.inr (.inr ff))))), (sr, .inl (κ 0, 8, .inl sf)), (cl, .inl (κ 2, 320, .inr (.inr (.inr (.inr gcl_80)))))] hm_50
            refine va_astq hx hb hK hP hD hS 4 2 k_52 0 rfl rfl ek_52 rfl (i := nI (rw * w + k2_80)) (vp_in_nI (n := rw * w + k2_80) (by have q9 := ix_lt (R := 40) (w := w) (r := rw) (c := k2_80) (by omega) (by omega); omega) (by have q9 := ix_lt (R := 40) (w := w) (r := rw) (c := k2_80) (by omega) (by omega); omega)) dX4_takeRow_118 (fun H locs hP hD hS => ?_)
            rw [nI_clamp (by have q9 := ix_lt (R := 40) (w := w) (r := rw) (c := k2_80) (by omega) (by omega); omega)] at hP hD
            have hP : va_P D vwCl ([(rd, .inr (4, [.ref tp, .ref d, .ref ft, .ref bl, .int (nI aq), .int ca, .ref wk, .int (nI sz), .ref fl, .ref sr, .int (nI cnt), .ref ca9, .ref cl, .int (nI rw)])), (d, .inl (κ 0, 6, .inl dl)), (fl, .inl (κ 2, 8, .inr (.inr (.inr (.inr ff))))), (sr, .inl (κ 0, 8, .inl sf)), (cl, .inl (κ 2, 320, .inr (.inr (.inr (.inr (va_up gcl_80 (rw * w + k2_80) (some q_42)))))))] ++ im) H := hP
            have hD : va_D A ([(rd, .inr (4, [.ref tp, .ref d, .ref ft, .ref bl, .int (nI aq), .int ca, .ref wk, .int (nI sz), .ref fl, .ref sr, .int (nI cnt), .ref ca9, .ref cl, .int (nI rw)])), (d, .inl (κ 0, 6, .inl dl)), (fl, .inl (κ 2, 8, .inr (.inr (.inr (.inr ff))))), (sr, .inl (κ 0, 8, .inl sf)), (cl, .inl (κ 2, 320, .inr (.inr (.inr (.inr (va_up gcl_80 (rw * w + k2_80) (some q_42)))))))] ++ im) := hD
            have hf_54 : Lc κ im (va_up gcl_80 (rw * w + k2_80) (some q_42)) (rw * w + k2_80 + 1) := Lc_add hq80_0 h_46
            generalize va_up gcl_80 (rw * w + k2_80) (some q_42) = g_53 at hP hD hf_54
            refine lv_iinc (v := (nI (k2_80 + 1))) (lv' := [(2, .int (nI (k2_80 + 1))), (1, .int (nI w)), (0, .ref rd)]) hx hb dX4_takeRow_119 hl (k := 0) rfl (nI_i k2_80) (by decide) rfl (fun ls hl => ?_)
            refine lv_goto (tgt := 80) hx hb dX4_takeRow_122 (by decide) ?_
            exact ih80 _ _ _ _ (by omega) ⟨(k2_80 + 1), g_53, (by omega), hf_54, rfl, hP, hD, hS, lv_sub hl [0, 1, 2] rfl⟩
      · refine lv_aload_n hx hb dX4_takeRow_55 rfl (lv_at hl 1 rfl) ?_
        refine lv_aload_n hx hb dX4_takeRow_56 rfl (lv_at hl 1 rfl) ?_
        refine va_get (D := D) (ci := 4) (v := .int (nI cnt)) (C := RX4) (T := TX4) (N := 14) hx hb hts inlX4 hown hK hP 0 rfl rfl 10 (by decide) (hts _ mw_77) (fun _ h9 => h9) rfl dX4_takeRow_57 ?_
        refine va_put (D := D) (ci := 4) (v := .int (nI cnt)) (ty := tyX4 5) (C := RX4) (T := TX4) (N := 14) hx hb hts inlX4 tyX4 tyX4_ok nmX4 hown hK hP hD hS 0 rfl rfl 5 (by decide) (hts _ mw_72) (fun _ h9 => h9) rfl (tyX4_ok 5 (by decide)) rfl rfl (Nat.le_of_ble_eq_true rfl) dX4_takeRow_60 (fun H locs hP hD hS => ?_)
        have hP : va_P D vwCl ([(rd, .inr (4, [.ref tp, .ref d, .ref ft, .ref bl, .int (nI aq), .int (nI cnt), .ref wk, .int (nI sz), .ref fl, .ref sr, .int (nI cnt), .ref ca9, .ref cl, .int (nI rw)])), (d, .inl (κ 0, 6, .inl dl)), (fl, .inl (κ 2, 8, .inr (.inr (.inr (.inr ff))))), (sr, .inl (κ 0, 8, .inl sf)), (cl, .inl (κ 2, 320, .inr (.inr (.inr (.inr fc)))))] ++ im) H := hP
        have hD : va_D A ([(rd, .inr (4, [.ref tp, .ref d, .ref ft, .ref bl, .int (nI aq), .int (nI cnt), .ref wk, .int (nI sz), .ref fl, .ref sr, .int (nI cnt), .ref ca9, .ref cl, .int (nI rw)])), (d, .inl (κ 0, 6, .inl dl)), (fl, .inl (κ 2, 8, .inr (.inr (.inr (.inr ff))))), (sr, .inl (κ 0, 8, .inl sf)), (cl, .inl (κ 2, 320, .inr (.inr (.inr (.inr fc)))))] ++ im) := hD
        refine lv_aload_n hx hb dX4_takeRow_63 rfl (lv_at hl 1 rfl) ?_
        refine lv_aload_n hx hb dX4_takeRow_64 rfl (lv_at hl 1 rfl) ?_
        refine va_get (D := D) (ci := 4) (v := .ref sr) (C := RX4) (T := TX4) (N := 14) hx hb hts inlX4 hown hK hP 0 rfl rfl 9 (by decide) (hts _ mw_76) (fun _ h9 => h9) rfl dX4_takeRow_65 ?_
        refine lv_iload_n hx hb dX4_takeRow_68 rfl (lv_at hl 0 rfl) ?_
        refine va_iald hx hb hK hP 3 0 rfl rfl (i := nI w) (vp_in_nI (n := w) (by omega) (by omega)) dX4_takeRow_69 ?_
        refine kv (v := .int (sf w)) (by rw [nI_clamp (by omega)]) ?_
        obtain ⟨x_55, ex_55⟩ : ∃ y9 : Int32, sf w = y9 := ⟨_, rfl⟩
        refine kv (v := .int x_55) (congrArg Value.int ex_55) ?_
        refine lv_iconst (v := 1) hx hb dX4_takeRow_70 (by decide) ?_
        refine lv_isub hx hb dX4_takeRow_71 ?_
        refine lv_topi (fun x_56 ex_56 => ?_)
        refine va_put (D := D) (ci := 4) (v := .int x_56) (ty := tyX4 4) (C := RX4) (T := TX4) (N := 14) hx hb hts inlX4 tyX4 tyX4_ok nmX4 hown hK hP hD hS 0 rfl rfl 4 (by decide) (hts _ mw_71) (fun _ h9 => h9) rfl (tyX4_ok 4 (by decide)) rfl rfl (Nat.le_of_ble_eq_true rfl) dX4_takeRow_72 (fun H locs hP hD hS => ?_)
        have hP : va_P D vwCl ([(rd, .inr (4, [.ref tp, .ref d, .ref ft, .ref bl, .int x_56, .int (nI cnt), .ref wk, .int (nI sz), .ref fl, .ref sr, .int (nI cnt), .ref ca9, .ref cl, .int (nI rw)])), (d, .inl (κ 0, 6, .inl dl)), (fl, .inl (κ 2, 8, .inr (.inr (.inr (.inr ff))))), (sr, .inl (κ 0, 8, .inl sf)), (cl, .inl (κ 2, 320, .inr (.inr (.inr (.inr fc)))))] ++ im) H := hP
        have hD : va_D A ([(rd, .inr (4, [.ref tp, .ref d, .ref ft, .ref bl, .int x_56, .int (nI cnt), .ref wk, .int (nI sz), .ref fl, .ref sr, .int (nI cnt), .ref ca9, .ref cl, .int (nI rw)])), (d, .inl (κ 0, 6, .inl dl)), (fl, .inl (κ 2, 8, .inr (.inr (.inr (.inr ff))))), (sr, .inl (κ 0, 8, .inl sf)), (cl, .inl (κ 2, 320, .inr (.inr (.inr (.inr fc)))))] ++ im) := hD
        refine lv_bipush (v := 8) hx hb dX4_takeRow_75 (by decide) ?_
        exact et_iret hx hb hr hlk rfl hS (8, x_56, nI cnt, rw, fc) rfl ⟨(show rw ≤ 40 from (by first | assumption | omega | rfl | exact Or.inl (by assumption) | exact Or.inr (by assumption))), (show (8 : Int32) = 0 → x_56 = nI aq ∧ rw = rw + 1 ∧ Lc κ im fc ((rw + 1) * w) from (fun h9 => absurd h9 (by decide)))⟩ (subP hP [0, 1, 2, 3, 4] rfl) (subD hD [0, 1, 2, 3, 4] (by decide) rfl) (Nat.le_of_ble_eq_true rfl) (Nat.le_of_ble_eq_true rfl) dX4_takeRow_77
  · have nc_4 := cv_nle (a := w) (b := cnt) (by omega) (by omega) c_4
    refine lv_aload_n hx hb dX4_takeRow_14 rfl (lv_at hl 1 rfl) ?_
    refine va_get (D := D) (ci := 4) (v := .ref d) (C := RX4) (T := TX4) (N := 14) hx hb hts inlX4 hown hK hP 0 rfl rfl 1 (by decide) (hts _ mw_82) (fun _ h9 => h9) rfl dX4_takeRow_15 ?_
    refine lv_iconst (v := 4) hx hb dX4_takeRow_18 (by decide) ?_
    refine va_iald hx hb hK hP 1 0 rfl rfl (i := 4) (vp_k (by decide)) dX4_takeRow_19 ?_
    obtain ⟨x_57, ex_57⟩ : ∃ y9 : Int32, dl 4 = y9 := ⟨_, rfl⟩
    refine kv (v := .int x_57) (congrArg Value.int ex_57) ?_
    refine lv_iconst (v := 1) hx hb dX4_takeRow_20 (by decide) ?_
    refine lv_iand hx hb dX4_takeRow_21 ?_
    refine lv_topi (fun x_58 ex_58 => ?_)
    refine lv_if_ne (tgt := 36) hx hb dX4_takeRow_22 (by decide) (fun c_59 => ?_) (fun c_59 => ?_)
    · refine lv_aload_n hx hb dX4_takeRow_36 rfl (lv_at hl 1 rfl) ?_
      refine va_get (D := D) (ci := 4) (v := .int (nI cnt)) (C := RX4) (T := TX4) (N := 14) hx hb hts inlX4 hown hK hP 0 rfl rfl 10 (by decide) (hts _ mw_77) (fun _ h9 => h9) rfl dX4_takeRow_37 ?_
      refine lv_iload_n hx hb dX4_takeRow_40 rfl (lv_at hl 0 rfl) ?_
      refine lv_icmp_le (tgt := 78) hx hb dX4_takeRow_41 (by decide) (fun c_60 => ?_) (fun c_60 => ?_)
      · have nc_60 := cv_le (a := cnt) (b := w) (by omega) (by omega) c_60
        refine lv_iconst (v := 0) hx hb dX4_takeRow_78 (by decide) ?_
        refine lv_istore_n (lv' := [(2, .int 0), (1, .int (nI w)), (0, .ref rd)]) hx hb dX4_takeRow_79 rfl hl (by decide) rfl (fun ls hl => ?_)
        refine loop_dn (fun k9 H locs ls => ∃ (k2_80 : Nat), ∃ (gcl_80 : Nat → Option Nat), (k2_80 ≤ w) ∧ Lc κ im gcl_80 (rw * w + k2_80) ∧ w - k2_80 = k9 ∧ va_P D vwCl ([(rd, .inr (4, [.ref tp, .ref d, .ref ft, .ref bl, .int (nI aq), .int ca, .ref wk, .int (nI sz), .ref fl, .ref sr, .int (nI cnt), .ref ca9, .ref cl, .int (nI rw)])), (d, .inl (κ 0, 6, .inl dl)), (fl, .inl (κ 2, 8, .inr (.inr (.inr (.inr ff))))), (sr, .inl (κ 0, 8, .inl sf)), (cl, .inl (κ 2, 320, .inr (.inr (.inr (.inr gcl_80)))))] ++ im) H ∧ va_D A ([(rd, .inr (4, [.ref tp, .ref d, .ref ft, .ref bl, .int (nI aq), .int ca, .ref wk, .int (nI sz), .ref fl, .ref sr, .int (nI cnt), .ref ca9, .ref cl, .int (nI rw)])), (d, .inl (κ 0, 6, .inl dl)), (fl, .inl (κ 2, 8, .inr (.inr (.inr (.inr ff))))), (sr, .inl (κ 0, 8, .inl sf)), (cl, .inl (κ 2, 320, .inr (.inr (.inr (.inr gcl_80)))))] ++ im) ∧ va_S A s.heap H locs ∧ lv_has ls 3 [(2, .int (nI k2_80)), (1, .int (nI w)), (0, .ref rd)]) (fun k9 H locs ls hI80 ih80 => ?_) (w - 0) _ _ _ ⟨0, fc, (by omega), hlc, rfl, hP, hD, hS, lv_sub hl [0, 1, 2] rfl⟩
        obtain ⟨k2_80, gcl_80, hl80_0, hq80_0, hm80, hP, hD, hS, hl⟩ := hI80
        refine lv_iload_n hx hb dX4_takeRow_80 rfl (lv_at hl 0 rfl) ?_
        refine lv_iload_n hx hb dX4_takeRow_81 rfl (lv_at hl 1 rfl) ?_
        refine lv_icmp_ge (tgt := 125) hx hb dX4_takeRow_82 (by decide) (fun c_61 => ?_) (fun c_61 => ?_)
        · have nc_61 := cv_le (a := w) (b := k2_80) (by omega) (by omega) c_61
          obtain rfl : w = k2_80 := by omega
          refine lv_aload_n hx hb dX4_takeRow_125 rfl (lv_at hl 2 rfl) ?_
          refine lv_dup hx hb dX4_takeRow_126 rfl ?_
          refine va_get (D := D) (ci := 4) (v := .int (nI rw)) (C := RX4) (T := TX4) (N := 14) hx hb hts inlX4 hown hK hP 0 rfl rfl 13 (by decide) (hts _ mw_80) (fun _ h9 => h9) rfl dX4_takeRow_127 ?_
          refine lv_iconst (v := 1) hx hb dX4_takeRow_130 (by decide) ?_
          refine lv_iadd hx hb dX4_takeRow_131 ?_
          refine ki (v := (nI (rw + 1))) (nI_add rw 1) ?_
          refine va_put (D := D) (ci := 4) (v := .int (nI (rw + 1))) (ty := tyX4 13) (C := RX4) (T := TX4) (N := 14) hx hb hts inlX4 tyX4 tyX4_ok nmX4 hown hK hP hD hS 0 rfl rfl 13 (by decide) (hts _ mw_80) (fun _ h9 => h9) rfl (tyX4_ok 13 (by decide)) rfl rfl (Nat.le_of_ble_eq_true rfl) dX4_takeRow_132 (fun H locs hP hD hS => ?_)
          have hP : va_P D vwCl ([(rd, .inr (4, [.ref tp, .ref d, .ref ft, .ref bl, .int (nI aq), .int ca, .ref wk, .int (nI sz), .ref fl, .ref sr, .int (nI cnt), .ref ca9, .ref cl, .int (nI (rw + 1))])), (d, .inl (κ 0, 6, .inl dl)), (fl, .inl (κ 2, 8, .inr (.inr (.inr (.inr ff))))), (sr, .inl (κ 0, 8, .inl sf)), (cl, .inl (κ 2, 320, .inr (.inr (.inr (.inr gcl_80)))))] ++ im) H := hP
          have hD : va_D A ([(rd, .inr (4, [.ref tp, .ref d, .ref ft, .ref bl, .int (nI aq), .int ca, .ref wk, .int (nI sz), .ref fl, .ref sr, .int (nI cnt), .ref ca9, .ref cl, .int (nI (rw + 1))])), (d, .inl (κ 0, 6, .inl dl)), (fl, .inl (κ 2, 8, .inr (.inr (.inr (.inr ff))))), (sr, .inl (κ 0, 8, .inl sf)), (cl, .inl (κ 2, 320, .inr (.inr (.inr (.inr gcl_80)))))] ++ im) := hD
          refine lv_iconst (v := 0) hx hb dX4_takeRow_135 (by decide) ?_
          exact et_iret hx hb hr hlk rfl hS (0, nI aq, ca, rw + 1, gcl_80) rfl ⟨(show (rw + 1) ≤ 40 from (by first | assumption | omega | rfl | exact Or.inl (by assumption) | exact Or.inr (by assumption))), (show (0 : Int32) = 0 → (nI aq) = nI aq ∧ (rw + 1) = rw + 1 ∧ Lc κ im gcl_80 ((rw + 1) * w) from (fun _ => ⟨rfl, rfl, by rw [Nat.add_one_mul]; exact hq80_0⟩))⟩ (subP hP [0, 1, 2, 3, 4] rfl) (subD hD [0, 1, 2, 3, 4] (by decide) rfl) (Nat.le_of_ble_eq_true rfl) (Nat.le_of_ble_eq_true rfl) dX4_takeRow_136
        · have nc_61 := cv_nle (a := w) (b := k2_80) (by omega) (by omega) c_61
          refine lv_aload_n hx hb dX4_takeRow_85 rfl (lv_at hl 2 rfl) ?_
          refine va_get (D := D) (ci := 4) (v := .ref cl) (C := RX4) (T := TX4) (N := 14) hx hb hts inlX4 hown hK hP 0 rfl rfl 12 (by decide) (hts _ mw_79) (fun _ h9 => h9) rfl dX4_takeRow_86 ?_
          refine lv_aload_n hx hb dX4_takeRow_89 rfl (lv_at hl 2 rfl) ?_
          refine va_get (D := D) (ci := 4) (v := .int (nI rw)) (C := RX4) (T := TX4) (N := 14) hx hb hts inlX4 hown hK hP 0 rfl rfl 13 (by decide) (hts _ mw_80) (fun _ h9 => h9) rfl dX4_takeRow_90 ?_
          refine lv_iload_n hx hb dX4_takeRow_93 rfl (lv_at hl 1 rfl) ?_
          refine lv_imul hx hb dX4_takeRow_94 ?_
          refine ki (v := (nI (rw * w))) (pk_mul rw w) ?_
          refine lv_iload_n hx hb dX4_takeRow_95 rfl (lv_at hl 0 rfl) ?_
          refine lv_iadd hx hb dX4_takeRow_96 ?_
          refine ki (v := (nI (rw * w + k2_80))) (nI_add (rw * w) k2_80) ?_
          refine lv_iload_n hx hb dX4_takeRow_97 rfl (lv_at hl 0 rfl) ?_
          refine lv_aload_n hx hb dX4_takeRow_98 rfl (lv_at hl 2 rfl) ?_
          refine va_get (D := D) (ci := 4) (v := .int (nI cnt)) (C := RX4) (T := TX4) (N := 14) hx hb hts inlX4 hown hK hP 0 rfl rfl 10 (by decide) (hts _ mw_77) (fun _ h9 => h9) rfl dX4_takeRow_99 ?_
          refine lv_icmp_ge (tgt := 114) hx hb dX4_takeRow_102 (by decide) (fun c_62 => ?_) (fun c_62 => ?_)
          · have nc_62 := cv_le (a := cnt) (b := k2_80) (by omega) (by omega) c_62
            refine lv_aload_n hx hb dX4_takeRow_114 rfl (lv_at hl 2 rfl) ?_
            refine va_get (D := D) (ci := 4) (v := .ref bl) (C := RX4) (T := TX4) (N := 14) hx hb hts inlX4 hown hK hP 0 rfl rfl 3 (by decide) (hts _ mw_70) (fun _ h9 => h9) rfl dX4_takeRow_115 ?_
            obtain ⟨hk_63, b_64, x_65, hm_66, hb_67⟩ := id hbl
            have hn_b_64 := hb_67.1
            obtain ⟨k_68, ek_68⟩ := tl_at [(rd, .inr (4, [.ref tp, .ref d, .ref ft, .ref bl, .int (nI aq), .int ca, .ref wk, .int (nI sz), .ref fl, .ref sr, .int (nI cnt), .ref ca9, .ref cl, .int (nI rw)])), (d, .inl (κ 0, 6, .inl dl)), (fl, .inl (κ 2, 8, .inr (.inr (.inr (.inr ff))))), (sr, .inl (κ 0, 8, .inl sf)), (cl, .inl (κ 2, 320, .inr (.inr (.inr (.inr gcl_80)))))] hm_66
            refine va_astq hx hb hK hP hD hS 4 2 k_68 0 rfl rfl ek_68 rfl (i := nI (rw * w + k2_80)) (vp_in_nI (n := rw * w + k2_80) (by have q9 := ix_lt (R := 40) (w := w) (r := rw) (c := k2_80) (by omega) (by omega); omega) (by have q9 := ix_lt (R := 40) (w := w) (r := rw) (c := k2_80) (by omega) (by omega); omega)) dX4_takeRow_118 (fun H locs hP hD hS => ?_)
            rw [nI_clamp (by have q9 := ix_lt (R := 40) (w := w) (r := rw) (c := k2_80) (by omega) (by omega); omega)] at hP hD
            have hP : va_P D vwCl ([(rd, .inr (4, [.ref tp, .ref d, .ref ft, .ref bl, .int (nI aq), .int ca, .ref wk, .int (nI sz), .ref fl, .ref sr, .int (nI cnt), .ref ca9, .ref cl, .int (nI rw)])), (d, .inl (κ 0, 6, .inl dl)), (fl, .inl (κ 2, 8, .inr (.inr (.inr (.inr ff))))), (sr, .inl (κ 0, 8, .inl sf)), (cl, .inl (κ 2, 320, .inr (.inr (.inr (.inr (va_up gcl_80 (rw * w + k2_80) (some bl)))))))] ++ im) H := hP
            have hD : va_D A ([(rd, .inr (4, [.ref tp, .ref d, .ref ft, .ref bl, .int (nI aq), .int ca, .ref wk, .int (nI sz), .ref fl, .ref sr, .int (nI cnt), .ref ca9, .ref cl, .int (nI rw)])), (d, .inl (κ 0, 6, .inl dl)), (fl, .inl (κ 2, 8, .inr (.inr (.inr (.inr ff))))), (sr, .inl (κ 0, 8, .inl sf)), (cl, .inl (κ 2, 320, .inr (.inr (.inr (.inr (va_up gcl_80 (rw * w + k2_80) (some bl)))))))] ++ im) := hD
            have hf_70 : Lc κ im (va_up gcl_80 (rw * w + k2_80) (some bl)) (rw * w + k2_80 + 1) := Lc_add hq80_0 hbl
            generalize va_up gcl_80 (rw * w + k2_80) (some bl) = g_69 at hP hD hf_70
            refine lv_iinc (v := (nI (k2_80 + 1))) (lv' := [(2, .int (nI (k2_80 + 1))), (1, .int (nI w)), (0, .ref rd)]) hx hb dX4_takeRow_119 hl (k := 0) rfl (nI_i k2_80) (by decide) rfl (fun ls hl => ?_)
            refine lv_goto (tgt := 80) hx hb dX4_takeRow_122 (by decide) ?_
            exact ih80 _ _ _ _ (by omega) ⟨(k2_80 + 1), g_69, (by omega), hf_70, rfl, hP, hD, hS, lv_sub hl [0, 1, 2] rfl⟩
          · have nc_62 := cv_nle (a := cnt) (b := k2_80) (by omega) (by omega) c_62
            refine lv_aload_n hx hb dX4_takeRow_105 rfl (lv_at hl 2 rfl) ?_
            refine va_get (D := D) (ci := 4) (v := .ref fl) (C := RX4) (T := TX4) (N := 14) hx hb hts inlX4 hown hK hP 0 rfl rfl 8 (by decide) (hts _ mw_75) (fun _ h9 => h9) rfl dX4_takeRow_106 ?_
            refine lv_iload_n hx hb dX4_takeRow_109 rfl (lv_at hl 0 rfl) ?_
            refine va_aldq hx hb hK hP 2 2 rfl rfl (i := nI k2_80) (vp_in_nI (n := k2_80) (by omega) (by omega)) dX4_takeRow_110 ?_
            obtain ⟨q_71, e_72, k_73, m_74, h_75⟩ := hlf k2_80 (by omega)
            refine kv (v := .ref q_71) (by rw [nI_clamp (by omega)]; rw [e_72]; rfl) ?_
            refine lv_goto (tgt := 118) hx hb dX4_takeRow_111 (by decide) ?_
            obtain ⟨hk_76, b_77, x_78, hm_79, hb_80⟩ := id h_75
            have hn_b_77 := hb_80.1
            obtain ⟨k_81, ek_81⟩ := tl_at [(rd, .inr (4, [.ref tp, .ref d, .ref ft, .ref bl, .int (nI aq), .int ca, .ref wk, .int (nI sz), .ref fl, .ref sr, .int (nI cnt), .ref ca9, .ref cl, .int (nI rw)])), (d, .inl (κ 0, 6, .inl dl)), (fl, .inl (κ 2, 8, .inr (.inr (.inr (.inr ff))))), (sr, .inl (κ 0, 8, .inl sf)), (cl, .inl (κ 2, 320, .inr (.inr (.inr (.inr gcl_80)))))] hm_79
            refine va_astq hx hb hK hP hD hS 4 2 k_81 0 rfl rfl ek_81 rfl (i := nI (rw * w + k2_80)) (vp_in_nI (n := rw * w + k2_80) (by have q9 := ix_lt (R := 40) (w := w) (r := rw) (c := k2_80) (by omega) (by omega); omega) (by have q9 := ix_lt (R := 40) (w := w) (r := rw) (c := k2_80) (by omega) (by omega); omega)) dX4_takeRow_118 (fun H locs hP hD hS => ?_)
            rw [nI_clamp (by have q9 := ix_lt (R := 40) (w := w) (r := rw) (c := k2_80) (by omega) (by omega); omega)] at hP hD
            have hP : va_P D vwCl ([(rd, .inr (4, [.ref tp, .ref d, .ref ft, .ref bl, .int (nI aq), .int ca, .ref wk, .int (nI sz), .ref fl, .ref sr, .int (nI cnt), .ref ca9, .ref cl, .int (nI rw)])), (d, .inl (κ 0, 6, .inl dl)), (fl, .inl (κ 2, 8, .inr (.inr (.inr (.inr ff))))), (sr, .inl (κ 0, 8, .inl sf)), (cl, .inl (κ 2, 320, .inr (.inr (.inr (.inr (va_up gcl_80 (rw * w + k2_80) (some q_71)))))))] ++ im) H := hP
            have hD : va_D A ([(rd, .inr (4, [.ref tp, .ref d, .ref ft, .ref bl, .int (nI aq), .int ca, .ref wk, .int (nI sz), .ref fl, .ref sr, .int (nI cnt), .ref ca9, .ref cl, .int (nI rw)])), (d, .inl (κ 0, 6, .inl dl)), (fl, .inl (κ 2, 8, .inr (.inr (.inr (.inr ff))))), (sr, .inl (κ 0, 8, .inl sf)), (cl, .inl (κ 2, 320, .inr (.inr (.inr (.inr (va_up gcl_80 (rw * w + k2_80) (some q_71)))))))] ++ im) := hD
            have hf_83 : Lc κ im (va_up gcl_80 (rw * w + k2_80) (some q_71)) (rw * w + k2_80 + 1) := Lc_add hq80_0 h_75
            generalize va_up gcl_80 (rw * w + k2_80) (some q_71) = g_82 at hP hD hf_83
            refine lv_iinc (v := (nI (k2_80 + 1))) (lv' := [(2, .int (nI (k2_80 + 1))), (1, .int (nI w)), (0, .ref rd)]) hx hb dX4_takeRow_119 hl (k := 0) rfl (nI_i k2_80) (by decide) rfl (fun ls hl => ?_)
            refine lv_goto (tgt := 80) hx hb dX4_takeRow_122 (by decide) ?_
            exact ih80 _ _ _ _ (by omega) ⟨(k2_80 + 1), g_82, (by omega), hf_83, rfl, hP, hD, hS, lv_sub hl [0, 1, 2] rfl⟩
      · have nc_60 := cv_nle (a := cnt) (b := w) (by omega) (by omega) c_60
        refine lv_aload_n hx hb dX4_takeRow_44 rfl (lv_at hl 1 rfl) ?_
        refine va_get (D := D) (ci := 4) (v := .ref d) (C := RX4) (T := TX4) (N := 14) hx hb hts inlX4 hown hK hP 0 rfl rfl 1 (by decide) (hts _ mw_82) (fun _ h9 => h9) rfl dX4_takeRow_45 ?_
        refine lv_iconst (v := 4) hx hb dX4_takeRow_48 (by decide) ?_
        refine va_iald hx hb hK hP 1 0 rfl rfl (i := 4) (vp_k (by decide)) dX4_takeRow_49 ?_
        refine kv (v := .int x_57) (congrArg Value.int (ex_57)) ?_
        refine lv_iconst (v := 2) hx hb dX4_takeRow_50 (by decide) ?_
        refine lv_iand hx hb dX4_takeRow_51 ?_
        refine lv_topi (fun x_84 ex_84 => ?_)
        refine lv_if_ne (tgt := 78) hx hb dX4_takeRow_52 (by decide) (fun c_85 => ?_) (fun c_85 => ?_)
        · refine lv_iconst (v := 0) hx hb dX4_takeRow_78 (by decide) ?_
          refine lv_istore_n (lv' := [(2, .int 0), (1, .int (nI w)), (0, .ref rd)]) hx hb dX4_takeRow_79 rfl hl (by decide) rfl (fun ls hl => ?_)
          refine loop_dn (fun k9 H locs ls => ∃ (k2_80 : Nat), ∃ (gcl_80 : Nat → Option Nat), (k2_80 ≤ w) ∧ Lc κ im gcl_80 (rw * w + k2_80) ∧ w - k2_80 = k9 ∧ va_P D vwCl ([(rd, .inr (4, [.ref tp, .ref d, .ref ft, .ref bl, .int (nI aq), .int ca, .ref wk, .int (nI sz), .ref fl, .ref sr, .int (nI cnt), .ref ca9, .ref cl, .int (nI rw)])), (d, .inl (κ 0, 6, .inl dl)), (fl, .inl (κ 2, 8, .inr (.inr (.inr (.inr ff))))), (sr, .inl (κ 0, 8, .inl sf)), (cl, .inl (κ 2, 320, .inr (.inr (.inr (.inr gcl_80)))))] ++ im) H ∧ va_D A ([(rd, .inr (4, [.ref tp, .ref d, .ref ft, .ref bl, .int (nI aq), .int ca, .ref wk, .int (nI sz), .ref fl, .ref sr, .int (nI cnt), .ref ca9, .ref cl, .int (nI rw)])), (d, .inl (κ 0, 6, .inl dl)), (fl, .inl (κ 2, 8, .inr (.inr (.inr (.inr ff))))), (sr, .inl (κ 0, 8, .inl sf)), (cl, .inl (κ 2, 320, .inr (.inr (.inr (.inr gcl_80)))))] ++ im) ∧ va_S A s.heap H locs ∧ lv_has ls 3 [(2, .int (nI k2_80)), (1, .int (nI w)), (0, .ref rd)]) (fun k9 H locs ls hI80 ih80 => ?_) (w - 0) _ _ _ ⟨0, fc, (by omega), hlc, rfl, hP, hD, hS, lv_sub hl [0, 1, 2] rfl⟩
          obtain ⟨k2_80, gcl_80, hl80_0, hq80_0, hm80, hP, hD, hS, hl⟩ := hI80
          refine lv_iload_n hx hb dX4_takeRow_80 rfl (lv_at hl 0 rfl) ?_
          refine lv_iload_n hx hb dX4_takeRow_81 rfl (lv_at hl 1 rfl) ?_
          refine lv_icmp_ge (tgt := 125) hx hb dX4_takeRow_82 (by decide) (fun c_86 => ?_) (fun c_86 => ?_)
          · have nc_86 := cv_le (a := w) (b := k2_80) (by omega) (by omega) c_86
            obtain rfl : w = k2_80 := by omega
            refine lv_aload_n hx hb dX4_takeRow_125 rfl (lv_at hl 2 rfl) ?_
            refine lv_dup hx hb dX4_takeRow_126 rfl ?_
            refine va_get (D := D) (ci := 4) (v := .int (nI rw)) (C := RX4) (T := TX4) (N := 14) hx hb hts inlX4 hown hK hP 0 rfl rfl 13 (by decide) (hts _ mw_80) (fun _ h9 => h9) rfl dX4_takeRow_127 ?_
            refine lv_iconst (v := 1) hx hb dX4_takeRow_130 (by decide) ?_
            refine lv_iadd hx hb dX4_takeRow_131 ?_
            refine ki (v := (nI (rw + 1))) (nI_add rw 1) ?_
            refine va_put (D := D) (ci := 4) (v := .int (nI (rw + 1))) (ty := tyX4 13) (C := RX4) (T := TX4) (N := 14) hx hb hts inlX4 tyX4 tyX4_ok nmX4 hown hK hP hD hS 0 rfl rfl 13 (by decide) (hts _ mw_80) (fun _ h9 => h9) rfl (tyX4_ok 13 (by decide)) rfl rfl (Nat.le_of_ble_eq_true rfl) dX4_takeRow_132 (fun H locs hP hD hS => ?_)
            have hP : va_P D vwCl ([(rd, .inr (4, [.ref tp, .ref d, .ref ft, .ref bl, .int (nI aq), .int ca, .ref wk, .int (nI sz), .ref fl, .ref sr, .int (nI cnt), .ref ca9, .ref cl, .int (nI (rw + 1))])), (d, .inl (κ 0, 6, .inl dl)), (fl, .inl (κ 2, 8, .inr (.inr (.inr (.inr ff))))), (sr, .inl (κ 0, 8, .inl sf)), (cl, .inl (κ 2, 320, .inr (.inr (.inr (.inr gcl_80)))))] ++ im) H := hP
            have hD : va_D A ([(rd, .inr (4, [.ref tp, .ref d, .ref ft, .ref bl, .int (nI aq), .int ca, .ref wk, .int (nI sz), .ref fl, .ref sr, .int (nI cnt), .ref ca9, .ref cl, .int (nI (rw + 1))])), (d, .inl (κ 0, 6, .inl dl)), (fl, .inl (κ 2, 8, .inr (.inr (.inr (.inr ff))))), (sr, .inl (κ 0, 8, .inl sf)), (cl, .inl (κ 2, 320, .inr (.inr (.inr (.inr gcl_80)))))] ++ im) := hD
            refine lv_iconst (v := 0) hx hb dX4_takeRow_135 (by decide) ?_
            exact et_iret hx hb hr hlk rfl hS (0, nI aq, ca, rw + 1, gcl_80) rfl ⟨(show (rw + 1) ≤ 40 from (by first | assumption | omega | rfl | exact Or.inl (by assumption) | exact Or.inr (by assumption))), (show (0 : Int32) = 0 → (nI aq) = nI aq ∧ (rw + 1) = rw + 1 ∧ Lc κ im gcl_80 ((rw + 1) * w) from (fun _ => ⟨rfl, rfl, by rw [Nat.add_one_mul]; exact hq80_0⟩))⟩ (subP hP [0, 1, 2, 3, 4] rfl) (subD hD [0, 1, 2, 3, 4] (by decide) rfl) (Nat.le_of_ble_eq_true rfl) (Nat.le_of_ble_eq_true rfl) dX4_takeRow_136
          · have nc_86 := cv_nle (a := w) (b := k2_80) (by omega) (by omega) c_86
            refine lv_aload_n hx hb dX4_takeRow_85 rfl (lv_at hl 2 rfl) ?_
            refine va_get (D := D) (ci := 4) (v := .ref cl) (C := RX4) (T := TX4) (N := 14) hx hb hts inlX4 hown hK hP 0 rfl rfl 12 (by decide) (hts _ mw_79) (fun _ h9 => h9) rfl dX4_takeRow_86 ?_
            refine lv_aload_n hx hb dX4_takeRow_89 rfl (lv_at hl 2 rfl) ?_
            refine va_get (D := D) (ci := 4) (v := .int (nI rw)) (C := RX4) (T := TX4) (N := 14) hx hb hts inlX4 hown hK hP 0 rfl rfl 13 (by decide) (hts _ mw_80) (fun _ h9 => h9) rfl dX4_takeRow_90 ?_
            refine lv_iload_n hx hb dX4_takeRow_93 rfl (lv_at hl 1 rfl) ?_
            refine lv_imul hx hb dX4_takeRow_94 ?_
            refine ki (v := (nI (rw * w))) (pk_mul rw w) ?_
            refine lv_iload_n hx hb dX4_takeRow_95 rfl (lv_at hl 0 rfl) ?_
            refine lv_iadd hx hb dX4_takeRow_96 ?_
            refine ki (v := (nI (rw * w + k2_80))) (nI_add (rw * w) k2_80) ?_
            refine lv_iload_n hx hb dX4_takeRow_97 rfl (lv_at hl 0 rfl) ?_
            refine lv_aload_n hx hb dX4_takeRow_98 rfl (lv_at hl 2 rfl) ?_
            refine va_get (D := D) (ci := 4) (v := .int (nI cnt)) (C := RX4) (T := TX4) (N := 14) hx hb hts inlX4 hown hK hP 0 rfl rfl 10 (by decide) (hts _ mw_77) (fun _ h9 => h9) rfl dX4_takeRow_99 ?_
            refine lv_icmp_ge (tgt := 114) hx hb dX4_takeRow_102 (by decide) (fun c_87 => ?_) (fun c_87 => ?_)
            · have nc_87 := cv_le (a := cnt) (b := k2_80) (by omega) (by omega) c_87
              refine lv_aload_n hx hb dX4_takeRow_114 rfl (lv_at hl 2 rfl) ?_
              refine va_get (D := D) (ci := 4) (v := .ref bl) (C := RX4) (T := TX4) (N := 14) hx hb hts inlX4 hown hK hP 0 rfl rfl 3 (by decide) (hts _ mw_70) (fun _ h9 => h9) rfl dX4_takeRow_115 ?_
              obtain ⟨hk_88, b_89, x_90, hm_91, hb_92⟩ := id hbl
              have hn_b_89 := hb_92.1
              obtain ⟨k_93, ek_93⟩ := tl_at [(rd, .inr (4, [.ref tp, .ref d, .ref ft, .ref bl, .int (nI aq), .int ca, .ref wk, .int (nI sz), .ref fl, .ref sr, .int (nI cnt), .ref ca9, .ref cl, .int (nI rw)])), (d, .inl (κ 0, 6, .inl dl)), (fl, .inl (κ 2, 8, .inr (.inr (.inr (.inr ff))))), (sr, .inl (κ 0, 8, .inl sf)), (cl, .inl (κ 2, 320, .inr (.inr (.inr (.inr gcl_80)))))] hm_91
              refine va_astq hx hb hK hP hD hS 4 2 k_93 0 rfl rfl ek_93 rfl (i := nI (rw * w + k2_80)) (vp_in_nI (n := rw * w + k2_80) (by have q9 := ix_lt (R := 40) (w := w) (r := rw) (c := k2_80) (by omega) (by omega); omega) (by have q9 := ix_lt (R := 40) (w := w) (r := rw) (c := k2_80) (by omega) (by omega); omega)) dX4_takeRow_118 (fun H locs hP hD hS => ?_)
              rw [nI_clamp (by have q9 := ix_lt (R := 40) (w := w) (r := rw) (c := k2_80) (by omega) (by omega); omega)] at hP hD
              have hP : va_P D vwCl ([(rd, .inr (4, [.ref tp, .ref d, .ref ft, .ref bl, .int (nI aq), .int ca, .ref wk, .int (nI sz), .ref fl, .ref sr, .int (nI cnt), .ref ca9, .ref cl, .int (nI rw)])), (d, .inl (κ 0, 6, .inl dl)), (fl, .inl (κ 2, 8, .inr (.inr (.inr (.inr ff))))), (sr, .inl (κ 0, 8, .inl sf)), (cl, .inl (κ 2, 320, .inr (.inr (.inr (.inr (va_up gcl_80 (rw * w + k2_80) (some bl)))))))] ++ im) H := hP
              have hD : va_D A ([(rd, .inr (4, [.ref tp, .ref d, .ref ft, .ref bl, .int (nI aq), .int ca, .ref wk, .int (nI sz), .ref fl, .ref sr, .int (nI cnt), .ref ca9, .ref cl, .int (nI rw)])), (d, .inl (κ 0, 6, .inl dl)), (fl, .inl (κ 2, 8, .inr (.inr (.inr (.inr ff))))), (sr, .inl (κ 0, 8, .inl sf)), (cl, .inl (κ 2, 320, .inr (.inr (.inr (.inr (va_up gcl_80 (rw * w + k2_80) (some bl)))))))] ++ im) := hD
              have hf_95 : Lc κ im (va_up gcl_80 (rw * w + k2_80) (some bl)) (rw * w + k2_80 + 1) := Lc_add hq80_0 hbl
              generalize va_up gcl_80 (rw * w + k2_80) (some bl) = g_94 at hP hD hf_95
              refine lv_iinc (v := (nI (k2_80 + 1))) (lv' := [(2, .int (nI (k2_80 + 1))), (1, .int (nI w)), (0, .ref rd)]) hx hb dX4_takeRow_119 hl (k := 0) rfl (nI_i k2_80) (by decide) rfl (fun ls hl => ?_)
              refine lv_goto (tgt := 80) hx hb dX4_takeRow_122 (by decide) ?_
              exact ih80 _ _ _ _ (by omega) ⟨(k2_80 + 1), g_94, (by omega), hf_95, rfl, hP, hD, hS, lv_sub hl [0, 1, 2] rfl⟩
            · have nc_87 := cv_nle (a := cnt) (b := k2_80) (by omega) (by omega) c_87
              refine lv_aload_n hx hb dX4_takeRow_105 rfl (lv_at hl 2 rfl) ?_
              refine va_get (D := D) (ci := 4) (v := .ref fl) (C := RX4) (T := TX4) (N := 14) hx hb hts inlX4 hown hK hP 0 rfl rfl 8 (by decide) (hts _ mw_75) (fun _ h9 => h9) rfl dX4_takeRow_106 ?_
              refine lv_iload_n hx hb dX4_takeRow_109 rfl (lv_at hl 0 rfl) ?_
              refine va_aldq hx hb hK hP 2 2 rfl rfl (i := nI k2_80) (vp_in_nI (n := k2_80) (by omega) (by omega)) dX4_takeRow_110 ?_
              obtain ⟨q_96, e_97, k_98, m_99, h_100⟩ := hlf k2_80 (by omega)
              refine kv (v := .ref q_96) (by rw [nI_clamp (by omega)]; rw [e_97]; rfl) ?_
              refine lv_goto (tgt := 118) hx hb dX4_takeRow_111 (by decide) ?_
              obtain ⟨hk_101, b_102, x_103, hm_104, hb_105⟩ := id h_100
              have hn_b_102 := hb_105.1
              obtain ⟨k_106, ek_106⟩ := tl_at [(rd, .inr (4, [.ref tp, .ref d, .ref ft, .ref bl, .int (nI aq), .int ca, .ref wk, .int (nI sz), .ref fl, .ref sr, .int (nI cnt), .ref ca9, .ref cl, .int (nI rw)])), (d, .inl (κ 0, 6, .inl dl)), (fl, .inl (κ 2, 8, .inr (.inr (.inr (.inr ff))))), (sr, .inl (κ 0, 8, .inl sf)), (cl, .inl (κ 2, 320, .inr (.inr (.inr (.inr gcl_80)))))] hm_104
              refine va_astq hx hb hK hP hD hS 4 2 k_106 0 rfl rfl ek_106 rfl (i := nI (rw * w + k2_80)) (vp_in_nI (n := rw * w + k2_80) (by have q9 := ix_lt (R := 40) (w := w) (r := rw) (c := k2_80) (by omega) (by omega); omega) (by have q9 := ix_lt (R := 40) (w := w) (r := rw) (c := k2_80) (by omega) (by omega); omega)) dX4_takeRow_118 (fun H locs hP hD hS => ?_)
              rw [nI_clamp (by have q9 := ix_lt (R := 40) (w := w) (r := rw) (c := k2_80) (by omega) (by omega); omega)] at hP hD
              have hP : va_P D vwCl ([(rd, .inr (4, [.ref tp, .ref d, .ref ft, .ref bl, .int (nI aq), .int ca, .ref wk, .int (nI sz), .ref fl, .ref sr, .int (nI cnt), .ref ca9, .ref cl, .int (nI rw)])), (d, .inl (κ 0, 6, .inl dl)), (fl, .inl (κ 2, 8, .inr (.inr (.inr (.inr ff))))), (sr, .inl (κ 0, 8, .inl sf)), (cl, .inl (κ 2, 320, .inr (.inr (.inr (.inr (va_up gcl_80 (rw * w + k2_80) (some q_96)))))))] ++ im) H := hP
              have hD : va_D A ([(rd, .inr (4, [.ref tp, .ref d, .ref ft, .ref bl, .int (nI aq), .int ca, .ref wk, .int (nI sz), .ref fl, .ref sr, .int (nI cnt), .ref ca9, .ref cl, .int (nI rw)])), (d, .inl (κ 0, 6, .inl dl)), (fl, .inl (κ 2, 8, .inr (.inr (.inr (.inr ff))))), (sr, .inl (κ 0, 8, .inl sf)), (cl, .inl (κ 2, 320, .inr (.inr (.inr (.inr (va_up gcl_80 (rw * w + k2_80) (some q_96)))))))] ++ im) := hD
              have hf_108 : Lc κ im (va_up gcl_80 (rw * w + k2_80) (some q_96)) (rw * w + k2_80 + 1) := Lc_add hq80_0 h_100
              generalize va_up gcl_80 (rw * w + k2_80) (some q_96) = g_107 at hP hD hf_108
              refine lv_iinc (v := (nI (k2_80 + 1))) (lv' := [(2, .int (nI (k2_80 + 1))), (1, .int (nI w)), (0, .ref rd)]) hx hb dX4_takeRow_119 hl (k := 0) rfl (nI_i k2_80) (by decide) rfl (fun ls hl => ?_)
              refine lv_goto (tgt := 80) hx hb dX4_takeRow_122 (by decide) ?_
              exact ih80 _ _ _ _ (by omega) ⟨(k2_80 + 1), g_107, (by omega), hf_108, rfl, hP, hD, hS, lv_sub hl [0, 1, 2] rfl⟩
        · refine lv_aload_n hx hb dX4_takeRow_55 rfl (lv_at hl 1 rfl) ?_
          refine lv_aload_n hx hb dX4_takeRow_56 rfl (lv_at hl 1 rfl) ?_
          refine va_get (D := D) (ci := 4) (v := .int (nI cnt)) (C := RX4) (T := TX4) (N := 14) hx hb hts inlX4 hown hK hP 0 rfl rfl 10 (by decide) (hts _ mw_77) (fun _ h9 => h9) rfl dX4_takeRow_57 ?_
          refine va_put (D := D) (ci := 4) (v := .int (nI cnt)) (ty := tyX4 5) (C := RX4) (T := TX4) (N := 14) hx hb hts inlX4 tyX4 tyX4_ok nmX4 hown hK hP hD hS 0 rfl rfl 5 (by decide) (hts _ mw_72) (fun _ h9 => h9) rfl (tyX4_ok 5 (by decide)) rfl rfl (Nat.le_of_ble_eq_true rfl) dX4_takeRow_60 (fun H locs hP hD hS => ?_)
          have hP : va_P D vwCl ([(rd, .inr (4, [.ref tp, .ref d, .ref ft, .ref bl, .int (nI aq), .int (nI cnt), .ref wk, .int (nI sz), .ref fl, .ref sr, .int (nI cnt), .ref ca9, .ref cl, .int (nI rw)])), (d, .inl (κ 0, 6, .inl dl)), (fl, .inl (κ 2, 8, .inr (.inr (.inr (.inr ff))))), (sr, .inl (κ 0, 8, .inl sf)), (cl, .inl (κ 2, 320, .inr (.inr (.inr (.inr fc)))))] ++ im) H := hP
          have hD : va_D A ([(rd, .inr (4, [.ref tp, .ref d, .ref ft, .ref bl, .int (nI aq), .int (nI cnt), .ref wk, .int (nI sz), .ref fl, .ref sr, .int (nI cnt), .ref ca9, .ref cl, .int (nI rw)])), (d, .inl (κ 0, 6, .inl dl)), (fl, .inl (κ 2, 8, .inr (.inr (.inr (.inr ff))))), (sr, .inl (κ 0, 8, .inl sf)), (cl, .inl (κ 2, 320, .inr (.inr (.inr (.inr fc)))))] ++ im) := hD
          refine lv_aload_n hx hb dX4_takeRow_63 rfl (lv_at hl 1 rfl) ?_
          refine lv_aload_n hx hb dX4_takeRow_64 rfl (lv_at hl 1 rfl) ?_
          refine va_get (D := D) (ci := 4) (v := .ref sr) (C := RX4) (T := TX4) (N := 14) hx hb hts inlX4 hown hK hP 0 rfl rfl 9 (by decide) (hts _ mw_76) (fun _ h9 => h9) rfl dX4_takeRow_65 ?_
          refine lv_iload_n hx hb dX4_takeRow_68 rfl (lv_at hl 0 rfl) ?_
          refine va_iald hx hb hK hP 3 0 rfl rfl (i := nI w) (vp_in_nI (n := w) (by omega) (by omega)) dX4_takeRow_69 ?_
          refine kv (v := .int (sf w)) (by rw [nI_clamp (by omega)]) ?_
          obtain ⟨x_109, ex_109⟩ : ∃ y9 : Int32, sf w = y9 := ⟨_, rfl⟩
          refine kv (v := .int x_109) (congrArg Value.int ex_109) ?_
          refine lv_iconst (v := 1) hx hb dX4_takeRow_70 (by decide) ?_
          refine lv_isub hx hb dX4_takeRow_71 ?_
          refine lv_topi (fun x_110 ex_110 => ?_)
          refine va_put (D := D) (ci := 4) (v := .int x_110) (ty := tyX4 4) (C := RX4) (T := TX4) (N := 14) hx hb hts inlX4 tyX4 tyX4_ok nmX4 hown hK hP hD hS 0 rfl rfl 4 (by decide) (hts _ mw_71) (fun _ h9 => h9) rfl (tyX4_ok 4 (by decide)) rfl rfl (Nat.le_of_ble_eq_true rfl) dX4_takeRow_72 (fun H locs hP hD hS => ?_)
          have hP : va_P D vwCl ([(rd, .inr (4, [.ref tp, .ref d, .ref ft, .ref bl, .int x_110, .int (nI cnt), .ref wk, .int (nI sz), .ref fl, .ref sr, .int (nI cnt), .ref ca9, .ref cl, .int (nI rw)])), (d, .inl (κ 0, 6, .inl dl)), (fl, .inl (κ 2, 8, .inr (.inr (.inr (.inr ff))))), (sr, .inl (κ 0, 8, .inl sf)), (cl, .inl (κ 2, 320, .inr (.inr (.inr (.inr fc)))))] ++ im) H := hP
          have hD : va_D A ([(rd, .inr (4, [.ref tp, .ref d, .ref ft, .ref bl, .int x_110, .int (nI cnt), .ref wk, .int (nI sz), .ref fl, .ref sr, .int (nI cnt), .ref ca9, .ref cl, .int (nI rw)])), (d, .inl (κ 0, 6, .inl dl)), (fl, .inl (κ 2, 8, .inr (.inr (.inr (.inr ff))))), (sr, .inl (κ 0, 8, .inl sf)), (cl, .inl (κ 2, 320, .inr (.inr (.inr (.inr fc)))))] ++ im) := hD
          refine lv_bipush (v := 8) hx hb dX4_takeRow_75 (by decide) ?_
          exact et_iret hx hb hr hlk rfl hS (8, x_110, nI cnt, rw, fc) rfl ⟨(show rw ≤ 40 from (by first | assumption | omega | rfl | exact Or.inl (by assumption) | exact Or.inr (by assumption))), (show (8 : Int32) = 0 → x_110 = nI aq ∧ rw = rw + 1 ∧ Lc κ im fc ((rw + 1) * w) from (fun h9 => absurd h9 (by decide)))⟩ (subP hP [0, 1, 2, 3, 4] rfl) (subD hD [0, 1, 2, 3, 4] (by decide) rfl) (Nat.le_of_ble_eq_true rfl) (Nat.le_of_ble_eq_true rfl) dX4_takeRow_77
    · refine lv_aload_n hx hb dX4_takeRow_25 rfl (lv_at hl 1 rfl) ?_
      refine lv_aload_n hx hb dX4_takeRow_26 rfl (lv_at hl 1 rfl) ?_
      refine va_get (D := D) (ci := 4) (v := .int (nI cnt)) (C := RX4) (T := TX4) (N := 14) hx hb hts inlX4 hown hK hP 0 rfl rfl 10 (by decide) (hts _ mw_77) (fun _ h9 => h9) rfl dX4_takeRow_27 ?_
      refine va_put (D := D) (ci := 4) (v := .int (nI cnt)) (ty := tyX4 5) (C := RX4) (T := TX4) (N := 14) hx hb hts inlX4 tyX4 tyX4_ok nmX4 hown hK hP hD hS 0 rfl rfl 5 (by decide) (hts _ mw_72) (fun _ h9 => h9) rfl (tyX4_ok 5 (by decide)) rfl rfl (Nat.le_of_ble_eq_true rfl) dX4_takeRow_30 (fun H locs hP hD hS => ?_)
      have hP : va_P D vwCl ([(rd, .inr (4, [.ref tp, .ref d, .ref ft, .ref bl, .int (nI aq), .int (nI cnt), .ref wk, .int (nI sz), .ref fl, .ref sr, .int (nI cnt), .ref ca9, .ref cl, .int (nI rw)])), (d, .inl (κ 0, 6, .inl dl)), (fl, .inl (κ 2, 8, .inr (.inr (.inr (.inr ff))))), (sr, .inl (κ 0, 8, .inl sf)), (cl, .inl (κ 2, 320, .inr (.inr (.inr (.inr fc)))))] ++ im) H := hP
      have hD : va_D A ([(rd, .inr (4, [.ref tp, .ref d, .ref ft, .ref bl, .int (nI aq), .int (nI cnt), .ref wk, .int (nI sz), .ref fl, .ref sr, .int (nI cnt), .ref ca9, .ref cl, .int (nI rw)])), (d, .inl (κ 0, 6, .inl dl)), (fl, .inl (κ 2, 8, .inr (.inr (.inr (.inr ff))))), (sr, .inl (κ 0, 8, .inl sf)), (cl, .inl (κ 2, 320, .inr (.inr (.inr (.inr fc)))))] ++ im) := hD
      refine lv_bipush (v := 8) hx hb dX4_takeRow_33 (by decide) ?_
      exact et_iret hx hb hr hlk rfl hS (8, nI aq, nI cnt, rw, fc) rfl ⟨(show rw ≤ 40 from (by first | assumption | omega | rfl | exact Or.inl (by assumption) | exact Or.inr (by assumption))), (show (8 : Int32) = 0 → (nI aq) = nI aq ∧ rw = rw + 1 ∧ Lc κ im fc ((rw + 1) * w) from (fun h9 => absurd h9 (by decide)))⟩ (subP hP [0, 1, 2, 3, 4] rfl) (subD hD [0, 1, 2, 3, 4] (by decide) rfl) (Nat.le_of_ble_eq_true rfl) (Nat.le_of_ble_eq_true rfl) dX4_takeRow_35
set_option maxHeartbeats 4000000 in
set_option maxRecDepth 100000 in
theorem c_X4_takeLine_r (l : Launch) (D : va_G) (κ : Nat → ClassId) (κq : Nat → Nat) (im : va_W) (rd : Nat) (tp : Nat) (d : Nat) (ft : Nat) (bl : Nat) (aq : Nat) (wk : Nat) (sz : Nat) (fl : Nat) (sr : Nat) (cnt : Nat) (cl : Nat) (rw : Nat) (ca : Int32) (tb : Nat) (L : Nat) (tf : Nat → Int32) (dl : Nat → Int32) (wf : Nat → Int32) (ff : Nat → Option Nat) (sf : Nat → Int32) (fc : Nat → Option Nat) (kb : Nat) (nb : Nat) (ca9 : Nat) (w : Nat) (mo : Nat) (hL8 : L ≤ 800) (hat : aq < L) (hsz : sz ≤ 20) (hwf : sb_Fit wf) (hbl : Cl κ im bl kb nb) (hc8 : cnt ≤ 8) (hlf : Lc κ im ff cnt) (hmo : mo ≤ 40) (hr40 : rw ≤ 40) (hca : Ca κ im ca9 w) (hlc : Lc κ im fc (rw * w)) (hw1 : 1 ≤ w) (hw8 : w ≤ 8) : Et l yX4_takeLine (wl yX4_takeLine cX4_takeLine 3 (some .int)) { frames := 8, cells := 16, slots := 192, locals := 169 } D κ κq [.ref rd, .int (nI mo)] ([(rd, .inr (4, [.ref tp, .ref d, .ref ft, .ref bl, .int (nI aq), .int ca, .ref wk, .int (nI sz), .ref fl, .ref sr, .int (nI cnt), .ref ca9, .ref cl, .int (nI rw)])), (tp, .inr (8, [.ref tb, .int (nI L)])), (tb, .inl (κ 0, 800, .inl tf)), (d, .inl (κ 0, 6, .inl dl)), (wk, .inl (κ 1, 20, .inl wf)), (fl, .inl (κ 2, 8, .inr (.inr (.inr (.inr ff))))), (sr, .inl (κ 0, 8, .inl sf)), (cl, .inl (κ 2, 320, .inr (.inr (.inr (.inr fc)))))] ++ im) (fun u9 : Int32 × Int32 × Int32 × Nat × Nat × Nat × (Nat → Int32) × (Nat → Option Nat) × (Nat → Int32) × (Nat → Option Nat) × va_W => some (.int u9.1)) (fun u9 : Int32 × Int32 × Int32 × Nat × Nat × Nat × (Nat → Int32) × (Nat → Option Nat) × (Nat → Int32) × (Nat → Option Nat) × va_W => u9.2.2.2.1 ≤ 20 ∧ sb_Fit u9.2.2.2.2.2.2.1 ∧ u9.2.2.2.2.1 ≤ 8 ∧ u9.2.2.2.2.2.1 ≤ 40 ∧ Sb im u9.2.2.2.2.2.2.2.2.2.2 ∧ Lc κ u9.2.2.2.2.2.2.2.2.2.2 u9.2.2.2.2.2.2.2.1 u9.2.2.2.2.1 ∧ (u9.1 = 0 → (∃ j : Nat, j ≤ L ∧ u9.2.1 = nI j) ∧ u9.2.2.2.2.2.1 = rw + 1 ∧ Lc κ u9.2.2.2.2.2.2.2.2.2.2 u9.2.2.2.2.2.2.2.2.2.1 ((rw + 1) * w) ∧ rw < mo)) (fun u9 : Int32 × Int32 × Int32 × Nat × Nat × Nat × (Nat → Int32) × (Nat → Option Nat) × (Nat → Int32) × (Nat → Option Nat) × va_W => ([(rd, .inr (4, [.ref tp, .ref d, .ref ft, .ref bl, .int u9.2.1, .int u9.2.2.1, .ref wk, .int (nI u9.2.2.2.1), .ref fl, .ref sr, .int (nI u9.2.2.2.2.1), .ref ca9, .ref cl, .int (nI u9.2.2.2.2.2.1)])), (tp, .inr (8, [.ref tb, .int (nI L)])), (tb, .inl (κ 0, 800, .inl tf)), (d, .inl (κ 0, 6, .inl dl)), (wk, .inl (κ 1, 20, .inl u9.2.2.2.2.2.2.1)), (fl, .inl (κ 2, 8, .inr (.inr (.inr (.inr u9.2.2.2.2.2.2.2.1))))), (sr, .inl (κ 0, 8, .inl u9.2.2.2.2.2.2.2.2.1)), (cl, .inl (κ 2, 320, .inr (.inr (.inr (.inr u9.2.2.2.2.2.2.2.2.2.1)))))] ++ u9.2.2.2.2.2.2.2.2.2.2)) := by
  refine et_of (by decide +kernel) (Nat.le_of_ble_eq_true rfl) ?_
  intro p e s m args below meth c A ls hx hb hr hml hts hown hlk hin hKK hK hA hP hD hS hE hl
  have hS : va_S A s.heap s.heap [] := hS
  have hP : va_P D vwCl ([(rd, .inr (4, [.ref tp, .ref d, .ref ft, .ref bl, .int (nI aq), .int ca, .ref wk, .int (nI sz), .ref fl, .ref sr, .int (nI cnt), .ref ca9, .ref cl, .int (nI rw)])), (tp, .inr (8, [.ref tb, .int (nI L)])), (tb, .inl (κ 0, 800, .inl tf)), (d, .inl (κ 0, 6, .inl dl)), (wk, .inl (κ 1, 20, .inl wf)), (fl, .inl (κ 2, 8, .inr (.inr (.inr (.inr ff))))), (sr, .inl (κ 0, 8, .inl sf)), (cl, .inl (κ 2, 320, .inr (.inr (.inr (.inr fc)))))] ++ im) s.heap := hP
  have hD : va_D A ([(rd, .inr (4, [.ref tp, .ref d, .ref ft, .ref bl, .int (nI aq), .int ca, .ref wk, .int (nI sz), .ref fl, .ref sr, .int (nI cnt), .ref ca9, .ref cl, .int (nI rw)])), (tp, .inr (8, [.ref tb, .int (nI L)])), (tb, .inl (κ 0, 800, .inl tf)), (d, .inl (κ 0, 6, .inl dl)), (wk, .inl (κ 1, 20, .inl wf)), (fl, .inl (κ 2, 8, .inr (.inr (.inr (.inr ff))))), (sr, .inl (κ 0, 8, .inl sf)), (cl, .inl (κ 2, 320, .inr (.inr (.inr (.inr fc)))))] ++ im) := hD
  have hFX : FX p s m args c cX4_takeLine 3 RX4 := ⟨hx, hb, hml, hown, hts⟩
  have hl : lv_has ls 3 [(0, .ref rd), (1, .int (nI mo))] := hl
  refine lv_aload_n hx hb dX4_takeLine_0 rfl (lv_at hl 0 rfl) ?_
  refine va_get (D := D) (ci := 4) (v := .int (nI rw)) (C := RX4) (T := TX4) (N := 14) hx hb hts inlX4 hown hK hP 0 rfl rfl 13 (by decide) (hts _ mw_80) (fun _ h9 => h9) rfl dX4_takeLine_1 ?_
  refine lv_iload_n hx hb dX4_takeLine_4 rfl (lv_at hl 1 rfl) ?_
  refine lv_icmp_lt (tgt := 13) hx hb dX4_takeLine_5 (by decide) (fun c_1 => ?_) (fun c_1 => ?_)
  · have nc_1 := cv_lt (a := rw) (b := mo) (by omega) (by omega) c_1
    refine lv_aload_n hx hb dX4_takeLine_13 rfl (lv_at hl 0 rfl) ?_
    refine et_VT (CR := [(cl, .inl (κ 2, 320, .inr (.inr (.inr (.inr fc)))))]) (As := []) (rest := []) hFX hKK hE hP hD hS hA (c_X4_splitLine l D κ κq im rd tp d ft bl aq wk sz fl sr cnt cl rw ca (.ref ca9) tb L tf dl wf ff sf kb nb (by omega) (by omega) (by omega) hwf hbl) 0 gV_X4_100 hdV_X4_splitLine ⟨Nat.le_of_ble_eq_true rfl, Nat.le_of_ble_eq_true rfl⟩ rfl rfl (Nat.le_of_ble_eq_true rfl) dX4_takeLine_14 ⟨Nat.le_of_ble_eq_true rfl, Nat.le_of_ble_eq_true rfl⟩ hl.1 [0, 1, 2, 3, 4, 5, 6] [7] rfl rfl (by decide) (by decide) (by decide) hP 0 4 rfl rfl rfl (fun u_11 H locs hp_12 hP hD hS => ?_)
    refine W.widen (k := 16) (n := 192) (Nat.le_refl _) (Nat.le_refl _) ?_
    obtain ⟨r__2, y__3, yc__4, s__5, n9__6, g__7, gf__8, gs__9, im2__10⟩ := u_11
    replace hP : va_P D vwCl ([(rd, .inr (4, [.ref tp, .ref d, .ref ft, .ref bl, .int (nI y__3), .int yc__4, .ref wk, .int (nI s__5), .ref fl, .ref sr, .int (nI n9__6), .ref ca9, .ref cl, .int (nI rw)])), (tp, .inr (8, [.ref tb, .int (nI L)])), (tb, .inl (κ 0, 800, .inl tf)), (d, .inl (κ 0, 6, .inl dl)), (wk, .inl (κ 1, 20, .inl g__7)), (fl, .inl (κ 2, 8, .inr (.inr (.inr (.inr gf__8))))), (sr, .inl (κ 0, 8, .inl gs__9)), (cl, .inl (κ 2, 320, .inr (.inr (.inr (.inr fc)))))] ++ im2__10) H := subP (C := [(cl, .inl (κ 2, 320, .inr (.inr (.inr (.inr fc))))), (rd, .inr (4, [.ref tp, .ref d, .ref ft, .ref bl, .int (nI y__3), .int yc__4, .ref wk, .int (nI s__5), .ref fl, .ref sr, .int (nI n9__6), .ref ca9, .ref cl, .int (nI rw)])), (tp, .inr (8, [.ref tb, .int (nI L)])), (tb, .inl (κ 0, 800, .inl tf)), (d, .inl (κ 0, 6, .inl dl)), (wk, .inl (κ 1, 20, .inl g__7)), (fl, .inl (κ 2, 8, .inr (.inr (.inr (.inr gf__8))))), (sr, .inl (κ 0, 8, .inl gs__9))]) hP [1, 2, 3, 4, 5, 6, 7, 0] rfl
    replace hD : va_D A ([(rd, .inr (4, [.ref tp, .ref d, .ref ft, .ref bl, .int (nI y__3), .int yc__4, .ref wk, .int (nI s__5), .ref fl, .ref sr, .int (nI n9__6), .ref ca9, .ref cl, .int (nI rw)])), (tp, .inr (8, [.ref tb, .int (nI L)])), (tb, .inl (κ 0, 800, .inl tf)), (d, .inl (κ 0, 6, .inl dl)), (wk, .inl (κ 1, 20, .inl g__7)), (fl, .inl (κ 2, 8, .inr (.inr (.inr (.inr gf__8))))), (sr, .inl (κ 0, 8, .inl gs__9)), (cl, .inl (κ 2, 320, .inr (.inr (.inr (.inr fc)))))] ++ im2__10) := subD (C := [(cl, .inl (κ 2, 320, .inr (.inr (.inr (.inr fc))))), (rd, .inr (4, [.ref tp, .ref d, .ref ft, .ref bl, .int (nI y__3), .int yc__4, .ref wk, .int (nI s__5), .ref fl, .ref sr, .int (nI n9__6), .ref ca9, .ref cl, .int (nI rw)])), (tp, .inr (8, [.ref tb, .int (nI L)])), (tb, .inl (κ 0, 800, .inl tf)), (d, .inl (κ 0, 6, .inl dl)), (wk, .inl (κ 1, 20, .inl g__7)), (fl, .inl (κ 2, 8, .inr (.inr (.inr (.inr gf__8))))), (sr, .inl (κ 0, 8, .inl gs__9))]) hD [1, 2, 3, 4, 5, 6, 7, 0] (by decide) rfl
    replace hp_12 : y__3 ≤ L ∧ s__5 ≤ 20 ∧ sb_Fit g__7 ∧ n9__6 ≤ 8 ∧ (r__2 = 0 → 1 ≤ n9__6) ∧ Sb im im2__10 ∧ Lc κ im2__10 gf__8 n9__6 := hp_12
    obtain ⟨h_13, h_14, h_15, h_16, h_17, h_18, h_19⟩ := hp_12
    replace hbl := hbl.up h_18
    replace hlf := hlf.up h_18
    replace hca := hca.up h_18
    replace hlc := hlc.up h_18
    refine W.eq (g2 := F0 m 17 ls [.int r__2]) rfl ?_
    refine lv_istore_n (lv' := [(2, .int r__2), (0, .ref rd), (1, .int (nI mo))]) hx hb dX4_takeLine_17 rfl hl (by decide) rfl (fun ls hl => ?_)
    refine lv_iload_n hx hb dX4_takeLine_18 rfl (lv_at hl 0 rfl) ?_
    refine lv_if_eq (tgt := 24) hx hb dX4_takeLine_19 (by decide) (fun c_20 => ?_) (fun c_20 => ?_)
    · have hcn := h_17 c_20
      refine lv_aload_n hx hb dX4_takeLine_24 rfl (lv_at hl 1 rfl) ?_
      refine va_get (D := D) (ci := 4) (v := .ref ca9) (C := RX4) (T := TX4) (N := 14) hx hb hts inlX4 hown hK hP 0 rfl rfl 11 (by decide) (hts _ mw_78) (fun _ h9 => h9) rfl dX4_takeLine_25 ?_
      refine lv_ifnonnull (tgt := 46) hx hb dX4_takeLine_28 (by decide) ?_
      refine lv_aload_n hx hb dX4_takeLine_46 rfl (lv_at hl 1 rfl) ?_
      refine va_get (D := D) (ci := 4) (v := .ref ca9) (C := RX4) (T := TX4) (N := 14) hx hb hts inlX4 hown hK hP 0 rfl rfl 11 (by decide) (hts _ mw_78) (fun _ h9 => h9) rfl dX4_takeLine_47 ?_
      refine lv_ifnonnull (tgt := 64) hx hb dX4_takeLine_50 (by decide) ?_
      refine lv_aload_n hx hb dX4_takeLine_64 rfl (lv_at hl 1 rfl) ?_
      refine et_VT (CR := [(tp, .inr (8, [.ref tb, .int (nI L)])), (tb, .inl (κ 0, 800, .inl tf)), (wk, .inl (κ 1, 20, .inl g__7))]) (As := []) (rest := []) hFX hKK hE hP hD hS hA (c_X4_takeRow l D κ κq im2__10 rd tp d ft bl y__3 wk s__5 fl sr n9__6 cl rw yc__4 dl gf__8 gs__9 fc ca9 w kb nb h_19 hlc hca hbl (by omega) (by omega) (by omega) (by omega) (by omega)) 0 gV_X4_112 hdV_X4_takeRow ⟨Nat.le_of_ble_eq_true rfl, Nat.le_of_ble_eq_true rfl⟩ rfl rfl (Nat.le_of_ble_eq_true rfl) dX4_takeLine_65 ⟨Nat.le_of_ble_eq_true rfl, Nat.le_of_ble_eq_true rfl⟩ hl.1 [0, 3, 5, 6, 7] [1, 2, 4] rfl rfl (by decide) (by decide) (by decide) hP 0 4 rfl rfl rfl (fun u_26 H locs hp_27 hP hD hS => ?_)
      refine W.widen (k := 16) (n := 192) (Nat.le_refl _) (Nat.le_refl _) ?_
      obtain ⟨r__21, ya__22, yc__23, yr__24, gc__25⟩ := u_26
      replace hP : va_P D vwCl ([(rd, .inr (4, [.ref tp, .ref d, .ref ft, .ref bl, .int ya__22, .int yc__23, .ref wk, .int (nI s__5), .ref fl, .ref sr, .int (nI n9__6), .ref ca9, .ref cl, .int (nI yr__24)])), (tp, .inr (8, [.ref tb, .int (nI L)])), (tb, .inl (κ 0, 800, .inl tf)), (d, .inl (κ 0, 6, .inl dl)), (wk, .inl (κ 1, 20, .inl g__7)), (fl, .inl (κ 2, 8, .inr (.inr (.inr (.inr gf__8))))), (sr, .inl (κ 0, 8, .inl gs__9)), (cl, .inl (κ 2, 320, .inr (.inr (.inr (.inr gc__25)))))] ++ im2__10) H := subP (C := [(tp, .inr (8, [.ref tb, .int (nI L)])), (tb, .inl (κ 0, 800, .inl tf)), (wk, .inl (κ 1, 20, .inl g__7)), (rd, .inr (4, [.ref tp, .ref d, .ref ft, .ref bl, .int ya__22, .int yc__23, .ref wk, .int (nI s__5), .ref fl, .ref sr, .int (nI n9__6), .ref ca9, .ref cl, .int (nI yr__24)])), (d, .inl (κ 0, 6, .inl dl)), (fl, .inl (κ 2, 8, .inr (.inr (.inr (.inr gf__8))))), (sr, .inl (κ 0, 8, .inl gs__9)), (cl, .inl (κ 2, 320, .inr (.inr (.inr (.inr gc__25)))))]) hP [3, 0, 1, 4, 2, 5, 6, 7] rfl
      replace hD : va_D A ([(rd, .inr (4, [.ref tp, .ref d, .ref ft, .ref bl, .int ya__22, .int yc__23, .ref wk, .int (nI s__5), .ref fl, .ref sr, .int (nI n9__6), .ref ca9, .ref cl, .int (nI yr__24)])), (tp, .inr (8, [.ref tb, .int (nI L)])), (tb, .inl (κ 0, 800, .inl tf)), (d, .inl (κ 0, 6, .inl dl)), (wk, .inl (κ 1, 20, .inl g__7)), (fl, .inl (κ 2, 8, .inr (.inr (.inr (.inr gf__8))))), (sr, .inl (κ 0, 8, .inl gs__9)), (cl, .inl (κ 2, 320, .inr (.inr (.inr (.inr gc__25)))))] ++ im2__10) := subD (C := [(tp, .inr (8, [.ref tb, .int (nI L)])), (tb, .inl (κ 0, 800, .inl tf)), (wk, .inl (κ 1, 20, .inl g__7)), (rd, .inr (4, [.ref tp, .ref d, .ref ft, .ref bl, .int ya__22, .int yc__23, .ref wk, .int (nI s__5), .ref fl, .ref sr, .int (nI n9__6), .ref ca9, .ref cl, .int (nI yr__24)])), (d, .inl (κ 0, 6, .inl dl)), (fl, .inl (κ 2, 8, .inr (.inr (.inr (.inr gf__8))))), (sr, .inl (κ 0, 8, .inl gs__9)), (cl, .inl (κ 2, 320, .inr (.inr (.inr (.inr gc__25)))))]) hD [3, 0, 1, 4, 2, 5, 6, 7] (by decide) rfl
      replace hp_27 : yr__24 ≤ 40 ∧ (r__21 = 0 → ya__22 = nI y__3 ∧ yr__24 = rw + 1 ∧ Lc κ im2__10 gc__25 ((rw + 1) * w)) := hp_27
      obtain ⟨h_28, h_29⟩ := hp_27
      refine W.eq (g2 := F0 m 68 ls [.int r__21]) rfl ?_
      exact et_iret hx hb hr hlk rfl hS (r__21, ya__22, yc__23, s__5, n9__6, yr__24, g__7, gf__8, gs__9, gc__25, im2__10) rfl ⟨(show s__5 ≤ 20 from (by first | assumption | omega | rfl | exact Or.inl (by assumption) | exact Or.inr (by assumption))), (show sb_Fit g__7 from (by first | assumption | omega | rfl | exact Or.inl (by assumption) | exact Or.inr (by assumption))), (show n9__6 ≤ 8 from (by first | assumption | omega | rfl | exact Or.inl (by assumption) | exact Or.inr (by assumption))), (show yr__24 ≤ 40 from (by first | assumption | omega | rfl | exact Or.inl (by assumption) | exact Or.inr (by assumption))), (show Sb im im2__10 from h_18), (show Lc κ im2__10 gf__8 n9__6 from h_19), (show r__21 = 0 → (∃ j : Nat, j ≤ L ∧ ya__22 = nI j) ∧ yr__24 = rw + 1 ∧ Lc κ im2__10 gc__25 ((rw + 1) * w) ∧ rw < mo from (fun h9 => ⟨⟨_, by omega, (h_29 h9).1⟩, (h_29 h9).2.1, (h_29 h9).2.2, by omega⟩))⟩ (subP hP [0, 1, 2, 3, 4, 5, 6, 7] rfl) (subD hD [0, 1, 2, 3, 4, 5, 6, 7] (by decide) rfl) (Nat.le_of_ble_eq_true rfl) (Nat.le_of_ble_eq_true rfl) dX4_takeLine_68
    · refine lv_iload_n hx hb dX4_takeLine_22 rfl (lv_at hl 0 rfl) ?_
      exact et_iret hx hb hr hlk rfl hS (r__2, nI y__3, yc__4, s__5, n9__6, rw, g__7, gf__8, gs__9, fc, im2__10) rfl ⟨(show s__5 ≤ 20 from (by first | assumption | omega | rfl | exact Or.inl (by assumption) | exact Or.inr (by assumption))), (show sb_Fit g__7 from (by first | assumption | omega | rfl | exact Or.inl (by assumption) | exact Or.inr (by assumption))), (show n9__6 ≤ 8 from (by first | assumption | omega | rfl | exact Or.inl (by assumption) | exact Or.inr (by assumption))), (show rw ≤ 40 from (by first | assumption | omega | rfl | exact Or.inl (by assumption) | exact Or.inr (by assumption))), (show Sb im im2__10 from h_18), (show Lc κ im2__10 gf__8 n9__6 from h_19), (show r__2 = 0 → (∃ j : Nat, j ≤ L ∧ (nI y__3) = nI j) ∧ rw = rw + 1 ∧ Lc κ im2__10 fc ((rw + 1) * w) ∧ rw < mo from (fun h9 => absurd h9 c_20))⟩ (subP hP [0, 1, 2, 3, 4, 5, 6, 7] rfl) (subD hD [0, 1, 2, 3, 4, 5, 6, 7] (by decide) rfl) (Nat.le_of_ble_eq_true rfl) (Nat.le_of_ble_eq_true rfl) dX4_takeLine_23
  · have nc_1 := cv_nlt (a := rw) (b := mo) (by omega) (by omega) c_1
    refine lv_aload_n hx hb dX4_takeLine_8 rfl (lv_at hl 0 rfl) ?_
    refine et_VN (CR := [(wk, .inl (κ 1, 20, .inl wf)), (fl, .inl (κ 2, 8, .inr (.inr (.inr (.inr ff))))), (sr, .inl (κ 0, 8, .inl sf)), (cl, .inl (κ 2, 320, .inr (.inr (.inr (.inr fc)))))]) (As := []) (rest := []) hFX hKK hE hP hD hS hA (c_X4_tooManyLines l D κ κq rd tp d ft bl aq wk sz fl sr cnt cl rw ca (.ref ca9) tb L tf dl (by omega) (by omega)) 0 gV_X4_96 hdV_X4_tooManyLines ⟨Nat.le_of_ble_eq_true rfl, Nat.le_of_ble_eq_true rfl⟩ rfl rfl (Nat.le_of_ble_eq_true rfl) dX4_takeLine_9 ⟨Nat.le_of_ble_eq_true rfl, Nat.le_of_ble_eq_true rfl⟩ hl.1 [0, 1, 2, 3] [4, 5, 6, 7] rfl rfl (by decide) (by decide) (by decide) hP 0 4 rfl rfl rfl (fun u_32 H locs hp_33 hP hD hS => ?_)
    refine W.widen (k := 0) (n := 0) (Nat.le_refl _) (Nat.le_refl _) ?_
    obtain ⟨r__30, yc__31⟩ := u_32
    replace hP : va_P D vwCl ([(rd, .inr (4, [.ref tp, .ref d, .ref ft, .ref bl, .int (nI aq), .int yc__31, .ref wk, .int (nI sz), .ref fl, .ref sr, .int (nI cnt), .ref ca9, .ref cl, .int (nI rw)])), (tp, .inr (8, [.ref tb, .int (nI L)])), (tb, .inl (κ 0, 800, .inl tf)), (d, .inl (κ 0, 6, .inl dl)), (wk, .inl (κ 1, 20, .inl wf)), (fl, .inl (κ 2, 8, .inr (.inr (.inr (.inr ff))))), (sr, .inl (κ 0, 8, .inl sf)), (cl, .inl (κ 2, 320, .inr (.inr (.inr (.inr fc)))))] ++ im) H := subP (C := [(wk, .inl (κ 1, 20, .inl wf)), (fl, .inl (κ 2, 8, .inr (.inr (.inr (.inr ff))))), (sr, .inl (κ 0, 8, .inl sf)), (cl, .inl (κ 2, 320, .inr (.inr (.inr (.inr fc))))), (rd, .inr (4, [.ref tp, .ref d, .ref ft, .ref bl, .int (nI aq), .int yc__31, .ref wk, .int (nI sz), .ref fl, .ref sr, .int (nI cnt), .ref ca9, .ref cl, .int (nI rw)])), (tp, .inr (8, [.ref tb, .int (nI L)])), (tb, .inl (κ 0, 800, .inl tf)), (d, .inl (κ 0, 6, .inl dl))]) hP [4, 5, 6, 7, 0, 1, 2, 3] rfl
    replace hD : va_D A ([(rd, .inr (4, [.ref tp, .ref d, .ref ft, .ref bl, .int (nI aq), .int yc__31, .ref wk, .int (nI sz), .ref fl, .ref sr, .int (nI cnt), .ref ca9, .ref cl, .int (nI rw)])), (tp, .inr (8, [.ref tb, .int (nI L)])), (tb, .inl (κ 0, 800, .inl tf)), (d, .inl (κ 0, 6, .inl dl)), (wk, .inl (κ 1, 20, .inl wf)), (fl, .inl (κ 2, 8, .inr (.inr (.inr (.inr ff))))), (sr, .inl (κ 0, 8, .inl sf)), (cl, .inl (κ 2, 320, .inr (.inr (.inr (.inr fc)))))] ++ im) := subD (C := [(wk, .inl (κ 1, 20, .inl wf)), (fl, .inl (κ 2, 8, .inr (.inr (.inr (.inr ff))))), (sr, .inl (κ 0, 8, .inl sf)), (cl, .inl (κ 2, 320, .inr (.inr (.inr (.inr fc))))), (rd, .inr (4, [.ref tp, .ref d, .ref ft, .ref bl, .int (nI aq), .int yc__31, .ref wk, .int (nI sz), .ref fl, .ref sr, .int (nI cnt), .ref ca9, .ref cl, .int (nI rw)])), (tp, .inr (8, [.ref tb, .int (nI L)])), (tb, .inl (κ 0, 800, .inl tf)), (d, .inl (κ 0, 6, .inl dl))]) hD [4, 5, 6, 7, 0, 1, 2, 3] (by decide) rfl
    replace hp_33 : ¬ r__30 = 0 := hp_33
    have h_34 := hp_33
    clear hp_33
    refine W.eq (g2 := F0 m 12 ls [.int r__30]) rfl ?_
    exact et_iret hx hb hr hlk rfl hS (r__30, nI aq, yc__31, sz, cnt, rw, wf, ff, sf, fc, im) rfl ⟨(show sz ≤ 20 from (by first | assumption | omega | rfl | exact Or.inl (by assumption) | exact Or.inr (by assumption))), (show sb_Fit wf from (by first | assumption | omega | rfl | exact Or.inl (by assumption) | exact Or.inr (by assumption))), (show cnt ≤ 8 from (by first | assumption | omega | rfl | exact Or.inl (by assumption) | exact Or.inr (by assumption))), (show rw ≤ 40 from (by first | assumption | omega | rfl | exact Or.inl (by assumption) | exact Or.inr (by assumption))), (show Sb im im from Sb.rf), (show Lc κ im ff cnt from hlf), (show r__30 = 0 → (∃ j : Nat, j ≤ L ∧ (nI aq) = nI j) ∧ rw = rw + 1 ∧ Lc κ im fc ((rw + 1) * w) ∧ rw < mo from (fun h9 => absurd h9 h_34))⟩ (subP hP [0, 1, 2, 3, 4, 5, 6, 7] rfl) (subD hD [0, 1, 2, 3, 4, 5, 6, 7] (by decide) rfl) (Nat.le_of_ble_eq_true rfl) (Nat.le_of_ble_eq_true rfl) dX4_takeLine_12
set_option maxHeartbeats 4000000 in
set_option maxRecDepth 100000 in
theorem c_X4_takeLine_n (l : Launch) (D : va_G) (κ : Nat → ClassId) (κq : Nat → Nat) (im : va_W) (rd : Nat) (tp : Nat) (d : Nat) (ft : Nat) (bl : Nat) (aq : Nat) (wk : Nat) (sz : Nat) (fl : Nat) (sr : Nat) (cnt : Nat) (cl : Nat) (ca : Int32) (tb : Nat) (L : Nat) (tf : Nat → Int32) (dl : Nat → Int32) (wf : Nat → Int32) (ff : Nat → Option Nat) (sf : Nat → Int32) (fc : Nat → Option Nat) (kb : Nat) (nb : Nat) (mo : Nat) (hL8 : L ≤ 800) (hat : aq < L) (hsz : sz ≤ 20) (hwf : sb_Fit wf) (hbl : Cl κ im bl kb nb) (hc8 : cnt ≤ 8) (hlf : Lc κ im ff cnt) (hmo : mo ≤ 40) : Et l yX4_takeLine (wl yX4_takeLine cX4_takeLine 3 (some .int)) { frames := 8, cells := 33, slots := 232, locals := 169 } D κ κq [.ref rd, .int (nI mo)] ([(rd, .inr (4, [.ref tp, .ref d, .ref ft, .ref bl, .int (nI aq), .int ca, .ref wk, .int (nI sz), .ref fl, .ref sr, .int (nI cnt), .null, .ref cl, .int 0])), (tp, .inr (8, [.ref tb, .int (nI L)])), (tb, .inl (κ 0, 800, .inl tf)), (d, .inl (κ 0, 6, .inl dl)), (wk, .inl (κ 1, 20, .inl wf)), (fl, .inl (κ 2, 8, .inr (.inr (.inr (.inr ff))))), (sr, .inl (κ 0, 8, .inl sf)), (cl, .inl (κ 2, 320, .inr (.inr (.inr (.inr fc)))))] ++ im) (fun u9 : Int32 × Int32 × Int32 × Value × Nat × Nat × Nat × (Nat → Int32) × (Nat → Option Nat) × (Nat → Int32) × (Nat → Option Nat) × va_W => some (.int u9.1)) (fun u9 : Int32 × Int32 × Int32 × Value × Nat × Nat × Nat × (Nat → Int32) × (Nat → Option Nat) × (Nat → Int32) × (Nat → Option Nat) × va_W => u9.2.2.2.2.1 ≤ 20 ∧ sb_Fit u9.2.2.2.2.2.2.2.1 ∧ u9.2.2.2.2.2.1 ≤ 8 ∧ u9.2.2.2.2.2.2.1 ≤ 40 ∧ Sb im u9.2.2.2.2.2.2.2.2.2.2.2 ∧ Lc κ u9.2.2.2.2.2.2.2.2.2.2.2 u9.2.2.2.2.2.2.2.2.1 u9.2.2.2.2.2.1 ∧ (u9.1 = 0 → ∃ q v j : Nat, u9.2.2.2.1 = .ref q ∧ (j ≤ L ∧ u9.2.1 = nI j) ∧ (1 ≤ v ∧ v ≤ 8) ∧ u9.2.2.2.2.2.2.1 ≤ 1 ∧ Ca κ u9.2.2.2.2.2.2.2.2.2.2.2 q v ∧ Lc κ u9.2.2.2.2.2.2.2.2.2.2.2 u9.2.2.2.2.2.2.2.2.2.2.1 (u9.2.2.2.2.2.2.1 * v))) (fun u9 : Int32 × Int32 × Int32 × Value × Nat × Nat × Nat × (Nat → Int32) × (Nat → Option Nat) × (Nat → Int32) × (Nat → Option Nat) × va_W => ([(rd, .inr (4, [.ref tp, .ref d, .ref ft, .ref bl, .int u9.2.1, .int u9.2.2.1, .ref wk, .int (nI u9.2.2.2.2.1), .ref fl, .ref sr, .int (nI u9.2.2.2.2.2.1), u9.2.2.2.1, .ref cl, .int (nI u9.2.2.2.2.2.2.1)])), (tp, .inr (8, [.ref tb, .int (nI L)])), (tb, .inl (κ 0, 800, .inl tf)), (d, .inl (κ 0, 6, .inl dl)), (wk, .inl (κ 1, 20, .inl u9.2.2.2.2.2.2.2.1)), (fl, .inl (κ 2, 8, .inr (.inr (.inr (.inr u9.2.2.2.2.2.2.2.2.1))))), (sr, .inl (κ 0, 8, .inl u9.2.2.2.2.2.2.2.2.2.1)), (cl, .inl (κ 2, 320, .inr (.inr (.inr (.inr u9.2.2.2.2.2.2.2.2.2.2.1)))))] ++ u9.2.2.2.2.2.2.2.2.2.2.2)) := by
  refine et_of (by decide +kernel) (Nat.le_of_ble_eq_true rfl) ?_
  intro p e s m args below meth c A ls hx hb hr hml hts hown hlk hin hKK hK hA hP hD hS hE hl
  have hS : va_S A s.heap s.heap [] := hS
  have hP : va_P D vwCl ([(rd, .inr (4, [.ref tp, .ref d, .ref ft, .ref bl, .int (nI aq), .int ca, .ref wk, .int (nI sz), .ref fl, .ref sr, .int (nI cnt), .null, .ref cl, .int 0])), (tp, .inr (8, [.ref tb, .int (nI L)])), (tb, .inl (κ 0, 800, .inl tf)), (d, .inl (κ 0, 6, .inl dl)), (wk, .inl (κ 1, 20, .inl wf)), (fl, .inl (κ 2, 8, .inr (.inr (.inr (.inr ff))))), (sr, .inl (κ 0, 8, .inl sf)), (cl, .inl (κ 2, 320, .inr (.inr (.inr (.inr fc)))))] ++ im) s.heap := hP
  have hD : va_D A ([(rd, .inr (4, [.ref tp, .ref d, .ref ft, .ref bl, .int (nI aq), .int ca, .ref wk, .int (nI sz), .ref fl, .ref sr, .int (nI cnt), .null, .ref cl, .int 0])), (tp, .inr (8, [.ref tb, .int (nI L)])), (tb, .inl (κ 0, 800, .inl tf)), (d, .inl (κ 0, 6, .inl dl)), (wk, .inl (κ 1, 20, .inl wf)), (fl, .inl (κ 2, 8, .inr (.inr (.inr (.inr ff))))), (sr, .inl (κ 0, 8, .inl sf)), (cl, .inl (κ 2, 320, .inr (.inr (.inr (.inr fc)))))] ++ im) := hD
  have hFX : FX p s m args c cX4_takeLine 3 RX4 := ⟨hx, hb, hml, hown, hts⟩
  have hl : lv_has ls 3 [(0, .ref rd), (1, .int (nI mo))] := hl
  refine lv_aload_n hx hb dX4_takeLine_0 rfl (lv_at hl 0 rfl) ?_
  refine va_get (D := D) (ci := 4) (v := .int 0) (C := RX4) (T := TX4) (N := 14) hx hb hts inlX4 hown hK hP 0 rfl rfl 13 (by decide) (hts _ mw_80) (fun _ h9 => h9) rfl dX4_takeLine_1 ?_
  refine lv_iload_n hx hb dX4_takeLine_4 rfl (lv_at hl 1 rfl) ?_
  refine lv_icmp_lt (tgt := 13) hx hb dX4_takeLine_5 (by decide) (fun c_1 => ?_) (fun c_1 => ?_)
  · have nc_1 := cv_lt (a := 0) (b := mo) (by omega) (by omega) c_1
    refine lv_aload_n hx hb dX4_takeLine_13 rfl (lv_at hl 0 rfl) ?_
    refine et_VT (CR := [(cl, .inl (κ 2, 320, .inr (.inr (.inr (.inr fc)))))]) (As := []) (rest := []) hFX hKK hE hP hD hS hA (c_X4_splitLine l D κ κq im rd tp d ft bl aq wk sz fl sr cnt cl 0 ca .null tb L tf dl wf ff sf kb nb (by omega) (by omega) (by omega) hwf hbl) 0 gV_X4_100 hdV_X4_splitLine ⟨Nat.le_of_ble_eq_true rfl, Nat.le_of_ble_eq_true rfl⟩ rfl rfl (Nat.le_of_ble_eq_true rfl) dX4_takeLine_14 ⟨Nat.le_of_ble_eq_true rfl, Nat.le_of_ble_eq_true rfl⟩ hl.1 [0, 1, 2, 3, 4, 5, 6] [7] rfl rfl (by decide) (by decide) (by decide) hP 0 4 rfl rfl rfl (fun u_11 H locs hp_12 hP hD hS => ?_)
    refine W.widen (k := 16) (n := 192) (Nat.le_refl _) (Nat.le_refl _) ?_
    obtain ⟨r__2, y__3, yc__4, s__5, n9__6, g__7, gf__8, gs__9, im2__10⟩ := u_11
    replace hP : va_P D vwCl ([(rd, .inr (4, [.ref tp, .ref d, .ref ft, .ref bl, .int (nI y__3), .int yc__4, .ref wk, .int (nI s__5), .ref fl, .ref sr, .int (nI n9__6), .null, .ref cl, .int (nI 0)])), (tp, .inr (8, [.ref tb, .int (nI L)])), (tb, .inl (κ 0, 800, .inl tf)), (d, .inl (κ 0, 6, .inl dl)), (wk, .inl (κ 1, 20, .inl g__7)), (fl, .inl (κ 2, 8, .inr (.inr (.inr (.inr gf__8))))), (sr, .inl (κ 0, 8, .inl gs__9)), (cl, .inl (κ 2, 320, .inr (.inr (.inr (.inr fc)))))] ++ im2__10) H := subP (C := [(cl, .inl (κ 2, 320, .inr (.inr (.inr (.inr fc))))), (rd, .inr (4, [.ref tp, .ref d, .ref ft, .ref bl, .int (nI y__3), .int yc__4, .ref wk, .int (nI s__5), .ref fl, .ref sr, .int (nI n9__6), .null, .ref cl, .int (nI 0)])), (tp, .inr (8, [.ref tb, .int (nI L)])), (tb, .inl (κ 0, 800, .inl tf)), (d, .inl (κ 0, 6, .inl dl)), (wk, .inl (κ 1, 20, .inl g__7)), (fl, .inl (κ 2, 8, .inr (.inr (.inr (.inr gf__8))))), (sr, .inl (κ 0, 8, .inl gs__9))]) hP [1, 2, 3, 4, 5, 6, 7, 0] rfl
    replace hD : va_D A ([(rd, .inr (4, [.ref tp, .ref d, .ref ft, .ref bl, .int (nI y__3), .int yc__4, .ref wk, .int (nI s__5), .ref fl, .ref sr, .int (nI n9__6), .null, .ref cl, .int (nI 0)])), (tp, .inr (8, [.ref tb, .int (nI L)])), (tb, .inl (κ 0, 800, .inl tf)), (d, .inl (κ 0, 6, .inl dl)), (wk, .inl (κ 1, 20, .inl g__7)), (fl, .inl (κ 2, 8, .inr (.inr (.inr (.inr gf__8))))), (sr, .inl (κ 0, 8, .inl gs__9)), (cl, .inl (κ 2, 320, .inr (.inr (.inr (.inr fc)))))] ++ im2__10) := subD (C := [(cl, .inl (κ 2, 320, .inr (.inr (.inr (.inr fc))))), (rd, .inr (4, [.ref tp, .ref d, .ref ft, .ref bl, .int (nI y__3), .int yc__4, .ref wk, .int (nI s__5), .ref fl, .ref sr, .int (nI n9__6), .null, .ref cl, .int (nI 0)])), (tp, .inr (8, [.ref tb, .int (nI L)])), (tb, .inl (κ 0, 800, .inl tf)), (d, .inl (κ 0, 6, .inl dl)), (wk, .inl (κ 1, 20, .inl g__7)), (fl, .inl (κ 2, 8, .inr (.inr (.inr (.inr gf__8))))), (sr, .inl (κ 0, 8, .inl gs__9))]) hD [1, 2, 3, 4, 5, 6, 7, 0] (by decide) rfl
    replace hp_12 : y__3 ≤ L ∧ s__5 ≤ 20 ∧ sb_Fit g__7 ∧ n9__6 ≤ 8 ∧ (r__2 = 0 → 1 ≤ n9__6) ∧ Sb im im2__10 ∧ Lc κ im2__10 gf__8 n9__6 := hp_12
    obtain ⟨h_13, h_14, h_15, h_16, h_17, h_18, h_19⟩ := hp_12
    replace hbl := hbl.up h_18
    replace hlf := hlf.up h_18
    refine W.eq (g2 := F0 m 17 ls [.int r__2]) rfl ?_
    refine lv_istore_n (lv' := [(2, .int r__2), (0, .ref rd), (1, .int (nI mo))]) hx hb dX4_takeLine_17 rfl hl (by decide) rfl (fun ls hl => ?_)
    refine lv_iload_n hx hb dX4_takeLine_18 rfl (lv_at hl 0 rfl) ?_
    refine lv_if_eq (tgt := 24) hx hb dX4_takeLine_19 (by decide) (fun c_20 => ?_) (fun c_20 => ?_)
    · have hcn := h_17 c_20
      refine lv_aload_n hx hb dX4_takeLine_24 rfl (lv_at hl 1 rfl) ?_
      refine va_get (D := D) (ci := 4) (v := .null) (C := RX4) (T := TX4) (N := 14) hx hb hts inlX4 hown hK hP 0 rfl rfl 11 (by decide) (hts _ mw_78) (fun _ h9 => h9) rfl dX4_takeLine_25 ?_
      refine lv_ifnonnullN hx hb dX4_takeLine_28 ?_
      refine lv_aload_n hx hb dX4_takeLine_31 rfl (lv_at hl 1 rfl) ?_
      refine va_get (D := D) (ci := 4) (v := .ref d) (C := RX4) (T := TX4) (N := 14) hx hb hts inlX4 hown hK hP 0 rfl rfl 1 (by decide) (hts _ mw_82) (fun _ h9 => h9) rfl dX4_takeLine_32 ?_
      refine lv_iconst (v := 2) hx hb dX4_takeLine_35 (by decide) ?_
      refine va_iald hx hb hK hP 3 0 rfl rfl (i := 2) (vp_k (by decide)) dX4_takeLine_36 ?_
      obtain ⟨x_21, ex_21⟩ : ∃ y9 : Int32, dl 2 = y9 := ⟨_, rfl⟩
      refine kv (v := .int x_21) (congrArg Value.int ex_21) ?_
      refine lv_iconst (v := 1) hx hb dX4_takeLine_37 (by decide) ?_
      refine lv_icmp_ne (tgt := 46) hx hb dX4_takeLine_38 (by decide) (fun c_22 => ?_) (fun c_22 => ?_)
      · refine lv_aload_n hx hb dX4_takeLine_46 rfl (lv_at hl 1 rfl) ?_
        refine va_get (D := D) (ci := 4) (v := .null) (C := RX4) (T := TX4) (N := 14) hx hb hts inlX4 hown hK hP 0 rfl rfl 11 (by decide) (hts _ mw_78) (fun _ h9 => h9) rfl dX4_takeLine_47 ?_
        refine lv_ifnonnullN hx hb dX4_takeLine_50 ?_
        refine lv_aload_n hx hb dX4_takeLine_53 rfl (lv_at hl 1 rfl) ?_
        refine lv_aload_n hx hb dX4_takeLine_54 rfl (lv_at hl 1 rfl) ?_
        refine va_get (D := D) (ci := 4) (v := .int (nI n9__6)) (C := RX4) (T := TX4) (N := 14) hx hb hts inlX4 hown hK hP 0 rfl rfl 10 (by decide) (hts _ mw_77) (fun _ h9 => h9) rfl dX4_takeLine_55 ?_
        refine et_ST (CR := [(rd, .inr (4, [.ref tp, .ref d, .ref ft, .ref bl, .int (nI y__3), .int yc__4, .ref wk, .int (nI s__5), .ref fl, .ref sr, .int (nI n9__6), .null, .ref cl, .int (nI 0)])), (tp, .inr (8, [.ref tb, .int (nI L)])), (tb, .inl (κ 0, 800, .inl tf)), (d, .inl (κ 0, 6, .inl dl)), (wk, .inl (κ 1, 20, .inl g__7)), (fl, .inl (κ 2, 8, .inr (.inr (.inr (.inr gf__8))))), (sr, .inl (κ 0, 8, .inl gs__9)), (cl, .inl (κ 2, 320, .inr (.inr (.inr (.inr fc)))))]) (As := [.int (nI n9__6)]) (rest := [.ref rd]) hFX hKK hE hP hD hS hA (c_X1_numbered l D κ κq im2__10 n9__6 (by omega) (by omega)) 1 gS_X4_106 hdS_X1_numbered ⟨Nat.le_of_ble_eq_true rfl, Nat.le_of_ble_eq_true rfl⟩ rfl rfl (Nat.le_of_ble_eq_true rfl) dX4_takeLine_58 ⟨Nat.le_of_ble_eq_true rfl, Nat.le_of_ble_eq_true rfl⟩ hl.1 [] [0, 1, 2, 3, 4, 5, 6, 7] rfl rfl (by decide) (by decide) (by decide) (fun u_25 H locs hp_26 hP hD hS => ?_)
        refine W.widen (k := 33) (n := 232) (Nat.le_refl _) (Nat.le_refl _) ?_
        obtain ⟨q__23, im2__24⟩ := u_25
        replace hP : va_P D vwCl ([(rd, .inr (4, [.ref tp, .ref d, .ref ft, .ref bl, .int (nI y__3), .int yc__4, .ref wk, .int (nI s__5), .ref fl, .ref sr, .int (nI n9__6), .null, .ref cl, .int (nI 0)])), (tp, .inr (8, [.ref tb, .int (nI L)])), (tb, .inl (κ 0, 800, .inl tf)), (d, .inl (κ 0, 6, .inl dl)), (wk, .inl (κ 1, 20, .inl g__7)), (fl, .inl (κ 2, 8, .inr (.inr (.inr (.inr gf__8))))), (sr, .inl (κ 0, 8, .inl gs__9)), (cl, .inl (κ 2, 320, .inr (.inr (.inr (.inr fc)))))] ++ im2__24) H := subP (C := [(rd, .inr (4, [.ref tp, .ref d, .ref ft, .ref bl, .int (nI y__3), .int yc__4, .ref wk, .int (nI s__5), .ref fl, .ref sr, .int (nI n9__6), .null, .ref cl, .int (nI 0)])), (tp, .inr (8, [.ref tb, .int (nI L)])), (tb, .inl (κ 0, 800, .inl tf)), (d, .inl (κ 0, 6, .inl dl)), (wk, .inl (κ 1, 20, .inl g__7)), (fl, .inl (κ 2, 8, .inr (.inr (.inr (.inr gf__8))))), (sr, .inl (κ 0, 8, .inl gs__9)), (cl, .inl (κ 2, 320, .inr (.inr (.inr (.inr fc)))))]) hP [0, 1, 2, 3, 4, 5, 6, 7] rfl
        replace hD : va_D A ([(rd, .inr (4, [.ref tp, .ref d, .ref ft, .ref bl, .int (nI y__3), .int yc__4, .ref wk, .int (nI s__5), .ref fl, .ref sr, .int (nI n9__6), .null, .ref cl, .int (nI 0)])), (tp, .inr (8, [.ref tb, .int (nI L)])), (tb, .inl (κ 0, 800, .inl tf)), (d, .inl (κ 0, 6, .inl dl)), (wk, .inl (κ 1, 20, .inl g__7)), (fl, .inl (κ 2, 8, .inr (.inr (.inr (.inr gf__8))))), (sr, .inl (κ 0, 8, .inl gs__9)), (cl, .inl (κ 2, 320, .inr (.inr (.inr (.inr fc)))))] ++ im2__24) := subD (C := [(rd, .inr (4, [.ref tp, .ref d, .ref ft, .ref bl, .int (nI y__3), .int yc__4, .ref wk, .int (nI s__5), .ref fl, .ref sr, .int (nI n9__6), .null, .ref cl, .int (nI 0)])), (tp, .inr (8, [.ref tb, .int (nI L)])), (tb, .inl (κ 0, 800, .inl tf)), (d, .inl (κ 0, 6, .inl dl)), (wk, .inl (κ 1, 20, .inl g__7)), (fl, .inl (κ 2, 8, .inr (.inr (.inr (.inr gf__8))))), (sr, .inl (κ 0, 8, .inl gs__9)), (cl, .inl (κ 2, 320, .inr (.inr (.inr (.inr fc)))))]) hD [0, 1, 2, 3, 4, 5, 6, 7] (by decide) rfl
        replace hp_26 : Sb im2__10 im2__24 ∧ Ca κ im2__24 q__23 n9__6 := hp_26
        obtain ⟨h_27, h_28⟩ := hp_26
        replace hbl := hbl.up h_27
        replace hlf := hlf.up h_27
        replace h_19 := h_19.up h_27
        refine W.eq (g2 := F0 m 61 ls [.ref q__23, .ref rd]) rfl ?_
        refine va_put (D := D) (ci := 4) (v := .ref q__23) (ty := tyX4 11) (C := RX4) (T := TX4) (N := 14) hx hb hts inlX4 tyX4 tyX4_ok nmX4 hown hK hP hD hS 0 rfl rfl 11 (by decide) (hts _ mw_78) (fun _ h9 => h9) rfl (tyX4_ok 11 (by decide)) rfl rfl (Nat.le_of_ble_eq_true rfl) dX4_takeLine_61 (fun H locs hP hD hS => ?_)
        have hP : va_P D vwCl ([(rd, .inr (4, [.ref tp, .ref d, .ref ft, .ref bl, .int (nI y__3), .int yc__4, .ref wk, .int (nI s__5), .ref fl, .ref sr, .int (nI n9__6), .ref q__23, .ref cl, .int (nI 0)])), (tp, .inr (8, [.ref tb, .int (nI L)])), (tb, .inl (κ 0, 800, .inl tf)), (d, .inl (κ 0, 6, .inl dl)), (wk, .inl (κ 1, 20, .inl g__7)), (fl, .inl (κ 2, 8, .inr (.inr (.inr (.inr gf__8))))), (sr, .inl (κ 0, 8, .inl gs__9)), (cl, .inl (κ 2, 320, .inr (.inr (.inr (.inr fc)))))] ++ im2__24) H := hP
        have hD : va_D A ([(rd, .inr (4, [.ref tp, .ref d, .ref ft, .ref bl, .int (nI y__3), .int yc__4, .ref wk, .int (nI s__5), .ref fl, .ref sr, .int (nI n9__6), .ref q__23, .ref cl, .int (nI 0)])), (tp, .inr (8, [.ref tb, .int (nI L)])), (tb, .inl (κ 0, 800, .inl tf)), (d, .inl (κ 0, 6, .inl dl)), (wk, .inl (κ 1, 20, .inl g__7)), (fl, .inl (κ 2, 8, .inr (.inr (.inr (.inr gf__8))))), (sr, .inl (κ 0, 8, .inl gs__9)), (cl, .inl (κ 2, 320, .inr (.inr (.inr (.inr fc)))))] ++ im2__24) := hD
        refine lv_aload_n hx hb dX4_takeLine_64 rfl (lv_at hl 1 rfl) ?_
        refine et_VT (CR := [(tp, .inr (8, [.ref tb, .int (nI L)])), (tb, .inl (κ 0, 800, .inl tf)), (wk, .inl (κ 1, 20, .inl g__7))]) (As := []) (rest := []) hFX hKK hE hP hD hS hA (c_X4_takeRow l D κ κq im2__24 rd tp d ft bl y__3 wk s__5 fl sr n9__6 cl 0 yc__4 dl gf__8 gs__9 fc q__23 n9__6 kb nb h_19 (by rw [Nat.zero_mul]; exact Lc_0) h_28 hbl (by omega) (by omega) (by omega) (by omega) (by omega)) 0 gV_X4_112 hdV_X4_takeRow ⟨Nat.le_of_ble_eq_true rfl, Nat.le_of_ble_eq_true rfl⟩ rfl rfl (Nat.le_of_ble_eq_true rfl) dX4_takeLine_65 ⟨Nat.le_of_ble_eq_true rfl, Nat.le_of_ble_eq_true rfl⟩ hl.1 [0, 3, 5, 6, 7] [1, 2, 4] rfl rfl (by decide) (by decide) (by decide) hP 0 4 rfl rfl rfl (fun u_34 H locs hp_35 hP hD hS => ?_)
        refine W.widen (k := 33) (n := 232) (Nat.le_refl _) (Nat.le_refl _) ?_
        obtain ⟨r__29, ya__30, yc__31, yr__32, gc__33⟩ := u_34
        replace hP : va_P D vwCl ([(rd, .inr (4, [.ref tp, .ref d, .ref ft, .ref bl, .int ya__30, .int yc__31, .ref wk, .int (nI s__5), .ref fl, .ref sr, .int (nI n9__6), .ref q__23, .ref cl, .int (nI yr__32)])), (tp, .inr (8, [.ref tb, .int (nI L)])), (tb, .inl (κ 0, 800, .inl tf)), (d, .inl (κ 0, 6, .inl dl)), (wk, .inl (κ 1, 20, .inl g__7)), (fl, .inl (κ 2, 8, .inr (.inr (.inr (.inr gf__8))))), (sr, .inl (κ 0, 8, .inl gs__9)), (cl, .inl (κ 2, 320, .inr (.inr (.inr (.inr gc__33)))))] ++ im2__24) H := subP (C := [(tp, .inr (8, [.ref tb, .int (nI L)])), (tb, .inl (κ 0, 800, .inl tf)), (wk, .inl (κ 1, 20, .inl g__7)), (rd, .inr (4, [.ref tp, .ref d, .ref ft, .ref bl, .int ya__30, .int yc__31, .ref wk, .int (nI s__5), .ref fl, .ref sr, .int (nI n9__6), .ref q__23, .ref cl, .int (nI yr__32)])), (d, .inl (κ 0, 6, .inl dl)), (fl, .inl (κ 2, 8, .inr (.inr (.inr (.inr gf__8))))), (sr, .inl (κ 0, 8, .inl gs__9)), (cl, .inl (κ 2, 320, .inr (.inr (.inr (.inr gc__33)))))]) hP [3, 0, 1, 4, 2, 5, 6, 7] rfl
        replace hD : va_D A ([(rd, .inr (4, [.ref tp, .ref d, .ref ft, .ref bl, .int ya__30, .int yc__31, .ref wk, .int (nI s__5), .ref fl, .ref sr, .int (nI n9__6), .ref q__23, .ref cl, .int (nI yr__32)])), (tp, .inr (8, [.ref tb, .int (nI L)])), (tb, .inl (κ 0, 800, .inl tf)), (d, .inl (κ 0, 6, .inl dl)), (wk, .inl (κ 1, 20, .inl g__7)), (fl, .inl (κ 2, 8, .inr (.inr (.inr (.inr gf__8))))), (sr, .inl (κ 0, 8, .inl gs__9)), (cl, .inl (κ 2, 320, .inr (.inr (.inr (.inr gc__33)))))] ++ im2__24) := subD (C := [(tp, .inr (8, [.ref tb, .int (nI L)])), (tb, .inl (κ 0, 800, .inl tf)), (wk, .inl (κ 1, 20, .inl g__7)), (rd, .inr (4, [.ref tp, .ref d, .ref ft, .ref bl, .int ya__30, .int yc__31, .ref wk, .int (nI s__5), .ref fl, .ref sr, .int (nI n9__6), .ref q__23, .ref cl, .int (nI yr__32)])), (d, .inl (κ 0, 6, .inl dl)), (fl, .inl (κ 2, 8, .inr (.inr (.inr (.inr gf__8))))), (sr, .inl (κ 0, 8, .inl gs__9)), (cl, .inl (κ 2, 320, .inr (.inr (.inr (.inr gc__33)))))]) hD [3, 0, 1, 4, 2, 5, 6, 7] (by decide) rfl
        replace hp_35 : yr__32 ≤ 40 ∧ (r__29 = 0 → ya__30 = nI y__3 ∧ yr__32 = 0 + 1 ∧ Lc κ im2__24 gc__33 ((0 + 1) * n9__6)) := hp_35
        obtain ⟨h_36, h_37⟩ := hp_35
        refine W.eq (g2 := F0 m 68 ls [.int r__29]) rfl ?_
        exact et_iret hx hb hr hlk rfl hS (r__29, ya__30, yc__31, (Value.ref q__23), s__5, n9__6, yr__32, g__7, gf__8, gs__9, gc__33, im2__24) rfl ⟨(show s__5 ≤ 20 from (by first | assumption | omega | rfl | exact Or.inl (by assumption) | exact Or.inr (by assumption))), (show sb_Fit g__7 from (by first | assumption | omega | rfl | exact Or.inl (by assumption) | exact Or.inr (by assumption))), (show n9__6 ≤ 8 from (by first | assumption | omega | rfl | exact Or.inl (by assumption) | exact Or.inr (by assumption))), (show yr__32 ≤ 40 from (by first | assumption | omega | rfl | exact Or.inl (by assumption) | exact Or.inr (by assumption))), (show Sb im im2__24 from (Sb.tr h_18 h_27)), (show Lc κ im2__24 gf__8 n9__6 from h_19), (show r__29 = 0 → ∃ q v j : Nat, (Value.ref q__23) = .ref q ∧ (j ≤ L ∧ ya__30 = nI j) ∧ (1 ≤ v ∧ v ≤ 8) ∧ yr__32 ≤ 1 ∧ Ca κ im2__24 q v ∧ Lc κ im2__24 gc__33 (yr__32 * v) from (fun h9 => (by obtain ⟨e1, e2, h2⟩ := h_37 h9; exact ⟨_, _, _, rfl, ⟨(by omega), e1⟩, ⟨hcn, (by omega)⟩, (by omega), h_28, (by rw [e2]; exact h2)⟩)))⟩ (subP hP [0, 1, 2, 3, 4, 5, 6, 7] rfl) (subD hD [0, 1, 2, 3, 4, 5, 6, 7] (by decide) rfl) (Nat.le_of_ble_eq_true rfl) (Nat.le_of_ble_eq_true rfl) dX4_takeLine_68
      · refine lv_aload_n hx hb dX4_takeLine_41 rfl (lv_at hl 1 rfl) ?_
        refine et_VT (CR := [(tp, .inr (8, [.ref tb, .int (nI L)])), (tb, .inl (κ 0, 800, .inl tf)), (d, .inl (κ 0, 6, .inl dl)), (wk, .inl (κ 1, 20, .inl g__7)), (cl, .inl (κ 2, 320, .inr (.inr (.inr (.inr fc)))))]) (As := []) (rest := []) hFX hKK hE hP hD hS hA (c_X4_takeNames l D κ κq im2__10 rd tp d ft bl y__3 wk s__5 fl sr n9__6 cl 0 yc__4 .null gf__8 gs__9 h_19 (by omega) (by omega)) 0 gV_X4_103 hdV_X4_takeNames ⟨Nat.le_of_ble_eq_true rfl, Nat.le_of_ble_eq_true rfl⟩ rfl rfl (Nat.le_of_ble_eq_true rfl) dX4_takeLine_42 ⟨Nat.le_of_ble_eq_true rfl, Nat.le_of_ble_eq_true rfl⟩ hl.1 [0, 5, 6] [1, 2, 3, 4, 7] rfl rfl (by decide) (by decide) (by decide) hP 0 4 rfl rfl rfl (fun u_43 H locs hp_44 hP hD hS => ?_)
        refine W.widen (k := 25) (n := 216) (Nat.le_refl _) (Nat.le_refl _) ?_
        obtain ⟨r__38, ya__39, yc__40, yv__41, im2__42⟩ := u_43
        replace hP : va_P D vwCl ([(rd, .inr (4, [.ref tp, .ref d, .ref ft, .ref bl, .int ya__39, .int yc__40, .ref wk, .int (nI s__5), .ref fl, .ref sr, .int (nI n9__6), yv__41, .ref cl, .int (nI 0)])), (tp, .inr (8, [.ref tb, .int (nI L)])), (tb, .inl (κ 0, 800, .inl tf)), (d, .inl (κ 0, 6, .inl dl)), (wk, .inl (κ 1, 20, .inl g__7)), (fl, .inl (κ 2, 8, .inr (.inr (.inr (.inr gf__8))))), (sr, .inl (κ 0, 8, .inl gs__9)), (cl, .inl (κ 2, 320, .inr (.inr (.inr (.inr fc)))))] ++ im2__42) H := subP (C := [(tp, .inr (8, [.ref tb, .int (nI L)])), (tb, .inl (κ 0, 800, .inl tf)), (d, .inl (κ 0, 6, .inl dl)), (wk, .inl (κ 1, 20, .inl g__7)), (cl, .inl (κ 2, 320, .inr (.inr (.inr (.inr fc))))), (rd, .inr (4, [.ref tp, .ref d, .ref ft, .ref bl, .int ya__39, .int yc__40, .ref wk, .int (nI s__5), .ref fl, .ref sr, .int (nI n9__6), yv__41, .ref cl, .int (nI 0)])), (fl, .inl (κ 2, 8, .inr (.inr (.inr (.inr gf__8))))), (sr, .inl (κ 0, 8, .inl gs__9))]) hP [5, 0, 1, 2, 3, 6, 7, 4] rfl
        replace hD : va_D A ([(rd, .inr (4, [.ref tp, .ref d, .ref ft, .ref bl, .int ya__39, .int yc__40, .ref wk, .int (nI s__5), .ref fl, .ref sr, .int (nI n9__6), yv__41, .ref cl, .int (nI 0)])), (tp, .inr (8, [.ref tb, .int (nI L)])), (tb, .inl (κ 0, 800, .inl tf)), (d, .inl (κ 0, 6, .inl dl)), (wk, .inl (κ 1, 20, .inl g__7)), (fl, .inl (κ 2, 8, .inr (.inr (.inr (.inr gf__8))))), (sr, .inl (κ 0, 8, .inl gs__9)), (cl, .inl (κ 2, 320, .inr (.inr (.inr (.inr fc)))))] ++ im2__42) := subD (C := [(tp, .inr (8, [.ref tb, .int (nI L)])), (tb, .inl (κ 0, 800, .inl tf)), (d, .inl (κ 0, 6, .inl dl)), (wk, .inl (κ 1, 20, .inl g__7)), (cl, .inl (κ 2, 320, .inr (.inr (.inr (.inr fc))))), (rd, .inr (4, [.ref tp, .ref d, .ref ft, .ref bl, .int ya__39, .int yc__40, .ref wk, .int (nI s__5), .ref fl, .ref sr, .int (nI n9__6), yv__41, .ref cl, .int (nI 0)])), (fl, .inl (κ 2, 8, .inr (.inr (.inr (.inr gf__8))))), (sr, .inl (κ 0, 8, .inl gs__9))]) hD [5, 0, 1, 2, 3, 6, 7, 4] (by decide) rfl
        replace hp_44 : Sb im2__10 im2__42 ∧ (r__38 = 0 → ya__39 = nI y__3 ∧ ∃ q : Nat, yv__41 = .ref q ∧ Ca κ im2__42 q n9__6) := hp_44
        obtain ⟨h_45, h_46⟩ := hp_44
        replace hbl := hbl.up h_45
        replace hlf := hlf.up h_45
        replace h_19 := h_19.up h_45
        refine W.eq (g2 := F0 m 45 ls [.int r__38]) rfl ?_
        exact et_iret hx hb hr hlk rfl hS (r__38, ya__39, yc__40, yv__41, s__5, n9__6, 0, g__7, gf__8, gs__9, fc, im2__42) rfl ⟨(show s__5 ≤ 20 from (by first | assumption | omega | rfl | exact Or.inl (by assumption) | exact Or.inr (by assumption))), (show sb_Fit g__7 from (by first | assumption | omega | rfl | exact Or.inl (by assumption) | exact Or.inr (by assumption))), (show n9__6 ≤ 8 from (by first | assumption | omega | rfl | exact Or.inl (by assumption) | exact Or.inr (by assumption))), (show 0 ≤ 40 from (by first | assumption | omega | rfl | exact Or.inl (by assumption) | exact Or.inr (by assumption))), (show Sb im im2__42 from (Sb.tr h_18 h_45)), (show Lc κ im2__42 gf__8 n9__6 from h_19), (show r__38 = 0 → ∃ q v j : Nat, yv__41 = .ref q ∧ (j ≤ L ∧ ya__39 = nI j) ∧ (1 ≤ v ∧ v ≤ 8) ∧ 0 ≤ 1 ∧ Ca κ im2__42 q v ∧ Lc κ im2__42 fc (0 * v) from (fun h9 => (by obtain ⟨e1, q, e2, h2⟩ := h_46 h9; exact ⟨q, _, _, e2, ⟨(by omega), e1⟩, ⟨hcn, (by omega)⟩, (by omega), h2, (by rw [Nat.zero_mul]; exact Lc_0)⟩)))⟩ (subP hP [0, 1, 2, 3, 4, 5, 6, 7] rfl) (subD hD [0, 1, 2, 3, 4, 5, 6, 7] (by decide) rfl) (Nat.le_of_ble_eq_true rfl) (Nat.le_of_ble_eq_true rfl) dX4_takeLine_45
    · refine lv_iload_n hx hb dX4_takeLine_22 rfl (lv_at hl 0 rfl) ?_
      exact et_iret hx hb hr hlk rfl hS (r__2, nI y__3, yc__4, Value.null, s__5, n9__6, 0, g__7, gf__8, gs__9, fc, im2__10) rfl ⟨(show s__5 ≤ 20 from (by first | assumption | omega | rfl | exact Or.inl (by assumption) | exact Or.inr (by assumption))), (show sb_Fit g__7 from (by first | assumption | omega | rfl | exact Or.inl (by assumption) | exact Or.inr (by assumption))), (show n9__6 ≤ 8 from (by first | assumption | omega | rfl | exact Or.inl (by assumption) | exact Or.inr (by assumption))), (show 0 ≤ 40 from (by first | assumption | omega | rfl | exact Or.inl (by assumption) | exact Or.inr (by assumption))), (show Sb im im2__10 from h_18), (show Lc κ im2__10 gf__8 n9__6 from h_19), (show r__2 = 0 → ∃ q v j : Nat, Value.null = .ref q ∧ (j ≤ L ∧ (nI y__3) = nI j) ∧ (1 ≤ v ∧ v ≤ 8) ∧ 0 ≤ 1 ∧ Ca κ im2__10 q v ∧ Lc κ im2__10 fc (0 * v) from (fun h9 => absurd h9 c_20))⟩ (subP hP [0, 1, 2, 3, 4, 5, 6, 7] rfl) (subD hD [0, 1, 2, 3, 4, 5, 6, 7] (by decide) rfl) (Nat.le_of_ble_eq_true rfl) (Nat.le_of_ble_eq_true rfl) dX4_takeLine_23
  · have nc_1 := cv_nlt (a := 0) (b := mo) (by omega) (by omega) c_1
    refine lv_aload_n hx hb dX4_takeLine_8 rfl (lv_at hl 0 rfl) ?_
    refine et_VN (CR := [(wk, .inl (κ 1, 20, .inl wf)), (fl, .inl (κ 2, 8, .inr (.inr (.inr (.inr ff))))), (sr, .inl (κ 0, 8, .inl sf)), (cl, .inl (κ 2, 320, .inr (.inr (.inr (.inr fc)))))]) (As := []) (rest := []) hFX hKK hE hP hD hS hA (c_X4_tooManyLines l D κ κq rd tp d ft bl aq wk sz fl sr cnt cl 0 ca .null tb L tf dl (by omega) (by omega)) 0 gV_X4_96 hdV_X4_tooManyLines ⟨Nat.le_of_ble_eq_true rfl, Nat.le_of_ble_eq_true rfl⟩ rfl rfl (Nat.le_of_ble_eq_true rfl) dX4_takeLine_9 ⟨Nat.le_of_ble_eq_true rfl, Nat.le_of_ble_eq_true rfl⟩ hl.1 [0, 1, 2, 3] [4, 5, 6, 7] rfl rfl (by decide) (by decide) (by decide) hP 0 4 rfl rfl rfl (fun u_49 H locs hp_50 hP hD hS => ?_)
    refine W.widen (k := 0) (n := 0) (Nat.le_refl _) (Nat.le_refl _) ?_
    obtain ⟨r__47, yc__48⟩ := u_49
    replace hP : va_P D vwCl ([(rd, .inr (4, [.ref tp, .ref d, .ref ft, .ref bl, .int (nI aq), .int yc__48, .ref wk, .int (nI sz), .ref fl, .ref sr, .int (nI cnt), .null, .ref cl, .int (nI 0)])), (tp, .inr (8, [.ref tb, .int (nI L)])), (tb, .inl (κ 0, 800, .inl tf)), (d, .inl (κ 0, 6, .inl dl)), (wk, .inl (κ 1, 20, .inl wf)), (fl, .inl (κ 2, 8, .inr (.inr (.inr (.inr ff))))), (sr, .inl (κ 0, 8, .inl sf)), (cl, .inl (κ 2, 320, .inr (.inr (.inr (.inr fc)))))] ++ im) H := subP (C := [(wk, .inl (κ 1, 20, .inl wf)), (fl, .inl (κ 2, 8, .inr (.inr (.inr (.inr ff))))), (sr, .inl (κ 0, 8, .inl sf)), (cl, .inl (κ 2, 320, .inr (.inr (.inr (.inr fc))))), (rd, .inr (4, [.ref tp, .ref d, .ref ft, .ref bl, .int (nI aq), .int yc__48, .ref wk, .int (nI sz), .ref fl, .ref sr, .int (nI cnt), .null, .ref cl, .int (nI 0)])), (tp, .inr (8, [.ref tb, .int (nI L)])), (tb, .inl (κ 0, 800, .inl tf)), (d, .inl (κ 0, 6, .inl dl))]) hP [4, 5, 6, 7, 0, 1, 2, 3] rfl
    replace hD : va_D A ([(rd, .inr (4, [.ref tp, .ref d, .ref ft, .ref bl, .int (nI aq), .int yc__48, .ref wk, .int (nI sz), .ref fl, .ref sr, .int (nI cnt), .null, .ref cl, .int (nI 0)])), (tp, .inr (8, [.ref tb, .int (nI L)])), (tb, .inl (κ 0, 800, .inl tf)), (d, .inl (κ 0, 6, .inl dl)), (wk, .inl (κ 1, 20, .inl wf)), (fl, .inl (κ 2, 8, .inr (.inr (.inr (.inr ff))))), (sr, .inl (κ 0, 8, .inl sf)), (cl, .inl (κ 2, 320, .inr (.inr (.inr (.inr fc)))))] ++ im) := subD (C := [(wk, .inl (κ 1, 20, .inl wf)), (fl, .inl (κ 2, 8, .inr (.inr (.inr (.inr ff))))), (sr, .inl (κ 0, 8, .inl sf)), (cl, .inl (κ 2, 320, .inr (.inr (.inr (.inr fc))))), (rd, .inr (4, [.ref tp, .ref d, .ref ft, .ref bl, .int (nI aq), .int yc__48, .ref wk, .int (nI sz), .ref fl, .ref sr, .int (nI cnt), .null, .ref cl, .int (nI 0)])), (tp, .inr (8, [.ref tb, .int (nI L)])), (tb, .inl (κ 0, 800, .inl tf)), (d, .inl (κ 0, 6, .inl dl))]) hD [4, 5, 6, 7, 0, 1, 2, 3] (by decide) rfl
    replace hp_50 : ¬ r__47 = 0 := hp_50
    have h_51 := hp_50
    clear hp_50
    refine W.eq (g2 := F0 m 12 ls [.int r__47]) rfl ?_
    exact et_iret hx hb hr hlk rfl hS (r__47, nI aq, yc__48, Value.null, sz, cnt, 0, wf, ff, sf, fc, im) rfl ⟨(show sz ≤ 20 from (by first | assumption | omega | rfl | exact Or.inl (by assumption) | exact Or.inr (by assumption))), (show sb_Fit wf from (by first | assumption | omega | rfl | exact Or.inl (by assumption) | exact Or.inr (by assumption))), (show cnt ≤ 8 from (by first | assumption | omega | rfl | exact Or.inl (by assumption) | exact Or.inr (by assumption))), (show 0 ≤ 40 from (by first | assumption | omega | rfl | exact Or.inl (by assumption) | exact Or.inr (by assumption))), (show Sb im im from Sb.rf), (show Lc κ im ff cnt from hlf), (show r__47 = 0 → ∃ q v j : Nat, Value.null = .ref q ∧ (j ≤ L ∧ (nI aq) = nI j) ∧ (1 ≤ v ∧ v ≤ 8) ∧ 0 ≤ 1 ∧ Ca κ im q v ∧ Lc κ im fc (0 * v) from (fun h9 => absurd h9 h_51))⟩ (subP hP [0, 1, 2, 3, 4, 5, 6, 7] rfl) (subD hD [0, 1, 2, 3, 4, 5, 6, 7] (by decide) rfl) (Nat.le_of_ble_eq_true rfl) (Nat.le_of_ble_eq_true rfl) dX4_takeLine_12
set_option maxHeartbeats 4000000 in
set_option maxRecDepth 100000 in
theorem c_X4_newSheet (l : Launch) (D : va_G) (κ : Nat → ClassId) (κq : Nat → Nat) (im : va_W) (rd : Nat) (tp : Nat) (d : Nat) (ft : Nat) (bl : Nat) (wk : Nat) (sz : Nat) (fl : Nat) (sr : Nat) (cnt : Nat) (cl : Nat) (rw : Nat) (ca : Int32) (at0 : Int32) (fc : Nat → Option Nat) (ca9 : Nat) (w : Nat) (hca : Ca κ im ca9 w) (hlc : Lc κ im fc (rw * w)) (hr40 : rw ≤ 40) (hw1 : 1 ≤ w) (hw8 : w ≤ 8) : Et l yX4_newSheet (wl yX4_newSheet cX4_newSheet 3 (some (.object "TypedTables$Sheet"))) { frames := 3, cells := 4, slots := 367, locals := 59 } D κ κq [.ref rd] ([(rd, .inr (4, [.ref tp, .ref d, .ref ft, .ref bl, .int at0, .int ca, .ref wk, .int (nI sz), .ref fl, .ref sr, .int (nI cnt), .ref ca9, .ref cl, .int (nI rw)])), (cl, .inl (κ 2, 320, .inr (.inr (.inr (.inr fc)))))] ++ im) (fun u9 : Nat × va_W => some (.ref u9.1)) (fun u9 : Nat × va_W => Sb im u9.2 ∧ Sh κ u9.2 u9.1 rw w) (fun u9 : Nat × va_W => ([(rd, .inr (4, [.ref tp, .ref d, .ref ft, .ref bl, .int at0, .int ca, .ref wk, .int (nI sz), .ref fl, .ref sr, .int (nI cnt), .ref ca9, .ref cl, .int (nI rw)])), (cl, .inl (κ 2, 320, .inr (.inr (.inr (.inr fc)))))] ++ u9.2)) := by
  refine et_of (by decide +kernel) (Nat.le_of_ble_eq_true rfl) ?_
  intro p e s m args below meth c A ls hx hb hr hml hts hown hlk hin hKK hK hA hP hD hS hE hl
  have hS : va_S A s.heap s.heap [] := hS
  have hP : va_P D vwCl ([(rd, .inr (4, [.ref tp, .ref d, .ref ft, .ref bl, .int at0, .int ca, .ref wk, .int (nI sz), .ref fl, .ref sr, .int (nI cnt), .ref ca9, .ref cl, .int (nI rw)])), (cl, .inl (κ 2, 320, .inr (.inr (.inr (.inr fc)))))] ++ im) s.heap := hP
  have hD : va_D A ([(rd, .inr (4, [.ref tp, .ref d, .ref ft, .ref bl, .int at0, .int ca, .ref wk, .int (nI sz), .ref fl, .ref sr, .int (nI cnt), .ref ca9, .ref cl, .int (nI rw)])), (cl, .inl (κ 2, 320, .inr (.inr (.inr (.inr fc)))))] ++ im) := hD
  have hFX : FX p s m args c cX4_newSheet 3 RX4 := ⟨hx, hb, hml, hown, hts⟩
  have hl : lv_has ls 3 [(0, .ref rd)] := hl
  obtain ⟨g_1, hm_2, lo_3⟩ := id hca
  have hrw9 := rw_le hr40 hw8
  refine lv_aload_n hx hb dX4_newSheet_0 rfl (lv_at hl 0 rfl) ?_
  refine va_get (D := D) (ci := 4) (v := .ref ca9) (C := RX4) (T := TX4) (N := 14) hx hb hts inlX4 hown hK hP 0 rfl rfl 11 (by decide) (hts _ mw_78) (fun _ h9 => h9) rfl dX4_newSheet_1 ?_
  refine lv_ifnonnull (tgt := 9) hx hb dX4_newSheet_4 (by decide) ?_
  refine lv_aload_n hx hb dX4_newSheet_9 rfl (lv_at hl 0 rfl) ?_
  refine va_get (D := D) (ci := 4) (v := .int (nI rw)) (C := RX4) (T := TX4) (N := 14) hx hb hts inlX4 hown hK hP 0 rfl rfl 13 (by decide) (hts _ mw_80) (fun _ h9 => h9) rfl dX4_newSheet_10 ?_
  refine lv_aload_n hx hb dX4_newSheet_13 rfl (lv_at hl 0 rfl) ?_
  refine va_get (D := D) (ci := 4) (v := .ref ca9) (C := RX4) (T := TX4) (N := 14) hx hb hts inlX4 hown hK hP 0 rfl rfl 11 (by decide) (hts _ mw_78) (fun _ h9 => h9) rfl dX4_newSheet_14 ?_
  refine va_alen hx hb hK (oneP (C := [(rd, .inr (4, [.ref tp, .ref d, .ref ft, .ref bl, .int at0, .int ca, .ref wk, .int (nI sz), .ref fl, .ref sr, .int (nI cnt), .ref ca9, .ref cl, .int (nI rw)])), (cl, .inl (κ 2, 320, .inr (.inr (.inr (.inr fc)))))]) hP hm_2) 0 3 rfl rfl (v := nI w) rfl dX4_newSheet_17 ?_
  refine lv_imul hx hb dX4_newSheet_18 ?_
  refine ki (v := (nI (rw * w))) (pk_mul rw w) ?_
  refine my_newq hx hb hown (hts _ mw_66) hKK.2.1 hK hP hD hS hA 2 rfl (N' := (rw * w)) (nI_pos (by omega)) (nI_clamp (by omega)) (by omega) (Nat.le_of_ble_eq_true rfl) (by show _ ≤ 367; omega) dX4_newSheet_19 (fun q_4 H hP hD hS => ?_)
  refine W.widen (k := 1) (n := 320) (Nat.le_refl _) (by omega) ?_
  replace hP : va_P D vwCl ([(rd, .inr (4, [.ref tp, .ref d, .ref ft, .ref bl, .int at0, .int ca, .ref wk, .int (nI sz), .ref fl, .ref sr, .int (nI cnt), .ref ca9, .ref cl, .int (nI rw)])), (cl, .inl (κ 2, 320, .inr (.inr (.inr (.inr fc))))), (q_4, .inl (κ 2, rw * w, .inr (.inr (.inr (.inr (fun _ => none))))))] ++ im) H := mvP hP
  replace hD : va_D A ([(rd, .inr (4, [.ref tp, .ref d, .ref ft, .ref bl, .int at0, .int ca, .ref wk, .int (nI sz), .ref fl, .ref sr, .int (nI cnt), .ref ca9, .ref cl, .int (nI rw)])), (cl, .inl (κ 2, 320, .inr (.inr (.inr (.inr fc))))), (q_4, .inl (κ 2, rw * w, .inr (.inr (.inr (.inr (fun _ => none))))))] ++ im) := mvD hD
  refine lv_astore_n (lv' := [(1, .ref q_4), (0, .ref rd)]) hx hb dX4_newSheet_22 rfl hl (by decide) rfl (fun ls hl => ?_)
  refine lv_iconst (v := 0) hx hb dX4_newSheet_23 (by decide) ?_
  refine lv_istore_n (lv' := [(2, .int 0), (1, .ref q_4), (0, .ref rd)]) hx hb dX4_newSheet_24 rfl hl (by decide) rfl (fun ls hl => ?_)
  refine loop_dn (fun k9 H locs ls => ∃ (k2_25 : Nat), ∃ (gq_4_25 : Nat → Option Nat), (k2_25 ≤ rw * w) ∧ Lc κ im gq_4_25 k2_25 ∧ rw * w - k2_25 = k9 ∧ va_P D vwCl ([(rd, .inr (4, [.ref tp, .ref d, .ref ft, .ref bl, .int at0, .int ca, .ref wk, .int (nI sz), .ref fl, .ref sr, .int (nI cnt), .ref ca9, .ref cl, .int (nI rw)])), (cl, .inl (κ 2, 320, .inr (.inr (.inr (.inr fc))))), (q_4, .inl (κ 2, rw * w, .inr (.inr (.inr (.inr gq_4_25)))))] ++ im) H ∧ va_D A ([(rd, .inr (4, [.ref tp, .ref d, .ref ft, .ref bl, .int at0, .int ca, .ref wk, .int (nI sz), .ref fl, .ref sr, .int (nI cnt), .ref ca9, .ref cl, .int (nI rw)])), (cl, .inl (κ 2, 320, .inr (.inr (.inr (.inr fc))))), (q_4, .inl (κ 2, rw * w, .inr (.inr (.inr (.inr gq_4_25)))))] ++ im) ∧ va_S A s.heap H locs ∧ lv_has ls 3 [(2, .int (nI k2_25)), (1, .ref q_4), (0, .ref rd)]) (fun k9 H locs ls hI25 ih25 => ?_) (rw * w - 0) _ _ _ ⟨0, (fun _ => none), (by omega), Lc_0, rfl, hP, hD, hS, lv_sub hl [0, 1, 2] rfl⟩
  obtain ⟨k2_25, gq_4_25, hl25_0, hq25_0, hm25, hP, hD, hS, hl⟩ := hI25
  refine lv_iload_n hx hb dX4_newSheet_25 rfl (lv_at hl 0 rfl) ?_
  refine lv_aload_n hx hb dX4_newSheet_26 rfl (lv_at hl 1 rfl) ?_
  refine va_alen hx hb hK hP 2 2 rfl rfl (v := nI (rw * w)) rfl dX4_newSheet_27 ?_
  refine lv_icmp_ge (tgt := 46) hx hb dX4_newSheet_28 (by decide) (fun c_5 => ?_) (fun c_5 => ?_)
  · have nc_5 := cv_le (a := (rw * w)) (b := k2_25) (by omega) (by omega) c_5
    obtain rfl : rw * w = k2_25 := by omega
    refine va_new (ci := 5) (fs := [.null, .null, .int 0, .null]) (C := RX5) (T := TX5) (N := 4) hx hb hts inlX5 tyX5 tyX5_ok hown (hts _ mw_375) (hts _ mw_376) (hts _ mw_377) hK hP hD hS hA rfl (fun j hj => by rcases (show j = 0 ∨ j = 1 ∨ j = 2 ∨ j = 3 by omega) with rfl | rfl | rfl | rfl <;> rfl) (Nat.le_of_ble_eq_true rfl) (Nat.le_of_ble_eq_true rfl) dX4_newSheet_46 (fun q_6 H hP hD hS => ?_)
    replace hP : va_P D vwCl ([(rd, .inr (4, [.ref tp, .ref d, .ref ft, .ref bl, .int at0, .int ca, .ref wk, .int (nI sz), .ref fl, .ref sr, .int (nI cnt), .ref ca9, .ref cl, .int (nI rw)])), (cl, .inl (κ 2, 320, .inr (.inr (.inr (.inr fc))))), (q_4, .inl (κ 2, rw * w, .inr (.inr (.inr (.inr gq_4_25))))), (q_6, .inr (5, [.null, .null, .int 0, .null]))] ++ im) H := mvP hP
    replace hD : va_D A ([(rd, .inr (4, [.ref tp, .ref d, .ref ft, .ref bl, .int at0, .int ca, .ref wk, .int (nI sz), .ref fl, .ref sr, .int (nI cnt), .ref ca9, .ref cl, .int (nI rw)])), (cl, .inl (κ 2, 320, .inr (.inr (.inr (.inr fc))))), (q_4, .inl (κ 2, rw * w, .inr (.inr (.inr (.inr gq_4_25))))), (q_6, .inr (5, [.null, .null, .int 0, .null]))] ++ im) := mvD hD
    refine lv_dup hx hb dX4_newSheet_49 rfl ?_
    refine lv_aload_n hx hb dX4_newSheet_50 rfl (lv_at hl 2 rfl) ?_
    refine va_get (D := D) (ci := 4) (v := .ref ca9) (C := RX4) (T := TX4) (N := 14) hx hb hts inlX4 hown hK hP 0 rfl rfl 11 (by decide) (hts _ mw_78) (fun _ h9 => h9) rfl dX4_newSheet_51 ?_
    refine lv_aload_n hx hb dX4_newSheet_54 rfl (lv_at hl 1 rfl) ?_
    refine lv_aload_n hx hb dX4_newSheet_55 rfl (lv_at hl 2 rfl) ?_
    refine va_get (D := D) (ci := 4) (v := .int (nI rw)) (C := RX4) (T := TX4) (N := 14) hx hb hts inlX4 hown hK hP 0 rfl rfl 13 (by decide) (hts _ mw_80) (fun _ h9 => h9) rfl dX4_newSheet_56 ?_
    replace hP : va_P D vwCl ([(rd, .inr (4, [.ref tp, .ref d, .ref ft, .ref bl, .int at0, .int ca, .ref wk, .int (nI sz), .ref fl, .ref sr, .int (nI cnt), .ref ca9, .ref cl, .int (nI rw)])), (cl, .inl (κ 2, 320, .inr (.inr (.inr (.inr fc))))), (q_6, .inr (5, [.null, .null, .int 0, .null])), (q_4, .inl (κ 2, rw * w, .inr (.inr (.inr (.inr gq_4_25)))))] ++ im) _ := subP hP [0, 1, 3, 2] rfl
    replace hD : va_D A ([(rd, .inr (4, [.ref tp, .ref d, .ref ft, .ref bl, .int at0, .int ca, .ref wk, .int (nI sz), .ref fl, .ref sr, .int (nI cnt), .ref ca9, .ref cl, .int (nI rw)])), (cl, .inl (κ 2, 320, .inr (.inr (.inr (.inr fc))))), (q_6, .inr (5, [.null, .null, .int 0, .null])), (q_4, .inl (κ 2, rw * w, .inr (.inr (.inr (.inr gq_4_25)))))] ++ im) := subD hD [0, 1, 3, 2] (by decide) rfl
    obtain ⟨im_7, he_8⟩ : ∃ x9 : va_W, x9 = ([(q_4, .inl (κ 2, rw * w, .inr (.inr (.inr (.inr gq_4_25)))))] ++ im) := ⟨_, rfl⟩
    have hs_9 : Sb im im_7 := by rw [he_8]; exact Sb.app
    have hm_q_4 : (q_4, .inl (κ 2, rw * w, .inr (.inr (.inr (.inr gq_4_25))))) ∈ im_7 := by rw [he_8]; exact List.mem_of_getElem? (i := 0) rfl
    replace hP : va_P D vwCl ([(rd, .inr (4, [.ref tp, .ref d, .ref ft, .ref bl, .int at0, .int ca, .ref wk, .int (nI sz), .ref fl, .ref sr, .int (nI cnt), .ref ca9, .ref cl, .int (nI rw)])), (cl, .inl (κ 2, 320, .inr (.inr (.inr (.inr fc))))), (q_6, .inr (5, [.null, .null, .int 0, .null]))] ++ ([(q_4, .inl (κ 2, rw * w, .inr (.inr (.inr (.inr gq_4_25)))))] ++ im)) _ := hP
    replace hD : va_D A ([(rd, .inr (4, [.ref tp, .ref d, .ref ft, .ref bl, .int at0, .int ca, .ref wk, .int (nI sz), .ref fl, .ref sr, .int (nI cnt), .ref ca9, .ref cl, .int (nI rw)])), (cl, .inl (κ 2, 320, .inr (.inr (.inr (.inr fc))))), (q_6, .inr (5, [.null, .null, .int 0, .null]))] ++ ([(q_4, .inl (κ 2, rw * w, .inr (.inr (.inr (.inr gq_4_25)))))] ++ im)) := hD
    rw [← he_8] at hP hD
    clear he_8
    replace hca := hca.up hs_9
    replace hlc := hlc.up hs_9
    replace lo_3 := lo_3.up hs_9
    replace hq25_0 := hq25_0.up hs_9
    replace hm_2 := hs_9 _ hm_2
    have hf_10 : Cx κ im_7 q_4 (rw * w) := ⟨_, hm_q_4, hq25_0⟩
    refine et_IT (CR := [(rd, .inr (4, [.ref tp, .ref d, .ref ft, .ref bl, .int at0, .int ca, .ref wk, .int (nI sz), .ref fl, .ref sr, .int (nI cnt), .ref ca9, .ref cl, .int (nI rw)])), (cl, .inl (κ 2, 320, .inr (.inr (.inr (.inr fc)))))]) (As := [.ref ca9, .ref q_4, .int (nI rw)]) (rest := [.ref q_6]) hFX hKK hE hP hD hS hA (c_X5_init l D κ κq im_7 q_6 ca9 q_4 rw w hca hf_10 (by omega) (by omega) (by omega)) 3 mw_378 mw_379 mw_377 mw_380 hdI_X5_init ⟨Nat.le_of_ble_eq_true rfl, Nat.le_of_ble_eq_true rfl⟩ rfl rfl (Nat.le_of_ble_eq_true rfl) dX4_newSheet_59 ⟨Nat.le_of_ble_eq_true rfl, Nat.le_of_ble_eq_true rfl⟩ hl.1 [2] [0, 1] rfl rfl (by decide) (by decide) (by decide) (fun im2__11 H locs hp_12 hP hD hS => ?_)
    refine W.widen (k := 4) (n := 367) (Nat.le_refl _) (Nat.le_refl _) ?_
    replace hP : va_P D vwCl ([(rd, .inr (4, [.ref tp, .ref d, .ref ft, .ref bl, .int at0, .int ca, .ref wk, .int (nI sz), .ref fl, .ref sr, .int (nI cnt), .ref ca9, .ref cl, .int (nI rw)])), (cl, .inl (κ 2, 320, .inr (.inr (.inr (.inr fc)))))] ++ im2__11) H := subP (C := [(rd, .inr (4, [.ref tp, .ref d, .ref ft, .ref bl, .int at0, .int ca, .ref wk, .int (nI sz), .ref fl, .ref sr, .int (nI cnt), .ref ca9, .ref cl, .int (nI rw)])), (cl, .inl (κ 2, 320, .inr (.inr (.inr (.inr fc)))))]) hP [0, 1] rfl
    replace hD : va_D A ([(rd, .inr (4, [.ref tp, .ref d, .ref ft, .ref bl, .int at0, .int ca, .ref wk, .int (nI sz), .ref fl, .ref sr, .int (nI cnt), .ref ca9, .ref cl, .int (nI rw)])), (cl, .inl (κ 2, 320, .inr (.inr (.inr (.inr fc)))))] ++ im2__11) := subD (C := [(rd, .inr (4, [.ref tp, .ref d, .ref ft, .ref bl, .int at0, .int ca, .ref wk, .int (nI sz), .ref fl, .ref sr, .int (nI cnt), .ref ca9, .ref cl, .int (nI rw)])), (cl, .inl (κ 2, 320, .inr (.inr (.inr (.inr fc)))))]) hD [0, 1] (by decide) rfl
    replace hp_12 : Sb im_7 im2__11 ∧ Sh κ im2__11 q_6 rw w := hp_12
    obtain ⟨h_13, h_14⟩ := hp_12
    replace hca := hca.up h_13
    replace hlc := hlc.up h_13
    replace lo_3 := lo_3.up h_13
    replace hq25_0 := hq25_0.up h_13
    replace hf_10 := hf_10.up h_13
    replace hm_2 := h_13 _ hm_2
    replace hm_q_4 := h_13 _ hm_q_4
    refine W.eq (g2 := F0 m 62 ls [.ref q_6]) rfl ?_
    exact et_aret hx hb hr (by first | exact Or.inl ⟨_, rfl⟩ | exact Or.inr ⟨_, rfl⟩) hlk (by first | exact Or.inl rfl | exact Or.inr ⟨_, rfl⟩) hS (q_6, im2__11) rfl ⟨(show Sb im im2__11 from (Sb.tr hs_9 h_13)), (show Sh κ im2__11 q_6 rw w from h_14)⟩ (subP hP [0, 1] rfl) (subD hD [0, 1] (by decide) rfl) (Nat.le_of_ble_eq_true rfl) (Nat.le_of_ble_eq_true rfl) dX4_newSheet_62
  · have nc_5 := cv_nle (a := (rw * w)) (b := k2_25) (by omega) (by omega) c_5
    refine lv_aload_n hx hb dX4_newSheet_31 rfl (lv_at hl 1 rfl) ?_
    refine lv_iload_n hx hb dX4_newSheet_32 rfl (lv_at hl 0 rfl) ?_
    refine lv_aload_n hx hb dX4_newSheet_33 rfl (lv_at hl 2 rfl) ?_
    refine va_get (D := D) (ci := 4) (v := .ref cl) (C := RX4) (T := TX4) (N := 14) hx hb hts inlX4 hown hK hP 0 rfl rfl 12 (by decide) (hts _ mw_79) (fun _ h9 => h9) rfl dX4_newSheet_34 ?_
    refine lv_iload_n hx hb dX4_newSheet_37 rfl (lv_at hl 0 rfl) ?_
    refine va_aldq hx hb hK hP 1 2 rfl rfl (i := nI k2_25) (vp_in_nI (n := k2_25) (by omega) (by omega)) dX4_newSheet_38 ?_
    obtain ⟨q_15, e_16, k_17, m_18, h_19⟩ := hlc k2_25 (by omega)
    refine kv (v := .ref q_15) (by rw [nI_clamp (by omega)]; rw [e_16]; rfl) ?_
    obtain ⟨hk_20, b_21, x_22, hm_23, hb_24⟩ := id h_19
    have hn_b_21 := hb_24.1
    obtain ⟨k_25, ek_25⟩ := tl_at [(rd, .inr (4, [.ref tp, .ref d, .ref ft, .ref bl, .int at0, .int ca, .ref wk, .int (nI sz), .ref fl, .ref sr, .int (nI cnt), .ref ca9, .ref cl, .int (nI rw)])), (cl, .inl (κ 2, 320, .inr (.inr (.inr (.inr fc))))), (q_4, .inl (κ 2, rw * w, .inr (.inr (.inr (.inr gq_4_25)))))] hm_23
    refine va_astq hx hb hK hP hD hS 2 2 k_25 0 rfl rfl ek_25 rfl (i := nI k2_25) (vp_in_nI (n := k2_25) (by omega) (by omega)) dX4_newSheet_39 (fun H locs hP hD hS => ?_)
    rw [nI_clamp (by omega)] at hP hD
    have hP : va_P D vwCl ([(rd, .inr (4, [.ref tp, .ref d, .ref ft, .ref bl, .int at0, .int ca, .ref wk, .int (nI sz), .ref fl, .ref sr, .int (nI cnt), .ref ca9, .ref cl, .int (nI rw)])), (cl, .inl (κ 2, 320, .inr (.inr (.inr (.inr fc))))), (q_4, .inl (κ 2, rw * w, .inr (.inr (.inr (.inr (va_up gq_4_25 k2_25 (some q_15)))))))] ++ im) H := hP
    have hD : va_D A ([(rd, .inr (4, [.ref tp, .ref d, .ref ft, .ref bl, .int at0, .int ca, .ref wk, .int (nI sz), .ref fl, .ref sr, .int (nI cnt), .ref ca9, .ref cl, .int (nI rw)])), (cl, .inl (κ 2, 320, .inr (.inr (.inr (.inr fc))))), (q_4, .inl (κ 2, rw * w, .inr (.inr (.inr (.inr (va_up gq_4_25 k2_25 (some q_15)))))))] ++ im) := hD
    have hf_27 : Lc κ im (va_up gq_4_25 k2_25 (some q_15)) (k2_25 + 1) := Lc_add hq25_0 h_19
    generalize va_up gq_4_25 k2_25 (some q_15) = g_26 at hP hD hf_27
    refine lv_iinc (v := (nI (k2_25 + 1))) (lv' := [(2, .int (nI (k2_25 + 1))), (1, .ref q_4), (0, .ref rd)]) hx hb dX4_newSheet_40 hl (k := 0) rfl (nI_i k2_25) (by decide) rfl (fun ls hl => ?_)
    refine lv_goto (tgt := 25) hx hb dX4_newSheet_43 (by decide) ?_
    exact ih25 _ _ _ _ (by omega) ⟨(k2_25 + 1), g_26, (by omega), hf_27, rfl, hP, hD, hS, lv_sub hl [0, 1, 2] rfl⟩
