theorem dX4_keepByte_0 : decode cX4_keepByte 0 = .ok (.aload_n 0, 1) := by decide +kernel
theorem dX4_keepByte_1 : decode cX4_keepByte 1 = .ok (.getfield 31, 3) := by decide +kernel
theorem mw_74 : Cond.fieldLink RX4 31 "TypedTables$Reader" "size" "I" ∈ wsL_law := lrk_4 _ (List.mem_of_getElem? (i := 2) rfl)
theorem dX4_keepByte_4 : decode cX4_keepByte 4 = .ok (.bipush 20, 2) := by decide +kernel
theorem dX4_keepByte_6 : decode cX4_keepByte 6 = .ok (.if_icmp .ge 24, 3) := by decide +kernel
theorem dX4_keepByte_30 : decode cX4_keepByte 30 = .ok (.return_, 1) := by decide +kernel
theorem dX4_keepByte_9 : decode cX4_keepByte 9 = .ok (.aload_n 0, 1) := by decide +kernel
theorem dX4_keepByte_10 : decode cX4_keepByte 10 = .ok (.getfield 27, 3) := by decide +kernel
theorem mw_73 : Cond.fieldLink RX4 27 "TypedTables$Reader" "work" "[B" ∈ wsL_law := lrk_4 _ (List.mem_of_getElem? (i := 1) rfl)
theorem dX4_keepByte_13 : decode cX4_keepByte 13 = .ok (.aload_n 0, 1) := by decide +kernel
theorem dX4_keepByte_14 : decode cX4_keepByte 14 = .ok (.getfield 31, 3) := by decide +kernel
theorem dX4_keepByte_17 : decode cX4_keepByte 17 = .ok (.iload_n 1, 1) := by decide +kernel
theorem dX4_keepByte_18 : decode cX4_keepByte 18 = .ok (.i2b, 1) := by decide +kernel
theorem dX4_keepByte_19 : decode cX4_keepByte 19 = .ok (.bastore, 1) := by decide +kernel
theorem dX4_keepByte_20 : decode cX4_keepByte 20 = .ok (.aload_n 0, 1) := by decide +kernel
theorem dX4_keepByte_21 : decode cX4_keepByte 21 = .ok (.dup, 1) := by decide +kernel
theorem dX4_keepByte_22 : decode cX4_keepByte 22 = .ok (.getfield 31, 3) := by decide +kernel
theorem dX4_keepByte_25 : decode cX4_keepByte 25 = .ok (.iconst 1, 1) := by decide +kernel
theorem dX4_keepByte_26 : decode cX4_keepByte 26 = .ok (.iadd, 1) := by decide +kernel
theorem dX4_keepByte_27 : decode cX4_keepByte 27 = .ok (.putfield 31, 3) := by decide +kernel
theorem dX4_skipBlanks_0 : decode cX4_skipBlanks 0 = .ok (.aload_n 0, 1) := by decide +kernel
theorem dX4_skipBlanks_1 : decode cX4_skipBlanks 1 = .ok (.getfield 59, 3) := by decide +kernel
theorem mw_82 : Cond.fieldLink RX4 59 "TypedTables$Reader" "dialect" "[I" ∈ wsL_law := lrk_4 _ (List.mem_of_getElem? (i := 10) rfl)
theorem dX4_skipBlanks_4 : decode cX4_skipBlanks 4 = .ok (.iconst 3, 1) := by decide +kernel
theorem dX4_skipBlanks_5 : decode cX4_skipBlanks 5 = .ok (.iaload, 1) := by decide +kernel
theorem dX4_skipBlanks_6 : decode cX4_skipBlanks 6 = .ok (.iconst 1, 1) := by decide +kernel
theorem dX4_skipBlanks_7 : decode cX4_skipBlanks 7 = .ok (.if_icmp .ne 47, 3) := by decide +kernel
theorem dX4_skipBlanks_54 : decode cX4_skipBlanks 54 = .ok (.return_, 1) := by decide +kernel
theorem dX4_skipBlanks_10 : decode cX4_skipBlanks 10 = .ok (.aload_n 0, 1) := by decide +kernel
theorem dX4_skipBlanks_11 : decode cX4_skipBlanks 11 = .ok (.getfield 20, 3) := by decide +kernel
theorem mw_71 : Cond.fieldLink RX4 20 "TypedTables$Reader" "at" "I" ∈ wsL_law := lrk_3 _ (List.mem_of_getElem? (i := 23) rfl)
theorem dX4_skipBlanks_14 : decode cX4_skipBlanks 14 = .ok (.aload_n 0, 1) := by decide +kernel
theorem dX4_skipBlanks_15 : decode cX4_skipBlanks 15 = .ok (.getfield 55, 3) := by decide +kernel
theorem mw_81 : Cond.fieldLink RX4 55 "TypedTables$Reader" "tape" "LTypedTables$Tape;" ∈ wsL_law := lrk_4 _ (List.mem_of_getElem? (i := 9) rfl)
theorem dX4_skipBlanks_18 : decode cX4_skipBlanks 18 = .ok (.getfield 80, 3) := by decide +kernel
theorem mw_261 : Cond.fieldLink RX4 80 "TypedTables$Tape" "length" "I" ∈ wsL_law := lrk_11 _ (List.mem_of_getElem? (i := 21) rfl)
theorem dX4_skipBlanks_21 : decode cX4_skipBlanks 21 = .ok (.if_icmp .ge 33, 3) := by decide +kernel
theorem dX4_skipBlanks_24 : decode cX4_skipBlanks 24 = .ok (.aload_n 0, 1) := by decide +kernel
theorem dX4_skipBlanks_25 : decode cX4_skipBlanks 25 = .ok (.getfield 55, 3) := by decide +kernel
theorem dX4_skipBlanks_28 : decode cX4_skipBlanks 28 = .ok (.getfield 93, 3) := by decide +kernel
theorem mw_266 : Cond.fieldLink RX4 93 "TypedTables$Tape" "bytes" "[I" ∈ wsL_law := lrk_12 _ (List.mem_of_getElem? (i := 2) rfl)
theorem dX4_skipBlanks_31 : decode cX4_skipBlanks 31 = .ok (.aload_n 0, 1) := by decide +kernel
theorem dX4_skipBlanks_32 : decode cX4_skipBlanks 32 = .ok (.getfield 20, 3) := by decide +kernel
theorem dX4_skipBlanks_35 : decode cX4_skipBlanks 35 = .ok (.iaload, 1) := by decide +kernel
theorem dX4_skipBlanks_36 : decode cX4_skipBlanks 36 = .ok (.bipush 32, 2) := by decide +kernel
theorem dX4_skipBlanks_38 : decode cX4_skipBlanks 38 = .ok (.if_icmp .ne 16, 3) := by decide +kernel
theorem dX4_skipBlanks_41 : decode cX4_skipBlanks 41 = .ok (.aload_n 0, 1) := by decide +kernel
theorem dX4_skipBlanks_42 : decode cX4_skipBlanks 42 = .ok (.dup, 1) := by decide +kernel
theorem dX4_skipBlanks_43 : decode cX4_skipBlanks 43 = .ok (.getfield 20, 3) := by decide +kernel
theorem dX4_skipBlanks_46 : decode cX4_skipBlanks 46 = .ok (.iconst 1, 1) := by decide +kernel
theorem dX4_skipBlanks_47 : decode cX4_skipBlanks 47 = .ok (.iadd, 1) := by decide +kernel
theorem dX4_skipBlanks_48 : decode cX4_skipBlanks 48 = .ok (.putfield 20, 3) := by decide +kernel
theorem dX4_skipBlanks_51 : decode cX4_skipBlanks 51 = .ok (.goto (-51), 3) := by decide +kernel
theorem dX4_readPlain_0 : decode cX4_readPlain 0 = .ok (.iconst 0, 1) := by decide +kernel
theorem dX4_readPlain_1 : decode cX4_readPlain 1 = .ok (.istore_n 1, 1) := by decide +kernel
theorem dX4_readPlain_2 : decode cX4_readPlain 2 = .ok (.aload_n 0, 1) := by decide +kernel
theorem dX4_readPlain_3 : decode cX4_readPlain 3 = .ok (.getfield 20, 3) := by decide +kernel
theorem dX4_readPlain_6 : decode cX4_readPlain 6 = .ok (.aload_n 0, 1) := by decide +kernel
theorem dX4_readPlain_7 : decode cX4_readPlain 7 = .ok (.getfield 55, 3) := by decide +kernel
theorem dX4_readPlain_10 : decode cX4_readPlain 10 = .ok (.getfield 80, 3) := by decide +kernel
theorem dX4_readPlain_13 : decode cX4_readPlain 13 = .ok (.if_icmp .ge 124, 3) := by decide +kernel
theorem dX4_readPlain_137 : decode cX4_readPlain 137 = .ok (.iconst 0, 1) := by decide +kernel
theorem dX4_readPlain_138 : decode cX4_readPlain 138 = .ok (.ireturn, 1) := by decide +kernel
theorem dX4_readPlain_16 : decode cX4_readPlain 16 = .ok (.aload_n 0, 1) := by decide +kernel
theorem dX4_readPlain_17 : decode cX4_readPlain 17 = .ok (.getfield 55, 3) := by decide +kernel
theorem dX4_readPlain_20 : decode cX4_readPlain 20 = .ok (.getfield 93, 3) := by decide +kernel
theorem dX4_readPlain_23 : decode cX4_readPlain 23 = .ok (.aload_n 0, 1) := by decide +kernel
theorem dX4_readPlain_24 : decode cX4_readPlain 24 = .ok (.getfield 20, 3) := by decide +kernel
theorem dX4_readPlain_27 : decode cX4_readPlain 27 = .ok (.iaload, 1) := by decide +kernel
theorem dX4_readPlain_28 : decode cX4_readPlain 28 = .ok (.istore_n 2, 1) := by decide +kernel
theorem dX4_readPlain_29 : decode cX4_readPlain 29 = .ok (.iload_n 2, 1) := by decide +kernel
theorem dX4_readPlain_30 : decode cX4_readPlain 30 = .ok (.aload_n 0, 1) := by decide +kernel
theorem dX4_readPlain_31 : decode cX4_readPlain 31 = .ok (.getfield 59, 3) := by decide +kernel
theorem dX4_readPlain_34 : decode cX4_readPlain 34 = .ok (.iconst 0, 1) := by decide +kernel
theorem dX4_readPlain_35 : decode cX4_readPlain 35 = .ok (.iaload, 1) := by decide +kernel
theorem dX4_readPlain_36 : decode cX4_readPlain 36 = .ok (.if_icmp .eq 9, 3) := by decide +kernel
theorem dX4_readPlain_45 : decode cX4_readPlain 45 = .ok (.iconst 0, 1) := by decide +kernel
theorem dX4_readPlain_46 : decode cX4_readPlain 46 = .ok (.ireturn, 1) := by decide +kernel
theorem dX4_readPlain_39 : decode cX4_readPlain 39 = .ok (.iload_n 2, 1) := by decide +kernel
theorem dX4_readPlain_40 : decode cX4_readPlain 40 = .ok (.bipush 10, 2) := by decide +kernel
theorem dX4_readPlain_42 : decode cX4_readPlain 42 = .ok (.if_icmp .ne 5, 3) := by decide +kernel
theorem dX4_readPlain_47 : decode cX4_readPlain 47 = .ok (.iload_n 2, 1) := by decide +kernel
theorem dX4_readPlain_48 : decode cX4_readPlain 48 = .ok (.invokestatic 115, 3) := by decide +kernel
theorem mw_275 : Cond.methodLink RX4 115 yX8_isSign ∈ wsL_law := lrk_12 _ (List.mem_of_getElem? (i := 11) rfl)
theorem gS_X4_115 : GoodIn wsL_law (va_wsS RX4 115 yX8_isSign (wl yX8_isSign cX8_isSign 1 (some .boolean))) := g_S mw_275 mw_276 mw_18 mw_277
theorem dX4_readPlain_51 : decode cX4_readPlain 51 = .ok (.ifCond .ne 5, 3) := by decide +kernel
theorem dX4_readPlain_56 : decode cX4_readPlain 56 = .ok (.iload_n 2, 1) := by decide +kernel
theorem dX4_readPlain_57 : decode cX4_readPlain 57 = .ok (.aload_n 0, 1) := by decide +kernel
theorem dX4_readPlain_58 : decode cX4_readPlain 58 = .ok (.getfield 59, 3) := by decide +kernel
theorem dX4_readPlain_61 : decode cX4_readPlain 61 = .ok (.iconst 1, 1) := by decide +kernel
theorem dX4_readPlain_62 : decode cX4_readPlain 62 = .ok (.iaload, 1) := by decide +kernel
theorem dX4_readPlain_63 : decode cX4_readPlain 63 = .ok (.if_icmp .ne 5, 3) := by decide +kernel
theorem dX4_readPlain_68 : decode cX4_readPlain 68 = .ok (.iload_n 2, 1) := by decide +kernel
theorem dX4_readPlain_69 : decode cX4_readPlain 69 = .ok (.bipush 32, 2) := by decide +kernel
theorem dX4_readPlain_71 : decode cX4_readPlain 71 = .ok (.if_icmp .ne 19, 3) := by decide +kernel
theorem dX4_readPlain_90 : decode cX4_readPlain 90 = .ok (.aload_n 0, 1) := by decide +kernel
theorem dX4_readPlain_91 : decode cX4_readPlain 91 = .ok (.getfield 31, 3) := by decide +kernel
theorem dX4_readPlain_94 : decode cX4_readPlain 94 = .ok (.iload_n 1, 1) := by decide +kernel
theorem dX4_readPlain_95 : decode cX4_readPlain 95 = .ok (.iadd, 1) := by decide +kernel
theorem dX4_readPlain_96 : decode cX4_readPlain 96 = .ok (.bipush 20, 2) := by decide +kernel
theorem dX4_readPlain_98 : decode cX4_readPlain 98 = .ok (.if_icmp .lt 5, 3) := by decide +kernel
theorem dX4_readPlain_103 : decode cX4_readPlain 103 = .ok (.iload_n 1, 1) := by decide +kernel
theorem dX4_readPlain_104 : decode cX4_readPlain 104 = .ok (.ifCond .le 15, 3) := by decide +kernel
theorem dX4_readPlain_119 : decode cX4_readPlain 119 = .ok (.aload_n 0, 1) := by decide +kernel
theorem dX4_readPlain_120 : decode cX4_readPlain 120 = .ok (.iload_n 2, 1) := by decide +kernel
theorem dX4_readPlain_121 : decode cX4_readPlain 121 = .ok (.invokevirtual 153, 3) := by decide +kernel
theorem mw_297 : Cond.code yX4_keepByte cX4_keepByte 2 none ∈ wsL_law := lrk_13 _ (List.mem_of_getElem? (i := 9) rfl)
theorem mw_294 : Cond.methodLink RX4 153 yX4_keepByte ∈ wsL_law := lrk_13 _ (List.mem_of_getElem? (i := 6) rfl)
theorem mw_26 : Cond.initialized RX4 ∈ wsL_law := lrk_2 _ (List.mem_of_getElem? (i := 2) rfl)
theorem mw_295 : Cond.instanceMethod yX4_keepByte ∈ wsL_law := lrk_13 _ (List.mem_of_getElem? (i := 7) rfl)
theorem mw_296 : Cond.selects RX4 yX4_keepByte yX4_keepByte ∈ wsL_law := lrk_13 _ (List.mem_of_getElem? (i := 8) rfl)
theorem gV_X4_153 : GoodIn wsL_law (wsV RX4 153 RX4 yX4_keepByte (wl yX4_keepByte cX4_keepByte 2 none)) := g_V mw_294 mw_295 mw_296 mw_26 mw_297
theorem hdV_X4_keepByte : yX4_keepByte.cls = RX4 ∧ okD yX4_keepByte 1 := by decide +kernel
theorem dX4_readPlain_124 : decode cX4_readPlain 124 = .ok (.aload_n 0, 1) := by decide +kernel
theorem dX4_readPlain_125 : decode cX4_readPlain 125 = .ok (.dup, 1) := by decide +kernel
theorem dX4_readPlain_126 : decode cX4_readPlain 126 = .ok (.getfield 20, 3) := by decide +kernel
theorem dX4_readPlain_129 : decode cX4_readPlain 129 = .ok (.iconst 1, 1) := by decide +kernel
theorem dX4_readPlain_130 : decode cX4_readPlain 130 = .ok (.iadd, 1) := by decide +kernel
theorem dX4_readPlain_131 : decode cX4_readPlain 131 = .ok (.putfield 20, 3) := by decide +kernel
theorem dX4_readPlain_134 : decode cX4_readPlain 134 = .ok (.goto (-132), 3) := by decide +kernel
theorem dX4_readPlain_107 : decode cX4_readPlain 107 = .ok (.aload_n 0, 1) := by decide +kernel
theorem dX4_readPlain_108 : decode cX4_readPlain 108 = .ok (.bipush 32, 2) := by decide +kernel
theorem dX4_readPlain_110 : decode cX4_readPlain 110 = .ok (.invokevirtual 153, 3) := by decide +kernel
theorem dX4_readPlain_113 : decode cX4_readPlain 113 = .ok (.iinc 1 (-1), 3) := by decide +kernel
theorem dX4_readPlain_116 : decode cX4_readPlain 116 = .ok (.goto (-13), 3) := by decide +kernel
theorem dX4_readPlain_101 : decode cX4_readPlain 101 = .ok (.iconst 5, 1) := by decide +kernel
theorem dX4_readPlain_102 : decode cX4_readPlain 102 = .ok (.ireturn, 1) := by decide +kernel
theorem dX4_readPlain_74 : decode cX4_readPlain 74 = .ok (.aload_n 0, 1) := by decide +kernel
theorem dX4_readPlain_75 : decode cX4_readPlain 75 = .ok (.getfield 59, 3) := by decide +kernel
theorem dX4_readPlain_78 : decode cX4_readPlain 78 = .ok (.iconst 3, 1) := by decide +kernel
theorem dX4_readPlain_79 : decode cX4_readPlain 79 = .ok (.iaload, 1) := by decide +kernel
theorem dX4_readPlain_80 : decode cX4_readPlain 80 = .ok (.iconst 1, 1) := by decide +kernel
theorem dX4_readPlain_81 : decode cX4_readPlain 81 = .ok (.if_icmp .ne 9, 3) := by decide +kernel
theorem dX4_readPlain_84 : decode cX4_readPlain 84 = .ok (.iinc 1 1, 3) := by decide +kernel
theorem dX4_readPlain_87 : decode cX4_readPlain 87 = .ok (.goto 37, 3) := by decide +kernel
theorem dX4_readPlain_66 : decode cX4_readPlain 66 = .ok (.iconst 2, 1) := by decide +kernel
theorem dX4_readPlain_67 : decode cX4_readPlain 67 = .ok (.ireturn, 1) := by decide +kernel
theorem dX4_readPlain_54 : decode cX4_readPlain 54 = .ok (.iconst 1, 1) := by decide +kernel
theorem dX4_readPlain_55 : decode cX4_readPlain 55 = .ok (.ireturn, 1) := by decide +kernel
theorem dX4_readQuoted_0 : decode cX4_readQuoted 0 = .ok (.aload_n 0, 1) := by decide +kernel
theorem dX4_readQuoted_1 : decode cX4_readQuoted 1 = .ok (.dup, 1) := by decide +kernel
theorem dX4_readQuoted_2 : decode cX4_readQuoted 2 = .ok (.getfield 20, 3) := by decide +kernel
theorem dX4_readQuoted_5 : decode cX4_readQuoted 5 = .ok (.iconst 1, 1) := by decide +kernel
theorem dX4_readQuoted_6 : decode cX4_readQuoted 6 = .ok (.iadd, 1) := by decide +kernel
theorem dX4_readQuoted_7 : decode cX4_readQuoted 7 = .ok (.putfield 20, 3) := by decide +kernel
theorem dX4_readQuoted_10 : decode cX4_readQuoted 10 = .ok (.aload_n 0, 1) := by decide +kernel
theorem dX4_readQuoted_11 : decode cX4_readQuoted 11 = .ok (.getfield 20, 3) := by decide +kernel
theorem dX4_readQuoted_14 : decode cX4_readQuoted 14 = .ok (.aload_n 0, 1) := by decide +kernel
theorem dX4_readQuoted_15 : decode cX4_readQuoted 15 = .ok (.getfield 55, 3) := by decide +kernel
theorem dX4_readQuoted_18 : decode cX4_readQuoted 18 = .ok (.getfield 80, 3) := by decide +kernel
theorem dX4_readQuoted_21 : decode cX4_readQuoted 21 = .ok (.if_icmp .ge 112, 3) := by decide +kernel
theorem dX4_readQuoted_133 : decode cX4_readQuoted 133 = .ok (.iconst 4, 1) := by decide +kernel
theorem dX4_readQuoted_134 : decode cX4_readQuoted 134 = .ok (.ireturn, 1) := by decide +kernel
theorem dX4_readQuoted_24 : decode cX4_readQuoted 24 = .ok (.aload_n 0, 1) := by decide +kernel
theorem dX4_readQuoted_25 : decode cX4_readQuoted 25 = .ok (.getfield 55, 3) := by decide +kernel
theorem dX4_readQuoted_28 : decode cX4_readQuoted 28 = .ok (.getfield 93, 3) := by decide +kernel
theorem dX4_readQuoted_31 : decode cX4_readQuoted 31 = .ok (.aload_n 0, 1) := by decide +kernel
theorem dX4_readQuoted_32 : decode cX4_readQuoted 32 = .ok (.getfield 20, 3) := by decide +kernel
theorem dX4_readQuoted_35 : decode cX4_readQuoted 35 = .ok (.iaload, 1) := by decide +kernel
theorem dX4_readQuoted_36 : decode cX4_readQuoted 36 = .ok (.istore_n 1, 1) := by decide +kernel
theorem dX4_readQuoted_37 : decode cX4_readQuoted 37 = .ok (.iload_n 1, 1) := by decide +kernel
theorem dX4_readQuoted_38 : decode cX4_readQuoted 38 = .ok (.invokestatic 115, 3) := by decide +kernel
theorem dX4_readQuoted_41 : decode cX4_readQuoted 41 = .ok (.ifCond .ne 11, 3) := by decide +kernel
theorem dX4_readQuoted_52 : decode cX4_readQuoted 52 = .ok (.iload_n 1, 1) := by decide +kernel
theorem dX4_readQuoted_53 : decode cX4_readQuoted 53 = .ok (.aload_n 0, 1) := by decide +kernel
theorem dX4_readQuoted_54 : decode cX4_readQuoted 54 = .ok (.getfield 59, 3) := by decide +kernel
theorem dX4_readQuoted_57 : decode cX4_readQuoted 57 = .ok (.iconst 1, 1) := by decide +kernel
theorem dX4_readQuoted_58 : decode cX4_readQuoted 58 = .ok (.iaload, 1) := by decide +kernel
theorem dX4_readQuoted_59 : decode cX4_readQuoted 59 = .ok (.if_icmp .ne 45, 3) := by decide +kernel
theorem dX4_readQuoted_104 : decode cX4_readQuoted 104 = .ok (.aload_n 0, 1) := by decide +kernel
theorem dX4_readQuoted_105 : decode cX4_readQuoted 105 = .ok (.getfield 31, 3) := by decide +kernel
theorem dX4_readQuoted_108 : decode cX4_readQuoted 108 = .ok (.bipush 20, 2) := by decide +kernel
theorem dX4_readQuoted_110 : decode cX4_readQuoted 110 = .ok (.if_icmp .lt 5, 3) := by decide +kernel
theorem dX4_readQuoted_115 : decode cX4_readQuoted 115 = .ok (.aload_n 0, 1) := by decide +kernel
theorem dX4_readQuoted_116 : decode cX4_readQuoted 116 = .ok (.iload_n 1, 1) := by decide +kernel
theorem dX4_readQuoted_117 : decode cX4_readQuoted 117 = .ok (.invokevirtual 153, 3) := by decide +kernel
theorem dX4_readQuoted_120 : decode cX4_readQuoted 120 = .ok (.aload_n 0, 1) := by decide +kernel
theorem dX4_readQuoted_121 : decode cX4_readQuoted 121 = .ok (.dup, 1) := by decide +kernel
theorem dX4_readQuoted_122 : decode cX4_readQuoted 122 = .ok (.getfield 20, 3) := by decide +kernel
theorem dX4_readQuoted_125 : decode cX4_readQuoted 125 = .ok (.iconst 1, 1) := by decide +kernel
theorem dX4_readQuoted_126 : decode cX4_readQuoted 126 = .ok (.iadd, 1) := by decide +kernel
theorem dX4_readQuoted_127 : decode cX4_readQuoted 127 = .ok (.putfield 20, 3) := by decide +kernel
theorem dX4_readQuoted_130 : decode cX4_readQuoted 130 = .ok (.goto (-120), 3) := by decide +kernel
theorem dX4_readQuoted_113 : decode cX4_readQuoted 113 = .ok (.iconst 5, 1) := by decide +kernel
theorem dX4_readQuoted_114 : decode cX4_readQuoted 114 = .ok (.ireturn, 1) := by decide +kernel
theorem dX4_readQuoted_62 : decode cX4_readQuoted 62 = .ok (.aload_n 0, 1) := by decide +kernel
theorem dX4_readQuoted_63 : decode cX4_readQuoted 63 = .ok (.dup, 1) := by decide +kernel
theorem dX4_readQuoted_64 : decode cX4_readQuoted 64 = .ok (.getfield 20, 3) := by decide +kernel
theorem dX4_readQuoted_67 : decode cX4_readQuoted 67 = .ok (.iconst 1, 1) := by decide +kernel
theorem dX4_readQuoted_68 : decode cX4_readQuoted 68 = .ok (.iadd, 1) := by decide +kernel
theorem dX4_readQuoted_69 : decode cX4_readQuoted 69 = .ok (.putfield 20, 3) := by decide +kernel
theorem dX4_readQuoted_72 : decode cX4_readQuoted 72 = .ok (.aload_n 0, 1) := by decide +kernel
theorem dX4_readQuoted_73 : decode cX4_readQuoted 73 = .ok (.getfield 20, 3) := by decide +kernel
theorem dX4_readQuoted_76 : decode cX4_readQuoted 76 = .ok (.aload_n 0, 1) := by decide +kernel
theorem dX4_readQuoted_77 : decode cX4_readQuoted 77 = .ok (.getfield 55, 3) := by decide +kernel
theorem dX4_readQuoted_80 : decode cX4_readQuoted 80 = .ok (.getfield 80, 3) := by decide +kernel
theorem dX4_readQuoted_83 : decode cX4_readQuoted 83 = .ok (.if_icmp .ge 19, 3) := by decide +kernel
theorem dX4_readQuoted_102 : decode cX4_readQuoted 102 = .ok (.iconst 0, 1) := by decide +kernel
theorem dX4_readQuoted_103 : decode cX4_readQuoted 103 = .ok (.ireturn, 1) := by decide +kernel
theorem dX4_readQuoted_86 : decode cX4_readQuoted 86 = .ok (.aload_n 0, 1) := by decide +kernel
theorem dX4_readQuoted_87 : decode cX4_readQuoted 87 = .ok (.getfield 55, 3) := by decide +kernel
theorem dX4_readQuoted_90 : decode cX4_readQuoted 90 = .ok (.getfield 93, 3) := by decide +kernel
theorem dX4_readQuoted_93 : decode cX4_readQuoted 93 = .ok (.aload_n 0, 1) := by decide +kernel
theorem dX4_readQuoted_94 : decode cX4_readQuoted 94 = .ok (.getfield 20, 3) := by decide +kernel
theorem dX4_readQuoted_97 : decode cX4_readQuoted 97 = .ok (.iaload, 1) := by decide +kernel
theorem dX4_readQuoted_98 : decode cX4_readQuoted 98 = .ok (.iload_n 1, 1) := by decide +kernel
theorem dX4_readQuoted_99 : decode cX4_readQuoted 99 = .ok (.if_icmp .eq 5, 3) := by decide +kernel
theorem dX4_readQuoted_44 : decode cX4_readQuoted 44 = .ok (.iload_n 1, 1) := by decide +kernel
theorem dX4_readQuoted_45 : decode cX4_readQuoted 45 = .ok (.bipush 10, 2) := by decide +kernel
theorem dX4_readQuoted_47 : decode cX4_readQuoted 47 = .ok (.if_icmp .eq 5, 3) := by decide +kernel
theorem dX4_readQuoted_50 : decode cX4_readQuoted 50 = .ok (.iconst 1, 1) := by decide +kernel
theorem dX4_readQuoted_51 : decode cX4_readQuoted 51 = .ok (.ireturn, 1) := by decide +kernel
theorem dX4_checkBehindQuote_0 : decode cX4_checkBehindQuote 0 = .ok (.aload_n 0, 1) := by decide +kernel
theorem dX4_checkBehindQuote_1 : decode cX4_checkBehindQuote 1 = .ok (.invokevirtual 141, 3) := by decide +kernel
theorem mw_289 : Cond.code yX4_skipBlanks cX4_skipBlanks 1 none ∈ wsL_law := lrk_13 _ (List.mem_of_getElem? (i := 1) rfl)
theorem mw_286 : Cond.methodLink RX4 141 yX4_skipBlanks ∈ wsL_law := lrk_12 _ (List.mem_of_getElem? (i := 22) rfl)
theorem mw_287 : Cond.instanceMethod yX4_skipBlanks ∈ wsL_law := lrk_12 _ (List.mem_of_getElem? (i := 23) rfl)
theorem mw_288 : Cond.selects RX4 yX4_skipBlanks yX4_skipBlanks ∈ wsL_law := lrk_13 _ (List.mem_of_getElem? (i := 0) rfl)
theorem gV_X4_141 : GoodIn wsL_law (wsV RX4 141 RX4 yX4_skipBlanks (wl yX4_skipBlanks cX4_skipBlanks 1 none)) := g_V mw_286 mw_287 mw_288 mw_26 mw_289
theorem hdV_X4_skipBlanks : yX4_skipBlanks.cls = RX4 ∧ okD yX4_skipBlanks 0 := by decide +kernel
theorem dX4_checkBehindQuote_4 : decode cX4_checkBehindQuote 4 = .ok (.aload_n 0, 1) := by decide +kernel
theorem dX4_checkBehindQuote_5 : decode cX4_checkBehindQuote 5 = .ok (.getfield 20, 3) := by decide +kernel
theorem dX4_checkBehindQuote_8 : decode cX4_checkBehindQuote 8 = .ok (.aload_n 0, 1) := by decide +kernel
theorem dX4_checkBehindQuote_9 : decode cX4_checkBehindQuote 9 = .ok (.getfield 55, 3) := by decide +kernel
theorem dX4_checkBehindQuote_12 : decode cX4_checkBehindQuote 12 = .ok (.getfield 80, 3) := by decide +kernel
theorem dX4_checkBehindQuote_15 : decode cX4_checkBehindQuote 15 = .ok (.if_icmp .lt 5, 3) := by decide +kernel
theorem dX4_checkBehindQuote_20 : decode cX4_checkBehindQuote 20 = .ok (.aload_n 0, 1) := by decide +kernel
theorem dX4_checkBehindQuote_21 : decode cX4_checkBehindQuote 21 = .ok (.getfield 55, 3) := by decide +kernel
theorem dX4_checkBehindQuote_24 : decode cX4_checkBehindQuote 24 = .ok (.getfield 93, 3) := by decide +kernel
theorem dX4_checkBehindQuote_27 : decode cX4_checkBehindQuote 27 = .ok (.aload_n 0, 1) := by decide +kernel
theorem dX4_checkBehindQuote_28 : decode cX4_checkBehindQuote 28 = .ok (.getfield 20, 3) := by decide +kernel
theorem dX4_checkBehindQuote_31 : decode cX4_checkBehindQuote 31 = .ok (.iaload, 1) := by decide +kernel
theorem dX4_checkBehindQuote_32 : decode cX4_checkBehindQuote 32 = .ok (.istore_n 1, 1) := by decide +kernel
theorem dX4_checkBehindQuote_33 : decode cX4_checkBehindQuote 33 = .ok (.iload_n 1, 1) := by decide +kernel
theorem dX4_checkBehindQuote_34 : decode cX4_checkBehindQuote 34 = .ok (.aload_n 0, 1) := by decide +kernel
theorem dX4_checkBehindQuote_35 : decode cX4_checkBehindQuote 35 = .ok (.getfield 59, 3) := by decide +kernel
theorem dX4_checkBehindQuote_38 : decode cX4_checkBehindQuote 38 = .ok (.iconst 0, 1) := by decide +kernel
theorem dX4_checkBehindQuote_39 : decode cX4_checkBehindQuote 39 = .ok (.iaload, 1) := by decide +kernel
theorem dX4_checkBehindQuote_40 : decode cX4_checkBehindQuote 40 = .ok (.if_icmp .eq 9, 3) := by decide +kernel
theorem dX4_checkBehindQuote_49 : decode cX4_checkBehindQuote 49 = .ok (.iconst 0, 1) := by decide +kernel
theorem dX4_checkBehindQuote_50 : decode cX4_checkBehindQuote 50 = .ok (.ireturn, 1) := by decide +kernel
theorem dX4_checkBehindQuote_43 : decode cX4_checkBehindQuote 43 = .ok (.iload_n 1, 1) := by decide +kernel
theorem dX4_checkBehindQuote_44 : decode cX4_checkBehindQuote 44 = .ok (.bipush 10, 2) := by decide +kernel
theorem dX4_checkBehindQuote_46 : decode cX4_checkBehindQuote 46 = .ok (.if_icmp .ne 5, 3) := by decide +kernel
theorem dX4_checkBehindQuote_51 : decode cX4_checkBehindQuote 51 = .ok (.iload_n 1, 1) := by decide +kernel
theorem dX4_checkBehindQuote_52 : decode cX4_checkBehindQuote 52 = .ok (.invokestatic 115, 3) := by decide +kernel
theorem dX4_checkBehindQuote_55 : decode cX4_checkBehindQuote 55 = .ok (.ifCond .eq 7, 3) := by decide +kernel
theorem dX4_checkBehindQuote_58 : decode cX4_checkBehindQuote 58 = .ok (.iconst 3, 1) := by decide +kernel
theorem dX4_checkBehindQuote_59 : decode cX4_checkBehindQuote 59 = .ok (.goto 4, 3) := by decide +kernel
theorem dX4_checkBehindQuote_63 : decode cX4_checkBehindQuote 63 = .ok (.ireturn, 1) := by decide +kernel
theorem dX4_checkBehindQuote_62 : decode cX4_checkBehindQuote 62 = .ok (.iconst 1, 1) := by decide +kernel
theorem dX4_checkBehindQuote_18 : decode cX4_checkBehindQuote 18 = .ok (.iconst 0, 1) := by decide +kernel
theorem dX4_checkBehindQuote_19 : decode cX4_checkBehindQuote 19 = .ok (.ireturn, 1) := by decide +kernel
theorem dX4_readField_0 : decode cX4_readField 0 = .ok (.aload_n 0, 1) := by decide +kernel
theorem dX4_readField_1 : decode cX4_readField 1 = .ok (.iconst 0, 1) := by decide +kernel
theorem dX4_readField_2 : decode cX4_readField 2 = .ok (.putfield 31, 3) := by decide +kernel
theorem dX4_readField_5 : decode cX4_readField 5 = .ok (.aload_n 0, 1) := by decide +kernel
theorem dX4_readField_6 : decode cX4_readField 6 = .ok (.invokevirtual 141, 3) := by decide +kernel
theorem dX4_readField_9 : decode cX4_readField 9 = .ok (.aload_n 0, 1) := by decide +kernel
theorem dX4_readField_10 : decode cX4_readField 10 = .ok (.getfield 20, 3) := by decide +kernel
theorem dX4_readField_13 : decode cX4_readField 13 = .ok (.aload_n 0, 1) := by decide +kernel
theorem dX4_readField_14 : decode cX4_readField 14 = .ok (.getfield 55, 3) := by decide +kernel
theorem dX4_readField_17 : decode cX4_readField 17 = .ok (.getfield 80, 3) := by decide +kernel
theorem dX4_readField_20 : decode cX4_readField 20 = .ok (.if_icmp .ge 24, 3) := by decide +kernel
theorem dX4_readField_44 : decode cX4_readField 44 = .ok (.aload_n 0, 1) := by decide +kernel
theorem dX4_readField_45 : decode cX4_readField 45 = .ok (.invokevirtual 144, 3) := by decide +kernel
theorem mw_293 : Cond.code yX4_readPlain cX4_readPlain 3 (some .int) ∈ wsL_law := lrk_13 _ (List.mem_of_getElem? (i := 5) rfl)
theorem mw_290 : Cond.methodLink RX4 144 yX4_readPlain ∈ wsL_law := lrk_13 _ (List.mem_of_getElem? (i := 2) rfl)
theorem mw_291 : Cond.instanceMethod yX4_readPlain ∈ wsL_law := lrk_13 _ (List.mem_of_getElem? (i := 3) rfl)
theorem mw_292 : Cond.selects RX4 yX4_readPlain yX4_readPlain ∈ wsL_law := lrk_13 _ (List.mem_of_getElem? (i := 4) rfl)
theorem gV_X4_144 : GoodIn wsL_law (wsV RX4 144 RX4 yX4_readPlain (wl yX4_readPlain cX4_readPlain 3 (some .int))) := g_V mw_290 mw_291 mw_292 mw_26 mw_293
theorem hdV_X4_readPlain : yX4_readPlain.cls = RX4 ∧ okD yX4_readPlain 0 := by decide +kernel
theorem dX4_readField_48 : decode cX4_readField 48 = .ok (.ireturn, 1) := by decide +kernel
theorem dX4_readField_23 : decode cX4_readField 23 = .ok (.aload_n 0, 1) := by decide +kernel
theorem dX4_readField_24 : decode cX4_readField 24 = .ok (.getfield 55, 3) := by decide +kernel
theorem dX4_readField_27 : decode cX4_readField 27 = .ok (.getfield 93, 3) := by decide +kernel
theorem dX4_readField_30 : decode cX4_readField 30 = .ok (.aload_n 0, 1) := by decide +kernel
theorem dX4_readField_31 : decode cX4_readField 31 = .ok (.getfield 20, 3) := by decide +kernel
theorem dX4_readField_34 : decode cX4_readField 34 = .ok (.iaload, 1) := by decide +kernel
theorem dX4_readField_35 : decode cX4_readField 35 = .ok (.aload_n 0, 1) := by decide +kernel
theorem dX4_readField_36 : decode cX4_readField 36 = .ok (.getfield 59, 3) := by decide +kernel
theorem dX4_readField_39 : decode cX4_readField 39 = .ok (.iconst 1, 1) := by decide +kernel
theorem dX4_readField_40 : decode cX4_readField 40 = .ok (.iaload, 1) := by decide +kernel
theorem dX4_readField_41 : decode cX4_readField 41 = .ok (.if_icmp .eq 8, 3) := by decide +kernel
theorem dX4_readField_49 : decode cX4_readField 49 = .ok (.aload_n 0, 1) := by decide +kernel
theorem dX4_readField_50 : decode cX4_readField 50 = .ok (.invokevirtual 147, 3) := by decide +kernel
theorem mw_301 : Cond.code yX4_readQuoted cX4_readQuoted 2 (some .int) ∈ wsL_law := lrk_13 _ (List.mem_of_getElem? (i := 13) rfl)
theorem mw_298 : Cond.methodLink RX4 147 yX4_readQuoted ∈ wsL_law := lrk_13 _ (List.mem_of_getElem? (i := 10) rfl)
theorem mw_299 : Cond.instanceMethod yX4_readQuoted ∈ wsL_law := lrk_13 _ (List.mem_of_getElem? (i := 11) rfl)
theorem mw_300 : Cond.selects RX4 yX4_readQuoted yX4_readQuoted ∈ wsL_law := lrk_13 _ (List.mem_of_getElem? (i := 12) rfl)
theorem gV_X4_147 : GoodIn wsL_law (wsV RX4 147 RX4 yX4_readQuoted (wl yX4_readQuoted cX4_readQuoted 2 (some .int))) := g_V mw_298 mw_299 mw_300 mw_26 mw_301
theorem hdV_X4_readQuoted : yX4_readQuoted.cls = RX4 ∧ okD yX4_readQuoted 0 := by decide +kernel
theorem dX4_readField_53 : decode cX4_readField 53 = .ok (.istore_n 1, 1) := by decide +kernel
theorem dX4_readField_54 : decode cX4_readField 54 = .ok (.iload_n 1, 1) := by decide +kernel
theorem dX4_readField_55 : decode cX4_readField 55 = .ok (.ifCond .ne 10, 3) := by decide +kernel
theorem dX4_readField_65 : decode cX4_readField 65 = .ok (.iload_n 1, 1) := by decide +kernel
theorem dX4_readField_66 : decode cX4_readField 66 = .ok (.ireturn, 1) := by decide +kernel
theorem dX4_readField_58 : decode cX4_readField 58 = .ok (.aload_n 0, 1) := by decide +kernel
theorem dX4_readField_59 : decode cX4_readField 59 = .ok (.invokevirtual 150, 3) := by decide +kernel
theorem mw_305 : Cond.code yX4_checkBehindQuote cX4_checkBehindQuote 2 (some .int) ∈ wsL_law := lrk_13 _ (List.mem_of_getElem? (i := 17) rfl)
theorem mw_302 : Cond.methodLink RX4 150 yX4_checkBehindQuote ∈ wsL_law := lrk_13 _ (List.mem_of_getElem? (i := 14) rfl)
theorem mw_303 : Cond.instanceMethod yX4_checkBehindQuote ∈ wsL_law := lrk_13 _ (List.mem_of_getElem? (i := 15) rfl)
theorem mw_304 : Cond.selects RX4 yX4_checkBehindQuote yX4_checkBehindQuote ∈ wsL_law := lrk_13 _ (List.mem_of_getElem? (i := 16) rfl)
theorem gV_X4_150 : GoodIn wsL_law (wsV RX4 150 RX4 yX4_checkBehindQuote (wl yX4_checkBehindQuote cX4_checkBehindQuote 2 (some .int))) := g_V mw_302 mw_303 mw_304 mw_26 mw_305
theorem hdV_X4_checkBehindQuote : yX4_checkBehindQuote.cls = RX4 ∧ okD yX4_checkBehindQuote 0 := by decide +kernel
theorem dX4_readField_62 : decode cX4_readField 62 = .ok (.goto 4, 3) := by decide +kernel
theorem dX4_tooManyLines_0 : decode cX4_tooManyLines 0 = .ok (.aload_n 0, 1) := by decide +kernel
theorem dX4_tooManyLines_1 : decode cX4_tooManyLines 1 = .ok (.getfield 55, 3) := by decide +kernel
theorem dX4_tooManyLines_4 : decode cX4_tooManyLines 4 = .ok (.getfield 93, 3) := by decide +kernel
theorem dX4_tooManyLines_7 : decode cX4_tooManyLines 7 = .ok (.aload_n 0, 1) := by decide +kernel
theorem dX4_tooManyLines_8 : decode cX4_tooManyLines 8 = .ok (.getfield 20, 3) := by decide +kernel
theorem dX4_tooManyLines_11 : decode cX4_tooManyLines 11 = .ok (.iaload, 1) := by decide +kernel
theorem dX4_tooManyLines_12 : decode cX4_tooManyLines 12 = .ok (.istore_n 1, 1) := by decide +kernel
theorem dX4_tooManyLines_13 : decode cX4_tooManyLines 13 = .ok (.iload_n 1, 1) := by decide +kernel
theorem dX4_tooManyLines_14 : decode cX4_tooManyLines 14 = .ok (.invokestatic 115, 3) := by decide +kernel
theorem dX4_tooManyLines_17 : decode cX4_tooManyLines 17 = .ok (.ifCond .ne 13, 3) := by decide +kernel
theorem dX4_tooManyLines_30 : decode cX4_tooManyLines 30 = .ok (.bipush 6, 2) := by decide +kernel
theorem dX4_tooManyLines_32 : decode cX4_tooManyLines 32 = .ok (.ireturn, 1) := by decide +kernel
theorem dX4_tooManyLines_20 : decode cX4_tooManyLines 20 = .ok (.iload_n 1, 1) := by decide +kernel
theorem dX4_tooManyLines_21 : decode cX4_tooManyLines 21 = .ok (.aload_n 0, 1) := by decide +kernel
theorem dX4_tooManyLines_22 : decode cX4_tooManyLines 22 = .ok (.getfield 59, 3) := by decide +kernel
theorem dX4_tooManyLines_25 : decode cX4_tooManyLines 25 = .ok (.iconst 0, 1) := by decide +kernel
theorem dX4_tooManyLines_26 : decode cX4_tooManyLines 26 = .ok (.iaload, 1) := by decide +kernel
theorem dX4_tooManyLines_27 : decode cX4_tooManyLines 27 = .ok (.if_icmp .ne 6, 3) := by decide +kernel
theorem dX4_tooManyLines_33 : decode cX4_tooManyLines 33 = .ok (.aload_n 0, 1) := by decide +kernel
theorem dX4_tooManyLines_34 : decode cX4_tooManyLines 34 = .ok (.iconst 0, 1) := by decide +kernel
theorem dX4_tooManyLines_35 : decode cX4_tooManyLines 35 = .ok (.putfield 24, 3) := by decide +kernel
theorem mw_72 : Cond.fieldLink RX4 24 "TypedTables$Reader" "cause" "I" ∈ wsL_law := lrk_4 _ (List.mem_of_getElem? (i := 0) rfl)
theorem dX4_tooManyLines_38 : decode cX4_tooManyLines 38 = .ok (.iconst 1, 1) := by decide +kernel
theorem dX4_tooManyLines_39 : decode cX4_tooManyLines 39 = .ok (.ireturn, 1) := by decide +kernel
theorem dX4_toLine_0 : decode cX4_toLine 0 = .ok (.aload_n 0, 1) := by decide +kernel
theorem dX4_toLine_1 : decode cX4_toLine 1 = .ok (.getfield 20, 3) := by decide +kernel
theorem dX4_toLine_4 : decode cX4_toLine 4 = .ok (.aload_n 0, 1) := by decide +kernel
theorem dX4_toLine_5 : decode cX4_toLine 5 = .ok (.getfield 55, 3) := by decide +kernel
theorem dX4_toLine_8 : decode cX4_toLine 8 = .ok (.getfield 80, 3) := by decide +kernel
theorem dX4_toLine_11 : decode cX4_toLine 11 = .ok (.if_icmp .ge 109, 3) := by decide +kernel
theorem dX4_toLine_120 : decode cX4_toLine 120 = .ok (.iconst 0, 1) := by decide +kernel
theorem dX4_toLine_121 : decode cX4_toLine 121 = .ok (.ireturn, 1) := by decide +kernel
theorem dX4_toLine_14 : decode cX4_toLine 14 = .ok (.aload_n 0, 1) := by decide +kernel
theorem dX4_toLine_15 : decode cX4_toLine 15 = .ok (.getfield 55, 3) := by decide +kernel
theorem dX4_toLine_18 : decode cX4_toLine 18 = .ok (.getfield 93, 3) := by decide +kernel
theorem dX4_toLine_21 : decode cX4_toLine 21 = .ok (.aload_n 0, 1) := by decide +kernel
theorem dX4_toLine_22 : decode cX4_toLine 22 = .ok (.getfield 20, 3) := by decide +kernel
theorem dX4_toLine_25 : decode cX4_toLine 25 = .ok (.iaload, 1) := by decide +kernel
theorem dX4_toLine_26 : decode cX4_toLine 26 = .ok (.bipush 10, 2) := by decide +kernel
theorem dX4_toLine_28 : decode cX4_toLine 28 = .ok (.if_icmp .ne 16, 3) := by decide +kernel
theorem dX4_toLine_44 : decode cX4_toLine 44 = .ok (.aload_n 0, 1) := by decide +kernel
theorem dX4_toLine_45 : decode cX4_toLine 45 = .ok (.getfield 59, 3) := by decide +kernel
theorem dX4_toLine_48 : decode cX4_toLine 48 = .ok (.iconst 5, 1) := by decide +kernel
theorem dX4_toLine_49 : decode cX4_toLine 49 = .ok (.iaload, 1) := by decide +kernel
theorem dX4_toLine_50 : decode cX4_toLine 50 = .ok (.ifCond .eq 68, 3) := by decide +kernel
theorem dX4_toLine_118 : decode cX4_toLine 118 = .ok (.iconst 1, 1) := by decide +kernel
theorem dX4_toLine_119 : decode cX4_toLine 119 = .ok (.ireturn, 1) := by decide +kernel
theorem dX4_toLine_53 : decode cX4_toLine 53 = .ok (.aload_n 0, 1) := by decide +kernel
theorem dX4_toLine_54 : decode cX4_toLine 54 = .ok (.getfield 55, 3) := by decide +kernel
theorem dX4_toLine_57 : decode cX4_toLine 57 = .ok (.getfield 93, 3) := by decide +kernel
theorem dX4_toLine_60 : decode cX4_toLine 60 = .ok (.aload_n 0, 1) := by decide +kernel
theorem dX4_toLine_61 : decode cX4_toLine 61 = .ok (.getfield 20, 3) := by decide +kernel
theorem dX4_toLine_64 : decode cX4_toLine 64 = .ok (.iaload, 1) := by decide +kernel
theorem dX4_toLine_65 : decode cX4_toLine 65 = .ok (.aload_n 0, 1) := by decide +kernel
theorem dX4_toLine_66 : decode cX4_toLine 66 = .ok (.getfield 59, 3) := by decide +kernel
theorem dX4_toLine_69 : decode cX4_toLine 69 = .ok (.iconst 5, 1) := by decide +kernel
theorem dX4_toLine_70 : decode cX4_toLine 70 = .ok (.iaload, 1) := by decide +kernel
theorem dX4_toLine_71 : decode cX4_toLine 71 = .ok (.if_icmp .ne 47, 3) := by decide +kernel
theorem dX4_toLine_74 : decode cX4_toLine 74 = .ok (.aload_n 0, 1) := by decide +kernel
theorem dX4_toLine_75 : decode cX4_toLine 75 = .ok (.getfield 20, 3) := by decide +kernel
theorem dX4_toLine_78 : decode cX4_toLine 78 = .ok (.aload_n 0, 1) := by decide +kernel
theorem dX4_toLine_79 : decode cX4_toLine 79 = .ok (.getfield 55, 3) := by decide +kernel
theorem dX4_toLine_82 : decode cX4_toLine 82 = .ok (.getfield 80, 3) := by decide +kernel
theorem dX4_toLine_85 : decode cX4_toLine 85 = .ok (.if_icmp .ge (-85), 3) := by decide +kernel
theorem dX4_toLine_88 : decode cX4_toLine 88 = .ok (.aload_n 0, 1) := by decide +kernel
theorem dX4_toLine_89 : decode cX4_toLine 89 = .ok (.getfield 55, 3) := by decide +kernel
theorem dX4_toLine_92 : decode cX4_toLine 92 = .ok (.getfield 93, 3) := by decide +kernel
theorem dX4_toLine_95 : decode cX4_toLine 95 = .ok (.aload_n 0, 1) := by decide +kernel
theorem dX4_toLine_96 : decode cX4_toLine 96 = .ok (.getfield 20, 3) := by decide +kernel
theorem dX4_toLine_99 : decode cX4_toLine 99 = .ok (.iaload, 1) := by decide +kernel
theorem dX4_toLine_100 : decode cX4_toLine 100 = .ok (.bipush 10, 2) := by decide +kernel
theorem dX4_toLine_102 : decode cX4_toLine 102 = .ok (.if_icmp .eq (-102), 3) := by decide +kernel
theorem dX4_toLine_105 : decode cX4_toLine 105 = .ok (.aload_n 0, 1) := by decide +kernel
theorem dX4_toLine_106 : decode cX4_toLine 106 = .ok (.dup, 1) := by decide +kernel
theorem dX4_toLine_107 : decode cX4_toLine 107 = .ok (.getfield 20, 3) := by decide +kernel
theorem dX4_toLine_110 : decode cX4_toLine 110 = .ok (.iconst 1, 1) := by decide +kernel
theorem dX4_toLine_111 : decode cX4_toLine 111 = .ok (.iadd, 1) := by decide +kernel
theorem dX4_toLine_112 : decode cX4_toLine 112 = .ok (.putfield 20, 3) := by decide +kernel
theorem dX4_toLine_115 : decode cX4_toLine 115 = .ok (.goto (-41), 3) := by decide +kernel
theorem dX4_toLine_31 : decode cX4_toLine 31 = .ok (.aload_n 0, 1) := by decide +kernel
theorem dX4_toLine_32 : decode cX4_toLine 32 = .ok (.dup, 1) := by decide +kernel
theorem dX4_toLine_33 : decode cX4_toLine 33 = .ok (.getfield 20, 3) := by decide +kernel
theorem dX4_toLine_36 : decode cX4_toLine 36 = .ok (.iconst 1, 1) := by decide +kernel
theorem dX4_toLine_37 : decode cX4_toLine 37 = .ok (.iadd, 1) := by decide +kernel
theorem dX4_toLine_38 : decode cX4_toLine 38 = .ok (.putfield 20, 3) := by decide +kernel
theorem dX4_toLine_41 : decode cX4_toLine 41 = .ok (.goto (-41), 3) := by decide +kernel
set_option maxHeartbeats 4000000 in
set_option maxRecDepth 100000 in
theorem c_X4_keepByte (l : Launch) (D : va_G) (κ : Nat → ClassId) (κq : Nat → Nat) (rd : Nat) (tp : Nat) (d : Nat) (ft : Nat) (bl : Nat) (aq : Nat) (wk : Nat) (sz : Nat) (fl : Nat) (sr : Nat) (cnt : Nat) (cl : Nat) (rw : Nat) (ca : Int32) (cv : Value) (wf : Nat → Int32) (za : Int32) (hsz : sz ≤ 20) (hwf : sb_Fit wf) : Et l yX4_keepByte (wl yX4_keepByte cX4_keepByte 2 none) { frames := 0, cells := 0, slots := 0, locals := 0 } D κ κq [.ref rd, .int za] [(rd, .inr (4, [.ref tp, .ref d, .ref ft, .ref bl, .int (nI aq), .int ca, .ref wk, .int (nI sz), .ref fl, .ref sr, .int (nI cnt), cv, .ref cl, .int (nI rw)])), (wk, .inl (κ 1, 20, .inl wf))] (fun u9 : Nat × (Nat → Int32) => none) (fun u9 : Nat × (Nat → Int32) => u9.1 ≤ 20 ∧ u9.1 ≤ sz + 1 ∧ sb_Fit u9.2) (fun u9 : Nat × (Nat → Int32) => [(rd, .inr (4, [.ref tp, .ref d, .ref ft, .ref bl, .int (nI aq), .int ca, .ref wk, .int (nI u9.1), .ref fl, .ref sr, .int (nI cnt), cv, .ref cl, .int (nI rw)])), (wk, .inl (κ 1, 20, .inl u9.2))]) := by
  refine et_of (by decide +kernel) (Nat.le_of_ble_eq_true rfl) ?_
  intro p e s m args below meth c A ls hx hb hr hml hts hown hlk hin hKK hK hA hP hD hS hE hl
  have hS : va_S A s.heap s.heap [] := hS
  have hP : va_P D vwCl ([(rd, .inr (4, [.ref tp, .ref d, .ref ft, .ref bl, .int (nI aq), .int ca, .ref wk, .int (nI sz), .ref fl, .ref sr, .int (nI cnt), cv, .ref cl, .int (nI rw)])), (wk, .inl (κ 1, 20, .inl wf))] ++ []) s.heap := hP
  have hD : va_D A ([(rd, .inr (4, [.ref tp, .ref d, .ref ft, .ref bl, .int (nI aq), .int ca, .ref wk, .int (nI sz), .ref fl, .ref sr, .int (nI cnt), cv, .ref cl, .int (nI rw)])), (wk, .inl (κ 1, 20, .inl wf))] ++ []) := hD
  have hFX : FX p s m args c cX4_keepByte 2 RX4 := ⟨hx, hb, hml, hown, hts⟩
  have hl : lv_has ls 2 [(0, .ref rd), (1, .int za)] := hl
  refine lv_aload_n hx hb dX4_keepByte_0 rfl (lv_at hl 0 rfl) ?_
  refine va_get (D := D) (ci := 4) (v := .int (nI sz)) (C := RX4) (T := TX4) (N := 14) hx hb hts inlX4 hown hK hP 0 rfl rfl 7 (by decide) (hts _ mw_74) (fun _ h9 => h9) rfl dX4_keepByte_1 ?_
  refine lv_bipush (v := 20) hx hb dX4_keepByte_4 (by decide) ?_
  refine lv_icmp_ge (tgt := 30) hx hb dX4_keepByte_6 (by decide) (fun c_1 => ?_) (fun c_1 => ?_)
  · have nc_1 := cv_le (a := 20) (b := sz) (by omega) (by omega) c_1
    exact et_vret hx hb hr hlk hS (sz, wf) rfl ⟨(show sz ≤ 20 from (by first | assumption | omega | rfl | exact Or.inl (by assumption) | exact Or.inr (by assumption))), (show sz ≤ sz + 1 from (by first | assumption | omega | rfl | exact Or.inl (by assumption) | exact Or.inr (by assumption))), (show sb_Fit wf from (by first | assumption | omega | rfl | exact Or.inl (by assumption) | exact Or.inr (by assumption)))⟩ (subP0 hP [0, 1] rfl) (hD.sub [0, 1] (by decide) rfl) (Nat.le_of_ble_eq_true rfl) (Nat.le_of_ble_eq_true rfl) dX4_keepByte_30
  · have nc_1 := cv_nle (a := 20) (b := sz) (by omega) (by omega) c_1
    refine lv_aload_n hx hb dX4_keepByte_9 rfl (lv_at hl 0 rfl) ?_
    refine va_get (D := D) (ci := 4) (v := .ref wk) (C := RX4) (T := TX4) (N := 14) hx hb hts inlX4 hown hK hP 0 rfl rfl 6 (by decide) (hts _ mw_73) (fun _ h9 => h9) rfl dX4_keepByte_10 ?_
    refine lv_aload_n hx hb dX4_keepByte_13 rfl (lv_at hl 0 rfl) ?_
    refine va_get (D := D) (ci := 4) (v := .int (nI sz)) (C := RX4) (T := TX4) (N := 14) hx hb hts inlX4 hown hK hP 0 rfl rfl 7 (by decide) (hts _ mw_74) (fun _ h9 => h9) rfl dX4_keepByte_14 ?_
    refine lv_iload_n hx hb dX4_keepByte_17 rfl (lv_at hl 1 rfl) ?_
    obtain ⟨x_2, ex_2⟩ : ∃ y9 : Int32, (za : Int32).toInt8.toInt32 = y9 := ⟨_, rfl⟩
    refine lv_i2b hx hb dX4_keepByte_18 ex_2 ?_
    refine va_bast hx hb hK hP hD hS 1 1 rfl rfl (i := nI sz) (x := x_2) (vp_in_nI (n := sz) (by omega) (by omega)) dX4_keepByte_19 (fun H locs hP hD hS => ?_)
    rw [nI_clamp (by omega)] at hP hD
    have hP : va_P D vwCl ([(rd, .inr (4, [.ref tp, .ref d, .ref ft, .ref bl, .int (nI aq), .int ca, .ref wk, .int (nI sz), .ref fl, .ref sr, .int (nI cnt), cv, .ref cl, .int (nI rw)])), (wk, .inl (κ 1, 20, .inl (upd wf sz (vp_nar .byte x_2))))] ++ []) H := hP
    have hD : va_D A ([(rd, .inr (4, [.ref tp, .ref d, .ref ft, .ref bl, .int (nI aq), .int ca, .ref wk, .int (nI sz), .ref fl, .ref sr, .int (nI cnt), cv, .ref cl, .int (nI rw)])), (wk, .inl (κ 1, 20, .inl (upd wf sz (vp_nar .byte x_2))))] ++ []) := hD
    have hf_4 : sb_Fit (upd wf sz (vp_nar .byte x_2)) := sb_fitU hwf (fit_nar _)
    generalize upd wf sz (vp_nar .byte x_2) = g_3 at hP hD hf_4
    refine lv_aload_n hx hb dX4_keepByte_20 rfl (lv_at hl 0 rfl) ?_
    refine lv_dup hx hb dX4_keepByte_21 rfl ?_
    refine va_get (D := D) (ci := 4) (v := .int (nI sz)) (C := RX4) (T := TX4) (N := 14) hx hb hts inlX4 hown hK hP 0 rfl rfl 7 (by decide) (hts _ mw_74) (fun _ h9 => h9) rfl dX4_keepByte_22 ?_
    refine lv_iconst (v := 1) hx hb dX4_keepByte_25 (by decide) ?_
    refine lv_iadd hx hb dX4_keepByte_26 ?_
    refine ki (v := (nI (sz + 1))) (nI_add sz 1) ?_
    refine va_put (D := D) (ci := 4) (v := .int (nI (sz + 1))) (ty := tyX4 7) (C := RX4) (T := TX4) (N := 14) hx hb hts inlX4 tyX4 tyX4_ok nmX4 hown hK hP hD hS 0 rfl rfl 7 (by decide) (hts _ mw_74) (fun _ h9 => h9) rfl (tyX4_ok 7 (by decide)) rfl rfl (Nat.le_of_ble_eq_true rfl) dX4_keepByte_27 (fun H locs hP hD hS => ?_)
    have hP : va_P D vwCl ([(rd, .inr (4, [.ref tp, .ref d, .ref ft, .ref bl, .int (nI aq), .int ca, .ref wk, .int (nI (sz + 1)), .ref fl, .ref sr, .int (nI cnt), cv, .ref cl, .int (nI rw)])), (wk, .inl (κ 1, 20, .inl g_3))] ++ []) H := hP
    have hD : va_D A ([(rd, .inr (4, [.ref tp, .ref d, .ref ft, .ref bl, .int (nI aq), .int ca, .ref wk, .int (nI (sz + 1)), .ref fl, .ref sr, .int (nI cnt), cv, .ref cl, .int (nI rw)])), (wk, .inl (κ 1, 20, .inl g_3))] ++ []) := hD
    exact et_vret hx hb hr hlk hS (sz + 1, g_3) rfl ⟨(show (sz + 1) ≤ 20 from (by first | assumption | omega | rfl | exact Or.inl (by assumption) | exact Or.inr (by assumption))), (show (sz + 1) ≤ sz + 1 from (by first | assumption | omega | rfl | exact Or.inl (by assumption) | exact Or.inr (by assumption))), (show sb_Fit g_3 from (by first | assumption | omega | rfl | exact Or.inl (by assumption) | exact Or.inr (by assumption)))⟩ (subP0 hP [0, 1] rfl) (hD.sub [0, 1] (by decide) rfl) (Nat.le_of_ble_eq_true rfl) (Nat.le_of_ble_eq_true rfl) dX4_keepByte_30
set_option maxHeartbeats 4000000 in
set_option maxRecDepth 100000 in
theorem c_X4_skipBlanks (l : Launch) (D : va_G) (κ : Nat → ClassId) (κq : Nat → Nat) (rd : Nat) (tp : Nat) (d : Nat) (ft : Nat) (bl : Nat) (aq : Nat) (wk : Nat) (sz : Nat) (fl : Nat) (sr : Nat) (cnt : Nat) (cl : Nat) (rw : Nat) (ca : Int32) (cv : Value) (tb : Nat) (L : Nat) (tf : Nat → Int32) (dl : Nat → Int32) (hL8 : L ≤ 800) (hat : aq ≤ L) : Et l yX4_skipBlanks (wl yX4_skipBlanks cX4_skipBlanks 1 none) { frames := 0, cells := 0, slots := 0, locals := 0 } D κ κq [.ref rd] [(rd, .inr (4, [.ref tp, .ref d, .ref ft, .ref bl, .int (nI aq), .int ca, .ref wk, .int (nI sz), .ref fl, .ref sr, .int (nI cnt), cv, .ref cl, .int (nI rw)])), (tp, .inr (8, [.ref tb, .int (nI L)])), (tb, .inl (κ 0, 800, .inl tf)), (d, .inl (κ 0, 6, .inl dl))] (fun y : Nat => none) (fun y : Nat => y ≤ L ∧ aq ≤ y) (fun y : Nat => [(rd, .inr (4, [.ref tp, .ref d, .ref ft, .ref bl, .int (nI y), .int ca, .ref wk, .int (nI sz), .ref fl, .ref sr, .int (nI cnt), cv, .ref cl, .int (nI rw)])), (tp, .inr (8, [.ref tb, .int (nI L)])), (tb, .inl (κ 0, 800, .inl tf)), (d, .inl (κ 0, 6, .inl dl))]) := by
  refine et_of (by decide +kernel) (Nat.le_of_ble_eq_true rfl) ?_
  intro p e s m args below meth c A ls hx hb hr hml hts hown hlk hin hKK hK hA hP hD hS hE hl
  have hS : va_S A s.heap s.heap [] := hS
  have hP : va_P D vwCl ([(rd, .inr (4, [.ref tp, .ref d, .ref ft, .ref bl, .int (nI aq), .int ca, .ref wk, .int (nI sz), .ref fl, .ref sr, .int (nI cnt), cv, .ref cl, .int (nI rw)])), (tp, .inr (8, [.ref tb, .int (nI L)])), (tb, .inl (κ 0, 800, .inl tf)), (d, .inl (κ 0, 6, .inl dl))] ++ []) s.heap := hP
  have hD : va_D A ([(rd, .inr (4, [.ref tp, .ref d, .ref ft, .ref bl, .int (nI aq), .int ca, .ref wk, .int (nI sz), .ref fl, .ref sr, .int (nI cnt), cv, .ref cl, .int (nI rw)])), (tp, .inr (8, [.ref tb, .int (nI L)])), (tb, .inl (κ 0, 800, .inl tf)), (d, .inl (κ 0, 6, .inl dl))] ++ []) := hD
  have hFX : FX p s m args c cX4_skipBlanks 1 RX4 := ⟨hx, hb, hml, hown, hts⟩
  have hl : lv_has ls 1 [(0, .ref rd)] := hl
  refine lv_aload_n hx hb dX4_skipBlanks_0 rfl (lv_at hl 0 rfl) ?_
  refine va_get (D := D) (ci := 4) (v := .ref d) (C := RX4) (T := TX4) (N := 14) hx hb hts inlX4 hown hK hP 0 rfl rfl 1 (by decide) (hts _ mw_82) (fun _ h9 => h9) rfl dX4_skipBlanks_1 ?_
  refine lv_iconst (v := 3) hx hb dX4_skipBlanks_4 (by decide) ?_
  refine va_iald hx hb hK hP 3 0 rfl rfl (i := 3) (vp_k (by decide)) dX4_skipBlanks_5 ?_
  obtain ⟨x_1, ex_1⟩ : ∃ y9 : Int32, dl 3 = y9 := ⟨_, rfl⟩
  refine kv (v := .int x_1) (congrArg Value.int ex_1) ?_
  refine lv_iconst (v := 1) hx hb dX4_skipBlanks_6 (by decide) ?_
  refine lv_icmp_ne (tgt := 54) hx hb dX4_skipBlanks_7 (by decide) (fun c_2 => ?_) (fun c_2 => ?_)
  · exact et_vret hx hb hr hlk hS aq rfl ⟨(show aq ≤ L from (by first | assumption | omega | rfl | exact Or.inl (by assumption) | exact Or.inr (by assumption))), (show aq ≤ aq from (by first | assumption | omega | rfl | exact Or.inl (by assumption) | exact Or.inr (by assumption)))⟩ (subP0 hP [0, 1, 2, 3] rfl) (hD.sub [0, 1, 2, 3] (by decide) rfl) (Nat.le_of_ble_eq_true rfl) (Nat.le_of_ble_eq_true rfl) dX4_skipBlanks_54
  · refine loop_dn (fun k9 H locs ls => ∃ (v4_10 : Nat), (v4_10 ≤ L) ∧ (aq ≤ v4_10) ∧ L - v4_10 = k9 ∧ va_P D vwCl ([(rd, .inr (4, [.ref tp, .ref d, .ref ft, .ref bl, .int (nI v4_10), .int ca, .ref wk, .int (nI sz), .ref fl, .ref sr, .int (nI cnt), cv, .ref cl, .int (nI rw)])), (tp, .inr (8, [.ref tb, .int (nI L)])), (tb, .inl (κ 0, 800, .inl tf)), (d, .inl (κ 0, 6, .inl dl))] ++ []) H ∧ va_D A ([(rd, .inr (4, [.ref tp, .ref d, .ref ft, .ref bl, .int (nI v4_10), .int ca, .ref wk, .int (nI sz), .ref fl, .ref sr, .int (nI cnt), cv, .ref cl, .int (nI rw)])), (tp, .inr (8, [.ref tb, .int (nI L)])), (tb, .inl (κ 0, 800, .inl tf)), (d, .inl (κ 0, 6, .inl dl))] ++ []) ∧ va_S A s.heap H locs ∧ lv_has ls 1 [(0, .ref rd)]) (fun k9 H locs ls hI10 ih10 => ?_) (L - aq) _ _ _ ⟨aq, (by omega), (by omega), rfl, hP, hD, hS, lv_sub hl [0] rfl⟩
    obtain ⟨v4_10, hl10_0, hl10_1, hm10, hP, hD, hS, hl⟩ := hI10
    refine lv_aload_n hx hb dX4_skipBlanks_10 rfl (lv_at hl 0 rfl) ?_
    refine va_get (D := D) (ci := 4) (v := .int (nI v4_10)) (C := RX4) (T := TX4) (N := 14) hx hb hts inlX4 hown hK hP 0 rfl rfl 4 (by decide) (hts _ mw_71) (fun _ h9 => h9) rfl dX4_skipBlanks_11 ?_
    refine lv_aload_n hx hb dX4_skipBlanks_14 rfl (lv_at hl 0 rfl) ?_
    refine va_get (D := D) (ci := 4) (v := .ref tp) (C := RX4) (T := TX4) (N := 14) hx hb hts inlX4 hown hK hP 0 rfl rfl 0 (by decide) (hts _ mw_81) (fun _ h9 => h9) rfl dX4_skipBlanks_15 ?_
    refine va_get (D := D) (ci := 8) (v := .int (nI L)) (C := RX8) (T := TX8) (N := 2) hx hb hts inlX8 hown hK hP 1 rfl rfl 1 (by decide) (hts _ mw_261) (fun _ h9 => h9) rfl dX4_skipBlanks_18 ?_
    refine lv_icmp_ge (tgt := 54) hx hb dX4_skipBlanks_21 (by decide) (fun c_3 => ?_) (fun c_3 => ?_)
    · have nc_3 := cv_le (a := L) (b := v4_10) (by omega) (by omega) c_3
      exact et_vret hx hb hr hlk hS v4_10 rfl ⟨(show v4_10 ≤ L from (by first | assumption | omega | rfl | exact Or.inl (by assumption) | exact Or.inr (by assumption))), (show aq ≤ v4_10 from (by first | assumption | omega | rfl | exact Or.inl (by assumption) | exact Or.inr (by assumption)))⟩ (subP0 hP [0, 1, 2, 3] rfl) (hD.sub [0, 1, 2, 3] (by decide) rfl) (Nat.le_of_ble_eq_true rfl) (Nat.le_of_ble_eq_true rfl) dX4_skipBlanks_54
    · have nc_3 := cv_nle (a := L) (b := v4_10) (by omega) (by omega) c_3
      refine lv_aload_n hx hb dX4_skipBlanks_24 rfl (lv_at hl 0 rfl) ?_
      refine va_get (D := D) (ci := 4) (v := .ref tp) (C := RX4) (T := TX4) (N := 14) hx hb hts inlX4 hown hK hP 0 rfl rfl 0 (by decide) (hts _ mw_81) (fun _ h9 => h9) rfl dX4_skipBlanks_25 ?_
      refine va_get (D := D) (ci := 8) (v := .ref tb) (C := RX8) (T := TX8) (N := 2) hx hb hts inlX8 hown hK hP 1 rfl rfl 0 (by decide) (hts _ mw_266) (fun _ h9 => h9) rfl dX4_skipBlanks_28 ?_
      refine lv_aload_n hx hb dX4_skipBlanks_31 rfl (lv_at hl 0 rfl) ?_
      refine va_get (D := D) (ci := 4) (v := .int (nI v4_10)) (C := RX4) (T := TX4) (N := 14) hx hb hts inlX4 hown hK hP 0 rfl rfl 4 (by decide) (hts _ mw_71) (fun _ h9 => h9) rfl dX4_skipBlanks_32 ?_
      refine va_iald hx hb hK hP 2 0 rfl rfl (i := nI v4_10) (vp_in_nI (n := v4_10) (by omega) (by omega)) dX4_skipBlanks_35 ?_
      refine kv (v := .int (tf v4_10)) (by rw [nI_clamp (by omega)]) ?_
      obtain ⟨x_4, ex_4⟩ : ∃ y9 : Int32, tf v4_10 = y9 := ⟨_, rfl⟩
      refine kv (v := .int x_4) (congrArg Value.int ex_4) ?_
      refine lv_bipush (v := 32) hx hb dX4_skipBlanks_36 (by decide) ?_
      refine lv_icmp_ne (tgt := 54) hx hb dX4_skipBlanks_38 (by decide) (fun c_5 => ?_) (fun c_5 => ?_)
      · exact et_vret hx hb hr hlk hS v4_10 rfl ⟨(show v4_10 ≤ L from (by first | assumption | omega | rfl | exact Or.inl (by assumption) | exact Or.inr (by assumption))), (show aq ≤ v4_10 from (by first | assumption | omega | rfl | exact Or.inl (by assumption) | exact Or.inr (by assumption)))⟩ (subP0 hP [0, 1, 2, 3] rfl) (hD.sub [0, 1, 2, 3] (by decide) rfl) (Nat.le_of_ble_eq_true rfl) (Nat.le_of_ble_eq_true rfl) dX4_skipBlanks_54
      · refine lv_aload_n hx hb dX4_skipBlanks_41 rfl (lv_at hl 0 rfl) ?_
        refine lv_dup hx hb dX4_skipBlanks_42 rfl ?_
        refine va_get (D := D) (ci := 4) (v := .int (nI v4_10)) (C := RX4) (T := TX4) (N := 14) hx hb hts inlX4 hown hK hP 0 rfl rfl 4 (by decide) (hts _ mw_71) (fun _ h9 => h9) rfl dX4_skipBlanks_43 ?_
        refine lv_iconst (v := 1) hx hb dX4_skipBlanks_46 (by decide) ?_
        refine lv_iadd hx hb dX4_skipBlanks_47 ?_
        refine ki (v := (nI (v4_10 + 1))) (nI_add v4_10 1) ?_
        refine va_put (D := D) (ci := 4) (v := .int (nI (v4_10 + 1))) (ty := tyX4 4) (C := RX4) (T := TX4) (N := 14) hx hb hts inlX4 tyX4 tyX4_ok nmX4 hown hK hP hD hS 0 rfl rfl 4 (by decide) (hts _ mw_71) (fun _ h9 => h9) rfl (tyX4_ok 4 (by decide)) rfl rfl (Nat.le_of_ble_eq_true rfl) dX4_skipBlanks_48 (fun H locs hP hD hS => ?_)
        have hP : va_P D vwCl ([(rd, .inr (4, [.ref tp, .ref d, .ref ft, .ref bl, .int (nI (v4_10 + 1)), .int ca, .ref wk, .int (nI sz), .ref fl, .ref sr, .int (nI cnt), cv, .ref cl, .int (nI rw)])), (tp, .inr (8, [.ref tb, .int (nI L)])), (tb, .inl (κ 0, 800, .inl tf)), (d, .inl (κ 0, 6, .inl dl))] ++ []) H := hP
        have hD : va_D A ([(rd, .inr (4, [.ref tp, .ref d, .ref ft, .ref bl, .int (nI (v4_10 + 1)), .int ca, .ref wk, .int (nI sz), .ref fl, .ref sr, .int (nI cnt), cv, .ref cl, .int (nI rw)])), (tp, .inr (8, [.ref tb, .int (nI L)])), (tb, .inl (κ 0, 800, .inl tf)), (d, .inl (κ 0, 6, .inl dl))] ++ []) := hD
        refine lv_goto (tgt := 0) hx hb dX4_skipBlanks_51 (by decide) ?_
        refine lv_aload_n hx hb dX4_skipBlanks_0 rfl (lv_at hl 0 rfl) ?_
        refine va_get (D := D) (ci := 4) (v := .ref d) (C := RX4) (T := TX4) (N := 14) hx hb hts inlX4 hown hK hP 0 rfl rfl 1 (by decide) (hts _ mw_82) (fun _ h9 => h9) rfl dX4_skipBlanks_1 ?_
        refine lv_iconst (v := 3) hx hb dX4_skipBlanks_4 (by decide) ?_
        refine va_iald hx hb hK hP 3 0 rfl rfl (i := 3) (vp_k (by decide)) dX4_skipBlanks_5 ?_
        refine kv (v := .int x_1) (congrArg Value.int (ex_1)) ?_
        refine lv_iconst (v := 1) hx hb dX4_skipBlanks_6 (by decide) ?_
        refine lv_icmp_ne (tgt := 54) hx hb dX4_skipBlanks_7 (by decide) (fun c_6 => absurd c_2 c_6) (fun c_6 => ?_)
        exact ih10 _ _ _ _ (by omega) ⟨(v4_10 + 1), (by omega), (by omega), rfl, hP, hD, hS, lv_sub hl [0] rfl⟩
set_option maxHeartbeats 4000000 in
set_option maxRecDepth 100000 in
theorem c_X4_readPlain (l : Launch) (D : va_G) (κ : Nat → ClassId) (κq : Nat → Nat) (rd : Nat) (tp : Nat) (d : Nat) (ft : Nat) (bl : Nat) (aq : Nat) (wk : Nat) (sz : Nat) (fl : Nat) (sr : Nat) (cnt : Nat) (cl : Nat) (rw : Nat) (ca : Int32) (cv : Value) (tb : Nat) (L : Nat) (tf : Nat → Int32) (dl : Nat → Int32) (wf : Nat → Int32) (hL8 : L ≤ 800) (hat : aq ≤ L) (hsz : sz ≤ 20) (hwf : sb_Fit wf) : Et l yX4_readPlain (wl yX4_readPlain cX4_readPlain 3 (some .int)) { frames := 1, cells := 0, slots := 0, locals := 21 } D κ κq [.ref rd] [(rd, .inr (4, [.ref tp, .ref d, .ref ft, .ref bl, .int (nI aq), .int ca, .ref wk, .int (nI sz), .ref fl, .ref sr, .int (nI cnt), cv, .ref cl, .int (nI rw)])), (tp, .inr (8, [.ref tb, .int (nI L)])), (tb, .inl (κ 0, 800, .inl tf)), (d, .inl (κ 0, 6, .inl dl)), (wk, .inl (κ 1, 20, .inl wf))] (fun u9 : Int32 × Nat × Nat × (Nat → Int32) => some (.int u9.1)) (fun u9 : Int32 × Nat × Nat × (Nat → Int32) => u9.2.1 ≤ L ∧ aq ≤ u9.2.1 ∧ u9.2.2.1 ≤ 20 ∧ sb_Fit u9.2.2.2) (fun u9 : Int32 × Nat × Nat × (Nat → Int32) => [(rd, .inr (4, [.ref tp, .ref d, .ref ft, .ref bl, .int (nI u9.2.1), .int ca, .ref wk, .int (nI u9.2.2.1), .ref fl, .ref sr, .int (nI cnt), cv, .ref cl, .int (nI rw)])), (tp, .inr (8, [.ref tb, .int (nI L)])), (tb, .inl (κ 0, 800, .inl tf)), (d, .inl (κ 0, 6, .inl dl)), (wk, .inl (κ 1, 20, .inl u9.2.2.2))]) := by
  refine et_of (by decide +kernel) (Nat.le_of_ble_eq_true rfl) ?_
  intro p e s m args below meth c A ls hx hb hr hml hts hown hlk hin hKK hK hA hP hD hS hE hl
  have hS : va_S A s.heap s.heap [] := hS
  have hP : va_P D vwCl ([(rd, .inr (4, [.ref tp, .ref d, .ref ft, .ref bl, .int (nI aq), .int ca, .ref wk, .int (nI sz), .ref fl, .ref sr, .int (nI cnt), cv, .ref cl, .int (nI rw)])), (tp, .inr (8, [.ref tb, .int (nI L)])), (tb, .inl (κ 0, 800, .inl tf)), (d, .inl (κ 0, 6, .inl dl)), (wk, .inl (κ 1, 20, .inl wf))] ++ []) s.heap := hP
  have hD : va_D A ([(rd, .inr (4, [.ref tp, .ref d, .ref ft, .ref bl, .int (nI aq), .int ca, .ref wk, .int (nI sz), .ref fl, .ref sr, .int (nI cnt), cv, .ref cl, .int (nI rw)])), (tp, .inr (8, [.ref tb, .int (nI L)])), (tb, .inl (κ 0, 800, .inl tf)), (d, .inl (κ 0, 6, .inl dl)), (wk, .inl (κ 1, 20, .inl wf))] ++ []) := hD
  have hFX : FX p s m args c cX4_readPlain 3 RX4 := ⟨hx, hb, hml, hown, hts⟩
  have hl : lv_has ls 3 [(0, .ref rd)] := hl
  refine lv_iconst (v := 0) hx hb dX4_readPlain_0 (by decide) ?_
  refine lv_istore_n (lv' := [(1, .int 0), (0, .ref rd)]) hx hb dX4_readPlain_1 rfl hl (by decide) rfl (fun ls hl => ?_)
  refine loop_dn (fun k9 H locs ls => ∃ (k1_2 : Nat), ∃ (v4_2 : Nat), ∃ (v7_2 : Nat), ∃ (gwk_2 : Nat → Int32), (v4_2 ≤ L) ∧ (aq ≤ v4_2) ∧ (v7_2 ≤ 20) ∧ (k1_2 ≤ v4_2) ∧ sb_Fit gwk_2 ∧ L - v4_2 = k9 ∧ va_P D vwCl ([(rd, .inr (4, [.ref tp, .ref d, .ref ft, .ref bl, .int (nI v4_2), .int ca, .ref wk, .int (nI v7_2), .ref fl, .ref sr, .int (nI cnt), cv, .ref cl, .int (nI rw)])), (tp, .inr (8, [.ref tb, .int (nI L)])), (tb, .inl (κ 0, 800, .inl tf)), (d, .inl (κ 0, 6, .inl dl)), (wk, .inl (κ 1, 20, .inl gwk_2))] ++ []) H ∧ va_D A ([(rd, .inr (4, [.ref tp, .ref d, .ref ft, .ref bl, .int (nI v4_2), .int ca, .ref wk, .int (nI v7_2), .ref fl, .ref sr, .int (nI cnt), cv, .ref cl, .int (nI rw)])), (tp, .inr (8, [.ref tb, .int (nI L)])), (tb, .inl (κ 0, 800, .inl tf)), (d, .inl (κ 0, 6, .inl dl)), (wk, .inl (κ 1, 20, .inl gwk_2))] ++ []) ∧ va_S A s.heap H locs ∧ lv_has ls 3 [(1, .int (nI k1_2)), (0, .ref rd)]) (fun k9 H locs ls hI2 ih2 => ?_) (L - aq) _ _ _ ⟨0, aq, sz, wf, (by omega), (by omega), (by omega), (by omega), hwf, rfl, hP, hD, hS, lv_sub hl [0, 1] rfl⟩
  obtain ⟨k1_2, v4_2, v7_2, gwk_2, hl2_0, hl2_1, hl2_2, hl2_3, hg2_0, hm2, hP, hD, hS, hl⟩ := hI2
  refine lv_aload_n hx hb dX4_readPlain_2 rfl (lv_at hl 1 rfl) ?_
  refine va_get (D := D) (ci := 4) (v := .int (nI v4_2)) (C := RX4) (T := TX4) (N := 14) hx hb hts inlX4 hown hK hP 0 rfl rfl 4 (by decide) (hts _ mw_71) (fun _ h9 => h9) rfl dX4_readPlain_3 ?_
  refine lv_aload_n hx hb dX4_readPlain_6 rfl (lv_at hl 1 rfl) ?_
  refine va_get (D := D) (ci := 4) (v := .ref tp) (C := RX4) (T := TX4) (N := 14) hx hb hts inlX4 hown hK hP 0 rfl rfl 0 (by decide) (hts _ mw_81) (fun _ h9 => h9) rfl dX4_readPlain_7 ?_
  refine va_get (D := D) (ci := 8) (v := .int (nI L)) (C := RX8) (T := TX8) (N := 2) hx hb hts inlX8 hown hK hP 1 rfl rfl 1 (by decide) (hts _ mw_261) (fun _ h9 => h9) rfl dX4_readPlain_10 ?_
  refine lv_icmp_ge (tgt := 137) hx hb dX4_readPlain_13 (by decide) (fun c_1 => ?_) (fun c_1 => ?_)
  · have nc_1 := cv_le (a := L) (b := v4_2) (by omega) (by omega) c_1
    refine lv_iconst (v := 0) hx hb dX4_readPlain_137 (by decide) ?_
    exact et_iret hx hb hr hlk rfl hS (0, v4_2, v7_2, gwk_2) rfl ⟨(show v4_2 ≤ L from (by first | assumption | omega | rfl | exact Or.inl (by assumption) | exact Or.inr (by assumption))), (show aq ≤ v4_2 from (by first | assumption | omega | rfl | exact Or.inl (by assumption) | exact Or.inr (by assumption))), (show v7_2 ≤ 20 from (by first | assumption | omega | rfl | exact Or.inl (by assumption) | exact Or.inr (by assumption))), (show sb_Fit gwk_2 from (by first | assumption | omega | rfl | exact Or.inl (by assumption) | exact Or.inr (by assumption)))⟩ (subP0 hP [0, 1, 2, 3, 4] rfl) (hD.sub [0, 1, 2, 3, 4] (by decide) rfl) (Nat.le_of_ble_eq_true rfl) (Nat.le_of_ble_eq_true rfl) dX4_readPlain_138
  · have nc_1 := cv_nle (a := L) (b := v4_2) (by omega) (by omega) c_1
    refine lv_aload_n hx hb dX4_readPlain_16 rfl (lv_at hl 1 rfl) ?_
    refine va_get (D := D) (ci := 4) (v := .ref tp) (C := RX4) (T := TX4) (N := 14) hx hb hts inlX4 hown hK hP 0 rfl rfl 0 (by decide) (hts _ mw_81) (fun _ h9 => h9) rfl dX4_readPlain_17 ?_
    refine va_get (D := D) (ci := 8) (v := .ref tb) (C := RX8) (T := TX8) (N := 2) hx hb hts inlX8 hown hK hP 1 rfl rfl 0 (by decide) (hts _ mw_266) (fun _ h9 => h9) rfl dX4_readPlain_20 ?_
    refine lv_aload_n hx hb dX4_readPlain_23 rfl (lv_at hl 1 rfl) ?_
    refine va_get (D := D) (ci := 4) (v := .int (nI v4_2)) (C := RX4) (T := TX4) (N := 14) hx hb hts inlX4 hown hK hP 0 rfl rfl 4 (by decide) (hts _ mw_71) (fun _ h9 => h9) rfl dX4_readPlain_24 ?_
    refine va_iald hx hb hK hP 2 0 rfl rfl (i := nI v4_2) (vp_in_nI (n := v4_2) (by omega) (by omega)) dX4_readPlain_27 ?_
    refine kv (v := .int (tf v4_2)) (by rw [nI_clamp (by omega)]) ?_
    obtain ⟨x_2, ex_2⟩ : ∃ y9 : Int32, tf v4_2 = y9 := ⟨_, rfl⟩
    refine kv (v := .int x_2) (congrArg Value.int ex_2) ?_
    refine lv_istore_n (lv' := [(2, .int x_2), (1, .int (nI k1_2)), (0, .ref rd)]) hx hb dX4_readPlain_28 rfl hl (by decide) rfl (fun ls hl => ?_)
    refine lv_iload_n hx hb dX4_readPlain_29 rfl (lv_at hl 0 rfl) ?_
    refine lv_aload_n hx hb dX4_readPlain_30 rfl (lv_at hl 2 rfl) ?_
    refine va_get (D := D) (ci := 4) (v := .ref d) (C := RX4) (T := TX4) (N := 14) hx hb hts inlX4 hown hK hP 0 rfl rfl 1 (by decide) (hts _ mw_82) (fun _ h9 => h9) rfl dX4_readPlain_31 ?_
    refine lv_iconst (v := 0) hx hb dX4_readPlain_34 (by decide) ?_
    refine va_iald hx hb hK hP 3 0 rfl rfl (i := 0) (vp_k (by decide)) dX4_readPlain_35 ?_
    obtain ⟨x_3, ex_3⟩ : ∃ y9 : Int32, dl 0 = y9 := ⟨_, rfl⟩
    refine kv (v := .int x_3) (congrArg Value.int ex_3) ?_
    refine lv_icmp_eq (tgt := 45) hx hb dX4_readPlain_36 (by decide) (fun c_4 => ?_) (fun c_4 => ?_)
    · refine lv_iconst (v := 0) hx hb dX4_readPlain_45 (by decide) ?_
      exact et_iret hx hb hr hlk rfl hS (0, v4_2, v7_2, gwk_2) rfl ⟨(show v4_2 ≤ L from (by first | assumption | omega | rfl | exact Or.inl (by assumption) | exact Or.inr (by assumption))), (show aq ≤ v4_2 from (by first | assumption | omega | rfl | exact Or.inl (by assumption) | exact Or.inr (by assumption))), (show v7_2 ≤ 20 from (by first | assumption | omega | rfl | exact Or.inl (by assumption) | exact Or.inr (by assumption))), (show sb_Fit gwk_2 from (by first | assumption | omega | rfl | exact Or.inl (by assumption) | exact Or.inr (by assumption)))⟩ (subP0 hP [0, 1, 2, 3, 4] rfl) (hD.sub [0, 1, 2, 3, 4] (by decide) rfl) (Nat.le_of_ble_eq_true rfl) (Nat.le_of_ble_eq_true rfl) dX4_readPlain_46
    · refine lv_iload_n hx hb dX4_readPlain_39 rfl (lv_at hl 0 rfl) ?_
      refine lv_bipush (v := 10) hx hb dX4_readPlain_40 (by decide) ?_
      refine lv_icmp_ne (tgt := 47) hx hb dX4_readPlain_42 (by decide) (fun c_5 => ?_) (fun c_5 => ?_)
      · refine lv_iload_n hx hb dX4_readPlain_47 rfl (lv_at hl 0 rfl) ?_
        refine er_S (As := [.int x_2]) (rest := []) hFX hKK hE hS (c_X8_isSign l D κ κq x_2) 1 gS_X4_115 hdS_X8_isSign rfl rfl ⟨Nat.le_of_ble_eq_true rfl, Nat.le_of_ble_eq_true rfl⟩ rfl rfl (Nat.le_of_ble_eq_true rfl) dX4_readPlain_48 ⟨Nat.le_of_ble_eq_true rfl, Nat.le_of_ble_eq_true rfl⟩ hl.1 (subP0 hP [] rfl) (fun r__6 hp_7 => ?_)
        replace hp_7 : ((r__6 = 1) ∨ (r__6 = 0)) := hp_7
        have ha_8 := hp_7
        clear hp_7
        rcases ha_8 with rfl | rfl
        · refine W.eq (g2 := F0 m 51 ls [.int 1]) rfl ?_
          refine lv_if_ne (tgt := 56) hx hb dX4_readPlain_51 (by decide) (fun c_9 => ?_) (fun c_9 => absurd c_9 (by decide))
          refine lv_iload_n hx hb dX4_readPlain_56 rfl (lv_at hl 0 rfl) ?_
          refine lv_aload_n hx hb dX4_readPlain_57 rfl (lv_at hl 2 rfl) ?_
          refine va_get (D := D) (ci := 4) (v := .ref d) (C := RX4) (T := TX4) (N := 14) hx hb hts inlX4 hown hK hP 0 rfl rfl 1 (by decide) (hts _ mw_82) (fun _ h9 => h9) rfl dX4_readPlain_58 ?_
          refine lv_iconst (v := 1) hx hb dX4_readPlain_61 (by decide) ?_
          refine va_iald hx hb hK hP 3 0 rfl rfl (i := 1) (vp_k (by decide)) dX4_readPlain_62 ?_
          obtain ⟨x_10, ex_10⟩ : ∃ y9 : Int32, dl 1 = y9 := ⟨_, rfl⟩
          refine kv (v := .int x_10) (congrArg Value.int ex_10) ?_
          refine lv_icmp_ne (tgt := 68) hx hb dX4_readPlain_63 (by decide) (fun c_11 => ?_) (fun c_11 => ?_)
          · refine lv_iload_n hx hb dX4_readPlain_68 rfl (lv_at hl 0 rfl) ?_
            refine lv_bipush (v := 32) hx hb dX4_readPlain_69 (by decide) ?_
            refine lv_icmp_ne (tgt := 90) hx hb dX4_readPlain_71 (by decide) (fun c_12 => ?_) (fun c_12 => ?_)
            · refine lv_aload_n hx hb dX4_readPlain_90 rfl (lv_at hl 2 rfl) ?_
              refine va_get (D := D) (ci := 4) (v := .int (nI v7_2)) (C := RX4) (T := TX4) (N := 14) hx hb hts inlX4 hown hK hP 0 rfl rfl 7 (by decide) (hts _ mw_74) (fun _ h9 => h9) rfl dX4_readPlain_91 ?_
              refine lv_iload_n hx hb dX4_readPlain_94 rfl (lv_at hl 1 rfl) ?_
              refine lv_iadd hx hb dX4_readPlain_95 ?_
              refine ki (v := (nI (v7_2 + k1_2))) (nI_add v7_2 k1_2) ?_
              refine lv_bipush (v := 20) hx hb dX4_readPlain_96 (by decide) ?_
              refine lv_icmp_lt (tgt := 103) hx hb dX4_readPlain_98 (by decide) (fun c_13 => ?_) (fun c_13 => ?_)
              · have nc_13 := cv_lt (a := (v7_2 + k1_2)) (b := 20) (by omega) (by omega) c_13
                refine loop_dn (fun k9 H locs ls => ∃ (k1_103 : Nat), ∃ (v7_103 : Nat), ∃ (gwk_103 : Nat → Int32), (v7_103 ≤ 20) ∧ (k1_103 ≤ v4_2) ∧ sb_Fit gwk_103 ∧ k1_103 = k9 ∧ va_P D vwCl ([(rd, .inr (4, [.ref tp, .ref d, .ref ft, .ref bl, .int (nI v4_2), .int ca, .ref wk, .int (nI v7_103), .ref fl, .ref sr, .int (nI cnt), cv, .ref cl, .int (nI rw)])), (tp, .inr (8, [.ref tb, .int (nI L)])), (tb, .inl (κ 0, 800, .inl tf)), (d, .inl (κ 0, 6, .inl dl)), (wk, .inl (κ 1, 20, .inl gwk_103))] ++ []) H ∧ va_D A ([(rd, .inr (4, [.ref tp, .ref d, .ref ft, .ref bl, .int (nI v4_2), .int ca, .ref wk, .int (nI v7_103), .ref fl, .ref sr, .int (nI cnt), cv, .ref cl, .int (nI rw)])), (tp, .inr (8, [.ref tb, .int (nI L)])), (tb, .inl (κ 0, 800, .inl tf)), (d, .inl (κ 0, 6, .inl dl)), (wk, .inl (κ 1, 20, .inl gwk_103))] ++ []) ∧ va_S A s.heap H locs ∧ lv_has ls 3 [(2, .int x_2), (1, .int (nI k1_103)), (0, .ref rd)]) (fun k9 H locs ls hI103 ih103 => ?_) (k1_2) _ _ _ ⟨k1_2, v7_2, gwk_2, (by omega), (by omega), hg2_0, rfl, hP, hD, hS, lv_sub hl [0, 1, 2] rfl⟩
                obtain ⟨k1_103, v7_103, gwk_103, hl103_0, hl103_1, hg103_0, hm103, hP, hD, hS, hl⟩ := hI103
                refine lv_iload_n hx hb dX4_readPlain_103 rfl (lv_at hl 1 rfl) ?_
                refine lv_if_le (tgt := 119) hx hb dX4_readPlain_104 (by decide) (fun c_14 => ?_) (fun c_14 => ?_)
                · have nc_14 := cv_le (a := k1_103) (b := 0) (by omega) (by omega) c_14
                  refine lv_aload_n hx hb dX4_readPlain_119 rfl (lv_at hl 2 rfl) ?_
                  refine lv_iload_n hx hb dX4_readPlain_120 rfl (lv_at hl 0 rfl) ?_
                  refine et_VN (CR := [(tp, .inr (8, [.ref tb, .int (nI L)])), (tb, .inl (κ 0, 800, .inl tf)), (d, .inl (κ 0, 6, .inl dl))]) (As := [.int x_2]) (rest := []) hFX hKK hE hP hD hS hA (c_X4_keepByte l D κ κq rd tp d ft bl v4_2 wk v7_103 fl sr cnt cl rw ca cv gwk_103 x_2 (by omega) hg103_0) 1 gV_X4_153 hdV_X4_keepByte ⟨Nat.le_of_ble_eq_true rfl, Nat.le_of_ble_eq_true rfl⟩ rfl rfl (Nat.le_of_ble_eq_true rfl) dX4_readPlain_121 ⟨Nat.le_of_ble_eq_true rfl, Nat.le_of_ble_eq_true rfl⟩ hl.1 [0, 4] [1, 2, 3] rfl rfl (by decide) (by decide) (by decide) hP 0 4 rfl rfl rfl (fun u_17 H locs hp_18 hP hD hS => ?_)
                  refine W.widen (k := 0) (n := 0) (Nat.le_refl _) (Nat.le_refl _) ?_
                  obtain ⟨y__15, g__16⟩ := u_17
                  replace hP : va_P D vwCl ([(rd, .inr (4, [.ref tp, .ref d, .ref ft, .ref bl, .int (nI v4_2), .int ca, .ref wk, .int (nI y__15), .ref fl, .ref sr, .int (nI cnt), cv, .ref cl, .int (nI rw)])), (tp, .inr (8, [.ref tb, .int (nI L)])), (tb, .inl (κ 0, 800, .inl tf)), (d, .inl (κ 0, 6, .inl dl)), (wk, .inl (κ 1, 20, .inl g__16))] ++ []) H := subP (C := [(tp, .inr (8, [.ref tb, .int (nI L)])), (tb, .inl (κ 0, 800, .inl tf)), (d, .inl (κ 0, 6, .inl dl)), (rd, .inr (4, [.ref tp, .ref d, .ref ft, .ref bl, .int (nI v4_2), .int ca, .ref wk, .int (nI y__15), .ref fl, .ref sr, .int (nI cnt), cv, .ref cl, .int (nI rw)])), (wk, .inl (κ 1, 20, .inl g__16))]) hP [3, 0, 1, 2, 4] rfl
                  replace hD : va_D A ([(rd, .inr (4, [.ref tp, .ref d, .ref ft, .ref bl, .int (nI v4_2), .int ca, .ref wk, .int (nI y__15), .ref fl, .ref sr, .int (nI cnt), cv, .ref cl, .int (nI rw)])), (tp, .inr (8, [.ref tb, .int (nI L)])), (tb, .inl (κ 0, 800, .inl tf)), (d, .inl (κ 0, 6, .inl dl)), (wk, .inl (κ 1, 20, .inl g__16))] ++ []) := subD (C := [(tp, .inr (8, [.ref tb, .int (nI L)])), (tb, .inl (κ 0, 800, .inl tf)), (d, .inl (κ 0, 6, .inl dl)), (rd, .inr (4, [.ref tp, .ref d, .ref ft, .ref bl, .int (nI v4_2), .int ca, .ref wk, .int (nI y__15), .ref fl, .ref sr, .int (nI cnt), cv, .ref cl, .int (nI rw)])), (wk, .inl (κ 1, 20, .inl g__16))]) hD [3, 0, 1, 2, 4] (by decide) rfl
                  replace hp_18 : y__15 ≤ 20 ∧ y__15 ≤ v7_103 + 1 ∧ sb_Fit g__16 := hp_18
                  obtain ⟨h_19, h_20, h_21⟩ := hp_18
                  refine W.eq (g2 := F0 m 124 ls []) rfl ?_
                  refine lv_aload_n hx hb dX4_readPlain_124 rfl (lv_at hl 2 rfl) ?_
                  refine lv_dup hx hb dX4_readPlain_125 rfl ?_
                  refine va_get (D := D) (ci := 4) (v := .int (nI v4_2)) (C := RX4) (T := TX4) (N := 14) hx hb hts inlX4 hown hK hP 0 rfl rfl 4 (by decide) (hts _ mw_71) (fun _ h9 => h9) rfl dX4_readPlain_126 ?_
                  refine lv_iconst (v := 1) hx hb dX4_readPlain_129 (by decide) ?_
                  refine lv_iadd hx hb dX4_readPlain_130 ?_
                  refine ki (v := (nI (v4_2 + 1))) (nI_add v4_2 1) ?_
                  refine va_put (D := D) (ci := 4) (v := .int (nI (v4_2 + 1))) (ty := tyX4 4) (C := RX4) (T := TX4) (N := 14) hx hb hts inlX4 tyX4 tyX4_ok nmX4 hown hK hP hD hS 0 rfl rfl 4 (by decide) (hts _ mw_71) (fun _ h9 => h9) rfl (tyX4_ok 4 (by decide)) rfl rfl (Nat.le_of_ble_eq_true rfl) dX4_readPlain_131 (fun H locs hP hD hS => ?_)
                  have hP : va_P D vwCl ([(rd, .inr (4, [.ref tp, .ref d, .ref ft, .ref bl, .int (nI (v4_2 + 1)), .int ca, .ref wk, .int (nI y__15), .ref fl, .ref sr, .int (nI cnt), cv, .ref cl, .int (nI rw)])), (tp, .inr (8, [.ref tb, .int (nI L)])), (tb, .inl (κ 0, 800, .inl tf)), (d, .inl (κ 0, 6, .inl dl)), (wk, .inl (κ 1, 20, .inl g__16))] ++ []) H := hP
                  have hD : va_D A ([(rd, .inr (4, [.ref tp, .ref d, .ref ft, .ref bl, .int (nI (v4_2 + 1)), .int ca, .ref wk, .int (nI y__15), .ref fl, .ref sr, .int (nI cnt), cv, .ref cl, .int (nI rw)])), (tp, .inr (8, [.ref tb, .int (nI L)])), (tb, .inl (κ 0, 800, .inl tf)), (d, .inl (κ 0, 6, .inl dl)), (wk, .inl (κ 1, 20, .inl g__16))] ++ []) := hD
                  refine lv_goto (tgt := 2) hx hb dX4_readPlain_134 (by decide) ?_
                  exact ih2 _ _ _ _ (by omega) ⟨k1_103, (v4_2 + 1), y__15, g__16, (by omega), (by omega), (by omega), (by omega), h_21, rfl, hP, hD, hS, lv_sub hl [1, 2] rfl⟩
                · have nc_14 := cv_nle (a := k1_103) (b := 0) (by omega) (by omega) c_14
                  refine lv_aload_n hx hb dX4_readPlain_107 rfl (lv_at hl 2 rfl) ?_
                  refine lv_bipush (v := 32) hx hb dX4_readPlain_108 (by decide) ?_
                  refine et_VN (CR := [(tp, .inr (8, [.ref tb, .int (nI L)])), (tb, .inl (κ 0, 800, .inl tf)), (d, .inl (κ 0, 6, .inl dl))]) (As := [.int 32]) (rest := []) hFX hKK hE hP hD hS hA (c_X4_keepByte l D κ κq rd tp d ft bl v4_2 wk v7_103 fl sr cnt cl rw ca cv gwk_103 32 (by omega) hg103_0) 1 gV_X4_153 hdV_X4_keepByte ⟨Nat.le_of_ble_eq_true rfl, Nat.le_of_ble_eq_true rfl⟩ rfl rfl (Nat.le_of_ble_eq_true rfl) dX4_readPlain_110 ⟨Nat.le_of_ble_eq_true rfl, Nat.le_of_ble_eq_true rfl⟩ hl.1 [0, 4] [1, 2, 3] rfl rfl (by decide) (by decide) (by decide) hP 0 4 rfl rfl rfl (fun u_24 H locs hp_25 hP hD hS => ?_)
                  refine W.widen (k := 0) (n := 0) (Nat.le_refl _) (Nat.le_refl _) ?_
                  obtain ⟨y__22, g__23⟩ := u_24
                  replace hP : va_P D vwCl ([(rd, .inr (4, [.ref tp, .ref d, .ref ft, .ref bl, .int (nI v4_2), .int ca, .ref wk, .int (nI y__22), .ref fl, .ref sr, .int (nI cnt), cv, .ref cl, .int (nI rw)])), (tp, .inr (8, [.ref tb, .int (nI L)])), (tb, .inl (κ 0, 800, .inl tf)), (d, .inl (κ 0, 6, .inl dl)), (wk, .inl (κ 1, 20, .inl g__23))] ++ []) H := subP (C := [(tp, .inr (8, [.ref tb, .int (nI L)])), (tb, .inl (κ 0, 800, .inl tf)), (d, .inl (κ 0, 6, .inl dl)), (rd, .inr (4, [.ref tp, .ref d, .ref ft, .ref bl, .int (nI v4_2), .int ca, .ref wk, .int (nI y__22), .ref fl, .ref sr, .int (nI cnt), cv, .ref cl, .int (nI rw)])), (wk, .inl (κ 1, 20, .inl g__23))]) hP [3, 0, 1, 2, 4] rfl
                  replace hD : va_D A ([(rd, .inr (4, [.ref tp, .ref d, .ref ft, .ref bl, .int (nI v4_2), .int ca, .ref wk, .int (nI y__22), .ref fl, .ref sr, .int (nI cnt), cv, .ref cl, .int (nI rw)])), (tp, .inr (8, [.ref tb, .int (nI L)])), (tb, .inl (κ 0, 800, .inl tf)), (d, .inl (κ 0, 6, .inl dl)), (wk, .inl (κ 1, 20, .inl g__23))] ++ []) := subD (C := [(tp, .inr (8, [.ref tb, .int (nI L)])), (tb, .inl (κ 0, 800, .inl tf)), (d, .inl (κ 0, 6, .inl dl)), (rd, .inr (4, [.ref tp, .ref d, .ref ft, .ref bl, .int (nI v4_2), .int ca, .ref wk, .int (nI y__22), .ref fl, .ref sr, .int (nI cnt), cv, .ref cl, .int (nI rw)])), (wk, .inl (κ 1, 20, .inl g__23))]) hD [3, 0, 1, 2, 4] (by decide) rfl
                  replace hp_25 : y__22 ≤ 20 ∧ y__22 ≤ v7_103 + 1 ∧ sb_Fit g__23 := hp_25
                  obtain ⟨h_26, h_27, h_28⟩ := hp_25
                  refine W.eq (g2 := F0 m 113 ls []) rfl ?_
                  refine lv_iinc (v := (nI (k1_103 - 1))) (lv' := [(1, .int (nI (k1_103 - 1))), (2, .int x_2), (0, .ref rd)]) hx hb dX4_readPlain_113 hl (k := 1) rfl (nI_d (by omega)) (by decide) rfl (fun ls hl => ?_)
                  refine lv_goto (tgt := 103) hx hb dX4_readPlain_116 (by decide) ?_
                  exact ih103 _ _ _ _ (by omega) ⟨(k1_103 - 1), y__22, g__23, (by omega), (by omega), h_28, rfl, hP, hD, hS, lv_sub hl [1, 0, 2] rfl⟩
              · have nc_13 := cv_nlt (a := (v7_2 + k1_2)) (b := 20) (by omega) (by omega) c_13
                refine lv_iconst (v := 5) hx hb dX4_readPlain_101 (by decide) ?_
                exact et_iret hx hb hr hlk rfl hS (5, v4_2, v7_2, gwk_2) rfl ⟨(show v4_2 ≤ L from (by first | assumption | omega | rfl | exact Or.inl (by assumption) | exact Or.inr (by assumption))), (show aq ≤ v4_2 from (by first | assumption | omega | rfl | exact Or.inl (by assumption) | exact Or.inr (by assumption))), (show v7_2 ≤ 20 from (by first | assumption | omega | rfl | exact Or.inl (by assumption) | exact Or.inr (by assumption))), (show sb_Fit gwk_2 from (by first | assumption | omega | rfl | exact Or.inl (by assumption) | exact Or.inr (by assumption)))⟩ (subP0 hP [0, 1, 2, 3, 4] rfl) (hD.sub [0, 1, 2, 3, 4] (by decide) rfl) (Nat.le_of_ble_eq_true rfl) (Nat.le_of_ble_eq_true rfl) dX4_readPlain_102
            · refine lv_aload_n hx hb dX4_readPlain_74 rfl (lv_at hl 2 rfl) ?_
              refine va_get (D := D) (ci := 4) (v := .ref d) (C := RX4) (T := TX4) (N := 14) hx hb hts inlX4 hown hK hP 0 rfl rfl 1 (by decide) (hts _ mw_82) (fun _ h9 => h9) rfl dX4_readPlain_75 ?_
              refine lv_iconst (v := 3) hx hb dX4_readPlain_78 (by decide) ?_
              refine va_iald hx hb hK hP 3 0 rfl rfl (i := 3) (vp_k (by decide)) dX4_readPlain_79 ?_
              obtain ⟨x_29, ex_29⟩ : ∃ y9 : Int32, dl 3 = y9 := ⟨_, rfl⟩
              refine kv (v := .int x_29) (congrArg Value.int ex_29) ?_
              refine lv_iconst (v := 1) hx hb dX4_readPlain_80 (by decide) ?_
              refine lv_icmp_ne (tgt := 90) hx hb dX4_readPlain_81 (by decide) (fun c_30 => ?_) (fun c_30 => ?_)
              · refine lv_aload_n hx hb dX4_readPlain_90 rfl (lv_at hl 2 rfl) ?_
                refine va_get (D := D) (ci := 4) (v := .int (nI v7_2)) (C := RX4) (T := TX4) (N := 14) hx hb hts inlX4 hown hK hP 0 rfl rfl 7 (by decide) (hts _ mw_74) (fun _ h9 => h9) rfl dX4_readPlain_91 ?_
                refine lv_iload_n hx hb dX4_readPlain_94 rfl (lv_at hl 1 rfl) ?_
                refine lv_iadd hx hb dX4_readPlain_95 ?_
                refine ki (v := (nI (v7_2 + k1_2))) (nI_add v7_2 k1_2) ?_
                refine lv_bipush (v := 20) hx hb dX4_readPlain_96 (by decide) ?_
                refine lv_icmp_lt (tgt := 103) hx hb dX4_readPlain_98 (by decide) (fun c_31 => ?_) (fun c_31 => ?_)
                · have nc_31 := cv_lt (a := (v7_2 + k1_2)) (b := 20) (by omega) (by omega) c_31
                  refine loop_dn (fun k9 H locs ls => ∃ (k1_103 : Nat), ∃ (v7_103 : Nat), ∃ (gwk_103 : Nat → Int32), (v7_103 ≤ 20) ∧ (k1_103 ≤ v4_2) ∧ sb_Fit gwk_103 ∧ k1_103 = k9 ∧ va_P D vwCl ([(rd, .inr (4, [.ref tp, .ref d, .ref ft, .ref bl, .int (nI v4_2), .int ca, .ref wk, .int (nI v7_103), .ref fl, .ref sr, .int (nI cnt), cv, .ref cl, .int (nI rw)])), (tp, .inr (8, [.ref tb, .int (nI L)])), (tb, .inl (κ 0, 800, .inl tf)), (d, .inl (κ 0, 6, .inl dl)), (wk, .inl (κ 1, 20, .inl gwk_103))] ++ []) H ∧ va_D A ([(rd, .inr (4, [.ref tp, .ref d, .ref ft, .ref bl, .int (nI v4_2), .int ca, .ref wk, .int (nI v7_103), .ref fl, .ref sr, .int (nI cnt), cv, .ref cl, .int (nI rw)])), (tp, .inr (8, [.ref tb, .int (nI L)])), (tb, .inl (κ 0, 800, .inl tf)), (d, .inl (κ 0, 6, .inl dl)), (wk, .inl (κ 1, 20, .inl gwk_103))] ++ []) ∧ va_S A s.heap H locs ∧ lv_has ls 3 [(2, .int x_2), (1, .int (nI k1_103)), (0, .ref rd)]) (fun k9 H locs ls hI103 ih103 => ?_) (k1_2) _ _ _ ⟨k1_2, v7_2, gwk_2, (by omega), (by omega), hg2_0, rfl, hP, hD, hS, lv_sub hl [0, 1, 2] rfl⟩
                  obtain ⟨k1_103, v7_103, gwk_103, hl103_0, hl103_1, hg103_0, hm103, hP, hD, hS, hl⟩ := hI103
                  refine lv_iload_n hx hb dX4_readPlain_103 rfl (lv_at hl 1 rfl) ?_
                  refine lv_if_le (tgt := 119) hx hb dX4_readPlain_104 (by decide) (fun c_32 => ?_) (fun c_32 => ?_)
                  · have nc_32 := cv_le (a := k1_103) (b := 0) (by omega) (by omega) c_32
                    refine lv_aload_n hx hb dX4_readPlain_119 rfl (lv_at hl 2 rfl) ?_
                    refine lv_iload_n hx hb dX4_readPlain_120 rfl (lv_at hl 0 rfl) ?_
                    refine et_VN (CR := [(tp, .inr (8, [.ref tb, .int (nI L)])), (tb, .inl (κ 0, 800, .inl tf)), (d, .inl (κ 0, 6, .inl dl))]) (As := [.int x_2]) (rest := []) hFX hKK hE hP hD hS hA (c_X4_keepByte l D κ κq rd tp d ft bl v4_2 wk v7_103 fl sr cnt cl rw ca cv gwk_103 x_2 (by omega) hg103_0) 1 gV_X4_153 hdV_X4_keepByte ⟨Nat.le_of_ble_eq_true rfl, Nat.le_of_ble_eq_true rfl⟩ rfl rfl (Nat.le_of_ble_eq_true rfl) dX4_readPlain_121 ⟨Nat.le_of_ble_eq_true rfl, Nat.le_of_ble_eq_true rfl⟩ hl.1 [0, 4] [1, 2, 3] rfl rfl (by decide) (by decide) (by decide) hP 0 4 rfl rfl rfl (fun u_35 H locs hp_36 hP hD hS => ?_)
                    refine W.widen (k := 0) (n := 0) (Nat.le_refl _) (Nat.le_refl _) ?_
                    obtain ⟨y__33, g__34⟩ := u_35
                    replace hP : va_P D vwCl ([(rd, .inr (4, [.ref tp, .ref d, .ref ft, .ref bl, .int (nI v4_2), .int ca, .ref wk, .int (nI y__33), .ref fl, .ref sr, .int (nI cnt), cv, .ref cl, .int (nI rw)])), (tp, .inr (8, [.ref tb, .int (nI L)])), (tb, .inl (κ 0, 800, .inl tf)), (d, .inl (κ 0, 6, .inl dl)), (wk, .inl (κ 1, 20, .inl g__34))] ++ []) H := subP (C := [(tp, .inr (8, [.ref tb, .int (nI L)])), (tb, .inl (κ 0, 800, .inl tf)), (d, .inl (κ 0, 6, .inl dl)), (rd, .inr (4, [.ref tp, .ref d, .ref ft, .ref bl, .int (nI v4_2), .int ca, .ref wk, .int (nI y__33), .ref fl, .ref sr, .int (nI cnt), cv, .ref cl, .int (nI rw)])), (wk, .inl (κ 1, 20, .inl g__34))]) hP [3, 0, 1, 2, 4] rfl
                    replace hD : va_D A ([(rd, .inr (4, [.ref tp, .ref d, .ref ft, .ref bl, .int (nI v4_2), .int ca, .ref wk, .int (nI y__33), .ref fl, .ref sr, .int (nI cnt), cv, .ref cl, .int (nI rw)])), (tp, .inr (8, [.ref tb, .int (nI L)])), (tb, .inl (κ 0, 800, .inl tf)), (d, .inl (κ 0, 6, .inl dl)), (wk, .inl (κ 1, 20, .inl g__34))] ++ []) := subD (C := [(tp, .inr (8, [.ref tb, .int (nI L)])), (tb, .inl (κ 0, 800, .inl tf)), (d, .inl (κ 0, 6, .inl dl)), (rd, .inr (4, [.ref tp, .ref d, .ref ft, .ref bl, .int (nI v4_2), .int ca, .ref wk, .int (nI y__33), .ref fl, .ref sr, .int (nI cnt), cv, .ref cl, .int (nI rw)])), (wk, .inl (κ 1, 20, .inl g__34))]) hD [3, 0, 1, 2, 4] (by decide) rfl
                    replace hp_36 : y__33 ≤ 20 ∧ y__33 ≤ v7_103 + 1 ∧ sb_Fit g__34 := hp_36
                    obtain ⟨h_37, h_38, h_39⟩ := hp_36
                    refine W.eq (g2 := F0 m 124 ls []) rfl ?_
                    refine lv_aload_n hx hb dX4_readPlain_124 rfl (lv_at hl 2 rfl) ?_
                    refine lv_dup hx hb dX4_readPlain_125 rfl ?_
                    refine va_get (D := D) (ci := 4) (v := .int (nI v4_2)) (C := RX4) (T := TX4) (N := 14) hx hb hts inlX4 hown hK hP 0 rfl rfl 4 (by decide) (hts _ mw_71) (fun _ h9 => h9) rfl dX4_readPlain_126 ?_
                    refine lv_iconst (v := 1) hx hb dX4_readPlain_129 (by decide) ?_
                    refine lv_iadd hx hb dX4_readPlain_130 ?_
                    refine ki (v := (nI (v4_2 + 1))) (nI_add v4_2 1) ?_
                    refine va_put (D := D) (ci := 4) (v := .int (nI (v4_2 + 1))) (ty := tyX4 4) (C := RX4) (T := TX4) (N := 14) hx hb hts inlX4 tyX4 tyX4_ok nmX4 hown hK hP hD hS 0 rfl rfl 4 (by decide) (hts _ mw_71) (fun _ h9 => h9) rfl (tyX4_ok 4 (by decide)) rfl rfl (Nat.le_of_ble_eq_true rfl) dX4_readPlain_131 (fun H locs hP hD hS => ?_)
                    have hP : va_P D vwCl ([(rd, .inr (4, [.ref tp, .ref d, .ref ft, .ref bl, .int (nI (v4_2 + 1)), .int ca, .ref wk, .int (nI y__33), .ref fl, .ref sr, .int (nI cnt), cv, .ref cl, .int (nI rw)])), (tp, .inr (8, [.ref tb, .int (nI L)])), (tb, .inl (κ 0, 800, .inl tf)), (d, .inl (κ 0, 6, .inl dl)), (wk, .inl (κ 1, 20, .inl g__34))] ++ []) H := hP
                    have hD : va_D A ([(rd, .inr (4, [.ref tp, .ref d, .ref ft, .ref bl, .int (nI (v4_2 + 1)), .int ca, .ref wk, .int (nI y__33), .ref fl, .ref sr, .int (nI cnt), cv, .ref cl, .int (nI rw)])), (tp, .inr (8, [.ref tb, .int (nI L)])), (tb, .inl (κ 0, 800, .inl tf)), (d, .inl (κ 0, 6, .inl dl)), (wk, .inl (κ 1, 20, .inl g__34))] ++ []) := hD
                    refine lv_goto (tgt := 2) hx hb dX4_readPlain_134 (by decide) ?_
                    exact ih2 _ _ _ _ (by omega) ⟨k1_103, (v4_2 + 1), y__33, g__34, (by omega), (by omega), (by omega), (by omega), h_39, rfl, hP, hD, hS, lv_sub hl [1, 2] rfl⟩
                  · have nc_32 := cv_nle (a := k1_103) (b := 0) (by omega) (by omega) c_32
                    refine lv_aload_n hx hb dX4_readPlain_107 rfl (lv_at hl 2 rfl) ?_
                    refine lv_bipush (v := 32) hx hb dX4_readPlain_108 (by decide) ?_
                    refine et_VN (CR := [(tp, .inr (8, [.ref tb, .int (nI L)])), (tb, .inl (κ 0, 800, .inl tf)), (d, .inl (κ 0, 6, .inl dl))]) (As := [.int 32]) (rest := []) hFX hKK hE hP hD hS hA (c_X4_keepByte l D κ κq rd tp d ft bl v4_2 wk v7_103 fl sr cnt cl rw ca cv gwk_103 32 (by omega) hg103_0) 1 gV_X4_153 hdV_X4_keepByte ⟨Nat.le_of_ble_eq_true rfl, Nat.le_of_ble_eq_true rfl⟩ rfl rfl (Nat.le_of_ble_eq_true rfl) dX4_readPlain_110 ⟨Nat.le_of_ble_eq_true rfl, Nat.le_of_ble_eq_true rfl⟩ hl.1 [0, 4] [1, 2, 3] rfl rfl (by decide) (by decide) (by decide) hP 0 4 rfl rfl rfl (fun u_42 H locs hp_43 hP hD hS => ?_)
                    refine W.widen (k := 0) (n := 0) (Nat.le_refl _) (Nat.le_refl _) ?_
                    obtain ⟨y__40, g__41⟩ := u_42
                    replace hP : va_P D vwCl ([(rd, .inr (4, [.ref tp, .ref d, .ref ft, .ref bl, .int (nI v4_2), .int ca, .ref wk, .int (nI y__40), .ref fl, .ref sr, .int (nI cnt), cv, .ref cl, .int (nI rw)])), (tp, .inr (8, [.ref tb, .int (nI L)])), (tb, .inl (κ 0, 800, .inl tf)), (d, .inl (κ 0, 6, .inl dl)), (wk, .inl (κ 1, 20, .inl g__41))] ++ []) H := subP (C := [(tp, .inr (8, [.ref tb, .int (nI L)])), (tb, .inl (κ 0, 800, .inl tf)), (d, .inl (κ 0, 6, .inl dl)), (rd, .inr (4, [.ref tp, .ref d, .ref ft, .ref bl, .int (nI v4_2), .int ca, .ref wk, .int (nI y__40), .ref fl, .ref sr, .int (nI cnt), cv, .ref cl, .int (nI rw)])), (wk, .inl (κ 1, 20, .inl g__41))]) hP [3, 0, 1, 2, 4] rfl
                    replace hD : va_D A ([(rd, .inr (4, [.ref tp, .ref d, .ref ft, .ref bl, .int (nI v4_2), .int ca, .ref wk, .int (nI y__40), .ref fl, .ref sr, .int (nI cnt), cv, .ref cl, .int (nI rw)])), (tp, .inr (8, [.ref tb, .int (nI L)])), (tb, .inl (κ 0, 800, .inl tf)), (d, .inl (κ 0, 6, .inl dl)), (wk, .inl (κ 1, 20, .inl g__41))] ++ []) := subD (C := [(tp, .inr (8, [.ref tb, .int (nI L)])), (tb, .inl (κ 0, 800, .inl tf)), (d, .inl (κ 0, 6, .inl dl)), (rd, .inr (4, [.ref tp, .ref d, .ref ft, .ref bl, .int (nI v4_2), .int ca, .ref wk, .int (nI y__40), .ref fl, .ref sr, .int (nI cnt), cv, .ref cl, .int (nI rw)])), (wk, .inl (κ 1, 20, .inl g__41))]) hD [3, 0, 1, 2, 4] (by decide) rfl
                    replace hp_43 : y__40 ≤ 20 ∧ y__40 ≤ v7_103 + 1 ∧ sb_Fit g__41 := hp_43
                    obtain ⟨h_44, h_45, h_46⟩ := hp_43
                    refine W.eq (g2 := F0 m 113 ls []) rfl ?_
                    refine lv_iinc (v := (nI (k1_103 - 1))) (lv' := [(1, .int (nI (k1_103 - 1))), (2, .int x_2), (0, .ref rd)]) hx hb dX4_readPlain_113 hl (k := 1) rfl (nI_d (by omega)) (by decide) rfl (fun ls hl => ?_)
                    refine lv_goto (tgt := 103) hx hb dX4_readPlain_116 (by decide) ?_
                    exact ih103 _ _ _ _ (by omega) ⟨(k1_103 - 1), y__40, g__41, (by omega), (by omega), h_46, rfl, hP, hD, hS, lv_sub hl [1, 0, 2] rfl⟩
                · have nc_31 := cv_nlt (a := (v7_2 + k1_2)) (b := 20) (by omega) (by omega) c_31
                  refine lv_iconst (v := 5) hx hb dX4_readPlain_101 (by decide) ?_
                  exact et_iret hx hb hr hlk rfl hS (5, v4_2, v7_2, gwk_2) rfl ⟨(show v4_2 ≤ L from (by first | assumption | omega | rfl | exact Or.inl (by assumption) | exact Or.inr (by assumption))), (show aq ≤ v4_2 from (by first | assumption | omega | rfl | exact Or.inl (by assumption) | exact Or.inr (by assumption))), (show v7_2 ≤ 20 from (by first | assumption | omega | rfl | exact Or.inl (by assumption) | exact Or.inr (by assumption))), (show sb_Fit gwk_2 from (by first | assumption | omega | rfl | exact Or.inl (by assumption) | exact Or.inr (by assumption)))⟩ (subP0 hP [0, 1, 2, 3, 4] rfl) (hD.sub [0, 1, 2, 3, 4] (by decide) rfl) (Nat.le_of_ble_eq_true rfl) (Nat.le_of_ble_eq_true rfl) dX4_readPlain_102
              · refine lv_iinc (v := (nI (k1_2 + 1))) (lv' := [(1, .int (nI (k1_2 + 1))), (2, .int x_2), (0, .ref rd)]) hx hb dX4_readPlain_84 hl (k := 1) rfl (nI_i k1_2) (by decide) rfl (fun ls hl => ?_)
                refine lv_goto (tgt := 124) hx hb dX4_readPlain_87 (by decide) ?_
                refine lv_aload_n hx hb dX4_readPlain_124 rfl (lv_at hl 2 rfl) ?_
                refine lv_dup hx hb dX4_readPlain_125 rfl ?_
                refine va_get (D := D) (ci := 4) (v := .int (nI v4_2)) (C := RX4) (T := TX4) (N := 14) hx hb hts inlX4 hown hK hP 0 rfl rfl 4 (by decide) (hts _ mw_71) (fun _ h9 => h9) rfl dX4_readPlain_126 ?_
                refine lv_iconst (v := 1) hx hb dX4_readPlain_129 (by decide) ?_
                refine lv_iadd hx hb dX4_readPlain_130 ?_
                refine ki (v := (nI (v4_2 + 1))) (nI_add v4_2 1) ?_
                refine va_put (D := D) (ci := 4) (v := .int (nI (v4_2 + 1))) (ty := tyX4 4) (C := RX4) (T := TX4) (N := 14) hx hb hts inlX4 tyX4 tyX4_ok nmX4 hown hK hP hD hS 0 rfl rfl 4 (by decide) (hts _ mw_71) (fun _ h9 => h9) rfl (tyX4_ok 4 (by decide)) rfl rfl (Nat.le_of_ble_eq_true rfl) dX4_readPlain_131 (fun H locs hP hD hS => ?_)
                have hP : va_P D vwCl ([(rd, .inr (4, [.ref tp, .ref d, .ref ft, .ref bl, .int (nI (v4_2 + 1)), .int ca, .ref wk, .int (nI v7_2), .ref fl, .ref sr, .int (nI cnt), cv, .ref cl, .int (nI rw)])), (tp, .inr (8, [.ref tb, .int (nI L)])), (tb, .inl (κ 0, 800, .inl tf)), (d, .inl (κ 0, 6, .inl dl)), (wk, .inl (κ 1, 20, .inl gwk_2))] ++ []) H := hP
                have hD : va_D A ([(rd, .inr (4, [.ref tp, .ref d, .ref ft, .ref bl, .int (nI (v4_2 + 1)), .int ca, .ref wk, .int (nI v7_2), .ref fl, .ref sr, .int (nI cnt), cv, .ref cl, .int (nI rw)])), (tp, .inr (8, [.ref tb, .int (nI L)])), (tb, .inl (κ 0, 800, .inl tf)), (d, .inl (κ 0, 6, .inl dl)), (wk, .inl (κ 1, 20, .inl gwk_2))] ++ []) := hD
                refine lv_goto (tgt := 2) hx hb dX4_readPlain_134 (by decide) ?_
                exact ih2 _ _ _ _ (by omega) ⟨(k1_2 + 1), (v4_2 + 1), v7_2, gwk_2, (by omega), (by omega), (by omega), (by omega), hg2_0, rfl, hP, hD, hS, lv_sub hl [0, 2] rfl⟩
          · refine lv_iconst (v := 2) hx hb dX4_readPlain_66 (by decide) ?_
            exact et_iret hx hb hr hlk rfl hS (2, v4_2, v7_2, gwk_2) rfl ⟨(show v4_2 ≤ L from (by first | assumption | omega | rfl | exact Or.inl (by assumption) | exact Or.inr (by assumption))), (show aq ≤ v4_2 from (by first | assumption | omega | rfl | exact Or.inl (by assumption) | exact Or.inr (by assumption))), (show v7_2 ≤ 20 from (by first | assumption | omega | rfl | exact Or.inl (by assumption) | exact Or.inr (by assumption))), (show sb_Fit gwk_2 from (by first | assumption | omega | rfl | exact Or.inl (by assumption) | exact Or.inr (by assumption)))⟩ (subP0 hP [0, 1, 2, 3, 4] rfl) (hD.sub [0, 1, 2, 3, 4] (by decide) rfl) (Nat.le_of_ble_eq_true rfl) (Nat.le_of_ble_eq_true rfl) dX4_readPlain_67
        · refine W.eq (g2 := F0 m 51 ls [.int 0]) rfl ?_
          refine lv_if_ne (tgt := 56) hx hb dX4_readPlain_51 (by decide) (fun c_47 => absurd c_47 (by decide)) (fun c_47 => ?_)
          refine lv_iconst (v := 1) hx hb dX4_readPlain_54 (by decide) ?_
          exact et_iret hx hb hr hlk rfl hS (1, v4_2, v7_2, gwk_2) rfl ⟨(show v4_2 ≤ L from (by first | assumption | omega | rfl | exact Or.inl (by assumption) | exact Or.inr (by assumption))), (show aq ≤ v4_2 from (by first | assumption | omega | rfl | exact Or.inl (by assumption) | exact Or.inr (by assumption))), (show v7_2 ≤ 20 from (by first | assumption | omega | rfl | exact Or.inl (by assumption) | exact Or.inr (by assumption))), (show sb_Fit gwk_2 from (by first | assumption | omega | rfl | exact Or.inl (by assumption) | exact Or.inr (by assumption)))⟩ (subP0 hP [0, 1, 2, 3, 4] rfl) (hD.sub [0, 1, 2, 3, 4] (by decide) rfl) (Nat.le_of_ble_eq_true rfl) (Nat.le_of_ble_eq_true rfl) dX4_readPlain_55
      · refine lv_iconst (v := 0) hx hb dX4_readPlain_45 (by decide) ?_
        exact et_iret hx hb hr hlk rfl hS (0, v4_2, v7_2, gwk_2) rfl ⟨(show v4_2 ≤ L from (by first | assumption | omega | rfl | exact Or.inl (by assumption) | exact Or.inr (by assumption))), (show aq ≤ v4_2 from (by first | assumption | omega | rfl | exact Or.inl (by assumption) | exact Or.inr (by assumption))), (show v7_2 ≤ 20 from (by first | assumption | omega | rfl | exact Or.inl (by assumption) | exact Or.inr (by assumption))), (show sb_Fit gwk_2 from (by first | assumption | omega | rfl | exact Or.inl (by assumption) | exact Or.inr (by assumption)))⟩ (subP0 hP [0, 1, 2, 3, 4] rfl) (hD.sub [0, 1, 2, 3, 4] (by decide) rfl) (Nat.le_of_ble_eq_true rfl) (Nat.le_of_ble_eq_true rfl) dX4_readPlain_46
set_option maxHeartbeats 4000000 in
set_option maxRecDepth 100000 in
theorem c_X4_readQuoted (l : Launch) (D : va_G) (κ : Nat → ClassId) (κq : Nat → Nat) (rd : Nat) (tp : Nat) (d : Nat) (ft : Nat) (bl : Nat) (aq : Nat) (wk : Nat) (sz : Nat) (fl : Nat) (sr : Nat) (cnt : Nat) (cl : Nat) (rw : Nat) (ca : Int32) (cv : Value) (tb : Nat) (L : Nat) (tf : Nat → Int32) (dl : Nat → Int32) (wf : Nat → Int32) (hL8 : L ≤ 800) (hat : aq < L) (hsz : sz ≤ 20) (hwf : sb_Fit wf) : Et l yX4_readQuoted (wl yX4_readQuoted cX4_readQuoted 2 (some .int)) { frames := 1, cells := 0, slots := 0, locals := 21 } D κ κq [.ref rd] [(rd, .inr (4, [.ref tp, .ref d, .ref ft, .ref bl, .int (nI aq), .int ca, .ref wk, .int (nI sz), .ref fl, .ref sr, .int (nI cnt), cv, .ref cl, .int (nI rw)])), (tp, .inr (8, [.ref tb, .int (nI L)])), (tb, .inl (κ 0, 800, .inl tf)), (d, .inl (κ 0, 6, .inl dl)), (wk, .inl (κ 1, 20, .inl wf))] (fun u9 : Int32 × Nat × Nat × (Nat → Int32) => some (.int u9.1)) (fun u9 : Int32 × Nat × Nat × (Nat → Int32) => u9.2.1 ≤ L ∧ aq ≤ u9.2.1 ∧ u9.2.2.1 ≤ 20 ∧ sb_Fit u9.2.2.2) (fun u9 : Int32 × Nat × Nat × (Nat → Int32) => [(rd, .inr (4, [.ref tp, .ref d, .ref ft, .ref bl, .int (nI u9.2.1), .int ca, .ref wk, .int (nI u9.2.2.1), .ref fl, .ref sr, .int (nI cnt), cv, .ref cl, .int (nI rw)])), (tp, .inr (8, [.ref tb, .int (nI L)])), (tb, .inl (κ 0, 800, .inl tf)), (d, .inl (κ 0, 6, .inl dl)), (wk, .inl (κ 1, 20, .inl u9.2.2.2))]) := by
  refine et_of (by decide +kernel) (Nat.le_of_ble_eq_true rfl) ?_
  intro p e s m args below meth c A ls hx hb hr hml hts hown hlk hin hKK hK hA hP hD hS hE hl
  have hS : va_S A s.heap s.heap [] := hS
  have hP : va_P D vwCl ([(rd, .inr (4, [.ref tp, .ref d, .ref ft, .ref bl, .int (nI aq), .int ca, .ref wk, .int (nI sz), .ref fl, .ref sr, .int (nI cnt), cv, .ref cl, .int (nI rw)])), (tp, .inr (8, [.ref tb, .int (nI L)])), (tb, .inl (κ 0, 800, .inl tf)), (d, .inl (κ 0, 6, .inl dl)), (wk, .inl (κ 1, 20, .inl wf))] ++ []) s.heap := hP
  have hD : va_D A ([(rd, .inr (4, [.ref tp, .ref d, .ref ft, .ref bl, .int (nI aq), .int ca, .ref wk, .int (nI sz), .ref fl, .ref sr, .int (nI cnt), cv, .ref cl, .int (nI rw)])), (tp, .inr (8, [.ref tb, .int (nI L)])), (tb, .inl (κ 0, 800, .inl tf)), (d, .inl (κ 0, 6, .inl dl)), (wk, .inl (κ 1, 20, .inl wf))] ++ []) := hD
  have hFX : FX p s m args c cX4_readQuoted 2 RX4 := ⟨hx, hb, hml, hown, hts⟩
  have hl : lv_has ls 2 [(0, .ref rd)] := hl
  refine lv_aload_n hx hb dX4_readQuoted_0 rfl (lv_at hl 0 rfl) ?_
  refine lv_dup hx hb dX4_readQuoted_1 rfl ?_
  refine va_get (D := D) (ci := 4) (v := .int (nI aq)) (C := RX4) (T := TX4) (N := 14) hx hb hts inlX4 hown hK hP 0 rfl rfl 4 (by decide) (hts _ mw_71) (fun _ h9 => h9) rfl dX4_readQuoted_2 ?_
  refine lv_iconst (v := 1) hx hb dX4_readQuoted_5 (by decide) ?_
  refine lv_iadd hx hb dX4_readQuoted_6 ?_
  refine ki (v := (nI (aq + 1))) (nI_add aq 1) ?_
  refine va_put (D := D) (ci := 4) (v := .int (nI (aq + 1))) (ty := tyX4 4) (C := RX4) (T := TX4) (N := 14) hx hb hts inlX4 tyX4 tyX4_ok nmX4 hown hK hP hD hS 0 rfl rfl 4 (by decide) (hts _ mw_71) (fun _ h9 => h9) rfl (tyX4_ok 4 (by decide)) rfl rfl (Nat.le_of_ble_eq_true rfl) dX4_readQuoted_7 (fun H locs hP hD hS => ?_)
  have hP : va_P D vwCl ([(rd, .inr (4, [.ref tp, .ref d, .ref ft, .ref bl, .int (nI (aq + 1)), .int ca, .ref wk, .int (nI sz), .ref fl, .ref sr, .int (nI cnt), cv, .ref cl, .int (nI rw)])), (tp, .inr (8, [.ref tb, .int (nI L)])), (tb, .inl (κ 0, 800, .inl tf)), (d, .inl (κ 0, 6, .inl dl)), (wk, .inl (κ 1, 20, .inl wf))] ++ []) H := hP
  have hD : va_D A ([(rd, .inr (4, [.ref tp, .ref d, .ref ft, .ref bl, .int (nI (aq + 1)), .int ca, .ref wk, .int (nI sz), .ref fl, .ref sr, .int (nI cnt), cv, .ref cl, .int (nI rw)])), (tp, .inr (8, [.ref tb, .int (nI L)])), (tb, .inl (κ 0, 800, .inl tf)), (d, .inl (κ 0, 6, .inl dl)), (wk, .inl (κ 1, 20, .inl wf))] ++ []) := hD
  refine loop_dn (fun k9 H locs ls => ∃ (v4_10 : Nat), ∃ (v7_10 : Nat), ∃ (gwk_10 : Nat → Int32), (v4_10 ≤ L) ∧ (aq ≤ v4_10) ∧ (v7_10 ≤ 20) ∧ sb_Fit gwk_10 ∧ L - v4_10 = k9 ∧ va_P D vwCl ([(rd, .inr (4, [.ref tp, .ref d, .ref ft, .ref bl, .int (nI v4_10), .int ca, .ref wk, .int (nI v7_10), .ref fl, .ref sr, .int (nI cnt), cv, .ref cl, .int (nI rw)])), (tp, .inr (8, [.ref tb, .int (nI L)])), (tb, .inl (κ 0, 800, .inl tf)), (d, .inl (κ 0, 6, .inl dl)), (wk, .inl (κ 1, 20, .inl gwk_10))] ++ []) H ∧ va_D A ([(rd, .inr (4, [.ref tp, .ref d, .ref ft, .ref bl, .int (nI v4_10), .int ca, .ref wk, .int (nI v7_10), .ref fl, .ref sr, .int (nI cnt), cv, .ref cl, .int (nI rw)])), (tp, .inr (8, [.ref tb, .int (nI L)])), (tb, .inl (κ 0, 800, .inl tf)), (d, .inl (κ 0, 6, .inl dl)), (wk, .inl (κ 1, 20, .inl gwk_10))] ++ []) ∧ va_S A s.heap H locs ∧ lv_has ls 2 [(0, .ref rd)]) (fun k9 H locs ls hI10 ih10 => ?_) (L - (aq + 1)) _ _ _ ⟨(aq + 1), sz, wf, (by omega), (by omega), (by omega), hwf, rfl, hP, hD, hS, lv_sub hl [0] rfl⟩
  obtain ⟨v4_10, v7_10, gwk_10, hl10_0, hl10_1, hl10_2, hg10_0, hm10, hP, hD, hS, hl⟩ := hI10
  refine lv_aload_n hx hb dX4_readQuoted_10 rfl (lv_at hl 0 rfl) ?_
  refine va_get (D := D) (ci := 4) (v := .int (nI v4_10)) (C := RX4) (T := TX4) (N := 14) hx hb hts inlX4 hown hK hP 0 rfl rfl 4 (by decide) (hts _ mw_71) (fun _ h9 => h9) rfl dX4_readQuoted_11 ?_
  refine lv_aload_n hx hb dX4_readQuoted_14 rfl (lv_at hl 0 rfl) ?_
  refine va_get (D := D) (ci := 4) (v := .ref tp) (C := RX4) (T := TX4) (N := 14) hx hb hts inlX4 hown hK hP 0 rfl rfl 0 (by decide) (hts _ mw_81) (fun _ h9 => h9) rfl dX4_readQuoted_15 ?_
  refine va_get (D := D) (ci := 8) (v := .int (nI L)) (C := RX8) (T := TX8) (N := 2) hx hb hts inlX8 hown hK hP 1 rfl rfl 1 (by decide) (hts _ mw_261) (fun _ h9 => h9) rfl dX4_readQuoted_18 ?_
  refine lv_icmp_ge (tgt := 133) hx hb dX4_readQuoted_21 (by decide) (fun c_1 => ?_) (fun c_1 => ?_)
  · have nc_1 := cv_le (a := L) (b := v4_10) (by omega) (by omega) c_1
    refine lv_iconst (v := 4) hx hb dX4_readQuoted_133 (by decide) ?_
    exact et_iret hx hb hr hlk rfl hS (4, v4_10, v7_10, gwk_10) rfl ⟨(show v4_10 ≤ L from (by first | assumption | omega | rfl | exact Or.inl (by assumption) | exact Or.inr (by assumption))), (show aq ≤ v4_10 from (by first | assumption | omega | rfl | exact Or.inl (by assumption) | exact Or.inr (by assumption))), (show v7_10 ≤ 20 from (by first | assumption | omega | rfl | exact Or.inl (by assumption) | exact Or.inr (by assumption))), (show sb_Fit gwk_10 from (by first | assumption | omega | rfl | exact Or.inl (by assumption) | exact Or.inr (by assumption)))⟩ (subP0 hP [0, 1, 2, 3, 4] rfl) (hD.sub [0, 1, 2, 3, 4] (by decide) rfl) (Nat.le_of_ble_eq_true rfl) (Nat.le_of_ble_eq_true rfl) dX4_readQuoted_134
  · have nc_1 := cv_nle (a := L) (b := v4_10) (by omega) (by omega) c_1
    refine lv_aload_n hx hb dX4_readQuoted_24 rfl (lv_at hl 0 rfl) ?_
    refine va_get (D := D) (ci := 4) (v := .ref tp) (C := RX4) (T := TX4) (N := 14) hx hb hts inlX4 hown hK hP 0 rfl rfl 0 (by decide) (hts _ mw_81) (fun _ h9 => h9) rfl dX4_readQuoted_25 ?_
    refine va_get (D := D) (ci := 8) (v := .ref tb) (C := RX8) (T := TX8) (N := 2) hx hb hts inlX8 hown hK hP 1 rfl rfl 0 (by decide) (hts _ mw_266) (fun _ h9 => h9) rfl dX4_readQuoted_28 ?_
    refine lv_aload_n hx hb dX4_readQuoted_31 rfl (lv_at hl 0 rfl) ?_
    refine va_get (D := D) (ci := 4) (v := .int (nI v4_10)) (C := RX4) (T := TX4) (N := 14) hx hb hts inlX4 hown hK hP 0 rfl rfl 4 (by decide) (hts _ mw_71) (fun _ h9 => h9) rfl dX4_readQuoted_32 ?_
    refine va_iald hx hb hK hP 2 0 rfl rfl (i := nI v4_10) (vp_in_nI (n := v4_10) (by omega) (by omega)) dX4_readQuoted_35 ?_
    refine kv (v := .int (tf v4_10)) (by rw [nI_clamp (by omega)]) ?_
    obtain ⟨x_2, ex_2⟩ : ∃ y9 : Int32, tf v4_10 = y9 := ⟨_, rfl⟩
    refine kv (v := .int x_2) (congrArg Value.int ex_2) ?_
    refine lv_istore_n (lv' := [(1, .int x_2), (0, .ref rd)]) hx hb dX4_readQuoted_36 rfl hl (by decide) rfl (fun ls hl => ?_)
    refine lv_iload_n hx hb dX4_readQuoted_37 rfl (lv_at hl 0 rfl) ?_
    refine er_S (As := [.int x_2]) (rest := []) hFX hKK hE hS (c_X8_isSign l D κ κq x_2) 1 gS_X4_115 hdS_X8_isSign rfl rfl ⟨Nat.le_of_ble_eq_true rfl, Nat.le_of_ble_eq_true rfl⟩ rfl rfl (Nat.le_of_ble_eq_true rfl) dX4_readQuoted_38 ⟨Nat.le_of_ble_eq_true rfl, Nat.le_of_ble_eq_true rfl⟩ hl.1 (subP0 hP [] rfl) (fun r__3 hp_4 => ?_)
    replace hp_4 : ((r__3 = 1) ∨ (r__3 = 0)) := hp_4
    have ha_5 := hp_4
    clear hp_4
    rcases ha_5 with rfl | rfl
    · refine W.eq (g2 := F0 m 41 ls [.int 1]) rfl ?_
      refine lv_if_ne (tgt := 52) hx hb dX4_readQuoted_41 (by decide) (fun c_6 => ?_) (fun c_6 => absurd c_6 (by decide))
      refine lv_iload_n hx hb dX4_readQuoted_52 rfl (lv_at hl 0 rfl) ?_
      refine lv_aload_n hx hb dX4_readQuoted_53 rfl (lv_at hl 1 rfl) ?_
      refine va_get (D := D) (ci := 4) (v := .ref d) (C := RX4) (T := TX4) (N := 14) hx hb hts inlX4 hown hK hP 0 rfl rfl 1 (by decide) (hts _ mw_82) (fun _ h9 => h9) rfl dX4_readQuoted_54 ?_
      refine lv_iconst (v := 1) hx hb dX4_readQuoted_57 (by decide) ?_
      refine va_iald hx hb hK hP 3 0 rfl rfl (i := 1) (vp_k (by decide)) dX4_readQuoted_58 ?_
      obtain ⟨x_7, ex_7⟩ : ∃ y9 : Int32, dl 1 = y9 := ⟨_, rfl⟩
      refine kv (v := .int x_7) (congrArg Value.int ex_7) ?_
      refine lv_icmp_ne (tgt := 104) hx hb dX4_readQuoted_59 (by decide) (fun c_8 => ?_) (fun c_8 => ?_)
      · refine lv_aload_n hx hb dX4_readQuoted_104 rfl (lv_at hl 1 rfl) ?_
        refine va_get (D := D) (ci := 4) (v := .int (nI v7_10)) (C := RX4) (T := TX4) (N := 14) hx hb hts inlX4 hown hK hP 0 rfl rfl 7 (by decide) (hts _ mw_74) (fun _ h9 => h9) rfl dX4_readQuoted_105 ?_
        refine lv_bipush (v := 20) hx hb dX4_readQuoted_108 (by decide) ?_
        refine lv_icmp_lt (tgt := 115) hx hb dX4_readQuoted_110 (by decide) (fun c_9 => ?_) (fun c_9 => ?_)
        · have nc_9 := cv_lt (a := v7_10) (b := 20) (by omega) (by omega) c_9
          refine lv_aload_n hx hb dX4_readQuoted_115 rfl (lv_at hl 1 rfl) ?_
          refine lv_iload_n hx hb dX4_readQuoted_116 rfl (lv_at hl 0 rfl) ?_
          refine et_VN (CR := [(tp, .inr (8, [.ref tb, .int (nI L)])), (tb, .inl (κ 0, 800, .inl tf)), (d, .inl (κ 0, 6, .inl dl))]) (As := [.int x_2]) (rest := []) hFX hKK hE hP hD hS hA (c_X4_keepByte l D κ κq rd tp d ft bl v4_10 wk v7_10 fl sr cnt cl rw ca cv gwk_10 x_2 (by omega) hg10_0) 1 gV_X4_153 hdV_X4_keepByte ⟨Nat.le_of_ble_eq_true rfl, Nat.le_of_ble_eq_true rfl⟩ rfl rfl (Nat.le_of_ble_eq_true rfl) dX4_readQuoted_117 ⟨Nat.le_of_ble_eq_true rfl, Nat.le_of_ble_eq_true rfl⟩ hl.1 [0, 4] [1, 2, 3] rfl rfl (by decide) (by decide) (by decide) hP 0 4 rfl rfl rfl (fun u_12 H locs hp_13 hP hD hS => ?_)
          refine W.widen (k := 0) (n := 0) (Nat.le_refl _) (Nat.le_refl _) ?_
          obtain ⟨y__10, g__11⟩ := u_12
          replace hP : va_P D vwCl ([(rd, .inr (4, [.ref tp, .ref d, .ref ft, .ref bl, .int (nI v4_10), .int ca, .ref wk, .int (nI y__10), .ref fl, .ref sr, .int (nI cnt), cv, .ref cl, .int (nI rw)])), (tp, .inr (8, [.ref tb, .int (nI L)])), (tb, .inl (κ 0, 800, .inl tf)), (d, .inl (κ 0, 6, .inl dl)), (wk, .inl (κ 1, 20, .inl g__11))] ++ []) H := subP (C := [(tp, .inr (8, [.ref tb, .int (nI L)])), (tb, .inl (κ 0, 800, .inl tf)), (d, .inl (κ 0, 6, .inl dl)), (rd, .inr (4, [.ref tp, .ref d, .ref ft, .ref bl, .int (nI v4_10), .int ca, .ref wk, .int (nI y__10), .ref fl, .ref sr, .int (nI cnt), cv, .ref cl, .int (nI rw)])), (wk, .inl (κ 1, 20, .inl g__11))]) hP [3, 0, 1, 2, 4] rfl
          replace hD : va_D A ([(rd, .inr (4, [.ref tp, .ref d, .ref ft, .ref bl, .int (nI v4_10), .int ca, .ref wk, .int (nI y__10), .ref fl, .ref sr, .int (nI cnt), cv, .ref cl, .int (nI rw)])), (tp, .inr (8, [.ref tb, .int (nI L)])), (tb, .inl (κ 0, 800, .inl tf)), (d, .inl (κ 0, 6, .inl dl)), (wk, .inl (κ 1, 20, .inl g__11))] ++ []) := subD (C := [(tp, .inr (8, [.ref tb, .int (nI L)])), (tb, .inl (κ 0, 800, .inl tf)), (d, .inl (κ 0, 6, .inl dl)), (rd, .inr (4, [.ref tp, .ref d, .ref ft, .ref bl, .int (nI v4_10), .int ca, .ref wk, .int (nI y__10), .ref fl, .ref sr, .int (nI cnt), cv, .ref cl, .int (nI rw)])), (wk, .inl (κ 1, 20, .inl g__11))]) hD [3, 0, 1, 2, 4] (by decide) rfl
          replace hp_13 : y__10 ≤ 20 ∧ y__10 ≤ v7_10 + 1 ∧ sb_Fit g__11 := hp_13
          obtain ⟨h_14, h_15, h_16⟩ := hp_13
          refine W.eq (g2 := F0 m 120 ls []) rfl ?_
          refine lv_aload_n hx hb dX4_readQuoted_120 rfl (lv_at hl 1 rfl) ?_
          refine lv_dup hx hb dX4_readQuoted_121 rfl ?_
          refine va_get (D := D) (ci := 4) (v := .int (nI v4_10)) (C := RX4) (T := TX4) (N := 14) hx hb hts inlX4 hown hK hP 0 rfl rfl 4 (by decide) (hts _ mw_71) (fun _ h9 => h9) rfl dX4_readQuoted_122 ?_
          refine lv_iconst (v := 1) hx hb dX4_readQuoted_125 (by decide) ?_
          refine lv_iadd hx hb dX4_readQuoted_126 ?_
          refine ki (v := (nI (v4_10 + 1))) (nI_add v4_10 1) ?_
          refine va_put (D := D) (ci := 4) (v := .int (nI (v4_10 + 1))) (ty := tyX4 4) (C := RX4) (T := TX4) (N := 14) hx hb hts inlX4 tyX4 tyX4_ok nmX4 hown hK hP hD hS 0 rfl rfl 4 (by decide) (hts _ mw_71) (fun _ h9 => h9) rfl (tyX4_ok 4 (by decide)) rfl rfl (Nat.le_of_ble_eq_true rfl) dX4_readQuoted_127 (fun H locs hP hD hS => ?_)
          have hP : va_P D vwCl ([(rd, .inr (4, [.ref tp, .ref d, .ref ft, .ref bl, .int (nI (v4_10 + 1)), .int ca, .ref wk, .int (nI y__10), .ref fl, .ref sr, .int (nI cnt), cv, .ref cl, .int (nI rw)])), (tp, .inr (8, [.ref tb, .int (nI L)])), (tb, .inl (κ 0, 800, .inl tf)), (d, .inl (κ 0, 6, .inl dl)), (wk, .inl (κ 1, 20, .inl g__11))] ++ []) H := hP
          have hD : va_D A ([(rd, .inr (4, [.ref tp, .ref d, .ref ft, .ref bl, .int (nI (v4_10 + 1)), .int ca, .ref wk, .int (nI y__10), .ref fl, .ref sr, .int (nI cnt), cv, .ref cl, .int (nI rw)])), (tp, .inr (8, [.ref tb, .int (nI L)])), (tb, .inl (κ 0, 800, .inl tf)), (d, .inl (κ 0, 6, .inl dl)), (wk, .inl (κ 1, 20, .inl g__11))] ++ []) := hD
          refine lv_goto (tgt := 10) hx hb dX4_readQuoted_130 (by decide) ?_
          exact ih10 _ _ _ _ (by omega) ⟨(v4_10 + 1), y__10, g__11, (by omega), (by omega), (by omega), h_16, rfl, hP, hD, hS, lv_sub hl [1] rfl⟩
        · have nc_9 := cv_nlt (a := v7_10) (b := 20) (by omega) (by omega) c_9
          refine lv_iconst (v := 5) hx hb dX4_readQuoted_113 (by decide) ?_
          exact et_iret hx hb hr hlk rfl hS (5, v4_10, v7_10, gwk_10) rfl ⟨(show v4_10 ≤ L from (by first | assumption | omega | rfl | exact Or.inl (by assumption) | exact Or.inr (by assumption))), (show aq ≤ v4_10 from (by first | assumption | omega | rfl | exact Or.inl (by assumption) | exact Or.inr (by assumption))), (show v7_10 ≤ 20 from (by first | assumption | omega | rfl | exact Or.inl (by assumption) | exact Or.inr (by assumption))), (show sb_Fit gwk_10 from (by first | assumption | omega | rfl | exact Or.inl (by assumption) | exact Or.inr (by assumption)))⟩ (subP0 hP [0, 1, 2, 3, 4] rfl) (hD.sub [0, 1, 2, 3, 4] (by decide) rfl) (Nat.le_of_ble_eq_true rfl) (Nat.le_of_ble_eq_true rfl) dX4_readQuoted_114
      · refine lv_aload_n hx hb dX4_readQuoted_62 rfl (lv_at hl 1 rfl) ?_
        refine lv_dup hx hb dX4_readQuoted_63 rfl ?_
        refine va_get (D := D) (ci := 4) (v := .int (nI v4_10)) (C := RX4) (T := TX4) (N := 14) hx hb hts inlX4 hown hK hP 0 rfl rfl 4 (by decide) (hts _ mw_71) (fun _ h9 => h9) rfl dX4_readQuoted_64 ?_
        refine lv_iconst (v := 1) hx hb dX4_readQuoted_67 (by decide) ?_
        refine lv_iadd hx hb dX4_readQuoted_68 ?_
        refine ki (v := (nI (v4_10 + 1))) (nI_add v4_10 1) ?_
        refine va_put (D := D) (ci := 4) (v := .int (nI (v4_10 + 1))) (ty := tyX4 4) (C := RX4) (T := TX4) (N := 14) hx hb hts inlX4 tyX4 tyX4_ok nmX4 hown hK hP hD hS 0 rfl rfl 4 (by decide) (hts _ mw_71) (fun _ h9 => h9) rfl (tyX4_ok 4 (by decide)) rfl rfl (Nat.le_of_ble_eq_true rfl) dX4_readQuoted_69 (fun H locs hP hD hS => ?_)
        have hP : va_P D vwCl ([(rd, .inr (4, [.ref tp, .ref d, .ref ft, .ref bl, .int (nI (v4_10 + 1)), .int ca, .ref wk, .int (nI v7_10), .ref fl, .ref sr, .int (nI cnt), cv, .ref cl, .int (nI rw)])), (tp, .inr (8, [.ref tb, .int (nI L)])), (tb, .inl (κ 0, 800, .inl tf)), (d, .inl (κ 0, 6, .inl dl)), (wk, .inl (κ 1, 20, .inl gwk_10))] ++ []) H := hP
        have hD : va_D A ([(rd, .inr (4, [.ref tp, .ref d, .ref ft, .ref bl, .int (nI (v4_10 + 1)), .int ca, .ref wk, .int (nI v7_10), .ref fl, .ref sr, .int (nI cnt), cv, .ref cl, .int (nI rw)])), (tp, .inr (8, [.ref tb, .int (nI L)])), (tb, .inl (κ 0, 800, .inl tf)), (d, .inl (κ 0, 6, .inl dl)), (wk, .inl (κ 1, 20, .inl gwk_10))] ++ []) := hD
        refine lv_aload_n hx hb dX4_readQuoted_72 rfl (lv_at hl 1 rfl) ?_
        refine va_get (D := D) (ci := 4) (v := .int (nI (v4_10 + 1))) (C := RX4) (T := TX4) (N := 14) hx hb hts inlX4 hown hK hP 0 rfl rfl 4 (by decide) (hts _ mw_71) (fun _ h9 => h9) rfl dX4_readQuoted_73 ?_
        refine lv_aload_n hx hb dX4_readQuoted_76 rfl (lv_at hl 1 rfl) ?_
        refine va_get (D := D) (ci := 4) (v := .ref tp) (C := RX4) (T := TX4) (N := 14) hx hb hts inlX4 hown hK hP 0 rfl rfl 0 (by decide) (hts _ mw_81) (fun _ h9 => h9) rfl dX4_readQuoted_77 ?_
        refine va_get (D := D) (ci := 8) (v := .int (nI L)) (C := RX8) (T := TX8) (N := 2) hx hb hts inlX8 hown hK hP 1 rfl rfl 1 (by decide) (hts _ mw_261) (fun _ h9 => h9) rfl dX4_readQuoted_80 ?_
        refine lv_icmp_ge (tgt := 102) hx hb dX4_readQuoted_83 (by decide) (fun c_17 => ?_) (fun c_17 => ?_)
        · have nc_17 := cv_le (a := L) (b := (v4_10 + 1)) (by omega) (by omega) c_17
          refine lv_iconst (v := 0) hx hb dX4_readQuoted_102 (by decide) ?_
          exact et_iret hx hb hr hlk rfl hS (0, v4_10 + 1, v7_10, gwk_10) rfl ⟨(show (v4_10 + 1) ≤ L from (by first | assumption | omega | rfl | exact Or.inl (by assumption) | exact Or.inr (by assumption))), (show aq ≤ (v4_10 + 1) from (by first | assumption | omega | rfl | exact Or.inl (by assumption) | exact Or.inr (by assumption))), (show v7_10 ≤ 20 from (by first | assumption | omega | rfl | exact Or.inl (by assumption) | exact Or.inr (by assumption))), (show sb_Fit gwk_10 from (by first | assumption | omega | rfl | exact Or.inl (by assumption) | exact Or.inr (by assumption)))⟩ (subP0 hP [0, 1, 2, 3, 4] rfl) (hD.sub [0, 1, 2, 3, 4] (by decide) rfl) (Nat.le_of_ble_eq_true rfl) (Nat.le_of_ble_eq_true rfl) dX4_readQuoted_103
        · have nc_17 := cv_nle (a := L) (b := (v4_10 + 1)) (by omega) (by omega) c_17
          refine lv_aload_n hx hb dX4_readQuoted_86 rfl (lv_at hl 1 rfl) ?_
          refine va_get (D := D) (ci := 4) (v := .ref tp) (C := RX4) (T := TX4) (N := 14) hx hb hts inlX4 hown hK hP 0 rfl rfl 0 (by decide) (hts _ mw_81) (fun _ h9 => h9) rfl dX4_readQuoted_87 ?_
          refine va_get (D := D) (ci := 8) (v := .ref tb) (C := RX8) (T := TX8) (N := 2) hx hb hts inlX8 hown hK hP 1 rfl rfl 0 (by decide) (hts _ mw_266) (fun _ h9 => h9) rfl dX4_readQuoted_90 ?_
          refine lv_aload_n hx hb dX4_readQuoted_93 rfl (lv_at hl 1 rfl) ?_
          refine va_get (D := D) (ci := 4) (v := .int (nI (v4_10 + 1))) (C := RX4) (T := TX4) (N := 14) hx hb hts inlX4 hown hK hP 0 rfl rfl 4 (by decide) (hts _ mw_71) (fun _ h9 => h9) rfl dX4_readQuoted_94 ?_
          refine va_iald hx hb hK hP 2 0 rfl rfl (i := nI (v4_10 + 1)) (vp_in_nI (n := (v4_10 + 1)) (by omega) (by omega)) dX4_readQuoted_97 ?_
          refine kv (v := .int (tf (v4_10 + 1))) (by rw [nI_clamp (by omega)]) ?_
          obtain ⟨x_18, ex_18⟩ : ∃ y9 : Int32, tf (v4_10 + 1) = y9 := ⟨_, rfl⟩
          refine kv (v := .int x_18) (congrArg Value.int ex_18) ?_
          refine lv_iload_n hx hb dX4_readQuoted_98 rfl (lv_at hl 0 rfl) ?_
          refine lv_icmp_eq (tgt := 104) hx hb dX4_readQuoted_99 (by decide) (fun c_19 => ?_) (fun c_19 => ?_)
          · refine lv_aload_n hx hb dX4_readQuoted_104 rfl (lv_at hl 1 rfl) ?_
            refine va_get (D := D) (ci := 4) (v := .int (nI v7_10)) (C := RX4) (T := TX4) (N := 14) hx hb hts inlX4 hown hK hP 0 rfl rfl 7 (by decide) (hts _ mw_74) (fun _ h9 => h9) rfl dX4_readQuoted_105 ?_
            refine lv_bipush (v := 20) hx hb dX4_readQuoted_108 (by decide) ?_
            refine lv_icmp_lt (tgt := 115) hx hb dX4_readQuoted_110 (by decide) (fun c_20 => ?_) (fun c_20 => ?_)
            · have nc_20 := cv_lt (a := v7_10) (b := 20) (by omega) (by omega) c_20
              refine lv_aload_n hx hb dX4_readQuoted_115 rfl (lv_at hl 1 rfl) ?_
              refine lv_iload_n hx hb dX4_readQuoted_116 rfl (lv_at hl 0 rfl) ?_
              refine et_VN (CR := [(tp, .inr (8, [.ref tb, .int (nI L)])), (tb, .inl (κ 0, 800, .inl tf)), (d, .inl (κ 0, 6, .inl dl))]) (As := [.int x_2]) (rest := []) hFX hKK hE hP hD hS hA (c_X4_keepByte l D κ κq rd tp d ft bl (v4_10 + 1) wk v7_10 fl sr cnt cl rw ca cv gwk_10 x_2 (by omega) hg10_0) 1 gV_X4_153 hdV_X4_keepByte ⟨Nat.le_of_ble_eq_true rfl, Nat.le_of_ble_eq_true rfl⟩ rfl rfl (Nat.le_of_ble_eq_true rfl) dX4_readQuoted_117 ⟨Nat.le_of_ble_eq_true rfl, Nat.le_of_ble_eq_true rfl⟩ hl.1 [0, 4] [1, 2, 3] rfl rfl (by decide) (by decide) (by decide) hP 0 4 rfl rfl rfl (fun u_23 H locs hp_24 hP hD hS => ?_)
              refine W.widen (k := 0) (n := 0) (Nat.le_refl _) (Nat.le_refl _) ?_
              obtain ⟨y__21, g__22⟩ := u_23
              replace hP : va_P D vwCl ([(rd, .inr (4, [.ref tp, .ref d, .ref ft, .ref bl, .int (nI (v4_10 + 1)), .int ca, .ref wk, .int (nI y__21), .ref fl, .ref sr, .int (nI cnt), cv, .ref cl, .int (nI rw)])), (tp, .inr (8, [.ref tb, .int (nI L)])), (tb, .inl (κ 0, 800, .inl tf)), (d, .inl (κ 0, 6, .inl dl)), (wk, .inl (κ 1, 20, .inl g__22))] ++ []) H := subP (C := [(tp, .inr (8, [.ref tb, .int (nI L)])), (tb, .inl (κ 0, 800, .inl tf)), (d, .inl (κ 0, 6, .inl dl)), (rd, .inr (4, [.ref tp, .ref d, .ref ft, .ref bl, .int (nI (v4_10 + 1)), .int ca, .ref wk, .int (nI y__21), .ref fl, .ref sr, .int (nI cnt), cv, .ref cl, .int (nI rw)])), (wk, .inl (κ 1, 20, .inl g__22))]) hP [3, 0, 1, 2, 4] rfl
              replace hD : va_D A ([(rd, .inr (4, [.ref tp, .ref d, .ref ft, .ref bl, .int (nI (v4_10 + 1)), .int ca, .ref wk, .int (nI y__21), .ref fl, .ref sr, .int (nI cnt), cv, .ref cl, .int (nI rw)])), (tp, .inr (8, [.ref tb, .int (nI L)])), (tb, .inl (κ 0, 800, .inl tf)), (d, .inl (κ 0, 6, .inl dl)), (wk, .inl (κ 1, 20, .inl g__22))] ++ []) := subD (C := [(tp, .inr (8, [.ref tb, .int (nI L)])), (tb, .inl (κ 0, 800, .inl tf)), (d, .inl (κ 0, 6, .inl dl)), (rd, .inr (4, [.ref tp, .ref d, .ref ft, .ref bl, .int (nI (v4_10 + 1)), .int ca, .ref wk, .int (nI y__21), .ref fl, .ref sr, .int (nI cnt), cv, .ref cl, .int (nI rw)])), (wk, .inl (κ 1, 20, .inl g__22))]) hD [3, 0, 1, 2, 4] (by decide) rfl
              replace hp_24 : y__21 ≤ 20 ∧ y__21 ≤ v7_10 + 1 ∧ sb_Fit g__22 := hp_24
              obtain ⟨h_25, h_26, h_27⟩ := hp_24
              refine W.eq (g2 := F0 m 120 ls []) rfl ?_
              refine lv_aload_n hx hb dX4_readQuoted_120 rfl (lv_at hl 1 rfl) ?_
              refine lv_dup hx hb dX4_readQuoted_121 rfl ?_
              refine va_get (D := D) (ci := 4) (v := .int (nI (v4_10 + 1))) (C := RX4) (T := TX4) (N := 14) hx hb hts inlX4 hown hK hP 0 rfl rfl 4 (by decide) (hts _ mw_71) (fun _ h9 => h9) rfl dX4_readQuoted_122 ?_
              refine lv_iconst (v := 1) hx hb dX4_readQuoted_125 (by decide) ?_
              refine lv_iadd hx hb dX4_readQuoted_126 ?_
              refine ki (v := (nI (v4_10 + 1 + 1))) (nI_add (v4_10 + 1) 1) ?_
              refine va_put (D := D) (ci := 4) (v := .int (nI (v4_10 + 1 + 1))) (ty := tyX4 4) (C := RX4) (T := TX4) (N := 14) hx hb hts inlX4 tyX4 tyX4_ok nmX4 hown hK hP hD hS 0 rfl rfl 4 (by decide) (hts _ mw_71) (fun _ h9 => h9) rfl (tyX4_ok 4 (by decide)) rfl rfl (Nat.le_of_ble_eq_true rfl) dX4_readQuoted_127 (fun H locs hP hD hS => ?_)
              have hP : va_P D vwCl ([(rd, .inr (4, [.ref tp, .ref d, .ref ft, .ref bl, .int (nI (v4_10 + 1 + 1)), .int ca, .ref wk, .int (nI y__21), .ref fl, .ref sr, .int (nI cnt), cv, .ref cl, .int (nI rw)])), (tp, .inr (8, [.ref tb, .int (nI L)])), (tb, .inl (κ 0, 800, .inl tf)), (d, .inl (κ 0, 6, .inl dl)), (wk, .inl (κ 1, 20, .inl g__22))] ++ []) H := hP
              have hD : va_D A ([(rd, .inr (4, [.ref tp, .ref d, .ref ft, .ref bl, .int (nI (v4_10 + 1 + 1)), .int ca, .ref wk, .int (nI y__21), .ref fl, .ref sr, .int (nI cnt), cv, .ref cl, .int (nI rw)])), (tp, .inr (8, [.ref tb, .int (nI L)])), (tb, .inl (κ 0, 800, .inl tf)), (d, .inl (κ 0, 6, .inl dl)), (wk, .inl (κ 1, 20, .inl g__22))] ++ []) := hD
              refine lv_goto (tgt := 10) hx hb dX4_readQuoted_130 (by decide) ?_
              exact ih10 _ _ _ _ (by omega) ⟨(v4_10 + 1 + 1), y__21, g__22, (by omega), (by omega), (by omega), h_27, rfl, hP, hD, hS, lv_sub hl [1] rfl⟩
            · have nc_20 := cv_nlt (a := v7_10) (b := 20) (by omega) (by omega) c_20
              refine lv_iconst (v := 5) hx hb dX4_readQuoted_113 (by decide) ?_
              exact et_iret hx hb hr hlk rfl hS (5, v4_10 + 1, v7_10, gwk_10) rfl ⟨(show (v4_10 + 1) ≤ L from (by first | assumption | omega | rfl | exact Or.inl (by assumption) | exact Or.inr (by assumption))), (show aq ≤ (v4_10 + 1) from (by first | assumption | omega | rfl | exact Or.inl (by assumption) | exact Or.inr (by assumption))), (show v7_10 ≤ 20 from (by first | assumption | omega | rfl | exact Or.inl (by assumption) | exact Or.inr (by assumption))), (show sb_Fit gwk_10 from (by first | assumption | omega | rfl | exact Or.inl (by assumption) | exact Or.inr (by assumption)))⟩ (subP0 hP [0, 1, 2, 3, 4] rfl) (hD.sub [0, 1, 2, 3, 4] (by decide) rfl) (Nat.le_of_ble_eq_true rfl) (Nat.le_of_ble_eq_true rfl) dX4_readQuoted_114
          · refine lv_iconst (v := 0) hx hb dX4_readQuoted_102 (by decide) ?_
            exact et_iret hx hb hr hlk rfl hS (0, v4_10 + 1, v7_10, gwk_10) rfl ⟨(show (v4_10 + 1) ≤ L from (by first | assumption | omega | rfl | exact Or.inl (by assumption) | exact Or.inr (by assumption))), (show aq ≤ (v4_10 + 1) from (by first | assumption | omega | rfl | exact Or.inl (by assumption) | exact Or.inr (by assumption))), (show v7_10 ≤ 20 from (by first | assumption | omega | rfl | exact Or.inl (by assumption) | exact Or.inr (by assumption))), (show sb_Fit gwk_10 from (by first | assumption | omega | rfl | exact Or.inl (by assumption) | exact Or.inr (by assumption)))⟩ (subP0 hP [0, 1, 2, 3, 4] rfl) (hD.sub [0, 1, 2, 3, 4] (by decide) rfl) (Nat.le_of_ble_eq_true rfl) (Nat.le_of_ble_eq_true rfl) dX4_readQuoted_103
    · refine W.eq (g2 := F0 m 41 ls [.int 0]) rfl ?_
      refine lv_if_ne (tgt := 52) hx hb dX4_readQuoted_41 (by decide) (fun c_28 => absurd c_28 (by decide)) (fun c_28 => ?_)
      refine lv_iload_n hx hb dX4_readQuoted_44 rfl (lv_at hl 0 rfl) ?_
      refine lv_bipush (v := 10) hx hb dX4_readQuoted_45 (by decide) ?_
      refine lv_icmp_eq (tgt := 52) hx hb dX4_readQuoted_47 (by decide) (fun c_29 => ?_) (fun c_29 => ?_)
      · refine lv_iload_n hx hb dX4_readQuoted_52 rfl (lv_at hl 0 rfl) ?_
        refine lv_aload_n hx hb dX4_readQuoted_53 rfl (lv_at hl 1 rfl) ?_
        refine va_get (D := D) (ci := 4) (v := .ref d) (C := RX4) (T := TX4) (N := 14) hx hb hts inlX4 hown hK hP 0 rfl rfl 1 (by decide) (hts _ mw_82) (fun _ h9 => h9) rfl dX4_readQuoted_54 ?_
        refine lv_iconst (v := 1) hx hb dX4_readQuoted_57 (by decide) ?_
        refine va_iald hx hb hK hP 3 0 rfl rfl (i := 1) (vp_k (by decide)) dX4_readQuoted_58 ?_
        obtain ⟨x_30, ex_30⟩ : ∃ y9 : Int32, dl 1 = y9 := ⟨_, rfl⟩
        refine kv (v := .int x_30) (congrArg Value.int ex_30) ?_
        refine lv_icmp_ne (tgt := 104) hx hb dX4_readQuoted_59 (by decide) (fun c_31 => ?_) (fun c_31 => ?_)
        · refine lv_aload_n hx hb dX4_readQuoted_104 rfl (lv_at hl 1 rfl) ?_
          refine va_get (D := D) (ci := 4) (v := .int (nI v7_10)) (C := RX4) (T := TX4) (N := 14) hx hb hts inlX4 hown hK hP 0 rfl rfl 7 (by decide) (hts _ mw_74) (fun _ h9 => h9) rfl dX4_readQuoted_105 ?_
          refine lv_bipush (v := 20) hx hb dX4_readQuoted_108 (by decide) ?_
          refine lv_icmp_lt (tgt := 115) hx hb dX4_readQuoted_110 (by decide) (fun c_32 => ?_) (fun c_32 => ?_)
          · have nc_32 := cv_lt (a := v7_10) (b := 20) (by omega) (by omega) c_32
            refine lv_aload_n hx hb dX4_readQuoted_115 rfl (lv_at hl 1 rfl) ?_
            refine lv_iload_n hx hb dX4_readQuoted_116 rfl (lv_at hl 0 rfl) ?_
            refine et_VN (CR := [(tp, .inr (8, [.ref tb, .int (nI L)])), (tb, .inl (κ 0, 800, .inl tf)), (d, .inl (κ 0, 6, .inl dl))]) (As := [.int x_2]) (rest := []) hFX hKK hE hP hD hS hA (c_X4_keepByte l D κ κq rd tp d ft bl v4_10 wk v7_10 fl sr cnt cl rw ca cv gwk_10 x_2 (by omega) hg10_0) 1 gV_X4_153 hdV_X4_keepByte ⟨Nat.le_of_ble_eq_true rfl, Nat.le_of_ble_eq_true rfl⟩ rfl rfl (Nat.le_of_ble_eq_true rfl) dX4_readQuoted_117 ⟨Nat.le_of_ble_eq_true rfl, Nat.le_of_ble_eq_true rfl⟩ hl.1 [0, 4] [1, 2, 3] rfl rfl (by decide) (by decide) (by decide) hP 0 4 rfl rfl rfl (fun u_35 H locs hp_36 hP hD hS => ?_)
            refine W.widen (k := 0) (n := 0) (Nat.le_refl _) (Nat.le_refl _) ?_
            obtain ⟨y__33, g__34⟩ := u_35
            replace hP : va_P D vwCl ([(rd, .inr (4, [.ref tp, .ref d, .ref ft, .ref bl, .int (nI v4_10), .int ca, .ref wk, .int (nI y__33), .ref fl, .ref sr, .int (nI cnt), cv, .ref cl, .int (nI rw)])), (tp, .inr (8, [.ref tb, .int (nI L)])), (tb, .inl (κ 0, 800, .inl tf)), (d, .inl (κ 0, 6, .inl dl)), (wk, .inl (κ 1, 20, .inl g__34))] ++ []) H := subP (C := [(tp, .inr (8, [.ref tb, .int (nI L)])), (tb, .inl (κ 0, 800, .inl tf)), (d, .inl (κ 0, 6, .inl dl)), (rd, .inr (4, [.ref tp, .ref d, .ref ft, .ref bl, .int (nI v4_10), .int ca, .ref wk, .int (nI y__33), .ref fl, .ref sr, .int (nI cnt), cv, .ref cl, .int (nI rw)])), (wk, .inl (κ 1, 20, .inl g__34))]) hP [3, 0, 1, 2, 4] rfl
            replace hD : va_D A ([(rd, .inr (4, [.ref tp, .ref d, .ref ft, .ref bl, .int (nI v4_10), .int ca, .ref wk, .int (nI y__33), .ref fl, .ref sr, .int (nI cnt), cv, .ref cl, .int (nI rw)])), (tp, .inr (8, [.ref tb, .int (nI L)])), (tb, .inl (κ 0, 800, .inl tf)), (d, .inl (κ 0, 6, .inl dl)), (wk, .inl (κ 1, 20, .inl g__34))] ++ []) := subD (C := [(tp, .inr (8, [.ref tb, .int (nI L)])), (tb, .inl (κ 0, 800, .inl tf)), (d, .inl (κ 0, 6, .inl dl)), (rd, .inr (4, [.ref tp, .ref d, .ref ft, .ref bl, .int (nI v4_10), .int ca, .ref wk, .int (nI y__33), .ref fl, .ref sr, .int (nI cnt), cv, .ref cl, .int (nI rw)])), (wk, .inl (κ 1, 20, .inl g__34))]) hD [3, 0, 1, 2, 4] (by decide) rfl
            replace hp_36 : y__33 ≤ 20 ∧ y__33 ≤ v7_10 + 1 ∧ sb_Fit g__34 := hp_36
            obtain ⟨h_37, h_38, h_39⟩ := hp_36
            refine W.eq (g2 := F0 m 120 ls []) rfl ?_
            refine lv_aload_n hx hb dX4_readQuoted_120 rfl (lv_at hl 1 rfl) ?_
            refine lv_dup hx hb dX4_readQuoted_121 rfl ?_
            refine va_get (D := D) (ci := 4) (v := .int (nI v4_10)) (C := RX4) (T := TX4) (N := 14) hx hb hts inlX4 hown hK hP 0 rfl rfl 4 (by decide) (hts _ mw_71) (fun _ h9 => h9) rfl dX4_readQuoted_122 ?_
            refine lv_iconst (v := 1) hx hb dX4_readQuoted_125 (by decide) ?_
            refine lv_iadd hx hb dX4_readQuoted_126 ?_
            refine ki (v := (nI (v4_10 + 1))) (nI_add v4_10 1) ?_
            refine va_put (D := D) (ci := 4) (v := .int (nI (v4_10 + 1))) (ty := tyX4 4) (C := RX4) (T := TX4) (N := 14) hx hb hts inlX4 tyX4 tyX4_ok nmX4 hown hK hP hD hS 0 rfl rfl 4 (by decide) (hts _ mw_71) (fun _ h9 => h9) rfl (tyX4_ok 4 (by decide)) rfl rfl (Nat.le_of_ble_eq_true rfl) dX4_readQuoted_127 (fun H locs hP hD hS => ?_)
            have hP : va_P D vwCl ([(rd, .inr (4, [.ref tp, .ref d, .ref ft, .ref bl, .int (nI (v4_10 + 1)), .int ca, .ref wk, .int (nI y__33), .ref fl, .ref sr, .int (nI cnt), cv, .ref cl, .int (nI rw)])), (tp, .inr (8, [.ref tb, .int (nI L)])), (tb, .inl (κ 0, 800, .inl tf)), (d, .inl (κ 0, 6, .inl dl)), (wk, .inl (κ 1, 20, .inl g__34))] ++ []) H := hP
            have hD : va_D A ([(rd, .inr (4, [.ref tp, .ref d, .ref ft, .ref bl, .int (nI (v4_10 + 1)), .int ca, .ref wk, .int (nI y__33), .ref fl, .ref sr, .int (nI cnt), cv, .ref cl, .int (nI rw)])), (tp, .inr (8, [.ref tb, .int (nI L)])), (tb, .inl (κ 0, 800, .inl tf)), (d, .inl (κ 0, 6, .inl dl)), (wk, .inl (κ 1, 20, .inl g__34))] ++ []) := hD
            refine lv_goto (tgt := 10) hx hb dX4_readQuoted_130 (by decide) ?_
            exact ih10 _ _ _ _ (by omega) ⟨(v4_10 + 1), y__33, g__34, (by omega), (by omega), (by omega), h_39, rfl, hP, hD, hS, lv_sub hl [1] rfl⟩
          · have nc_32 := cv_nlt (a := v7_10) (b := 20) (by omega) (by omega) c_32
            refine lv_iconst (v := 5) hx hb dX4_readQuoted_113 (by decide) ?_
            exact et_iret hx hb hr hlk rfl hS (5, v4_10, v7_10, gwk_10) rfl ⟨(show v4_10 ≤ L from (by first | assumption | omega | rfl | exact Or.inl (by assumption) | exact Or.inr (by assumption))), (show aq ≤ v4_10 from (by first | assumption | omega | rfl | exact Or.inl (by assumption) | exact Or.inr (by assumption))), (show v7_10 ≤ 20 from (by first | assumption | omega | rfl | exact Or.inl (by assumption) | exact Or.inr (by assumption))), (show sb_Fit gwk_10 from (by first | assumption | omega | rfl | exact Or.inl (by assumption) | exact Or.inr (by assumption)))⟩ (subP0 hP [0, 1, 2, 3, 4] rfl) (hD.sub [0, 1, 2, 3, 4] (by decide) rfl) (Nat.le_of_ble_eq_true rfl) (Nat.le_of_ble_eq_true rfl) dX4_readQuoted_114
        · refine lv_aload_n hx hb dX4_readQuoted_62 rfl (lv_at hl 1 rfl) ?_
          refine lv_dup hx hb dX4_readQuoted_63 rfl ?_
          refine va_get (D := D) (ci := 4) (v := .int (nI v4_10)) (C := RX4) (T := TX4) (N := 14) hx hb hts inlX4 hown hK hP 0 rfl rfl 4 (by decide) (hts _ mw_71) (fun _ h9 => h9) rfl dX4_readQuoted_64 ?_
          refine lv_iconst (v := 1) hx hb dX4_readQuoted_67 (by decide) ?_
          refine lv_iadd hx hb dX4_readQuoted_68 ?_
          refine ki (v := (nI (v4_10 + 1))) (nI_add v4_10 1) ?_
          refine va_put (D := D) (ci := 4) (v := .int (nI (v4_10 + 1))) (ty := tyX4 4) (C := RX4) (T := TX4) (N := 14) hx hb hts inlX4 tyX4 tyX4_ok nmX4 hown hK hP hD hS 0 rfl rfl 4 (by decide) (hts _ mw_71) (fun _ h9 => h9) rfl (tyX4_ok 4 (by decide)) rfl rfl (Nat.le_of_ble_eq_true rfl) dX4_readQuoted_69 (fun H locs hP hD hS => ?_)
          have hP : va_P D vwCl ([(rd, .inr (4, [.ref tp, .ref d, .ref ft, .ref bl, .int (nI (v4_10 + 1)), .int ca, .ref wk, .int (nI v7_10), .ref fl, .ref sr, .int (nI cnt), cv, .ref cl, .int (nI rw)])), (tp, .inr (8, [.ref tb, .int (nI L)])), (tb, .inl (κ 0, 800, .inl tf)), (d, .inl (κ 0, 6, .inl dl)), (wk, .inl (κ 1, 20, .inl gwk_10))] ++ []) H := hP
          have hD : va_D A ([(rd, .inr (4, [.ref tp, .ref d, .ref ft, .ref bl, .int (nI (v4_10 + 1)), .int ca, .ref wk, .int (nI v7_10), .ref fl, .ref sr, .int (nI cnt), cv, .ref cl, .int (nI rw)])), (tp, .inr (8, [.ref tb, .int (nI L)])), (tb, .inl (κ 0, 800, .inl tf)), (d, .inl (κ 0, 6, .inl dl)), (wk, .inl (κ 1, 20, .inl gwk_10))] ++ []) := hD
          refine lv_aload_n hx hb dX4_readQuoted_72 rfl (lv_at hl 1 rfl) ?_
          refine va_get (D := D) (ci := 4) (v := .int (nI (v4_10 + 1))) (C := RX4) (T := TX4) (N := 14) hx hb hts inlX4 hown hK hP 0 rfl rfl 4 (by decide) (hts _ mw_71) (fun _ h9 => h9) rfl dX4_readQuoted_73 ?_
          refine lv_aload_n hx hb dX4_readQuoted_76 rfl (lv_at hl 1 rfl) ?_
          refine va_get (D := D) (ci := 4) (v := .ref tp) (C := RX4) (T := TX4) (N := 14) hx hb hts inlX4 hown hK hP 0 rfl rfl 0 (by decide) (hts _ mw_81) (fun _ h9 => h9) rfl dX4_readQuoted_77 ?_
          refine va_get (D := D) (ci := 8) (v := .int (nI L)) (C := RX8) (T := TX8) (N := 2) hx hb hts inlX8 hown hK hP 1 rfl rfl 1 (by decide) (hts _ mw_261) (fun _ h9 => h9) rfl dX4_readQuoted_80 ?_
          refine lv_icmp_ge (tgt := 102) hx hb dX4_readQuoted_83 (by decide) (fun c_40 => ?_) (fun c_40 => ?_)
          · have nc_40 := cv_le (a := L) (b := (v4_10 + 1)) (by omega) (by omega) c_40
            refine lv_iconst (v := 0) hx hb dX4_readQuoted_102 (by decide) ?_
            exact et_iret hx hb hr hlk rfl hS (0, v4_10 + 1, v7_10, gwk_10) rfl ⟨(show (v4_10 + 1) ≤ L from (by first | assumption | omega | rfl | exact Or.inl (by assumption) | exact Or.inr (by assumption))), (show aq ≤ (v4_10 + 1) from (by first | assumption | omega | rfl | exact Or.inl (by assumption) | exact Or.inr (by assumption))), (show v7_10 ≤ 20 from (by first | assumption | omega | rfl | exact Or.inl (by assumption) | exact Or.inr (by assumption))), (show sb_Fit gwk_10 from (by first | assumption | omega | rfl | exact Or.inl (by assumption) | exact Or.inr (by assumption)))⟩ (subP0 hP [0, 1, 2, 3, 4] rfl) (hD.sub [0, 1, 2, 3, 4] (by decide) rfl) (Nat.le_of_ble_eq_true rfl) (Nat.le_of_ble_eq_true rfl) dX4_readQuoted_103
          · have nc_40 := cv_nle (a := L) (b := (v4_10 + 1)) (by omega) (by omega) c_40
            refine lv_aload_n hx hb dX4_readQuoted_86 rfl (lv_at hl 1 rfl) ?_
            refine va_get (D := D) (ci := 4) (v := .ref tp) (C := RX4) (T := TX4) (N := 14) hx hb hts inlX4 hown hK hP 0 rfl rfl 0 (by decide) (hts _ mw_81) (fun _ h9 => h9) rfl dX4_readQuoted_87 ?_
            refine va_get (D := D) (ci := 8) (v := .ref tb) (C := RX8) (T := TX8) (N := 2) hx hb hts inlX8 hown hK hP 1 rfl rfl 0 (by decide) (hts _ mw_266) (fun _ h9 => h9) rfl dX4_readQuoted_90 ?_
            refine lv_aload_n hx hb dX4_readQuoted_93 rfl (lv_at hl 1 rfl) ?_
            refine va_get (D := D) (ci := 4) (v := .int (nI (v4_10 + 1))) (C := RX4) (T := TX4) (N := 14) hx hb hts inlX4 hown hK hP 0 rfl rfl 4 (by decide) (hts _ mw_71) (fun _ h9 => h9) rfl dX4_readQuoted_94 ?_
            refine va_iald hx hb hK hP 2 0 rfl rfl (i := nI (v4_10 + 1)) (vp_in_nI (n := (v4_10 + 1)) (by omega) (by omega)) dX4_readQuoted_97 ?_
            refine kv (v := .int (tf (v4_10 + 1))) (by rw [nI_clamp (by omega)]) ?_
            obtain ⟨x_41, ex_41⟩ : ∃ y9 : Int32, tf (v4_10 + 1) = y9 := ⟨_, rfl⟩
            refine kv (v := .int x_41) (congrArg Value.int ex_41) ?_
            refine lv_iload_n hx hb dX4_readQuoted_98 rfl (lv_at hl 0 rfl) ?_
            refine lv_icmp_eq (tgt := 104) hx hb dX4_readQuoted_99 (by decide) (fun c_42 => ?_) (fun c_42 => ?_)
            · refine lv_aload_n hx hb dX4_readQuoted_104 rfl (lv_at hl 1 rfl) ?_
              refine va_get (D := D) (ci := 4) (v := .int (nI v7_10)) (C := RX4) (T := TX4) (N := 14) hx hb hts inlX4 hown hK hP 0 rfl rfl 7 (by decide) (hts _ mw_74) (fun _ h9 => h9) rfl dX4_readQuoted_105 ?_
              refine lv_bipush (v := 20) hx hb dX4_readQuoted_108 (by decide) ?_
              refine lv_icmp_lt (tgt := 115) hx hb dX4_readQuoted_110 (by decide) (fun c_43 => ?_) (fun c_43 => ?_)
              · have nc_43 := cv_lt (a := v7_10) (b := 20) (by omega) (by omega) c_43
                refine lv_aload_n hx hb dX4_readQuoted_115 rfl (lv_at hl 1 rfl) ?_
                refine lv_iload_n hx hb dX4_readQuoted_116 rfl (lv_at hl 0 rfl) ?_
                refine et_VN (CR := [(tp, .inr (8, [.ref tb, .int (nI L)])), (tb, .inl (κ 0, 800, .inl tf)), (d, .inl (κ 0, 6, .inl dl))]) (As := [.int x_2]) (rest := []) hFX hKK hE hP hD hS hA (c_X4_keepByte l D κ κq rd tp d ft bl (v4_10 + 1) wk v7_10 fl sr cnt cl rw ca cv gwk_10 x_2 (by omega) hg10_0) 1 gV_X4_153 hdV_X4_keepByte ⟨Nat.le_of_ble_eq_true rfl, Nat.le_of_ble_eq_true rfl⟩ rfl rfl (Nat.le_of_ble_eq_true rfl) dX4_readQuoted_117 ⟨Nat.le_of_ble_eq_true rfl, Nat.le_of_ble_eq_true rfl⟩ hl.1 [0, 4] [1, 2, 3] rfl rfl (by decide) (by decide) (by decide) hP 0 4 rfl rfl rfl (fun u_46 H locs hp_47 hP hD hS => ?_)
                refine W.widen (k := 0) (n := 0) (Nat.le_refl _) (Nat.le_refl _) ?_
                obtain ⟨y__44, g__45⟩ := u_46
                replace hP : va_P D vwCl ([(rd, .inr (4, [.ref tp, .ref d, .ref ft, .ref bl, .int (nI (v4_10 + 1)), .int ca, .ref wk, .int (nI y__44), .ref fl, .ref sr, .int (nI cnt), cv, .ref cl, .int (nI rw)])), (tp, .inr (8, [.ref tb, .int (nI L)])), (tb, .inl (κ 0, 800, .inl tf)), (d, .inl (κ 0, 6, .inl dl)), (wk, .inl (κ 1, 20, .inl g__45))] ++ []) H := subP (C := [(tp, .inr (8, [.ref tb, .int (nI L)])), (tb, .inl (κ 0, 800, .inl tf)), (d, .inl (κ 0, 6, .inl dl)), (rd, .inr (4, [.ref tp, .ref d, .ref ft, .ref bl, .int (nI (v4_10 + 1)), .int ca, .ref wk, .int (nI y__44), .ref fl, .ref sr, .int (nI cnt), cv, .ref cl, .int (nI rw)])), (wk, .inl (κ 1, 20, .inl g__45))]) hP [3, 0, 1, 2, 4] rfl
                replace hD : va_D A ([(rd, .inr (4, [.ref tp, .ref d, .ref ft, .ref bl, .int (nI (v4_10 + 1)), .int ca, .ref wk, .int (nI y__44), .ref fl, .ref sr, .int (nI cnt), cv, .ref cl, .int (nI rw)])), (tp, .inr (8, [.ref tb, .int (nI L)])), (tb, .inl (κ 0, 800, .inl tf)), (d, .inl (κ 0, 6, .inl dl)), (wk, .inl (κ 1, 20, .inl g__45))] ++ []) := subD (C := [(tp, .inr (8, [.ref tb, .int (nI L)])), (tb, .inl (κ 0, 800, .inl tf)), (d, .inl (κ 0, 6, .inl dl)), (rd, .inr (4, [.ref tp, .ref d, .ref ft, .ref bl, .int (nI (v4_10 + 1)), .int ca, .ref wk, .int (nI y__44), .ref fl, .ref sr, .int (nI cnt), cv, .ref cl, .int (nI rw)])), (wk, .inl (κ 1, 20, .inl g__45))]) hD [3, 0, 1, 2, 4] (by decide) rfl
                replace hp_47 : y__44 ≤ 20 ∧ y__44 ≤ v7_10 + 1 ∧ sb_Fit g__45 := hp_47
                obtain ⟨h_48, h_49, h_50⟩ := hp_47
                refine W.eq (g2 := F0 m 120 ls []) rfl ?_
                refine lv_aload_n hx hb dX4_readQuoted_120 rfl (lv_at hl 1 rfl) ?_
                refine lv_dup hx hb dX4_readQuoted_121 rfl ?_
                refine va_get (D := D) (ci := 4) (v := .int (nI (v4_10 + 1))) (C := RX4) (T := TX4) (N := 14) hx hb hts inlX4 hown hK hP 0 rfl rfl 4 (by decide) (hts _ mw_71) (fun _ h9 => h9) rfl dX4_readQuoted_122 ?_
                refine lv_iconst (v := 1) hx hb dX4_readQuoted_125 (by decide) ?_
                refine lv_iadd hx hb dX4_readQuoted_126 ?_
                refine ki (v := (nI (v4_10 + 1 + 1))) (nI_add (v4_10 + 1) 1) ?_
                refine va_put (D := D) (ci := 4) (v := .int (nI (v4_10 + 1 + 1))) (ty := tyX4 4) (C := RX4) (T := TX4) (N := 14) hx hb hts inlX4 tyX4 tyX4_ok nmX4 hown hK hP hD hS 0 rfl rfl 4 (by decide) (hts _ mw_71) (fun _ h9 => h9) rfl (tyX4_ok 4 (by decide)) rfl rfl (Nat.le_of_ble_eq_true rfl) dX4_readQuoted_127 (fun H locs hP hD hS => ?_)
                have hP : va_P D vwCl ([(rd, .inr (4, [.ref tp, .ref d, .ref ft, .ref bl, .int (nI (v4_10 + 1 + 1)), .int ca, .ref wk, .int (nI y__44), .ref fl, .ref sr, .int (nI cnt), cv, .ref cl, .int (nI rw)])), (tp, .inr (8, [.ref tb, .int (nI L)])), (tb, .inl (κ 0, 800, .inl tf)), (d, .inl (κ 0, 6, .inl dl)), (wk, .inl (κ 1, 20, .inl g__45))] ++ []) H := hP
                have hD : va_D A ([(rd, .inr (4, [.ref tp, .ref d, .ref ft, .ref bl, .int (nI (v4_10 + 1 + 1)), .int ca, .ref wk, .int (nI y__44), .ref fl, .ref sr, .int (nI cnt), cv, .ref cl, .int (nI rw)])), (tp, .inr (8, [.ref tb, .int (nI L)])), (tb, .inl (κ 0, 800, .inl tf)), (d, .inl (κ 0, 6, .inl dl)), (wk, .inl (κ 1, 20, .inl g__45))] ++ []) := hD
                refine lv_goto (tgt := 10) hx hb dX4_readQuoted_130 (by decide) ?_
                exact ih10 _ _ _ _ (by omega) ⟨(v4_10 + 1 + 1), y__44, g__45, (by omega), (by omega), (by omega), h_50, rfl, hP, hD, hS, lv_sub hl [1] rfl⟩
              · have nc_43 := cv_nlt (a := v7_10) (b := 20) (by omega) (by omega) c_43
                refine lv_iconst (v := 5) hx hb dX4_readQuoted_113 (by decide) ?_
                exact et_iret hx hb hr hlk rfl hS (5, v4_10 + 1, v7_10, gwk_10) rfl ⟨(show (v4_10 + 1) ≤ L from (by first | assumption | omega | rfl | exact Or.inl (by assumption) | exact Or.inr (by assumption))), (show aq ≤ (v4_10 + 1) from (by first | assumption | omega | rfl | exact Or.inl (by assumption) | exact Or.inr (by assumption))), (show v7_10 ≤ 20 from (by first | assumption | omega | rfl | exact Or.inl (by assumption) | exact Or.inr (by assumption))), (show sb_Fit gwk_10 from (by first | assumption | omega | rfl | exact Or.inl (by assumption) | exact Or.inr (by assumption)))⟩ (subP0 hP [0, 1, 2, 3, 4] rfl) (hD.sub [0, 1, 2, 3, 4] (by decide) rfl) (Nat.le_of_ble_eq_true rfl) (Nat.le_of_ble_eq_true rfl) dX4_readQuoted_114
            · refine lv_iconst (v := 0) hx hb dX4_readQuoted_102 (by decide) ?_
              exact et_iret hx hb hr hlk rfl hS (0, v4_10 + 1, v7_10, gwk_10) rfl ⟨(show (v4_10 + 1) ≤ L from (by first | assumption | omega | rfl | exact Or.inl (by assumption) | exact Or.inr (by assumption))), (show aq ≤ (v4_10 + 1) from (by first | assumption | omega | rfl | exact Or.inl (by assumption) | exact Or.inr (by assumption))), (show v7_10 ≤ 20 from (by first | assumption | omega | rfl | exact Or.inl (by assumption) | exact Or.inr (by assumption))), (show sb_Fit gwk_10 from (by first | assumption | omega | rfl | exact Or.inl (by assumption) | exact Or.inr (by assumption)))⟩ (subP0 hP [0, 1, 2, 3, 4] rfl) (hD.sub [0, 1, 2, 3, 4] (by decide) rfl) (Nat.le_of_ble_eq_true rfl) (Nat.le_of_ble_eq_true rfl) dX4_readQuoted_103
      · refine lv_iconst (v := 1) hx hb dX4_readQuoted_50 (by decide) ?_
        exact et_iret hx hb hr hlk rfl hS (1, v4_10, v7_10, gwk_10) rfl ⟨(show v4_10 ≤ L from (by first | assumption | omega | rfl | exact Or.inl (by assumption) | exact Or.inr (by assumption))), (show aq ≤ v4_10 from (by first | assumption | omega | rfl | exact Or.inl (by assumption) | exact Or.inr (by assumption))), (show v7_10 ≤ 20 from (by first | assumption | omega | rfl | exact Or.inl (by assumption) | exact Or.inr (by assumption))), (show sb_Fit gwk_10 from (by first | assumption | omega | rfl | exact Or.inl (by assumption) | exact Or.inr (by assumption)))⟩ (subP0 hP [0, 1, 2, 3, 4] rfl) (hD.sub [0, 1, 2, 3, 4] (by decide) rfl) (Nat.le_of_ble_eq_true rfl) (Nat.le_of_ble_eq_true rfl) dX4_readQuoted_51
set_option maxHeartbeats 4000000 in
set_option maxRecDepth 100000 in
theorem c_X4_checkBehindQuote (l : Launch) (D : va_G) (κ : Nat → ClassId) (κq : Nat → Nat) (rd : Nat) (tp : Nat) (d : Nat) (ft : Nat) (bl : Nat) (aq : Nat) (wk : Nat) (sz : Nat) (fl : Nat) (sr : Nat) (cnt : Nat) (cl : Nat) (rw : Nat) (ca : Int32) (cv : Value) (tb : Nat) (L : Nat) (tf : Nat → Int32) (dl : Nat → Int32) (hL8 : L ≤ 800) (hat : aq ≤ L) : Et l yX4_checkBehindQuote (wl yX4_checkBehindQuote cX4_checkBehindQuote 2 (some .int)) { frames := 1, cells := 0, slots := 0, locals := 20 } D κ κq [.ref rd] [(rd, .inr (4, [.ref tp, .ref d, .ref ft, .ref bl, .int (nI aq), .int ca, .ref wk, .int (nI sz), .ref fl, .ref sr, .int (nI cnt), cv, .ref cl, .int (nI rw)])), (tp, .inr (8, [.ref tb, .int (nI L)])), (tb, .inl (κ 0, 800, .inl tf)), (d, .inl (κ 0, 6, .inl dl))] (fun u9 : Int32 × Nat => some (.int u9.1)) (fun u9 : Int32 × Nat => u9.2 ≤ L ∧ aq ≤ u9.2) (fun u9 : Int32 × Nat => [(rd, .inr (4, [.ref tp, .ref d, .ref ft, .ref bl, .int (nI u9.2), .int ca, .ref wk, .int (nI sz), .ref fl, .ref sr, .int (nI cnt), cv, .ref cl, .int (nI rw)])), (tp, .inr (8, [.ref tb, .int (nI L)])), (tb, .inl (κ 0, 800, .inl tf)), (d, .inl (κ 0, 6, .inl dl))]) := by
  refine et_of (by decide +kernel) (Nat.le_of_ble_eq_true rfl) ?_
  intro p e s m args below meth c A ls hx hb hr hml hts hown hlk hin hKK hK hA hP hD hS hE hl
  have hS : va_S A s.heap s.heap [] := hS
  have hP : va_P D vwCl ([(rd, .inr (4, [.ref tp, .ref d, .ref ft, .ref bl, .int (nI aq), .int ca, .ref wk, .int (nI sz), .ref fl, .ref sr, .int (nI cnt), cv, .ref cl, .int (nI rw)])), (tp, .inr (8, [.ref tb, .int (nI L)])), (tb, .inl (κ 0, 800, .inl tf)), (d, .inl (κ 0, 6, .inl dl))] ++ []) s.heap := hP
  have hD : va_D A ([(rd, .inr (4, [.ref tp, .ref d, .ref ft, .ref bl, .int (nI aq), .int ca, .ref wk, .int (nI sz), .ref fl, .ref sr, .int (nI cnt), cv, .ref cl, .int (nI rw)])), (tp, .inr (8, [.ref tb, .int (nI L)])), (tb, .inl (κ 0, 800, .inl tf)), (d, .inl (κ 0, 6, .inl dl))] ++ []) := hD
  have hFX : FX p s m args c cX4_checkBehindQuote 2 RX4 := ⟨hx, hb, hml, hown, hts⟩
  have hl : lv_has ls 2 [(0, .ref rd)] := hl
  refine lv_aload_n hx hb dX4_checkBehindQuote_0 rfl (lv_at hl 0 rfl) ?_
  refine et_VN (CR := []) (As := []) (rest := []) hFX hKK hE hP hD hS hA (c_X4_skipBlanks l D κ κq rd tp d ft bl aq wk sz fl sr cnt cl rw ca cv tb L tf dl (by omega) (by omega)) 0 gV_X4_141 hdV_X4_skipBlanks ⟨Nat.le_of_ble_eq_true rfl, Nat.le_of_ble_eq_true rfl⟩ rfl rfl (Nat.le_of_ble_eq_true rfl) dX4_checkBehindQuote_1 ⟨Nat.le_of_ble_eq_true rfl, Nat.le_of_ble_eq_true rfl⟩ hl.1 [0, 1, 2, 3] [] rfl rfl (by decide) (by decide) (by decide) hP 0 4 rfl rfl rfl (fun y__1 H locs hp_2 hP hD hS => ?_)
  refine W.widen (k := 0) (n := 0) (Nat.le_refl _) (Nat.le_refl _) ?_
  replace hP : va_P D vwCl ([(rd, .inr (4, [.ref tp, .ref d, .ref ft, .ref bl, .int (nI y__1), .int ca, .ref wk, .int (nI sz), .ref fl, .ref sr, .int (nI cnt), cv, .ref cl, .int (nI rw)])), (tp, .inr (8, [.ref tb, .int (nI L)])), (tb, .inl (κ 0, 800, .inl tf)), (d, .inl (κ 0, 6, .inl dl))] ++ []) H := subP (C := [(rd, .inr (4, [.ref tp, .ref d, .ref ft, .ref bl, .int (nI y__1), .int ca, .ref wk, .int (nI sz), .ref fl, .ref sr, .int (nI cnt), cv, .ref cl, .int (nI rw)])), (tp, .inr (8, [.ref tb, .int (nI L)])), (tb, .inl (κ 0, 800, .inl tf)), (d, .inl (κ 0, 6, .inl dl))]) hP [0, 1, 2, 3] rfl
  replace hD : va_D A ([(rd, .inr (4, [.ref tp, .ref d, .ref ft, .ref bl, .int (nI y__1), .int ca, .ref wk, .int (nI sz), .ref fl, .ref sr, .int (nI cnt), cv, .ref cl, .int (nI rw)])), (tp, .inr (8, [.ref tb, .int (nI L)])), (tb, .inl (κ 0, 800, .inl tf)), (d, .inl (κ 0, 6, .inl dl))] ++ []) := subD (C := [(rd, .inr (4, [.ref tp, .ref d, .ref ft, .ref bl, .int (nI y__1), .int ca, .ref wk, .int (nI sz), .ref fl, .ref sr, .int (nI cnt), cv, .ref cl, .int (nI rw)])), (tp, .inr (8, [.ref tb, .int (nI L)])), (tb, .inl (κ 0, 800, .inl tf)), (d, .inl (κ 0, 6, .inl dl))]) hD [0, 1, 2, 3] (by decide) rfl
  replace hp_2 : y__1 ≤ L ∧ aq ≤ y__1 := hp_2
  obtain ⟨h_3, h_4⟩ := hp_2
  refine W.eq (g2 := F0 m 4 ls []) rfl ?_
  refine lv_aload_n hx hb dX4_checkBehindQuote_4 rfl (lv_at hl 0 rfl) ?_
  refine va_get (D := D) (ci := 4) (v := .int (nI y__1)) (C := RX4) (T := TX4) (N := 14) hx hb hts inlX4 hown hK hP 0 rfl rfl 4 (by decide) (hts _ mw_71) (fun _ h9 => h9) rfl dX4_checkBehindQuote_5 ?_
  refine lv_aload_n hx hb dX4_checkBehindQuote_8 rfl (lv_at hl 0 rfl) ?_
  refine va_get (D := D) (ci := 4) (v := .ref tp) (C := RX4) (T := TX4) (N := 14) hx hb hts inlX4 hown hK hP 0 rfl rfl 0 (by decide) (hts _ mw_81) (fun _ h9 => h9) rfl dX4_checkBehindQuote_9 ?_
  refine va_get (D := D) (ci := 8) (v := .int (nI L)) (C := RX8) (T := TX8) (N := 2) hx hb hts inlX8 hown hK hP 1 rfl rfl 1 (by decide) (hts _ mw_261) (fun _ h9 => h9) rfl dX4_checkBehindQuote_12 ?_
  refine lv_icmp_lt (tgt := 20) hx hb dX4_checkBehindQuote_15 (by decide) (fun c_5 => ?_) (fun c_5 => ?_)
  · have nc_5 := cv_lt (a := y__1) (b := L) (by omega) (by omega) c_5
    refine lv_aload_n hx hb dX4_checkBehindQuote_20 rfl (lv_at hl 0 rfl) ?_
    refine va_get (D := D) (ci := 4) (v := .ref tp) (C := RX4) (T := TX4) (N := 14) hx hb hts inlX4 hown hK hP 0 rfl rfl 0 (by decide) (hts _ mw_81) (fun _ h9 => h9) rfl dX4_checkBehindQuote_21 ?_
    refine va_get (D := D) (ci := 8) (v := .ref tb) (C := RX8) (T := TX8) (N := 2) hx hb hts inlX8 hown hK hP 1 rfl rfl 0 (by decide) (hts _ mw_266) (fun _ h9 => h9) rfl dX4_checkBehindQuote_24 ?_
    refine lv_aload_n hx hb dX4_checkBehindQuote_27 rfl (lv_at hl 0 rfl) ?_
    refine va_get (D := D) (ci := 4) (v := .int (nI y__1)) (C := RX4) (T := TX4) (N := 14) hx hb hts inlX4 hown hK hP 0 rfl rfl 4 (by decide) (hts _ mw_71) (fun _ h9 => h9) rfl dX4_checkBehindQuote_28 ?_
    refine va_iald hx hb hK hP 2 0 rfl rfl (i := nI y__1) (vp_in_nI (n := y__1) (by omega) (by omega)) dX4_checkBehindQuote_31 ?_
    refine kv (v := .int (tf y__1)) (by rw [nI_clamp (by omega)]) ?_
    obtain ⟨x_6, ex_6⟩ : ∃ y9 : Int32, tf y__1 = y9 := ⟨_, rfl⟩
    refine kv (v := .int x_6) (congrArg Value.int ex_6) ?_
    refine lv_istore_n (lv' := [(1, .int x_6), (0, .ref rd)]) hx hb dX4_checkBehindQuote_32 rfl hl (by decide) rfl (fun ls hl => ?_)
    refine lv_iload_n hx hb dX4_checkBehindQuote_33 rfl (lv_at hl 0 rfl) ?_
    refine lv_aload_n hx hb dX4_checkBehindQuote_34 rfl (lv_at hl 1 rfl) ?_
    refine va_get (D := D) (ci := 4) (v := .ref d) (C := RX4) (T := TX4) (N := 14) hx hb hts inlX4 hown hK hP 0 rfl rfl 1 (by decide) (hts _ mw_82) (fun _ h9 => h9) rfl dX4_checkBehindQuote_35 ?_
    refine lv_iconst (v := 0) hx hb dX4_checkBehindQuote_38 (by decide) ?_
    refine va_iald hx hb hK hP 3 0 rfl rfl (i := 0) (vp_k (by decide)) dX4_checkBehindQuote_39 ?_
    obtain ⟨x_7, ex_7⟩ : ∃ y9 : Int32, dl 0 = y9 := ⟨_, rfl⟩
    refine kv (v := .int x_7) (congrArg Value.int ex_7) ?_
    refine lv_icmp_eq (tgt := 49) hx hb dX4_checkBehindQuote_40 (by decide) (fun c_8 => ?_) (fun c_8 => ?_)
    · refine lv_iconst (v := 0) hx hb dX4_checkBehindQuote_49 (by decide) ?_
      exact et_iret hx hb hr hlk rfl hS (0, y__1) rfl ⟨(show y__1 ≤ L from (by first | assumption | omega | rfl | exact Or.inl (by assumption) | exact Or.inr (by assumption))), (show aq ≤ y__1 from (by first | assumption | omega | rfl | exact Or.inl (by assumption) | exact Or.inr (by assumption)))⟩ (subP0 hP [0, 1, 2, 3] rfl) (hD.sub [0, 1, 2, 3] (by decide) rfl) (Nat.le_of_ble_eq_true rfl) (Nat.le_of_ble_eq_true rfl) dX4_checkBehindQuote_50
    · refine lv_iload_n hx hb dX4_checkBehindQuote_43 rfl (lv_at hl 0 rfl) ?_
      refine lv_bipush (v := 10) hx hb dX4_checkBehindQuote_44 (by decide) ?_
      refine lv_icmp_ne (tgt := 51) hx hb dX4_checkBehindQuote_46 (by decide) (fun c_9 => ?_) (fun c_9 => ?_)
      · refine lv_iload_n hx hb dX4_checkBehindQuote_51 rfl (lv_at hl 0 rfl) ?_
        refine er_S (As := [.int x_6]) (rest := []) hFX hKK hE hS (c_X8_isSign l D κ κq x_6) 1 gS_X4_115 hdS_X8_isSign rfl rfl ⟨Nat.le_of_ble_eq_true rfl, Nat.le_of_ble_eq_true rfl⟩ rfl rfl (Nat.le_of_ble_eq_true rfl) dX4_checkBehindQuote_52 ⟨Nat.le_of_ble_eq_true rfl, Nat.le_of_ble_eq_true rfl⟩ hl.1 (subP0 hP [] rfl) (fun r__10 hp_11 => ?_)
        replace hp_11 : ((r__10 = 1) ∨ (r__10 = 0)) := hp_11
        have ha_12 := hp_11
        clear hp_11
        rcases ha_12 with rfl | rfl
        · refine W.eq (g2 := F0 m 55 ls [.int 1]) rfl ?_
          refine lv_if_eq (tgt := 62) hx hb dX4_checkBehindQuote_55 (by decide) (fun c_13 => absurd c_13 (by decide)) (fun c_13 => ?_)
          refine lv_iconst (v := 3) hx hb dX4_checkBehindQuote_58 (by decide) ?_
          refine lv_goto (tgt := 63) hx hb dX4_checkBehindQuote_59 (by decide) ?_
          exact et_iret hx hb hr hlk rfl hS (3, y__1) rfl ⟨(show y__1 ≤ L from (by first | assumption | omega | rfl | exact Or.inl (by assumption) | exact Or.inr (by assumption))), (show aq ≤ y__1 from (by first | assumption | omega | rfl | exact Or.inl (by assumption) | exact Or.inr (by assumption)))⟩ (subP0 hP [0, 1, 2, 3] rfl) (hD.sub [0, 1, 2, 3] (by decide) rfl) (Nat.le_of_ble_eq_true rfl) (Nat.le_of_ble_eq_true rfl) dX4_checkBehindQuote_63
        · refine W.eq (g2 := F0 m 55 ls [.int 0]) rfl ?_
          refine lv_if_eq (tgt := 62) hx hb dX4_checkBehindQuote_55 (by decide) (fun c_14 => ?_) (fun c_14 => absurd (by decide) c_14)
          refine lv_iconst (v := 1) hx hb dX4_checkBehindQuote_62 (by decide) ?_
          exact et_iret hx hb hr hlk rfl hS (1, y__1) rfl ⟨(show y__1 ≤ L from (by first | assumption | omega | rfl | exact Or.inl (by assumption) | exact Or.inr (by assumption))), (show aq ≤ y__1 from (by first | assumption | omega | rfl | exact Or.inl (by assumption) | exact Or.inr (by assumption)))⟩ (subP0 hP [0, 1, 2, 3] rfl) (hD.sub [0, 1, 2, 3] (by decide) rfl) (Nat.le_of_ble_eq_true rfl) (Nat.le_of_ble_eq_true rfl) dX4_checkBehindQuote_63
      · refine lv_iconst (v := 0) hx hb dX4_checkBehindQuote_49 (by decide) ?_
        exact et_iret hx hb hr hlk rfl hS (0, y__1) rfl ⟨(show y__1 ≤ L from (by first | assumption | omega | rfl | exact Or.inl (by assumption) | exact Or.inr (by assumption))), (show aq ≤ y__1 from (by first | assumption | omega | rfl | exact Or.inl (by assumption) | exact Or.inr (by assumption)))⟩ (subP0 hP [0, 1, 2, 3] rfl) (hD.sub [0, 1, 2, 3] (by decide) rfl) (Nat.le_of_ble_eq_true rfl) (Nat.le_of_ble_eq_true rfl) dX4_checkBehindQuote_50
  · have nc_5 := cv_nlt (a := y__1) (b := L) (by omega) (by omega) c_5
    refine lv_iconst (v := 0) hx hb dX4_checkBehindQuote_18 (by decide) ?_
    exact et_iret hx hb hr hlk rfl hS (0, y__1) rfl ⟨(show y__1 ≤ L from (by first | assumption | omega | rfl | exact Or.inl (by assumption) | exact Or.inr (by assumption))), (show aq ≤ y__1 from (by first | assumption | omega | rfl | exact Or.inl (by assumption) | exact Or.inr (by assumption)))⟩ (subP0 hP [0, 1, 2, 3] rfl) (hD.sub [0, 1, 2, 3] (by decide) rfl) (Nat.le_of_ble_eq_true rfl) (Nat.le_of_ble_eq_true rfl) dX4_checkBehindQuote_19
set_option maxHeartbeats 4000000 in
set_option maxRecDepth 100000 in
theorem c_X4_readField (l : Launch) (D : va_G) (κ : Nat → ClassId) (κq : Nat → Nat) (rd : Nat) (tp : Nat) (d : Nat) (ft : Nat) (bl : Nat) (aq : Nat) (wk : Nat) (sz : Nat) (fl : Nat) (sr : Nat) (cnt : Nat) (cl : Nat) (rw : Nat) (ca : Int32) (cv : Value) (tb : Nat) (L : Nat) (tf : Nat → Int32) (dl : Nat → Int32) (wf : Nat → Int32) (hL8 : L ≤ 800) (hat : aq ≤ L) (hsz : sz ≤ 20) (hwf : sb_Fit wf) : Et l yX4_readField (wl yX4_readField cX4_readField 2 (some .int)) { frames := 2, cells := 0, slots := 0, locals := 43 } D κ κq [.ref rd] [(rd, .inr (4, [.ref tp, .ref d, .ref ft, .ref bl, .int (nI aq), .int ca, .ref wk, .int (nI sz), .ref fl, .ref sr, .int (nI cnt), cv, .ref cl, .int (nI rw)])), (tp, .inr (8, [.ref tb, .int (nI L)])), (tb, .inl (κ 0, 800, .inl tf)), (d, .inl (κ 0, 6, .inl dl)), (wk, .inl (κ 1, 20, .inl wf))] (fun u9 : Int32 × Nat × Nat × (Nat → Int32) => some (.int u9.1)) (fun u9 : Int32 × Nat × Nat × (Nat → Int32) => u9.2.1 ≤ L ∧ aq ≤ u9.2.1 ∧ u9.2.2.1 ≤ 20 ∧ sb_Fit u9.2.2.2) (fun u9 : Int32 × Nat × Nat × (Nat → Int32) => [(rd, .inr (4, [.ref tp, .ref d, .ref ft, .ref bl, .int (nI u9.2.1), .int ca, .ref wk, .int (nI u9.2.2.1), .ref fl, .ref sr, .int (nI cnt), cv, .ref cl, .int (nI rw)])), (tp, .inr (8, [.ref tb, .int (nI L)])), (tb, .inl (κ 0, 800, .inl tf)), (d, .inl (κ 0, 6, .inl dl)), (wk, .inl (κ 1, 20, .inl u9.2.2.2))]) := by
  refine et_of (by decide +kernel) (Nat.le_of_ble_eq_true rfl) ?_
  intro p e s m args below meth c A ls hx hb hr hml hts hown hlk hin hKK hK hA hP hD hS hE hl
  have hS : va_S A s.heap s.heap [] := hS
  have hP : va_P D vwCl ([(rd, .inr (4, [.ref tp, .ref d, .ref ft, .ref bl, .int (nI aq), .int ca, .ref wk, .int (nI sz), .ref fl, .ref sr, .int (nI cnt), cv, .ref cl, .int (nI rw)])), (tp, .inr (8, [.ref tb, .int (nI L)])), (tb, .inl (κ 0, 800, .inl tf)), (d, .inl (κ 0, 6, .inl dl)), (wk, .inl (κ 1, 20, .inl wf))] ++ []) s.heap := hP
  have hD : va_D A ([(rd, .inr (4, [.ref tp, .ref d, .ref ft, .ref bl, .int (nI aq), .int ca, .ref wk, .int (nI sz), .ref fl, .ref sr, .int (nI cnt), cv, .ref cl, .int (nI rw)])), (tp, .inr (8, [.ref tb, .int (nI L)])), (tb, .inl (κ 0, 800, .inl tf)), (d, .inl (κ 0, 6, .inl dl)), (wk, .inl (κ 1, 20, .inl wf))] ++ []) := hD
  have hFX : FX p s m args c cX4_readField 2 RX4 := ⟨hx, hb, hml, hown, hts⟩
  have hl : lv_has ls 2 [(0, .ref rd)] := hl
  refine lv_aload_n hx hb dX4_readField_0 rfl (lv_at hl 0 rfl) ?_
  refine lv_iconst (v := 0) hx hb dX4_readField_1 (by decide) ?_
  refine va_put (D := D) (ci := 4) (v := .int 0) (ty := tyX4 7) (C := RX4) (T := TX4) (N := 14) hx hb hts inlX4 tyX4 tyX4_ok nmX4 hown hK hP hD hS 0 rfl rfl 7 (by decide) (hts _ mw_74) (fun _ h9 => h9) rfl (tyX4_ok 7 (by decide)) rfl rfl (Nat.le_of_ble_eq_true rfl) dX4_readField_2 (fun H locs hP hD hS => ?_)
  have hP : va_P D vwCl ([(rd, .inr (4, [.ref tp, .ref d, .ref ft, .ref bl, .int (nI aq), .int ca, .ref wk, .int 0, .ref fl, .ref sr, .int (nI cnt), cv, .ref cl, .int (nI rw)])), (tp, .inr (8, [.ref tb, .int (nI L)])), (tb, .inl (κ 0, 800, .inl tf)), (d, .inl (κ 0, 6, .inl dl)), (wk, .inl (κ 1, 20, .inl wf))] ++ []) H := hP
  have hD : va_D A ([(rd, .inr (4, [.ref tp, .ref d, .ref ft, .ref bl, .int (nI aq), .int ca, .ref wk, .int 0, .ref fl, .ref sr, .int (nI cnt), cv, .ref cl, .int (nI rw)])), (tp, .inr (8, [.ref tb, .int (nI L)])), (tb, .inl (κ 0, 800, .inl tf)), (d, .inl (κ 0, 6, .inl dl)), (wk, .inl (κ 1, 20, .inl wf))] ++ []) := hD
  refine lv_aload_n hx hb dX4_readField_5 rfl (lv_at hl 0 rfl) ?_
  refine et_VN (CR := [(wk, .inl (κ 1, 20, .inl wf))]) (As := []) (rest := []) hFX hKK hE hP hD hS hA (c_X4_skipBlanks l D κ κq rd tp d ft bl aq wk 0 fl sr cnt cl rw ca cv tb L tf dl (by omega) (by omega)) 0 gV_X4_141 hdV_X4_skipBlanks ⟨Nat.le_of_ble_eq_true rfl, Nat.le_of_ble_eq_true rfl⟩ rfl rfl (Nat.le_of_ble_eq_true rfl) dX4_readField_6 ⟨Nat.le_of_ble_eq_true rfl, Nat.le_of_ble_eq_true rfl⟩ hl.1 [0, 1, 2, 3] [4] rfl rfl (by decide) (by decide) (by decide) hP 0 4 rfl rfl rfl (fun y__1 H locs hp_2 hP hD hS => ?_)
  refine W.widen (k := 0) (n := 0) (Nat.le_refl _) (Nat.le_refl _) ?_
  replace hP : va_P D vwCl ([(rd, .inr (4, [.ref tp, .ref d, .ref ft, .ref bl, .int (nI y__1), .int ca, .ref wk, .int (nI 0), .ref fl, .ref sr, .int (nI cnt), cv, .ref cl, .int (nI rw)])), (tp, .inr (8, [.ref tb, .int (nI L)])), (tb, .inl (κ 0, 800, .inl tf)), (d, .inl (κ 0, 6, .inl dl)), (wk, .inl (κ 1, 20, .inl wf))] ++ []) H := subP (C := [(wk, .inl (κ 1, 20, .inl wf)), (rd, .inr (4, [.ref tp, .ref d, .ref ft, .ref bl, .int (nI y__1), .int ca, .ref wk, .int (nI 0), .ref fl, .ref sr, .int (nI cnt), cv, .ref cl, .int (nI rw)])), (tp, .inr (8, [.ref tb, .int (nI L)])), (tb, .inl (κ 0, 800, .inl tf)), (d, .inl (κ 0, 6, .inl dl))]) hP [1, 2, 3, 4, 0] rfl
  replace hD : va_D A ([(rd, .inr (4, [.ref tp, .ref d, .ref ft, .ref bl, .int (nI y__1), .int ca, .ref wk, .int (nI 0), .ref fl, .ref sr, .int (nI cnt), cv, .ref cl, .int (nI rw)])), (tp, .inr (8, [.ref tb, .int (nI L)])), (tb, .inl (κ 0, 800, .inl tf)), (d, .inl (κ 0, 6, .inl dl)), (wk, .inl (κ 1, 20, .inl wf))] ++ []) := subD (C := [(wk, .inl (κ 1, 20, .inl wf)), (rd, .inr (4, [.ref tp, .ref d, .ref ft, .ref bl, .int (nI y__1), .int ca, .ref wk, .int (nI 0), .ref fl, .ref sr, .int (nI cnt), cv, .ref cl, .int (nI rw)])), (tp, .inr (8, [.ref tb, .int (nI L)])), (tb, .inl (κ 0, 800, .inl tf)), (d, .inl (κ 0, 6, .inl dl))]) hD [1, 2, 3, 4, 0] (by decide) rfl
  replace hp_2 : y__1 ≤ L ∧ aq ≤ y__1 := hp_2
  obtain ⟨h_3, h_4⟩ := hp_2
  refine W.eq (g2 := F0 m 9 ls []) rfl ?_
  refine lv_aload_n hx hb dX4_readField_9 rfl (lv_at hl 0 rfl) ?_
  refine va_get (D := D) (ci := 4) (v := .int (nI y__1)) (C := RX4) (T := TX4) (N := 14) hx hb hts inlX4 hown hK hP 0 rfl rfl 4 (by decide) (hts _ mw_71) (fun _ h9 => h9) rfl dX4_readField_10 ?_
  refine lv_aload_n hx hb dX4_readField_13 rfl (lv_at hl 0 rfl) ?_
  refine va_get (D := D) (ci := 4) (v := .ref tp) (C := RX4) (T := TX4) (N := 14) hx hb hts inlX4 hown hK hP 0 rfl rfl 0 (by decide) (hts _ mw_81) (fun _ h9 => h9) rfl dX4_readField_14 ?_
  refine va_get (D := D) (ci := 8) (v := .int (nI L)) (C := RX8) (T := TX8) (N := 2) hx hb hts inlX8 hown hK hP 1 rfl rfl 1 (by decide) (hts _ mw_261) (fun _ h9 => h9) rfl dX4_readField_17 ?_
  refine lv_icmp_ge (tgt := 44) hx hb dX4_readField_20 (by decide) (fun c_5 => ?_) (fun c_5 => ?_)
  · have nc_5 := cv_le (a := L) (b := y__1) (by omega) (by omega) c_5
    refine lv_aload_n hx hb dX4_readField_44 rfl (lv_at hl 0 rfl) ?_
    refine et_VN (CR := []) (As := []) (rest := []) hFX hKK hE hP hD hS hA (c_X4_readPlain l D κ κq rd tp d ft bl y__1 wk 0 fl sr cnt cl rw ca cv tb L tf dl wf (by omega) (by omega) (by omega) hwf) 0 gV_X4_144 hdV_X4_readPlain ⟨Nat.le_of_ble_eq_true rfl, Nat.le_of_ble_eq_true rfl⟩ rfl rfl (Nat.le_of_ble_eq_true rfl) dX4_readField_45 ⟨Nat.le_of_ble_eq_true rfl, Nat.le_of_ble_eq_true rfl⟩ hl.1 [0, 1, 2, 3, 4] [] rfl rfl (by decide) (by decide) (by decide) hP 0 4 rfl rfl rfl (fun u_10 H locs hp_11 hP hD hS => ?_)
    refine W.widen (k := 0) (n := 0) (Nat.le_refl _) (Nat.le_refl _) ?_
    obtain ⟨r__6, y__7, s__8, g__9⟩ := u_10
    replace hP : va_P D vwCl ([(rd, .inr (4, [.ref tp, .ref d, .ref ft, .ref bl, .int (nI y__7), .int ca, .ref wk, .int (nI s__8), .ref fl, .ref sr, .int (nI cnt), cv, .ref cl, .int (nI rw)])), (tp, .inr (8, [.ref tb, .int (nI L)])), (tb, .inl (κ 0, 800, .inl tf)), (d, .inl (κ 0, 6, .inl dl)), (wk, .inl (κ 1, 20, .inl g__9))] ++ []) H := subP (C := [(rd, .inr (4, [.ref tp, .ref d, .ref ft, .ref bl, .int (nI y__7), .int ca, .ref wk, .int (nI s__8), .ref fl, .ref sr, .int (nI cnt), cv, .ref cl, .int (nI rw)])), (tp, .inr (8, [.ref tb, .int (nI L)])), (tb, .inl (κ 0, 800, .inl tf)), (d, .inl (κ 0, 6, .inl dl)), (wk, .inl (κ 1, 20, .inl g__9))]) hP [0, 1, 2, 3, 4] rfl
    replace hD : va_D A ([(rd, .inr (4, [.ref tp, .ref d, .ref ft, .ref bl, .int (nI y__7), .int ca, .ref wk, .int (nI s__8), .ref fl, .ref sr, .int (nI cnt), cv, .ref cl, .int (nI rw)])), (tp, .inr (8, [.ref tb, .int (nI L)])), (tb, .inl (κ 0, 800, .inl tf)), (d, .inl (κ 0, 6, .inl dl)), (wk, .inl (κ 1, 20, .inl g__9))] ++ []) := subD (C := [(rd, .inr (4, [.ref tp, .ref d, .ref ft, .ref bl, .int (nI y__7), .int ca, .ref wk, .int (nI s__8), .ref fl, .ref sr, .int (nI cnt), cv, .ref cl, .int (nI rw)])), (tp, .inr (8, [.ref tb, .int (nI L)])), (tb, .inl (κ 0, 800, .inl tf)), (d, .inl (κ 0, 6, .inl dl)), (wk, .inl (κ 1, 20, .inl g__9))]) hD [0, 1, 2, 3, 4] (by decide) rfl
    replace hp_11 : y__7 ≤ L ∧ y__1 ≤ y__7 ∧ s__8 ≤ 20 ∧ sb_Fit g__9 := hp_11
    obtain ⟨h_12, h_13, h_14, h_15⟩ := hp_11
    refine W.eq (g2 := F0 m 48 ls [.int r__6]) rfl ?_
    exact et_iret hx hb hr hlk rfl hS (r__6, y__7, s__8, g__9) rfl ⟨(show y__7 ≤ L from (by first | assumption | omega | rfl | exact Or.inl (by assumption) | exact Or.inr (by assumption))), (show aq ≤ y__7 from (by first | assumption | omega | rfl | exact Or.inl (by assumption) | exact Or.inr (by assumption))), (show s__8 ≤ 20 from (by first | assumption | omega | rfl | exact Or.inl (by assumption) | exact Or.inr (by assumption))), (show sb_Fit g__9 from (by first | assumption | omega | rfl | exact Or.inl (by assumption) | exact Or.inr (by assumption)))⟩ (subP0 hP [0, 1, 2, 3, 4] rfl) (hD.sub [0, 1, 2, 3, 4] (by decide) rfl) (Nat.le_of_ble_eq_true rfl) (Nat.le_of_ble_eq_true rfl) dX4_readField_48
  · have nc_5 := cv_nle (a := L) (b := y__1) (by omega) (by omega) c_5
    refine lv_aload_n hx hb dX4_readField_23 rfl (lv_at hl 0 rfl) ?_
    refine va_get (D := D) (ci := 4) (v := .ref tp) (C := RX4) (T := TX4) (N := 14) hx hb hts inlX4 hown hK hP 0 rfl rfl 0 (by decide) (hts _ mw_81) (fun _ h9 => h9) rfl dX4_readField_24 ?_
    refine va_get (D := D) (ci := 8) (v := .ref tb) (C := RX8) (T := TX8) (N := 2) hx hb hts inlX8 hown hK hP 1 rfl rfl 0 (by decide) (hts _ mw_266) (fun _ h9 => h9) rfl dX4_readField_27 ?_
    refine lv_aload_n hx hb dX4_readField_30 rfl (lv_at hl 0 rfl) ?_
    refine va_get (D := D) (ci := 4) (v := .int (nI y__1)) (C := RX4) (T := TX4) (N := 14) hx hb hts inlX4 hown hK hP 0 rfl rfl 4 (by decide) (hts _ mw_71) (fun _ h9 => h9) rfl dX4_readField_31 ?_
    refine va_iald hx hb hK hP 2 0 rfl rfl (i := nI y__1) (vp_in_nI (n := y__1) (by omega) (by omega)) dX4_readField_34 ?_
    refine kv (v := .int (tf y__1)) (by rw [nI_clamp (by omega)]) ?_
    obtain ⟨x_16, ex_16⟩ : ∃ y9 : Int32, tf y__1 = y9 := ⟨_, rfl⟩
    refine kv (v := .int x_16) (congrArg Value.int ex_16) ?_
    refine lv_aload_n hx hb dX4_readField_35 rfl (lv_at hl 0 rfl) ?_
    refine va_get (D := D) (ci := 4) (v := .ref d) (C := RX4) (T := TX4) (N := 14) hx hb hts inlX4 hown hK hP 0 rfl rfl 1 (by decide) (hts _ mw_82) (fun _ h9 => h9) rfl dX4_readField_36 ?_
    refine lv_iconst (v := 1) hx hb dX4_readField_39 (by decide) ?_
    refine va_iald hx hb hK hP 3 0 rfl rfl (i := 1) (vp_k (by decide)) dX4_readField_40 ?_
    obtain ⟨x_17, ex_17⟩ : ∃ y9 : Int32, dl 1 = y9 := ⟨_, rfl⟩
    refine kv (v := .int x_17) (congrArg Value.int ex_17) ?_
    refine lv_icmp_eq (tgt := 49) hx hb dX4_readField_41 (by decide) (fun c_18 => ?_) (fun c_18 => ?_)
    · refine lv_aload_n hx hb dX4_readField_49 rfl (lv_at hl 0 rfl) ?_
      refine et_VN (CR := []) (As := []) (rest := []) hFX hKK hE hP hD hS hA (c_X4_readQuoted l D κ κq rd tp d ft bl y__1 wk 0 fl sr cnt cl rw ca cv tb L tf dl wf (by omega) (by omega) (by omega) hwf) 0 gV_X4_147 hdV_X4_readQuoted ⟨Nat.le_of_ble_eq_true rfl, Nat.le_of_ble_eq_true rfl⟩ rfl rfl (Nat.le_of_ble_eq_true rfl) dX4_readField_50 ⟨Nat.le_of_ble_eq_true rfl, Nat.le_of_ble_eq_true rfl⟩ hl.1 [0, 1, 2, 3, 4] [] rfl rfl (by decide) (by decide) (by decide) hP 0 4 rfl rfl rfl (fun u_23 H locs hp_24 hP hD hS => ?_)
      refine W.widen (k := 0) (n := 0) (Nat.le_refl _) (Nat.le_refl _) ?_
      obtain ⟨r__19, y__20, s__21, g__22⟩ := u_23
      replace hP : va_P D vwCl ([(rd, .inr (4, [.ref tp, .ref d, .ref ft, .ref bl, .int (nI y__20), .int ca, .ref wk, .int (nI s__21), .ref fl, .ref sr, .int (nI cnt), cv, .ref cl, .int (nI rw)])), (tp, .inr (8, [.ref tb, .int (nI L)])), (tb, .inl (κ 0, 800, .inl tf)), (d, .inl (κ 0, 6, .inl dl)), (wk, .inl (κ 1, 20, .inl g__22))] ++ []) H := subP (C := [(rd, .inr (4, [.ref tp, .ref d, .ref ft, .ref bl, .int (nI y__20), .int ca, .ref wk, .int (nI s__21), .ref fl, .ref sr, .int (nI cnt), cv, .ref cl, .int (nI rw)])), (tp, .inr (8, [.ref tb, .int (nI L)])), (tb, .inl (κ 0, 800, .inl tf)), (d, .inl (κ 0, 6, .inl dl)), (wk, .inl (κ 1, 20, .inl g__22))]) hP [0, 1, 2, 3, 4] rfl
      replace hD : va_D A ([(rd, .inr (4, [.ref tp, .ref d, .ref ft, .ref bl, .int (nI y__20), .int ca, .ref wk, .int (nI s__21), .ref fl, .ref sr, .int (nI cnt), cv, .ref cl, .int (nI rw)])), (tp, .inr (8, [.ref tb, .int (nI L)])), (tb, .inl (κ 0, 800, .inl tf)), (d, .inl (κ 0, 6, .inl dl)), (wk, .inl (κ 1, 20, .inl g__22))] ++ []) := subD (C := [(rd, .inr (4, [.ref tp, .ref d, .ref ft, .ref bl, .int (nI y__20), .int ca, .ref wk, .int (nI s__21), .ref fl, .ref sr, .int (nI cnt), cv, .ref cl, .int (nI rw)])), (tp, .inr (8, [.ref tb, .int (nI L)])), (tb, .inl (κ 0, 800, .inl tf)), (d, .inl (κ 0, 6, .inl dl)), (wk, .inl (κ 1, 20, .inl g__22))]) hD [0, 1, 2, 3, 4] (by decide) rfl
      replace hp_24 : y__20 ≤ L ∧ y__1 ≤ y__20 ∧ s__21 ≤ 20 ∧ sb_Fit g__22 := hp_24
      obtain ⟨h_25, h_26, h_27, h_28⟩ := hp_24
      refine W.eq (g2 := F0 m 53 ls [.int r__19]) rfl ?_
      refine lv_istore_n (lv' := [(1, .int r__19), (0, .ref rd)]) hx hb dX4_readField_53 rfl hl (by decide) rfl (fun ls hl => ?_)
      refine lv_iload_n hx hb dX4_readField_54 rfl (lv_at hl 0 rfl) ?_
      refine lv_if_ne (tgt := 65) hx hb dX4_readField_55 (by decide) (fun c_29 => ?_) (fun c_29 => ?_)
      · refine lv_iload_n hx hb dX4_readField_65 rfl (lv_at hl 0 rfl) ?_
        exact et_iret hx hb hr hlk rfl hS (r__19, y__20, s__21, g__22) rfl ⟨(show y__20 ≤ L from (by first | assumption | omega | rfl | exact Or.inl (by assumption) | exact Or.inr (by assumption))), (show aq ≤ y__20 from (by first | assumption | omega | rfl | exact Or.inl (by assumption) | exact Or.inr (by assumption))), (show s__21 ≤ 20 from (by first | assumption | omega | rfl | exact Or.inl (by assumption) | exact Or.inr (by assumption))), (show sb_Fit g__22 from (by first | assumption | omega | rfl | exact Or.inl (by assumption) | exact Or.inr (by assumption)))⟩ (subP0 hP [0, 1, 2, 3, 4] rfl) (hD.sub [0, 1, 2, 3, 4] (by decide) rfl) (Nat.le_of_ble_eq_true rfl) (Nat.le_of_ble_eq_true rfl) dX4_readField_66
      · refine lv_aload_n hx hb dX4_readField_58 rfl (lv_at hl 1 rfl) ?_
        refine et_VN (CR := [(wk, .inl (κ 1, 20, .inl g__22))]) (As := []) (rest := []) hFX hKK hE hP hD hS hA (c_X4_checkBehindQuote l D κ κq rd tp d ft bl y__20 wk s__21 fl sr cnt cl rw ca cv tb L tf dl (by omega) (by omega)) 0 gV_X4_150 hdV_X4_checkBehindQuote ⟨Nat.le_of_ble_eq_true rfl, Nat.le_of_ble_eq_true rfl⟩ rfl rfl (Nat.le_of_ble_eq_true rfl) dX4_readField_59 ⟨Nat.le_of_ble_eq_true rfl, Nat.le_of_ble_eq_true rfl⟩ hl.1 [0, 1, 2, 3] [4] rfl rfl (by decide) (by decide) (by decide) hP 0 4 rfl rfl rfl (fun u_32 H locs hp_33 hP hD hS => ?_)
        refine W.widen (k := 0) (n := 0) (Nat.le_refl _) (Nat.le_refl _) ?_
        obtain ⟨r__30, y__31⟩ := u_32
        replace hP : va_P D vwCl ([(rd, .inr (4, [.ref tp, .ref d, .ref ft, .ref bl, .int (nI y__31), .int ca, .ref wk, .int (nI s__21), .ref fl, .ref sr, .int (nI cnt), cv, .ref cl, .int (nI rw)])), (tp, .inr (8, [.ref tb, .int (nI L)])), (tb, .inl (κ 0, 800, .inl tf)), (d, .inl (κ 0, 6, .inl dl)), (wk, .inl (κ 1, 20, .inl g__22))] ++ []) H := subP (C := [(wk, .inl (κ 1, 20, .inl g__22)), (rd, .inr (4, [.ref tp, .ref d, .ref ft, .ref bl, .int (nI y__31), .int ca, .ref wk, .int (nI s__21), .ref fl, .ref sr, .int (nI cnt), cv, .ref cl, .int (nI rw)])), (tp, .inr (8, [.ref tb, .int (nI L)])), (tb, .inl (κ 0, 800, .inl tf)), (d, .inl (κ 0, 6, .inl dl))]) hP [1, 2, 3, 4, 0] rfl
        replace hD : va_D A ([(rd, .inr (4, [.ref tp, .ref d, .ref ft, .ref bl, .int (nI y__31), .int ca, .ref wk, .int (nI s__21), .ref fl, .ref sr, .int (nI cnt), cv, .ref cl, .int (nI rw)])), (tp, .inr (8, [.ref tb, .int (nI L)])), (tb, .inl (κ 0, 800, .inl tf)), (d, .inl (κ 0, 6, .inl dl)), (wk, .inl (κ 1, 20, .inl g__22))] ++ []) := subD (C := [(wk, .inl (κ 1, 20, .inl g__22)), (rd, .inr (4, [.ref tp, .ref d, .ref ft, .ref bl, .int (nI y__31), .int ca, .ref wk, .int (nI s__21), .ref fl, .ref sr, .int (nI cnt), cv, .ref cl, .int (nI rw)])), (tp, .inr (8, [.ref tb, .int (nI L)])), (tb, .inl (κ 0, 800, .inl tf)), (d, .inl (κ 0, 6, .inl dl))]) hD [1, 2, 3, 4, 0] (by decide) rfl
        replace hp_33 : y__31 ≤ L ∧ y__20 ≤ y__31 := hp_33
        obtain ⟨h_34, h_35⟩ := hp_33
        refine W.eq (g2 := F0 m 62 ls [.int r__30]) rfl ?_
        refine lv_goto (tgt := 66) hx hb dX4_readField_62 (by decide) ?_
        exact et_iret hx hb hr hlk rfl hS (r__30, y__31, s__21, g__22) rfl ⟨(show y__31 ≤ L from (by first | assumption | omega | rfl | exact Or.inl (by assumption) | exact Or.inr (by assumption))), (show aq ≤ y__31 from (by first | assumption | omega | rfl | exact Or.inl (by assumption) | exact Or.inr (by assumption))), (show s__21 ≤ 20 from (by first | assumption | omega | rfl | exact Or.inl (by assumption) | exact Or.inr (by assumption))), (show sb_Fit g__22 from (by first | assumption | omega | rfl | exact Or.inl (by assumption) | exact Or.inr (by assumption)))⟩ (subP0 hP [0, 1, 2, 3, 4] rfl) (hD.sub [0, 1, 2, 3, 4] (by decide) rfl) (Nat.le_of_ble_eq_true rfl) (Nat.le_of_ble_eq_true rfl) dX4_readField_66
    · refine lv_aload_n hx hb dX4_readField_44 rfl (lv_at hl 0 rfl) ?_
      refine et_VN (CR := []) (As := []) (rest := []) hFX hKK hE hP hD hS hA (c_X4_readPlain l D κ κq rd tp d ft bl y__1 wk 0 fl sr cnt cl rw ca cv tb L tf dl wf (by omega) (by omega) (by omega) hwf) 0 gV_X4_144 hdV_X4_readPlain ⟨Nat.le_of_ble_eq_true rfl, Nat.le_of_ble_eq_true rfl⟩ rfl rfl (Nat.le_of_ble_eq_true rfl) dX4_readField_45 ⟨Nat.le_of_ble_eq_true rfl, Nat.le_of_ble_eq_true rfl⟩ hl.1 [0, 1, 2, 3, 4] [] rfl rfl (by decide) (by decide) (by decide) hP 0 4 rfl rfl rfl (fun u_40 H locs hp_41 hP hD hS => ?_)
      refine W.widen (k := 0) (n := 0) (Nat.le_refl _) (Nat.le_refl _) ?_
      obtain ⟨r__36, y__37, s__38, g__39⟩ := u_40
      replace hP : va_P D vwCl ([(rd, .inr (4, [.ref tp, .ref d, .ref ft, .ref bl, .int (nI y__37), .int ca, .ref wk, .int (nI s__38), .ref fl, .ref sr, .int (nI cnt), cv, .ref cl, .int (nI rw)])), (tp, .inr (8, [.ref tb, .int (nI L)])), (tb, .inl (κ 0, 800, .inl tf)), (d, .inl (κ 0, 6, .inl dl)), (wk, .inl (κ 1, 20, .inl g__39))] ++ []) H := subP (C := [(rd, .inr (4, [.ref tp, .ref d, .ref ft, .ref bl, .int (nI y__37), .int ca, .ref wk, .int (nI s__38), .ref fl, .ref sr, .int (nI cnt), cv, .ref cl, .int (nI rw)])), (tp, .inr (8, [.ref tb, .int (nI L)])), (tb, .inl (κ 0, 800, .inl tf)), (d, .inl (κ 0, 6, .inl dl)), (wk, .inl (κ 1, 20, .inl g__39))]) hP [0, 1, 2, 3, 4] rfl
      replace hD : va_D A ([(rd, .inr (4, [.ref tp, .ref d, .ref ft, .ref bl, .int (nI y__37), .int ca, .ref wk, .int (nI s__38), .ref fl, .ref sr, .int (nI cnt), cv, .ref cl, .int (nI rw)])), (tp, .inr (8, [.ref tb, .int (nI L)])), (tb, .inl (κ 0, 800, .inl tf)), (d, .inl (κ 0, 6, .inl dl)), (wk, .inl (κ 1, 20, .inl g__39))] ++ []) := subD (C := [(rd, .inr (4, [.ref tp, .ref d, .ref ft, .ref bl, .int (nI y__37), .int ca, .ref wk, .int (nI s__38), .ref fl, .ref sr, .int (nI cnt), cv, .ref cl, .int (nI rw)])), (tp, .inr (8, [.ref tb, .int (nI L)])), (tb, .inl (κ 0, 800, .inl tf)), (d, .inl (κ 0, 6, .inl dl)), (wk, .inl (κ 1, 20, .inl g__39))]) hD [0, 1, 2, 3, 4] (by decide) rfl
      replace hp_41 : y__37 ≤ L ∧ y__1 ≤ y__37 ∧ s__38 ≤ 20 ∧ sb_Fit g__39 := hp_41
      obtain ⟨h_42, h_43, h_44, h_45⟩ := hp_41
      refine W.eq (g2 := F0 m 48 ls [.int r__36]) rfl ?_
      exact et_iret hx hb hr hlk rfl hS (r__36, y__37, s__38, g__39) rfl ⟨(show y__37 ≤ L from (by first | assumption | omega | rfl | exact Or.inl (by assumption) | exact Or.inr (by assumption))), (show aq ≤ y__37 from (by first | assumption | omega | rfl | exact Or.inl (by assumption) | exact Or.inr (by assumption))), (show s__38 ≤ 20 from (by first | assumption | omega | rfl | exact Or.inl (by assumption) | exact Or.inr (by assumption))), (show sb_Fit g__39 from (by first | assumption | omega | rfl | exact Or.inl (by assumption) | exact Or.inr (by assumption)))⟩ (subP0 hP [0, 1, 2, 3, 4] rfl) (hD.sub [0, 1, 2, 3, 4] (by decide) rfl) (Nat.le_of_ble_eq_true rfl) (Nat.le_of_ble_eq_true rfl) dX4_readField_48
set_option maxHeartbeats 4000000 in
set_option maxRecDepth 100000 in
theorem c_X4_tooManyLines (l : Launch) (D : va_G) (κ : Nat → ClassId) (κq : Nat → Nat) (rd : Nat) (tp : Nat) (d : Nat) (ft : Nat) (bl : Nat) (aq : Nat) (wk : Nat) (sz : Nat) (fl : Nat) (sr : Nat) (cnt : Nat) (cl : Nat) (rw : Nat) (ca : Int32) (cv : Value) (tb : Nat) (L : Nat) (tf : Nat → Int32) (dl : Nat → Int32) (hL8 : L ≤ 800) (hat : aq < L) : Et l yX4_tooManyLines (wl yX4_tooManyLines cX4_tooManyLines 2 (some .int)) { frames := 1, cells := 0, slots := 0, locals := 20 } D κ κq [.ref rd] [(rd, .inr (4, [.ref tp, .ref d, .ref ft, .ref bl, .int (nI aq), .int ca, .ref wk, .int (nI sz), .ref fl, .ref sr, .int (nI cnt), cv, .ref cl, .int (nI rw)])), (tp, .inr (8, [.ref tb, .int (nI L)])), (tb, .inl (κ 0, 800, .inl tf)), (d, .inl (κ 0, 6, .inl dl))] (fun u9 : Int32 × Int32 => some (.int u9.1)) (fun u9 : Int32 × Int32 => ¬ u9.1 = 0) (fun u9 : Int32 × Int32 => [(rd, .inr (4, [.ref tp, .ref d, .ref ft, .ref bl, .int (nI aq), .int u9.2, .ref wk, .int (nI sz), .ref fl, .ref sr, .int (nI cnt), cv, .ref cl, .int (nI rw)])), (tp, .inr (8, [.ref tb, .int (nI L)])), (tb, .inl (κ 0, 800, .inl tf)), (d, .inl (κ 0, 6, .inl dl))]) := by
  refine et_of (by decide +kernel) (Nat.le_of_ble_eq_true rfl) ?_
  intro p e s m args below meth c A ls hx hb hr hml hts hown hlk hin hKK hK hA hP hD hS hE hl
  have hS : va_S A s.heap s.heap [] := hS
  have hP : va_P D vwCl ([(rd, .inr (4, [.ref tp, .ref d, .ref ft, .ref bl, .int (nI aq), .int ca, .ref wk, .int (nI sz), .ref fl, .ref sr, .int (nI cnt), cv, .ref cl, .int (nI rw)])), (tp, .inr (8, [.ref tb, .int (nI L)])), (tb, .inl (κ 0, 800, .inl tf)), (d, .inl (κ 0, 6, .inl dl))] ++ []) s.heap := hP
  have hD : va_D A ([(rd, .inr (4, [.ref tp, .ref d, .ref ft, .ref bl, .int (nI aq), .int ca, .ref wk, .int (nI sz), .ref fl, .ref sr, .int (nI cnt), cv, .ref cl, .int (nI rw)])), (tp, .inr (8, [.ref tb, .int (nI L)])), (tb, .inl (κ 0, 800, .inl tf)), (d, .inl (κ 0, 6, .inl dl))] ++ []) := hD
  have hFX : FX p s m args c cX4_tooManyLines 2 RX4 := ⟨hx, hb, hml, hown, hts⟩
  have hl : lv_has ls 2 [(0, .ref rd)] := hl
  refine lv_aload_n hx hb dX4_tooManyLines_0 rfl (lv_at hl 0 rfl) ?_
  refine va_get (D := D) (ci := 4) (v := .ref tp) (C := RX4) (T := TX4) (N := 14) hx hb hts inlX4 hown hK hP 0 rfl rfl 0 (by decide) (hts _ mw_81) (fun _ h9 => h9) rfl dX4_tooManyLines_1 ?_
  refine va_get (D := D) (ci := 8) (v := .ref tb) (C := RX8) (T := TX8) (N := 2) hx hb hts inlX8 hown hK hP 1 rfl rfl 0 (by decide) (hts _ mw_266) (fun _ h9 => h9) rfl dX4_tooManyLines_4 ?_
  refine lv_aload_n hx hb dX4_tooManyLines_7 rfl (lv_at hl 0 rfl) ?_
  refine va_get (D := D) (ci := 4) (v := .int (nI aq)) (C := RX4) (T := TX4) (N := 14) hx hb hts inlX4 hown hK hP 0 rfl rfl 4 (by decide) (hts _ mw_71) (fun _ h9 => h9) rfl dX4_tooManyLines_8 ?_
  refine va_iald hx hb hK hP 2 0 rfl rfl (i := nI aq) (vp_in_nI (n := aq) (by omega) (by omega)) dX4_tooManyLines_11 ?_
  refine kv (v := .int (tf aq)) (by rw [nI_clamp (by omega)]) ?_
  obtain ⟨x_1, ex_1⟩ : ∃ y9 : Int32, tf aq = y9 := ⟨_, rfl⟩
  refine kv (v := .int x_1) (congrArg Value.int ex_1) ?_
  refine lv_istore_n (lv' := [(1, .int x_1), (0, .ref rd)]) hx hb dX4_tooManyLines_12 rfl hl (by decide) rfl (fun ls hl => ?_)
  refine lv_iload_n hx hb dX4_tooManyLines_13 rfl (lv_at hl 0 rfl) ?_
  refine er_S (As := [.int x_1]) (rest := []) hFX hKK hE hS (c_X8_isSign l D κ κq x_1) 1 gS_X4_115 hdS_X8_isSign rfl rfl ⟨Nat.le_of_ble_eq_true rfl, Nat.le_of_ble_eq_true rfl⟩ rfl rfl (Nat.le_of_ble_eq_true rfl) dX4_tooManyLines_14 ⟨Nat.le_of_ble_eq_true rfl, Nat.le_of_ble_eq_true rfl⟩ hl.1 (subP0 hP [] rfl) (fun r__2 hp_3 => ?_)
  replace hp_3 : ((r__2 = 1) ∨ (r__2 = 0)) := hp_3
  have ha_4 := hp_3
  clear hp_3
  rcases ha_4 with rfl | rfl
  · refine W.eq (g2 := F0 m 17 ls [.int 1]) rfl ?_
    refine lv_if_ne (tgt := 30) hx hb dX4_tooManyLines_17 (by decide) (fun c_5 => ?_) (fun c_5 => absurd c_5 (by decide))
    refine lv_bipush (v := 6) hx hb dX4_tooManyLines_30 (by decide) ?_
    exact et_iret hx hb hr hlk rfl hS (6, ca) rfl (show ¬ (6 : Int32) = 0 from (by decide)) (subP0 hP [0, 1, 2, 3] rfl) (hD.sub [0, 1, 2, 3] (by decide) rfl) (Nat.le_of_ble_eq_true rfl) (Nat.le_of_ble_eq_true rfl) dX4_tooManyLines_32
  · refine W.eq (g2 := F0 m 17 ls [.int 0]) rfl ?_
    refine lv_if_ne (tgt := 30) hx hb dX4_tooManyLines_17 (by decide) (fun c_6 => absurd c_6 (by decide)) (fun c_6 => ?_)
    refine lv_iload_n hx hb dX4_tooManyLines_20 rfl (lv_at hl 0 rfl) ?_
    refine lv_aload_n hx hb dX4_tooManyLines_21 rfl (lv_at hl 1 rfl) ?_
    refine va_get (D := D) (ci := 4) (v := .ref d) (C := RX4) (T := TX4) (N := 14) hx hb hts inlX4 hown hK hP 0 rfl rfl 1 (by decide) (hts _ mw_82) (fun _ h9 => h9) rfl dX4_tooManyLines_22 ?_
    refine lv_iconst (v := 0) hx hb dX4_tooManyLines_25 (by decide) ?_
    refine va_iald hx hb hK hP 3 0 rfl rfl (i := 0) (vp_k (by decide)) dX4_tooManyLines_26 ?_
    obtain ⟨x_7, ex_7⟩ : ∃ y9 : Int32, dl 0 = y9 := ⟨_, rfl⟩
    refine kv (v := .int x_7) (congrArg Value.int ex_7) ?_
    refine lv_icmp_ne (tgt := 33) hx hb dX4_tooManyLines_27 (by decide) (fun c_8 => ?_) (fun c_8 => ?_)
    · refine lv_aload_n hx hb dX4_tooManyLines_33 rfl (lv_at hl 1 rfl) ?_
      refine lv_iconst (v := 0) hx hb dX4_tooManyLines_34 (by decide) ?_
      refine va_put (D := D) (ci := 4) (v := .int 0) (ty := tyX4 5) (C := RX4) (T := TX4) (N := 14) hx hb hts inlX4 tyX4 tyX4_ok nmX4 hown hK hP hD hS 0 rfl rfl 5 (by decide) (hts _ mw_72) (fun _ h9 => h9) rfl (tyX4_ok 5 (by decide)) rfl rfl (Nat.le_of_ble_eq_true rfl) dX4_tooManyLines_35 (fun H locs hP hD hS => ?_)
      have hP : va_P D vwCl ([(rd, .inr (4, [.ref tp, .ref d, .ref ft, .ref bl, .int (nI aq), .int 0, .ref wk, .int (nI sz), .ref fl, .ref sr, .int (nI cnt), cv, .ref cl, .int (nI rw)])), (tp, .inr (8, [.ref tb, .int (nI L)])), (tb, .inl (κ 0, 800, .inl tf)), (d, .inl (κ 0, 6, .inl dl))] ++ []) H := hP
      have hD : va_D A ([(rd, .inr (4, [.ref tp, .ref d, .ref ft, .ref bl, .int (nI aq), .int 0, .ref wk, .int (nI sz), .ref fl, .ref sr, .int (nI cnt), cv, .ref cl, .int (nI rw)])), (tp, .inr (8, [.ref tb, .int (nI L)])), (tb, .inl (κ 0, 800, .inl tf)), (d, .inl (κ 0, 6, .inl dl))] ++ []) := hD
      refine lv_iconst (v := 1) hx hb dX4_tooManyLines_38 (by decide) ?_
      exact et_iret hx hb hr hlk rfl hS (1, 0) rfl (show ¬ (1 : Int32) = 0 from (by decide)) (subP0 hP [0, 1, 2, 3] rfl) (hD.sub [0, 1, 2, 3] (by decide) rfl) (Nat.le_of_ble_eq_true rfl) (Nat.le_of_ble_eq_true rfl) dX4_tooManyLines_39
    · refine lv_bipush (v := 6) hx hb dX4_tooManyLines_30 (by decide) ?_
      exact et_iret hx hb hr hlk rfl hS (6, ca) rfl (show ¬ (6 : Int32) = 0 from (by decide)) (subP0 hP [0, 1, 2, 3] rfl) (hD.sub [0, 1, 2, 3] (by decide) rfl) (Nat.le_of_ble_eq_true rfl) (Nat.le_of_ble_eq_true rfl) dX4_tooManyLines_32
set_option maxHeartbeats 4000000 in
set_option maxRecDepth 100000 in
theorem c_X4_toLine (l : Launch) (D : va_G) (κ : Nat → ClassId) (κq : Nat → Nat) (rd : Nat) (tp : Nat) (d : Nat) (ft : Nat) (bl : Nat) (aq : Nat) (wk : Nat) (sz : Nat) (fl : Nat) (sr : Nat) (cnt : Nat) (cl : Nat) (rw : Nat) (ca : Int32) (cv : Value) (tb : Nat) (L : Nat) (tf : Nat → Int32) (dl : Nat → Int32) (hL8 : L ≤ 800) (hat : aq ≤ L) : Et l yX4_toLine (wl yX4_toLine cX4_toLine 1 (some .boolean)) { frames := 0, cells := 0, slots := 0, locals := 0 } D κ κq [.ref rd] [(rd, .inr (4, [.ref tp, .ref d, .ref ft, .ref bl, .int (nI aq), .int ca, .ref wk, .int (nI sz), .ref fl, .ref sr, .int (nI cnt), cv, .ref cl, .int (nI rw)])), (tp, .inr (8, [.ref tb, .int (nI L)])), (tb, .inl (κ 0, 800, .inl tf)), (d, .inl (κ 0, 6, .inl dl))] (fun u9 : Int32 × Nat => some (.int u9.1)) (fun u9 : Int32 × Nat => u9.2 ≤ L ∧ aq ≤ u9.2 ∧ ((u9.1 = 1 ∧ u9.2 < L) ∨ (u9.1 = 0))) (fun u9 : Int32 × Nat => [(rd, .inr (4, [.ref tp, .ref d, .ref ft, .ref bl, .int (nI u9.2), .int ca, .ref wk, .int (nI sz), .ref fl, .ref sr, .int (nI cnt), cv, .ref cl, .int (nI rw)])), (tp, .inr (8, [.ref tb, .int (nI L)])), (tb, .inl (κ 0, 800, .inl tf)), (d, .inl (κ 0, 6, .inl dl))]) := by
  refine et_of (by decide +kernel) (Nat.le_of_ble_eq_true rfl) ?_
  intro p e s m args below meth c A ls hx hb hr hml hts hown hlk hin hKK hK hA hP hD hS hE hl
  have hS : va_S A s.heap s.heap [] := hS
  have hP : va_P D vwCl ([(rd, .inr (4, [.ref tp, .ref d, .ref ft, .ref bl, .int (nI aq), .int ca, .ref wk, .int (nI sz), .ref fl, .ref sr, .int (nI cnt), cv, .ref cl, .int (nI rw)])), (tp, .inr (8, [.ref tb, .int (nI L)])), (tb, .inl (κ 0, 800, .inl tf)), (d, .inl (κ 0, 6, .inl dl))] ++ []) s.heap := hP
  have hD : va_D A ([(rd, .inr (4, [.ref tp, .ref d, .ref ft, .ref bl, .int (nI aq), .int ca, .ref wk, .int (nI sz), .ref fl, .ref sr, .int (nI cnt), cv, .ref cl, .int (nI rw)])), (tp, .inr (8, [.ref tb, .int (nI L)])), (tb, .inl (κ 0, 800, .inl tf)), (d, .inl (κ 0, 6, .inl dl))] ++ []) := hD
  have hFX : FX p s m args c cX4_toLine 1 RX4 := ⟨hx, hb, hml, hown, hts⟩
  have hl : lv_has ls 1 [(0, .ref rd)] := hl
  refine loop_dn (fun k9 H locs ls => ∃ (v4_0 : Nat), (v4_0 ≤ L) ∧ (aq ≤ v4_0) ∧ L - v4_0 = k9 ∧ va_P D vwCl ([(rd, .inr (4, [.ref tp, .ref d, .ref ft, .ref bl, .int (nI v4_0), .int ca, .ref wk, .int (nI sz), .ref fl, .ref sr, .int (nI cnt), cv, .ref cl, .int (nI rw)])), (tp, .inr (8, [.ref tb, .int (nI L)])), (tb, .inl (κ 0, 800, .inl tf)), (d, .inl (κ 0, 6, .inl dl))] ++ []) H ∧ va_D A ([(rd, .inr (4, [.ref tp, .ref d, .ref ft, .ref bl, .int (nI v4_0), .int ca, .ref wk, .int (nI sz), .ref fl, .ref sr, .int (nI cnt), cv, .ref cl, .int (nI rw)])), (tp, .inr (8, [.ref tb, .int (nI L)])), (tb, .inl (κ 0, 800, .inl tf)), (d, .inl (κ 0, 6, .inl dl))] ++ []) ∧ va_S A s.heap H locs ∧ lv_has ls 1 [(0, .ref rd)]) (fun k9 H locs ls hI0 ih0 => ?_) (L - aq) _ _ _ ⟨aq, (by omega), (by omega), rfl, hP, hD, hS, lv_sub hl [0] rfl⟩
  obtain ⟨v4_0, hl0_0, hl0_1, hm0, hP, hD, hS, hl⟩ := hI0
  refine lv_aload_n hx hb dX4_toLine_0 rfl (lv_at hl 0 rfl) ?_
  refine va_get (D := D) (ci := 4) (v := .int (nI v4_0)) (C := RX4) (T := TX4) (N := 14) hx hb hts inlX4 hown hK hP 0 rfl rfl 4 (by decide) (hts _ mw_71) (fun _ h9 => h9) rfl dX4_toLine_1 ?_
  refine lv_aload_n hx hb dX4_toLine_4 rfl (lv_at hl 0 rfl) ?_
  refine va_get (D := D) (ci := 4) (v := .ref tp) (C := RX4) (T := TX4) (N := 14) hx hb hts inlX4 hown hK hP 0 rfl rfl 0 (by decide) (hts _ mw_81) (fun _ h9 => h9) rfl dX4_toLine_5 ?_
  refine va_get (D := D) (ci := 8) (v := .int (nI L)) (C := RX8) (T := TX8) (N := 2) hx hb hts inlX8 hown hK hP 1 rfl rfl 1 (by decide) (hts _ mw_261) (fun _ h9 => h9) rfl dX4_toLine_8 ?_
  refine lv_icmp_ge (tgt := 120) hx hb dX4_toLine_11 (by decide) (fun c_1 => ?_) (fun c_1 => ?_)
  · have nc_1 := cv_le (a := L) (b := v4_0) (by omega) (by omega) c_1
    refine lv_iconst (v := 0) hx hb dX4_toLine_120 (by decide) ?_
    exact et_iret hx hb hr hlk rfl hS (0, v4_0) rfl ⟨(show v4_0 ≤ L from (by first | assumption | omega | rfl | exact Or.inl (by assumption) | exact Or.inr (by assumption))), (show aq ≤ v4_0 from (by first | assumption | omega | rfl | exact Or.inl (by assumption) | exact Or.inr (by assumption))), (by exact Or.inr ((rfl)))⟩ (subP0 hP [0, 1, 2, 3] rfl) (hD.sub [0, 1, 2, 3] (by decide) rfl) (Nat.le_of_ble_eq_true rfl) (Nat.le_of_ble_eq_true rfl) dX4_toLine_121
  · have nc_1 := cv_nle (a := L) (b := v4_0) (by omega) (by omega) c_1
    refine lv_aload_n hx hb dX4_toLine_14 rfl (lv_at hl 0 rfl) ?_
    refine va_get (D := D) (ci := 4) (v := .ref tp) (C := RX4) (T := TX4) (N := 14) hx hb hts inlX4 hown hK hP 0 rfl rfl 0 (by decide) (hts _ mw_81) (fun _ h9 => h9) rfl dX4_toLine_15 ?_
    refine va_get (D := D) (ci := 8) (v := .ref tb) (C := RX8) (T := TX8) (N := 2) hx hb hts inlX8 hown hK hP 1 rfl rfl 0 (by decide) (hts _ mw_266) (fun _ h9 => h9) rfl dX4_toLine_18 ?_
    refine lv_aload_n hx hb dX4_toLine_21 rfl (lv_at hl 0 rfl) ?_
    refine va_get (D := D) (ci := 4) (v := .int (nI v4_0)) (C := RX4) (T := TX4) (N := 14) hx hb hts inlX4 hown hK hP 0 rfl rfl 4 (by decide) (hts _ mw_71) (fun _ h9 => h9) rfl dX4_toLine_22 ?_
    refine va_iald hx hb hK hP 2 0 rfl rfl (i := nI v4_0) (vp_in_nI (n := v4_0) (by omega) (by omega)) dX4_toLine_25 ?_
    refine kv (v := .int (tf v4_0)) (by rw [nI_clamp (by omega)]) ?_
    obtain ⟨x_2, ex_2⟩ : ∃ y9 : Int32, tf v4_0 = y9 := ⟨_, rfl⟩
    refine kv (v := .int x_2) (congrArg Value.int ex_2) ?_
    refine lv_bipush (v := 10) hx hb dX4_toLine_26 (by decide) ?_
    refine lv_icmp_ne (tgt := 44) hx hb dX4_toLine_28 (by decide) (fun c_3 => ?_) (fun c_3 => ?_)
    · refine lv_aload_n hx hb dX4_toLine_44 rfl (lv_at hl 0 rfl) ?_
      refine va_get (D := D) (ci := 4) (v := .ref d) (C := RX4) (T := TX4) (N := 14) hx hb hts inlX4 hown hK hP 0 rfl rfl 1 (by decide) (hts _ mw_82) (fun _ h9 => h9) rfl dX4_toLine_45 ?_
      refine lv_iconst (v := 5) hx hb dX4_toLine_48 (by decide) ?_
      refine va_iald hx hb hK hP 3 0 rfl rfl (i := 5) (vp_k (by decide)) dX4_toLine_49 ?_
      obtain ⟨x_4, ex_4⟩ : ∃ y9 : Int32, dl 5 = y9 := ⟨_, rfl⟩
      refine kv (v := .int x_4) (congrArg Value.int ex_4) ?_
      refine lv_if_eq (tgt := 118) hx hb dX4_toLine_50 (by decide) (fun c_5 => ?_) (fun c_5 => ?_)
      · refine lv_iconst (v := 1) hx hb dX4_toLine_118 (by decide) ?_
        exact et_iret hx hb hr hlk rfl hS (1, v4_0) rfl ⟨(show v4_0 ≤ L from (by first | assumption | omega | rfl | exact Or.inl (by assumption) | exact Or.inr (by assumption))), (show aq ≤ v4_0 from (by first | assumption | omega | rfl | exact Or.inl (by assumption) | exact Or.inr (by assumption))), (by exact Or.inl (⟨rfl, (show v4_0 < L from (by first | assumption | omega | rfl | exact Or.inl (by assumption) | exact Or.inr (by assumption)))⟩))⟩ (subP0 hP [0, 1, 2, 3] rfl) (hD.sub [0, 1, 2, 3] (by decide) rfl) (Nat.le_of_ble_eq_true rfl) (Nat.le_of_ble_eq_true rfl) dX4_toLine_119
      · refine lv_aload_n hx hb dX4_toLine_53 rfl (lv_at hl 0 rfl) ?_
        refine va_get (D := D) (ci := 4) (v := .ref tp) (C := RX4) (T := TX4) (N := 14) hx hb hts inlX4 hown hK hP 0 rfl rfl 0 (by decide) (hts _ mw_81) (fun _ h9 => h9) rfl dX4_toLine_54 ?_
        refine va_get (D := D) (ci := 8) (v := .ref tb) (C := RX8) (T := TX8) (N := 2) hx hb hts inlX8 hown hK hP 1 rfl rfl 0 (by decide) (hts _ mw_266) (fun _ h9 => h9) rfl dX4_toLine_57 ?_
        refine lv_aload_n hx hb dX4_toLine_60 rfl (lv_at hl 0 rfl) ?_
        refine va_get (D := D) (ci := 4) (v := .int (nI v4_0)) (C := RX4) (T := TX4) (N := 14) hx hb hts inlX4 hown hK hP 0 rfl rfl 4 (by decide) (hts _ mw_71) (fun _ h9 => h9) rfl dX4_toLine_61 ?_
        refine va_iald hx hb hK hP 2 0 rfl rfl (i := nI v4_0) (vp_in_nI (n := v4_0) (by omega) (by omega)) dX4_toLine_64 ?_
        refine kv (v := .int x_2) (by rw [nI_clamp (by omega)]; exact congrArg Value.int ex_2) ?_
        refine lv_aload_n hx hb dX4_toLine_65 rfl (lv_at hl 0 rfl) ?_
        refine va_get (D := D) (ci := 4) (v := .ref d) (C := RX4) (T := TX4) (N := 14) hx hb hts inlX4 hown hK hP 0 rfl rfl 1 (by decide) (hts _ mw_82) (fun _ h9 => h9) rfl dX4_toLine_66 ?_
        refine lv_iconst (v := 5) hx hb dX4_toLine_69 (by decide) ?_
        refine va_iald hx hb hK hP 3 0 rfl rfl (i := 5) (vp_k (by decide)) dX4_toLine_70 ?_
        refine kv (v := .int x_4) (congrArg Value.int (ex_4)) ?_
        refine lv_icmp_ne (tgt := 118) hx hb dX4_toLine_71 (by decide) (fun c_6 => ?_) (fun c_6 => ?_)
        · refine lv_iconst (v := 1) hx hb dX4_toLine_118 (by decide) ?_
          exact et_iret hx hb hr hlk rfl hS (1, v4_0) rfl ⟨(show v4_0 ≤ L from (by first | assumption | omega | rfl | exact Or.inl (by assumption) | exact Or.inr (by assumption))), (show aq ≤ v4_0 from (by first | assumption | omega | rfl | exact Or.inl (by assumption) | exact Or.inr (by assumption))), (by exact Or.inl (⟨rfl, (show v4_0 < L from (by first | assumption | omega | rfl | exact Or.inl (by assumption) | exact Or.inr (by assumption)))⟩))⟩ (subP0 hP [0, 1, 2, 3] rfl) (hD.sub [0, 1, 2, 3] (by decide) rfl) (Nat.le_of_ble_eq_true rfl) (Nat.le_of_ble_eq_true rfl) dX4_toLine_119
        · refine loop_dn (fun k9 H locs ls => ∃ (v4_74 : Nat), (v4_74 ≤ L) ∧ (aq ≤ v4_74) ∧ (v4_0 ≤ v4_74) ∧ (v4_0 < v4_74 ∨ ¬ tf v4_74 = 10) ∧ L - v4_74 = k9 ∧ va_P D vwCl ([(rd, .inr (4, [.ref tp, .ref d, .ref ft, .ref bl, .int (nI v4_74), .int ca, .ref wk, .int (nI sz), .ref fl, .ref sr, .int (nI cnt), cv, .ref cl, .int (nI rw)])), (tp, .inr (8, [.ref tb, .int (nI L)])), (tb, .inl (κ 0, 800, .inl tf)), (d, .inl (κ 0, 6, .inl dl))] ++ []) H ∧ va_D A ([(rd, .inr (4, [.ref tp, .ref d, .ref ft, .ref bl, .int (nI v4_74), .int ca, .ref wk, .int (nI sz), .ref fl, .ref sr, .int (nI cnt), cv, .ref cl, .int (nI rw)])), (tp, .inr (8, [.ref tb, .int (nI L)])), (tb, .inl (κ 0, 800, .inl tf)), (d, .inl (κ 0, 6, .inl dl))] ++ []) ∧ va_S A s.heap H locs ∧ lv_has ls 1 [(0, .ref rd)]) (fun k9 H locs ls hI74 ih74 => ?_) (L - v4_0) _ _ _ ⟨v4_0, (by omega), (by omega), (by omega), (Or.inr (by rw [ex_2]; exact c_3)), rfl, hP, hD, hS, lv_sub hl [0] rfl⟩
          obtain ⟨v4_74, hl74_0, hl74_1, hl74_2, hl74_3, hm74, hP, hD, hS, hl⟩ := hI74
          refine lv_aload_n hx hb dX4_toLine_74 rfl (lv_at hl 0 rfl) ?_
          refine va_get (D := D) (ci := 4) (v := .int (nI v4_74)) (C := RX4) (T := TX4) (N := 14) hx hb hts inlX4 hown hK hP 0 rfl rfl 4 (by decide) (hts _ mw_71) (fun _ h9 => h9) rfl dX4_toLine_75 ?_
          refine lv_aload_n hx hb dX4_toLine_78 rfl (lv_at hl 0 rfl) ?_
          refine va_get (D := D) (ci := 4) (v := .ref tp) (C := RX4) (T := TX4) (N := 14) hx hb hts inlX4 hown hK hP 0 rfl rfl 0 (by decide) (hts _ mw_81) (fun _ h9 => h9) rfl dX4_toLine_79 ?_
          refine va_get (D := D) (ci := 8) (v := .int (nI L)) (C := RX8) (T := TX8) (N := 2) hx hb hts inlX8 hown hK hP 1 rfl rfl 1 (by decide) (hts _ mw_261) (fun _ h9 => h9) rfl dX4_toLine_82 ?_
          refine lv_icmp_ge (tgt := 0) hx hb dX4_toLine_85 (by decide) (fun c_7 => ?_) (fun c_7 => ?_)
          · have nc_7 := cv_le (a := L) (b := v4_74) (by omega) (by omega) c_7
            exact ih0 _ _ _ _ (by omega) ⟨v4_74, (by omega), (by omega), rfl, hP, hD, hS, lv_sub hl [0] rfl⟩
          · have nc_7 := cv_nle (a := L) (b := v4_74) (by omega) (by omega) c_7
            refine lv_aload_n hx hb dX4_toLine_88 rfl (lv_at hl 0 rfl) ?_
            refine va_get (D := D) (ci := 4) (v := .ref tp) (C := RX4) (T := TX4) (N := 14) hx hb hts inlX4 hown hK hP 0 rfl rfl 0 (by decide) (hts _ mw_81) (fun _ h9 => h9) rfl dX4_toLine_89 ?_
            refine va_get (D := D) (ci := 8) (v := .ref tb) (C := RX8) (T := TX8) (N := 2) hx hb hts inlX8 hown hK hP 1 rfl rfl 0 (by decide) (hts _ mw_266) (fun _ h9 => h9) rfl dX4_toLine_92 ?_
            refine lv_aload_n hx hb dX4_toLine_95 rfl (lv_at hl 0 rfl) ?_
            refine va_get (D := D) (ci := 4) (v := .int (nI v4_74)) (C := RX4) (T := TX4) (N := 14) hx hb hts inlX4 hown hK hP 0 rfl rfl 4 (by decide) (hts _ mw_71) (fun _ h9 => h9) rfl dX4_toLine_96 ?_
            refine va_iald hx hb hK hP 2 0 rfl rfl (i := nI v4_74) (vp_in_nI (n := v4_74) (by omega) (by omega)) dX4_toLine_99 ?_
            refine kv (v := .int (tf v4_74)) (by rw [nI_clamp (by omega)]) ?_
            obtain ⟨x_8, ex_8⟩ : ∃ y9 : Int32, tf v4_74 = y9 := ⟨_, rfl⟩
            refine kv (v := .int x_8) (congrArg Value.int ex_8) ?_
            refine lv_bipush (v := 10) hx hb dX4_toLine_100 (by decide) ?_
            refine lv_icmp_eq (tgt := 0) hx hb dX4_toLine_102 (by decide) (fun c_9 => ?_) (fun c_9 => ?_)
            · exact ih0 _ _ _ _ (by rcases hl74_3 with h9 | h9; (omega); exact absurd (ex_8.trans c_9) h9) ⟨v4_74, (by omega), (by omega), rfl, hP, hD, hS, lv_sub hl [0] rfl⟩
            · refine lv_aload_n hx hb dX4_toLine_105 rfl (lv_at hl 0 rfl) ?_
              refine lv_dup hx hb dX4_toLine_106 rfl ?_
              refine va_get (D := D) (ci := 4) (v := .int (nI v4_74)) (C := RX4) (T := TX4) (N := 14) hx hb hts inlX4 hown hK hP 0 rfl rfl 4 (by decide) (hts _ mw_71) (fun _ h9 => h9) rfl dX4_toLine_107 ?_
              refine lv_iconst (v := 1) hx hb dX4_toLine_110 (by decide) ?_
              refine lv_iadd hx hb dX4_toLine_111 ?_
              refine ki (v := (nI (v4_74 + 1))) (nI_add v4_74 1) ?_
              refine va_put (D := D) (ci := 4) (v := .int (nI (v4_74 + 1))) (ty := tyX4 4) (C := RX4) (T := TX4) (N := 14) hx hb hts inlX4 tyX4 tyX4_ok nmX4 hown hK hP hD hS 0 rfl rfl 4 (by decide) (hts _ mw_71) (fun _ h9 => h9) rfl (tyX4_ok 4 (by decide)) rfl rfl (Nat.le_of_ble_eq_true rfl) dX4_toLine_112 (fun H locs hP hD hS => ?_)
              have hP : va_P D vwCl ([(rd, .inr (4, [.ref tp, .ref d, .ref ft, .ref bl, .int (nI (v4_74 + 1)), .int ca, .ref wk, .int (nI sz), .ref fl, .ref sr, .int (nI cnt), cv, .ref cl, .int (nI rw)])), (tp, .inr (8, [.ref tb, .int (nI L)])), (tb, .inl (κ 0, 800, .inl tf)), (d, .inl (κ 0, 6, .inl dl))] ++ []) H := hP
              have hD : va_D A ([(rd, .inr (4, [.ref tp, .ref d, .ref ft, .ref bl, .int (nI (v4_74 + 1)), .int ca, .ref wk, .int (nI sz), .ref fl, .ref sr, .int (nI cnt), cv, .ref cl, .int (nI rw)])), (tp, .inr (8, [.ref tb, .int (nI L)])), (tb, .inl (κ 0, 800, .inl tf)), (d, .inl (κ 0, 6, .inl dl))] ++ []) := hD
              refine lv_goto (tgt := 74) hx hb dX4_toLine_115 (by decide) ?_
              exact ih74 _ _ _ _ (by omega) ⟨(v4_74 + 1), (by omega), (by omega), (by omega), (Or.inl (by omega)), rfl, hP, hD, hS, lv_sub hl [0] rfl⟩
    · refine lv_aload_n hx hb dX4_toLine_31 rfl (lv_at hl 0 rfl) ?_
      refine lv_dup hx hb dX4_toLine_32 rfl ?_
      refine va_get (D := D) (ci := 4) (v := .int (nI v4_0)) (C := RX4) (T := TX4) (N := 14) hx hb hts inlX4 hown hK hP 0 rfl rfl 4 (by decide) (hts _ mw_71) (fun _ h9 => h9) rfl dX4_toLine_33 ?_
      refine lv_iconst (v := 1) hx hb dX4_toLine_36 (by decide) ?_
      refine lv_iadd hx hb dX4_toLine_37 ?_
      refine ki (v := (nI (v4_0 + 1))) (nI_add v4_0 1) ?_
      refine va_put (D := D) (ci := 4) (v := .int (nI (v4_0 + 1))) (ty := tyX4 4) (C := RX4) (T := TX4) (N := 14) hx hb hts inlX4 tyX4 tyX4_ok nmX4 hown hK hP hD hS 0 rfl rfl 4 (by decide) (hts _ mw_71) (fun _ h9 => h9) rfl (tyX4_ok 4 (by decide)) rfl rfl (Nat.le_of_ble_eq_true rfl) dX4_toLine_38 (fun H locs hP hD hS => ?_)
      have hP : va_P D vwCl ([(rd, .inr (4, [.ref tp, .ref d, .ref ft, .ref bl, .int (nI (v4_0 + 1)), .int ca, .ref wk, .int (nI sz), .ref fl, .ref sr, .int (nI cnt), cv, .ref cl, .int (nI rw)])), (tp, .inr (8, [.ref tb, .int (nI L)])), (tb, .inl (κ 0, 800, .inl tf)), (d, .inl (κ 0, 6, .inl dl))] ++ []) H := hP
      have hD : va_D A ([(rd, .inr (4, [.ref tp, .ref d, .ref ft, .ref bl, .int (nI (v4_0 + 1)), .int ca, .ref wk, .int (nI sz), .ref fl, .ref sr, .int (nI cnt), cv, .ref cl, .int (nI rw)])), (tp, .inr (8, [.ref tb, .int (nI L)])), (tb, .inl (κ 0, 800, .inl tf)), (d, .inl (κ 0, 6, .inl dl))] ++ []) := hD
      refine lv_goto (tgt := 0) hx hb dX4_toLine_41 (by decide) ?_
      exact ih0 _ _ _ _ (by omega) ⟨(v4_0 + 1), (by omega), (by omega), rfl, hP, hD, hS, lv_sub hl [0] rfl⟩
