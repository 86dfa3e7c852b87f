theorem dJ6_compare_7cf53_0 : decode cJ6_compare_7cf53 0 = .ok (.iload_n 0, 1) := by decide +kernel
theorem dJ6_compare_7cf53_1 : decode cJ6_compare_7cf53 1 = .ok (.iload_n 1, 1) := by decide +kernel
theorem dJ6_compare_7cf53_2 : decode cJ6_compare_7cf53 2 = .ok (.if_icmp .ge 7, 3) := by decide +kernel
theorem dJ6_compare_7cf53_9 : decode cJ6_compare_7cf53 9 = .ok (.iload_n 0, 1) := by decide +kernel
theorem dJ6_compare_7cf53_10 : decode cJ6_compare_7cf53 10 = .ok (.iload_n 1, 1) := by decide +kernel
theorem dJ6_compare_7cf53_11 : decode cJ6_compare_7cf53 11 = .ok (.if_icmp .ne 7, 3) := by decide +kernel
theorem dJ6_compare_7cf53_18 : decode cJ6_compare_7cf53 18 = .ok (.iconst 1, 1) := by decide +kernel
theorem dJ6_compare_7cf53_19 : decode cJ6_compare_7cf53 19 = .ok (.ireturn, 1) := by decide +kernel
theorem dJ6_compare_7cf53_14 : decode cJ6_compare_7cf53 14 = .ok (.iconst 0, 1) := by decide +kernel
theorem dJ6_compare_7cf53_15 : decode cJ6_compare_7cf53 15 = .ok (.goto 4, 3) := by decide +kernel
theorem dJ6_compare_7cf53_5 : decode cJ6_compare_7cf53 5 = .ok (.iconst (-1), 1) := by decide +kernel
theorem dJ6_compare_7cf53_6 : decode cJ6_compare_7cf53 6 = .ok (.goto 13, 3) := by decide +kernel
theorem dJ13_compare_74951_0 : decode cJ13_compare_74951 0 = .ok (.lload_n 0, 1) := by decide +kernel
theorem dJ13_compare_74951_1 : decode cJ13_compare_74951 1 = .ok (.lload_n 2, 1) := by decide +kernel
theorem dJ13_compare_74951_2 : decode cJ13_compare_74951 2 = .ok (.lcmp, 1) := by decide +kernel
theorem dJ13_compare_74951_3 : decode cJ13_compare_74951 3 = .ok (.ifCond .ge 7, 3) := by decide +kernel
theorem dJ13_compare_74951_10 : decode cJ13_compare_74951 10 = .ok (.lload_n 0, 1) := by decide +kernel
theorem dJ13_compare_74951_11 : decode cJ13_compare_74951 11 = .ok (.lload_n 2, 1) := by decide +kernel
theorem dJ13_compare_74951_12 : decode cJ13_compare_74951 12 = .ok (.lcmp, 1) := by decide +kernel
theorem dJ13_compare_74951_13 : decode cJ13_compare_74951 13 = .ok (.ifCond .ne 7, 3) := by decide +kernel
theorem dJ13_compare_74951_20 : decode cJ13_compare_74951 20 = .ok (.iconst 1, 1) := by decide +kernel
theorem dJ13_compare_74951_21 : decode cJ13_compare_74951 21 = .ok (.ireturn, 1) := by decide +kernel
theorem dJ13_compare_74951_16 : decode cJ13_compare_74951 16 = .ok (.iconst 0, 1) := by decide +kernel
theorem dJ13_compare_74951_17 : decode cJ13_compare_74951 17 = .ok (.goto 4, 3) := by decide +kernel
theorem dJ13_compare_74951_6 : decode cJ13_compare_74951 6 = .ok (.iconst (-1), 1) := by decide +kernel
theorem dJ13_compare_74951_7 : decode cJ13_compare_74951 7 = .ok (.goto 14, 3) := by decide +kernel
theorem dX0_isDigit_0 : decode cX0_isDigit 0 = .ok (.iload_n 0, 1) := by decide +kernel
theorem dX0_isDigit_1 : decode cX0_isDigit 1 = .ok (.bipush 48, 2) := by decide +kernel
theorem dX0_isDigit_3 : decode cX0_isDigit 3 = .ok (.if_icmp .lt 13, 3) := by decide +kernel
theorem dX0_isDigit_16 : decode cX0_isDigit 16 = .ok (.iconst 0, 1) := by decide +kernel
theorem dX0_isDigit_17 : decode cX0_isDigit 17 = .ok (.ireturn, 1) := by decide +kernel
theorem dX0_isDigit_6 : decode cX0_isDigit 6 = .ok (.iload_n 0, 1) := by decide +kernel
theorem dX0_isDigit_7 : decode cX0_isDigit 7 = .ok (.bipush 57, 2) := by decide +kernel
theorem dX0_isDigit_9 : decode cX0_isDigit 9 = .ok (.if_icmp .gt 7, 3) := by decide +kernel
theorem dX0_isDigit_12 : decode cX0_isDigit 12 = .ok (.iconst 1, 1) := by decide +kernel
theorem dX0_isDigit_13 : decode cX0_isDigit 13 = .ok (.goto 4, 3) := by decide +kernel
theorem dX0_isEmpty_0 : decode cX0_isEmpty 0 = .ok (.aload_n 0, 1) := by decide +kernel
theorem dX0_isEmpty_1 : decode cX0_isEmpty 1 = .ok (.getfield 9, 3) := by decide +kernel
theorem mw_88 : Cond.fieldLink RX0 9 "TypedTables$Cell" "bytes" "[B" ∈ wsL_law := lrk_4 _ (List.mem_of_getElem? (i := 16) rfl)
theorem dX0_isEmpty_4 : decode cX0_isEmpty 4 = .ok (.arraylength, 1) := by decide +kernel
theorem dX0_isEmpty_5 : decode cX0_isEmpty 5 = .ok (.ifCond .ne 7, 3) := by decide +kernel
theorem dX0_isEmpty_12 : decode cX0_isEmpty 12 = .ok (.iconst 0, 1) := by decide +kernel
theorem dX0_isEmpty_13 : decode cX0_isEmpty 13 = .ok (.ireturn, 1) := by decide +kernel
theorem dX0_isEmpty_8 : decode cX0_isEmpty 8 = .ok (.iconst 1, 1) := by decide +kernel
theorem dX0_isEmpty_9 : decode cX0_isEmpty 9 = .ok (.goto 4, 3) := by decide +kernel
theorem dX0_numberAs_0 : decode cX0_numberAs 0 = .ok (.iload_n 1, 1) := by decide +kernel
theorem dX0_numberAs_1 : decode cX0_numberAs 1 = .ok (.iconst 5, 1) := by decide +kernel
theorem dX0_numberAs_2 : decode cX0_numberAs 2 = .ok (.if_icmp .ne 10, 3) := by decide +kernel
theorem dX0_numberAs_12 : decode cX0_numberAs 12 = .ok (.iload_n 1, 1) := by decide +kernel
theorem dX0_numberAs_13 : decode cX0_numberAs 13 = .ok (.iconst 3, 1) := by decide +kernel
theorem dX0_numberAs_14 : decode cX0_numberAs 14 = .ok (.if_icmp .ne 22, 3) := by decide +kernel
theorem dX0_numberAs_36 : decode cX0_numberAs 36 = .ok (.aload_n 0, 1) := by decide +kernel
theorem dX0_numberAs_37 : decode cX0_numberAs 37 = .ok (.getfield 27, 3) := by decide +kernel
theorem mw_90 : Cond.fieldLink RX0 27 "TypedTables$Cell" "number" "J" ∈ wsL_law := lrk_4 _ (List.mem_of_getElem? (i := 18) rfl)
theorem dX0_numberAs_40 : decode cX0_numberAs 40 = .ok (.lreturn, 1) := by decide +kernel
theorem dX0_numberAs_17 : decode cX0_numberAs 17 = .ok (.aload_n 0, 1) := by decide +kernel
theorem dX0_numberAs_18 : decode cX0_numberAs 18 = .ok (.getfield 19, 3) := by decide +kernel
theorem mw_89 : Cond.fieldLink RX0 19 "TypedTables$Cell" "kind" "I" ∈ wsL_law := lrk_4 _ (List.mem_of_getElem? (i := 17) rfl)
theorem dX0_numberAs_21 : decode cX0_numberAs 21 = .ok (.iconst 2, 1) := by decide +kernel
theorem dX0_numberAs_22 : decode cX0_numberAs 22 = .ok (.if_icmp .ne 14, 3) := by decide +kernel
theorem dX0_numberAs_25 : decode cX0_numberAs 25 = .ok (.aload_n 0, 1) := by decide +kernel
theorem dX0_numberAs_26 : decode cX0_numberAs 26 = .ok (.getfield 27, 3) := by decide +kernel
theorem dX0_numberAs_29 : decode cX0_numberAs 29 = .ok (.ldc2_w 31, 3) := by decide +kernel
theorem mw_891 : Cond.constantLong RX0 31 (10000) ∈ wsL_law := lrk_38 _ (List.mem_of_getElem? (i := 3) rfl)
theorem dX0_numberAs_32 : decode cX0_numberAs 32 = .ok (.lmul, 1) := by decide +kernel
theorem dX0_numberAs_33 : decode cX0_numberAs 33 = .ok (.goto 7, 3) := by decide +kernel
theorem dX0_numberAs_5 : decode cX0_numberAs 5 = .ok (.aload_n 0, 1) := by decide +kernel
theorem dX0_numberAs_6 : decode cX0_numberAs 6 = .ok (.getfield 9, 3) := by decide +kernel
theorem dX0_numberAs_9 : decode cX0_numberAs 9 = .ok (.arraylength, 1) := by decide +kernel
theorem dX0_numberAs_10 : decode cX0_numberAs 10 = .ok (.i2l, 1) := by decide +kernel
theorem dX0_numberAs_11 : decode cX0_numberAs 11 = .ok (.lreturn, 1) := by decide +kernel
theorem dX0_bytesComparedTo_0 : decode cX0_bytesComparedTo 0 = .ok (.aload_n 0, 1) := by decide +kernel
theorem dX0_bytesComparedTo_1 : decode cX0_bytesComparedTo 1 = .ok (.getfield 9, 3) := by decide +kernel
theorem dX0_bytesComparedTo_4 : decode cX0_bytesComparedTo 4 = .ok (.arraylength, 1) := by decide +kernel
theorem dX0_bytesComparedTo_5 : decode cX0_bytesComparedTo 5 = .ok (.aload_n 1, 1) := by decide +kernel
theorem dX0_bytesComparedTo_6 : decode cX0_bytesComparedTo 6 = .ok (.getfield 9, 3) := by decide +kernel
theorem dX0_bytesComparedTo_9 : decode cX0_bytesComparedTo 9 = .ok (.arraylength, 1) := by decide +kernel
theorem dX0_bytesComparedTo_10 : decode cX0_bytesComparedTo 10 = .ok (.invokestatic 56, 3) := by decide +kernel
theorem mw_886 : Cond.methodLink RX0 56 Lib.Math.min.name ∈ wsL_law := lrk_37 _ (List.mem_of_getElem? (i := 22) rfl)
theorem mw_317 : Cond.static Lib.Math.min.name ∈ wsL_law := lrk_14 _ (List.mem_of_getElem? (i := 5) rfl)
theorem mw_318 : Cond.initialized "java/lang/Math" ∈ wsL_law := lrk_14 _ (List.mem_of_getElem? (i := 6) rfl)
theorem mw_319 : Cond.code Lib.Math.min.name Lib.Math.min.code 2 (some .int) ∈ wsL_law := lrk_14 _ (List.mem_of_getElem? (i := 7) rfl)
theorem dX0_bytesComparedTo_13 : decode cX0_bytesComparedTo 13 = .ok (.istore_n 2, 1) := by decide +kernel
theorem dX0_bytesComparedTo_14 : decode cX0_bytesComparedTo 14 = .ok (.iconst 0, 1) := by decide +kernel
theorem dX0_bytesComparedTo_15 : decode cX0_bytesComparedTo 15 = .ok (.istore_n 3, 1) := by decide +kernel
theorem dX0_bytesComparedTo_16 : decode cX0_bytesComparedTo 16 = .ok (.iload_n 3, 1) := by decide +kernel
theorem dX0_bytesComparedTo_17 : decode cX0_bytesComparedTo 17 = .ok (.iload_n 2, 1) := by decide +kernel
theorem dX0_bytesComparedTo_18 : decode cX0_bytesComparedTo 18 = .ok (.if_icmp .ge 40, 3) := by decide +kernel
theorem dX0_bytesComparedTo_58 : decode cX0_bytesComparedTo 58 = .ok (.aload_n 0, 1) := by decide +kernel
theorem dX0_bytesComparedTo_59 : decode cX0_bytesComparedTo 59 = .ok (.getfield 9, 3) := by decide +kernel
theorem dX0_bytesComparedTo_62 : decode cX0_bytesComparedTo 62 = .ok (.arraylength, 1) := by decide +kernel
theorem dX0_bytesComparedTo_63 : decode cX0_bytesComparedTo 63 = .ok (.aload_n 1, 1) := by decide +kernel
theorem dX0_bytesComparedTo_64 : decode cX0_bytesComparedTo 64 = .ok (.getfield 9, 3) := by decide +kernel
theorem dX0_bytesComparedTo_67 : decode cX0_bytesComparedTo 67 = .ok (.arraylength, 1) := by decide +kernel
theorem dX0_bytesComparedTo_68 : decode cX0_bytesComparedTo 68 = .ok (.invokestatic 37, 3) := by decide +kernel
theorem mw_881 : Cond.code yJ6_compare_7cf53 cJ6_compare_7cf53 2 (some .int) ∈ wsL_law := lrk_37 _ (List.mem_of_getElem? (i := 17) rfl)
theorem mw_878 : Cond.methodLink RX0 37 yJ6_compare_7cf53 ∈ wsL_law := lrk_37 _ (List.mem_of_getElem? (i := 14) rfl)
theorem mw_880 : Cond.initialized RJ6 ∈ wsL_law := lrk_37 _ (List.mem_of_getElem? (i := 16) rfl)
theorem mw_879 : Cond.static yJ6_compare_7cf53 ∈ wsL_law := lrk_37 _ (List.mem_of_getElem? (i := 15) rfl)
theorem gS_X0_37 : GoodIn wsL_law (va_wsS RX0 37 yJ6_compare_7cf53 (wl yJ6_compare_7cf53 cJ6_compare_7cf53 2 (some .int))) := g_S mw_878 mw_879 mw_880 mw_881
theorem hdS_J6_compare_7cf53 : okD yJ6_compare_7cf53 2 := by decide +kernel
theorem dX0_bytesComparedTo_71 : decode cX0_bytesComparedTo 71 = .ok (.ireturn, 1) := by decide +kernel
theorem dX0_bytesComparedTo_21 : decode cX0_bytesComparedTo 21 = .ok (.aload_n 0, 1) := by decide +kernel
theorem dX0_bytesComparedTo_22 : decode cX0_bytesComparedTo 22 = .ok (.getfield 9, 3) := by decide +kernel
theorem dX0_bytesComparedTo_25 : decode cX0_bytesComparedTo 25 = .ok (.iload_n 3, 1) := by decide +kernel
theorem dX0_bytesComparedTo_26 : decode cX0_bytesComparedTo 26 = .ok (.baload, 1) := by decide +kernel
theorem dX0_bytesComparedTo_27 : decode cX0_bytesComparedTo 27 = .ok (.aload_n 1, 1) := by decide +kernel
theorem dX0_bytesComparedTo_28 : decode cX0_bytesComparedTo 28 = .ok (.getfield 9, 3) := by decide +kernel
theorem dX0_bytesComparedTo_31 : decode cX0_bytesComparedTo 31 = .ok (.iload_n 3, 1) := by decide +kernel
theorem dX0_bytesComparedTo_32 : decode cX0_bytesComparedTo 32 = .ok (.baload, 1) := by decide +kernel
theorem dX0_bytesComparedTo_33 : decode cX0_bytesComparedTo 33 = .ok (.if_icmp .eq 19, 3) := by decide +kernel
theorem dX0_bytesComparedTo_52 : decode cX0_bytesComparedTo 52 = .ok (.iinc 3 1, 3) := by decide +kernel
theorem dX0_bytesComparedTo_55 : decode cX0_bytesComparedTo 55 = .ok (.goto (-39), 3) := by decide +kernel
theorem dX0_bytesComparedTo_36 : decode cX0_bytesComparedTo 36 = .ok (.aload_n 0, 1) := by decide +kernel
theorem dX0_bytesComparedTo_37 : decode cX0_bytesComparedTo 37 = .ok (.getfield 9, 3) := by decide +kernel
theorem dX0_bytesComparedTo_40 : decode cX0_bytesComparedTo 40 = .ok (.iload_n 3, 1) := by decide +kernel
theorem dX0_bytesComparedTo_41 : decode cX0_bytesComparedTo 41 = .ok (.baload, 1) := by decide +kernel
theorem dX0_bytesComparedTo_42 : decode cX0_bytesComparedTo 42 = .ok (.aload_n 1, 1) := by decide +kernel
theorem dX0_bytesComparedTo_43 : decode cX0_bytesComparedTo 43 = .ok (.getfield 9, 3) := by decide +kernel
theorem dX0_bytesComparedTo_46 : decode cX0_bytesComparedTo 46 = .ok (.iload_n 3, 1) := by decide +kernel
theorem dX0_bytesComparedTo_47 : decode cX0_bytesComparedTo 47 = .ok (.baload, 1) := by decide +kernel
theorem dX0_bytesComparedTo_48 : decode cX0_bytesComparedTo 48 = .ok (.invokestatic 37, 3) := by decide +kernel
theorem dX0_bytesComparedTo_51 : decode cX0_bytesComparedTo 51 = .ok (.ireturn, 1) := by decide +kernel
theorem dX0_hasBytesOf_0 : decode cX0_hasBytesOf 0 = .ok (.aload_n 0, 1) := by decide +kernel
theorem dX0_hasBytesOf_1 : decode cX0_hasBytesOf 1 = .ok (.aload_n 1, 1) := by decide +kernel
theorem dX0_hasBytesOf_2 : decode cX0_hasBytesOf 2 = .ok (.invokevirtual 43, 3) := by decide +kernel
theorem mw_885 : Cond.code yX0_bytesComparedTo cX0_bytesComparedTo 4 (some .int) ∈ wsL_law := lrk_37 _ (List.mem_of_getElem? (i := 21) rfl)
theorem mw_882 : Cond.methodLink RX0 43 yX0_bytesComparedTo ∈ wsL_law := lrk_37 _ (List.mem_of_getElem? (i := 18) rfl)
theorem mw_68 : Cond.initialized RX0 ∈ wsL_law := lrk_3 _ (List.mem_of_getElem? (i := 20) rfl)
theorem mw_883 : Cond.instanceMethod yX0_bytesComparedTo ∈ wsL_law := lrk_37 _ (List.mem_of_getElem? (i := 19) rfl)
theorem mw_884 : Cond.selects RX0 yX0_bytesComparedTo yX0_bytesComparedTo ∈ wsL_law := lrk_37 _ (List.mem_of_getElem? (i := 20) rfl)
theorem gV_X0_43 : GoodIn wsL_law (wsV RX0 43 RX0 yX0_bytesComparedTo (wl yX0_bytesComparedTo cX0_bytesComparedTo 4 (some .int))) := g_V mw_882 mw_883 mw_884 mw_68 mw_885
theorem hdV_X0_bytesComparedTo : yX0_bytesComparedTo.cls = RX0 ∧ okD yX0_bytesComparedTo 1 := by decide +kernel
theorem dX0_hasBytesOf_5 : decode cX0_hasBytesOf 5 = .ok (.ifCond .ne 7, 3) := by decide +kernel
theorem dX0_hasBytesOf_12 : decode cX0_hasBytesOf 12 = .ok (.iconst 0, 1) := by decide +kernel
theorem dX0_hasBytesOf_13 : decode cX0_hasBytesOf 13 = .ok (.ireturn, 1) := by decide +kernel
theorem dX0_hasBytesOf_8 : decode cX0_hasBytesOf 8 = .ok (.iconst 1, 1) := by decide +kernel
theorem dX0_hasBytesOf_9 : decode cX0_hasBytesOf 9 = .ok (.goto 4, 3) := by decide +kernel
theorem dX0_holdsAt_0 : decode cX0_holdsAt 0 = .ok (.iconst 0, 1) := by decide +kernel
theorem dX0_holdsAt_1 : decode cX0_holdsAt 1 = .ok (.istore_n 3, 1) := by decide +kernel
theorem dX0_holdsAt_2 : decode cX0_holdsAt 2 = .ok (.iload_n 3, 1) := by decide +kernel
theorem dX0_holdsAt_3 : decode cX0_holdsAt 3 = .ok (.aload_n 1, 1) := by decide +kernel
theorem dX0_holdsAt_4 : decode cX0_holdsAt 4 = .ok (.getfield 9, 3) := by decide +kernel
theorem dX0_holdsAt_7 : decode cX0_holdsAt 7 = .ok (.arraylength, 1) := by decide +kernel
theorem dX0_holdsAt_8 : decode cX0_holdsAt 8 = .ok (.if_icmp .ge 28, 3) := by decide +kernel
theorem dX0_holdsAt_36 : decode cX0_holdsAt 36 = .ok (.iconst 1, 1) := by decide +kernel
theorem dX0_holdsAt_37 : decode cX0_holdsAt 37 = .ok (.ireturn, 1) := by decide +kernel
theorem dX0_holdsAt_11 : decode cX0_holdsAt 11 = .ok (.aload_n 0, 1) := by decide +kernel
theorem dX0_holdsAt_12 : decode cX0_holdsAt 12 = .ok (.getfield 9, 3) := by decide +kernel
theorem dX0_holdsAt_15 : decode cX0_holdsAt 15 = .ok (.iload_n 2, 1) := by decide +kernel
theorem dX0_holdsAt_16 : decode cX0_holdsAt 16 = .ok (.iload_n 3, 1) := by decide +kernel
theorem dX0_holdsAt_17 : decode cX0_holdsAt 17 = .ok (.iadd, 1) := by decide +kernel
theorem dX0_holdsAt_18 : decode cX0_holdsAt 18 = .ok (.baload, 1) := by decide +kernel
theorem dX0_holdsAt_19 : decode cX0_holdsAt 19 = .ok (.aload_n 1, 1) := by decide +kernel
theorem dX0_holdsAt_20 : decode cX0_holdsAt 20 = .ok (.getfield 9, 3) := by decide +kernel
theorem dX0_holdsAt_23 : decode cX0_holdsAt 23 = .ok (.iload_n 3, 1) := by decide +kernel
theorem dX0_holdsAt_24 : decode cX0_holdsAt 24 = .ok (.baload, 1) := by decide +kernel
theorem dX0_holdsAt_25 : decode cX0_holdsAt 25 = .ok (.if_icmp .eq 5, 3) := by decide +kernel
theorem dX0_holdsAt_30 : decode cX0_holdsAt 30 = .ok (.iinc 3 1, 3) := by decide +kernel
theorem dX0_holdsAt_33 : decode cX0_holdsAt 33 = .ok (.goto (-31), 3) := by decide +kernel
theorem dX0_holdsAt_28 : decode cX0_holdsAt 28 = .ok (.iconst 0, 1) := by decide +kernel
theorem dX0_holdsAt_29 : decode cX0_holdsAt 29 = .ok (.ireturn, 1) := by decide +kernel
theorem dX0_holdsBytesOf_0 : decode cX0_holdsBytesOf 0 = .ok (.aload_n 0, 1) := by decide +kernel
theorem dX0_holdsBytesOf_1 : decode cX0_holdsBytesOf 1 = .ok (.getfield 9, 3) := by decide +kernel
theorem dX0_holdsBytesOf_4 : decode cX0_holdsBytesOf 4 = .ok (.arraylength, 1) := by decide +kernel
theorem dX0_holdsBytesOf_5 : decode cX0_holdsBytesOf 5 = .ok (.aload_n 1, 1) := by decide +kernel
theorem dX0_holdsBytesOf_6 : decode cX0_holdsBytesOf 6 = .ok (.getfield 9, 3) := by decide +kernel
theorem dX0_holdsBytesOf_9 : decode cX0_holdsBytesOf 9 = .ok (.arraylength, 1) := by decide +kernel
theorem dX0_holdsBytesOf_10 : decode cX0_holdsBytesOf 10 = .ok (.isub, 1) := by decide +kernel
theorem dX0_holdsBytesOf_11 : decode cX0_holdsBytesOf 11 = .ok (.istore_n 2, 1) := by decide +kernel
theorem dX0_holdsBytesOf_12 : decode cX0_holdsBytesOf 12 = .ok (.iconst 0, 1) := by decide +kernel
theorem dX0_holdsBytesOf_13 : decode cX0_holdsBytesOf 13 = .ok (.istore_n 3, 1) := by decide +kernel
theorem dX0_holdsBytesOf_14 : decode cX0_holdsBytesOf 14 = .ok (.iload_n 3, 1) := by decide +kernel
theorem dX0_holdsBytesOf_15 : decode cX0_holdsBytesOf 15 = .ok (.iload_n 2, 1) := by decide +kernel
theorem dX0_holdsBytesOf_16 : decode cX0_holdsBytesOf 16 = .ok (.if_icmp .gt 20, 3) := by decide +kernel
theorem dX0_holdsBytesOf_36 : decode cX0_holdsBytesOf 36 = .ok (.iconst 0, 1) := by decide +kernel
theorem dX0_holdsBytesOf_37 : decode cX0_holdsBytesOf 37 = .ok (.ireturn, 1) := by decide +kernel
theorem dX0_holdsBytesOf_19 : decode cX0_holdsBytesOf 19 = .ok (.aload_n 0, 1) := by decide +kernel
theorem dX0_holdsBytesOf_20 : decode cX0_holdsBytesOf 20 = .ok (.aload_n 1, 1) := by decide +kernel
theorem dX0_holdsBytesOf_21 : decode cX0_holdsBytesOf 21 = .ok (.iload_n 3, 1) := by decide +kernel
theorem dX0_holdsBytesOf_22 : decode cX0_holdsBytesOf 22 = .ok (.invokevirtual 61, 3) := by decide +kernel
theorem mw_1007 : Cond.code yX0_holdsAt cX0_holdsAt 4 (some .boolean) ∈ wsL_law := lrk_42 _ (List.mem_of_getElem? (i := 23) rfl)
theorem mw_1004 : Cond.methodLink RX0 61 yX0_holdsAt ∈ wsL_law := lrk_42 _ (List.mem_of_getElem? (i := 20) rfl)
theorem mw_1005 : Cond.instanceMethod yX0_holdsAt ∈ wsL_law := lrk_42 _ (List.mem_of_getElem? (i := 21) rfl)
theorem mw_1006 : Cond.selects RX0 yX0_holdsAt yX0_holdsAt ∈ wsL_law := lrk_42 _ (List.mem_of_getElem? (i := 22) rfl)
theorem gV_X0_61 : GoodIn wsL_law (wsV RX0 61 RX0 yX0_holdsAt (wl yX0_holdsAt cX0_holdsAt 4 (some .boolean))) := g_V mw_1004 mw_1005 mw_1006 mw_68 mw_1007
theorem hdV_X0_holdsAt : yX0_holdsAt.cls = RX0 ∧ okD yX0_holdsAt 2 := by decide +kernel
theorem dX0_holdsBytesOf_25 : decode cX0_holdsBytesOf 25 = .ok (.ifCond .eq 5, 3) := by decide +kernel
theorem dX0_holdsBytesOf_28 : decode cX0_holdsBytesOf 28 = .ok (.iconst 1, 1) := by decide +kernel
theorem dX0_holdsBytesOf_29 : decode cX0_holdsBytesOf 29 = .ok (.ireturn, 1) := by decide +kernel
theorem dX0_holdsBytesOf_30 : decode cX0_holdsBytesOf 30 = .ok (.iinc 3 1, 3) := by decide +kernel
theorem dX0_holdsBytesOf_33 : decode cX0_holdsBytesOf 33 = .ok (.goto (-19), 3) := by decide +kernel
theorem dX0_comparedTo_0 : decode cX0_comparedTo 0 = .ok (.aload_n 0, 1) := by decide +kernel
theorem dX0_comparedTo_1 : decode cX0_comparedTo 1 = .ok (.invokevirtual 33, 3) := by decide +kernel
theorem mw_872 : Cond.code yX0_isEmpty cX0_isEmpty 1 (some .boolean) ∈ wsL_law := lrk_37 _ (List.mem_of_getElem? (i := 8) rfl)
theorem mw_877 : Cond.methodLink RX0 33 yX0_isEmpty ∈ wsL_law := lrk_37 _ (List.mem_of_getElem? (i := 13) rfl)
theorem mw_870 : Cond.instanceMethod yX0_isEmpty ∈ wsL_law := lrk_37 _ (List.mem_of_getElem? (i := 6) rfl)
theorem mw_871 : Cond.selects RX0 yX0_isEmpty yX0_isEmpty ∈ wsL_law := lrk_37 _ (List.mem_of_getElem? (i := 7) rfl)
theorem gV_X0_33 : GoodIn wsL_law (wsV RX0 33 RX0 yX0_isEmpty (wl yX0_isEmpty cX0_isEmpty 1 (some .boolean))) := g_V mw_877 mw_870 mw_871 mw_68 mw_872
theorem hdV_X0_isEmpty : yX0_isEmpty.cls = RX0 ∧ okD yX0_isEmpty 0 := by decide +kernel
theorem dX0_comparedTo_4 : decode cX0_comparedTo 4 = .ok (.ifCond .ne 10, 3) := by decide +kernel
theorem dX0_comparedTo_14 : decode cX0_comparedTo 14 = .ok (.aload_n 0, 1) := by decide +kernel
theorem dX0_comparedTo_15 : decode cX0_comparedTo 15 = .ok (.getfield 9, 3) := by decide +kernel
theorem dX0_comparedTo_18 : decode cX0_comparedTo 18 = .ok (.arraylength, 1) := by decide +kernel
theorem dX0_comparedTo_19 : decode cX0_comparedTo 19 = .ok (.aload_n 1, 1) := by decide +kernel
theorem dX0_comparedTo_20 : decode cX0_comparedTo 20 = .ok (.getfield 9, 3) := by decide +kernel
theorem dX0_comparedTo_23 : decode cX0_comparedTo 23 = .ok (.arraylength, 1) := by decide +kernel
theorem dX0_comparedTo_24 : decode cX0_comparedTo 24 = .ok (.invokestatic 37, 3) := by decide +kernel
theorem dX0_comparedTo_27 : decode cX0_comparedTo 27 = .ok (.ireturn, 1) := by decide +kernel
theorem dX0_comparedTo_7 : decode cX0_comparedTo 7 = .ok (.aload_n 1, 1) := by decide +kernel
theorem dX0_comparedTo_8 : decode cX0_comparedTo 8 = .ok (.invokevirtual 33, 3) := by decide +kernel
theorem dX0_comparedTo_11 : decode cX0_comparedTo 11 = .ok (.ifCond .eq 17, 3) := by decide +kernel
theorem dX0_comparedTo_28 : decode cX0_comparedTo 28 = .ok (.iload_n 2, 1) := by decide +kernel
theorem dX0_comparedTo_29 : decode cX0_comparedTo 29 = .ok (.iconst 5, 1) := by decide +kernel
theorem dX0_comparedTo_30 : decode cX0_comparedTo 30 = .ok (.if_icmp .ne 9, 3) := by decide +kernel
theorem dX0_comparedTo_39 : decode cX0_comparedTo 39 = .ok (.aload_n 0, 1) := by decide +kernel
theorem dX0_comparedTo_40 : decode cX0_comparedTo 40 = .ok (.iload_n 2, 1) := by decide +kernel
theorem dX0_comparedTo_41 : decode cX0_comparedTo 41 = .ok (.invokevirtual 47, 3) := by decide +kernel
theorem mw_890 : Cond.code yX0_numberAs cX0_numberAs 2 (some .long) ∈ wsL_law := lrk_38 _ (List.mem_of_getElem? (i := 2) rfl)
theorem mw_887 : Cond.methodLink RX0 47 yX0_numberAs ∈ wsL_law := lrk_37 _ (List.mem_of_getElem? (i := 23) rfl)
theorem mw_888 : Cond.instanceMethod yX0_numberAs ∈ wsL_law := lrk_38 _ (List.mem_of_getElem? (i := 0) rfl)
theorem mw_889 : Cond.selects RX0 yX0_numberAs yX0_numberAs ∈ wsL_law := lrk_38 _ (List.mem_of_getElem? (i := 1) rfl)
theorem gV_X0_47 : GoodIn wsL_law (wsV RX0 47 RX0 yX0_numberAs (wl yX0_numberAs cX0_numberAs 2 (some .long))) := g_V mw_887 mw_888 mw_889 mw_68 mw_890
theorem hdV_X0_numberAs : yX0_numberAs.cls = RX0 ∧ okD yX0_numberAs 1 := by decide +kernel
theorem dX0_comparedTo_44 : decode cX0_comparedTo 44 = .ok (.aload_n 1, 1) := by decide +kernel
theorem dX0_comparedTo_45 : decode cX0_comparedTo 45 = .ok (.iload_n 2, 1) := by decide +kernel
theorem dX0_comparedTo_46 : decode cX0_comparedTo 46 = .ok (.invokevirtual 47, 3) := by decide +kernel
theorem dX0_comparedTo_49 : decode cX0_comparedTo 49 = .ok (.invokestatic 51, 3) := by decide +kernel
theorem mw_895 : Cond.code yJ13_compare_74951 cJ13_compare_74951 4 (some .int) ∈ wsL_law := lrk_38 _ (List.mem_of_getElem? (i := 7) rfl)
theorem mw_892 : Cond.methodLink RX0 51 yJ13_compare_74951 ∈ wsL_law := lrk_38 _ (List.mem_of_getElem? (i := 4) rfl)
theorem mw_894 : Cond.initialized RJ13 ∈ wsL_law := lrk_38 _ (List.mem_of_getElem? (i := 6) rfl)
theorem mw_893 : Cond.static yJ13_compare_74951 ∈ wsL_law := lrk_38 _ (List.mem_of_getElem? (i := 5) rfl)
theorem gS_X0_51 : GoodIn wsL_law (va_wsS RX0 51 yJ13_compare_74951 (wl yJ13_compare_74951 cJ13_compare_74951 4 (some .int))) := g_S mw_892 mw_893 mw_894 mw_895
theorem hdS_J13_compare_74951 : okD yJ13_compare_74951 2 := by decide +kernel
theorem dX0_comparedTo_52 : decode cX0_comparedTo 52 = .ok (.ireturn, 1) := by decide +kernel
theorem dX0_comparedTo_33 : decode cX0_comparedTo 33 = .ok (.aload_n 0, 1) := by decide +kernel
theorem dX0_comparedTo_34 : decode cX0_comparedTo 34 = .ok (.aload_n 1, 1) := by decide +kernel
theorem dX0_comparedTo_35 : decode cX0_comparedTo 35 = .ok (.invokevirtual 43, 3) := by decide +kernel
theorem dX0_comparedTo_38 : decode cX0_comparedTo 38 = .ok (.ireturn, 1) := by decide +kernel
theorem dX0_isLeap_0 : decode cX0_isLeap 0 = .ok (.iload_n 0, 1) := by decide +kernel
theorem dX0_isLeap_1 : decode cX0_isLeap 1 = .ok (.iconst 4, 1) := by decide +kernel
theorem dX0_isLeap_2 : decode cX0_isLeap 2 = .ok (.irem, 1) := by decide +kernel
theorem dX0_isLeap_3 : decode cX0_isLeap 3 = .ok (.ifCond .ne 22, 3) := by decide +kernel
theorem dX0_isLeap_25 : decode cX0_isLeap 25 = .ok (.iconst 0, 1) := by decide +kernel
theorem dX0_isLeap_26 : decode cX0_isLeap 26 = .ok (.ireturn, 1) := by decide +kernel
theorem dX0_isLeap_6 : decode cX0_isLeap 6 = .ok (.iload_n 0, 1) := by decide +kernel
theorem dX0_isLeap_7 : decode cX0_isLeap 7 = .ok (.bipush 100, 2) := by decide +kernel
theorem dX0_isLeap_9 : decode cX0_isLeap 9 = .ok (.irem, 1) := by decide +kernel
theorem dX0_isLeap_10 : decode cX0_isLeap 10 = .ok (.ifCond .ne 11, 3) := by decide +kernel
theorem dX0_isLeap_21 : decode cX0_isLeap 21 = .ok (.iconst 1, 1) := by decide +kernel
theorem dX0_isLeap_22 : decode cX0_isLeap 22 = .ok (.goto 4, 3) := by decide +kernel
theorem dX0_isLeap_13 : decode cX0_isLeap 13 = .ok (.iload_n 0, 1) := by decide +kernel
theorem dX0_isLeap_14 : decode cX0_isLeap 14 = .ok (.sipush 400, 3) := by decide +kernel
theorem dX0_isLeap_17 : decode cX0_isLeap 17 = .ok (.irem, 1) := by decide +kernel
theorem dX0_isLeap_18 : decode cX0_isLeap 18 = .ok (.ifCond .ne 7, 3) := by decide +kernel
theorem dX0_leapYearsAhead_0 : decode cX0_leapYearsAhead 0 = .ok (.iload_n 0, 1) := by decide +kernel
theorem dX0_leapYearsAhead_1 : decode cX0_leapYearsAhead 1 = .ok (.iconst 1, 1) := by decide +kernel
theorem dX0_leapYearsAhead_2 : decode cX0_leapYearsAhead 2 = .ok (.isub, 1) := by decide +kernel
theorem dX0_leapYearsAhead_3 : decode cX0_leapYearsAhead 3 = .ok (.istore_n 1, 1) := by decide +kernel
theorem dX0_leapYearsAhead_4 : decode cX0_leapYearsAhead 4 = .ok (.iload_n 1, 1) := by decide +kernel
theorem dX0_leapYearsAhead_5 : decode cX0_leapYearsAhead 5 = .ok (.iconst 4, 1) := by decide +kernel
theorem dX0_leapYearsAhead_6 : decode cX0_leapYearsAhead 6 = .ok (.idiv, 1) := by decide +kernel
theorem dX0_leapYearsAhead_7 : decode cX0_leapYearsAhead 7 = .ok (.iload_n 1, 1) := by decide +kernel
theorem dX0_leapYearsAhead_8 : decode cX0_leapYearsAhead 8 = .ok (.bipush 100, 2) := by decide +kernel
theorem dX0_leapYearsAhead_10 : decode cX0_leapYearsAhead 10 = .ok (.idiv, 1) := by decide +kernel
theorem dX0_leapYearsAhead_11 : decode cX0_leapYearsAhead 11 = .ok (.isub, 1) := by decide +kernel
theorem dX0_leapYearsAhead_12 : decode cX0_leapYearsAhead 12 = .ok (.iload_n 1, 1) := by decide +kernel
theorem dX0_leapYearsAhead_13 : decode cX0_leapYearsAhead 13 = .ok (.sipush 400, 3) := by decide +kernel
theorem dX0_leapYearsAhead_16 : decode cX0_leapYearsAhead 16 = .ok (.idiv, 1) := by decide +kernel
theorem dX0_leapYearsAhead_17 : decode cX0_leapYearsAhead 17 = .ok (.iadd, 1) := by decide +kernel
theorem dX0_leapYearsAhead_18 : decode cX0_leapYearsAhead 18 = .ok (.ireturn, 1) := by decide +kernel
theorem dX0_numeralKind_0 : decode cX0_numeralKind 0 = .ok (.aload_n 0, 1) := by decide +kernel
theorem dX0_numeralKind_1 : decode cX0_numeralKind 1 = .ok (.iconst 0, 1) := by decide +kernel
theorem dX0_numeralKind_2 : decode cX0_numeralKind 2 = .ok (.baload, 1) := by decide +kernel
theorem dX0_numeralKind_3 : decode cX0_numeralKind 3 = .ok (.bipush 45, 2) := by decide +kernel
theorem dX0_numeralKind_5 : decode cX0_numeralKind 5 = .ok (.if_icmp .ne 7, 3) := by decide +kernel
theorem dX0_numeralKind_12 : decode cX0_numeralKind 12 = .ok (.iconst 0, 1) := by decide +kernel
theorem dX0_numeralKind_13 : decode cX0_numeralKind 13 = .ok (.istore_n 1, 1) := by decide +kernel
theorem dX0_numeralKind_14 : decode cX0_numeralKind 14 = .ok (.aload_n 0, 1) := by decide +kernel
theorem dX0_numeralKind_15 : decode cX0_numeralKind 15 = .ok (.arraylength, 1) := by decide +kernel
theorem dX0_numeralKind_16 : decode cX0_numeralKind 16 = .ok (.istore_n 2, 1) := by decide +kernel
theorem dX0_numeralKind_17 : decode cX0_numeralKind 17 = .ok (.iload_n 1, 1) := by decide +kernel
theorem dX0_numeralKind_18 : decode cX0_numeralKind 18 = .ok (.istore_n 3, 1) := by decide +kernel
theorem dX0_numeralKind_19 : decode cX0_numeralKind 19 = .ok (.iload_n 3, 1) := by decide +kernel
theorem dX0_numeralKind_20 : decode cX0_numeralKind 20 = .ok (.aload_n 0, 1) := by decide +kernel
theorem dX0_numeralKind_21 : decode cX0_numeralKind 21 = .ok (.arraylength, 1) := by decide +kernel
theorem dX0_numeralKind_22 : decode cX0_numeralKind 22 = .ok (.if_icmp .ge 39, 3) := by decide +kernel
theorem dX0_numeralKind_61 : decode cX0_numeralKind 61 = .ok (.iload_n 2, 1) := by decide +kernel
theorem dX0_numeralKind_62 : decode cX0_numeralKind 62 = .ok (.iload_n 1, 1) := by decide +kernel
theorem dX0_numeralKind_63 : decode cX0_numeralKind 63 = .ok (.isub, 1) := by decide +kernel
theorem dX0_numeralKind_64 : decode cX0_numeralKind 64 = .ok (.istore_n 3, 1) := by decide +kernel
theorem dX0_numeralKind_65 : decode cX0_numeralKind 65 = .ok (.iload_n 3, 1) := by decide +kernel
theorem dX0_numeralKind_66 : decode cX0_numeralKind 66 = .ok (.iconst 1, 1) := by decide +kernel
theorem dX0_numeralKind_67 : decode cX0_numeralKind 67 = .ok (.if_icmp .lt 22, 3) := by decide +kernel
theorem dX0_numeralKind_89 : decode cX0_numeralKind 89 = .ok (.iconst 5, 1) := by decide +kernel
theorem dX0_numeralKind_90 : decode cX0_numeralKind 90 = .ok (.ireturn, 1) := by decide +kernel
theorem dX0_numeralKind_70 : decode cX0_numeralKind 70 = .ok (.iload_n 3, 1) := by decide +kernel
theorem dX0_numeralKind_71 : decode cX0_numeralKind 71 = .ok (.bipush 9, 2) := by decide +kernel
theorem dX0_numeralKind_73 : decode cX0_numeralKind 73 = .ok (.if_icmp .gt 16, 3) := by decide +kernel
theorem dX0_numeralKind_76 : decode cX0_numeralKind 76 = .ok (.iload_n 3, 1) := by decide +kernel
theorem dX0_numeralKind_77 : decode cX0_numeralKind 77 = .ok (.iconst 1, 1) := by decide +kernel
theorem dX0_numeralKind_78 : decode cX0_numeralKind 78 = .ok (.if_icmp .le 13, 3) := by decide +kernel
theorem dX0_numeralKind_91 : decode cX0_numeralKind 91 = .ok (.iload_n 2, 1) := by decide +kernel
theorem dX0_numeralKind_92 : decode cX0_numeralKind 92 = .ok (.aload_n 0, 1) := by decide +kernel
theorem dX0_numeralKind_93 : decode cX0_numeralKind 93 = .ok (.arraylength, 1) := by decide +kernel
theorem dX0_numeralKind_94 : decode cX0_numeralKind 94 = .ok (.if_icmp .ne 22, 3) := by decide +kernel
theorem dX0_numeralKind_116 : decode cX0_numeralKind 116 = .ok (.aload_n 0, 1) := by decide +kernel
theorem dX0_numeralKind_117 : decode cX0_numeralKind 117 = .ok (.arraylength, 1) := by decide +kernel
theorem dX0_numeralKind_118 : decode cX0_numeralKind 118 = .ok (.iload_n 2, 1) := by decide +kernel
theorem dX0_numeralKind_119 : decode cX0_numeralKind 119 = .ok (.isub, 1) := by decide +kernel
theorem dX0_numeralKind_120 : decode cX0_numeralKind 120 = .ok (.iconst 1, 1) := by decide +kernel
theorem dX0_numeralKind_121 : decode cX0_numeralKind 121 = .ok (.isub, 1) := by decide +kernel
theorem dX0_numeralKind_122 : decode cX0_numeralKind 122 = .ok (.istore 4, 2) := by decide +kernel
theorem dX0_numeralKind_124 : decode cX0_numeralKind 124 = .ok (.iload 4, 2) := by decide +kernel
theorem dX0_numeralKind_126 : decode cX0_numeralKind 126 = .ok (.iconst 1, 1) := by decide +kernel
theorem dX0_numeralKind_127 : decode cX0_numeralKind 127 = .ok (.if_icmp .lt 13, 3) := by decide +kernel
theorem dX0_numeralKind_140 : decode cX0_numeralKind 140 = .ok (.iconst 5, 1) := by decide +kernel
theorem dX0_numeralKind_141 : decode cX0_numeralKind 141 = .ok (.ireturn, 1) := by decide +kernel
theorem dX0_numeralKind_130 : decode cX0_numeralKind 130 = .ok (.iload 4, 2) := by decide +kernel
theorem dX0_numeralKind_132 : decode cX0_numeralKind 132 = .ok (.iconst 4, 1) := by decide +kernel
theorem dX0_numeralKind_133 : decode cX0_numeralKind 133 = .ok (.if_icmp .gt 7, 3) := by decide +kernel
theorem dX0_numeralKind_136 : decode cX0_numeralKind 136 = .ok (.iconst 3, 1) := by decide +kernel
theorem dX0_numeralKind_137 : decode cX0_numeralKind 137 = .ok (.goto 4, 3) := by decide +kernel
theorem dX0_numeralKind_97 : decode cX0_numeralKind 97 = .ok (.iload_n 1, 1) := by decide +kernel
theorem dX0_numeralKind_98 : decode cX0_numeralKind 98 = .ok (.iconst 1, 1) := by decide +kernel
theorem dX0_numeralKind_99 : decode cX0_numeralKind 99 = .ok (.if_icmp .ne 15, 3) := by decide +kernel
theorem dX0_numeralKind_114 : decode cX0_numeralKind 114 = .ok (.iconst 2, 1) := by decide +kernel
theorem dX0_numeralKind_115 : decode cX0_numeralKind 115 = .ok (.ireturn, 1) := by decide +kernel
theorem dX0_numeralKind_81 : decode cX0_numeralKind 81 = .ok (.aload_n 0, 1) := by decide +kernel
theorem dX0_numeralKind_82 : decode cX0_numeralKind 82 = .ok (.iload_n 1, 1) := by decide +kernel
theorem dX0_numeralKind_83 : decode cX0_numeralKind 83 = .ok (.baload, 1) := by decide +kernel
theorem dX0_numeralKind_84 : decode cX0_numeralKind 84 = .ok (.bipush 48, 2) := by decide +kernel
theorem dX0_numeralKind_86 : decode cX0_numeralKind 86 = .ok (.if_icmp .ne 5, 3) := by decide +kernel
theorem dX0_numeralKind_25 : decode cX0_numeralKind 25 = .ok (.aload_n 0, 1) := by decide +kernel
theorem dX0_numeralKind_26 : decode cX0_numeralKind 26 = .ok (.iload_n 3, 1) := by decide +kernel
theorem dX0_numeralKind_27 : decode cX0_numeralKind 27 = .ok (.baload, 1) := by decide +kernel
theorem dX0_numeralKind_28 : decode cX0_numeralKind 28 = .ok (.bipush 46, 2) := by decide +kernel
theorem dX0_numeralKind_30 : decode cX0_numeralKind 30 = .ok (.if_icmp .ne 14, 3) := by decide +kernel
theorem dX0_numeralKind_44 : decode cX0_numeralKind 44 = .ok (.aload_n 0, 1) := by decide +kernel
theorem dX0_numeralKind_45 : decode cX0_numeralKind 45 = .ok (.iload_n 3, 1) := by decide +kernel
theorem dX0_numeralKind_46 : decode cX0_numeralKind 46 = .ok (.baload, 1) := by decide +kernel
theorem dX0_numeralKind_47 : decode cX0_numeralKind 47 = .ok (.invokestatic 101, 3) := by decide +kernel
theorem mw_161 : Cond.code yX0_isDigit cX0_isDigit 1 (some .boolean) ∈ wsL_law := lrk_7 _ (List.mem_of_getElem? (i := 17) rfl)
theorem mw_159 : Cond.methodLink RX0 101 yX0_isDigit ∈ wsL_law := lrk_7 _ (List.mem_of_getElem? (i := 15) rfl)
theorem mw_160 : Cond.static yX0_isDigit ∈ wsL_law := lrk_7 _ (List.mem_of_getElem? (i := 16) rfl)
theorem gS_X0_101 : GoodIn wsL_law (va_wsS RX0 101 yX0_isDigit (wl yX0_isDigit cX0_isDigit 1 (some .boolean))) := g_S mw_159 mw_160 mw_68 mw_161
theorem hdS_X0_isDigit : okD yX0_isDigit 1 := by decide +kernel
theorem dX0_numeralKind_50 : decode cX0_numeralKind 50 = .ok (.ifCond .ne 5, 3) := by decide +kernel
theorem dX0_numeralKind_55 : decode cX0_numeralKind 55 = .ok (.iinc 3 1, 3) := by decide +kernel
theorem dX0_numeralKind_58 : decode cX0_numeralKind 58 = .ok (.goto (-39), 3) := by decide +kernel
theorem dX0_numeralKind_53 : decode cX0_numeralKind 53 = .ok (.iconst 5, 1) := by decide +kernel
theorem dX0_numeralKind_54 : decode cX0_numeralKind 54 = .ok (.ireturn, 1) := by decide +kernel
theorem dX0_numeralKind_33 : decode cX0_numeralKind 33 = .ok (.iload_n 2, 1) := by decide +kernel
theorem dX0_numeralKind_34 : decode cX0_numeralKind 34 = .ok (.aload_n 0, 1) := by decide +kernel
theorem dX0_numeralKind_35 : decode cX0_numeralKind 35 = .ok (.arraylength, 1) := by decide +kernel
theorem dX0_numeralKind_36 : decode cX0_numeralKind 36 = .ok (.if_icmp .ne 8, 3) := by decide +kernel
theorem dX0_numeralKind_39 : decode cX0_numeralKind 39 = .ok (.iload_n 3, 1) := by decide +kernel
theorem dX0_numeralKind_40 : decode cX0_numeralKind 40 = .ok (.istore_n 2, 1) := by decide +kernel
theorem dX0_numeralKind_41 : decode cX0_numeralKind 41 = .ok (.goto 14, 3) := by decide +kernel
theorem dX0_numeralKind_8 : decode cX0_numeralKind 8 = .ok (.iconst 1, 1) := by decide +kernel
theorem dX0_numeralKind_9 : decode cX0_numeralKind 9 = .ok (.goto 4, 3) := by decide +kernel
theorem dX0_numeralKind_102 : decode cX0_numeralKind 102 = .ok (.aload_n 0, 1) := by decide +kernel
theorem dX0_numeralKind_103 : decode cX0_numeralKind 103 = .ok (.iload_n 1, 1) := by decide +kernel
theorem dX0_numeralKind_104 : decode cX0_numeralKind 104 = .ok (.baload, 1) := by decide +kernel
theorem dX0_numeralKind_105 : decode cX0_numeralKind 105 = .ok (.bipush 48, 2) := by decide +kernel
theorem dX0_numeralKind_107 : decode cX0_numeralKind 107 = .ok (.if_icmp .ne 7, 3) := by decide +kernel
theorem dX0_numeralKind_110 : decode cX0_numeralKind 110 = .ok (.iconst 5, 1) := by decide +kernel
theorem dX0_numeralKind_111 : decode cX0_numeralKind 111 = .ok (.goto 4, 3) := by decide +kernel
theorem dX0_numeral_0 : decode cX0_numeral 0 = .ok (.lconst 0, 1) := by decide +kernel
theorem dX0_numeral_1 : decode cX0_numeral 1 = .ok (.lstore_n 2, 1) := by decide +kernel
theorem dX0_numeral_2 : decode cX0_numeral 2 = .ok (.iconst 0, 1) := by decide +kernel
theorem dX0_numeral_3 : decode cX0_numeral 3 = .ok (.istore 4, 2) := by decide +kernel
theorem dX0_numeral_5 : decode cX0_numeral 5 = .ok (.iconst 0, 1) := by decide +kernel
theorem dX0_numeral_6 : decode cX0_numeral 6 = .ok (.istore 5, 2) := by decide +kernel
theorem dX0_numeral_8 : decode cX0_numeral 8 = .ok (.iconst 0, 1) := by decide +kernel
theorem dX0_numeral_9 : decode cX0_numeral 9 = .ok (.istore 6, 2) := by decide +kernel
theorem dX0_numeral_11 : decode cX0_numeral 11 = .ok (.iload 6, 2) := by decide +kernel
theorem dX0_numeral_13 : decode cX0_numeral 13 = .ok (.aload_n 0, 1) := by decide +kernel
theorem dX0_numeral_14 : decode cX0_numeral 14 = .ok (.arraylength, 1) := by decide +kernel
theorem dX0_numeral_15 : decode cX0_numeral 15 = .ok (.if_icmp .ge 68, 3) := by decide +kernel
theorem dX0_numeral_83 : decode cX0_numeral 83 = .ok (.iload 4, 2) := by decide +kernel
theorem dX0_numeral_85 : decode cX0_numeral 85 = .ok (.istore 6, 2) := by decide +kernel
theorem dX0_numeral_87 : decode cX0_numeral 87 = .ok (.iload 6, 2) := by decide +kernel
theorem dX0_numeral_89 : decode cX0_numeral 89 = .ok (.iload_n 1, 1) := by decide +kernel
theorem dX0_numeral_90 : decode cX0_numeral 90 = .ok (.if_icmp .ge 15, 3) := by decide +kernel
theorem dX0_numeral_105 : decode cX0_numeral 105 = .ok (.aload_n 0, 1) := by decide +kernel
theorem dX0_numeral_106 : decode cX0_numeral 106 = .ok (.iconst 0, 1) := by decide +kernel
theorem dX0_numeral_107 : decode cX0_numeral 107 = .ok (.baload, 1) := by decide +kernel
theorem dX0_numeral_108 : decode cX0_numeral 108 = .ok (.bipush 45, 2) := by decide +kernel
theorem dX0_numeral_110 : decode cX0_numeral 110 = .ok (.if_icmp .ne 8, 3) := by decide +kernel
theorem dX0_numeral_118 : decode cX0_numeral 118 = .ok (.lload_n 2, 1) := by decide +kernel
theorem dX0_numeral_119 : decode cX0_numeral 119 = .ok (.lreturn, 1) := by decide +kernel
theorem dX0_numeral_113 : decode cX0_numeral 113 = .ok (.lload_n 2, 1) := by decide +kernel
theorem dX0_numeral_114 : decode cX0_numeral 114 = .ok (.lneg, 1) := by decide +kernel
theorem dX0_numeral_115 : decode cX0_numeral 115 = .ok (.goto 4, 3) := by decide +kernel
theorem dX0_numeral_93 : decode cX0_numeral 93 = .ok (.lload_n 2, 1) := by decide +kernel
theorem dX0_numeral_94 : decode cX0_numeral 94 = .ok (.ldc2_w 105, 3) := by decide +kernel
theorem mw_168 : Cond.constantLong RX0 105 (10) ∈ wsL_law := lrk_8 _ (List.mem_of_getElem? (i := 0) rfl)
theorem dX0_numeral_97 : decode cX0_numeral 97 = .ok (.lmul, 1) := by decide +kernel
theorem dX0_numeral_98 : decode cX0_numeral 98 = .ok (.lstore_n 2, 1) := by decide +kernel
theorem dX0_numeral_99 : decode cX0_numeral 99 = .ok (.iinc 6 1, 3) := by decide +kernel
theorem dX0_numeral_102 : decode cX0_numeral 102 = .ok (.goto (-15), 3) := by decide +kernel
theorem dX0_numeral_18 : decode cX0_numeral 18 = .ok (.aload_n 0, 1) := by decide +kernel
theorem dX0_numeral_19 : decode cX0_numeral 19 = .ok (.iload 6, 2) := by decide +kernel
theorem dX0_numeral_21 : decode cX0_numeral 21 = .ok (.baload, 1) := by decide +kernel
theorem dX0_numeral_22 : decode cX0_numeral 22 = .ok (.invokestatic 101, 3) := by decide +kernel
theorem dX0_numeral_25 : decode cX0_numeral 25 = .ok (.ifCond .eq 36, 3) := by decide +kernel
theorem dX0_numeral_28 : decode cX0_numeral 28 = .ok (.lload_n 2, 1) := by decide +kernel
theorem dX0_numeral_29 : decode cX0_numeral 29 = .ok (.ldc2_w 105, 3) := by decide +kernel
theorem dX0_numeral_32 : decode cX0_numeral 32 = .ok (.lmul, 1) := by decide +kernel
theorem dX0_numeral_33 : decode cX0_numeral 33 = .ok (.aload_n 0, 1) := by decide +kernel
theorem dX0_numeral_34 : decode cX0_numeral 34 = .ok (.iload 6, 2) := by decide +kernel
theorem dX0_numeral_36 : decode cX0_numeral 36 = .ok (.baload, 1) := by decide +kernel
theorem dX0_numeral_37 : decode cX0_numeral 37 = .ok (.bipush 48, 2) := by decide +kernel
theorem dX0_numeral_39 : decode cX0_numeral 39 = .ok (.isub, 1) := by decide +kernel
theorem dX0_numeral_40 : decode cX0_numeral 40 = .ok (.i2l, 1) := by decide +kernel
theorem dX0_numeral_41 : decode cX0_numeral 41 = .ok (.ladd, 1) := by decide +kernel
theorem dX0_numeral_42 : decode cX0_numeral 42 = .ok (.lstore_n 2, 1) := by decide +kernel
theorem dX0_numeral_43 : decode cX0_numeral 43 = .ok (.iload 4, 2) := by decide +kernel
theorem dX0_numeral_45 : decode cX0_numeral 45 = .ok (.iload 5, 2) := by decide +kernel
theorem dX0_numeral_47 : decode cX0_numeral 47 = .ok (.ifCond .eq 7, 3) := by decide +kernel
theorem dX0_numeral_54 : decode cX0_numeral 54 = .ok (.iconst 0, 1) := by decide +kernel
theorem dX0_numeral_55 : decode cX0_numeral 55 = .ok (.iadd, 1) := by decide +kernel
theorem dX0_numeral_56 : decode cX0_numeral 56 = .ok (.istore 4, 2) := by decide +kernel
theorem dX0_numeral_58 : decode cX0_numeral 58 = .ok (.goto 19, 3) := by decide +kernel
theorem dX0_numeral_77 : decode cX0_numeral 77 = .ok (.iinc 6 1, 3) := by decide +kernel
theorem dX0_numeral_80 : decode cX0_numeral 80 = .ok (.goto (-69), 3) := by decide +kernel
theorem dX0_numeral_50 : decode cX0_numeral 50 = .ok (.iconst 1, 1) := by decide +kernel
theorem dX0_numeral_51 : decode cX0_numeral 51 = .ok (.goto 4, 3) := by decide +kernel
theorem dX0_numeral_61 : decode cX0_numeral 61 = .ok (.aload_n 0, 1) := by decide +kernel
theorem dX0_numeral_62 : decode cX0_numeral 62 = .ok (.iload 6, 2) := by decide +kernel
theorem dX0_numeral_64 : decode cX0_numeral 64 = .ok (.baload, 1) := by decide +kernel
theorem dX0_numeral_65 : decode cX0_numeral 65 = .ok (.bipush 46, 2) := by decide +kernel
theorem dX0_numeral_67 : decode cX0_numeral 67 = .ok (.if_icmp .ne 7, 3) := by decide +kernel
theorem dX0_numeral_74 : decode cX0_numeral 74 = .ok (.iconst 0, 1) := by decide +kernel
theorem dX0_numeral_75 : decode cX0_numeral 75 = .ok (.istore 5, 2) := by decide +kernel
theorem dX0_numeral_70 : decode cX0_numeral 70 = .ok (.iconst 1, 1) := by decide +kernel
theorem dX0_numeral_71 : decode cX0_numeral 71 = .ok (.goto 4, 3) := by decide +kernel
theorem dX1_canBeInName_0 : decode cX1_canBeInName 0 = .ok (.iload_n 0, 1) := by decide +kernel
theorem dX1_canBeInName_1 : decode cX1_canBeInName 1 = .ok (.bipush 97, 2) := by decide +kernel
theorem dX1_canBeInName_3 : decode cX1_canBeInName 3 = .ok (.if_icmp .lt 9, 3) := by decide +kernel
theorem dX1_canBeInName_12 : decode cX1_canBeInName 12 = .ok (.iload_n 0, 1) := by decide +kernel
theorem dX1_canBeInName_13 : decode cX1_canBeInName 13 = .ok (.bipush 65, 2) := by decide +kernel
theorem dX1_canBeInName_15 : decode cX1_canBeInName 15 = .ok (.if_icmp .lt 9, 3) := by decide +kernel
theorem dX1_canBeInName_24 : decode cX1_canBeInName 24 = .ok (.iload_n 0, 1) := by decide +kernel
theorem dX1_canBeInName_25 : decode cX1_canBeInName 25 = .ok (.invokestatic 32, 3) := by decide +kernel
theorem mw_338 : Cond.methodLink RX1 32 yX0_isDigit ∈ wsL_law := lrk_15 _ (List.mem_of_getElem? (i := 2) rfl)
theorem gS_X1_32 : GoodIn wsL_law (va_wsS RX1 32 yX0_isDigit (wl yX0_isDigit cX0_isDigit 1 (some .boolean))) := g_S mw_338 mw_160 mw_68 mw_161
theorem dX1_canBeInName_28 : decode cX1_canBeInName 28 = .ok (.ifCond .ne 9, 3) := by decide +kernel
theorem dX1_canBeInName_37 : decode cX1_canBeInName 37 = .ok (.iconst 1, 1) := by decide +kernel
theorem dX1_canBeInName_38 : decode cX1_canBeInName 38 = .ok (.goto 4, 3) := by decide +kernel
theorem dX1_canBeInName_42 : decode cX1_canBeInName 42 = .ok (.ireturn, 1) := by decide +kernel
theorem dX1_canBeInName_31 : decode cX1_canBeInName 31 = .ok (.iload_n 0, 1) := by decide +kernel
theorem dX1_canBeInName_32 : decode cX1_canBeInName 32 = .ok (.bipush 95, 2) := by decide +kernel
theorem dX1_canBeInName_34 : decode cX1_canBeInName 34 = .ok (.if_icmp .ne 7, 3) := by decide +kernel
theorem dX1_canBeInName_41 : decode cX1_canBeInName 41 = .ok (.iconst 0, 1) := by decide +kernel
theorem dX1_canBeInName_18 : decode cX1_canBeInName 18 = .ok (.iload_n 0, 1) := by decide +kernel
theorem dX1_canBeInName_19 : decode cX1_canBeInName 19 = .ok (.bipush 90, 2) := by decide +kernel
theorem dX1_canBeInName_21 : decode cX1_canBeInName 21 = .ok (.if_icmp .le 16, 3) := by decide +kernel
theorem dX1_canBeInName_6 : decode cX1_canBeInName 6 = .ok (.iload_n 0, 1) := by decide +kernel
theorem dX1_canBeInName_7 : decode cX1_canBeInName 7 = .ok (.bipush 122, 2) := by decide +kernel
theorem dX1_canBeInName_9 : decode cX1_canBeInName 9 = .ok (.if_icmp .le 28, 3) := by decide +kernel
theorem dX1_canBeName_0 : decode cX1_canBeName 0 = .ok (.aload_n 0, 1) := by decide +kernel
theorem dX1_canBeName_1 : decode cX1_canBeName 1 = .ok (.arraylength, 1) := by decide +kernel
theorem dX1_canBeName_2 : decode cX1_canBeName 2 = .ok (.iconst 1, 1) := by decide +kernel
theorem dX1_canBeName_3 : decode cX1_canBeName 3 = .ok (.if_icmp .lt 10, 3) := by decide +kernel
theorem dX1_canBeName_13 : decode cX1_canBeName 13 = .ok (.iconst 0, 1) := by decide +kernel
theorem dX1_canBeName_14 : decode cX1_canBeName 14 = .ok (.ireturn, 1) := by decide +kernel
theorem dX1_canBeName_6 : decode cX1_canBeName 6 = .ok (.aload_n 0, 1) := by decide +kernel
theorem dX1_canBeName_7 : decode cX1_canBeName 7 = .ok (.arraylength, 1) := by decide +kernel
theorem dX1_canBeName_8 : decode cX1_canBeName 8 = .ok (.bipush 12, 2) := by decide +kernel
theorem dX1_canBeName_10 : decode cX1_canBeName 10 = .ok (.if_icmp .le 5, 3) := by decide +kernel
theorem dX1_canBeName_15 : decode cX1_canBeName 15 = .ok (.iconst 0, 1) := by decide +kernel
theorem dX1_canBeName_16 : decode cX1_canBeName 16 = .ok (.istore_n 1, 1) := by decide +kernel
theorem dX1_canBeName_17 : decode cX1_canBeName 17 = .ok (.iload_n 1, 1) := by decide +kernel
theorem dX1_canBeName_18 : decode cX1_canBeName 18 = .ok (.aload_n 0, 1) := by decide +kernel
theorem dX1_canBeName_19 : decode cX1_canBeName 19 = .ok (.arraylength, 1) := by decide +kernel
theorem dX1_canBeName_20 : decode cX1_canBeName 20 = .ok (.if_icmp .ge 20, 3) := by decide +kernel
theorem dX1_canBeName_40 : decode cX1_canBeName 40 = .ok (.iconst 1, 1) := by decide +kernel
theorem dX1_canBeName_41 : decode cX1_canBeName 41 = .ok (.ireturn, 1) := by decide +kernel
theorem dX1_canBeName_23 : decode cX1_canBeName 23 = .ok (.aload_n 0, 1) := by decide +kernel
theorem dX1_canBeName_24 : decode cX1_canBeName 24 = .ok (.iload_n 1, 1) := by decide +kernel
theorem dX1_canBeName_25 : decode cX1_canBeName 25 = .ok (.baload, 1) := by decide +kernel
theorem dX1_canBeName_26 : decode cX1_canBeName 26 = .ok (.invokestatic 28, 3) := by decide +kernel
theorem mw_337 : Cond.code yX1_canBeInName cX1_canBeInName 1 (some .boolean) ∈ wsL_law := lrk_15 _ (List.mem_of_getElem? (i := 1) rfl)
theorem mw_335 : Cond.methodLink RX1 28 yX1_canBeInName ∈ wsL_law := lrk_14 _ (List.mem_of_getElem? (i := 23) rfl)
theorem mw_331 : Cond.initialized RX1 ∈ wsL_law := lrk_14 _ (List.mem_of_getElem? (i := 19) rfl)
theorem mw_336 : Cond.static yX1_canBeInName ∈ wsL_law := lrk_15 _ (List.mem_of_getElem? (i := 0) rfl)
theorem gS_X1_28 : GoodIn wsL_law (va_wsS RX1 28 yX1_canBeInName (wl yX1_canBeInName cX1_canBeInName 1 (some .boolean))) := g_S mw_335 mw_336 mw_331 mw_337
theorem hdS_X1_canBeInName : okD yX1_canBeInName 1 := by decide +kernel
theorem dX1_canBeName_29 : decode cX1_canBeName 29 = .ok (.ifCond .ne 5, 3) := by decide +kernel
theorem dX1_canBeName_34 : decode cX1_canBeName 34 = .ok (.iinc 1 1, 3) := by decide +kernel
theorem dX1_canBeName_37 : decode cX1_canBeName 37 = .ok (.goto (-20), 3) := by decide +kernel
theorem dX1_canBeName_32 : decode cX1_canBeName 32 = .ok (.iconst 0, 1) := by decide +kernel
theorem dX1_canBeName_33 : decode cX1_canBeName 33 = .ok (.ireturn, 1) := by decide +kernel
theorem dX1_isNamed_0 : decode cX1_isNamed 0 = .ok (.aload_n 1, 1) := by decide +kernel
theorem dX1_isNamed_1 : decode cX1_isNamed 1 = .ok (.arraylength, 1) := by decide +kernel
theorem dX1_isNamed_2 : decode cX1_isNamed 2 = .ok (.aload_n 0, 1) := by decide +kernel
theorem dX1_isNamed_3 : decode cX1_isNamed 3 = .ok (.getfield 9, 3) := by decide +kernel
theorem mw_346 : Cond.fieldLink RX1 9 "TypedTables$Column" "name" "[B" ∈ wsL_law := lrk_15 _ (List.mem_of_getElem? (i := 10) rfl)
theorem dX1_isNamed_6 : decode cX1_isNamed 6 = .ok (.arraylength, 1) := by decide +kernel
theorem dX1_isNamed_7 : decode cX1_isNamed 7 = .ok (.if_icmp .eq 5, 3) := by decide +kernel
theorem dX1_isNamed_12 : decode cX1_isNamed 12 = .ok (.iconst 0, 1) := by decide +kernel
theorem dX1_isNamed_13 : decode cX1_isNamed 13 = .ok (.istore_n 2, 1) := by decide +kernel
theorem dX1_isNamed_14 : decode cX1_isNamed 14 = .ok (.iload_n 2, 1) := by decide +kernel
theorem dX1_isNamed_15 : decode cX1_isNamed 15 = .ok (.aload_n 0, 1) := by decide +kernel
theorem dX1_isNamed_16 : decode cX1_isNamed 16 = .ok (.getfield 9, 3) := by decide +kernel
theorem dX1_isNamed_19 : decode cX1_isNamed 19 = .ok (.arraylength, 1) := by decide +kernel
theorem dX1_isNamed_20 : decode cX1_isNamed 20 = .ok (.if_icmp .ge 23, 3) := by decide +kernel
theorem dX1_isNamed_43 : decode cX1_isNamed 43 = .ok (.iconst 1, 1) := by decide +kernel
theorem dX1_isNamed_44 : decode cX1_isNamed 44 = .ok (.ireturn, 1) := by decide +kernel
theorem dX1_isNamed_23 : decode cX1_isNamed 23 = .ok (.aload_n 1, 1) := by decide +kernel
theorem dX1_isNamed_24 : decode cX1_isNamed 24 = .ok (.iload_n 2, 1) := by decide +kernel
theorem dX1_isNamed_25 : decode cX1_isNamed 25 = .ok (.baload, 1) := by decide +kernel
theorem dX1_isNamed_26 : decode cX1_isNamed 26 = .ok (.aload_n 0, 1) := by decide +kernel
theorem dX1_isNamed_27 : decode cX1_isNamed 27 = .ok (.getfield 9, 3) := by decide +kernel
theorem dX1_isNamed_30 : decode cX1_isNamed 30 = .ok (.iload_n 2, 1) := by decide +kernel
theorem dX1_isNamed_31 : decode cX1_isNamed 31 = .ok (.baload, 1) := by decide +kernel
theorem dX1_isNamed_32 : decode cX1_isNamed 32 = .ok (.if_icmp .eq 5, 3) := by decide +kernel
theorem dX1_isNamed_37 : decode cX1_isNamed 37 = .ok (.iinc 2 1, 3) := by decide +kernel
theorem dX1_isNamed_40 : decode cX1_isNamed 40 = .ok (.goto (-26), 3) := by decide +kernel
theorem dX1_isNamed_35 : decode cX1_isNamed 35 = .ok (.iconst 0, 1) := by decide +kernel
theorem dX1_isNamed_36 : decode cX1_isNamed 36 = .ok (.ireturn, 1) := by decide +kernel
theorem dX1_isNamed_10 : decode cX1_isNamed 10 = .ok (.iconst 0, 1) := by decide +kernel
theorem dX1_isNamed_11 : decode cX1_isNamed 11 = .ok (.ireturn, 1) := by decide +kernel
set_option maxHeartbeats 4000000 in
set_option maxRecDepth 100000 in
theorem c_J6_compare_7cf53 (l : Launch) (D : va_G) (κ : Nat → ClassId) (κq : Nat → Nat) (za : Int32) (zb : Int32) : Er l yJ6_compare_7cf53 (wl yJ6_compare_7cf53 cJ6_compare_7cf53 2 (some .int)) { frames := 0, cells := 0, slots := 0, locals := 0 } D κ κq [.int za, .int zb] [] (fun r : Int32 => some (.int r)) (fun r : Int32 => True) := by
  refine er_of (by decide +kernel) (Nat.le_of_ble_eq_true rfl) ?_
  intro p e s m args below meth c A ls hx hb hr hml hts hown hlk hKK hK hP hE hl
  have hS : va_S A s.heap s.heap [] := va_S.rf
  have hP : va_P D vwCl ([] ++ []) s.heap := hP
  have hFX : FX p s m args c cJ6_compare_7cf53 2 RJ6 := ⟨hx, hb, hml, hown, hts⟩
  have hl : lv_has ls 2 [(0, .int za), (1, .int zb)] := hl
  refine lv_iload_n hx hb dJ6_compare_7cf53_0 rfl (lv_at hl 0 rfl) ?_
  refine lv_iload_n hx hb dJ6_compare_7cf53_1 rfl (lv_at hl 1 rfl) ?_
  refine lv_icmp_ge (tgt := 9) hx hb dJ6_compare_7cf53_2 (by decide) (fun c_1 => ?_) (fun c_1 => ?_)
  · refine lv_iload_n hx hb dJ6_compare_7cf53_9 rfl (lv_at hl 0 rfl) ?_
    refine lv_iload_n hx hb dJ6_compare_7cf53_10 rfl (lv_at hl 1 rfl) ?_
    refine lv_icmp_ne (tgt := 18) hx hb dJ6_compare_7cf53_11 (by decide) (fun c_2 => ?_) (fun c_2 => ?_)
    · refine lv_iconst (v := 1) hx hb dJ6_compare_7cf53_18 (by decide) ?_
      exact cr_iret hx hb hr hlk rfl 1 rfl trivial dJ6_compare_7cf53_19
    · refine lv_iconst (v := 0) hx hb dJ6_compare_7cf53_14 (by decide) ?_
      refine lv_goto (tgt := 19) hx hb dJ6_compare_7cf53_15 (by decide) ?_
      exact cr_iret hx hb hr hlk rfl 0 rfl trivial dJ6_compare_7cf53_19
  · refine lv_iconst (v := (-1)) hx hb dJ6_compare_7cf53_5 (by decide) ?_
    refine lv_goto (tgt := 19) hx hb dJ6_compare_7cf53_6 (by decide) ?_
    exact cr_iret hx hb hr hlk rfl (-1) rfl trivial dJ6_compare_7cf53_19
set_option maxHeartbeats 4000000 in
set_option maxRecDepth 100000 in
theorem c_J13_compare_74951 (l : Launch) (D : va_G) (κ : Nat → ClassId) (κq : Nat → Nat) (za : Int64) (zb : Int64) : Er l yJ13_compare_74951 (wl yJ13_compare_74951 cJ13_compare_74951 4 (some .int)) { frames := 0, cells := 0, slots := 0, locals := 0 } D κ κq [.long za, .long zb] [] (fun r : Int32 => some (.int r)) (fun r : Int32 => True) := by
  refine er_of (by decide +kernel) (Nat.le_of_ble_eq_true rfl) ?_
  intro p e s m args below meth c A ls hx hb hr hml hts hown hlk hKK hK hP hE hl
  have hS : va_S A s.heap s.heap [] := va_S.rf
  have hP : va_P D vwCl ([] ++ []) s.heap := hP
  have hFX : FX p s m args c cJ13_compare_74951 4 RJ13 := ⟨hx, hb, hml, hown, hts⟩
  have hl : lv_has ls 4 [(0, .long za), (2, .long zb)] := hl
  refine lv_lload_n hx hb dJ13_compare_74951_0 rfl (lv_at hl 0 rfl) ?_
  refine lv_lload_n hx hb dJ13_compare_74951_1 rfl (lv_at hl 1 rfl) ?_
  refine W.lcmp hx hb dJ13_compare_74951_2 ?_
  refine lv_if_ge (tgt := 10) hx hb dJ13_compare_74951_3 (by decide) (fun c_1 => ?_) (fun c_1 => ?_)
  · refine lv_lload_n hx hb dJ13_compare_74951_10 rfl (lv_at hl 0 rfl) ?_
    refine lv_lload_n hx hb dJ13_compare_74951_11 rfl (lv_at hl 1 rfl) ?_
    refine W.lcmp hx hb dJ13_compare_74951_12 ?_
    refine lv_if_ne (tgt := 20) hx hb dJ13_compare_74951_13 (by decide) (fun c_2 => ?_) (fun c_2 => ?_)
    · refine lv_iconst (v := 1) hx hb dJ13_compare_74951_20 (by decide) ?_
      exact cr_iret hx hb hr hlk rfl 1 rfl trivial dJ13_compare_74951_21
    · refine lv_iconst (v := 0) hx hb dJ13_compare_74951_16 (by decide) ?_
      refine lv_goto (tgt := 21) hx hb dJ13_compare_74951_17 (by decide) ?_
      exact cr_iret hx hb hr hlk rfl 0 rfl trivial dJ13_compare_74951_21
  · refine lv_iconst (v := (-1)) hx hb dJ13_compare_74951_6 (by decide) ?_
    refine lv_goto (tgt := 21) hx hb dJ13_compare_74951_7 (by decide) ?_
    exact cr_iret hx hb hr hlk rfl (-1) rfl trivial dJ13_compare_74951_21
set_option maxHeartbeats 4000000 in
set_option maxRecDepth 100000 in
theorem c_X0_isDigit (l : Launch) (D : va_G) (κ : Nat → ClassId) (κq : Nat → Nat) (za : Int32) : Er l yX0_isDigit (wl yX0_isDigit cX0_isDigit 1 (some .boolean)) { frames := 0, cells := 0, slots := 0, locals := 0 } D κ κq [.int za] [] (fun r : Int32 => some (.int r)) (fun r : Int32 => ((r = 1) ∨ (r = 0))) := by
  refine er_of (by decide +kernel) (Nat.le_of_ble_eq_true rfl) ?_
  intro p e s m args below meth c A ls hx hb hr hml hts hown hlk hKK hK hP hE hl
  have hS : va_S A s.heap s.heap [] := va_S.rf
  have hP : va_P D vwCl ([] ++ []) s.heap := hP
  have hFX : FX p s m args c cX0_isDigit 1 RX0 := ⟨hx, hb, hml, hown, hts⟩
  have hl : lv_has ls 1 [(0, .int za)] := hl
  refine lv_iload_n hx hb dX0_isDigit_0 rfl (lv_at hl 0 rfl) ?_
  refine lv_bipush (v := 48) hx hb dX0_isDigit_1 (by decide) ?_
  refine lv_icmp_lt (tgt := 16) hx hb dX0_isDigit_3 (by decide) (fun c_1 => ?_) (fun c_1 => ?_)
  · refine lv_iconst (v := 0) hx hb dX0_isDigit_16 (by decide) ?_
    exact cr_iret hx hb hr hlk rfl 0 rfl (by exact Or.inr ((rfl))) dX0_isDigit_17
  · refine lv_iload_n hx hb dX0_isDigit_6 rfl (lv_at hl 0 rfl) ?_
    refine lv_bipush (v := 57) hx hb dX0_isDigit_7 (by decide) ?_
    refine lv_icmp_gt (tgt := 16) hx hb dX0_isDigit_9 (by decide) (fun c_2 => ?_) (fun c_2 => ?_)
    · refine lv_iconst (v := 0) hx hb dX0_isDigit_16 (by decide) ?_
      exact cr_iret hx hb hr hlk rfl 0 rfl (by exact Or.inr ((rfl))) dX0_isDigit_17
    · refine lv_iconst (v := 1) hx hb dX0_isDigit_12 (by decide) ?_
      refine lv_goto (tgt := 17) hx hb dX0_isDigit_13 (by decide) ?_
      exact cr_iret hx hb hr hlk rfl 1 rfl (by exact Or.inl (rfl)) dX0_isDigit_17
set_option maxHeartbeats 4000000 in
set_option maxRecDepth 100000 in
theorem c_X0_isEmpty (l : Launch) (D : va_G) (κ : Nat → ClassId) (κq : Nat → Nat) (im : va_W) (a : Nat) (k : Nat) (n : Nat) (hc : Cl κ im a k n) : Er l yX0_isEmpty (wl yX0_isEmpty cX0_isEmpty 1 (some .boolean)) { frames := 0, cells := 0, slots := 0, locals := 0 } D κ κq [.ref a] ([] ++ im) (fun r : Int32 => some (.int r)) (fun r : Int32 => ((r = 1 ∧ n = 0) ∨ (r = 0 ∧ 1 ≤ n))) := by
  refine er_of (by decide +kernel) (Nat.le_of_ble_eq_true rfl) ?_
  intro p e s m args below meth c A ls hx hb hr hml hts hown hlk hKK hK hP hE hl
  have hS : va_S A s.heap s.heap [] := va_S.rf
  have hP : va_P D vwCl ([] ++ im) s.heap := hP
  have hFX : FX p s m args c cX0_isEmpty 1 RX0 := ⟨hx, hb, hml, hown, hts⟩
  have hl : lv_has ls 1 [(0, .ref a)] := hl
  refine lv_aload_n hx hb dX0_isEmpty_0 rfl (lv_at hl 0 rfl) ?_
  obtain ⟨hk_1, b_2, x_3, hm_4, hb_5⟩ := id hc
  have hn_b_2 := hb_5.1
  refine va_get (D := D) (ci := 0) (v := .ref b_2) (C := RX0) (T := TX0) (N := 3) hx hb hts inlX0 hown hK (oneP (C := []) hP hm_4) 0 rfl rfl 0 (by decide) (hts _ mw_88) (fun _ h9 => h9) rfl dX0_isEmpty_1 ?_
  obtain ⟨hn_7, f_6, hm_8, hfit_9⟩ := id hb_5
  refine va_alen hx hb hK (oneP (C := []) hP hm_8) 0 1 rfl rfl (v := nI n) rfl dX0_isEmpty_4 ?_
  refine lv_if_ne (tgt := 12) hx hb dX0_isEmpty_5 (by decide) (fun c_10 => ?_) (fun c_10 => ?_)
  · have nc_10 := cv_ne (a := n) (b := 0) (by omega) (by omega) c_10
    refine lv_iconst (v := 0) hx hb dX0_isEmpty_12 (by decide) ?_
    exact cr_iret hx hb hr hlk rfl 0 rfl (by exact Or.inr ((⟨rfl, (show 1 ≤ n from (by first | assumption | omega | rfl | exact Or.inl (by assumption) | exact Or.inr (by assumption)))⟩))) dX0_isEmpty_13
  · have nc_10 := cv_eq (a := n) (b := 0) (by omega) (by omega) c_10
    refine lv_iconst (v := 1) hx hb dX0_isEmpty_8 (by decide) ?_
    refine lv_goto (tgt := 13) hx hb dX0_isEmpty_9 (by decide) ?_
    exact cr_iret hx hb hr hlk rfl 1 rfl (by exact Or.inl (⟨rfl, (show n = 0 from (by first | assumption | omega | rfl | exact Or.inl (by assumption) | exact Or.inr (by assumption)))⟩)) dX0_isEmpty_13
set_option maxHeartbeats 4000000 in
set_option maxRecDepth 100000 in
theorem c_X0_numberAs (l : Launch) (D : va_G) (κ : Nat → ClassId) (κq : Nat → Nat) (im : va_W) (a : Nat) (k : Nat) (n : Nat) (zt : Int32) (hc : Cl κ im a k n) : Er l yX0_numberAs (wl yX0_numberAs cX0_numberAs 2 (some .long)) { frames := 0, cells := 0, slots := 0, locals := 0 } D κ κq [.ref a, .int zt] ([] ++ im) (fun r : Int64 => some (.long r)) (fun r : Int64 => True) := by
  refine er_of (by decide +kernel) (Nat.le_of_ble_eq_true rfl) ?_
  intro p e s m args below meth c A ls hx hb hr hml hts hown hlk hKK hK hP hE hl
  have hS : va_S A s.heap s.heap [] := va_S.rf
  have hP : va_P D vwCl ([] ++ im) s.heap := hP
  have hFX : FX p s m args c cX0_numberAs 2 RX0 := ⟨hx, hb, hml, hown, hts⟩
  have hl : lv_has ls 2 [(0, .ref a), (1, .int zt)] := hl
  refine lv_iload_n hx hb dX0_numberAs_0 rfl (lv_at hl 1 rfl) ?_
  refine lv_iconst (v := 5) hx hb dX0_numberAs_1 (by decide) ?_
  refine lv_icmp_ne (tgt := 12) hx hb dX0_numberAs_2 (by decide) (fun c_1 => ?_) (fun c_1 => ?_)
  · refine lv_iload_n hx hb dX0_numberAs_12 rfl (lv_at hl 1 rfl) ?_
    refine lv_iconst (v := 3) hx hb dX0_numberAs_13 (by decide) ?_
    refine lv_icmp_ne (tgt := 36) hx hb dX0_numberAs_14 (by decide) (fun c_2 => ?_) (fun c_2 => ?_)
    · refine lv_aload_n hx hb dX0_numberAs_36 rfl (lv_at hl 0 rfl) ?_
      obtain ⟨hk_3, b_4, x_5, hm_6, hb_7⟩ := id hc
      have hn_b_4 := hb_7.1
      refine va_get (D := D) (ci := 0) (v := .long x_5) (C := RX0) (T := TX0) (N := 3) hx hb hts inlX0 hown hK (oneP (C := []) hP hm_6) 0 rfl rfl 2 (by decide) (hts _ mw_90) (fun _ h9 => h9) rfl dX0_numberAs_37 ?_
      exact cr_lret hx hb hr hlk x_5 rfl trivial dX0_numberAs_40
    · refine lv_aload_n hx hb dX0_numberAs_17 rfl (lv_at hl 0 rfl) ?_
      obtain ⟨hk_8, b_9, x_10, hm_11, hb_12⟩ := id hc
      have hn_b_9 := hb_12.1
      refine va_get (D := D) (ci := 0) (v := .int (nI k)) (C := RX0) (T := TX0) (N := 3) hx hb hts inlX0 hown hK (oneP (C := []) hP hm_11) 0 rfl rfl 1 (by decide) (hts _ mw_89) (fun _ h9 => h9) rfl dX0_numberAs_18 ?_
      refine lv_iconst (v := 2) hx hb dX0_numberAs_21 (by decide) ?_
      refine lv_icmp_ne (tgt := 36) hx hb dX0_numberAs_22 (by decide) (fun c_13 => ?_) (fun c_13 => ?_)
      · have nc_13 := cv_ne (a := k) (b := 2) (by omega) (by omega) c_13
        refine lv_aload_n hx hb dX0_numberAs_36 rfl (lv_at hl 0 rfl) ?_
        refine va_get (D := D) (ci := 0) (v := .long x_10) (C := RX0) (T := TX0) (N := 3) hx hb hts inlX0 hown hK (oneP (C := []) hP hm_11) 0 rfl rfl 2 (by decide) (hts _ mw_90) (fun _ h9 => h9) rfl dX0_numberAs_37 ?_
        exact cr_lret hx hb hr hlk x_10 rfl trivial dX0_numberAs_40
      · have nc_13 := cv_eq (a := k) (b := 2) (by omega) (by omega) c_13
        refine lv_aload_n hx hb dX0_numberAs_25 rfl (lv_at hl 0 rfl) ?_
        refine va_get (D := D) (ci := 0) (v := .long x_10) (C := RX0) (T := TX0) (N := 3) hx hb hts inlX0 hown hK (oneP (C := []) hP hm_11) 0 rfl rfl 2 (by decide) (hts _ mw_90) (fun _ h9 => h9) rfl dX0_numberAs_26 ?_
        refine lv_ldc2 hx hb hown (hts _ mw_891) dX0_numberAs_29 ?_
        refine lv_lmul hx hb dX0_numberAs_32 ?_
        refine lv_topl (fun x_14 ex_14 => ?_)
        refine lv_goto (tgt := 40) hx hb dX0_numberAs_33 (by decide) ?_
        exact cr_lret hx hb hr hlk x_14 rfl trivial dX0_numberAs_40
  · refine lv_aload_n hx hb dX0_numberAs_5 rfl (lv_at hl 0 rfl) ?_
    obtain ⟨hk_15, b_16, x_17, hm_18, hb_19⟩ := id hc
    have hn_b_16 := hb_19.1
    refine va_get (D := D) (ci := 0) (v := .ref b_16) (C := RX0) (T := TX0) (N := 3) hx hb hts inlX0 hown hK (oneP (C := []) hP hm_18) 0 rfl rfl 0 (by decide) (hts _ mw_88) (fun _ h9 => h9) rfl dX0_numberAs_6 ?_
    obtain ⟨hn_21, f_20, hm_22, hfit_23⟩ := id hb_19
    refine va_alen hx hb hK (oneP (C := []) hP hm_22) 0 1 rfl rfl (v := nI n) rfl dX0_numberAs_9 ?_
    refine lv_i2l (v := (nI n).toInt64) hx hb dX0_numberAs_10 rfl ?_
    exact cr_lret hx hb hr hlk ((nI n).toInt64) rfl trivial dX0_numberAs_11
set_option maxHeartbeats 4000000 in
set_option maxRecDepth 100000 in
theorem c_X0_bytesComparedTo (l : Launch) (D : va_G) (κ : Nat → ClassId) (κq : Nat → Nat) (im : va_W) (a : Nat) (k : Nat) (n : Nat) (a2 : Nat) (k2 : Nat) (n2 : Nat) (hc : Cl κ im a k n) (hc2 : Cl κ im a2 k2 n2) : Er l yX0_bytesComparedTo (wl yX0_bytesComparedTo cX0_bytesComparedTo 4 (some .int)) { frames := 1, cells := 0, slots := 0, locals := 21 } D κ κq [.ref a, .ref a2] ([] ++ im) (fun r : Int32 => some (.int r)) (fun r : Int32 => True) := by
  refine er_of (by decide +kernel) (Nat.le_of_ble_eq_true rfl) ?_
  intro p e s m args below meth c A ls hx hb hr hml hts hown hlk hKK hK hP hE hl
  have hS : va_S A s.heap s.heap [] := va_S.rf
  have hP : va_P D vwCl ([] ++ im) s.heap := hP
  have hFX : FX p s m args c cX0_bytesComparedTo 4 RX0 := ⟨hx, hb, hml, hown, hts⟩
  have hl : lv_has ls 4 [(0, .ref a), (1, .ref a2)] := hl
  refine lv_aload_n hx hb dX0_bytesComparedTo_0 rfl (lv_at hl 0 rfl) ?_
  obtain ⟨hk_1, b_2, x_3, hm_4, hb_5⟩ := id hc
  have hn_b_2 := hb_5.1
  refine va_get (D := D) (ci := 0) (v := .ref b_2) (C := RX0) (T := TX0) (N := 3) hx hb hts inlX0 hown hK (oneP (C := []) hP hm_4) 0 rfl rfl 0 (by decide) (hts _ mw_88) (fun _ h9 => h9) rfl dX0_bytesComparedTo_1 ?_
  obtain ⟨hn_7, f_6, hm_8, hfit_9⟩ := id hb_5
  refine va_alen hx hb hK (oneP (C := []) hP hm_8) 0 1 rfl rfl (v := nI n) rfl dX0_bytesComparedTo_4 ?_
  refine lv_aload_n hx hb dX0_bytesComparedTo_5 rfl (lv_at hl 1 rfl) ?_
  obtain ⟨hk_10, b_11, x_12, hm_13, hb_14⟩ := id hc2
  have hn_b_11 := hb_14.1
  refine va_get (D := D) (ci := 0) (v := .ref b_11) (C := RX0) (T := TX0) (N := 3) hx hb hts inlX0 hown hK (oneP (C := []) hP hm_13) 0 rfl rfl 0 (by decide) (hts _ mw_88) (fun _ h9 => h9) rfl dX0_bytesComparedTo_6 ?_
  obtain ⟨hn_16, f_15, hm_17, hfit_18⟩ := id hb_14
  refine va_alen hx hb hK (oneP (C := []) hP hm_17) 0 1 rfl rfl (v := nI n2) rfl dX0_bytesComparedTo_9 ?_
  refine va_mmin hx hb (hml.trans hl.1.symm) hown (hts _ mw_886) (hts _ mw_317) (hts _ mw_318) (hts _ mw_319) (Nat.le_of_ble_eq_true rfl) (Nat.le_of_ble_eq_true rfl) (Nat.le_of_ble_eq_true rfl) (Nat.le_of_ble_eq_true rfl) dX0_bytesComparedTo_10 ?_
  obtain ⟨r_19, hr_19a, hr_19b, hr_19c, er_19⟩ := min_n (a := n) (b := n2) (by omega) (by omega)
  refine ki (v := nI r_19) er_19 ?_
  refine W.eq (g2 := F0 m 13 ls [.int (nI r_19)]) rfl ?_
  refine lv_istore_n (lv' := [(2, .int (nI r_19)), (0, .ref a), (1, .ref a2)]) hx hb dX0_bytesComparedTo_13 rfl hl (by decide) rfl (fun ls hl => ?_)
  refine lv_iconst (v := 0) hx hb dX0_bytesComparedTo_14 (by decide) ?_
  refine lv_istore_n (lv' := [(3, .int 0), (2, .int (nI r_19)), (0, .ref a), (1, .ref a2)]) hx hb dX0_bytesComparedTo_15 rfl hl (by decide) rfl (fun ls hl => ?_)
  refine loop_r (fun k9 ls => ∃ (k3_16 : Nat), (k3_16 ≤ 20) ∧ 21 - k3_16 = k9 ∧ lv_has ls 4 [(3, .int (nI k3_16)), (2, .int (nI r_19)), (0, .ref a), (1, .ref a2)]) (fun k9 ls hI16 ih16 => ?_) (21 - 0) _ ⟨0, (by omega), rfl, lv_sub hl [0, 1, 2, 3] rfl⟩
  obtain ⟨k3_16, hl16_0, hm16, hl⟩ := hI16
  refine lv_iload_n hx hb dX0_bytesComparedTo_16 rfl (lv_at hl 0 rfl) ?_
  refine lv_iload_n hx hb dX0_bytesComparedTo_17 rfl (lv_at hl 1 rfl) ?_
  refine lv_icmp_ge (tgt := 58) hx hb dX0_bytesComparedTo_18 (by decide) (fun c_20 => ?_) (fun c_20 => ?_)
  · have nc_20 := cv_le (a := r_19) (b := k3_16) (by omega) (by omega) c_20
    refine lv_aload_n hx hb dX0_bytesComparedTo_58 rfl (lv_at hl 2 rfl) ?_
    refine va_get (D := D) (ci := 0) (v := .ref b_2) (C := RX0) (T := TX0) (N := 3) hx hb hts inlX0 hown hK (oneP (C := []) hP hm_4) 0 rfl rfl 0 (by decide) (hts _ mw_88) (fun _ h9 => h9) rfl dX0_bytesComparedTo_59 ?_
    refine va_alen hx hb hK (oneP (C := []) hP hm_8) 0 1 rfl rfl (v := nI n) rfl dX0_bytesComparedTo_62 ?_
    refine lv_aload_n hx hb dX0_bytesComparedTo_63 rfl (lv_at hl 3 rfl) ?_
    refine va_get (D := D) (ci := 0) (v := .ref b_11) (C := RX0) (T := TX0) (N := 3) hx hb hts inlX0 hown hK (oneP (C := []) hP hm_13) 0 rfl rfl 0 (by decide) (hts _ mw_88) (fun _ h9 => h9) rfl dX0_bytesComparedTo_64 ?_
    refine va_alen hx hb hK (oneP (C := []) hP hm_17) 0 1 rfl rfl (v := nI n2) rfl dX0_bytesComparedTo_67 ?_
    refine er_S (As := [.int (nI n), .int (nI n2)]) (rest := []) hFX hKK hE hS (c_J6_compare_7cf53 l D κ κq (nI n) (nI n2)) 2 gS_X0_37 hdS_J6_compare_7cf53 rfl rfl ⟨Nat.le_of_ble_eq_true rfl, Nat.le_of_ble_eq_true rfl⟩ rfl rfl (Nat.le_of_ble_eq_true rfl) dX0_bytesComparedTo_68 ⟨Nat.le_of_ble_eq_true rfl, Nat.le_of_ble_eq_true rfl⟩ hl.1 (subP0 hP [] rfl) (fun r__21 hp_22 => ?_)
    refine W.eq (g2 := F0 m 71 ls [.int r__21]) rfl ?_
    exact cr_iret hx hb hr hlk rfl r__21 rfl trivial dX0_bytesComparedTo_71
  · have nc_20 := cv_nle (a := r_19) (b := k3_16) (by omega) (by omega) c_20
    refine lv_aload_n hx hb dX0_bytesComparedTo_21 rfl (lv_at hl 2 rfl) ?_
    refine va_get (D := D) (ci := 0) (v := .ref b_2) (C := RX0) (T := TX0) (N := 3) hx hb hts inlX0 hown hK (oneP (C := []) hP hm_4) 0 rfl rfl 0 (by decide) (hts _ mw_88) (fun _ h9 => h9) rfl dX0_bytesComparedTo_22 ?_
    refine lv_iload_n hx hb dX0_bytesComparedTo_25 rfl (lv_at hl 0 rfl) ?_
    refine va_bald hx hb hK (oneP (C := []) hP hm_8) 0 1 rfl rfl (i := nI k3_16) (vp_in_nI (n := k3_16) (by omega) (by omega)) dX0_bytesComparedTo_26 ?_
    refine kv (v := .int (f_6 k3_16)) (by rw [nI_clamp (by omega)]) ?_
    obtain ⟨x_23, ex_23⟩ : ∃ y9 : Int32, f_6 k3_16 = y9 := ⟨_, rfl⟩
    refine kv (v := .int x_23) (congrArg Value.int ex_23) ?_
    refine lv_aload_n hx hb dX0_bytesComparedTo_27 rfl (lv_at hl 3 rfl) ?_
    refine va_get (D := D) (ci := 0) (v := .ref b_11) (C := RX0) (T := TX0) (N := 3) hx hb hts inlX0 hown hK (oneP (C := []) hP hm_13) 0 rfl rfl 0 (by decide) (hts _ mw_88) (fun _ h9 => h9) rfl dX0_bytesComparedTo_28 ?_
    refine lv_iload_n hx hb dX0_bytesComparedTo_31 rfl (lv_at hl 0 rfl) ?_
    refine va_bald hx hb hK (oneP (C := []) hP hm_17) 0 1 rfl rfl (i := nI k3_16) (vp_in_nI (n := k3_16) (by omega) (by omega)) dX0_bytesComparedTo_32 ?_
    refine kv (v := .int (f_15 k3_16)) (by rw [nI_clamp (by omega)]) ?_
    obtain ⟨x_24, ex_24⟩ : ∃ y9 : Int32, f_15 k3_16 = y9 := ⟨_, rfl⟩
    refine kv (v := .int x_24) (congrArg Value.int ex_24) ?_
    refine lv_icmp_eq (tgt := 52) hx hb dX0_bytesComparedTo_33 (by decide) (fun c_25 => ?_) (fun c_25 => ?_)
    · refine lv_iinc (v := (nI (k3_16 + 1))) (lv' := [(3, .int (nI (k3_16 + 1))), (2, .int (nI r_19)), (0, .ref a), (1, .ref a2)]) hx hb dX0_bytesComparedTo_52 hl (k := 0) rfl (nI_i k3_16) (by decide) rfl (fun ls hl => ?_)
      refine lv_goto (tgt := 16) hx hb dX0_bytesComparedTo_55 (by decide) ?_
      exact ih16 _ _ (by omega) ⟨(k3_16 + 1), (by omega), rfl, lv_sub hl [0, 1, 2, 3] rfl⟩
    · refine lv_aload_n hx hb dX0_bytesComparedTo_36 rfl (lv_at hl 2 rfl) ?_
      refine va_get (D := D) (ci := 0) (v := .ref b_2) (C := RX0) (T := TX0) (N := 3) hx hb hts inlX0 hown hK (oneP (C := []) hP hm_4) 0 rfl rfl 0 (by decide) (hts _ mw_88) (fun _ h9 => h9) rfl dX0_bytesComparedTo_37 ?_
      refine lv_iload_n hx hb dX0_bytesComparedTo_40 rfl (lv_at hl 0 rfl) ?_
      refine va_bald hx hb hK (oneP (C := []) hP hm_8) 0 1 rfl rfl (i := nI k3_16) (vp_in_nI (n := k3_16) (by omega) (by omega)) dX0_bytesComparedTo_41 ?_
      refine kv (v := .int x_23) (by rw [nI_clamp (by omega)]; exact congrArg Value.int ex_23) ?_
      refine lv_aload_n hx hb dX0_bytesComparedTo_42 rfl (lv_at hl 3 rfl) ?_
      refine va_get (D := D) (ci := 0) (v := .ref b_11) (C := RX0) (T := TX0) (N := 3) hx hb hts inlX0 hown hK (oneP (C := []) hP hm_13) 0 rfl rfl 0 (by decide) (hts _ mw_88) (fun _ h9 => h9) rfl dX0_bytesComparedTo_43 ?_
      refine lv_iload_n hx hb dX0_bytesComparedTo_46 rfl (lv_at hl 0 rfl) ?_
      refine va_bald hx hb hK (oneP (C := []) hP hm_17) 0 1 rfl rfl (i := nI k3_16) (vp_in_nI (n := k3_16) (by omega) (by omega)) dX0_bytesComparedTo_47 ?_
      refine kv (v := .int x_24) (by rw [nI_clamp (by omega)]; exact congrArg Value.int ex_24) ?_
      refine er_S (As := [.int x_23, .int x_24]) (rest := []) hFX hKK hE hS (c_J6_compare_7cf53 l D κ κq x_23 x_24) 2 gS_X0_37 hdS_J6_compare_7cf53 rfl rfl ⟨Nat.le_of_ble_eq_true rfl, Nat.le_of_ble_eq_true rfl⟩ rfl rfl (Nat.le_of_ble_eq_true rfl) dX0_bytesComparedTo_48 ⟨Nat.le_of_ble_eq_true rfl, Nat.le_of_ble_eq_true rfl⟩ hl.1 (subP0 hP [] rfl) (fun r__26 hp_27 => ?_)
      refine W.eq (g2 := F0 m 51 ls [.int r__26]) rfl ?_
      exact cr_iret hx hb hr hlk rfl r__26 rfl trivial dX0_bytesComparedTo_51
set_option maxHeartbeats 4000000 in
set_option maxRecDepth 100000 in
theorem c_X0_hasBytesOf (l : Launch) (D : va_G) (κ : Nat → ClassId) (κq : Nat → Nat) (im : va_W) (a : Nat) (k : Nat) (n : Nat) (a2 : Nat) (k2 : Nat) (n2 : Nat) (hc : Cl κ im a k n) (hc2 : Cl κ im a2 k2 n2) : Er l yX0_hasBytesOf (wl yX0_hasBytesOf cX0_hasBytesOf 2 (some .boolean)) { frames := 2, cells := 0, slots := 0, locals := 44 } D κ κq [.ref a, .ref a2] ([] ++ im) (fun r : Int32 => some (.int r)) (fun r : Int32 => ((r = 1) ∨ (r = 0))) := by
  refine er_of (by decide +kernel) (Nat.le_of_ble_eq_true rfl) ?_
  intro p e s m args below meth c A ls hx hb hr hml hts hown hlk hKK hK hP hE hl
  have hS : va_S A s.heap s.heap [] := va_S.rf
  have hP : va_P D vwCl ([] ++ im) s.heap := hP
  have hFX : FX p s m args c cX0_hasBytesOf 2 RX0 := ⟨hx, hb, hml, hown, hts⟩
  have hl : lv_has ls 2 [(0, .ref a), (1, .ref a2)] := hl
  refine lv_aload_n hx hb dX0_hasBytesOf_0 rfl (lv_at hl 0 rfl) ?_
  refine lv_aload_n hx hb dX0_hasBytesOf_1 rfl (lv_at hl 1 rfl) ?_
  obtain ⟨hk_3, b_4, x_5, hm_6, hb_7⟩ := id hc
  have hn_b_4 := hb_7.1
  refine er_V (As := [.ref a2]) (rest := []) hFX hKK hE hS (c_X0_bytesComparedTo l D κ κq im a k n a2 k2 n2 hc hc2) 1 gV_X0_43 hdV_X0_bytesComparedTo rfl rfl ⟨Nat.le_of_ble_eq_true rfl, Nat.le_of_ble_eq_true rfl⟩ rfl rfl (Nat.le_of_ble_eq_true rfl) dX0_hasBytesOf_2 ⟨Nat.le_of_ble_eq_true rfl, Nat.le_of_ble_eq_true rfl⟩ hl.1 (oneP (C := []) hP hm_6) 0 0 rfl rfl rfl (subP hP [] rfl) (fun r__1 hp_2 => ?_)
  refine W.eq (g2 := F0 m 5 ls [.int r__1]) rfl ?_
  refine lv_if_ne (tgt := 12) hx hb dX0_hasBytesOf_5 (by decide) (fun c_8 => ?_) (fun c_8 => ?_)
  · refine lv_iconst (v := 0) hx hb dX0_hasBytesOf_12 (by decide) ?_
    exact cr_iret hx hb hr hlk rfl 0 rfl (by exact Or.inr ((rfl))) dX0_hasBytesOf_13
  · refine lv_iconst (v := 1) hx hb dX0_hasBytesOf_8 (by decide) ?_
    refine lv_goto (tgt := 13) hx hb dX0_hasBytesOf_9 (by decide) ?_
    exact cr_iret hx hb hr hlk rfl 1 rfl (by exact Or.inl (rfl)) dX0_hasBytesOf_13
set_option maxHeartbeats 4000000 in
set_option maxRecDepth 100000 in
theorem c_X0_holdsAt (l : Launch) (D : va_G) (κ : Nat → ClassId) (κq : Nat → Nat) (im : va_W) (a : Nat) (k : Nat) (n : Nat) (a2 : Nat) (k2 : Nat) (n2 : Nat) (i : Nat) (hc : Cl κ im a k n) (hc2 : Cl κ im a2 k2 n2) (hi : i + n2 ≤ n) : Er l yX0_holdsAt (wl yX0_holdsAt cX0_holdsAt 4 (some .boolean)) { frames := 0, cells := 0, slots := 0, locals := 0 } D κ κq [.ref a, .ref a2, .int (nI i)] ([] ++ im) (fun r : Int32 => some (.int r)) (fun r : Int32 => ((r = 1) ∨ (r = 0))) := by
  refine er_of (by decide +kernel) (Nat.le_of_ble_eq_true rfl) ?_
  intro p e s m args below meth c A ls hx hb hr hml hts hown hlk hKK hK hP hE hl
  have hS : va_S A s.heap s.heap [] := va_S.rf
  have hP : va_P D vwCl ([] ++ im) s.heap := hP
  have hFX : FX p s m args c cX0_holdsAt 4 RX0 := ⟨hx, hb, hml, hown, hts⟩
  have hl : lv_has ls 4 [(0, .ref a), (1, .ref a2), (2, .int (nI i))] := hl
  refine lv_iconst (v := 0) hx hb dX0_holdsAt_0 (by decide) ?_
  refine lv_istore_n (lv' := [(3, .int 0), (0, .ref a), (1, .ref a2), (2, .int (nI i))]) hx hb dX0_holdsAt_1 rfl hl (by decide) rfl (fun ls hl => ?_)
  refine loop_r (fun k9 ls => ∃ (k3_2 : Nat), (k3_2 ≤ n2) ∧ n2 - k3_2 = k9 ∧ lv_has ls 4 [(3, .int (nI k3_2)), (0, .ref a), (1, .ref a2), (2, .int (nI i))]) (fun k9 ls hI2 ih2 => ?_) (n2 - 0) _ ⟨0, (by omega), rfl, lv_sub hl [0, 1, 2, 3] rfl⟩
  obtain ⟨k3_2, hl2_0, hm2, hl⟩ := hI2
  refine lv_iload_n hx hb dX0_holdsAt_2 rfl (lv_at hl 0 rfl) ?_
  refine lv_aload_n hx hb dX0_holdsAt_3 rfl (lv_at hl 2 rfl) ?_
  obtain ⟨hk_1, b_2, x_3, hm_4, hb_5⟩ := id hc2
  have hn_b_2 := hb_5.1
  refine va_get (D := D) (ci := 0) (v := .ref b_2) (C := RX0) (T := TX0) (N := 3) hx hb hts inlX0 hown hK (oneP (C := []) hP hm_4) 0 rfl rfl 0 (by decide) (hts _ mw_88) (fun _ h9 => h9) rfl dX0_holdsAt_4 ?_
  obtain ⟨hn_7, f_6, hm_8, hfit_9⟩ := id hb_5
  refine va_alen hx hb hK (oneP (C := []) hP hm_8) 0 1 rfl rfl (v := nI n2) rfl dX0_holdsAt_7 ?_
  refine lv_icmp_ge (tgt := 36) hx hb dX0_holdsAt_8 (by decide) (fun c_10 => ?_) (fun c_10 => ?_)
  · have nc_10 := cv_le (a := n2) (b := k3_2) (by omega) (by omega) c_10
    refine lv_iconst (v := 1) hx hb dX0_holdsAt_36 (by decide) ?_
    exact cr_iret hx hb hr hlk rfl 1 rfl (by exact Or.inl (rfl)) dX0_holdsAt_37
  · have nc_10 := cv_nle (a := n2) (b := k3_2) (by omega) (by omega) c_10
    refine lv_aload_n hx hb dX0_holdsAt_11 rfl (lv_at hl 1 rfl) ?_
    obtain ⟨hk_11, b_12, x_13, hm_14, hb_15⟩ := id hc
    have hn_b_12 := hb_15.1
    refine va_get (D := D) (ci := 0) (v := .ref b_12) (C := RX0) (T := TX0) (N := 3) hx hb hts inlX0 hown hK (oneP (C := []) hP hm_14) 0 rfl rfl 0 (by decide) (hts _ mw_88) (fun _ h9 => h9) rfl dX0_holdsAt_12 ?_
    refine lv_iload_n hx hb dX0_holdsAt_15 rfl (lv_at hl 3 rfl) ?_
    refine lv_iload_n hx hb dX0_holdsAt_16 rfl (lv_at hl 0 rfl) ?_
    refine lv_iadd hx hb dX0_holdsAt_17 ?_
    refine ki (v := (nI (i + k3_2))) (nI_add i k3_2) ?_
    obtain ⟨hn_17, f_16, hm_18, hfit_19⟩ := id hb_15
    refine va_bald hx hb hK (oneP (C := []) hP hm_18) 0 1 rfl rfl (i := nI (i + k3_2)) (vp_in_nI (n := (i + k3_2)) (by omega) (by omega)) dX0_holdsAt_18 ?_
    refine kv (v := .int (f_16 (i + k3_2))) (by rw [nI_clamp (by omega)]) ?_
    obtain ⟨x_20, ex_20⟩ : ∃ y9 : Int32, f_16 (i + k3_2) = y9 := ⟨_, rfl⟩
    refine kv (v := .int x_20) (congrArg Value.int ex_20) ?_
    refine lv_aload_n hx hb dX0_holdsAt_19 rfl (lv_at hl 2 rfl) ?_
    refine va_get (D := D) (ci := 0) (v := .ref b_2) (C := RX0) (T := TX0) (N := 3) hx hb hts inlX0 hown hK (oneP (C := []) hP hm_4) 0 rfl rfl 0 (by decide) (hts _ mw_88) (fun _ h9 => h9) rfl dX0_holdsAt_20 ?_
    refine lv_iload_n hx hb dX0_holdsAt_23 rfl (lv_at hl 0 rfl) ?_
    refine va_bald hx hb hK (oneP (C := []) hP hm_8) 0 1 rfl rfl (i := nI k3_2) (vp_in_nI (n := k3_2) (by omega) (by omega)) dX0_holdsAt_24 ?_
    refine kv (v := .int (f_6 k3_2)) (by rw [nI_clamp (by omega)]) ?_
    obtain ⟨x_21, ex_21⟩ : ∃ y9 : Int32, f_6 k3_2 = y9 := ⟨_, rfl⟩
    refine kv (v := .int x_21) (congrArg Value.int ex_21) ?_
    refine lv_icmp_eq (tgt := 30) hx hb dX0_holdsAt_25 (by decide) (fun c_22 => ?_) (fun c_22 => ?_)
    · refine lv_iinc (v := (nI (k3_2 + 1))) (lv' := [(3, .int (nI (k3_2 + 1))), (0, .ref a), (1, .ref a2), (2, .int (nI i))]) hx hb dX0_holdsAt_30 hl (k := 0) rfl (nI_i k3_2) (by decide) rfl (fun ls hl => ?_)
      refine lv_goto (tgt := 2) hx hb dX0_holdsAt_33 (by decide) ?_
      exact ih2 _ _ (by omega) ⟨(k3_2 + 1), (by omega), rfl, lv_sub hl [0, 1, 2, 3] rfl⟩
    · refine lv_iconst (v := 0) hx hb dX0_holdsAt_28 (by decide) ?_
      exact cr_iret hx hb hr hlk rfl 0 rfl (by exact Or.inr ((rfl))) dX0_holdsAt_29
set_option maxHeartbeats 4000000 in
set_option maxRecDepth 100000 in
theorem c_X0_holdsBytesOf (l : Launch) (D : va_G) (κ : Nat → ClassId) (κq : Nat → Nat) (im : va_W) (a : Nat) (k : Nat) (n : Nat) (a2 : Nat) (k2 : Nat) (n2 : Nat) (hc : Cl κ im a k n) (hc2 : Cl κ im a2 k2 n2) : Er l yX0_holdsBytesOf (wl yX0_holdsBytesOf cX0_holdsBytesOf 4 (some .boolean)) { frames := 1, cells := 0, slots := 0, locals := 23 } D κ κq [.ref a, .ref a2] ([] ++ im) (fun r : Int32 => some (.int r)) (fun r : Int32 => ((r = 1) ∨ (r = 0))) := by
  refine er_of (by decide +kernel) (Nat.le_of_ble_eq_true rfl) ?_
  intro p e s m args below meth c A ls hx hb hr hml hts hown hlk hKK hK hP hE hl
  have hS : va_S A s.heap s.heap [] := va_S.rf
  have hP : va_P D vwCl ([] ++ im) s.heap := hP
  have hFX : FX p s m args c cX0_holdsBytesOf 4 RX0 := ⟨hx, hb, hml, hown, hts⟩
  have hl : lv_has ls 4 [(0, .ref a), (1, .ref a2)] := hl
  refine lv_aload_n hx hb dX0_holdsBytesOf_0 rfl (lv_at hl 0 rfl) ?_
  obtain ⟨hk_1, b_2, x_3, hm_4, hb_5⟩ := id hc
  have hn_b_2 := hb_5.1
  refine va_get (D := D) (ci := 0) (v := .ref b_2) (C := RX0) (T := TX0) (N := 3) hx hb hts inlX0 hown hK (oneP (C := []) hP hm_4) 0 rfl rfl 0 (by decide) (hts _ mw_88) (fun _ h9 => h9) rfl dX0_holdsBytesOf_1 ?_
  obtain ⟨hn_7, f_6, hm_8, hfit_9⟩ := id hb_5
  refine va_alen hx hb hK (oneP (C := []) hP hm_8) 0 1 rfl rfl (v := nI n) rfl dX0_holdsBytesOf_4 ?_
  refine lv_aload_n hx hb dX0_holdsBytesOf_5 rfl (lv_at hl 1 rfl) ?_
  obtain ⟨hk_10, b_11, x_12, hm_13, hb_14⟩ := id hc2
  have hn_b_11 := hb_14.1
  refine va_get (D := D) (ci := 0) (v := .ref b_11) (C := RX0) (T := TX0) (N := 3) hx hb hts inlX0 hown hK (oneP (C := []) hP hm_13) 0 rfl rfl 0 (by decide) (hts _ mw_88) (fun _ h9 => h9) rfl dX0_holdsBytesOf_6 ?_
  obtain ⟨hn_16, f_15, hm_17, hfit_18⟩ := id hb_14
  refine va_alen hx hb hK (oneP (C := []) hP hm_17) 0 1 rfl rfl (v := nI n2) rfl dX0_holdsBytesOf_9 ?_
  refine lv_isub hx hb dX0_holdsBytesOf_10 ?_
  refine ki (v := (zI (((n : Nat) : Int) - ((n2 : Nat) : Int)))) (z_sub (nI_z _) (nI_z _)) ?_
  refine lv_istore_n (lv' := [(2, .int (zI (((n : Nat) : Int) - ((n2 : Nat) : Int)))), (0, .ref a), (1, .ref a2)]) hx hb dX0_holdsBytesOf_11 rfl hl (by decide) rfl (fun ls hl => ?_)
  refine lv_iconst (v := 0) hx hb dX0_holdsBytesOf_12 (by decide) ?_
  refine lv_istore_n (lv' := [(3, .int 0), (2, .int (zI (((n : Nat) : Int) - ((n2 : Nat) : Int)))), (0, .ref a), (1, .ref a2)]) hx hb dX0_holdsBytesOf_13 rfl hl (by decide) rfl (fun ls hl => ?_)
  refine loop_r (fun k9 ls => ∃ (k3_14 : Nat), (k3_14 ≤ 21) ∧ 21 - k3_14 = k9 ∧ lv_has ls 4 [(3, .int (nI k3_14)), (2, .int (zI (((n : Nat) : Int) - ((n2 : Nat) : Int)))), (0, .ref a), (1, .ref a2)]) (fun k9 ls hI14 ih14 => ?_) (21 - 0) _ ⟨0, (by omega), rfl, lv_sub hl [0, 1, 2, 3] rfl⟩
  obtain ⟨k3_14, hl14_0, hm14, hl⟩ := hI14
  refine lv_iload_n hx hb dX0_holdsBytesOf_14 rfl (lv_at hl 0 rfl) ?_
  refine lv_iload_n hx hb dX0_holdsBytesOf_15 rfl (lv_at hl 1 rfl) ?_
  refine lv_icmp_gt (tgt := 36) hx hb dX0_holdsBytesOf_16 (by decide) (fun c_19 => ?_) (fun c_19 => ?_)
  · have nc_19 := cz_lt (a := (((n : Nat) : Int) - ((n2 : Nat) : Int))) (b := ((k3_14 : Nat) : Int)) (zI_toInt (by omega)) (nI_toInt (by omega)) c_19
    refine lv_iconst (v := 0) hx hb dX0_holdsBytesOf_36 (by decide) ?_
    exact cr_iret hx hb hr hlk rfl 0 rfl (by exact Or.inr ((rfl))) dX0_holdsBytesOf_37
  · have nc_19 := cz_nlt (a := (((n : Nat) : Int) - ((n2 : Nat) : Int))) (b := ((k3_14 : Nat) : Int)) (zI_toInt (by omega)) (nI_toInt (by omega)) c_19
    refine lv_aload_n hx hb dX0_holdsBytesOf_19 rfl (lv_at hl 2 rfl) ?_
    refine lv_aload_n hx hb dX0_holdsBytesOf_20 rfl (lv_at hl 3 rfl) ?_
    refine lv_iload_n hx hb dX0_holdsBytesOf_21 rfl (lv_at hl 0 rfl) ?_
    refine er_V (As := [.ref a2, .int (nI k3_14)]) (rest := []) hFX hKK hE hS (c_X0_holdsAt l D κ κq im a k n a2 k2 n2 k3_14 hc hc2 (by omega)) 2 gV_X0_61 hdV_X0_holdsAt rfl rfl ⟨Nat.le_of_ble_eq_true rfl, Nat.le_of_ble_eq_true rfl⟩ rfl rfl (Nat.le_of_ble_eq_true rfl) dX0_holdsBytesOf_22 ⟨Nat.le_of_ble_eq_true rfl, Nat.le_of_ble_eq_true rfl⟩ hl.1 (oneP (C := []) hP hm_4) 0 0 rfl rfl rfl (subP hP [] rfl) (fun r__20 hp_21 => ?_)
    replace hp_21 : ((r__20 = 1) ∨ (r__20 = 0)) := hp_21
    have ha_22 := hp_21
    clear hp_21
    rcases ha_22 with rfl | rfl
    · refine W.eq (g2 := F0 m 25 ls [.int 1]) rfl ?_
      refine lv_if_eq (tgt := 30) hx hb dX0_holdsBytesOf_25 (by decide) (fun c_23 => absurd c_23 (by decide)) (fun c_23 => ?_)
      refine lv_iconst (v := 1) hx hb dX0_holdsBytesOf_28 (by decide) ?_
      exact cr_iret hx hb hr hlk rfl 1 rfl (by exact Or.inl (rfl)) dX0_holdsBytesOf_29
    · refine W.eq (g2 := F0 m 25 ls [.int 0]) rfl ?_
      refine lv_if_eq (tgt := 30) hx hb dX0_holdsBytesOf_25 (by decide) (fun c_24 => ?_) (fun c_24 => absurd (by decide) c_24)
      refine lv_iinc (v := (nI (k3_14 + 1))) (lv' := [(3, .int (nI (k3_14 + 1))), (2, .int (zI (((n : Nat) : Int) - ((n2 : Nat) : Int)))), (0, .ref a), (1, .ref a2)]) hx hb dX0_holdsBytesOf_30 hl (k := 0) rfl (nI_i k3_14) (by decide) rfl (fun ls hl => ?_)
      refine lv_goto (tgt := 14) hx hb dX0_holdsBytesOf_33 (by decide) ?_
      exact ih14 _ _ (by omega) ⟨(k3_14 + 1), (by omega), rfl, lv_sub hl [0, 1, 2, 3] rfl⟩
set_option maxHeartbeats 4000000 in
set_option maxRecDepth 100000 in
theorem c_X0_comparedTo (l : Launch) (D : va_G) (κ : Nat → ClassId) (κq : Nat → Nat) (im : va_W) (a : Nat) (k : Nat) (n : Nat) (a2 : Nat) (k2 : Nat) (n2 : Nat) (zt : Int32) (hc : Cl κ im a k n) (hc2 : Cl κ im a2 k2 n2) : Er l yX0_comparedTo (wl yX0_comparedTo cX0_comparedTo 3 (some .int)) { frames := 2, cells := 0, slots := 0, locals := 44 } D κ κq [.ref a, .ref a2, .int zt] ([] ++ im) (fun r : Int32 => some (.int r)) (fun r : Int32 => True) := by
  refine er_of (by decide +kernel) (Nat.le_of_ble_eq_true rfl) ?_
  intro p e s m args below meth c A ls hx hb hr hml hts hown hlk hKK hK hP hE hl
  have hS : va_S A s.heap s.heap [] := va_S.rf
  have hP : va_P D vwCl ([] ++ im) s.heap := hP
  have hFX : FX p s m args c cX0_comparedTo 3 RX0 := ⟨hx, hb, hml, hown, hts⟩
  have hl : lv_has ls 3 [(0, .ref a), (1, .ref a2), (2, .int zt)] := hl
  refine lv_aload_n hx hb dX0_comparedTo_0 rfl (lv_at hl 0 rfl) ?_
  obtain ⟨hk_3, b_4, x_5, hm_6, hb_7⟩ := id hc
  have hn_b_4 := hb_7.1
  refine er_V (As := []) (rest := []) hFX hKK hE hS (c_X0_isEmpty l D κ κq im a k n hc) 0 gV_X0_33 hdV_X0_isEmpty rfl rfl ⟨Nat.le_of_ble_eq_true rfl, Nat.le_of_ble_eq_true rfl⟩ rfl rfl (Nat.le_of_ble_eq_true rfl) dX0_comparedTo_1 ⟨Nat.le_of_ble_eq_true rfl, Nat.le_of_ble_eq_true rfl⟩ hl.1 (oneP (C := []) hP hm_6) 0 0 rfl rfl rfl (subP hP [] rfl) (fun r__1 hp_2 => ?_)
  replace hp_2 : ((r__1 = 1 ∧ n = 0) ∨ (r__1 = 0 ∧ 1 ≤ n)) := hp_2
  have ha_8 := hp_2
  clear hp_2
  rcases ha_8 with ⟨rfl, a_9⟩ | ⟨rfl, a_10⟩
  · refine W.eq (g2 := F0 m 4 ls [.int 1]) rfl ?_
    refine lv_if_ne (tgt := 14) hx hb dX0_comparedTo_4 (by decide) (fun c_11 => ?_) (fun c_11 => absurd c_11 (by decide))
    refine lv_aload_n hx hb dX0_comparedTo_14 rfl (lv_at hl 0 rfl) ?_
    refine va_get (D := D) (ci := 0) (v := .ref b_4) (C := RX0) (T := TX0) (N := 3) hx hb hts inlX0 hown hK (oneP (C := []) hP hm_6) 0 rfl rfl 0 (by decide) (hts _ mw_88) (fun _ h9 => h9) rfl dX0_comparedTo_15 ?_
    obtain ⟨hn_13, f_12, hm_14, hfit_15⟩ := id hb_7
    refine va_alen hx hb hK (oneP (C := []) hP hm_14) 0 1 rfl rfl (v := nI n) rfl dX0_comparedTo_18 ?_
    refine lv_aload_n hx hb dX0_comparedTo_19 rfl (lv_at hl 1 rfl) ?_
    obtain ⟨hk_16, b_17, x_18, hm_19, hb_20⟩ := id hc2
    have hn_b_17 := hb_20.1
    refine va_get (D := D) (ci := 0) (v := .ref b_17) (C := RX0) (T := TX0) (N := 3) hx hb hts inlX0 hown hK (oneP (C := []) hP hm_19) 0 rfl rfl 0 (by decide) (hts _ mw_88) (fun _ h9 => h9) rfl dX0_comparedTo_20 ?_
    obtain ⟨hn_22, f_21, hm_23, hfit_24⟩ := id hb_20
    refine va_alen hx hb hK (oneP (C := []) hP hm_23) 0 1 rfl rfl (v := nI n2) rfl dX0_comparedTo_23 ?_
    refine er_S (As := [.int (nI n), .int (nI n2)]) (rest := []) hFX hKK hE hS (c_J6_compare_7cf53 l D κ κq (nI n) (nI n2)) 2 gS_X0_37 hdS_J6_compare_7cf53 rfl rfl ⟨Nat.le_of_ble_eq_true rfl, Nat.le_of_ble_eq_true rfl⟩ rfl rfl (Nat.le_of_ble_eq_true rfl) dX0_comparedTo_24 ⟨Nat.le_of_ble_eq_true rfl, Nat.le_of_ble_eq_true rfl⟩ hl.1 (subP0 hP [] rfl) (fun r__25 hp_26 => ?_)
    refine W.eq (g2 := F0 m 27 ls [.int r__25]) rfl ?_
    exact cr_iret hx hb hr hlk rfl r__25 rfl trivial dX0_comparedTo_27
  · refine W.eq (g2 := F0 m 4 ls [.int 0]) rfl ?_
    refine lv_if_ne (tgt := 14) hx hb dX0_comparedTo_4 (by decide) (fun c_27 => absurd c_27 (by decide)) (fun c_27 => ?_)
    refine lv_aload_n hx hb dX0_comparedTo_7 rfl (lv_at hl 1 rfl) ?_
    obtain ⟨hk_30, b_31, x_32, hm_33, hb_34⟩ := id hc2
    have hn_b_31 := hb_34.1
    refine er_V (As := []) (rest := []) hFX hKK hE hS (c_X0_isEmpty l D κ κq im a2 k2 n2 hc2) 0 gV_X0_33 hdV_X0_isEmpty rfl rfl ⟨Nat.le_of_ble_eq_true rfl, Nat.le_of_ble_eq_true rfl⟩ rfl rfl (Nat.le_of_ble_eq_true rfl) dX0_comparedTo_8 ⟨Nat.le_of_ble_eq_true rfl, Nat.le_of_ble_eq_true rfl⟩ hl.1 (oneP (C := []) hP hm_33) 0 0 rfl rfl rfl (subP hP [] rfl) (fun r__28 hp_29 => ?_)
    replace hp_29 : ((r__28 = 1 ∧ n2 = 0) ∨ (r__28 = 0 ∧ 1 ≤ n2)) := hp_29
    have ha_35 := hp_29
    clear hp_29
    rcases ha_35 with ⟨rfl, a_36⟩ | ⟨rfl, a_37⟩
    · refine W.eq (g2 := F0 m 11 ls [.int 1]) rfl ?_
      refine lv_if_eq (tgt := 28) hx hb dX0_comparedTo_11 (by decide) (fun c_38 => absurd c_38 (by decide)) (fun c_38 => ?_)
      refine lv_aload_n hx hb dX0_comparedTo_14 rfl (lv_at hl 0 rfl) ?_
      refine va_get (D := D) (ci := 0) (v := .ref b_4) (C := RX0) (T := TX0) (N := 3) hx hb hts inlX0 hown hK (oneP (C := []) hP hm_6) 0 rfl rfl 0 (by decide) (hts _ mw_88) (fun _ h9 => h9) rfl dX0_comparedTo_15 ?_
      obtain ⟨hn_40, f_39, hm_41, hfit_42⟩ := id hb_7
      refine va_alen hx hb hK (oneP (C := []) hP hm_41) 0 1 rfl rfl (v := nI n) rfl dX0_comparedTo_18 ?_
      refine lv_aload_n hx hb dX0_comparedTo_19 rfl (lv_at hl 1 rfl) ?_
      refine va_get (D := D) (ci := 0) (v := .ref b_31) (C := RX0) (T := TX0) (N := 3) hx hb hts inlX0 hown hK (oneP (C := []) hP hm_33) 0 rfl rfl 0 (by decide) (hts _ mw_88) (fun _ h9 => h9) rfl dX0_comparedTo_20 ?_
      obtain ⟨hn_44, f_43, hm_45, hfit_46⟩ := id hb_34
      refine va_alen hx hb hK (oneP (C := []) hP hm_45) 0 1 rfl rfl (v := nI n2) rfl dX0_comparedTo_23 ?_
      refine er_S (As := [.int (nI n), .int (nI n2)]) (rest := []) hFX hKK hE hS (c_J6_compare_7cf53 l D κ κq (nI n) (nI n2)) 2 gS_X0_37 hdS_J6_compare_7cf53 rfl rfl ⟨Nat.le_of_ble_eq_true rfl, Nat.le_of_ble_eq_true rfl⟩ rfl rfl (Nat.le_of_ble_eq_true rfl) dX0_comparedTo_24 ⟨Nat.le_of_ble_eq_true rfl, Nat.le_of_ble_eq_true rfl⟩ hl.1 (subP0 hP [] rfl) (fun r__47 hp_48 => ?_)
      refine W.eq (g2 := F0 m 27 ls [.int r__47]) rfl ?_
      exact cr_iret hx hb hr hlk rfl r__47 rfl trivial dX0_comparedTo_27
    · refine W.eq (g2 := F0 m 11 ls [.int 0]) rfl ?_
      refine lv_if_eq (tgt := 28) hx hb dX0_comparedTo_11 (by decide) (fun c_49 => ?_) (fun c_49 => absurd (by decide) c_49)
      refine lv_iload_n hx hb dX0_comparedTo_28 rfl (lv_at hl 2 rfl) ?_
      refine lv_iconst (v := 5) hx hb dX0_comparedTo_29 (by decide) ?_
      refine lv_icmp_ne (tgt := 39) hx hb dX0_comparedTo_30 (by decide) (fun c_50 => ?_) (fun c_50 => ?_)
      · refine lv_aload_n hx hb dX0_comparedTo_39 rfl (lv_at hl 0 rfl) ?_
        refine lv_iload_n hx hb dX0_comparedTo_40 rfl (lv_at hl 2 rfl) ?_
        refine er_V (As := [.int zt]) (rest := []) hFX hKK hE hS (c_X0_numberAs l D κ κq im a k n zt hc) 1 gV_X0_47 hdV_X0_numberAs rfl rfl ⟨Nat.le_of_ble_eq_true rfl, Nat.le_of_ble_eq_true rfl⟩ rfl rfl (Nat.le_of_ble_eq_true rfl) dX0_comparedTo_41 ⟨Nat.le_of_ble_eq_true rfl, Nat.le_of_ble_eq_true rfl⟩ hl.1 (oneP (C := []) hP hm_6) 0 0 rfl rfl rfl (subP hP [] rfl) (fun r__51 hp_52 => ?_)
        refine W.eq (g2 := F0 m 44 ls [.long r__51]) rfl ?_
        refine lv_aload_n hx hb dX0_comparedTo_44 rfl (lv_at hl 1 rfl) ?_
        refine lv_iload_n hx hb dX0_comparedTo_45 rfl (lv_at hl 2 rfl) ?_
        refine er_V (As := [.int zt]) (rest := [.long r__51]) hFX hKK hE hS (c_X0_numberAs l D κ κq im a2 k2 n2 zt hc2) 1 gV_X0_47 hdV_X0_numberAs rfl rfl ⟨Nat.le_of_ble_eq_true rfl, Nat.le_of_ble_eq_true rfl⟩ rfl rfl (Nat.le_of_ble_eq_true rfl) dX0_comparedTo_46 ⟨Nat.le_of_ble_eq_true rfl, Nat.le_of_ble_eq_true rfl⟩ hl.1 (oneP (C := []) hP hm_33) 0 0 rfl rfl rfl (subP hP [] rfl) (fun r__53 hp_54 => ?_)
        refine W.eq (g2 := F0 m 49 ls [.long r__53, .long r__51]) rfl ?_
        refine er_S (As := [.long r__51, .long r__53]) (rest := []) hFX hKK hE hS (c_J13_compare_74951 l D κ κq r__51 r__53) 2 gS_X0_51 hdS_J13_compare_74951 rfl rfl ⟨Nat.le_of_ble_eq_true rfl, Nat.le_of_ble_eq_true rfl⟩ rfl rfl (Nat.le_of_ble_eq_true rfl) dX0_comparedTo_49 ⟨Nat.le_of_ble_eq_true rfl, Nat.le_of_ble_eq_true rfl⟩ hl.1 (subP0 hP [] rfl) (fun r__55 hp_56 => ?_)
        refine W.eq (g2 := F0 m 52 ls [.int r__55]) rfl ?_
        exact cr_iret hx hb hr hlk rfl r__55 rfl trivial dX0_comparedTo_52
      · refine lv_aload_n hx hb dX0_comparedTo_33 rfl (lv_at hl 0 rfl) ?_
        refine lv_aload_n hx hb dX0_comparedTo_34 rfl (lv_at hl 1 rfl) ?_
        refine er_V (As := [.ref a2]) (rest := []) hFX hKK hE hS (c_X0_bytesComparedTo l D κ κq im a k n a2 k2 n2 hc hc2) 1 gV_X0_43 hdV_X0_bytesComparedTo rfl rfl ⟨Nat.le_of_ble_eq_true rfl, Nat.le_of_ble_eq_true rfl⟩ rfl rfl (Nat.le_of_ble_eq_true rfl) dX0_comparedTo_35 ⟨Nat.le_of_ble_eq_true rfl, Nat.le_of_ble_eq_true rfl⟩ hl.1 (oneP (C := []) hP hm_6) 0 0 rfl rfl rfl (subP hP [] rfl) (fun r__57 hp_58 => ?_)
        refine W.eq (g2 := F0 m 38 ls [.int r__57]) rfl ?_
        exact cr_iret hx hb hr hlk rfl r__57 rfl trivial dX0_comparedTo_38
set_option maxHeartbeats 4000000 in
set_option maxRecDepth 100000 in
theorem c_X0_isLeap (l : Launch) (D : va_G) (κ : Nat → ClassId) (κq : Nat → Nat) (za : Int32) : Er l yX0_isLeap (wl yX0_isLeap cX0_isLeap 1 (some .boolean)) { frames := 0, cells := 0, slots := 0, locals := 0 } D κ κq [.int za] [] (fun r : Int32 => some (.int r)) (fun r : Int32 => ((r = 1) ∨ (r = 0))) := by
  refine er_of (by decide +kernel) (Nat.le_of_ble_eq_true rfl) ?_
  intro p e s m args below meth c A ls hx hb hr hml hts hown hlk hKK hK hP hE hl
  have hS : va_S A s.heap s.heap [] := va_S.rf
  have hP : va_P D vwCl ([] ++ []) s.heap := hP
  have hFX : FX p s m args c cX0_isLeap 1 RX0 := ⟨hx, hb, hml, hown, hts⟩
  have hl : lv_has ls 1 [(0, .int za)] := hl
  refine lv_iload_n hx hb dX0_isLeap_0 rfl (lv_at hl 0 rfl) ?_
  refine lv_iconst (v := 4) hx hb dX0_isLeap_1 (by decide) ?_
  refine lv_irem hx hb dX0_isLeap_2 (by decide) ?_
  refine lv_topi (fun x_1 ex_1 => ?_)
  refine lv_if_ne (tgt := 25) hx hb dX0_isLeap_3 (by decide) (fun c_2 => ?_) (fun c_2 => ?_)
  · refine lv_iconst (v := 0) hx hb dX0_isLeap_25 (by decide) ?_
    exact cr_iret hx hb hr hlk rfl 0 rfl (by exact Or.inr ((rfl))) dX0_isLeap_26
  · refine lv_iload_n hx hb dX0_isLeap_6 rfl (lv_at hl 0 rfl) ?_
    refine lv_bipush (v := 100) hx hb dX0_isLeap_7 (by decide) ?_
    refine lv_irem hx hb dX0_isLeap_9 (by decide) ?_
    refine lv_topi (fun x_3 ex_3 => ?_)
    refine lv_if_ne (tgt := 21) hx hb dX0_isLeap_10 (by decide) (fun c_4 => ?_) (fun c_4 => ?_)
    · refine lv_iconst (v := 1) hx hb dX0_isLeap_21 (by decide) ?_
      refine lv_goto (tgt := 26) hx hb dX0_isLeap_22 (by decide) ?_
      exact cr_iret hx hb hr hlk rfl 1 rfl (by exact Or.inl (rfl)) dX0_isLeap_26
    · refine lv_iload_n hx hb dX0_isLeap_13 rfl (lv_at hl 0 rfl) ?_
      refine lv_sipush (v := 400) hx hb dX0_isLeap_14 (by decide) ?_
      refine lv_irem hx hb dX0_isLeap_17 (by decide) ?_
      refine lv_topi (fun x_5 ex_5 => ?_)
      refine lv_if_ne (tgt := 25) hx hb dX0_isLeap_18 (by decide) (fun c_6 => ?_) (fun c_6 => ?_)
      · refine lv_iconst (v := 0) hx hb dX0_isLeap_25 (by decide) ?_
        exact cr_iret hx hb hr hlk rfl 0 rfl (by exact Or.inr ((rfl))) dX0_isLeap_26
      · refine lv_iconst (v := 1) hx hb dX0_isLeap_21 (by decide) ?_
        refine lv_goto (tgt := 26) hx hb dX0_isLeap_22 (by decide) ?_
        exact cr_iret hx hb hr hlk rfl 1 rfl (by exact Or.inl (rfl)) dX0_isLeap_26
set_option maxHeartbeats 4000000 in
set_option maxRecDepth 100000 in
theorem c_X0_leapYearsAhead (l : Launch) (D : va_G) (κ : Nat → ClassId) (κq : Nat → Nat) (za : Int32) : Er l yX0_leapYearsAhead (wl yX0_leapYearsAhead cX0_leapYearsAhead 2 (some .int)) { frames := 0, cells := 0, slots := 0, locals := 0 } D κ κq [.int za] [] (fun r : Int32 => some (.int r)) (fun r : Int32 => True) := by
  refine er_of (by decide +kernel) (Nat.le_of_ble_eq_true rfl) ?_
  intro p e s m args below meth c A ls hx hb hr hml hts hown hlk hKK hK hP hE hl
  have hS : va_S A s.heap s.heap [] := va_S.rf
  have hP : va_P D vwCl ([] ++ []) s.heap := hP
  have hFX : FX p s m args c cX0_leapYearsAhead 2 RX0 := ⟨hx, hb, hml, hown, hts⟩
  have hl : lv_has ls 2 [(0, .int za)] := hl
  refine lv_iload_n hx hb dX0_leapYearsAhead_0 rfl (lv_at hl 0 rfl) ?_
  refine lv_iconst (v := 1) hx hb dX0_leapYearsAhead_1 (by decide) ?_
  refine lv_isub hx hb dX0_leapYearsAhead_2 ?_
  refine lv_topi (fun x_1 ex_1 => ?_)
  refine lv_istore_n (lv' := [(1, .int x_1), (0, .int za)]) hx hb dX0_leapYearsAhead_3 rfl hl (by decide) rfl (fun ls hl => ?_)
  refine lv_iload_n hx hb dX0_leapYearsAhead_4 rfl (lv_at hl 0 rfl) ?_
  refine lv_iconst (v := 4) hx hb dX0_leapYearsAhead_5 (by decide) ?_
  refine lv_idiv hx hb dX0_leapYearsAhead_6 (by decide) ?_
  refine lv_topi (fun x_2 ex_2 => ?_)
  refine lv_iload_n hx hb dX0_leapYearsAhead_7 rfl (lv_at hl 0 rfl) ?_
  refine lv_bipush (v := 100) hx hb dX0_leapYearsAhead_8 (by decide) ?_
  refine lv_idiv hx hb dX0_leapYearsAhead_10 (by decide) ?_
  refine lv_topi (fun x_3 ex_3 => ?_)
  refine lv_isub hx hb dX0_leapYearsAhead_11 ?_
  refine lv_topi (fun x_4 ex_4 => ?_)
  refine lv_iload_n hx hb dX0_leapYearsAhead_12 rfl (lv_at hl 0 rfl) ?_
  refine lv_sipush (v := 400) hx hb dX0_leapYearsAhead_13 (by decide) ?_
  refine lv_idiv hx hb dX0_leapYearsAhead_16 (by decide) ?_
  refine lv_topi (fun x_5 ex_5 => ?_)
  refine lv_iadd hx hb dX0_leapYearsAhead_17 ?_
  refine lv_topi (fun x_6 ex_6 => ?_)
  exact cr_iret hx hb hr hlk rfl x_6 rfl trivial dX0_leapYearsAhead_18
set_option maxHeartbeats 4000000 in
set_option maxRecDepth 100000 in
theorem c_X0_numeralKind (l : Launch) (D : va_G) (κ : Nat → ClassId) (κq : Nat → Nat) (b : Nat) (n : Nat) (f : Nat → Int32) (h1 : n ≤ 20) (h2 : 1 ≤ n) : Er l yX0_numeralKind (wl yX0_numeralKind cX0_numeralKind 5 (some .int)) { frames := 1, cells := 0, slots := 0, locals := 20 } D κ κq [.ref b] [(b, .inl (κ 1, n, .inl f))] (fun r : Nat => some (.int (nI r))) (fun r : Nat => (r = 2 ∨ r = 3 ∨ r = 5)) := by
  refine er_of (by decide +kernel) (Nat.le_of_ble_eq_true rfl) ?_
  intro p e s m args below meth c A ls hx hb hr hml hts hown hlk hKK hK hP hE hl
  have hS : va_S A s.heap s.heap [] := va_S.rf
  have hP : va_P D vwCl ([(b, .inl (κ 1, n, .inl f))] ++ []) s.heap := hP
  have hFX : FX p s m args c cX0_numeralKind 5 RX0 := ⟨hx, hb, hml, hown, hts⟩
  have hl : lv_has ls 5 [(0, .ref b)] := hl
  refine lv_aload_n hx hb dX0_numeralKind_0 rfl (lv_at hl 0 rfl) ?_
  refine lv_iconst (v := 0) hx hb dX0_numeralKind_1 (by decide) ?_
  refine va_bald hx hb hK hP 0 1 rfl rfl (i := 0) (vp_c (c := 0) (by decide) (by omega)) dX0_numeralKind_2 ?_
  obtain ⟨x_1, ex_1⟩ : ∃ y9 : Int32, f 0 = y9 := ⟨_, rfl⟩
  refine kv (v := .int x_1) (congrArg Value.int ex_1) ?_
  refine lv_bipush (v := 45) hx hb dX0_numeralKind_3 (by decide) ?_
  refine lv_icmp_ne (tgt := 12) hx hb dX0_numeralKind_5 (by decide) (fun c_2 => ?_) (fun c_2 => ?_)
  · refine lv_iconst (v := 0) hx hb dX0_numeralKind_12 (by decide) ?_
    refine lv_istore_n (lv' := [(1, .int 0), (0, .ref b)]) hx hb dX0_numeralKind_13 rfl hl (by decide) rfl (fun ls hl => ?_)
    refine lv_aload_n hx hb dX0_numeralKind_14 rfl (lv_at hl 1 rfl) ?_
    refine va_alen hx hb hK hP 0 1 rfl rfl (v := nI n) rfl dX0_numeralKind_15 ?_
    refine lv_istore_n (lv' := [(2, .int (nI n)), (1, .int 0), (0, .ref b)]) hx hb dX0_numeralKind_16 rfl hl (by decide) rfl (fun ls hl => ?_)
    refine lv_iload_n hx hb dX0_numeralKind_17 rfl (lv_at hl 1 rfl) ?_
    refine lv_istore_n (lv' := [(3, .int 0), (2, .int (nI n)), (1, .int 0), (0, .ref b)]) hx hb dX0_numeralKind_18 rfl hl (by decide) rfl (fun ls hl => ?_)
    refine loop_r (fun k9 ls => ∃ (k3_19 : Nat), ∃ (k2_19 : Nat), (0 ≤ k3_19) ∧ (k3_19 ≤ n + 1) ∧ (0 ≤ k2_19) ∧ (k2_19 ≤ n) ∧ (0 ≤ 1) ∧ n + 1 - k3_19 = k9 ∧ lv_has ls 5 [(3, .int (nI k3_19)), (2, .int (nI k2_19)), (1, .int 0), (0, .ref b)]) (fun k9 ls hI19 ih19 => ?_) (n + 1 - 0) _ ⟨0, n, (by omega), (by omega), (by omega), (by omega), (by omega), rfl, lv_sub hl [0, 1, 2, 3] rfl⟩
    obtain ⟨k3_19, k2_19, hl19_0, hl19_1, hl19_2, hl19_3, hl19_4, hm19, hl⟩ := hI19
    refine lv_iload_n hx hb dX0_numeralKind_19 rfl (lv_at hl 0 rfl) ?_
    refine lv_aload_n hx hb dX0_numeralKind_20 rfl (lv_at hl 3 rfl) ?_
    refine va_alen hx hb hK hP 0 1 rfl rfl (v := nI n) rfl dX0_numeralKind_21 ?_
    refine lv_icmp_ge (tgt := 61) hx hb dX0_numeralKind_22 (by decide) (fun c_3 => ?_) (fun c_3 => ?_)
    · have nc_3 := cv_le (a := n) (b := k3_19) (by omega) (by omega) c_3
      refine lv_iload_n hx hb dX0_numeralKind_61 rfl (lv_at hl 1 rfl) ?_
      refine lv_iload_n hx hb dX0_numeralKind_62 rfl (lv_at hl 2 rfl) ?_
      refine lv_isub hx hb dX0_numeralKind_63 ?_
      refine ki (v := (zI (((k2_19 : Nat) : Int) - 0))) (z_sub (nI_z _) (by decide)) ?_
      refine lv_istore_n (lv' := [(3, .int (zI (((k2_19 : Nat) : Int) - 0))), (2, .int (nI k2_19)), (1, .int 0), (0, .ref b)]) hx hb dX0_numeralKind_64 rfl hl (by decide) rfl (fun ls hl => ?_)
      refine lv_iload_n hx hb dX0_numeralKind_65 rfl (lv_at hl 0 rfl) ?_
      refine lv_iconst (v := 1) hx hb dX0_numeralKind_66 (by decide) ?_
      refine lv_icmp_lt (tgt := 89) hx hb dX0_numeralKind_67 (by decide) (fun c_4 => ?_) (fun c_4 => ?_)
      · have nc_4 := cz_lt (a := (((k2_19 : Nat) : Int) - 0)) (b := (1 : Int)) (zI_toInt (by omega)) (by decide) c_4
        refine lv_iconst (v := 5) hx hb dX0_numeralKind_89 (by decide) ?_
        exact cr_iret hx hb hr hlk rfl 5 rfl (show 5 = 2 ∨ 5 = 3 ∨ 5 = 5 from (by first | assumption | omega | rfl | exact Or.inl (by assumption) | exact Or.inr (by assumption))) dX0_numeralKind_90
      · have nc_4 := cz_nlt (a := (((k2_19 : Nat) : Int) - 0)) (b := (1 : Int)) (zI_toInt (by omega)) (by decide) c_4
        refine lv_iload_n hx hb dX0_numeralKind_70 rfl (lv_at hl 0 rfl) ?_
        refine lv_bipush (v := 9) hx hb dX0_numeralKind_71 (by decide) ?_
        refine lv_icmp_gt (tgt := 89) hx hb dX0_numeralKind_73 (by decide) (fun c_5 => ?_) (fun c_5 => ?_)
        · have nc_5 := cz_lt (a := (9 : Int)) (b := (((k2_19 : Nat) : Int) - 0)) (by decide) (zI_toInt (by omega)) c_5
          refine lv_iconst (v := 5) hx hb dX0_numeralKind_89 (by decide) ?_
          exact cr_iret hx hb hr hlk rfl 5 rfl (show 5 = 2 ∨ 5 = 3 ∨ 5 = 5 from (by first | assumption | omega | rfl | exact Or.inl (by assumption) | exact Or.inr (by assumption))) dX0_numeralKind_90
        · have nc_5 := cz_nlt (a := (9 : Int)) (b := (((k2_19 : Nat) : Int) - 0)) (by decide) (zI_toInt (by omega)) c_5
          refine lv_iload_n hx hb dX0_numeralKind_76 rfl (lv_at hl 0 rfl) ?_
          refine lv_iconst (v := 1) hx hb dX0_numeralKind_77 (by decide) ?_
          refine lv_icmp_le (tgt := 91) hx hb dX0_numeralKind_78 (by decide) (fun c_6 => ?_) (fun c_6 => ?_)
          · have nc_6 := cz_le (a := (((k2_19 : Nat) : Int) - 0)) (b := (1 : Int)) (zI_toInt (by omega)) (by decide) c_6
            refine lv_iload_n hx hb dX0_numeralKind_91 rfl (lv_at hl 1 rfl) ?_
            refine lv_aload_n hx hb dX0_numeralKind_92 rfl (lv_at hl 3 rfl) ?_
            refine va_alen hx hb hK hP 0 1 rfl rfl (v := nI n) rfl dX0_numeralKind_93 ?_
            refine lv_icmp_ne (tgt := 116) hx hb dX0_numeralKind_94 (by decide) (fun c_7 => ?_) (fun c_7 => ?_)
            · have nc_7 := cv_ne (a := k2_19) (b := n) (by omega) (by omega) c_7
              refine lv_aload_n hx hb dX0_numeralKind_116 rfl (lv_at hl 3 rfl) ?_
              refine va_alen hx hb hK hP 0 1 rfl rfl (v := nI n) rfl dX0_numeralKind_117 ?_
              refine lv_iload_n hx hb dX0_numeralKind_118 rfl (lv_at hl 1 rfl) ?_
              refine lv_isub hx hb dX0_numeralKind_119 ?_
              refine ki (v := (zI (((n : Nat) : Int) - ((k2_19 : Nat) : Int)))) (z_sub (nI_z _) (nI_z _)) ?_
              refine lv_iconst (v := 1) hx hb dX0_numeralKind_120 (by decide) ?_
              refine lv_isub hx hb dX0_numeralKind_121 ?_
              refine ki (v := (zI ((((n : Nat) : Int) - ((k2_19 : Nat) : Int)) - 1))) (z_sub rfl (by decide)) ?_
              refine lv_istore (lv' := [(4, .int (zI ((((n : Nat) : Int) - ((k2_19 : Nat) : Int)) - 1))), (3, .int (zI (((k2_19 : Nat) : Int) - 0))), (2, .int (nI k2_19)), (1, .int 0), (0, .ref b)]) hx hb dX0_numeralKind_122 hl (by decide) rfl (fun ls hl => ?_)
              refine lv_iload hx hb dX0_numeralKind_124 (lv_at hl 0 rfl) ?_
              refine lv_iconst (v := 1) hx hb dX0_numeralKind_126 (by decide) ?_
              refine lv_icmp_lt (tgt := 140) hx hb dX0_numeralKind_127 (by decide) (fun c_8 => ?_) (fun c_8 => ?_)
              · have nc_8 := cz_lt (a := ((((n : Nat) : Int) - ((k2_19 : Nat) : Int)) - 1)) (b := (1 : Int)) (zI_toInt (by omega)) (by decide) c_8
                refine lv_iconst (v := 5) hx hb dX0_numeralKind_140 (by decide) ?_
                exact cr_iret hx hb hr hlk rfl 5 rfl (show 5 = 2 ∨ 5 = 3 ∨ 5 = 5 from (by first | assumption | omega | rfl | exact Or.inl (by assumption) | exact Or.inr (by assumption))) dX0_numeralKind_141
              · have nc_8 := cz_nlt (a := ((((n : Nat) : Int) - ((k2_19 : Nat) : Int)) - 1)) (b := (1 : Int)) (zI_toInt (by omega)) (by decide) c_8
                refine lv_iload hx hb dX0_numeralKind_130 (lv_at hl 0 rfl) ?_
                refine lv_iconst (v := 4) hx hb dX0_numeralKind_132 (by decide) ?_
                refine lv_icmp_gt (tgt := 140) hx hb dX0_numeralKind_133 (by decide) (fun c_9 => ?_) (fun c_9 => ?_)
                · have nc_9 := cz_lt (a := (4 : Int)) (b := ((((n : Nat) : Int) - ((k2_19 : Nat) : Int)) - 1)) (by decide) (zI_toInt (by omega)) c_9
                  refine lv_iconst (v := 5) hx hb dX0_numeralKind_140 (by decide) ?_
                  exact cr_iret hx hb hr hlk rfl 5 rfl (show 5 = 2 ∨ 5 = 3 ∨ 5 = 5 from (by first | assumption | omega | rfl | exact Or.inl (by assumption) | exact Or.inr (by assumption))) dX0_numeralKind_141
                · have nc_9 := cz_nlt (a := (4 : Int)) (b := ((((n : Nat) : Int) - ((k2_19 : Nat) : Int)) - 1)) (by decide) (zI_toInt (by omega)) c_9
                  refine lv_iconst (v := 3) hx hb dX0_numeralKind_136 (by decide) ?_
                  refine lv_goto (tgt := 141) hx hb dX0_numeralKind_137 (by decide) ?_
                  exact cr_iret hx hb hr hlk rfl 3 rfl (show 3 = 2 ∨ 3 = 3 ∨ 3 = 5 from (by first | assumption | omega | rfl | exact Or.inl (by assumption) | exact Or.inr (by assumption))) dX0_numeralKind_141
            · have nc_7 := cv_eq (a := k2_19) (b := n) (by omega) (by omega) c_7
              refine lv_iload_n hx hb dX0_numeralKind_97 rfl (lv_at hl 2 rfl) ?_
              refine lv_iconst (v := 1) hx hb dX0_numeralKind_98 (by decide) ?_
              refine lv_icmp_ne (tgt := 114) hx hb dX0_numeralKind_99 (by decide) (fun c_10 => ?_) (fun c_10 => absurd c_10 (by decide))
              refine lv_iconst (v := 2) hx hb dX0_numeralKind_114 (by decide) ?_
              exact cr_iret hx hb hr hlk rfl 2 rfl (show 2 = 2 ∨ 2 = 3 ∨ 2 = 5 from (by first | assumption | omega | rfl | exact Or.inl (by assumption) | exact Or.inr (by assumption))) dX0_numeralKind_115
          · have nc_6 := cz_nle (a := (((k2_19 : Nat) : Int) - 0)) (b := (1 : Int)) (zI_toInt (by omega)) (by decide) c_6
            refine lv_aload_n hx hb dX0_numeralKind_81 rfl (lv_at hl 3 rfl) ?_
            refine lv_iload_n hx hb dX0_numeralKind_82 rfl (lv_at hl 2 rfl) ?_
            refine va_bald hx hb hK hP 0 1 rfl rfl (i := 0) (vp_c (c := 0) (by decide) (by omega)) dX0_numeralKind_83 ?_
            refine kv (v := .int x_1) (congrArg Value.int (ex_1)) ?_
            refine lv_bipush (v := 48) hx hb dX0_numeralKind_84 (by decide) ?_
            refine lv_icmp_ne (tgt := 91) hx hb dX0_numeralKind_86 (by decide) (fun c_11 => ?_) (fun c_11 => ?_)
            · refine lv_iload_n hx hb dX0_numeralKind_91 rfl (lv_at hl 1 rfl) ?_
              refine lv_aload_n hx hb dX0_numeralKind_92 rfl (lv_at hl 3 rfl) ?_
              refine va_alen hx hb hK hP 0 1 rfl rfl (v := nI n) rfl dX0_numeralKind_93 ?_
              refine lv_icmp_ne (tgt := 116) hx hb dX0_numeralKind_94 (by decide) (fun c_12 => ?_) (fun c_12 => ?_)
              · have nc_12 := cv_ne (a := k2_19) (b := n) (by omega) (by omega) c_12
                refine lv_aload_n hx hb dX0_numeralKind_116 rfl (lv_at hl 3 rfl) ?_
                refine va_alen hx hb hK hP 0 1 rfl rfl (v := nI n) rfl dX0_numeralKind_117 ?_
                refine lv_iload_n hx hb dX0_numeralKind_118 rfl (lv_at hl 1 rfl) ?_
                refine lv_isub hx hb dX0_numeralKind_119 ?_
                refine ki (v := (zI (((n : Nat) : Int) - ((k2_19 : Nat) : Int)))) (z_sub (nI_z _) (nI_z _)) ?_
                refine lv_iconst (v := 1) hx hb dX0_numeralKind_120 (by decide) ?_
                refine lv_isub hx hb dX0_numeralKind_121 ?_
                refine ki (v := (zI ((((n : Nat) : Int) - ((k2_19 : Nat) : Int)) - 1))) (z_sub rfl (by decide)) ?_
                refine lv_istore (lv' := [(4, .int (zI ((((n : Nat) : Int) - ((k2_19 : Nat) : Int)) - 1))), (3, .int (zI (((k2_19 : Nat) : Int) - 0))), (2, .int (nI k2_19)), (1, .int 0), (0, .ref b)]) hx hb dX0_numeralKind_122 hl (by decide) rfl (fun ls hl => ?_)
                refine lv_iload hx hb dX0_numeralKind_124 (lv_at hl 0 rfl) ?_
                refine lv_iconst (v := 1) hx hb dX0_numeralKind_126 (by decide) ?_
                refine lv_icmp_lt (tgt := 140) hx hb dX0_numeralKind_127 (by decide) (fun c_13 => ?_) (fun c_13 => ?_)
                · have nc_13 := cz_lt (a := ((((n : Nat) : Int) - ((k2_19 : Nat) : Int)) - 1)) (b := (1 : Int)) (zI_toInt (by omega)) (by decide) c_13
                  refine lv_iconst (v := 5) hx hb dX0_numeralKind_140 (by decide) ?_
                  exact cr_iret hx hb hr hlk rfl 5 rfl (show 5 = 2 ∨ 5 = 3 ∨ 5 = 5 from (by first | assumption | omega | rfl | exact Or.inl (by assumption) | exact Or.inr (by assumption))) dX0_numeralKind_141
                · have nc_13 := cz_nlt (a := ((((n : Nat) : Int) - ((k2_19 : Nat) : Int)) - 1)) (b := (1 : Int)) (zI_toInt (by omega)) (by decide) c_13
                  refine lv_iload hx hb dX0_numeralKind_130 (lv_at hl 0 rfl) ?_
                  refine lv_iconst (v := 4) hx hb dX0_numeralKind_132 (by decide) ?_
                  refine lv_icmp_gt (tgt := 140) hx hb dX0_numeralKind_133 (by decide) (fun c_14 => ?_) (fun c_14 => ?_)
                  · have nc_14 := cz_lt (a := (4 : Int)) (b := ((((n : Nat) : Int) - ((k2_19 : Nat) : Int)) - 1)) (by decide) (zI_toInt (by omega)) c_14
                    refine lv_iconst (v := 5) hx hb dX0_numeralKind_140 (by decide) ?_
                    exact cr_iret hx hb hr hlk rfl 5 rfl (show 5 = 2 ∨ 5 = 3 ∨ 5 = 5 from (by first | assumption | omega | rfl | exact Or.inl (by assumption) | exact Or.inr (by assumption))) dX0_numeralKind_141
                  · have nc_14 := cz_nlt (a := (4 : Int)) (b := ((((n : Nat) : Int) - ((k2_19 : Nat) : Int)) - 1)) (by decide) (zI_toInt (by omega)) c_14
                    refine lv_iconst (v := 3) hx hb dX0_numeralKind_136 (by decide) ?_
                    refine lv_goto (tgt := 141) hx hb dX0_numeralKind_137 (by decide) ?_
                    exact cr_iret hx hb hr hlk rfl 3 rfl (show 3 = 2 ∨ 3 = 3 ∨ 3 = 5 from (by first | assumption | omega | rfl | exact Or.inl (by assumption) | exact Or.inr (by assumption))) dX0_numeralKind_141
              · have nc_12 := cv_eq (a := k2_19) (b := n) (by omega) (by omega) c_12
                refine lv_iload_n hx hb dX0_numeralKind_97 rfl (lv_at hl 2 rfl) ?_
                refine lv_iconst (v := 1) hx hb dX0_numeralKind_98 (by decide) ?_
                refine lv_icmp_ne (tgt := 114) hx hb dX0_numeralKind_99 (by decide) (fun c_15 => ?_) (fun c_15 => absurd c_15 (by decide))
                refine lv_iconst (v := 2) hx hb dX0_numeralKind_114 (by decide) ?_
                exact cr_iret hx hb hr hlk rfl 2 rfl (show 2 = 2 ∨ 2 = 3 ∨ 2 = 5 from (by first | assumption | omega | rfl | exact Or.inl (by assumption) | exact Or.inr (by assumption))) dX0_numeralKind_115
            · refine lv_iconst (v := 5) hx hb dX0_numeralKind_89 (by decide) ?_
              exact cr_iret hx hb hr hlk rfl 5 rfl (show 5 = 2 ∨ 5 = 3 ∨ 5 = 5 from (by first | assumption | omega | rfl | exact Or.inl (by assumption) | exact Or.inr (by assumption))) dX0_numeralKind_90
    · have nc_3 := cv_nle (a := n) (b := k3_19) (by omega) (by omega) c_3
      refine lv_aload_n hx hb dX0_numeralKind_25 rfl (lv_at hl 3 rfl) ?_
      refine lv_iload_n hx hb dX0_numeralKind_26 rfl (lv_at hl 0 rfl) ?_
      refine va_bald hx hb hK hP 0 1 rfl rfl (i := nI k3_19) (vp_in_nI (n := k3_19) (by omega) (by omega)) dX0_numeralKind_27 ?_
      refine kv (v := .int (f k3_19)) (by rw [nI_clamp (by omega)]) ?_
      obtain ⟨x_16, ex_16⟩ : ∃ y9 : Int32, f k3_19 = y9 := ⟨_, rfl⟩
      refine kv (v := .int x_16) (congrArg Value.int ex_16) ?_
      refine lv_bipush (v := 46) hx hb dX0_numeralKind_28 (by decide) ?_
      refine lv_icmp_ne (tgt := 44) hx hb dX0_numeralKind_30 (by decide) (fun c_17 => ?_) (fun c_17 => ?_)
      · refine lv_aload_n hx hb dX0_numeralKind_44 rfl (lv_at hl 3 rfl) ?_
        refine lv_iload_n hx hb dX0_numeralKind_45 rfl (lv_at hl 0 rfl) ?_
        refine va_bald hx hb hK hP 0 1 rfl rfl (i := nI k3_19) (vp_in_nI (n := k3_19) (by omega) (by omega)) dX0_numeralKind_46 ?_
        refine kv (v := .int x_16) (by rw [nI_clamp (by omega)]; exact congrArg Value.int ex_16) ?_
        refine er_S (As := [.int x_16]) (rest := []) hFX hKK hE hS (c_X0_isDigit l D κ κq x_16) 1 gS_X0_101 hdS_X0_isDigit rfl rfl ⟨Nat.le_of_ble_eq_true rfl, Nat.le_of_ble_eq_true rfl⟩ rfl rfl (Nat.le_of_ble_eq_true rfl) dX0_numeralKind_47 ⟨Nat.le_of_ble_eq_true rfl, Nat.le_of_ble_eq_true rfl⟩ hl.1 (subP0 hP [] rfl) (fun r__18 hp_19 => ?_)
        replace hp_19 : ((r__18 = 1) ∨ (r__18 = 0)) := hp_19
        have ha_20 := hp_19
        clear hp_19
        rcases ha_20 with rfl | rfl
        · refine W.eq (g2 := F0 m 50 ls [.int 1]) rfl ?_
          refine lv_if_ne (tgt := 55) hx hb dX0_numeralKind_50 (by decide) (fun c_21 => ?_) (fun c_21 => absurd c_21 (by decide))
          refine lv_iinc (v := (nI (k3_19 + 1))) (lv' := [(3, .int (nI (k3_19 + 1))), (2, .int (nI k2_19)), (1, .int 0), (0, .ref b)]) hx hb dX0_numeralKind_55 hl (k := 0) rfl (nI_i k3_19) (by decide) rfl (fun ls hl => ?_)
          refine lv_goto (tgt := 19) hx hb dX0_numeralKind_58 (by decide) ?_
          exact ih19 _ _ (by omega) ⟨(k3_19 + 1), k2_19, (by omega), (by omega), (by omega), (by omega), (by omega), rfl, lv_sub hl [0, 1, 2, 3] rfl⟩
        · refine W.eq (g2 := F0 m 50 ls [.int 0]) rfl ?_
          refine lv_if_ne (tgt := 55) hx hb dX0_numeralKind_50 (by decide) (fun c_22 => absurd c_22 (by decide)) (fun c_22 => ?_)
          refine lv_iconst (v := 5) hx hb dX0_numeralKind_53 (by decide) ?_
          exact cr_iret hx hb hr hlk rfl 5 rfl (show 5 = 2 ∨ 5 = 3 ∨ 5 = 5 from (by first | assumption | omega | rfl | exact Or.inl (by assumption) | exact Or.inr (by assumption))) dX0_numeralKind_54
      · refine lv_iload_n hx hb dX0_numeralKind_33 rfl (lv_at hl 1 rfl) ?_
        refine lv_aload_n hx hb dX0_numeralKind_34 rfl (lv_at hl 3 rfl) ?_
        refine va_alen hx hb hK hP 0 1 rfl rfl (v := nI n) rfl dX0_numeralKind_35 ?_
        refine lv_icmp_ne (tgt := 44) hx hb dX0_numeralKind_36 (by decide) (fun c_23 => ?_) (fun c_23 => ?_)
        · have nc_23 := cv_ne (a := k2_19) (b := n) (by omega) (by omega) c_23
          refine lv_aload_n hx hb dX0_numeralKind_44 rfl (lv_at hl 3 rfl) ?_
          refine lv_iload_n hx hb dX0_numeralKind_45 rfl (lv_at hl 0 rfl) ?_
          refine va_bald hx hb hK hP 0 1 rfl rfl (i := nI k3_19) (vp_in_nI (n := k3_19) (by omega) (by omega)) dX0_numeralKind_46 ?_
          refine kv (v := .int x_16) (by rw [nI_clamp (by omega)]; exact congrArg Value.int ex_16) ?_
          refine er_S (As := [.int x_16]) (rest := []) hFX hKK hE hS (c_X0_isDigit l D κ κq x_16) 1 gS_X0_101 hdS_X0_isDigit rfl rfl ⟨Nat.le_of_ble_eq_true rfl, Nat.le_of_ble_eq_true rfl⟩ rfl rfl (Nat.le_of_ble_eq_true rfl) dX0_numeralKind_47 ⟨Nat.le_of_ble_eq_true rfl, Nat.le_of_ble_eq_true rfl⟩ hl.1 (subP0 hP [] rfl) (fun r__24 hp_25 => ?_)
          replace hp_25 : ((r__24 = 1) ∨ (r__24 = 0)) := hp_25
          have ha_26 := hp_25
          clear hp_25
          rcases ha_26 with rfl | rfl
          · refine W.eq (g2 := F0 m 50 ls [.int 1]) rfl ?_
            refine lv_if_ne (tgt := 55) hx hb dX0_numeralKind_50 (by decide) (fun c_27 => ?_) (fun c_27 => absurd c_27 (by decide))
            refine lv_iinc (v := (nI (k3_19 + 1))) (lv' := [(3, .int (nI (k3_19 + 1))), (2, .int (nI k2_19)), (1, .int 0), (0, .ref b)]) hx hb dX0_numeralKind_55 hl (k := 0) rfl (nI_i k3_19) (by decide) rfl (fun ls hl => ?_)
            refine lv_goto (tgt := 19) hx hb dX0_numeralKind_58 (by decide) ?_
            exact ih19 _ _ (by omega) ⟨(k3_19 + 1), k2_19, (by omega), (by omega), (by omega), (by omega), (by omega), rfl, lv_sub hl [0, 1, 2, 3] rfl⟩
          · refine W.eq (g2 := F0 m 50 ls [.int 0]) rfl ?_
            refine lv_if_ne (tgt := 55) hx hb dX0_numeralKind_50 (by decide) (fun c_28 => absurd c_28 (by decide)) (fun c_28 => ?_)
            refine lv_iconst (v := 5) hx hb dX0_numeralKind_53 (by decide) ?_
            exact cr_iret hx hb hr hlk rfl 5 rfl (show 5 = 2 ∨ 5 = 3 ∨ 5 = 5 from (by first | assumption | omega | rfl | exact Or.inl (by assumption) | exact Or.inr (by assumption))) dX0_numeralKind_54
        · have nc_23 := cv_eq (a := k2_19) (b := n) (by omega) (by omega) c_23
          refine lv_iload_n hx hb dX0_numeralKind_39 rfl (lv_at hl 0 rfl) ?_
          refine lv_istore_n (lv' := [(2, .int (nI k3_19)), (3, .int (nI k3_19)), (1, .int 0), (0, .ref b)]) hx hb dX0_numeralKind_40 rfl hl (by decide) rfl (fun ls hl => ?_)
          refine lv_goto (tgt := 55) hx hb dX0_numeralKind_41 (by decide) ?_
          refine lv_iinc (v := (nI (k3_19 + 1))) (lv' := [(3, .int (nI (k3_19 + 1))), (2, .int (nI k3_19)), (1, .int 0), (0, .ref b)]) hx hb dX0_numeralKind_55 hl (k := 1) rfl (nI_i k3_19) (by decide) rfl (fun ls hl => ?_)
          refine lv_goto (tgt := 19) hx hb dX0_numeralKind_58 (by decide) ?_
          exact ih19 _ _ (by omega) ⟨(k3_19 + 1), k3_19, (by omega), (by omega), (by omega), (by omega), (by omega), rfl, lv_sub hl [0, 1, 2, 3] rfl⟩
  · refine lv_iconst (v := 1) hx hb dX0_numeralKind_8 (by decide) ?_
    refine lv_goto (tgt := 13) hx hb dX0_numeralKind_9 (by decide) ?_
    refine lv_istore_n (lv' := [(1, .int 1), (0, .ref b)]) hx hb dX0_numeralKind_13 rfl hl (by decide) rfl (fun ls hl => ?_)
    refine lv_aload_n hx hb dX0_numeralKind_14 rfl (lv_at hl 1 rfl) ?_
    refine va_alen hx hb hK hP 0 1 rfl rfl (v := nI n) rfl dX0_numeralKind_15 ?_
    refine lv_istore_n (lv' := [(2, .int (nI n)), (1, .int 1), (0, .ref b)]) hx hb dX0_numeralKind_16 rfl hl (by decide) rfl (fun ls hl => ?_)
    refine lv_iload_n hx hb dX0_numeralKind_17 rfl (lv_at hl 1 rfl) ?_
    refine lv_istore_n (lv' := [(3, .int 1), (2, .int (nI n)), (1, .int 1), (0, .ref b)]) hx hb dX0_numeralKind_18 rfl hl (by decide) rfl (fun ls hl => ?_)
    refine loop_r (fun k9 ls => ∃ (k3_19 : Nat), ∃ (k2_19 : Nat), (1 ≤ k3_19) ∧ (k3_19 ≤ n + 1) ∧ (1 ≤ k2_19) ∧ (k2_19 ≤ n) ∧ (1 ≤ 1) ∧ n + 1 - k3_19 = k9 ∧ lv_has ls 5 [(3, .int (nI k3_19)), (2, .int (nI k2_19)), (1, .int 1), (0, .ref b)]) (fun k9 ls hI19 ih19 => ?_) (n + 1 - 1) _ ⟨1, n, (by omega), (by omega), (by omega), (by omega), (by omega), rfl, lv_sub hl [0, 1, 2, 3] rfl⟩
    obtain ⟨k3_19, k2_19, hl19_0, hl19_1, hl19_2, hl19_3, hl19_4, hm19, hl⟩ := hI19
    refine lv_iload_n hx hb dX0_numeralKind_19 rfl (lv_at hl 0 rfl) ?_
    refine lv_aload_n hx hb dX0_numeralKind_20 rfl (lv_at hl 3 rfl) ?_
    refine va_alen hx hb hK hP 0 1 rfl rfl (v := nI n) rfl dX0_numeralKind_21 ?_
    refine lv_icmp_ge (tgt := 61) hx hb dX0_numeralKind_22 (by decide) (fun c_29 => ?_) (fun c_29 => ?_)
    · have nc_29 := cv_le (a := n) (b := k3_19) (by omega) (by omega) c_29
      refine lv_iload_n hx hb dX0_numeralKind_61 rfl (lv_at hl 1 rfl) ?_
      refine lv_iload_n hx hb dX0_numeralKind_62 rfl (lv_at hl 2 rfl) ?_
      refine lv_isub hx hb dX0_numeralKind_63 ?_
      refine ki (v := (zI (((k2_19 : Nat) : Int) - 1))) (z_sub (nI_z _) (by decide)) ?_
      refine lv_istore_n (lv' := [(3, .int (zI (((k2_19 : Nat) : Int) - 1))), (2, .int (nI k2_19)), (1, .int 1), (0, .ref b)]) hx hb dX0_numeralKind_64 rfl hl (by decide) rfl (fun ls hl => ?_)
      refine lv_iload_n hx hb dX0_numeralKind_65 rfl (lv_at hl 0 rfl) ?_
      refine lv_iconst (v := 1) hx hb dX0_numeralKind_66 (by decide) ?_
      refine lv_icmp_lt (tgt := 89) hx hb dX0_numeralKind_67 (by decide) (fun c_30 => ?_) (fun c_30 => ?_)
      · have nc_30 := cz_lt (a := (((k2_19 : Nat) : Int) - 1)) (b := (1 : Int)) (zI_toInt (by omega)) (by decide) c_30
        refine lv_iconst (v := 5) hx hb dX0_numeralKind_89 (by decide) ?_
        exact cr_iret hx hb hr hlk rfl 5 rfl (show 5 = 2 ∨ 5 = 3 ∨ 5 = 5 from (by first | assumption | omega | rfl | exact Or.inl (by assumption) | exact Or.inr (by assumption))) dX0_numeralKind_90
      · have nc_30 := cz_nlt (a := (((k2_19 : Nat) : Int) - 1)) (b := (1 : Int)) (zI_toInt (by omega)) (by decide) c_30
        refine lv_iload_n hx hb dX0_numeralKind_70 rfl (lv_at hl 0 rfl) ?_
        refine lv_bipush (v := 9) hx hb dX0_numeralKind_71 (by decide) ?_
        refine lv_icmp_gt (tgt := 89) hx hb dX0_numeralKind_73 (by decide) (fun c_31 => ?_) (fun c_31 => ?_)
        · have nc_31 := cz_lt (a := (9 : Int)) (b := (((k2_19 : Nat) : Int) - 1)) (by decide) (zI_toInt (by omega)) c_31
          refine lv_iconst (v := 5) hx hb dX0_numeralKind_89 (by decide) ?_
          exact cr_iret hx hb hr hlk rfl 5 rfl (show 5 = 2 ∨ 5 = 3 ∨ 5 = 5 from (by first | assumption | omega | rfl | exact Or.inl (by assumption) | exact Or.inr (by assumption))) dX0_numeralKind_90
        · have nc_31 := cz_nlt (a := (9 : Int)) (b := (((k2_19 : Nat) : Int) - 1)) (by decide) (zI_toInt (by omega)) c_31
          refine lv_iload_n hx hb dX0_numeralKind_76 rfl (lv_at hl 0 rfl) ?_
          refine lv_iconst (v := 1) hx hb dX0_numeralKind_77 (by decide) ?_
          refine lv_icmp_le (tgt := 91) hx hb dX0_numeralKind_78 (by decide) (fun c_32 => ?_) (fun c_32 => ?_)
          · have nc_32 := cz_le (a := (((k2_19 : Nat) : Int) - 1)) (b := (1 : Int)) (zI_toInt (by omega)) (by decide) c_32
            refine lv_iload_n hx hb dX0_numeralKind_91 rfl (lv_at hl 1 rfl) ?_
            refine lv_aload_n hx hb dX0_numeralKind_92 rfl (lv_at hl 3 rfl) ?_
            refine va_alen hx hb hK hP 0 1 rfl rfl (v := nI n) rfl dX0_numeralKind_93 ?_
            refine lv_icmp_ne (tgt := 116) hx hb dX0_numeralKind_94 (by decide) (fun c_33 => ?_) (fun c_33 => ?_)
            · have nc_33 := cv_ne (a := k2_19) (b := n) (by omega) (by omega) c_33
              refine lv_aload_n hx hb dX0_numeralKind_116 rfl (lv_at hl 3 rfl) ?_
              refine va_alen hx hb hK hP 0 1 rfl rfl (v := nI n) rfl dX0_numeralKind_117 ?_
              refine lv_iload_n hx hb dX0_numeralKind_118 rfl (lv_at hl 1 rfl) ?_
              refine lv_isub hx hb dX0_numeralKind_119 ?_
              refine ki (v := (zI (((n : Nat) : Int) - ((k2_19 : Nat) : Int)))) (z_sub (nI_z _) (nI_z _)) ?_
              refine lv_iconst (v := 1) hx hb dX0_numeralKind_120 (by decide) ?_
              refine lv_isub hx hb dX0_numeralKind_121 ?_
              refine ki (v := (zI ((((n : Nat) : Int) - ((k2_19 : Nat) : Int)) - 1))) (z_sub rfl (by decide)) ?_
              refine lv_istore (lv' := [(4, .int (zI ((((n : Nat) : Int) - ((k2_19 : Nat) : Int)) - 1))), (3, .int (zI (((k2_19 : Nat) : Int) - 1))), (2, .int (nI k2_19)), (1, .int 1), (0, .ref b)]) hx hb dX0_numeralKind_122 hl (by decide) rfl (fun ls hl => ?_)
              refine lv_iload hx hb dX0_numeralKind_124 (lv_at hl 0 rfl) ?_
              refine lv_iconst (v := 1) hx hb dX0_numeralKind_126 (by decide) ?_
              refine lv_icmp_lt (tgt := 140) hx hb dX0_numeralKind_127 (by decide) (fun c_34 => ?_) (fun c_34 => ?_)
              · have nc_34 := cz_lt (a := ((((n : Nat) : Int) - ((k2_19 : Nat) : Int)) - 1)) (b := (1 : Int)) (zI_toInt (by omega)) (by decide) c_34
                refine lv_iconst (v := 5) hx hb dX0_numeralKind_140 (by decide) ?_
                exact cr_iret hx hb hr hlk rfl 5 rfl (show 5 = 2 ∨ 5 = 3 ∨ 5 = 5 from (by first | assumption | omega | rfl | exact Or.inl (by assumption) | exact Or.inr (by assumption))) dX0_numeralKind_141
              · have nc_34 := cz_nlt (a := ((((n : Nat) : Int) - ((k2_19 : Nat) : Int)) - 1)) (b := (1 : Int)) (zI_toInt (by omega)) (by decide) c_34
                refine lv_iload hx hb dX0_numeralKind_130 (lv_at hl 0 rfl) ?_
                refine lv_iconst (v := 4) hx hb dX0_numeralKind_132 (by decide) ?_
                refine lv_icmp_gt (tgt := 140) hx hb dX0_numeralKind_133 (by decide) (fun c_35 => ?_) (fun c_35 => ?_)
                · have nc_35 := cz_lt (a := (4 : Int)) (b := ((((n : Nat) : Int) - ((k2_19 : Nat) : Int)) - 1)) (by decide) (zI_toInt (by omega)) c_35
                  refine lv_iconst (v := 5) hx hb dX0_numeralKind_140 (by decide) ?_
                  exact cr_iret hx hb hr hlk rfl 5 rfl (show 5 = 2 ∨ 5 = 3 ∨ 5 = 5 from (by first | assumption | omega | rfl | exact Or.inl (by assumption) | exact Or.inr (by assumption))) dX0_numeralKind_141
                · have nc_35 := cz_nlt (a := (4 : Int)) (b := ((((n : Nat) : Int) - ((k2_19 : Nat) : Int)) - 1)) (by decide) (zI_toInt (by omega)) c_35
                  refine lv_iconst (v := 3) hx hb dX0_numeralKind_136 (by decide) ?_
                  refine lv_goto (tgt := 141) hx hb dX0_numeralKind_137 (by decide) ?_
                  exact cr_iret hx hb hr hlk rfl 3 rfl (show 3 = 2 ∨ 3 = 3 ∨ 3 = 5 from (by first | assumption | omega | rfl | exact Or.inl (by assumption) | exact Or.inr (by assumption))) dX0_numeralKind_141
            · have nc_33 := cv_eq (a := k2_19) (b := n) (by omega) (by omega) c_33
              refine lv_iload_n hx hb dX0_numeralKind_97 rfl (lv_at hl 2 rfl) ?_
              refine lv_iconst (v := 1) hx hb dX0_numeralKind_98 (by decide) ?_
              refine lv_icmp_ne (tgt := 114) hx hb dX0_numeralKind_99 (by decide) (fun c_36 => absurd c_36 (by decide)) (fun c_36 => ?_)
              refine lv_aload_n hx hb dX0_numeralKind_102 rfl (lv_at hl 3 rfl) ?_
              refine lv_iload_n hx hb dX0_numeralKind_103 rfl (lv_at hl 2 rfl) ?_
              refine va_bald hx hb hK hP 0 1 rfl rfl (i := 1) (vp_c (c := 1) (by decide) (by omega)) dX0_numeralKind_104 ?_
              obtain ⟨x_37, ex_37⟩ : ∃ y9 : Int32, f 1 = y9 := ⟨_, rfl⟩
              refine kv (v := .int x_37) (congrArg Value.int ex_37) ?_
              refine lv_bipush (v := 48) hx hb dX0_numeralKind_105 (by decide) ?_
              refine lv_icmp_ne (tgt := 114) hx hb dX0_numeralKind_107 (by decide) (fun c_38 => ?_) (fun c_38 => ?_)
              · refine lv_iconst (v := 2) hx hb dX0_numeralKind_114 (by decide) ?_
                exact cr_iret hx hb hr hlk rfl 2 rfl (show 2 = 2 ∨ 2 = 3 ∨ 2 = 5 from (by first | assumption | omega | rfl | exact Or.inl (by assumption) | exact Or.inr (by assumption))) dX0_numeralKind_115
              · refine lv_iconst (v := 5) hx hb dX0_numeralKind_110 (by decide) ?_
                refine lv_goto (tgt := 115) hx hb dX0_numeralKind_111 (by decide) ?_
                exact cr_iret hx hb hr hlk rfl 5 rfl (show 5 = 2 ∨ 5 = 3 ∨ 5 = 5 from (by first | assumption | omega | rfl | exact Or.inl (by assumption) | exact Or.inr (by assumption))) dX0_numeralKind_115
          · have nc_32 := cz_nle (a := (((k2_19 : Nat) : Int) - 1)) (b := (1 : Int)) (zI_toInt (by omega)) (by decide) c_32
            refine lv_aload_n hx hb dX0_numeralKind_81 rfl (lv_at hl 3 rfl) ?_
            refine lv_iload_n hx hb dX0_numeralKind_82 rfl (lv_at hl 2 rfl) ?_
            refine va_bald hx hb hK hP 0 1 rfl rfl (i := 1) (vp_c (c := 1) (by decide) (by omega)) dX0_numeralKind_83 ?_
            obtain ⟨x_39, ex_39⟩ : ∃ y9 : Int32, f 1 = y9 := ⟨_, rfl⟩
            refine kv (v := .int x_39) (congrArg Value.int ex_39) ?_
            refine lv_bipush (v := 48) hx hb dX0_numeralKind_84 (by decide) ?_
            refine lv_icmp_ne (tgt := 91) hx hb dX0_numeralKind_86 (by decide) (fun c_40 => ?_) (fun c_40 => ?_)
            · refine lv_iload_n hx hb dX0_numeralKind_91 rfl (lv_at hl 1 rfl) ?_
              refine lv_aload_n hx hb dX0_numeralKind_92 rfl (lv_at hl 3 rfl) ?_
              refine va_alen hx hb hK hP 0 1 rfl rfl (v := nI n) rfl dX0_numeralKind_93 ?_
              refine lv_icmp_ne (tgt := 116) hx hb dX0_numeralKind_94 (by decide) (fun c_41 => ?_) (fun c_41 => ?_)
              · have nc_41 := cv_ne (a := k2_19) (b := n) (by omega) (by omega) c_41
                refine lv_aload_n hx hb dX0_numeralKind_116 rfl (lv_at hl 3 rfl) ?_
                refine va_alen hx hb hK hP 0 1 rfl rfl (v := nI n) rfl dX0_numeralKind_117 ?_
                refine lv_iload_n hx hb dX0_numeralKind_118 rfl (lv_at hl 1 rfl) ?_
                refine lv_isub hx hb dX0_numeralKind_119 ?_
                refine ki (v := (zI (((n : Nat) : Int) - ((k2_19 : Nat) : Int)))) (z_sub (nI_z _) (nI_z _)) ?_
                refine lv_iconst (v := 1) hx hb dX0_numeralKind_120 (by decide) ?_
                refine lv_isub hx hb dX0_numeralKind_121 ?_
                refine ki (v := (zI ((((n : Nat) : Int) - ((k2_19 : Nat) : Int)) - 1))) (z_sub rfl (by decide)) ?_
                refine lv_istore (lv' := [(4, .int (zI ((((n : Nat) : Int) - ((k2_19 : Nat) : Int)) - 1))), (3, .int (zI (((k2_19 : Nat) : Int) - 1))), (2, .int (nI k2_19)), (1, .int 1), (0, .ref b)]) hx hb dX0_numeralKind_122 hl (by decide) rfl (fun ls hl => ?_)
                refine lv_iload hx hb dX0_numeralKind_124 (lv_at hl 0 rfl) ?_
                refine lv_iconst (v := 1) hx hb dX0_numeralKind_126 (by decide) ?_
                refine lv_icmp_lt (tgt := 140) hx hb dX0_numeralKind_127 (by decide) (fun c_42 => ?_) (fun c_42 => ?_)
                · have nc_42 := cz_lt (a := ((((n : Nat) : Int) - ((k2_19 : Nat) : Int)) - 1)) (b := (1 : Int)) (zI_toInt (by omega)) (by decide) c_42
                  refine lv_iconst (v := 5) hx hb dX0_numeralKind_140 (by decide) ?_
                  exact cr_iret hx hb hr hlk rfl 5 rfl (show 5 = 2 ∨ 5 = 3 ∨ 5 = 5 from (by first | assumption | omega | rfl | exact Or.inl (by assumption) | exact Or.inr (by assumption))) dX0_numeralKind_141
                · have nc_42 := cz_nlt (a := ((((n : Nat) : Int) - ((k2_19 : Nat) : Int)) - 1)) (b := (1 : Int)) (zI_toInt (by omega)) (by decide) c_42
                  refine lv_iload hx hb dX0_numeralKind_130 (lv_at hl 0 rfl) ?_
                  refine lv_iconst (v := 4) hx hb dX0_numeralKind_132 (by decide) ?_
                  refine lv_icmp_gt (tgt := 140) hx hb dX0_numeralKind_133 (by decide) (fun c_43 => ?_) (fun c_43 => ?_)
                  · have nc_43 := cz_lt (a := (4 : Int)) (b := ((((n : Nat) : Int) - ((k2_19 : Nat) : Int)) - 1)) (by decide) (zI_toInt (by omega)) c_43
                    refine lv_iconst (v := 5) hx hb dX0_numeralKind_140 (by decide) ?_
                    exact cr_iret hx hb hr hlk rfl 5 rfl (show 5 = 2 ∨ 5 = 3 ∨ 5 = 5 from (by first | assumption | omega | rfl | exact Or.inl (by assumption) | exact Or.inr (by assumption))) dX0_numeralKind_141
                  · have nc_43 := cz_nlt (a := (4 : Int)) (b := ((((n : Nat) : Int) - ((k2_19 : Nat) : Int)) - 1)) (by decide) (zI_toInt (by omega)) c_43
                    refine lv_iconst (v := 3) hx hb dX0_numeralKind_136 (by decide) ?_
                    refine lv_goto (tgt := 141) hx hb dX0_numeralKind_137 (by decide) ?_
                    exact cr_iret hx hb hr hlk rfl 3 rfl (show 3 = 2 ∨ 3 = 3 ∨ 3 = 5 from (by first | assumption | omega | rfl | exact Or.inl (by assumption) | exact Or.inr (by assumption))) dX0_numeralKind_141
              · have nc_41 := cv_eq (a := k2_19) (b := n) (by omega) (by omega) c_41
                refine lv_iload_n hx hb dX0_numeralKind_97 rfl (lv_at hl 2 rfl) ?_
                refine lv_iconst (v := 1) hx hb dX0_numeralKind_98 (by decide) ?_
                refine lv_icmp_ne (tgt := 114) hx hb dX0_numeralKind_99 (by decide) (fun c_44 => absurd c_44 (by decide)) (fun c_44 => ?_)
                refine lv_aload_n hx hb dX0_numeralKind_102 rfl (lv_at hl 3 rfl) ?_
                refine lv_iload_n hx hb dX0_numeralKind_103 rfl (lv_at hl 2 rfl) ?_
                refine va_bald hx hb hK hP 0 1 rfl rfl (i := 1) (vp_c (c := 1) (by decide) (by omega)) dX0_numeralKind_104 ?_
                refine kv (v := .int x_39) (congrArg Value.int (ex_39)) ?_
                refine lv_bipush (v := 48) hx hb dX0_numeralKind_105 (by decide) ?_
                refine lv_icmp_ne (tgt := 114) hx hb dX0_numeralKind_107 (by decide) (fun c_45 => ?_) (fun c_45 => absurd c_45 c_40)
                refine lv_iconst (v := 2) hx hb dX0_numeralKind_114 (by decide) ?_
                exact cr_iret hx hb hr hlk rfl 2 rfl (show 2 = 2 ∨ 2 = 3 ∨ 2 = 5 from (by first | assumption | omega | rfl | exact Or.inl (by assumption) | exact Or.inr (by assumption))) dX0_numeralKind_115
            · refine lv_iconst (v := 5) hx hb dX0_numeralKind_89 (by decide) ?_
              exact cr_iret hx hb hr hlk rfl 5 rfl (show 5 = 2 ∨ 5 = 3 ∨ 5 = 5 from (by first | assumption | omega | rfl | exact Or.inl (by assumption) | exact Or.inr (by assumption))) dX0_numeralKind_90
    · have nc_29 := cv_nle (a := n) (b := k3_19) (by omega) (by omega) c_29
      refine lv_aload_n hx hb dX0_numeralKind_25 rfl (lv_at hl 3 rfl) ?_
      refine lv_iload_n hx hb dX0_numeralKind_26 rfl (lv_at hl 0 rfl) ?_
      refine va_bald hx hb hK hP 0 1 rfl rfl (i := nI k3_19) (vp_in_nI (n := k3_19) (by omega) (by omega)) dX0_numeralKind_27 ?_
      refine kv (v := .int (f k3_19)) (by rw [nI_clamp (by omega)]) ?_
      obtain ⟨x_46, ex_46⟩ : ∃ y9 : Int32, f k3_19 = y9 := ⟨_, rfl⟩
      refine kv (v := .int x_46) (congrArg Value.int ex_46) ?_
      refine lv_bipush (v := 46) hx hb dX0_numeralKind_28 (by decide) ?_
      refine lv_icmp_ne (tgt := 44) hx hb dX0_numeralKind_30 (by decide) (fun c_47 => ?_) (fun c_47 => ?_)
      · refine lv_aload_n hx hb dX0_numeralKind_44 rfl (lv_at hl 3 rfl) ?_
        refine lv_iload_n hx hb dX0_numeralKind_45 rfl (lv_at hl 0 rfl) ?_
        refine va_bald hx hb hK hP 0 1 rfl rfl (i := nI k3_19) (vp_in_nI (n := k3_19) (by omega) (by omega)) dX0_numeralKind_46 ?_
        refine kv (v := .int x_46) (by rw [nI_clamp (by omega)]; exact congrArg Value.int ex_46) ?_
        refine er_S (As := [.int x_46]) (rest := []) hFX hKK hE hS (c_X0_isDigit l D κ κq x_46) 1 gS_X0_101 hdS_X0_isDigit rfl rfl ⟨Nat.le_of_ble_eq_true rfl, Nat.le_of_ble_eq_true rfl⟩ rfl rfl (Nat.le_of_ble_eq_true rfl) dX0_numeralKind_47 ⟨Nat.le_of_ble_eq_true rfl, Nat.le_of_ble_eq_true rfl⟩ hl.1 (subP0 hP [] rfl) (fun r__48 hp_49 => ?_)
        replace hp_49 : ((r__48 = 1) ∨ (r__48 = 0)) := hp_49
        have ha_50 := hp_49
        clear hp_49
        rcases ha_50 with rfl | rfl
        · refine W.eq (g2 := F0 m 50 ls [.int 1]) rfl ?_
          refine lv_if_ne (tgt := 55) hx hb dX0_numeralKind_50 (by decide) (fun c_51 => ?_) (fun c_51 => absurd c_51 (by decide))
          refine lv_iinc (v := (nI (k3_19 + 1))) (lv' := [(3, .int (nI (k3_19 + 1))), (2, .int (nI k2_19)), (1, .int 1), (0, .ref b)]) hx hb dX0_numeralKind_55 hl (k := 0) rfl (nI_i k3_19) (by decide) rfl (fun ls hl => ?_)
          refine lv_goto (tgt := 19) hx hb dX0_numeralKind_58 (by decide) ?_
          exact ih19 _ _ (by omega) ⟨(k3_19 + 1), k2_19, (by omega), (by omega), (by omega), (by omega), (by omega), rfl, lv_sub hl [0, 1, 2, 3] rfl⟩
        · refine W.eq (g2 := F0 m 50 ls [.int 0]) rfl ?_
          refine lv_if_ne (tgt := 55) hx hb dX0_numeralKind_50 (by decide) (fun c_52 => absurd c_52 (by decide)) (fun c_52 => ?_)
          refine lv_iconst (v := 5) hx hb dX0_numeralKind_53 (by decide) ?_
          exact cr_iret hx hb hr hlk rfl 5 rfl (show 5 = 2 ∨ 5 = 3 ∨ 5 = 5 from (by first | assumption | omega | rfl | exact Or.inl (by assumption) | exact Or.inr (by assumption))) dX0_numeralKind_54
      · refine lv_iload_n hx hb dX0_numeralKind_33 rfl (lv_at hl 1 rfl) ?_
        refine lv_aload_n hx hb dX0_numeralKind_34 rfl (lv_at hl 3 rfl) ?_
        refine va_alen hx hb hK hP 0 1 rfl rfl (v := nI n) rfl dX0_numeralKind_35 ?_
        refine lv_icmp_ne (tgt := 44) hx hb dX0_numeralKind_36 (by decide) (fun c_53 => ?_) (fun c_53 => ?_)
        · have nc_53 := cv_ne (a := k2_19) (b := n) (by omega) (by omega) c_53
          refine lv_aload_n hx hb dX0_numeralKind_44 rfl (lv_at hl 3 rfl) ?_
          refine lv_iload_n hx hb dX0_numeralKind_45 rfl (lv_at hl 0 rfl) ?_
          refine va_bald hx hb hK hP 0 1 rfl rfl (i := nI k3_19) (vp_in_nI (n := k3_19) (by omega) (by omega)) dX0_numeralKind_46 ?_
          refine kv (v := .int x_46) (by rw [nI_clamp (by omega)]; exact congrArg Value.int ex_46) ?_
          refine er_S (As := [.int x_46]) (rest := []) hFX hKK hE hS (c_X0_isDigit l D κ κq x_46) 1 gS_X0_101 hdS_X0_isDigit rfl rfl ⟨Nat.le_of_ble_eq_true rfl, Nat.le_of_ble_eq_true rfl⟩ rfl rfl (Nat.le_of_ble_eq_true rfl) dX0_numeralKind_47 ⟨Nat.le_of_ble_eq_true rfl, Nat.le_of_ble_eq_true rfl⟩ hl.1 (subP0 hP [] rfl) (fun r__54 hp_55 => ?_)
          replace hp_55 : ((r__54 = 1) ∨ (r__54 = 0)) := hp_55
          have ha_56 := hp_55
          clear hp_55
          rcases ha_56 with rfl | rfl
          · refine W.eq (g2 := F0 m 50 ls [.int 1]) rfl ?_
            refine lv_if_ne (tgt := 55) hx hb dX0_numeralKind_50 (by decide) (fun c_57 => ?_) (fun c_57 => absurd c_57 (by decide))
            refine lv_iinc (v := (nI (k3_19 + 1))) (lv' := [(3, .int (nI (k3_19 + 1))), (2, .int (nI k2_19)), (1, .int 1), (0, .ref b)]) hx hb dX0_numeralKind_55 hl (k := 0) rfl (nI_i k3_19) (by decide) rfl (fun ls hl => ?_)
            refine lv_goto (tgt := 19) hx hb dX0_numeralKind_58 (by decide) ?_
            exact ih19 _ _ (by omega) ⟨(k3_19 + 1), k2_19, (by omega), (by omega), (by omega), (by omega), (by omega), rfl, lv_sub hl [0, 1, 2, 3] rfl⟩
          · refine W.eq (g2 := F0 m 50 ls [.int 0]) rfl ?_
            refine lv_if_ne (tgt := 55) hx hb dX0_numeralKind_50 (by decide) (fun c_58 => absurd c_58 (by decide)) (fun c_58 => ?_)
            refine lv_iconst (v := 5) hx hb dX0_numeralKind_53 (by decide) ?_
            exact cr_iret hx hb hr hlk rfl 5 rfl (show 5 = 2 ∨ 5 = 3 ∨ 5 = 5 from (by first | assumption | omega | rfl | exact Or.inl (by assumption) | exact Or.inr (by assumption))) dX0_numeralKind_54
        · have nc_53 := cv_eq (a := k2_19) (b := n) (by omega) (by omega) c_53
          refine lv_iload_n hx hb dX0_numeralKind_39 rfl (lv_at hl 0 rfl) ?_
          refine lv_istore_n (lv' := [(2, .int (nI k3_19)), (3, .int (nI k3_19)), (1, .int 1), (0, .ref b)]) hx hb dX0_numeralKind_40 rfl hl (by decide) rfl (fun ls hl => ?_)
          refine lv_goto (tgt := 55) hx hb dX0_numeralKind_41 (by decide) ?_
          refine lv_iinc (v := (nI (k3_19 + 1))) (lv' := [(3, .int (nI (k3_19 + 1))), (2, .int (nI k3_19)), (1, .int 1), (0, .ref b)]) hx hb dX0_numeralKind_55 hl (k := 1) rfl (nI_i k3_19) (by decide) rfl (fun ls hl => ?_)
          refine lv_goto (tgt := 19) hx hb dX0_numeralKind_58 (by decide) ?_
          exact ih19 _ _ (by omega) ⟨(k3_19 + 1), k3_19, (by omega), (by omega), (by omega), (by omega), (by omega), rfl, lv_sub hl [0, 1, 2, 3] rfl⟩
set_option maxHeartbeats 4000000 in
set_option maxRecDepth 100000 in
theorem c_X0_numeral (l : Launch) (D : va_G) (κ : Nat → ClassId) (κq : Nat → Nat) (b : Nat) (n : Nat) (f : Nat → Int32) (i : Nat) (h1 : n ≤ 20) (h2 : 1 ≤ n) (hi : i ≤ 4) : Er l yX0_numeral (wl yX0_numeral cX0_numeral 7 (some .long)) { frames := 1, cells := 0, slots := 0, locals := 20 } D κ κq [.ref b, .int (nI i)] [(b, .inl (κ 1, n, .inl f))] (fun r : Int64 => some (.long r)) (fun r : Int64 => True) := by
  refine er_of (by decide +kernel) (Nat.le_of_ble_eq_true rfl) ?_
  intro p e s m args below meth c A ls hx hb hr hml hts hown hlk hKK hK hP hE hl
  have hS : va_S A s.heap s.heap [] := va_S.rf
  have hP : va_P D vwCl ([(b, .inl (κ 1, n, .inl f))] ++ []) s.heap := hP
  have hFX : FX p s m args c cX0_numeral 7 RX0 := ⟨hx, hb, hml, hown, hts⟩
  have hl : lv_has ls 7 [(0, .ref b), (1, .int (nI i))] := hl
  refine lv_lconst (v := 0) hx hb dX0_numeral_0 (by decide) ?_
  refine lv_lstore_n (lv' := [(2, .long 0), (0, .ref b), (1, .int (nI i))]) hx hb dX0_numeral_1 rfl hl (by decide) rfl (fun ls hl => ?_)
  refine lv_iconst (v := 0) hx hb dX0_numeral_2 (by decide) ?_
  refine lv_istore (lv' := [(4, .int 0), (2, .long 0), (0, .ref b), (1, .int (nI i))]) hx hb dX0_numeral_3 hl (by decide) rfl (fun ls hl => ?_)
  refine lv_iconst (v := 0) hx hb dX0_numeral_5 (by decide) ?_
  refine lv_istore (lv' := [(5, .int 0), (4, .int 0), (2, .long 0), (0, .ref b), (1, .int (nI i))]) hx hb dX0_numeral_6 hl (by decide) rfl (fun ls hl => ?_)
  refine lv_iconst (v := 0) hx hb dX0_numeral_8 (by decide) ?_
  refine lv_istore (lv' := [(6, .int 0), (5, .int 0), (4, .int 0), (2, .long 0), (0, .ref b), (1, .int (nI i))]) hx hb dX0_numeral_9 hl (by decide) rfl (fun ls hl => ?_)
  refine loop_r (fun k9 ls => ∃ (k6_11 : Nat), ∃ (k5_11 : Int32), ∃ (k4_11 : Nat), ∃ (k2_11 : Int64), (k6_11 ≤ n) ∧ (k4_11 ≤ k6_11) ∧ n - k6_11 = k9 ∧ lv_has ls 7 [(6, .int (nI k6_11)), (5, .int k5_11), (4, .int (nI k4_11)), (2, .long k2_11), (0, .ref b), (1, .int (nI i))]) (fun k9 ls hI11 ih11 => ?_) (n - 0) _ ⟨0, 0, 0, 0, (by omega), (by omega), rfl, lv_sub hl [0, 1, 2, 3, 4, 5] rfl⟩
  obtain ⟨k6_11, k5_11, k4_11, k2_11, hl11_0, hl11_1, hm11, hl⟩ := hI11
  refine lv_iload hx hb dX0_numeral_11 (lv_at hl 0 rfl) ?_
  refine lv_aload_n hx hb dX0_numeral_13 rfl (lv_at hl 4 rfl) ?_
  refine va_alen hx hb hK hP 0 1 rfl rfl (v := nI n) rfl dX0_numeral_14 ?_
  refine lv_icmp_ge (tgt := 83) hx hb dX0_numeral_15 (by decide) (fun c_1 => ?_) (fun c_1 => ?_)
  · have nc_1 := cv_le (a := n) (b := k6_11) (by omega) (by omega) c_1
    refine lv_iload hx hb dX0_numeral_83 (lv_at hl 2 rfl) ?_
    refine lv_istore (lv' := [(6, .int (nI k4_11)), (5, .int k5_11), (4, .int (nI k4_11)), (2, .long k2_11), (0, .ref b), (1, .int (nI i))]) hx hb dX0_numeral_85 hl (by decide) rfl (fun ls hl => ?_)
    refine loop_r (fun k9 ls => ∃ (k6_87 : Nat), ∃ (k2_87 : Int64), (k6_87 ≤ 20) ∧ 20 - k6_87 = k9 ∧ lv_has ls 7 [(6, .int (nI k6_87)), (5, .int k5_11), (4, .int (nI k4_11)), (2, .long k2_87), (0, .ref b), (1, .int (nI i))]) (fun k9 ls hI87 ih87 => ?_) (20 - k4_11) _ ⟨k4_11, k2_11, (by omega), rfl, lv_sub hl [0, 1, 2, 3, 4, 5] rfl⟩
    obtain ⟨k6_87, k2_87, hl87_0, hm87, hl⟩ := hI87
    refine lv_iload hx hb dX0_numeral_87 (lv_at hl 0 rfl) ?_
    refine lv_iload_n hx hb dX0_numeral_89 rfl (lv_at hl 5 rfl) ?_
    refine lv_icmp_ge (tgt := 105) hx hb dX0_numeral_90 (by decide) (fun c_2 => ?_) (fun c_2 => ?_)
    · have nc_2 := cv_le (a := i) (b := k6_87) (by omega) (by omega) c_2
      refine lv_aload_n hx hb dX0_numeral_105 rfl (lv_at hl 4 rfl) ?_
      refine lv_iconst (v := 0) hx hb dX0_numeral_106 (by decide) ?_
      refine va_bald hx hb hK hP 0 1 rfl rfl (i := 0) (vp_c (c := 0) (by decide) (by omega)) dX0_numeral_107 ?_
      obtain ⟨x_3, ex_3⟩ : ∃ y9 : Int32, f 0 = y9 := ⟨_, rfl⟩
      refine kv (v := .int x_3) (congrArg Value.int ex_3) ?_
      refine lv_bipush (v := 45) hx hb dX0_numeral_108 (by decide) ?_
      refine lv_icmp_ne (tgt := 118) hx hb dX0_numeral_110 (by decide) (fun c_4 => ?_) (fun c_4 => ?_)
      · refine lv_lload_n hx hb dX0_numeral_118 rfl (lv_at hl 3 rfl) ?_
        exact cr_lret hx hb hr hlk k2_87 rfl trivial dX0_numeral_119
      · refine lv_lload_n hx hb dX0_numeral_113 rfl (lv_at hl 3 rfl) ?_
        refine lv_lneg hx hb dX0_numeral_114 ?_
        refine lv_topl (fun x_5 ex_5 => ?_)
        refine lv_goto (tgt := 119) hx hb dX0_numeral_115 (by decide) ?_
        exact cr_lret hx hb hr hlk x_5 rfl trivial dX0_numeral_119
    · have nc_2 := cv_nle (a := i) (b := k6_87) (by omega) (by omega) c_2
      refine lv_lload_n hx hb dX0_numeral_93 rfl (lv_at hl 3 rfl) ?_
      refine lv_ldc2 hx hb hown (hts _ mw_168) dX0_numeral_94 ?_
      refine lv_lmul hx hb dX0_numeral_97 ?_
      refine lv_topl (fun x_6 ex_6 => ?_)
      refine lv_lstore_n (lv' := [(2, .long x_6), (6, .int (nI k6_87)), (5, .int k5_11), (4, .int (nI k4_11)), (0, .ref b), (1, .int (nI i))]) hx hb dX0_numeral_98 rfl hl (by decide) rfl (fun ls hl => ?_)
      refine lv_iinc (v := (nI (k6_87 + 1))) (lv' := [(6, .int (nI (k6_87 + 1))), (2, .long x_6), (5, .int k5_11), (4, .int (nI k4_11)), (0, .ref b), (1, .int (nI i))]) hx hb dX0_numeral_99 hl (k := 1) rfl (nI_i k6_87) (by decide) rfl (fun ls hl => ?_)
      refine lv_goto (tgt := 87) hx hb dX0_numeral_102 (by decide) ?_
      exact ih87 _ _ (by omega) ⟨(k6_87 + 1), x_6, (by omega), rfl, lv_sub hl [0, 2, 3, 1, 4, 5] rfl⟩
  · have nc_1 := cv_nle (a := n) (b := k6_11) (by omega) (by omega) c_1
    refine lv_aload_n hx hb dX0_numeral_18 rfl (lv_at hl 4 rfl) ?_
    refine lv_iload hx hb dX0_numeral_19 (lv_at hl 0 rfl) ?_
    refine va_bald hx hb hK hP 0 1 rfl rfl (i := nI k6_11) (vp_in_nI (n := k6_11) (by omega) (by omega)) dX0_numeral_21 ?_
    refine kv (v := .int (f k6_11)) (by rw [nI_clamp (by omega)]) ?_
    obtain ⟨x_7, ex_7⟩ : ∃ y9 : Int32, f k6_11 = y9 := ⟨_, rfl⟩
    refine kv (v := .int x_7) (congrArg Value.int ex_7) ?_
    refine er_S (As := [.int x_7]) (rest := []) hFX hKK hE hS (c_X0_isDigit l D κ κq x_7) 1 gS_X0_101 hdS_X0_isDigit rfl rfl ⟨Nat.le_of_ble_eq_true rfl, Nat.le_of_ble_eq_true rfl⟩ rfl rfl (Nat.le_of_ble_eq_true rfl) dX0_numeral_22 ⟨Nat.le_of_ble_eq_true rfl, Nat.le_of_ble_eq_true rfl⟩ hl.1 (subP0 hP [] rfl) (fun r__8 hp_9 => ?_)
    replace hp_9 : ((r__8 = 1) ∨ (r__8 = 0)) := hp_9
    have ha_10 := hp_9
    clear hp_9
    rcases ha_10 with rfl | rfl
    · refine W.eq (g2 := F0 m 25 ls [.int 1]) rfl ?_
      refine lv_if_eq (tgt := 61) hx hb dX0_numeral_25 (by decide) (fun c_11 => absurd c_11 (by decide)) (fun c_11 => ?_)
      refine lv_lload_n hx hb dX0_numeral_28 rfl (lv_at hl 3 rfl) ?_
      refine lv_ldc2 hx hb hown (hts _ mw_168) dX0_numeral_29 ?_
      refine lv_lmul hx hb dX0_numeral_32 ?_
      refine lv_topl (fun x_12 ex_12 => ?_)
      refine lv_aload_n hx hb dX0_numeral_33 rfl (lv_at hl 4 rfl) ?_
      refine lv_iload hx hb dX0_numeral_34 (lv_at hl 0 rfl) ?_
      refine va_bald hx hb hK hP 0 1 rfl rfl (i := nI k6_11) (vp_in_nI (n := k6_11) (by omega) (by omega)) dX0_numeral_36 ?_
      refine kv (v := .int x_7) (by rw [nI_clamp (by omega)]; exact congrArg Value.int ex_7) ?_
      refine lv_bipush (v := 48) hx hb dX0_numeral_37 (by decide) ?_
      refine lv_isub hx hb dX0_numeral_39 ?_
      refine lv_topi (fun x_13 ex_13 => ?_)
      refine lv_i2l (v := x_13.toInt64) hx hb dX0_numeral_40 rfl ?_
      refine lv_ladd hx hb dX0_numeral_41 ?_
      refine lv_topl (fun x_14 ex_14 => ?_)
      refine lv_lstore_n (lv' := [(2, .long x_14), (6, .int (nI k6_11)), (5, .int k5_11), (4, .int (nI k4_11)), (0, .ref b), (1, .int (nI i))]) hx hb dX0_numeral_42 rfl hl (by decide) rfl (fun ls hl => ?_)
      refine lv_iload hx hb dX0_numeral_43 (lv_at hl 3 rfl) ?_
      refine lv_iload hx hb dX0_numeral_45 (lv_at hl 2 rfl) ?_
      refine lv_if_eq (tgt := 54) hx hb dX0_numeral_47 (by decide) (fun c_15 => ?_) (fun c_15 => ?_)
      · refine lv_iconst (v := 0) hx hb dX0_numeral_54 (by decide) ?_
        refine lv_iadd hx hb dX0_numeral_55 ?_
        refine ki (v := (nI (k4_11 + 0))) (nI_add k4_11 0) ?_
        refine lv_istore (lv' := [(4, .int (nI (k4_11 + 0))), (2, .long x_14), (6, .int (nI k6_11)), (5, .int k5_11), (0, .ref b), (1, .int (nI i))]) hx hb dX0_numeral_56 hl (by decide) rfl (fun ls hl => ?_)
        refine lv_goto (tgt := 77) hx hb dX0_numeral_58 (by decide) ?_
        refine lv_iinc (v := (nI (k6_11 + 1))) (lv' := [(6, .int (nI (k6_11 + 1))), (4, .int (nI (k4_11 + 0))), (2, .long x_14), (5, .int k5_11), (0, .ref b), (1, .int (nI i))]) hx hb dX0_numeral_77 hl (k := 2) rfl (nI_i k6_11) (by decide) rfl (fun ls hl => ?_)
        refine lv_goto (tgt := 11) hx hb dX0_numeral_80 (by decide) ?_
        exact ih11 _ _ (by omega) ⟨(k6_11 + 1), k5_11, (k4_11 + 0), x_14, (by omega), (by omega), rfl, lv_sub hl [0, 3, 1, 2, 4, 5] rfl⟩
      · refine lv_iconst (v := 1) hx hb dX0_numeral_50 (by decide) ?_
        refine lv_goto (tgt := 55) hx hb dX0_numeral_51 (by decide) ?_
        refine lv_iadd hx hb dX0_numeral_55 ?_
        refine ki (v := (nI (k4_11 + 1))) (nI_add k4_11 1) ?_
        refine lv_istore (lv' := [(4, .int (nI (k4_11 + 1))), (2, .long x_14), (6, .int (nI k6_11)), (5, .int k5_11), (0, .ref b), (1, .int (nI i))]) hx hb dX0_numeral_56 hl (by decide) rfl (fun ls hl => ?_)
        refine lv_goto (tgt := 77) hx hb dX0_numeral_58 (by decide) ?_
        refine lv_iinc (v := (nI (k6_11 + 1))) (lv' := [(6, .int (nI (k6_11 + 1))), (4, .int (nI (k4_11 + 1))), (2, .long x_14), (5, .int k5_11), (0, .ref b), (1, .int (nI i))]) hx hb dX0_numeral_77 hl (k := 2) rfl (nI_i k6_11) (by decide) rfl (fun ls hl => ?_)
        refine lv_goto (tgt := 11) hx hb dX0_numeral_80 (by decide) ?_
        exact ih11 _ _ (by omega) ⟨(k6_11 + 1), k5_11, (k4_11 + 1), x_14, (by omega), (by omega), rfl, lv_sub hl [0, 3, 1, 2, 4, 5] rfl⟩
    · refine W.eq (g2 := F0 m 25 ls [.int 0]) rfl ?_
      refine lv_if_eq (tgt := 61) hx hb dX0_numeral_25 (by decide) (fun c_16 => ?_) (fun c_16 => absurd (by decide) c_16)
      refine lv_aload_n hx hb dX0_numeral_61 rfl (lv_at hl 4 rfl) ?_
      refine lv_iload hx hb dX0_numeral_62 (lv_at hl 0 rfl) ?_
      refine va_bald hx hb hK hP 0 1 rfl rfl (i := nI k6_11) (vp_in_nI (n := k6_11) (by omega) (by omega)) dX0_numeral_64 ?_
      refine kv (v := .int x_7) (by rw [nI_clamp (by omega)]; exact congrArg Value.int ex_7) ?_
      refine lv_bipush (v := 46) hx hb dX0_numeral_65 (by decide) ?_
      refine lv_icmp_ne (tgt := 74) hx hb dX0_numeral_67 (by decide) (fun c_17 => ?_) (fun c_17 => ?_)
      · refine lv_iconst (v := 0) hx hb dX0_numeral_74 (by decide) ?_
        refine lv_istore (lv' := [(5, .int 0), (6, .int (nI k6_11)), (4, .int (nI k4_11)), (2, .long k2_11), (0, .ref b), (1, .int (nI i))]) hx hb dX0_numeral_75 hl (by decide) rfl (fun ls hl => ?_)
        refine lv_iinc (v := (nI (k6_11 + 1))) (lv' := [(6, .int (nI (k6_11 + 1))), (5, .int 0), (4, .int (nI k4_11)), (2, .long k2_11), (0, .ref b), (1, .int (nI i))]) hx hb dX0_numeral_77 hl (k := 1) rfl (nI_i k6_11) (by decide) rfl (fun ls hl => ?_)
        refine lv_goto (tgt := 11) hx hb dX0_numeral_80 (by decide) ?_
        exact ih11 _ _ (by omega) ⟨(k6_11 + 1), 0, k4_11, k2_11, (by omega), (by omega), rfl, lv_sub hl [0, 1, 2, 3, 4, 5] rfl⟩
      · refine lv_iconst (v := 1) hx hb dX0_numeral_70 (by decide) ?_
        refine lv_goto (tgt := 75) hx hb dX0_numeral_71 (by decide) ?_
        refine lv_istore (lv' := [(5, .int 1), (6, .int (nI k6_11)), (4, .int (nI k4_11)), (2, .long k2_11), (0, .ref b), (1, .int (nI i))]) hx hb dX0_numeral_75 hl (by decide) rfl (fun ls hl => ?_)
        refine lv_iinc (v := (nI (k6_11 + 1))) (lv' := [(6, .int (nI (k6_11 + 1))), (5, .int 1), (4, .int (nI k4_11)), (2, .long k2_11), (0, .ref b), (1, .int (nI i))]) hx hb dX0_numeral_77 hl (k := 1) rfl (nI_i k6_11) (by decide) rfl (fun ls hl => ?_)
        refine lv_goto (tgt := 11) hx hb dX0_numeral_80 (by decide) ?_
        exact ih11 _ _ (by omega) ⟨(k6_11 + 1), 1, k4_11, k2_11, (by omega), (by omega), rfl, lv_sub hl [0, 1, 2, 3, 4, 5] rfl⟩
set_option maxHeartbeats 4000000 in
set_option maxRecDepth 100000 in
theorem c_X1_canBeInName (l : Launch) (D : va_G) (κ : Nat → ClassId) (κq : Nat → Nat) (za : Int32) : Er l yX1_canBeInName (wl yX1_canBeInName cX1_canBeInName 1 (some .boolean)) { frames := 1, cells := 0, slots := 0, locals := 20 } D κ κq [.int za] [] (fun r : Int32 => some (.int r)) (fun r : Int32 => ((r = 1) ∨ (r = 0))) := by
  refine er_of (by decide +kernel) (Nat.le_of_ble_eq_true rfl) ?_
  intro p e s m args below meth c A ls hx hb hr hml hts hown hlk hKK hK hP hE hl
  have hS : va_S A s.heap s.heap [] := va_S.rf
  have hP : va_P D vwCl ([] ++ []) s.heap := hP
  have hFX : FX p s m args c cX1_canBeInName 1 RX1 := ⟨hx, hb, hml, hown, hts⟩
  have hl : lv_has ls 1 [(0, .int za)] := hl
  refine lv_iload_n hx hb dX1_canBeInName_0 rfl (lv_at hl 0 rfl) ?_
  refine lv_bipush (v := 97) hx hb dX1_canBeInName_1 (by decide) ?_
  refine lv_icmp_lt (tgt := 12) hx hb dX1_canBeInName_3 (by decide) (fun c_1 => ?_) (fun c_1 => ?_)
  · refine lv_iload_n hx hb dX1_canBeInName_12 rfl (lv_at hl 0 rfl) ?_
    refine lv_bipush (v := 65) hx hb dX1_canBeInName_13 (by decide) ?_
    refine lv_icmp_lt (tgt := 24) hx hb dX1_canBeInName_15 (by decide) (fun c_2 => ?_) (fun c_2 => ?_)
    · refine lv_iload_n hx hb dX1_canBeInName_24 rfl (lv_at hl 0 rfl) ?_
      refine er_S (As := [.int za]) (rest := []) hFX hKK hE hS (c_X0_isDigit l D κ κq za) 1 gS_X1_32 hdS_X0_isDigit rfl rfl ⟨Nat.le_of_ble_eq_true rfl, Nat.le_of_ble_eq_true rfl⟩ rfl rfl (Nat.le_of_ble_eq_true rfl) dX1_canBeInName_25 ⟨Nat.le_of_ble_eq_true rfl, Nat.le_of_ble_eq_true rfl⟩ hl.1 (subP0 hP [] rfl) (fun r__3 hp_4 => ?_)
      replace hp_4 : ((r__3 = 1) ∨ (r__3 = 0)) := hp_4
      have ha_5 := hp_4
      clear hp_4
      rcases ha_5 with rfl | rfl
      · refine W.eq (g2 := F0 m 28 ls [.int 1]) rfl ?_
        refine lv_if_ne (tgt := 37) hx hb dX1_canBeInName_28 (by decide) (fun c_6 => ?_) (fun c_6 => absurd c_6 (by decide))
        refine lv_iconst (v := 1) hx hb dX1_canBeInName_37 (by decide) ?_
        refine lv_goto (tgt := 42) hx hb dX1_canBeInName_38 (by decide) ?_
        exact cr_iret hx hb hr hlk rfl 1 rfl (by exact Or.inl (rfl)) dX1_canBeInName_42
      · refine W.eq (g2 := F0 m 28 ls [.int 0]) rfl ?_
        refine lv_if_ne (tgt := 37) hx hb dX1_canBeInName_28 (by decide) (fun c_7 => absurd c_7 (by decide)) (fun c_7 => ?_)
        refine lv_iload_n hx hb dX1_canBeInName_31 rfl (lv_at hl 0 rfl) ?_
        refine lv_bipush (v := 95) hx hb dX1_canBeInName_32 (by decide) ?_
        refine lv_icmp_ne (tgt := 41) hx hb dX1_canBeInName_34 (by decide) (fun c_8 => ?_) (fun c_8 => ?_)
        · refine lv_iconst (v := 0) hx hb dX1_canBeInName_41 (by decide) ?_
          exact cr_iret hx hb hr hlk rfl 0 rfl (by exact Or.inr ((rfl))) dX1_canBeInName_42
        · refine lv_iconst (v := 1) hx hb dX1_canBeInName_37 (by decide) ?_
          refine lv_goto (tgt := 42) hx hb dX1_canBeInName_38 (by decide) ?_
          exact cr_iret hx hb hr hlk rfl 1 rfl (by exact Or.inl (rfl)) dX1_canBeInName_42
    · refine lv_iload_n hx hb dX1_canBeInName_18 rfl (lv_at hl 0 rfl) ?_
      refine lv_bipush (v := 90) hx hb dX1_canBeInName_19 (by decide) ?_
      refine lv_icmp_le (tgt := 37) hx hb dX1_canBeInName_21 (by decide) (fun c_9 => ?_) (fun c_9 => ?_)
      · refine lv_iconst (v := 1) hx hb dX1_canBeInName_37 (by decide) ?_
        refine lv_goto (tgt := 42) hx hb dX1_canBeInName_38 (by decide) ?_
        exact cr_iret hx hb hr hlk rfl 1 rfl (by exact Or.inl (rfl)) dX1_canBeInName_42
      · refine lv_iload_n hx hb dX1_canBeInName_24 rfl (lv_at hl 0 rfl) ?_
        refine er_S (As := [.int za]) (rest := []) hFX hKK hE hS (c_X0_isDigit l D κ κq za) 1 gS_X1_32 hdS_X0_isDigit rfl rfl ⟨Nat.le_of_ble_eq_true rfl, Nat.le_of_ble_eq_true rfl⟩ rfl rfl (Nat.le_of_ble_eq_true rfl) dX1_canBeInName_25 ⟨Nat.le_of_ble_eq_true rfl, Nat.le_of_ble_eq_true rfl⟩ hl.1 (subP0 hP [] rfl) (fun r__10 hp_11 => ?_)
        replace hp_11 : ((r__10 = 1) ∨ (r__10 = 0)) := hp_11
        have ha_12 := hp_11
        clear hp_11
        rcases ha_12 with rfl | rfl
        · refine W.eq (g2 := F0 m 28 ls [.int 1]) rfl ?_
          refine lv_if_ne (tgt := 37) hx hb dX1_canBeInName_28 (by decide) (fun c_13 => ?_) (fun c_13 => absurd c_13 (by decide))
          refine lv_iconst (v := 1) hx hb dX1_canBeInName_37 (by decide) ?_
          refine lv_goto (tgt := 42) hx hb dX1_canBeInName_38 (by decide) ?_
          exact cr_iret hx hb hr hlk rfl 1 rfl (by exact Or.inl (rfl)) dX1_canBeInName_42
        · refine W.eq (g2 := F0 m 28 ls [.int 0]) rfl ?_
          refine lv_if_ne (tgt := 37) hx hb dX1_canBeInName_28 (by decide) (fun c_14 => absurd c_14 (by decide)) (fun c_14 => ?_)
          refine lv_iload_n hx hb dX1_canBeInName_31 rfl (lv_at hl 0 rfl) ?_
          refine lv_bipush (v := 95) hx hb dX1_canBeInName_32 (by decide) ?_
          refine lv_icmp_ne (tgt := 41) hx hb dX1_canBeInName_34 (by decide) (fun c_15 => ?_) (fun c_15 => ?_)
          · refine lv_iconst (v := 0) hx hb dX1_canBeInName_41 (by decide) ?_
            exact cr_iret hx hb hr hlk rfl 0 rfl (by exact Or.inr ((rfl))) dX1_canBeInName_42
          · refine lv_iconst (v := 1) hx hb dX1_canBeInName_37 (by decide) ?_
            refine lv_goto (tgt := 42) hx hb dX1_canBeInName_38 (by decide) ?_
            exact cr_iret hx hb hr hlk rfl 1 rfl (by exact Or.inl (rfl)) dX1_canBeInName_42
  · refine lv_iload_n hx hb dX1_canBeInName_6 rfl (lv_at hl 0 rfl) ?_
    refine lv_bipush (v := 122) hx hb dX1_canBeInName_7 (by decide) ?_
    refine lv_icmp_le (tgt := 37) hx hb dX1_canBeInName_9 (by decide) (fun c_16 => ?_) (fun c_16 => ?_)
    · refine lv_iconst (v := 1) hx hb dX1_canBeInName_37 (by decide) ?_
      refine lv_goto (tgt := 42) hx hb dX1_canBeInName_38 (by decide) ?_
      exact cr_iret hx hb hr hlk rfl 1 rfl (by exact Or.inl (rfl)) dX1_canBeInName_42
    · refine lv_iload_n hx hb dX1_canBeInName_12 rfl (lv_at hl 0 rfl) ?_
      refine lv_bipush (v := 65) hx hb dX1_canBeInName_13 (by decide) ?_
      refine lv_icmp_lt (tgt := 24) hx hb dX1_canBeInName_15 (by decide) (fun c_17 => ?_) (fun c_17 => ?_)
      · refine lv_iload_n hx hb dX1_canBeInName_24 rfl (lv_at hl 0 rfl) ?_
        refine er_S (As := [.int za]) (rest := []) hFX hKK hE hS (c_X0_isDigit l D κ κq za) 1 gS_X1_32 hdS_X0_isDigit rfl rfl ⟨Nat.le_of_ble_eq_true rfl, Nat.le_of_ble_eq_true rfl⟩ rfl rfl (Nat.le_of_ble_eq_true rfl) dX1_canBeInName_25 ⟨Nat.le_of_ble_eq_true rfl, Nat.le_of_ble_eq_true rfl⟩ hl.1 (subP0 hP [] rfl) (fun r__18 hp_19 => ?_)
        replace hp_19 : ((r__18 = 1) ∨ (r__18 = 0)) := hp_19
        have ha_20 := hp_19
        clear hp_19
        rcases ha_20 with rfl | rfl
        · refine W.eq (g2 := F0 m 28 ls [.int 1]) rfl ?_
          refine lv_if_ne (tgt := 37) hx hb dX1_canBeInName_28 (by decide) (fun c_21 => ?_) (fun c_21 => absurd c_21 (by decide))
          refine lv_iconst (v := 1) hx hb dX1_canBeInName_37 (by decide) ?_
          refine lv_goto (tgt := 42) hx hb dX1_canBeInName_38 (by decide) ?_
          exact cr_iret hx hb hr hlk rfl 1 rfl (by exact Or.inl (rfl)) dX1_canBeInName_42
        · refine W.eq (g2 := F0 m 28 ls [.int 0]) rfl ?_
          refine lv_if_ne (tgt := 37) hx hb dX1_canBeInName_28 (by decide) (fun c_22 => absurd c_22 (by decide)) (fun c_22 => ?_)
          refine lv_iload_n hx hb dX1_canBeInName_31 rfl (lv_at hl 0 rfl) ?_
          refine lv_bipush (v := 95) hx hb dX1_canBeInName_32 (by decide) ?_
          refine lv_icmp_ne (tgt := 41) hx hb dX1_canBeInName_34 (by decide) (fun c_23 => ?_) (fun c_23 => ?_)
          · refine lv_iconst (v := 0) hx hb dX1_canBeInName_41 (by decide) ?_
            exact cr_iret hx hb hr hlk rfl 0 rfl (by exact Or.inr ((rfl))) dX1_canBeInName_42
          · refine lv_iconst (v := 1) hx hb dX1_canBeInName_37 (by decide) ?_
            refine lv_goto (tgt := 42) hx hb dX1_canBeInName_38 (by decide) ?_
            exact cr_iret hx hb hr hlk rfl 1 rfl (by exact Or.inl (rfl)) dX1_canBeInName_42
      · refine lv_iload_n hx hb dX1_canBeInName_18 rfl (lv_at hl 0 rfl) ?_
        refine lv_bipush (v := 90) hx hb dX1_canBeInName_19 (by decide) ?_
        refine lv_icmp_le (tgt := 37) hx hb dX1_canBeInName_21 (by decide) (fun c_24 => ?_) (fun c_24 => ?_)
        · refine lv_iconst (v := 1) hx hb dX1_canBeInName_37 (by decide) ?_
          refine lv_goto (tgt := 42) hx hb dX1_canBeInName_38 (by decide) ?_
          exact cr_iret hx hb hr hlk rfl 1 rfl (by exact Or.inl (rfl)) dX1_canBeInName_42
        · refine lv_iload_n hx hb dX1_canBeInName_24 rfl (lv_at hl 0 rfl) ?_
          refine er_S (As := [.int za]) (rest := []) hFX hKK hE hS (c_X0_isDigit l D κ κq za) 1 gS_X1_32 hdS_X0_isDigit rfl rfl ⟨Nat.le_of_ble_eq_true rfl, Nat.le_of_ble_eq_true rfl⟩ rfl rfl (Nat.le_of_ble_eq_true rfl) dX1_canBeInName_25 ⟨Nat.le_of_ble_eq_true rfl, Nat.le_of_ble_eq_true rfl⟩ hl.1 (subP0 hP [] rfl) (fun r__25 hp_26 => ?_)
          replace hp_26 : ((r__25 = 1) ∨ (r__25 = 0)) := hp_26
          have ha_27 := hp_26
          clear hp_26
          rcases ha_27 with rfl | rfl
          · refine W.eq (g2 := F0 m 28 ls [.int 1]) rfl ?_
            refine lv_if_ne (tgt := 37) hx hb dX1_canBeInName_28 (by decide) (fun c_28 => ?_) (fun c_28 => absurd c_28 (by decide))
            refine lv_iconst (v := 1) hx hb dX1_canBeInName_37 (by decide) ?_
            refine lv_goto (tgt := 42) hx hb dX1_canBeInName_38 (by decide) ?_
            exact cr_iret hx hb hr hlk rfl 1 rfl (by exact Or.inl (rfl)) dX1_canBeInName_42
          · refine W.eq (g2 := F0 m 28 ls [.int 0]) rfl ?_
            refine lv_if_ne (tgt := 37) hx hb dX1_canBeInName_28 (by decide) (fun c_29 => absurd c_29 (by decide)) (fun c_29 => ?_)
            refine lv_iload_n hx hb dX1_canBeInName_31 rfl (lv_at hl 0 rfl) ?_
            refine lv_bipush (v := 95) hx hb dX1_canBeInName_32 (by decide) ?_
            refine lv_icmp_ne (tgt := 41) hx hb dX1_canBeInName_34 (by decide) (fun c_30 => ?_) (fun c_30 => ?_)
            · refine lv_iconst (v := 0) hx hb dX1_canBeInName_41 (by decide) ?_
              exact cr_iret hx hb hr hlk rfl 0 rfl (by exact Or.inr ((rfl))) dX1_canBeInName_42
            · refine lv_iconst (v := 1) hx hb dX1_canBeInName_37 (by decide) ?_
              refine lv_goto (tgt := 42) hx hb dX1_canBeInName_38 (by decide) ?_
              exact cr_iret hx hb hr hlk rfl 1 rfl (by exact Or.inl (rfl)) dX1_canBeInName_42
set_option maxHeartbeats 4000000 in
set_option maxRecDepth 100000 in
theorem c_X1_canBeName (l : Launch) (D : va_G) (κ : Nat → ClassId) (κq : Nat → Nat) (b : Nat) (n : Nat) (f : Nat → Int32) (h1 : n ≤ 21) : Er l yX1_canBeName (wl yX1_canBeName cX1_canBeName 2 (some .boolean)) { frames := 2, cells := 0, slots := 0, locals := 40 } D κ κq [.ref b] [(b, .inl (κ 1, n, .inl f))] (fun r : Int32 => some (.int r)) (fun r : Int32 => ((r = 1 ∧ n ≤ 12 ∧ 1 ≤ n) ∨ (r = 0))) := by
  refine er_of (by decide +kernel) (Nat.le_of_ble_eq_true rfl) ?_
  intro p e s m args below meth c A ls hx hb hr hml hts hown hlk hKK hK hP hE hl
  have hS : va_S A s.heap s.heap [] := va_S.rf
  have hP : va_P D vwCl ([(b, .inl (κ 1, n, .inl f))] ++ []) s.heap := hP
  have hFX : FX p s m args c cX1_canBeName 2 RX1 := ⟨hx, hb, hml, hown, hts⟩
  have hl : lv_has ls 2 [(0, .ref b)] := hl
  refine lv_aload_n hx hb dX1_canBeName_0 rfl (lv_at hl 0 rfl) ?_
  refine va_alen hx hb hK hP 0 1 rfl rfl (v := nI n) rfl dX1_canBeName_1 ?_
  refine lv_iconst (v := 1) hx hb dX1_canBeName_2 (by decide) ?_
  refine lv_icmp_lt (tgt := 13) hx hb dX1_canBeName_3 (by decide) (fun c_1 => ?_) (fun c_1 => ?_)
  · have nc_1 := cv_lt (a := n) (b := 1) (by omega) (by omega) c_1
    refine lv_iconst (v := 0) hx hb dX1_canBeName_13 (by decide) ?_
    exact cr_iret hx hb hr hlk rfl 0 rfl (by exact Or.inr ((rfl))) dX1_canBeName_14
  · have nc_1 := cv_nlt (a := n) (b := 1) (by omega) (by omega) c_1
    refine lv_aload_n hx hb dX1_canBeName_6 rfl (lv_at hl 0 rfl) ?_
    refine va_alen hx hb hK hP 0 1 rfl rfl (v := nI n) rfl dX1_canBeName_7 ?_
    refine lv_bipush (v := 12) hx hb dX1_canBeName_8 (by decide) ?_
    refine lv_icmp_le (tgt := 15) hx hb dX1_canBeName_10 (by decide) (fun c_2 => ?_) (fun c_2 => ?_)
    · have nc_2 := cv_le (a := n) (b := 12) (by omega) (by omega) c_2
      refine lv_iconst (v := 0) hx hb dX1_canBeName_15 (by decide) ?_
      refine lv_istore_n (lv' := [(1, .int 0), (0, .ref b)]) hx hb dX1_canBeName_16 rfl hl (by decide) rfl (fun ls hl => ?_)
      refine loop_r (fun k9 ls => ∃ (k1_17 : Nat), (k1_17 ≤ n) ∧ n - k1_17 = k9 ∧ lv_has ls 2 [(1, .int (nI k1_17)), (0, .ref b)]) (fun k9 ls hI17 ih17 => ?_) (n - 0) _ ⟨0, (by omega), rfl, lv_sub hl [0, 1] rfl⟩
      obtain ⟨k1_17, hl17_0, hm17, hl⟩ := hI17
      refine lv_iload_n hx hb dX1_canBeName_17 rfl (lv_at hl 0 rfl) ?_
      refine lv_aload_n hx hb dX1_canBeName_18 rfl (lv_at hl 1 rfl) ?_
      refine va_alen hx hb hK hP 0 1 rfl rfl (v := nI n) rfl dX1_canBeName_19 ?_
      refine lv_icmp_ge (tgt := 40) hx hb dX1_canBeName_20 (by decide) (fun c_3 => ?_) (fun c_3 => ?_)
      · have nc_3 := cv_le (a := n) (b := k1_17) (by omega) (by omega) c_3
        refine lv_iconst (v := 1) hx hb dX1_canBeName_40 (by decide) ?_
        exact cr_iret hx hb hr hlk rfl 1 rfl (by exact Or.inl (⟨rfl, (show n ≤ 12 from (by first | assumption | omega | rfl | exact Or.inl (by assumption) | exact Or.inr (by assumption))), (show 1 ≤ n from (by first | assumption | omega | rfl | exact Or.inl (by assumption) | exact Or.inr (by assumption)))⟩)) dX1_canBeName_41
      · have nc_3 := cv_nle (a := n) (b := k1_17) (by omega) (by omega) c_3
        refine lv_aload_n hx hb dX1_canBeName_23 rfl (lv_at hl 1 rfl) ?_
        refine lv_iload_n hx hb dX1_canBeName_24 rfl (lv_at hl 0 rfl) ?_
        refine va_bald hx hb hK hP 0 1 rfl rfl (i := nI k1_17) (vp_in_nI (n := k1_17) (by omega) (by omega)) dX1_canBeName_25 ?_
        refine kv (v := .int (f k1_17)) (by rw [nI_clamp (by omega)]) ?_
        obtain ⟨x_4, ex_4⟩ : ∃ y9 : Int32, f k1_17 = y9 := ⟨_, rfl⟩
        refine kv (v := .int x_4) (congrArg Value.int ex_4) ?_
        refine er_S (As := [.int x_4]) (rest := []) hFX hKK hE hS (c_X1_canBeInName l D κ κq x_4) 1 gS_X1_28 hdS_X1_canBeInName rfl rfl ⟨Nat.le_of_ble_eq_true rfl, Nat.le_of_ble_eq_true rfl⟩ rfl rfl (Nat.le_of_ble_eq_true rfl) dX1_canBeName_26 ⟨Nat.le_of_ble_eq_true rfl, Nat.le_of_ble_eq_true rfl⟩ hl.1 (subP0 hP [] rfl) (fun r__5 hp_6 => ?_)
        replace hp_6 : ((r__5 = 1) ∨ (r__5 = 0)) := hp_6
        have ha_7 := hp_6
        clear hp_6
        rcases ha_7 with rfl | rfl
        · refine W.eq (g2 := F0 m 29 ls [.int 1]) rfl ?_
          refine lv_if_ne (tgt := 34) hx hb dX1_canBeName_29 (by decide) (fun c_8 => ?_) (fun c_8 => absurd c_8 (by decide))
          refine lv_iinc (v := (nI (k1_17 + 1))) (lv' := [(1, .int (nI (k1_17 + 1))), (0, .ref b)]) hx hb dX1_canBeName_34 hl (k := 0) rfl (nI_i k1_17) (by decide) rfl (fun ls hl => ?_)
          refine lv_goto (tgt := 17) hx hb dX1_canBeName_37 (by decide) ?_
          exact ih17 _ _ (by omega) ⟨(k1_17 + 1), (by omega), rfl, lv_sub hl [0, 1] rfl⟩
        · refine W.eq (g2 := F0 m 29 ls [.int 0]) rfl ?_
          refine lv_if_ne (tgt := 34) hx hb dX1_canBeName_29 (by decide) (fun c_9 => absurd c_9 (by decide)) (fun c_9 => ?_)
          refine lv_iconst (v := 0) hx hb dX1_canBeName_32 (by decide) ?_
          exact cr_iret hx hb hr hlk rfl 0 rfl (by exact Or.inr ((rfl))) dX1_canBeName_33
    · have nc_2 := cv_nle (a := n) (b := 12) (by omega) (by omega) c_2
      refine lv_iconst (v := 0) hx hb dX1_canBeName_13 (by decide) ?_
      exact cr_iret hx hb hr hlk rfl 0 rfl (by exact Or.inr ((rfl))) dX1_canBeName_14
set_option maxHeartbeats 4000000 in
set_option maxRecDepth 100000 in
theorem c_X1_isNamed (l : Launch) (D : va_G) (κ : Nat → ClassId) (κq : Nat → Nat) (im : va_W) (a : Nat) (k : Nat) (t : Int32) (b : Nat) (n : Nat) (hc : Co κ im a k t) (hby : By κ im b n) : Er l yX1_isNamed (wl yX1_isNamed cX1_isNamed 3 (some .boolean)) { frames := 0, cells := 0, slots := 0, locals := 0 } D κ κq [.ref a, .ref b] ([] ++ im) (fun r : Int32 => some (.int r)) (fun r : Int32 => ((r = 1) ∨ (r = 0))) := by
  refine er_of (by decide +kernel) (Nat.le_of_ble_eq_true rfl) ?_
  intro p e s m args below meth c A ls hx hb hr hml hts hown hlk hKK hK hP hE hl
  have hS : va_S A s.heap s.heap [] := va_S.rf
  have hP : va_P D vwCl ([] ++ im) s.heap := hP
  have hFX : FX p s m args c cX1_isNamed 3 RX1 := ⟨hx, hb, hml, hown, hts⟩
  have hl : lv_has ls 3 [(0, .ref a), (1, .ref b)] := hl
  refine lv_aload_n hx hb dX1_isNamed_0 rfl (lv_at hl 1 rfl) ?_
  obtain ⟨hn_2, f_1, hm_3, hfit_4⟩ := id hby
  refine va_alen hx hb hK (oneP (C := []) hP hm_3) 0 1 rfl rfl (v := nI n) rfl dX1_isNamed_1 ?_
  refine lv_aload_n hx hb dX1_isNamed_2 rfl (lv_at hl 0 rfl) ?_
  obtain ⟨ht_5, b_6, hm_7, hb_8⟩ := id hc
  have hn_b_6 := hb_8.1
  refine va_get (D := D) (ci := 1) (v := .ref b_6) (C := RX1) (T := TX1) (N := 2) hx hb hts inlX1 hown hK (oneP (C := []) hP hm_7) 0 rfl rfl 0 (by decide) (hts _ mw_346) (fun _ h9 => h9) rfl dX1_isNamed_3 ?_
  obtain ⟨hn_10, f_9, hm_11, hfit_12⟩ := id hb_8
  refine va_alen hx hb hK (oneP (C := []) hP hm_11) 0 1 rfl rfl (v := nI k) rfl dX1_isNamed_6 ?_
  refine lv_icmp_eq (tgt := 12) hx hb dX1_isNamed_7 (by decide) (fun c_13 => ?_) (fun c_13 => ?_)
  · have nc_13 := cv_eq (a := n) (b := k) (by omega) (by omega) c_13
    refine lv_iconst (v := 0) hx hb dX1_isNamed_12 (by decide) ?_
    refine lv_istore_n (lv' := [(2, .int 0), (0, .ref a), (1, .ref b)]) hx hb dX1_isNamed_13 rfl hl (by decide) rfl (fun ls hl => ?_)
    refine loop_r (fun k9 ls => ∃ (k2_14 : Nat), (k2_14 ≤ 20) ∧ 21 - k2_14 = k9 ∧ lv_has ls 3 [(2, .int (nI k2_14)), (0, .ref a), (1, .ref b)]) (fun k9 ls hI14 ih14 => ?_) (21 - 0) _ ⟨0, (by omega), rfl, lv_sub hl [0, 1, 2] rfl⟩
    obtain ⟨k2_14, hl14_0, hm14, hl⟩ := hI14
    refine lv_iload_n hx hb dX1_isNamed_14 rfl (lv_at hl 0 rfl) ?_
    refine lv_aload_n hx hb dX1_isNamed_15 rfl (lv_at hl 1 rfl) ?_
    refine va_get (D := D) (ci := 1) (v := .ref b_6) (C := RX1) (T := TX1) (N := 2) hx hb hts inlX1 hown hK (oneP (C := []) hP hm_7) 0 rfl rfl 0 (by decide) (hts _ mw_346) (fun _ h9 => h9) rfl dX1_isNamed_16 ?_
    refine va_alen hx hb hK (oneP (C := []) hP hm_11) 0 1 rfl rfl (v := nI k) rfl dX1_isNamed_19 ?_
    refine lv_icmp_ge (tgt := 43) hx hb dX1_isNamed_20 (by decide) (fun c_14 => ?_) (fun c_14 => ?_)
    · have nc_14 := cv_le (a := k) (b := k2_14) (by omega) (by omega) c_14
      refine lv_iconst (v := 1) hx hb dX1_isNamed_43 (by decide) ?_
      exact cr_iret hx hb hr hlk rfl 1 rfl (by exact Or.inl (rfl)) dX1_isNamed_44
    · have nc_14 := cv_nle (a := k) (b := k2_14) (by omega) (by omega) c_14
      refine lv_aload_n hx hb dX1_isNamed_23 rfl (lv_at hl 2 rfl) ?_
      refine lv_iload_n hx hb dX1_isNamed_24 rfl (lv_at hl 0 rfl) ?_
      refine va_bald hx hb hK (oneP (C := []) hP hm_3) 0 1 rfl rfl (i := nI k2_14) (vp_in_nI (n := k2_14) (by omega) (by omega)) dX1_isNamed_25 ?_
      refine kv (v := .int (f_1 k2_14)) (by rw [nI_clamp (by omega)]) ?_
      obtain ⟨x_15, ex_15⟩ : ∃ y9 : Int32, f_1 k2_14 = y9 := ⟨_, rfl⟩
      refine kv (v := .int x_15) (congrArg Value.int ex_15) ?_
      refine lv_aload_n hx hb dX1_isNamed_26 rfl (lv_at hl 1 rfl) ?_
      refine va_get (D := D) (ci := 1) (v := .ref b_6) (C := RX1) (T := TX1) (N := 2) hx hb hts inlX1 hown hK (oneP (C := []) hP hm_7) 0 rfl rfl 0 (by decide) (hts _ mw_346) (fun _ h9 => h9) rfl dX1_isNamed_27 ?_
      refine lv_iload_n hx hb dX1_isNamed_30 rfl (lv_at hl 0 rfl) ?_
      refine va_bald hx hb hK (oneP (C := []) hP hm_11) 0 1 rfl rfl (i := nI k2_14) (vp_in_nI (n := k2_14) (by omega) (by omega)) dX1_isNamed_31 ?_
      refine kv (v := .int (f_9 k2_14)) (by rw [nI_clamp (by omega)]) ?_
      obtain ⟨x_16, ex_16⟩ : ∃ y9 : Int32, f_9 k2_14 = y9 := ⟨_, rfl⟩
      refine kv (v := .int x_16) (congrArg Value.int ex_16) ?_
      refine lv_icmp_eq (tgt := 37) hx hb dX1_isNamed_32 (by decide) (fun c_17 => ?_) (fun c_17 => ?_)
      · refine lv_iinc (v := (nI (k2_14 + 1))) (lv' := [(2, .int (nI (k2_14 + 1))), (0, .ref a), (1, .ref b)]) hx hb dX1_isNamed_37 hl (k := 0) rfl (nI_i k2_14) (by decide) rfl (fun ls hl => ?_)
        refine lv_goto (tgt := 14) hx hb dX1_isNamed_40 (by decide) ?_
        exact ih14 _ _ (by omega) ⟨(k2_14 + 1), (by omega), rfl, lv_sub hl [0, 1, 2] rfl⟩
      · refine lv_iconst (v := 0) hx hb dX1_isNamed_35 (by decide) ?_
        exact cr_iret hx hb hr hlk rfl 0 rfl (by exact Or.inr ((rfl))) dX1_isNamed_36
  · have nc_13 := cv_ne (a := n) (b := k) (by omega) (by omega) c_13
    refine lv_iconst (v := 0) hx hb dX1_isNamed_10 (by decide) ?_
    exact cr_iret hx hb hr hlk rfl 0 rfl (by exact Or.inr ((rfl))) dX1_isNamed_11
