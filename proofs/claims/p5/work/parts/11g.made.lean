theorem dX0_init_0 : decode cX0_init 0 = .ok (.aload_n 0, 1) := by decide +kernel
theorem dX0_init_1 : decode cX0_init 1 = .ok (.invokespecial 3, 3) := by decide +kernel
theorem mw_87 : Cond.methodLink RX0 3 objectInit ∈ wsL_law := lrk_4 _ (List.mem_of_getElem? (i := 15) rfl)
theorem mw_10 : Cond.instanceMethod objectInit ∈ wsL_law := lrk_1 _ (List.mem_of_getElem? (i := 10) rfl)
theorem mw_11 : Cond.code objectInit ⟨#[0xb1]⟩ 1 none ∈ wsL_law := lrk_1 _ (List.mem_of_getElem? (i := 11) rfl)
theorem dX0_init_4 : decode cX0_init 4 = .ok (.aload_n 0, 1) := by decide +kernel
theorem dX0_init_5 : decode cX0_init 5 = .ok (.aload_n 1, 1) := by decide +kernel
theorem dX0_init_6 : decode cX0_init 6 = .ok (.putfield 9, 3) := by decide +kernel
theorem dX0_init_9 : decode cX0_init 9 = .ok (.aload_n 0, 1) := by decide +kernel
theorem dX0_init_10 : decode cX0_init 10 = .ok (.aload_n 1, 1) := by decide +kernel
theorem dX0_init_11 : decode cX0_init 11 = .ok (.invokestatic 15, 3) := by decide +kernel
theorem mw_93 : Cond.code yX0_kindOf cX0_kindOf 1 (some .int) ∈ wsL_law := lrk_4 _ (List.mem_of_getElem? (i := 21) rfl)
theorem mw_91 : Cond.methodLink RX0 15 yX0_kindOf ∈ wsL_law := lrk_4 _ (List.mem_of_getElem? (i := 19) rfl)
theorem mw_92 : Cond.static yX0_kindOf ∈ wsL_law := lrk_4 _ (List.mem_of_getElem? (i := 20) rfl)
theorem gS_X0_15 : GoodIn wsL_law (va_wsS RX0 15 yX0_kindOf (wl yX0_kindOf cX0_kindOf 1 (some .int))) := g_S mw_91 mw_92 mw_68 mw_93
theorem hdS_X0_kindOf : okD yX0_kindOf 1 := by decide +kernel
theorem dX0_init_14 : decode cX0_init 14 = .ok (.putfield 19, 3) := by decide +kernel
theorem dX0_init_17 : decode cX0_init 17 = .ok (.aload_n 0, 1) := by decide +kernel
theorem dX0_init_18 : decode cX0_init 18 = .ok (.aload_n 1, 1) := by decide +kernel
theorem dX0_init_19 : decode cX0_init 19 = .ok (.aload_n 0, 1) := by decide +kernel
theorem dX0_init_20 : decode cX0_init 20 = .ok (.getfield 19, 3) := by decide +kernel
theorem dX0_init_23 : decode cX0_init 23 = .ok (.invokestatic 23, 3) := by decide +kernel
theorem mw_164 : Cond.code yX0_numberOf cX0_numberOf 2 (some .long) ∈ wsL_law := lrk_7 _ (List.mem_of_getElem? (i := 20) rfl)
theorem mw_162 : Cond.methodLink RX0 23 yX0_numberOf ∈ wsL_law := lrk_7 _ (List.mem_of_getElem? (i := 18) rfl)
theorem mw_163 : Cond.static yX0_numberOf ∈ wsL_law := lrk_7 _ (List.mem_of_getElem? (i := 19) rfl)
theorem gS_X0_23 : GoodIn wsL_law (va_wsS RX0 23 yX0_numberOf (wl yX0_numberOf cX0_numberOf 2 (some .long))) := g_S mw_162 mw_163 mw_68 mw_164
theorem hdS_X0_numberOf : okD yX0_numberOf 2 := by decide +kernel
theorem dX0_init_26 : decode cX0_init 26 = .ok (.putfield 27, 3) := by decide +kernel
theorem dX0_init_29 : decode cX0_init 29 = .ok (.return_, 1) := by decide +kernel
theorem dX8_takeCell_0 : decode cX8_takeCell 0 = .ok (.aload_n 0, 1) := by decide +kernel
theorem dX8_takeCell_1 : decode cX8_takeCell 1 = .ok (.invokevirtual 19, 3) := by decide +kernel
theorem mw_568 : Cond.code yX8_takeBytes cX8_takeBytes 4 (some (.array .byte)) ∈ wsL_law := lrk_24 _ (List.mem_of_getElem? (i := 16) rfl)
theorem mw_565 : Cond.methodLink RX8 19 yX8_takeBytes ∈ wsL_law := lrk_24 _ (List.mem_of_getElem? (i := 13) rfl)
theorem mw_566 : Cond.instanceMethod yX8_takeBytes ∈ wsL_law := lrk_24 _ (List.mem_of_getElem? (i := 14) rfl)
theorem mw_567 : Cond.selects RX8 yX8_takeBytes yX8_takeBytes ∈ wsL_law := lrk_24 _ (List.mem_of_getElem? (i := 15) rfl)
theorem gV_X8_19 : GoodIn wsL_law (wsV RX8 19 RX8 yX8_takeBytes (wl yX8_takeBytes cX8_takeBytes 4 (some (.array .byte)))) := g_V mw_565 mw_566 mw_567 mw_18 mw_568
theorem hdV_X8_takeBytes : yX8_takeBytes.cls = RX8 ∧ okD yX8_takeBytes 0 := by decide +kernel
theorem dX8_takeCell_4 : decode cX8_takeCell 4 = .ok (.astore_n 1, 1) := by decide +kernel
theorem dX8_takeCell_5 : decode cX8_takeCell 5 = .ok (.aload_n 1, 1) := by decide +kernel
theorem dX8_takeCell_6 : decode cX8_takeCell 6 = .ok (.ifnonnull 7, 3) := by decide +kernel
theorem dX8_takeCell_9 : decode cX8_takeCell 9 = .ok (.aconst_null, 1) := by decide +kernel
theorem dX8_takeCell_10 : decode cX8_takeCell 10 = .ok (.goto 11, 3) := by decide +kernel
theorem dX8_takeCell_21 : decode cX8_takeCell 21 = .ok (.areturn, 1) := by decide +kernel
theorem dX8_takeCell_13 : decode cX8_takeCell 13 = .ok (.new 23, 3) := by decide +kernel
theorem mw_564 : Cond.classLink RX8 23 RX0 ∈ wsL_law := lrk_24 _ (List.mem_of_getElem? (i := 12) rfl)
theorem mw_67 : Cond.instantiable RX0 3 ∈ wsL_law := lrk_3 _ (List.mem_of_getElem? (i := 19) rfl)
theorem dX8_takeCell_16 : decode cX8_takeCell 16 = .ok (.dup, 1) := by decide +kernel
theorem dX8_takeCell_17 : decode cX8_takeCell 17 = .ok (.aload_n 1, 1) := by decide +kernel
theorem dX8_takeCell_18 : decode cX8_takeCell 18 = .ok (.invokespecial 25, 3) := by decide +kernel
theorem hdI_X0_init : yX0_init.name = "<init>" ∧ okD yX0_init 1 := by decide +kernel
theorem mw_570 : Cond.methodLink RX8 25 yX0_init ∈ wsL_law := lrk_24 _ (List.mem_of_getElem? (i := 18) rfl)
theorem mw_85 : Cond.instanceMethod yX0_init ∈ wsL_law := lrk_4 _ (List.mem_of_getElem? (i := 13) rfl)
theorem mw_86 : Cond.code yX0_init cX0_init 2 none ∈ wsL_law := lrk_4 _ (List.mem_of_getElem? (i := 14) rfl)
theorem dX8_takeName_0 : decode cX8_takeName 0 = .ok (.aload_n 0, 1) := by decide +kernel
theorem dX8_takeName_1 : decode cX8_takeName 1 = .ok (.invokevirtual 19, 3) := by decide +kernel
theorem dX8_takeName_4 : decode cX8_takeName 4 = .ok (.astore_n 1, 1) := by decide +kernel
theorem dX8_takeName_5 : decode cX8_takeName 5 = .ok (.aload_n 1, 1) := by decide +kernel
theorem dX8_takeName_6 : decode cX8_takeName 6 = .ok (.ifnull 10, 3) := by decide +kernel
theorem dX8_takeName_16 : decode cX8_takeName 16 = .ok (.aconst_null, 1) := by decide +kernel
theorem dX8_takeName_17 : decode cX8_takeName 17 = .ok (.goto 4, 3) := by decide +kernel
theorem dX8_takeName_21 : decode cX8_takeName 21 = .ok (.areturn, 1) := by decide +kernel
theorem dX8_takeName_9 : decode cX8_takeName 9 = .ok (.aload_n 1, 1) := by decide +kernel
theorem dX8_takeName_10 : decode cX8_takeName 10 = .ok (.invokestatic 28, 3) := by decide +kernel
theorem mw_334 : Cond.code yX1_canBeName cX1_canBeName 2 (some .boolean) ∈ wsL_law := lrk_14 _ (List.mem_of_getElem? (i := 22) rfl)
theorem mw_719 : Cond.methodLink RX8 28 yX1_canBeName ∈ wsL_law := lrk_30 _ (List.mem_of_getElem? (i := 23) rfl)
theorem mw_333 : Cond.static yX1_canBeName ∈ wsL_law := lrk_14 _ (List.mem_of_getElem? (i := 21) rfl)
theorem gS_X8_28 : GoodIn wsL_law (va_wsS RX8 28 yX1_canBeName (wl yX1_canBeName cX1_canBeName 2 (some .boolean))) := g_S mw_719 mw_333 mw_331 mw_334
theorem hdS_X1_canBeName : okD yX1_canBeName 1 := by decide +kernel
theorem dX8_takeName_13 : decode cX8_takeName 13 = .ok (.ifCond .ne 7, 3) := by decide +kernel
theorem dX8_takeName_20 : decode cX8_takeName 20 = .ok (.aload_n 1, 1) := by decide +kernel
theorem dX1_init_0 : decode cX1_init 0 = .ok (.aload_n 0, 1) := by decide +kernel
theorem dX1_init_1 : decode cX1_init 1 = .ok (.invokespecial 3, 3) := by decide +kernel
theorem mw_350 : Cond.methodLink RX1 3 objectInit ∈ wsL_law := lrk_15 _ (List.mem_of_getElem? (i := 14) rfl)
theorem dX1_init_4 : decode cX1_init 4 = .ok (.aload_n 0, 1) := by decide +kernel
theorem dX1_init_5 : decode cX1_init 5 = .ok (.aload_n 1, 1) := by decide +kernel
theorem dX1_init_6 : decode cX1_init 6 = .ok (.putfield 9, 3) := by decide +kernel
theorem dX1_init_9 : decode cX1_init 9 = .ok (.aload_n 0, 1) := by decide +kernel
theorem dX1_init_10 : decode cX1_init 10 = .ok (.iload_n 2, 1) := by decide +kernel
theorem dX1_init_11 : decode cX1_init 11 = .ok (.putfield 15, 3) := by decide +kernel
theorem dX1_init_14 : decode cX1_init 14 = .ok (.return_, 1) := by decide +kernel
theorem dX9_init_0 : decode cX9_init 0 = .ok (.aload_n 0, 1) := by decide +kernel
theorem dX9_init_1 : decode cX9_init 1 = .ok (.invokespecial 1, 3) := by decide +kernel
theorem mw_392 : Cond.methodLink RX9 1 objectInit ∈ wsL_law := lrk_17 _ (List.mem_of_getElem? (i := 8) rfl)
theorem dX9_init_4 : decode cX9_init 4 = .ok (.aload_n 0, 1) := by decide +kernel
theorem dX9_init_5 : decode cX9_init 5 = .ok (.aload_n 1, 1) := by decide +kernel
theorem dX9_init_6 : decode cX9_init 6 = .ok (.putfield 7, 3) := by decide +kernel
theorem mw_393 : Cond.fieldLink RX9 7 "TypedTables$View" "rows" "[I" ∈ wsL_law := lrk_17 _ (List.mem_of_getElem? (i := 9) rfl)
theorem dX9_init_9 : decode cX9_init 9 = .ok (.aload_n 0, 1) := by decide +kernel
theorem dX9_init_10 : decode cX9_init 10 = .ok (.aload_n 2, 1) := by decide +kernel
theorem dX9_init_11 : decode cX9_init 11 = .ok (.putfield 13, 3) := by decide +kernel
theorem mw_394 : Cond.fieldLink RX9 13 "TypedTables$View" "under" "LTypedTables$View;" ∈ wsL_law := lrk_17 _ (List.mem_of_getElem? (i := 10) rfl)
theorem dX9_init_14 : decode cX9_init 14 = .ok (.aload_n 0, 1) := by decide +kernel
theorem dX9_init_15 : decode cX9_init 15 = .ok (.aload_n 2, 1) := by decide +kernel
theorem dX9_init_16 : decode cX9_init 16 = .ok (.ifnonnull 7, 3) := by decide +kernel
theorem dX9_init_19 : decode cX9_init 19 = .ok (.iconst 0, 1) := by decide +kernel
theorem dX9_init_20 : decode cX9_init 20 = .ok (.goto 9, 3) := by decide +kernel
theorem dX9_init_29 : decode cX9_init 29 = .ok (.putfield 17, 3) := by decide +kernel
theorem mw_395 : Cond.fieldLink RX9 17 "TypedTables$View" "depth" "I" ∈ wsL_law := lrk_17 _ (List.mem_of_getElem? (i := 11) rfl)
theorem dX9_init_32 : decode cX9_init 32 = .ok (.return_, 1) := by decide +kernel
theorem dX9_init_23 : decode cX9_init 23 = .ok (.aload_n 2, 1) := by decide +kernel
theorem dX9_init_24 : decode cX9_init 24 = .ok (.getfield 17, 3) := by decide +kernel
theorem dX9_init_27 : decode cX9_init 27 = .ok (.iconst 1, 1) := by decide +kernel
theorem dX9_init_28 : decode cX9_init 28 = .ok (.iadd, 1) := by decide +kernel
theorem dX5_init_0 : decode cX5_init 0 = .ok (.aload_n 0, 1) := by decide +kernel
theorem dX5_init_1 : decode cX5_init 1 = .ok (.invokespecial 3, 3) := by decide +kernel
theorem mw_381 : Cond.methodLink RX5 3 objectInit ∈ wsL_law := lrk_16 _ (List.mem_of_getElem? (i := 21) rfl)
theorem dX5_init_4 : decode cX5_init 4 = .ok (.aload_n 0, 1) := by decide +kernel
theorem dX5_init_5 : decode cX5_init 5 = .ok (.aload_n 1, 1) := by decide +kernel
theorem dX5_init_6 : decode cX5_init 6 = .ok (.putfield 9, 3) := by decide +kernel
theorem dX5_init_9 : decode cX5_init 9 = .ok (.aload_n 0, 1) := by decide +kernel
theorem dX5_init_10 : decode cX5_init 10 = .ok (.aload_n 2, 1) := by decide +kernel
theorem dX5_init_11 : decode cX5_init 11 = .ok (.putfield 15, 3) := by decide +kernel
theorem dX5_init_14 : decode cX5_init 14 = .ok (.aload_n 0, 1) := by decide +kernel
theorem dX5_init_15 : decode cX5_init 15 = .ok (.iload_n 3, 1) := by decide +kernel
theorem dX5_init_16 : decode cX5_init 16 = .ok (.putfield 19, 3) := by decide +kernel
theorem dX5_init_19 : decode cX5_init 19 = .ok (.iload_n 3, 1) := by decide +kernel
theorem dX5_init_20 : decode cX5_init 20 = .ok (.newarray .int, 2) := by decide +kernel
theorem mw_39 : Cond.arrayClass .int ∈ wsL_law := lrk_2 _ (List.mem_of_getElem? (i := 15) rfl)
theorem dX5_init_22 : decode cX5_init 22 = .ok (.astore 4, 2) := by decide +kernel
theorem dX5_init_24 : decode cX5_init 24 = .ok (.iconst 0, 1) := by decide +kernel
theorem dX5_init_25 : decode cX5_init 25 = .ok (.istore 5, 2) := by decide +kernel
theorem dX5_init_27 : decode cX5_init 27 = .ok (.iload 5, 2) := by decide +kernel
theorem dX5_init_29 : decode cX5_init 29 = .ok (.iload_n 3, 1) := by decide +kernel
theorem dX5_init_30 : decode cX5_init 30 = .ok (.if_icmp .ge 16, 3) := by decide +kernel
theorem dX5_init_46 : decode cX5_init 46 = .ok (.aload_n 0, 1) := by decide +kernel
theorem dX5_init_47 : decode cX5_init 47 = .ok (.new 23, 3) := by decide +kernel
theorem mw_385 : Cond.classLink RX5 23 RX9 ∈ wsL_law := lrk_17 _ (List.mem_of_getElem? (i := 1) rfl)
theorem mw_386 : Cond.instantiable RX9 3 ∈ wsL_law := lrk_17 _ (List.mem_of_getElem? (i := 2) rfl)
theorem mw_387 : Cond.initialized RX9 ∈ wsL_law := lrk_17 _ (List.mem_of_getElem? (i := 3) rfl)
theorem dX5_init_50 : decode cX5_init 50 = .ok (.dup, 1) := by decide +kernel
theorem dX5_init_51 : decode cX5_init 51 = .ok (.aload 4, 2) := by decide +kernel
theorem dX5_init_53 : decode cX5_init 53 = .ok (.aconst_null, 1) := by decide +kernel
theorem dX5_init_54 : decode cX5_init 54 = .ok (.invokespecial 25, 3) := by decide +kernel
theorem hdI_X9_init : yX9_init.name = "<init>" ∧ okD yX9_init 2 := by decide +kernel
theorem mw_389 : Cond.methodLink RX5 25 yX9_init ∈ wsL_law := lrk_17 _ (List.mem_of_getElem? (i := 5) rfl)
theorem mw_390 : Cond.instanceMethod yX9_init ∈ wsL_law := lrk_17 _ (List.mem_of_getElem? (i := 6) rfl)
theorem mw_391 : Cond.code yX9_init cX9_init 3 none ∈ wsL_law := lrk_17 _ (List.mem_of_getElem? (i := 7) rfl)
theorem dX5_init_57 : decode cX5_init 57 = .ok (.putfield 28, 3) := by decide +kernel
theorem mw_388 : Cond.fieldLink RX5 28 "TypedTables$Sheet" "all" "LTypedTables$View;" ∈ wsL_law := lrk_17 _ (List.mem_of_getElem? (i := 4) rfl)
theorem dX5_init_60 : decode cX5_init 60 = .ok (.return_, 1) := by decide +kernel
theorem dX5_init_33 : decode cX5_init 33 = .ok (.aload 4, 2) := by decide +kernel
theorem dX5_init_35 : decode cX5_init 35 = .ok (.iload 5, 2) := by decide +kernel
theorem dX5_init_37 : decode cX5_init 37 = .ok (.iload 5, 2) := by decide +kernel
theorem dX5_init_39 : decode cX5_init 39 = .ok (.iastore, 1) := by decide +kernel
theorem dX5_init_40 : decode cX5_init 40 = .ok (.iinc 5 1, 3) := by decide +kernel
theorem dX5_init_43 : decode cX5_init 43 = .ok (.goto (-16), 3) := by decide +kernel
theorem dX10_append_0 : decode cX10_append 0 = .ok (.aload_n 0, 1) := by decide +kernel
theorem dX10_append_1 : decode cX10_append 1 = .ok (.getfield 15, 3) := by decide +kernel
theorem mw_181 : Cond.fieldLink RX10 15 "TypedTables$Writer" "length" "I" ∈ wsL_law := lrk_8 _ (List.mem_of_getElem? (i := 13) rfl)
theorem dX10_append_4 : decode cX10_append 4 = .ok (.sipush 6000, 3) := by decide +kernel
theorem dX10_append_7 : decode cX10_append 7 = .ok (.if_icmp .ge 14, 3) := by decide +kernel
theorem dX10_append_21 : decode cX10_append 21 = .ok (.aload_n 0, 1) := by decide +kernel
theorem dX10_append_22 : decode cX10_append 22 = .ok (.dup, 1) := by decide +kernel
theorem dX10_append_23 : decode cX10_append 23 = .ok (.getfield 15, 3) := by decide +kernel
theorem dX10_append_26 : decode cX10_append 26 = .ok (.iconst 1, 1) := by decide +kernel
theorem dX10_append_27 : decode cX10_append 27 = .ok (.iadd, 1) := by decide +kernel
theorem dX10_append_28 : decode cX10_append 28 = .ok (.putfield 15, 3) := by decide +kernel
theorem dX10_append_31 : decode cX10_append 31 = .ok (.return_, 1) := by decide +kernel
theorem dX10_append_10 : decode cX10_append 10 = .ok (.aload_n 0, 1) := by decide +kernel
theorem dX10_append_11 : decode cX10_append 11 = .ok (.getfield 9, 3) := by decide +kernel
theorem mw_180 : Cond.fieldLink RX10 9 "TypedTables$Writer" "bytes" "[B" ∈ wsL_law := lrk_8 _ (List.mem_of_getElem? (i := 12) rfl)
theorem dX10_append_14 : decode cX10_append 14 = .ok (.aload_n 0, 1) := by decide +kernel
theorem dX10_append_15 : decode cX10_append 15 = .ok (.getfield 15, 3) := by decide +kernel
theorem dX10_append_18 : decode cX10_append 18 = .ok (.iload_n 1, 1) := by decide +kernel
theorem dX10_append_19 : decode cX10_append 19 = .ok (.i2b, 1) := by decide +kernel
theorem dX10_append_20 : decode cX10_append 20 = .ok (.bastore, 1) := by decide +kernel
theorem dX10_writeBytes_0 : decode cX10_writeBytes 0 = .ok (.iconst 0, 1) := by decide +kernel
theorem dX10_writeBytes_1 : decode cX10_writeBytes 1 = .ok (.istore_n 2, 1) := by decide +kernel
theorem dX10_writeBytes_2 : decode cX10_writeBytes 2 = .ok (.iload_n 2, 1) := by decide +kernel
theorem dX10_writeBytes_3 : decode cX10_writeBytes 3 = .ok (.aload_n 1, 1) := by decide +kernel
theorem dX10_writeBytes_4 : decode cX10_writeBytes 4 = .ok (.arraylength, 1) := by decide +kernel
theorem dX10_writeBytes_5 : decode cX10_writeBytes 5 = .ok (.if_icmp .ge 16, 3) := by decide +kernel
theorem dX10_writeBytes_21 : decode cX10_writeBytes 21 = .ok (.return_, 1) := by decide +kernel
theorem dX10_writeBytes_8 : decode cX10_writeBytes 8 = .ok (.aload_n 0, 1) := by decide +kernel
theorem dX10_writeBytes_9 : decode cX10_writeBytes 9 = .ok (.aload_n 1, 1) := by decide +kernel
theorem dX10_writeBytes_10 : decode cX10_writeBytes 10 = .ok (.iload_n 2, 1) := by decide +kernel
theorem dX10_writeBytes_11 : decode cX10_writeBytes 11 = .ok (.baload, 1) := by decide +kernel
theorem dX10_writeBytes_12 : decode cX10_writeBytes 12 = .ok (.invokevirtual 68, 3) := by decide +kernel
theorem mw_1423 : Cond.code yX10_append cX10_append 2 none ∈ wsL_law := lrk_60 _ (List.mem_of_getElem? (i := 7) rfl)
theorem mw_1420 : Cond.methodLink RX10 68 yX10_append ∈ wsL_law := lrk_60 _ (List.mem_of_getElem? (i := 4) rfl)
theorem mw_31 : Cond.initialized RX10 ∈ wsL_law := lrk_2 _ (List.mem_of_getElem? (i := 7) rfl)
theorem mw_1421 : Cond.instanceMethod yX10_append ∈ wsL_law := lrk_60 _ (List.mem_of_getElem? (i := 5) rfl)
theorem mw_1422 : Cond.selects RX10 yX10_append yX10_append ∈ wsL_law := lrk_60 _ (List.mem_of_getElem? (i := 6) rfl)
theorem gV_X10_68 : GoodIn wsL_law (wsV RX10 68 RX10 yX10_append (wl yX10_append cX10_append 2 none)) := g_V mw_1420 mw_1421 mw_1422 mw_31 mw_1423
theorem hdV_X10_append : yX10_append.cls = RX10 ∧ okD yX10_append 1 := by decide +kernel
theorem dX10_writeBytes_15 : decode cX10_writeBytes 15 = .ok (.iinc 2 1, 3) := by decide +kernel
theorem dX10_writeBytes_18 : decode cX10_writeBytes 18 = .ok (.goto (-16), 3) := by decide +kernel
theorem dX10_separate_0 : decode cX10_separate 0 = .ok (.iload_n 1, 1) := by decide +kernel
theorem dX10_separate_1 : decode cX10_separate 1 = .ok (.ifCond .le 13, 3) := by decide +kernel
theorem dX10_separate_14 : decode cX10_separate 14 = .ok (.return_, 1) := by decide +kernel
theorem dX10_separate_4 : decode cX10_separate 4 = .ok (.aload_n 0, 1) := by decide +kernel
theorem dX10_separate_5 : decode cX10_separate 5 = .ok (.aload_n 0, 1) := by decide +kernel
theorem dX10_separate_6 : decode cX10_separate 6 = .ok (.getfield 19, 3) := by decide +kernel
theorem mw_182 : Cond.fieldLink RX10 19 "TypedTables$Writer" "dialect" "[I" ∈ wsL_law := lrk_8 _ (List.mem_of_getElem? (i := 14) rfl)
theorem dX10_separate_9 : decode cX10_separate 9 = .ok (.iconst 0, 1) := by decide +kernel
theorem dX10_separate_10 : decode cX10_separate 10 = .ok (.iaload, 1) := by decide +kernel
theorem dX10_separate_11 : decode cX10_separate 11 = .ok (.invokevirtual 68, 3) := by decide +kernel
theorem dX10_writeQuoted_0 : decode cX10_writeQuoted 0 = .ok (.aload_n 0, 1) := by decide +kernel
theorem dX10_writeQuoted_1 : decode cX10_writeQuoted 1 = .ok (.aload_n 0, 1) := by decide +kernel
theorem dX10_writeQuoted_2 : decode cX10_writeQuoted 2 = .ok (.getfield 19, 3) := by decide +kernel
theorem dX10_writeQuoted_5 : decode cX10_writeQuoted 5 = .ok (.iconst 1, 1) := by decide +kernel
theorem dX10_writeQuoted_6 : decode cX10_writeQuoted 6 = .ok (.iaload, 1) := by decide +kernel
theorem dX10_writeQuoted_7 : decode cX10_writeQuoted 7 = .ok (.invokevirtual 68, 3) := by decide +kernel
theorem dX10_writeQuoted_10 : decode cX10_writeQuoted 10 = .ok (.iconst 0, 1) := by decide +kernel
theorem dX10_writeQuoted_11 : decode cX10_writeQuoted 11 = .ok (.istore_n 2, 1) := by decide +kernel
theorem dX10_writeQuoted_12 : decode cX10_writeQuoted 12 = .ok (.iload_n 2, 1) := by decide +kernel
theorem dX10_writeQuoted_13 : decode cX10_writeQuoted 13 = .ok (.aload_n 1, 1) := by decide +kernel
theorem dX10_writeQuoted_14 : decode cX10_writeQuoted 14 = .ok (.arraylength, 1) := by decide +kernel
theorem dX10_writeQuoted_15 : decode cX10_writeQuoted 15 = .ok (.if_icmp .ge 38, 3) := by decide +kernel
theorem dX10_writeQuoted_53 : decode cX10_writeQuoted 53 = .ok (.aload_n 0, 1) := by decide +kernel
theorem dX10_writeQuoted_54 : decode cX10_writeQuoted 54 = .ok (.aload_n 0, 1) := by decide +kernel
theorem dX10_writeQuoted_55 : decode cX10_writeQuoted 55 = .ok (.getfield 19, 3) := by decide +kernel
theorem dX10_writeQuoted_58 : decode cX10_writeQuoted 58 = .ok (.iconst 1, 1) := by decide +kernel
theorem dX10_writeQuoted_59 : decode cX10_writeQuoted 59 = .ok (.iaload, 1) := by decide +kernel
theorem dX10_writeQuoted_60 : decode cX10_writeQuoted 60 = .ok (.invokevirtual 68, 3) := by decide +kernel
theorem dX10_writeQuoted_63 : decode cX10_writeQuoted 63 = .ok (.return_, 1) := by decide +kernel
theorem dX10_writeQuoted_18 : decode cX10_writeQuoted 18 = .ok (.aload_n 1, 1) := by decide +kernel
theorem dX10_writeQuoted_19 : decode cX10_writeQuoted 19 = .ok (.iload_n 2, 1) := by decide +kernel
theorem dX10_writeQuoted_20 : decode cX10_writeQuoted 20 = .ok (.baload, 1) := by decide +kernel
theorem dX10_writeQuoted_21 : decode cX10_writeQuoted 21 = .ok (.aload_n 0, 1) := by decide +kernel
theorem dX10_writeQuoted_22 : decode cX10_writeQuoted 22 = .ok (.getfield 19, 3) := by decide +kernel
theorem dX10_writeQuoted_25 : decode cX10_writeQuoted 25 = .ok (.iconst 1, 1) := by decide +kernel
theorem dX10_writeQuoted_26 : decode cX10_writeQuoted 26 = .ok (.iaload, 1) := by decide +kernel
theorem dX10_writeQuoted_27 : decode cX10_writeQuoted 27 = .ok (.if_icmp .ne 13, 3) := by decide +kernel
theorem dX10_writeQuoted_40 : decode cX10_writeQuoted 40 = .ok (.aload_n 0, 1) := by decide +kernel
theorem dX10_writeQuoted_41 : decode cX10_writeQuoted 41 = .ok (.aload_n 1, 1) := by decide +kernel
theorem dX10_writeQuoted_42 : decode cX10_writeQuoted 42 = .ok (.iload_n 2, 1) := by decide +kernel
theorem dX10_writeQuoted_43 : decode cX10_writeQuoted 43 = .ok (.baload, 1) := by decide +kernel
theorem dX10_writeQuoted_44 : decode cX10_writeQuoted 44 = .ok (.invokevirtual 68, 3) := by decide +kernel
theorem dX10_writeQuoted_47 : decode cX10_writeQuoted 47 = .ok (.iinc 2 1, 3) := by decide +kernel
theorem dX10_writeQuoted_50 : decode cX10_writeQuoted 50 = .ok (.goto (-38), 3) := by decide +kernel
theorem dX10_writeQuoted_30 : decode cX10_writeQuoted 30 = .ok (.aload_n 0, 1) := by decide +kernel
theorem dX10_writeQuoted_31 : decode cX10_writeQuoted 31 = .ok (.aload_n 0, 1) := by decide +kernel
theorem dX10_writeQuoted_32 : decode cX10_writeQuoted 32 = .ok (.getfield 19, 3) := by decide +kernel
theorem dX10_writeQuoted_35 : decode cX10_writeQuoted 35 = .ok (.iconst 1, 1) := by decide +kernel
theorem dX10_writeQuoted_36 : decode cX10_writeQuoted 36 = .ok (.iaload, 1) := by decide +kernel
theorem dX10_writeQuoted_37 : decode cX10_writeQuoted 37 = .ok (.invokevirtual 68, 3) := by decide +kernel
theorem dX10_closeLine_0 : decode cX10_closeLine 0 = .ok (.aload_n 0, 1) := by decide +kernel
theorem dX10_closeLine_1 : decode cX10_closeLine 1 = .ok (.bipush 10, 2) := by decide +kernel
theorem dX10_closeLine_3 : decode cX10_closeLine 3 = .ok (.invokevirtual 68, 3) := by decide +kernel
theorem dX10_closeLine_6 : decode cX10_closeLine 6 = .ok (.aload_n 0, 1) := by decide +kernel
theorem dX10_closeLine_7 : decode cX10_closeLine 7 = .ok (.getfield 15, 3) := by decide +kernel
theorem dX10_closeLine_10 : decode cX10_closeLine 10 = .ok (.sipush 6000, 3) := by decide +kernel
theorem dX10_closeLine_13 : decode cX10_closeLine 13 = .ok (.if_icmp .le 10, 3) := by decide +kernel
theorem dX10_closeLine_23 : decode cX10_closeLine 23 = .ok (.iconst 1, 1) := by decide +kernel
theorem dX10_closeLine_24 : decode cX10_closeLine 24 = .ok (.ireturn, 1) := by decide +kernel
theorem dX10_closeLine_16 : decode cX10_closeLine 16 = .ok (.aload_n 0, 1) := by decide +kernel
theorem dX10_closeLine_17 : decode cX10_closeLine 17 = .ok (.iload_n 1, 1) := by decide +kernel
theorem dX10_closeLine_18 : decode cX10_closeLine 18 = .ok (.putfield 15, 3) := by decide +kernel
theorem dX10_closeLine_21 : decode cX10_closeLine 21 = .ok (.iconst 0, 1) := by decide +kernel
theorem dX10_closeLine_22 : decode cX10_closeLine 22 = .ok (.ireturn, 1) := by decide +kernel
theorem dX10_needsQuotes_0 : decode cX10_needsQuotes 0 = .ok (.aload_n 1, 1) := by decide +kernel
theorem dX10_needsQuotes_1 : decode cX10_needsQuotes 1 = .ok (.getfield 62, 3) := by decide +kernel
theorem mw_1231 : Cond.fieldLink RX10 62 "TypedTables$Cell" "bytes" "[B" ∈ wsL_law := lrk_52 _ (List.mem_of_getElem? (i := 7) rfl)
theorem dX10_needsQuotes_4 : decode cX10_needsQuotes 4 = .ok (.astore 4, 2) := by decide +kernel
theorem dX10_needsQuotes_6 : decode cX10_needsQuotes 6 = .ok (.aload 4, 2) := by decide +kernel
theorem dX10_needsQuotes_8 : decode cX10_needsQuotes 8 = .ok (.arraylength, 1) := by decide +kernel
theorem dX10_needsQuotes_9 : decode cX10_needsQuotes 9 = .ok (.ifCond .ne 14, 3) := by decide +kernel
theorem dX10_needsQuotes_23 : decode cX10_needsQuotes 23 = .ok (.aload_n 0, 1) := by decide +kernel
theorem dX10_needsQuotes_24 : decode cX10_needsQuotes 24 = .ok (.getfield 19, 3) := by decide +kernel
theorem dX10_needsQuotes_27 : decode cX10_needsQuotes 27 = .ok (.iconst 3, 1) := by decide +kernel
theorem dX10_needsQuotes_28 : decode cX10_needsQuotes 28 = .ok (.iaload, 1) := by decide +kernel
theorem dX10_needsQuotes_29 : decode cX10_needsQuotes 29 = .ok (.iconst 1, 1) := by decide +kernel
theorem dX10_needsQuotes_30 : decode cX10_needsQuotes 30 = .ok (.if_icmp .ne 27, 3) := by decide +kernel
theorem dX10_needsQuotes_57 : decode cX10_needsQuotes 57 = .ok (.iload_n 2, 1) := by decide +kernel
theorem dX10_needsQuotes_58 : decode cX10_needsQuotes 58 = .ok (.ifCond .ne 18, 3) := by decide +kernel
theorem dX10_needsQuotes_76 : decode cX10_needsQuotes 76 = .ok (.iconst 0, 1) := by decide +kernel
theorem dX10_needsQuotes_77 : decode cX10_needsQuotes 77 = .ok (.istore 5, 2) := by decide +kernel
theorem dX10_needsQuotes_79 : decode cX10_needsQuotes 79 = .ok (.iload 5, 2) := by decide +kernel
theorem dX10_needsQuotes_81 : decode cX10_needsQuotes 81 = .ok (.aload 4, 2) := by decide +kernel
theorem dX10_needsQuotes_83 : decode cX10_needsQuotes 83 = .ok (.arraylength, 1) := by decide +kernel
theorem dX10_needsQuotes_84 : decode cX10_needsQuotes 84 = .ok (.if_icmp .ge 49, 3) := by decide +kernel
theorem dX10_needsQuotes_133 : decode cX10_needsQuotes 133 = .ok (.iconst 0, 1) := by decide +kernel
theorem dX10_needsQuotes_134 : decode cX10_needsQuotes 134 = .ok (.ireturn, 1) := by decide +kernel
theorem dX10_needsQuotes_87 : decode cX10_needsQuotes 87 = .ok (.aload 4, 2) := by decide +kernel
theorem dX10_needsQuotes_89 : decode cX10_needsQuotes 89 = .ok (.iload 5, 2) := by decide +kernel
theorem dX10_needsQuotes_91 : decode cX10_needsQuotes 91 = .ok (.baload, 1) := by decide +kernel
theorem dX10_needsQuotes_92 : decode cX10_needsQuotes 92 = .ok (.aload_n 0, 1) := by decide +kernel
theorem dX10_needsQuotes_93 : decode cX10_needsQuotes 93 = .ok (.getfield 19, 3) := by decide +kernel
theorem dX10_needsQuotes_96 : decode cX10_needsQuotes 96 = .ok (.iconst 0, 1) := by decide +kernel
theorem dX10_needsQuotes_97 : decode cX10_needsQuotes 97 = .ok (.iaload, 1) := by decide +kernel
theorem dX10_needsQuotes_98 : decode cX10_needsQuotes 98 = .ok (.if_icmp .eq 27, 3) := by decide +kernel
theorem dX10_needsQuotes_125 : decode cX10_needsQuotes 125 = .ok (.iconst 1, 1) := by decide +kernel
theorem dX10_needsQuotes_126 : decode cX10_needsQuotes 126 = .ok (.ireturn, 1) := by decide +kernel
theorem dX10_needsQuotes_101 : decode cX10_needsQuotes 101 = .ok (.aload 4, 2) := by decide +kernel
theorem dX10_needsQuotes_103 : decode cX10_needsQuotes 103 = .ok (.iload 5, 2) := by decide +kernel
theorem dX10_needsQuotes_105 : decode cX10_needsQuotes 105 = .ok (.baload, 1) := by decide +kernel
theorem dX10_needsQuotes_106 : decode cX10_needsQuotes 106 = .ok (.aload_n 0, 1) := by decide +kernel
theorem dX10_needsQuotes_107 : decode cX10_needsQuotes 107 = .ok (.getfield 19, 3) := by decide +kernel
theorem dX10_needsQuotes_110 : decode cX10_needsQuotes 110 = .ok (.iconst 1, 1) := by decide +kernel
theorem dX10_needsQuotes_111 : decode cX10_needsQuotes 111 = .ok (.iaload, 1) := by decide +kernel
theorem dX10_needsQuotes_112 : decode cX10_needsQuotes 112 = .ok (.if_icmp .eq 13, 3) := by decide +kernel
theorem dX10_needsQuotes_115 : decode cX10_needsQuotes 115 = .ok (.aload 4, 2) := by decide +kernel
theorem dX10_needsQuotes_117 : decode cX10_needsQuotes 117 = .ok (.iload 5, 2) := by decide +kernel
theorem dX10_needsQuotes_119 : decode cX10_needsQuotes 119 = .ok (.baload, 1) := by decide +kernel
theorem dX10_needsQuotes_120 : decode cX10_needsQuotes 120 = .ok (.bipush 10, 2) := by decide +kernel
theorem dX10_needsQuotes_122 : decode cX10_needsQuotes 122 = .ok (.if_icmp .ne 5, 3) := by decide +kernel
theorem dX10_needsQuotes_127 : decode cX10_needsQuotes 127 = .ok (.iinc 5 1, 3) := by decide +kernel
theorem dX10_needsQuotes_130 : decode cX10_needsQuotes 130 = .ok (.goto (-51), 3) := by decide +kernel
theorem dX10_needsQuotes_61 : decode cX10_needsQuotes 61 = .ok (.aload 4, 2) := by decide +kernel
theorem dX10_needsQuotes_63 : decode cX10_needsQuotes 63 = .ok (.iconst 0, 1) := by decide +kernel
theorem dX10_needsQuotes_64 : decode cX10_needsQuotes 64 = .ok (.baload, 1) := by decide +kernel
theorem dX10_needsQuotes_65 : decode cX10_needsQuotes 65 = .ok (.aload_n 0, 1) := by decide +kernel
theorem dX10_needsQuotes_66 : decode cX10_needsQuotes 66 = .ok (.getfield 19, 3) := by decide +kernel
theorem dX10_needsQuotes_69 : decode cX10_needsQuotes 69 = .ok (.iconst 5, 1) := by decide +kernel
theorem dX10_needsQuotes_70 : decode cX10_needsQuotes 70 = .ok (.iaload, 1) := by decide +kernel
theorem dX10_needsQuotes_71 : decode cX10_needsQuotes 71 = .ok (.if_icmp .ne 5, 3) := by decide +kernel
theorem dX10_needsQuotes_74 : decode cX10_needsQuotes 74 = .ok (.iconst 1, 1) := by decide +kernel
theorem dX10_needsQuotes_75 : decode cX10_needsQuotes 75 = .ok (.ireturn, 1) := by decide +kernel
theorem dX10_needsQuotes_33 : decode cX10_needsQuotes 33 = .ok (.aload 4, 2) := by decide +kernel
theorem dX10_needsQuotes_35 : decode cX10_needsQuotes 35 = .ok (.iconst 0, 1) := by decide +kernel
theorem dX10_needsQuotes_36 : decode cX10_needsQuotes 36 = .ok (.baload, 1) := by decide +kernel
theorem dX10_needsQuotes_37 : decode cX10_needsQuotes 37 = .ok (.bipush 32, 2) := by decide +kernel
theorem dX10_needsQuotes_39 : decode cX10_needsQuotes 39 = .ok (.if_icmp .eq 16, 3) := by decide +kernel
theorem dX10_needsQuotes_55 : decode cX10_needsQuotes 55 = .ok (.iconst 1, 1) := by decide +kernel
theorem dX10_needsQuotes_56 : decode cX10_needsQuotes 56 = .ok (.ireturn, 1) := by decide +kernel
theorem dX10_needsQuotes_42 : decode cX10_needsQuotes 42 = .ok (.aload 4, 2) := by decide +kernel
theorem dX10_needsQuotes_44 : decode cX10_needsQuotes 44 = .ok (.aload 4, 2) := by decide +kernel
theorem dX10_needsQuotes_46 : decode cX10_needsQuotes 46 = .ok (.arraylength, 1) := by decide +kernel
theorem dX10_needsQuotes_47 : decode cX10_needsQuotes 47 = .ok (.iconst 1, 1) := by decide +kernel
theorem dX10_needsQuotes_48 : decode cX10_needsQuotes 48 = .ok (.isub, 1) := by decide +kernel
theorem dX10_needsQuotes_49 : decode cX10_needsQuotes 49 = .ok (.baload, 1) := by decide +kernel
theorem dX10_needsQuotes_50 : decode cX10_needsQuotes 50 = .ok (.bipush 32, 2) := by decide +kernel
theorem dX10_needsQuotes_52 : decode cX10_needsQuotes 52 = .ok (.if_icmp .ne 5, 3) := by decide +kernel
theorem dX10_needsQuotes_12 : decode cX10_needsQuotes 12 = .ok (.iload_n 3, 1) := by decide +kernel
theorem dX10_needsQuotes_13 : decode cX10_needsQuotes 13 = .ok (.iconst 1, 1) := by decide +kernel
theorem dX10_needsQuotes_14 : decode cX10_needsQuotes 14 = .ok (.if_icmp .ne 7, 3) := by decide +kernel
theorem dX10_needsQuotes_21 : decode cX10_needsQuotes 21 = .ok (.iconst 0, 1) := by decide +kernel
theorem dX10_needsQuotes_22 : decode cX10_needsQuotes 22 = .ok (.ireturn, 1) := by decide +kernel
theorem dX10_needsQuotes_17 : decode cX10_needsQuotes 17 = .ok (.iconst 1, 1) := by decide +kernel
theorem dX10_needsQuotes_18 : decode cX10_needsQuotes 18 = .ok (.goto 4, 3) := by decide +kernel
theorem dX10_writeNames_0 : decode cX10_writeNames 0 = .ok (.aload_n 0, 1) := by decide +kernel
theorem dX10_writeNames_1 : decode cX10_writeNames 1 = .ok (.getfield 15, 3) := by decide +kernel
theorem dX10_writeNames_4 : decode cX10_writeNames 4 = .ok (.istore_n 2, 1) := by decide +kernel
theorem dX10_writeNames_5 : decode cX10_writeNames 5 = .ok (.iconst 0, 1) := by decide +kernel
theorem dX10_writeNames_6 : decode cX10_writeNames 6 = .ok (.istore_n 3, 1) := by decide +kernel
theorem dX10_writeNames_7 : decode cX10_writeNames 7 = .ok (.iload_n 3, 1) := by decide +kernel
theorem dX10_writeNames_8 : decode cX10_writeNames 8 = .ok (.aload_n 1, 1) := by decide +kernel
theorem dX10_writeNames_9 : decode cX10_writeNames 9 = .ok (.arraylength, 1) := by decide +kernel
theorem dX10_writeNames_10 : decode cX10_writeNames 10 = .ok (.if_icmp .ge 24, 3) := by decide +kernel
theorem dX10_writeNames_34 : decode cX10_writeNames 34 = .ok (.aload_n 0, 1) := by decide +kernel
theorem dX10_writeNames_35 : decode cX10_writeNames 35 = .ok (.iload_n 2, 1) := by decide +kernel
theorem dX10_writeNames_36 : decode cX10_writeNames 36 = .ok (.invokevirtual 50, 3) := by decide +kernel
theorem mw_1431 : Cond.code yX10_closeLine cX10_closeLine 2 (some .boolean) ∈ wsL_law := lrk_60 _ (List.mem_of_getElem? (i := 15) rfl)
theorem mw_1428 : Cond.methodLink RX10 50 yX10_closeLine ∈ wsL_law := lrk_60 _ (List.mem_of_getElem? (i := 12) rfl)
theorem mw_1429 : Cond.instanceMethod yX10_closeLine ∈ wsL_law := lrk_60 _ (List.mem_of_getElem? (i := 13) rfl)
theorem mw_1430 : Cond.selects RX10 yX10_closeLine yX10_closeLine ∈ wsL_law := lrk_60 _ (List.mem_of_getElem? (i := 14) rfl)
theorem gV_X10_50 : GoodIn wsL_law (wsV RX10 50 RX10 yX10_closeLine (wl yX10_closeLine cX10_closeLine 2 (some .boolean))) := g_V mw_1428 mw_1429 mw_1430 mw_31 mw_1431
theorem hdV_X10_closeLine : yX10_closeLine.cls = RX10 ∧ okD yX10_closeLine 1 := by decide +kernel
theorem dX10_writeNames_39 : decode cX10_writeNames 39 = .ok (.ireturn, 1) := by decide +kernel
theorem dX10_writeNames_13 : decode cX10_writeNames 13 = .ok (.aload_n 0, 1) := by decide +kernel
theorem dX10_writeNames_14 : decode cX10_writeNames 14 = .ok (.iload_n 3, 1) := by decide +kernel
theorem dX10_writeNames_15 : decode cX10_writeNames 15 = .ok (.invokevirtual 37, 3) := by decide +kernel
theorem mw_1419 : Cond.code yX10_separate cX10_separate 2 none ∈ wsL_law := lrk_60 _ (List.mem_of_getElem? (i := 3) rfl)
theorem mw_1416 : Cond.methodLink RX10 37 yX10_separate ∈ wsL_law := lrk_60 _ (List.mem_of_getElem? (i := 0) rfl)
theorem mw_1417 : Cond.instanceMethod yX10_separate ∈ wsL_law := lrk_60 _ (List.mem_of_getElem? (i := 1) rfl)
theorem mw_1418 : Cond.selects RX10 yX10_separate yX10_separate ∈ wsL_law := lrk_60 _ (List.mem_of_getElem? (i := 2) rfl)
theorem gV_X10_37 : GoodIn wsL_law (wsV RX10 37 RX10 yX10_separate (wl yX10_separate cX10_separate 2 none)) := g_V mw_1416 mw_1417 mw_1418 mw_31 mw_1419
theorem hdV_X10_separate : yX10_separate.cls = RX10 ∧ okD yX10_separate 1 := by decide +kernel
theorem dX10_writeNames_18 : decode cX10_writeNames 18 = .ok (.aload_n 0, 1) := by decide +kernel
theorem dX10_writeNames_19 : decode cX10_writeNames 19 = .ok (.aload_n 1, 1) := by decide +kernel
theorem dX10_writeNames_20 : decode cX10_writeNames 20 = .ok (.iload_n 3, 1) := by decide +kernel
theorem dX10_writeNames_21 : decode cX10_writeNames 21 = .ok (.aaload, 1) := by decide +kernel
theorem dX10_writeNames_22 : decode cX10_writeNames 22 = .ok (.getfield 41, 3) := by decide +kernel
theorem mw_1415 : Cond.fieldLink RX10 41 "TypedTables$Column" "name" "[B" ∈ wsL_law := lrk_59 _ (List.mem_of_getElem? (i := 23) rfl)
theorem dX10_writeNames_25 : decode cX10_writeNames 25 = .ok (.invokevirtual 46, 3) := by decide +kernel
theorem mw_1427 : Cond.code yX10_writeBytes cX10_writeBytes 3 none ∈ wsL_law := lrk_60 _ (List.mem_of_getElem? (i := 11) rfl)
theorem mw_1424 : Cond.methodLink RX10 46 yX10_writeBytes ∈ wsL_law := lrk_60 _ (List.mem_of_getElem? (i := 8) rfl)
theorem mw_1425 : Cond.instanceMethod yX10_writeBytes ∈ wsL_law := lrk_60 _ (List.mem_of_getElem? (i := 9) rfl)
theorem mw_1426 : Cond.selects RX10 yX10_writeBytes yX10_writeBytes ∈ wsL_law := lrk_60 _ (List.mem_of_getElem? (i := 10) rfl)
theorem gV_X10_46 : GoodIn wsL_law (wsV RX10 46 RX10 yX10_writeBytes (wl yX10_writeBytes cX10_writeBytes 3 none)) := g_V mw_1424 mw_1425 mw_1426 mw_31 mw_1427
theorem hdV_X10_writeBytes : yX10_writeBytes.cls = RX10 ∧ okD yX10_writeBytes 1 := by decide +kernel
theorem dX10_writeNames_28 : decode cX10_writeNames 28 = .ok (.iinc 3 1, 3) := by decide +kernel
theorem dX10_writeNames_31 : decode cX10_writeNames 31 = .ok (.goto (-24), 3) := by decide +kernel
theorem dX10_writeRow_0 : decode cX10_writeRow 0 = .ok (.aload_n 0, 1) := by decide +kernel
theorem dX10_writeRow_1 : decode cX10_writeRow 1 = .ok (.getfield 15, 3) := by decide +kernel
theorem dX10_writeRow_4 : decode cX10_writeRow 4 = .ok (.istore_n 3, 1) := by decide +kernel
theorem dX10_writeRow_5 : decode cX10_writeRow 5 = .ok (.aload_n 1, 1) := by decide +kernel
theorem dX10_writeRow_6 : decode cX10_writeRow 6 = .ok (.getfield 23, 3) := by decide +kernel
theorem mw_1410 : Cond.fieldLink RX10 23 "TypedTables$Sheet" "columns" "[LTypedTables$Column;" ∈ wsL_law := lrk_59 _ (List.mem_of_getElem? (i := 18) rfl)
theorem dX10_writeRow_9 : decode cX10_writeRow 9 = .ok (.arraylength, 1) := by decide +kernel
theorem dX10_writeRow_10 : decode cX10_writeRow 10 = .ok (.istore 4, 2) := by decide +kernel
theorem dX10_writeRow_12 : decode cX10_writeRow 12 = .ok (.iconst 0, 1) := by decide +kernel
theorem dX10_writeRow_13 : decode cX10_writeRow 13 = .ok (.istore 5, 2) := by decide +kernel
theorem dX10_writeRow_15 : decode cX10_writeRow 15 = .ok (.iload 5, 2) := by decide +kernel
theorem dX10_writeRow_17 : decode cX10_writeRow 17 = .ok (.iload 4, 2) := by decide +kernel
theorem dX10_writeRow_19 : decode cX10_writeRow 19 = .ok (.if_icmp .ge 58, 3) := by decide +kernel
theorem dX10_writeRow_77 : decode cX10_writeRow 77 = .ok (.aload_n 0, 1) := by decide +kernel
theorem dX10_writeRow_78 : decode cX10_writeRow 78 = .ok (.iload_n 3, 1) := by decide +kernel
theorem dX10_writeRow_79 : decode cX10_writeRow 79 = .ok (.invokevirtual 50, 3) := by decide +kernel
theorem dX10_writeRow_82 : decode cX10_writeRow 82 = .ok (.ireturn, 1) := by decide +kernel
theorem dX10_writeRow_22 : decode cX10_writeRow 22 = .ok (.aload_n 1, 1) := by decide +kernel
theorem dX10_writeRow_23 : decode cX10_writeRow 23 = .ok (.iload_n 2, 1) := by decide +kernel
theorem dX10_writeRow_24 : decode cX10_writeRow 24 = .ok (.iload 5, 2) := by decide +kernel
theorem dX10_writeRow_26 : decode cX10_writeRow 26 = .ok (.invokevirtual 54, 3) := by decide +kernel
theorem mw_1436 : Cond.methodLink RX10 54 yX5_cellOf ∈ wsL_law := lrk_60 _ (List.mem_of_getElem? (i := 20) rfl)
theorem gV_X10_54 : GoodIn wsL_law (wsV RX10 54 RX5 yX5_cellOf (wl yX5_cellOf cX5_cellOf 3 (some (.object "TypedTables$Cell")))) := g_V mw_1436 mw_748 mw_749 mw_377 mw_750
theorem dX10_writeRow_29 : decode cX10_writeRow 29 = .ok (.astore 6, 2) := by decide +kernel
theorem dX10_writeRow_31 : decode cX10_writeRow 31 = .ok (.aload_n 0, 1) := by decide +kernel
theorem dX10_writeRow_32 : decode cX10_writeRow 32 = .ok (.iload 5, 2) := by decide +kernel
theorem dX10_writeRow_34 : decode cX10_writeRow 34 = .ok (.invokevirtual 37, 3) := by decide +kernel
theorem dX10_writeRow_37 : decode cX10_writeRow 37 = .ok (.aload_n 0, 1) := by decide +kernel
theorem dX10_writeRow_38 : decode cX10_writeRow 38 = .ok (.aload 6, 2) := by decide +kernel
theorem dX10_writeRow_40 : decode cX10_writeRow 40 = .ok (.iload 5, 2) := by decide +kernel
theorem dX10_writeRow_42 : decode cX10_writeRow 42 = .ok (.iload 4, 2) := by decide +kernel
theorem dX10_writeRow_44 : decode cX10_writeRow 44 = .ok (.invokevirtual 58, 3) := by decide +kernel
theorem mw_1230 : Cond.code yX10_needsQuotes cX10_needsQuotes 6 (some .boolean) ∈ wsL_law := lrk_52 _ (List.mem_of_getElem? (i := 6) rfl)
theorem mw_1437 : Cond.methodLink RX10 58 yX10_needsQuotes ∈ wsL_law := lrk_60 _ (List.mem_of_getElem? (i := 21) rfl)
theorem mw_1228 : Cond.instanceMethod yX10_needsQuotes ∈ wsL_law := lrk_52 _ (List.mem_of_getElem? (i := 4) rfl)
theorem mw_1229 : Cond.selects RX10 yX10_needsQuotes yX10_needsQuotes ∈ wsL_law := lrk_52 _ (List.mem_of_getElem? (i := 5) rfl)
theorem gV_X10_58 : GoodIn wsL_law (wsV RX10 58 RX10 yX10_needsQuotes (wl yX10_needsQuotes cX10_needsQuotes 6 (some .boolean))) := g_V mw_1437 mw_1228 mw_1229 mw_31 mw_1230
theorem hdV_X10_needsQuotes : yX10_needsQuotes.cls = RX10 ∧ okD yX10_needsQuotes 3 := by decide +kernel
theorem dX10_writeRow_47 : decode cX10_writeRow 47 = .ok (.ifCond .eq 15, 3) := by decide +kernel
theorem dX10_writeRow_50 : decode cX10_writeRow 50 = .ok (.aload_n 0, 1) := by decide +kernel
theorem dX10_writeRow_51 : decode cX10_writeRow 51 = .ok (.aload 6, 2) := by decide +kernel
theorem dX10_writeRow_53 : decode cX10_writeRow 53 = .ok (.getfield 62, 3) := by decide +kernel
theorem dX10_writeRow_56 : decode cX10_writeRow 56 = .ok (.invokevirtual 65, 3) := by decide +kernel
theorem mw_1441 : Cond.code yX10_writeQuoted cX10_writeQuoted 3 none ∈ wsL_law := lrk_61 _ (List.mem_of_getElem? (i := 1) rfl)
theorem mw_1438 : Cond.methodLink RX10 65 yX10_writeQuoted ∈ wsL_law := lrk_60 _ (List.mem_of_getElem? (i := 22) rfl)
theorem mw_1439 : Cond.instanceMethod yX10_writeQuoted ∈ wsL_law := lrk_60 _ (List.mem_of_getElem? (i := 23) rfl)
theorem mw_1440 : Cond.selects RX10 yX10_writeQuoted yX10_writeQuoted ∈ wsL_law := lrk_61 _ (List.mem_of_getElem? (i := 0) rfl)
theorem gV_X10_65 : GoodIn wsL_law (wsV RX10 65 RX10 yX10_writeQuoted (wl yX10_writeQuoted cX10_writeQuoted 3 none)) := g_V mw_1438 mw_1439 mw_1440 mw_31 mw_1441
theorem hdV_X10_writeQuoted : yX10_writeQuoted.cls = RX10 ∧ okD yX10_writeQuoted 1 := by decide +kernel
theorem dX10_writeRow_59 : decode cX10_writeRow 59 = .ok (.goto 12, 3) := by decide +kernel
theorem dX10_writeRow_71 : decode cX10_writeRow 71 = .ok (.iinc 5 1, 3) := by decide +kernel
theorem dX10_writeRow_74 : decode cX10_writeRow 74 = .ok (.goto (-59), 3) := by decide +kernel
theorem dX10_writeRow_62 : decode cX10_writeRow 62 = .ok (.aload_n 0, 1) := by decide +kernel
theorem dX10_writeRow_63 : decode cX10_writeRow 63 = .ok (.aload 6, 2) := by decide +kernel
theorem dX10_writeRow_65 : decode cX10_writeRow 65 = .ok (.getfield 62, 3) := by decide +kernel
theorem dX10_writeRow_68 : decode cX10_writeRow 68 = .ok (.invokevirtual 46, 3) := by decide +kernel
theorem dX10_writeSheet_0 : decode cX10_writeSheet 0 = .ok (.aload_n 0, 1) := by decide +kernel
theorem dX10_writeSheet_1 : decode cX10_writeSheet 1 = .ok (.iconst 0, 1) := by decide +kernel
theorem dX10_writeSheet_2 : decode cX10_writeSheet 2 = .ok (.putfield 15, 3) := by decide +kernel
theorem dX10_writeSheet_5 : decode cX10_writeSheet 5 = .ok (.aload_n 0, 1) := by decide +kernel
theorem dX10_writeSheet_6 : decode cX10_writeSheet 6 = .ok (.getfield 19, 3) := by decide +kernel
theorem dX10_writeSheet_9 : decode cX10_writeSheet 9 = .ok (.iconst 2, 1) := by decide +kernel
theorem dX10_writeSheet_10 : decode cX10_writeSheet 10 = .ok (.iaload, 1) := by decide +kernel
theorem dX10_writeSheet_11 : decode cX10_writeSheet 11 = .ok (.ifCond .eq 14, 3) := by decide +kernel
theorem dX10_writeSheet_25 : decode cX10_writeSheet 25 = .ok (.iconst 1, 1) := by decide +kernel
theorem dX10_writeSheet_26 : decode cX10_writeSheet 26 = .ok (.goto 4, 3) := by decide +kernel
theorem dX10_writeSheet_30 : decode cX10_writeSheet 30 = .ok (.istore_n 3, 1) := by decide +kernel
theorem dX10_writeSheet_31 : decode cX10_writeSheet 31 = .ok (.iconst 0, 1) := by decide +kernel
theorem dX10_writeSheet_32 : decode cX10_writeSheet 32 = .ok (.istore 4, 2) := by decide +kernel
theorem dX10_writeSheet_34 : decode cX10_writeSheet 34 = .ok (.iload_n 3, 1) := by decide +kernel
theorem dX10_writeSheet_35 : decode cX10_writeSheet 35 = .ok (.ifCond .eq 26, 3) := by decide +kernel
theorem dX10_writeSheet_61 : decode cX10_writeSheet 61 = .ok (.return_, 1) := by decide +kernel
theorem dX10_writeSheet_38 : decode cX10_writeSheet 38 = .ok (.iload 4, 2) := by decide +kernel
theorem dX10_writeSheet_40 : decode cX10_writeSheet 40 = .ok (.aload_n 2, 1) := by decide +kernel
theorem dX10_writeSheet_41 : decode cX10_writeSheet 41 = .ok (.arraylength, 1) := by decide +kernel
theorem dX10_writeSheet_42 : decode cX10_writeSheet 42 = .ok (.if_icmp .ge 19, 3) := by decide +kernel
theorem dX10_writeSheet_45 : decode cX10_writeSheet 45 = .ok (.aload_n 0, 1) := by decide +kernel
theorem dX10_writeSheet_46 : decode cX10_writeSheet 46 = .ok (.aload_n 1, 1) := by decide +kernel
theorem dX10_writeSheet_47 : decode cX10_writeSheet 47 = .ok (.aload_n 2, 1) := by decide +kernel
theorem dX10_writeSheet_48 : decode cX10_writeSheet 48 = .ok (.iload 4, 2) := by decide +kernel
theorem dX10_writeSheet_50 : decode cX10_writeSheet 50 = .ok (.iaload, 1) := by decide +kernel
theorem dX10_writeSheet_51 : decode cX10_writeSheet 51 = .ok (.invokevirtual 33, 3) := by decide +kernel
theorem mw_1435 : Cond.code yX10_writeRow cX10_writeRow 7 (some .boolean) ∈ wsL_law := lrk_60 _ (List.mem_of_getElem? (i := 19) rfl)
theorem mw_1432 : Cond.methodLink RX10 33 yX10_writeRow ∈ wsL_law := lrk_60 _ (List.mem_of_getElem? (i := 16) rfl)
theorem mw_1433 : Cond.instanceMethod yX10_writeRow ∈ wsL_law := lrk_60 _ (List.mem_of_getElem? (i := 17) rfl)
theorem mw_1434 : Cond.selects RX10 yX10_writeRow yX10_writeRow ∈ wsL_law := lrk_60 _ (List.mem_of_getElem? (i := 18) rfl)
theorem gV_X10_33 : GoodIn wsL_law (wsV RX10 33 RX10 yX10_writeRow (wl yX10_writeRow cX10_writeRow 7 (some .boolean))) := g_V mw_1432 mw_1433 mw_1434 mw_31 mw_1435
theorem hdV_X10_writeRow : yX10_writeRow.cls = RX10 ∧ okD yX10_writeRow 2 := by decide +kernel
theorem dX10_writeSheet_54 : decode cX10_writeSheet 54 = .ok (.istore_n 3, 1) := by decide +kernel
theorem dX10_writeSheet_55 : decode cX10_writeSheet 55 = .ok (.iinc 4 1, 3) := by decide +kernel
theorem dX10_writeSheet_58 : decode cX10_writeSheet 58 = .ok (.goto (-24), 3) := by decide +kernel
theorem dX10_writeSheet_14 : decode cX10_writeSheet 14 = .ok (.aload_n 0, 1) := by decide +kernel
theorem dX10_writeSheet_15 : decode cX10_writeSheet 15 = .ok (.aload_n 1, 1) := by decide +kernel
theorem dX10_writeSheet_16 : decode cX10_writeSheet 16 = .ok (.getfield 23, 3) := by decide +kernel
theorem dX10_writeSheet_19 : decode cX10_writeSheet 19 = .ok (.invokevirtual 29, 3) := by decide +kernel
theorem mw_1414 : Cond.code yX10_writeNames cX10_writeNames 4 (some .boolean) ∈ wsL_law := lrk_59 _ (List.mem_of_getElem? (i := 22) rfl)
theorem mw_1411 : Cond.methodLink RX10 29 yX10_writeNames ∈ wsL_law := lrk_59 _ (List.mem_of_getElem? (i := 19) rfl)
theorem mw_1412 : Cond.instanceMethod yX10_writeNames ∈ wsL_law := lrk_59 _ (List.mem_of_getElem? (i := 20) rfl)
theorem mw_1413 : Cond.selects RX10 yX10_writeNames yX10_writeNames ∈ wsL_law := lrk_59 _ (List.mem_of_getElem? (i := 21) rfl)
theorem gV_X10_29 : GoodIn wsL_law (wsV RX10 29 RX10 yX10_writeNames (wl yX10_writeNames cX10_writeNames 4 (some .boolean))) := g_V mw_1411 mw_1412 mw_1413 mw_31 mw_1414
theorem hdV_X10_writeNames : yX10_writeNames.cls = RX10 ∧ okD yX10_writeNames 1 := by decide +kernel
theorem dX10_writeSheet_22 : decode cX10_writeSheet 22 = .ok (.ifCond .eq 7, 3) := by decide +kernel
theorem dX10_writeSheet_29 : decode cX10_writeSheet 29 = .ok (.iconst 0, 1) := by decide +kernel
set_option maxHeartbeats 4000000 in
set_option maxRecDepth 100000 in
theorem c_X0_init (l : Launch) (D : va_G) (κ : Nat → ClassId) (κq : Nat → Nat) (im : va_W) (a : Nat) (b : Nat) (n : Nat) (hby : By κ im b n) : Et l yX0_init (wl yX0_init cX0_init 2 none) { frames := 6, cells := 0, slots := 0, locals := 127 } D κ κq [.ref a, .ref b] ([(a, .inr (0, [.null, .int 0, .long 0]))] ++ im) (fun u9 : Nat × va_W => none) (fun u9 : Nat × va_W => Sb im u9.2 ∧ Cl κ u9.2 a u9.1 n) (fun u9 : Nat × va_W => ([] ++ u9.2)) := by
  refine et_of (by decide +kernel) (Nat.le_of_ble_eq_true rfl) ?_
  intro p e s m args below meth c A ls hx hb hr hml hts hown hlk hin hKK hK hA hP hD hS hE hl
  have hS : va_S A s.heap s.heap [] := hS
  have hP : va_P D vwCl ([(a, .inr (0, [.null, .int 0, .long 0]))] ++ im) s.heap := hP
  have hD : va_D A ([(a, .inr (0, [.null, .int 0, .long 0]))] ++ im) := hD
  have hFX : FX p s m args c cX0_init 2 RX0 := ⟨hx, hb, hml, hown, hts⟩
  have hl : lv_has ls 2 [(0, .ref a), (1, .ref b)] := hl
  refine lv_aload_n hx hb dX0_init_0 rfl (lv_at hl 0 rfl) ?_
  refine W.objInit hx hb hown (hts _ mw_87) (hts _ mw_10) (hts _ mw_11) rfl (by rw [hml]; exact hl.1) rfl dX0_init_1 (Nat.le_of_ble_eq_true rfl) (Nat.le_of_ble_eq_true rfl) ?_
  refine W.eq (g2 := F0 m 4 ls []) rfl ?_
  refine lv_aload_n hx hb dX0_init_4 rfl (lv_at hl 0 rfl) ?_
  refine lv_aload_n hx hb dX0_init_5 rfl (lv_at hl 1 rfl) ?_
  refine va_putF (D := D) (ci := 0) (v := .ref b) (ty := tyX0 0) (C := RX0) (T := TX0) (N := 3) hx hb hts inlX0 tyX0 tyX0_ok nmX0 hown hK hP hD hS 0 rfl rfl 0 (by decide) (hts _ mw_88) (fun _ h9 => h9) rfl hin rfl (tyX0_ok 0 (by decide)) rfl rfl (Nat.le_of_ble_eq_true rfl) dX0_init_6 (fun H locs hP hD hS => ?_)
  have hP : va_P D vwCl ([(a, .inr (0, [.ref b, .int 0, .long 0]))] ++ im) H := hP
  have hD : va_D A ([(a, .inr (0, [.ref b, .int 0, .long 0]))] ++ im) := hD
  refine lv_aload_n hx hb dX0_init_9 rfl (lv_at hl 0 rfl) ?_
  refine lv_aload_n hx hb dX0_init_10 rfl (lv_at hl 1 rfl) ?_
  obtain ⟨hn_2, f_1, hm_3, hfit_4⟩ := id hby
  refine er_S (As := [.ref b]) (rest := [.ref a]) hFX hKK hE hS (c_X0_kindOf l D κ κq b n f_1 (by omega)) 1 gS_X0_15 hdS_X0_kindOf rfl rfl ⟨Nat.le_of_ble_eq_true rfl, Nat.le_of_ble_eq_true rfl⟩ rfl rfl (Nat.le_of_ble_eq_true rfl) dX0_init_11 ⟨Nat.le_of_ble_eq_true rfl, Nat.le_of_ble_eq_true rfl⟩ hl.1 (oneP (C := [(a, .inr (0, [.ref b, .int 0, .long 0]))]) hP hm_3) (fun k__5 hp_6 => ?_)
  replace hp_6 : k__5 ≤ 5 ∧ (k__5 = 0 ∨ 1 ≤ n) ∧ (k__5 = 4 → n = 10 ∧ (∃ mth : Nat, (1 ≤ mth ∧ mth ≤ 12) ∧ dgF f_1 0 5 2 = nI mth)) := hp_6
  obtain ⟨h_7, h_8, h_9⟩ := hp_6
  refine W.eq (g2 := F0 m 14 ls [.int (nI k__5), .ref a]) rfl ?_
  refine va_putF (D := D) (ci := 0) (v := .int (nI k__5)) (ty := tyX0 1) (C := RX0) (T := TX0) (N := 3) hx hb hts inlX0 tyX0 tyX0_ok nmX0 hown hK hP hD hS 0 rfl rfl 1 (by decide) (hts _ mw_89) (fun _ h9 => h9) rfl hin rfl (tyX0_ok 1 (by decide)) rfl rfl (Nat.le_of_ble_eq_true rfl) dX0_init_14 (fun H locs hP hD hS => ?_)
  have hP : va_P D vwCl ([(a, .inr (0, [.ref b, .int (nI k__5), .long 0]))] ++ im) H := hP
  have hD : va_D A ([(a, .inr (0, [.ref b, .int (nI k__5), .long 0]))] ++ im) := hD
  refine lv_aload_n hx hb dX0_init_17 rfl (lv_at hl 0 rfl) ?_
  refine lv_aload_n hx hb dX0_init_18 rfl (lv_at hl 1 rfl) ?_
  refine lv_aload_n hx hb dX0_init_19 rfl (lv_at hl 0 rfl) ?_
  refine va_get (D := D) (ci := 0) (v := .int (nI k__5)) (C := RX0) (T := TX0) (N := 3) hx hb hts inlX0 hown hK hP 0 rfl rfl 1 (by decide) (hts _ mw_89) (fun _ h9 => h9) rfl dX0_init_20 ?_
  refine er_S (As := [.ref b, .int (nI k__5)]) (rest := [.ref a]) hFX hKK hE hS (c_X0_numberOf l D κ κq b n f_1 k__5 (by omega) (by omega) (by omega) (by assumption)) 2 gS_X0_23 hdS_X0_numberOf rfl rfl ⟨Nat.le_of_ble_eq_true rfl, Nat.le_of_ble_eq_true rfl⟩ rfl rfl (Nat.le_of_ble_eq_true rfl) dX0_init_23 ⟨Nat.le_of_ble_eq_true rfl, Nat.le_of_ble_eq_true rfl⟩ hl.1 (oneP (C := [(a, .inr (0, [.ref b, .int (nI k__5), .long 0]))]) hP hm_3) (fun r__10 hp_11 => ?_)
  refine W.eq (g2 := F0 m 26 ls [.long r__10, .ref a]) rfl ?_
  refine va_putF (D := D) (ci := 0) (v := .long r__10) (ty := tyX0 2) (C := RX0) (T := TX0) (N := 3) hx hb hts inlX0 tyX0 tyX0_ok nmX0 hown hK hP hD hS 0 rfl rfl 2 (by decide) (hts _ mw_90) (fun _ h9 => h9) rfl hin rfl (tyX0_ok 2 (by decide)) rfl rfl (Nat.le_of_ble_eq_true rfl) dX0_init_26 (fun H locs hP hD hS => ?_)
  have hP : va_P D vwCl ([(a, .inr (0, [.ref b, .int (nI k__5), .long r__10]))] ++ im) H := hP
  have hD : va_D A ([(a, .inr (0, [.ref b, .int (nI k__5), .long r__10]))] ++ im) := hD
  replace hP : va_P D vwCl ([(a, .inr (0, [.ref b, .int (nI k__5), .long r__10]))] ++ im) _ := subP hP [0] rfl
  replace hD : va_D A ([(a, .inr (0, [.ref b, .int (nI k__5), .long r__10]))] ++ im) := subD hD [0] (by decide) rfl
  obtain ⟨im_12, he_13⟩ : ∃ x9 : va_W, x9 = ([(a, .inr (0, [.ref b, .int (nI k__5), .long r__10]))] ++ im) := ⟨_, rfl⟩
  have hs_14 : Sb im im_12 := by rw [he_13]; exact Sb.app
  have hm_a : (a, .inr (0, [.ref b, .int (nI k__5), .long r__10])) ∈ im_12 := by rw [he_13]; exact List.mem_of_getElem? (i := 0) rfl
  replace hP : va_P D vwCl ([] ++ ([(a, .inr (0, [.ref b, .int (nI k__5), .long r__10]))] ++ im)) _ := hP
  replace hD : va_D A ([] ++ ([(a, .inr (0, [.ref b, .int (nI k__5), .long r__10]))] ++ im)) := hD
  rw [← he_13] at hP hD
  clear he_13
  replace hby := hby.up hs_14
  replace hm_3 := hs_14 _ hm_3
  have hf_15 : Cl κ im_12 a k__5 n := ⟨h_7, b, r__10, hm_a, hby⟩
  exact et_vret hx hb hr hlk hS (k__5, im_12) rfl ⟨(show Sb im im_12 from (by first | exact Sb.rf | assumption | exact Sb.tr (by assumption) (by assumption) | exact Sb.tr (by assumption) (Sb.tr (by assumption) (by assumption)))), (show Cl κ im_12 a k__5 n from hf_15)⟩ (subP hP [] rfl) (subD hD [] (by decide) rfl) (Nat.le_of_ble_eq_true rfl) (Nat.le_of_ble_eq_true rfl) dX0_init_29
set_option maxHeartbeats 4000000 in
set_option maxRecDepth 100000 in
theorem c_X8_takeCell (l : Launch) (D : va_G) (κ : Nat → ClassId) (κq : Nat → Nat) (im : va_W) (tp : Nat) (tb : Nat) (L : Nat) (tf : Nat → Int32) (hL : L ≤ 800) : Et l yX8_takeCell (wl yX8_takeCell cX8_takeCell 2 (some (.object "TypedTables$Cell"))) { frames := 7, cells := 2, slots := 23, locals := 148 } D κ κq [.ref tp] ([(tp, .inr (8, [.ref tb, .int (nI L)])), (tb, .inl (κ 0, 800, .inl tf))] ++ im) (fun u9 : Option Nat × va_W => some (va_rf u9.1)) (fun u9 : Option Nat × va_W => Sb im u9.2 ∧ ((u9.1 = none) ∨ (∃ (q : Nat), ∃ (k : Nat), ∃ (n : Nat), u9.1 = some q ∧ Cl κ u9.2 q k n))) (fun u9 : Option Nat × va_W => ([(tp, .inr (8, [.ref tb, .int 0])), (tb, .inl (κ 0, 800, .inl tf))] ++ u9.2)) := by
  refine et_of (by decide +kernel) (Nat.le_of_ble_eq_true rfl) ?_
  intro p e s m args below meth c A ls hx hb hr hml hts hown hlk hin hKK hK hA hP hD hS hE hl
  have hS : va_S A s.heap s.heap [] := hS
  have hP : va_P D vwCl ([(tp, .inr (8, [.ref tb, .int (nI L)])), (tb, .inl (κ 0, 800, .inl tf))] ++ im) s.heap := hP
  have hD : va_D A ([(tp, .inr (8, [.ref tb, .int (nI L)])), (tb, .inl (κ 0, 800, .inl tf))] ++ im) := hD
  have hFX : FX p s m args c cX8_takeCell 2 RX8 := ⟨hx, hb, hml, hown, hts⟩
  have hl : lv_has ls 2 [(0, .ref tp)] := hl
  refine lv_aload_n hx hb dX8_takeCell_0 rfl (lv_at hl 0 rfl) ?_
  refine et_VT (CR := []) (As := []) (rest := []) hFX hKK hE hP hD hS hA (c_X8_takeBytes l D κ κq im tp tb L tf (by omega)) 0 gV_X8_19 hdV_X8_takeBytes ⟨Nat.le_of_ble_eq_true rfl, Nat.le_of_ble_eq_true rfl⟩ rfl rfl (Nat.le_of_ble_eq_true rfl) dX8_takeCell_1 ⟨Nat.le_of_ble_eq_true rfl, Nat.le_of_ble_eq_true rfl⟩ hl.1 [0, 1] [] rfl rfl (by decide) (by decide) (by decide) hP 0 8 rfl rfl rfl (fun u_3 H locs hp_4 hP hD hS => ?_)
  obtain ⟨r__1, im2__2⟩ := u_3
  replace hP : va_P D vwCl ([(tp, .inr (8, [.ref tb, .int 0])), (tb, .inl (κ 0, 800, .inl tf))] ++ im2__2) H := subP (C := [(tp, .inr (8, [.ref tb, .int 0])), (tb, .inl (κ 0, 800, .inl tf))]) hP [0, 1] rfl
  replace hD : va_D A ([(tp, .inr (8, [.ref tb, .int 0])), (tb, .inl (κ 0, 800, .inl tf))] ++ im2__2) := subD (C := [(tp, .inr (8, [.ref tb, .int 0])), (tb, .inl (κ 0, 800, .inl tf))]) hD [0, 1] (by decide) rfl
  replace hp_4 : Sb im im2__2 ∧ ((r__1 = none) ∨ (∃ (q : Nat), ∃ (n : Nat), r__1 = some q ∧ By κ im2__2 q n)) := hp_4
  obtain ⟨h_5, ha_6⟩ := hp_4
  rcases ha_6 with rfl | ⟨q__7, n__8, rfl, a_9⟩
  · refine W.eq (g2 := F0 m 4 ls [.null]) rfl ?_
    refine lv_astore_nN (lv' := [(1, .null), (0, .ref tp)]) hx hb dX8_takeCell_4 rfl hl (by decide) rfl (fun ls hl => ?_)
    refine lv_aload_nN hx hb dX8_takeCell_5 rfl (lv_at hl 0 rfl) ?_
    refine lv_ifnonnullN hx hb dX8_takeCell_6 ?_
    refine lv_null hx hb dX8_takeCell_9 ?_
    refine lv_goto (tgt := 21) hx hb dX8_takeCell_10 (by decide) ?_
    exact et_aret hx hb hr (by first | exact Or.inl ⟨_, rfl⟩ | exact Or.inr ⟨_, rfl⟩) hlk (by first | exact Or.inl rfl | exact Or.inr ⟨_, rfl⟩) hS (none, im2__2) rfl ⟨(show Sb im im2__2 from (by first | exact Sb.rf | assumption | exact Sb.tr (by assumption) (by assumption) | exact Sb.tr (by assumption) (Sb.tr (by assumption) (by assumption)))), (by exact Or.inl (rfl))⟩ (subP hP [0, 1] rfl) (subD hD [0, 1] (by decide) rfl) (Nat.le_of_ble_eq_true rfl) (Nat.le_of_ble_eq_true rfl) dX8_takeCell_21
  · refine W.eq (g2 := F0 m 4 ls [.ref q__7]) rfl ?_
    refine lv_astore_n (lv' := [(1, .ref q__7), (0, .ref tp)]) hx hb dX8_takeCell_4 rfl hl (by decide) rfl (fun ls hl => ?_)
    refine lv_aload_n hx hb dX8_takeCell_5 rfl (lv_at hl 0 rfl) ?_
    refine lv_ifnonnull (tgt := 13) hx hb dX8_takeCell_6 (by decide) ?_
    refine va_new (ci := 0) (fs := [.null, .int 0, .long 0]) (C := RX0) (T := TX0) (N := 3) hx hb hts inlX0 tyX0 tyX0_ok hown (hts _ mw_564) (hts _ mw_67) (hts _ mw_68) hK hP hD hS hA rfl (fun j hj => by rcases (show j = 0 ∨ j = 1 ∨ j = 2 by omega) with rfl | rfl | rfl <;> rfl) (Nat.le_of_ble_eq_true rfl) (Nat.le_of_ble_eq_true rfl) dX8_takeCell_13 (fun q_10 H hP hD hS => ?_)
    replace hP : va_P D vwCl ([(tp, .inr (8, [.ref tb, .int 0])), (tb, .inl (κ 0, 800, .inl tf)), (q_10, .inr (0, [.null, .int 0, .long 0]))] ++ im2__2) H := mvP hP
    replace hD : va_D A ([(tp, .inr (8, [.ref tb, .int 0])), (tb, .inl (κ 0, 800, .inl tf)), (q_10, .inr (0, [.null, .int 0, .long 0]))] ++ im2__2) := mvD hD
    refine lv_dup hx hb dX8_takeCell_16 rfl ?_
    refine lv_aload_n hx hb dX8_takeCell_17 rfl (lv_at hl 0 rfl) ?_
    refine et_IT (CR := [(tp, .inr (8, [.ref tb, .int 0])), (tb, .inl (κ 0, 800, .inl tf))]) (As := [.ref q__7]) (rest := [.ref q_10]) hFX hKK hE hP hD hS hA (c_X0_init l D κ κq im2__2 q_10 q__7 n__8 a_9) 1 mw_570 mw_85 mw_68 mw_86 hdI_X0_init ⟨Nat.le_of_ble_eq_true rfl, Nat.le_of_ble_eq_true rfl⟩ rfl rfl (Nat.le_of_ble_eq_true rfl) dX8_takeCell_18 ⟨Nat.le_of_ble_eq_true rfl, Nat.le_of_ble_eq_true rfl⟩ hl.1 [2] [0, 1] rfl rfl (by decide) (by decide) (by decide) (fun u_13 H locs hp_14 hP hD hS => ?_)
    obtain ⟨k__11, im2__12⟩ := u_13
    replace hP : va_P D vwCl ([(tp, .inr (8, [.ref tb, .int 0])), (tb, .inl (κ 0, 800, .inl tf))] ++ im2__12) H := subP (C := [(tp, .inr (8, [.ref tb, .int 0])), (tb, .inl (κ 0, 800, .inl tf))]) hP [0, 1] rfl
    replace hD : va_D A ([(tp, .inr (8, [.ref tb, .int 0])), (tb, .inl (κ 0, 800, .inl tf))] ++ im2__12) := subD (C := [(tp, .inr (8, [.ref tb, .int 0])), (tb, .inl (κ 0, 800, .inl tf))]) hD [0, 1] (by decide) rfl
    replace hp_14 : Sb im2__2 im2__12 ∧ Cl κ im2__12 q_10 k__11 n__8 := hp_14
    obtain ⟨h_15, h_16⟩ := hp_14
    replace a_9 := a_9.up h_15
    refine W.eq (g2 := F0 m 21 ls [.ref q_10]) rfl ?_
    exact et_aret hx hb hr (by first | exact Or.inl ⟨_, rfl⟩ | exact Or.inr ⟨_, rfl⟩) hlk (by first | exact Or.inl rfl | exact Or.inr ⟨_, rfl⟩) hS ((some q_10), im2__12) rfl ⟨(show Sb im im2__12 from (by first | exact Sb.rf | assumption | exact Sb.tr (by assumption) (by assumption) | exact Sb.tr (by assumption) (Sb.tr (by assumption) (by assumption)))), (by exact Or.inr ((⟨q_10, k__11, n__8, rfl, (show Cl κ im2__12 q_10 k__11 n__8 from h_16)⟩)))⟩ (subP hP [0, 1] rfl) (subD hD [0, 1] (by decide) rfl) (Nat.le_of_ble_eq_true rfl) (Nat.le_of_ble_eq_true rfl) dX8_takeCell_21
set_option maxHeartbeats 4000000 in
set_option maxRecDepth 100000 in
theorem c_X8_takeName (l : Launch) (D : va_G) (κ : Nat → ClassId) (κq : Nat → Nat) (im : va_W) (tp : Nat) (tb : Nat) (L : Nat) (tf : Nat → Int32) (hL : L ≤ 800) : Et l yX8_takeName (wl yX8_takeName cX8_takeName 2 (some (.array .byte))) { frames := 3, cells := 1, slots := 20, locals := 61 } D κ κq [.ref tp] ([(tp, .inr (8, [.ref tb, .int (nI L)])), (tb, .inl (κ 0, 800, .inl tf))] ++ im) (fun u9 : Option Nat × va_W => some (va_rf u9.1)) (fun u9 : Option Nat × va_W => Sb im u9.2 ∧ ((u9.1 = none) ∨ (∃ (q : Nat), ∃ (n : Nat), u9.1 = some q ∧ By κ u9.2 q n ∧ n ≤ 12 ∧ 1 ≤ n))) (fun u9 : Option Nat × va_W => ([(tp, .inr (8, [.ref tb, .int 0])), (tb, .inl (κ 0, 800, .inl tf))] ++ u9.2)) := by
  refine et_of (by decide +kernel) (Nat.le_of_ble_eq_true rfl) ?_
  intro p e s m args below meth c A ls hx hb hr hml hts hown hlk hin hKK hK hA hP hD hS hE hl
  have hS : va_S A s.heap s.heap [] := hS
  have hP : va_P D vwCl ([(tp, .inr (8, [.ref tb, .int (nI L)])), (tb, .inl (κ 0, 800, .inl tf))] ++ im) s.heap := hP
  have hD : va_D A ([(tp, .inr (8, [.ref tb, .int (nI L)])), (tb, .inl (κ 0, 800, .inl tf))] ++ im) := hD
  have hFX : FX p s m args c cX8_takeName 2 RX8 := ⟨hx, hb, hml, hown, hts⟩
  have hl : lv_has ls 2 [(0, .ref tp)] := hl
  refine lv_aload_n hx hb dX8_takeName_0 rfl (lv_at hl 0 rfl) ?_
  refine et_VT (CR := []) (As := []) (rest := []) hFX hKK hE hP hD hS hA (c_X8_takeBytes l D κ κq im tp tb L tf (by omega)) 0 gV_X8_19 hdV_X8_takeBytes ⟨Nat.le_of_ble_eq_true rfl, Nat.le_of_ble_eq_true rfl⟩ rfl rfl (Nat.le_of_ble_eq_true rfl) dX8_takeName_1 ⟨Nat.le_of_ble_eq_true rfl, Nat.le_of_ble_eq_true rfl⟩ hl.1 [0, 1] [] rfl rfl (by decide) (by decide) (by decide) hP 0 8 rfl rfl rfl (fun u_3 H locs hp_4 hP hD hS => ?_)
  obtain ⟨r__1, im2__2⟩ := u_3
  replace hP : va_P D vwCl ([(tp, .inr (8, [.ref tb, .int 0])), (tb, .inl (κ 0, 800, .inl tf))] ++ im2__2) H := subP (C := [(tp, .inr (8, [.ref tb, .int 0])), (tb, .inl (κ 0, 800, .inl tf))]) hP [0, 1] rfl
  replace hD : va_D A ([(tp, .inr (8, [.ref tb, .int 0])), (tb, .inl (κ 0, 800, .inl tf))] ++ im2__2) := subD (C := [(tp, .inr (8, [.ref tb, .int 0])), (tb, .inl (κ 0, 800, .inl tf))]) hD [0, 1] (by decide) rfl
  replace hp_4 : Sb im im2__2 ∧ ((r__1 = none) ∨ (∃ (q : Nat), ∃ (n : Nat), r__1 = some q ∧ By κ im2__2 q n)) := hp_4
  obtain ⟨h_5, ha_6⟩ := hp_4
  rcases ha_6 with rfl | ⟨q__7, n__8, rfl, a_9⟩
  · refine W.eq (g2 := F0 m 4 ls [.null]) rfl ?_
    refine lv_astore_nN (lv' := [(1, .null), (0, .ref tp)]) hx hb dX8_takeName_4 rfl hl (by decide) rfl (fun ls hl => ?_)
    refine lv_aload_nN hx hb dX8_takeName_5 rfl (lv_at hl 0 rfl) ?_
    refine lv_ifnullN (tgt := 16) hx hb dX8_takeName_6 (by decide) ?_
    refine lv_null hx hb dX8_takeName_16 ?_
    refine lv_goto (tgt := 21) hx hb dX8_takeName_17 (by decide) ?_
    exact et_aret hx hb hr (by first | exact Or.inl ⟨_, rfl⟩ | exact Or.inr ⟨_, rfl⟩) hlk (by first | exact Or.inl rfl | exact Or.inr ⟨_, rfl⟩) hS (none, im2__2) rfl ⟨(show Sb im im2__2 from (by first | exact Sb.rf | assumption | exact Sb.tr (by assumption) (by assumption) | exact Sb.tr (by assumption) (Sb.tr (by assumption) (by assumption)))), (by exact Or.inl (rfl))⟩ (subP hP [0, 1] rfl) (subD hD [0, 1] (by decide) rfl) (Nat.le_of_ble_eq_true rfl) (Nat.le_of_ble_eq_true rfl) dX8_takeName_21
  · refine W.eq (g2 := F0 m 4 ls [.ref q__7]) rfl ?_
    refine lv_astore_n (lv' := [(1, .ref q__7), (0, .ref tp)]) hx hb dX8_takeName_4 rfl hl (by decide) rfl (fun ls hl => ?_)
    refine lv_aload_n hx hb dX8_takeName_5 rfl (lv_at hl 0 rfl) ?_
    refine lv_ifnull hx hb dX8_takeName_6 ?_
    refine lv_aload_n hx hb dX8_takeName_9 rfl (lv_at hl 0 rfl) ?_
    obtain ⟨hn_11, f_10, hm_12, hfit_13⟩ := id a_9
    refine er_S (As := [.ref q__7]) (rest := []) hFX hKK hE hS (c_X1_canBeName l D κ κq q__7 n__8 f_10 (by omega)) 1 gS_X8_28 hdS_X1_canBeName rfl rfl ⟨Nat.le_of_ble_eq_true rfl, Nat.le_of_ble_eq_true rfl⟩ rfl rfl (Nat.le_of_ble_eq_true rfl) dX8_takeName_10 ⟨Nat.le_of_ble_eq_true rfl, Nat.le_of_ble_eq_true rfl⟩ hl.1 (oneP (C := [(tp, .inr (8, [.ref tb, .int 0])), (tb, .inl (κ 0, 800, .inl tf))]) hP hm_12) (fun r__14 hp_15 => ?_)
    replace hp_15 : ((r__14 = 1 ∧ n__8 ≤ 12 ∧ 1 ≤ n__8) ∨ (r__14 = 0)) := hp_15
    have ha_16 := hp_15
    clear hp_15
    rcases ha_16 with ⟨rfl, a_17, a_18⟩ | rfl
    · refine W.eq (g2 := F0 m 13 ls [.int 1]) rfl ?_
      refine lv_if_ne (tgt := 20) hx hb dX8_takeName_13 (by decide) (fun c_19 => ?_) (fun c_19 => absurd c_19 (by decide))
      refine lv_aload_n hx hb dX8_takeName_20 rfl (lv_at hl 0 rfl) ?_
      exact et_aret hx hb hr (by first | exact Or.inl ⟨_, rfl⟩ | exact Or.inr ⟨_, rfl⟩) hlk (by first | exact Or.inl rfl | exact Or.inr ⟨_, rfl⟩) hS ((some q__7), im2__2) rfl ⟨(show Sb im im2__2 from (by first | exact Sb.rf | assumption | exact Sb.tr (by assumption) (by assumption) | exact Sb.tr (by assumption) (Sb.tr (by assumption) (by assumption)))), (by exact Or.inr ((⟨q__7, n__8, rfl, (show By κ im2__2 q__7 n__8 from a_9), (show n__8 ≤ 12 from (by first | assumption | omega | rfl | exact Or.inl (by assumption) | exact Or.inr (by assumption))), (show 1 ≤ n__8 from (by first | assumption | omega | rfl | exact Or.inl (by assumption) | exact Or.inr (by assumption)))⟩)))⟩ (subP hP [0, 1] rfl) (subD hD [0, 1] (by decide) rfl) (Nat.le_of_ble_eq_true rfl) (Nat.le_of_ble_eq_true rfl) dX8_takeName_21
    · refine W.eq (g2 := F0 m 13 ls [.int 0]) rfl ?_
      refine lv_if_ne (tgt := 20) hx hb dX8_takeName_13 (by decide) (fun c_20 => absurd c_20 (by decide)) (fun c_20 => ?_)
      refine lv_null hx hb dX8_takeName_16 ?_
      refine lv_goto (tgt := 21) hx hb dX8_takeName_17 (by decide) ?_
      exact et_aret hx hb hr (by first | exact Or.inl ⟨_, rfl⟩ | exact Or.inr ⟨_, rfl⟩) hlk (by first | exact Or.inl rfl | exact Or.inr ⟨_, rfl⟩) hS (none, im2__2) rfl ⟨(show Sb im im2__2 from (by first | exact Sb.rf | assumption | exact Sb.tr (by assumption) (by assumption) | exact Sb.tr (by assumption) (Sb.tr (by assumption) (by assumption)))), (by exact Or.inl (rfl))⟩ (subP hP [0, 1] rfl) (subD hD [0, 1] (by decide) rfl) (Nat.le_of_ble_eq_true rfl) (Nat.le_of_ble_eq_true rfl) dX8_takeName_21
set_option maxHeartbeats 4000000 in
set_option maxRecDepth 100000 in
theorem c_X1_init (l : Launch) (D : va_G) (κ : Nat → ClassId) (κq : Nat → Nat) (im : va_W) (a : Nat) (b : Nat) (n : Nat) (t : Int32) (hby : By κ im b n) (hto : To t) : Et l yX1_init (wl yX1_init cX1_init 3 none) { frames := 1, cells := 0, slots := 0, locals := 12 } D κ κq [.ref a, .ref b, .int t] ([(a, .inr (1, [.null, .int 0]))] ++ im) (fun im2 : va_W => none) (fun im2 : va_W => Sb im im2 ∧ Co κ im2 a n t) (fun im2 : va_W => ([] ++ im2)) := by
  refine et_of (by decide +kernel) (Nat.le_of_ble_eq_true rfl) ?_
  intro p e s m args below meth c A ls hx hb hr hml hts hown hlk hin hKK hK hA hP hD hS hE hl
  have hS : va_S A s.heap s.heap [] := hS
  have hP : va_P D vwCl ([(a, .inr (1, [.null, .int 0]))] ++ im) s.heap := hP
  have hD : va_D A ([(a, .inr (1, [.null, .int 0]))] ++ im) := hD
  have hFX : FX p s m args c cX1_init 3 RX1 := ⟨hx, hb, hml, hown, hts⟩
  have hl : lv_has ls 3 [(0, .ref a), (1, .ref b), (2, .int t)] := hl
  refine lv_aload_n hx hb dX1_init_0 rfl (lv_at hl 0 rfl) ?_
  refine W.objInit hx hb hown (hts _ mw_350) (hts _ mw_10) (hts _ mw_11) rfl (by rw [hml]; exact hl.1) rfl dX1_init_1 (Nat.le_of_ble_eq_true rfl) (Nat.le_of_ble_eq_true rfl) ?_
  refine W.eq (g2 := F0 m 4 ls []) rfl ?_
  refine lv_aload_n hx hb dX1_init_4 rfl (lv_at hl 0 rfl) ?_
  refine lv_aload_n hx hb dX1_init_5 rfl (lv_at hl 1 rfl) ?_
  refine va_putF (D := D) (ci := 1) (v := .ref b) (ty := tyX1 0) (C := RX1) (T := TX1) (N := 2) hx hb hts inlX1 tyX1 tyX1_ok nmX1 hown hK hP hD hS 0 rfl rfl 0 (by decide) (hts _ mw_346) (fun _ h9 => h9) rfl hin rfl (tyX1_ok 0 (by decide)) rfl rfl (Nat.le_of_ble_eq_true rfl) dX1_init_6 (fun H locs hP hD hS => ?_)
  have hP : va_P D vwCl ([(a, .inr (1, [.ref b, .int 0]))] ++ im) H := hP
  have hD : va_D A ([(a, .inr (1, [.ref b, .int 0]))] ++ im) := hD
  refine lv_aload_n hx hb dX1_init_9 rfl (lv_at hl 0 rfl) ?_
  refine lv_iload_n hx hb dX1_init_10 rfl (lv_at hl 2 rfl) ?_
  refine va_putF (D := D) (ci := 1) (v := .int t) (ty := tyX1 1) (C := RX1) (T := TX1) (N := 2) hx hb hts inlX1 tyX1 tyX1_ok nmX1 hown hK hP hD hS 0 rfl rfl 1 (by decide) (hts _ mw_351) (fun _ h9 => h9) rfl hin rfl (tyX1_ok 1 (by decide)) rfl rfl (Nat.le_of_ble_eq_true rfl) dX1_init_11 (fun H locs hP hD hS => ?_)
  have hP : va_P D vwCl ([(a, .inr (1, [.ref b, .int t]))] ++ im) H := hP
  have hD : va_D A ([(a, .inr (1, [.ref b, .int t]))] ++ im) := hD
  replace hP : va_P D vwCl ([(a, .inr (1, [.ref b, .int t]))] ++ im) _ := subP hP [0] rfl
  replace hD : va_D A ([(a, .inr (1, [.ref b, .int t]))] ++ im) := subD hD [0] (by decide) rfl
  obtain ⟨im_1, he_2⟩ : ∃ x9 : va_W, x9 = ([(a, .inr (1, [.ref b, .int t]))] ++ im) := ⟨_, rfl⟩
  have hs_3 : Sb im im_1 := by rw [he_2]; exact Sb.app
  have hm_a : (a, .inr (1, [.ref b, .int t])) ∈ im_1 := by rw [he_2]; exact List.mem_of_getElem? (i := 0) rfl
  replace hP : va_P D vwCl ([] ++ ([(a, .inr (1, [.ref b, .int t]))] ++ im)) _ := hP
  replace hD : va_D A ([] ++ ([(a, .inr (1, [.ref b, .int t]))] ++ im)) := hD
  rw [← he_2] at hP hD
  clear he_2
  replace hby := hby.up hs_3
  have hf_4 : Co κ im_1 a n t := ⟨hto, b, hm_a, hby⟩
  exact et_vret hx hb hr hlk hS im_1 rfl ⟨(show Sb im im_1 from (by first | exact Sb.rf | assumption | exact Sb.tr (by assumption) (by assumption) | exact Sb.tr (by assumption) (Sb.tr (by assumption) (by assumption)))), (show Co κ im_1 a n t from hf_4)⟩ (subP hP [] rfl) (subD hD [] (by decide) rfl) (Nat.le_of_ble_eq_true rfl) (Nat.le_of_ble_eq_true rfl) dX1_init_14
set_option maxHeartbeats 4000000 in
set_option maxRecDepth 100000 in
theorem c_X9_init_0 (l : Launch) (D : va_G) (κ : Nat → ClassId) (κq : Nat → Nat) (im : va_W) (a : Nat) (ra : Nat) (n : Nat) (R : Nat) (hix : Ix κ im ra n R) : Et l yX9_init (wl yX9_init cX9_init 3 none) { frames := 1, cells := 0, slots := 0, locals := 12 } D κ κq [.ref a, .ref ra, .null] ([(a, .inr (9, [.null, .null, .int 0]))] ++ im) (fun im2 : va_W => none) (fun im2 : va_W => Sb im im2 ∧ Vw κ im2 0 a R) (fun im2 : va_W => ([] ++ im2)) := by
  refine et_of (by decide +kernel) (Nat.le_of_ble_eq_true rfl) ?_
  intro p e s m args below meth c A ls hx hb hr hml hts hown hlk hin hKK hK hA hP hD hS hE hl
  have hS : va_S A s.heap s.heap [] := hS
  have hP : va_P D vwCl ([(a, .inr (9, [.null, .null, .int 0]))] ++ im) s.heap := hP
  have hD : va_D A ([(a, .inr (9, [.null, .null, .int 0]))] ++ im) := hD
  have hFX : FX p s m args c cX9_init 3 RX9 := ⟨hx, hb, hml, hown, hts⟩
  have hl : lv_has ls 3 [(0, .ref a), (1, .ref ra), (2, .null)] := hl
  refine lv_aload_n hx hb dX9_init_0 rfl (lv_at hl 0 rfl) ?_
  refine W.objInit hx hb hown (hts _ mw_392) (hts _ mw_10) (hts _ mw_11) rfl (by rw [hml]; exact hl.1) rfl dX9_init_1 (Nat.le_of_ble_eq_true rfl) (Nat.le_of_ble_eq_true rfl) ?_
  refine W.eq (g2 := F0 m 4 ls []) rfl ?_
  refine lv_aload_n hx hb dX9_init_4 rfl (lv_at hl 0 rfl) ?_
  refine lv_aload_n hx hb dX9_init_5 rfl (lv_at hl 1 rfl) ?_
  refine va_putF (D := D) (ci := 9) (v := .ref ra) (ty := tyX9 0) (C := RX9) (T := TX9) (N := 3) hx hb hts inlX9 tyX9 tyX9_ok nmX9 hown hK hP hD hS 0 rfl rfl 0 (by decide) (hts _ mw_393) (fun _ h9 => h9) rfl hin rfl (tyX9_ok 0 (by decide)) rfl rfl (Nat.le_of_ble_eq_true rfl) dX9_init_6 (fun H locs hP hD hS => ?_)
  have hP : va_P D vwCl ([(a, .inr (9, [.ref ra, .null, .int 0]))] ++ im) H := hP
  have hD : va_D A ([(a, .inr (9, [.ref ra, .null, .int 0]))] ++ im) := hD
  refine lv_aload_n hx hb dX9_init_9 rfl (lv_at hl 0 rfl) ?_
  refine lv_aload_nN hx hb dX9_init_10 rfl (lv_at hl 2 rfl) ?_
  refine va_putF (D := D) (ci := 9) (v := .null) (ty := tyX9 1) (C := RX9) (T := TX9) (N := 3) hx hb hts inlX9 tyX9 tyX9_ok nmX9 hown hK hP hD hS 0 rfl rfl 1 (by decide) (hts _ mw_394) (fun _ h9 => h9) rfl hin rfl (tyX9_ok 1 (by decide)) rfl rfl (Nat.le_of_ble_eq_true rfl) dX9_init_11 (fun H locs hP hD hS => ?_)
  have hP : va_P D vwCl ([(a, .inr (9, [.ref ra, .null, .int 0]))] ++ im) H := hP
  have hD : va_D A ([(a, .inr (9, [.ref ra, .null, .int 0]))] ++ im) := hD
  refine lv_aload_n hx hb dX9_init_14 rfl (lv_at hl 0 rfl) ?_
  refine lv_aload_nN hx hb dX9_init_15 rfl (lv_at hl 2 rfl) ?_
  refine lv_ifnonnullN hx hb dX9_init_16 ?_
  refine lv_iconst (v := 0) hx hb dX9_init_19 (by decide) ?_
  refine lv_goto (tgt := 29) hx hb dX9_init_20 (by decide) ?_
  refine va_putF (D := D) (ci := 9) (v := .int 0) (ty := tyX9 2) (C := RX9) (T := TX9) (N := 3) hx hb hts inlX9 tyX9 tyX9_ok nmX9 hown hK hP hD hS 0 rfl rfl 2 (by decide) (hts _ mw_395) (fun _ h9 => h9) rfl hin rfl (tyX9_ok 2 (by decide)) rfl rfl (Nat.le_of_ble_eq_true rfl) dX9_init_29 (fun H locs hP hD hS => ?_)
  have hP : va_P D vwCl ([(a, .inr (9, [.ref ra, .null, .int 0]))] ++ im) H := hP
  have hD : va_D A ([(a, .inr (9, [.ref ra, .null, .int 0]))] ++ im) := hD
  replace hP : va_P D vwCl ([(a, .inr (9, [.ref ra, .null, .int 0]))] ++ im) _ := subP hP [0] rfl
  replace hD : va_D A ([(a, .inr (9, [.ref ra, .null, .int 0]))] ++ im) := subD hD [0] (by decide) rfl
  obtain ⟨im_1, he_2⟩ : ∃ x9 : va_W, x9 = ([(a, .inr (9, [.ref ra, .null, .int 0]))] ++ im) := ⟨_, rfl⟩
  have hs_3 : Sb im im_1 := by rw [he_2]; exact Sb.app
  have hm_a : (a, .inr (9, [.ref ra, .null, .int 0])) ∈ im_1 := by rw [he_2]; exact List.mem_of_getElem? (i := 0) rfl
  replace hP : va_P D vwCl ([] ++ ([(a, .inr (9, [.ref ra, .null, .int 0]))] ++ im)) _ := hP
  replace hD : va_D A ([] ++ ([(a, .inr (9, [.ref ra, .null, .int 0]))] ++ im)) := hD
  rw [← he_2] at hP hD
  clear he_2
  replace hix := hix.up hs_3
  have hf_4 : Vw κ im_1 0 a R := ⟨ra, n, hm_a, hix⟩
  exact et_vret hx hb hr hlk hS im_1 rfl ⟨(show Sb im im_1 from (by first | exact Sb.rf | assumption | exact Sb.tr (by assumption) (by assumption) | exact Sb.tr (by assumption) (Sb.tr (by assumption) (by assumption)))), (show Vw κ im_1 0 a R from hf_4)⟩ (subP hP [] rfl) (subD hD [] (by decide) rfl) (Nat.le_of_ble_eq_true rfl) (Nat.le_of_ble_eq_true rfl) dX9_init_32
set_option maxHeartbeats 4000000 in
set_option maxRecDepth 100000 in
theorem c_X9_init_1 (l : Launch) (D : va_G) (κ : Nat → ClassId) (κq : Nat → Nat) (im : va_W) (a : Nat) (ra : Nat) (n : Nat) (R : Nat) (u : Nat) (d : Nat) (hix : Ix κ im ra n R) (hvw : Vw κ im d u R) (hd6 : d ≤ 100) : Et l yX9_init (wl yX9_init cX9_init 3 none) { frames := 1, cells := 0, slots := 0, locals := 12 } D κ κq [.ref a, .ref ra, .ref u] ([(a, .inr (9, [.null, .null, .int 0]))] ++ im) (fun im2 : va_W => none) (fun im2 : va_W => Sb im im2 ∧ Vw κ im2 (d + 1) a R) (fun im2 : va_W => ([] ++ im2)) := by
  refine et_of (by decide +kernel) (Nat.le_of_ble_eq_true rfl) ?_
  intro p e s m args below meth c A ls hx hb hr hml hts hown hlk hin hKK hK hA hP hD hS hE hl
  have hS : va_S A s.heap s.heap [] := hS
  have hP : va_P D vwCl ([(a, .inr (9, [.null, .null, .int 0]))] ++ im) s.heap := hP
  have hD : va_D A ([(a, .inr (9, [.null, .null, .int 0]))] ++ im) := hD
  have hFX : FX p s m args c cX9_init 3 RX9 := ⟨hx, hb, hml, hown, hts⟩
  have hl : lv_has ls 3 [(0, .ref a), (1, .ref ra), (2, .ref u)] := hl
  refine lv_aload_n hx hb dX9_init_0 rfl (lv_at hl 0 rfl) ?_
  refine W.objInit hx hb hown (hts _ mw_392) (hts _ mw_10) (hts _ mw_11) rfl (by rw [hml]; exact hl.1) rfl dX9_init_1 (Nat.le_of_ble_eq_true rfl) (Nat.le_of_ble_eq_true rfl) ?_
  refine W.eq (g2 := F0 m 4 ls []) rfl ?_
  refine lv_aload_n hx hb dX9_init_4 rfl (lv_at hl 0 rfl) ?_
  refine lv_aload_n hx hb dX9_init_5 rfl (lv_at hl 1 rfl) ?_
  refine va_putF (D := D) (ci := 9) (v := .ref ra) (ty := tyX9 0) (C := RX9) (T := TX9) (N := 3) hx hb hts inlX9 tyX9 tyX9_ok nmX9 hown hK hP hD hS 0 rfl rfl 0 (by decide) (hts _ mw_393) (fun _ h9 => h9) rfl hin rfl (tyX9_ok 0 (by decide)) rfl rfl (Nat.le_of_ble_eq_true rfl) dX9_init_6 (fun H locs hP hD hS => ?_)
  have hP : va_P D vwCl ([(a, .inr (9, [.ref ra, .null, .int 0]))] ++ im) H := hP
  have hD : va_D A ([(a, .inr (9, [.ref ra, .null, .int 0]))] ++ im) := hD
  refine lv_aload_n hx hb dX9_init_9 rfl (lv_at hl 0 rfl) ?_
  refine lv_aload_n hx hb dX9_init_10 rfl (lv_at hl 2 rfl) ?_
  refine va_putF (D := D) (ci := 9) (v := .ref u) (ty := tyX9 1) (C := RX9) (T := TX9) (N := 3) hx hb hts inlX9 tyX9 tyX9_ok nmX9 hown hK hP hD hS 0 rfl rfl 1 (by decide) (hts _ mw_394) (fun _ h9 => h9) rfl hin rfl (tyX9_ok 1 (by decide)) rfl rfl (Nat.le_of_ble_eq_true rfl) dX9_init_11 (fun H locs hP hD hS => ?_)
  have hP : va_P D vwCl ([(a, .inr (9, [.ref ra, .ref u, .int 0]))] ++ im) H := hP
  have hD : va_D A ([(a, .inr (9, [.ref ra, .ref u, .int 0]))] ++ im) := hD
  refine lv_aload_n hx hb dX9_init_14 rfl (lv_at hl 0 rfl) ?_
  refine lv_aload_n hx hb dX9_init_15 rfl (lv_at hl 2 rfl) ?_
  refine lv_ifnonnull (tgt := 23) hx hb dX9_init_16 (by decide) ?_
  refine lv_aload_n hx hb dX9_init_23 rfl (lv_at hl 2 rfl) ?_
  obtain ⟨r_1, n_2, u_3, hm_4, ix_5⟩ := Vw_cell hvw
  refine va_get (D := D) (ci := 9) (v := .int (nI d)) (C := RX9) (T := TX9) (N := 3) hx hb hts inlX9 hown hK (oneP (C := [(a, .inr (9, [.ref ra, .ref u, .int 0]))]) hP hm_4) 0 rfl rfl 2 (by decide) (hts _ mw_395) (fun _ h9 => h9) rfl dX9_init_24 ?_
  refine lv_iconst (v := 1) hx hb dX9_init_27 (by decide) ?_
  refine lv_iadd hx hb dX9_init_28 ?_
  refine ki (v := (nI (d + 1))) (nI_add d 1) ?_
  refine va_putF (D := D) (ci := 9) (v := .int (nI (d + 1))) (ty := tyX9 2) (C := RX9) (T := TX9) (N := 3) hx hb hts inlX9 tyX9 tyX9_ok nmX9 hown hK hP hD hS 0 rfl rfl 2 (by decide) (hts _ mw_395) (fun _ h9 => h9) rfl hin rfl (tyX9_ok 2 (by decide)) rfl rfl (Nat.le_of_ble_eq_true rfl) dX9_init_29 (fun H locs hP hD hS => ?_)
  have hP : va_P D vwCl ([(a, .inr (9, [.ref ra, .ref u, .int (nI (d + 1))]))] ++ im) H := hP
  have hD : va_D A ([(a, .inr (9, [.ref ra, .ref u, .int (nI (d + 1))]))] ++ im) := hD
  replace hP : va_P D vwCl ([(a, .inr (9, [.ref ra, .ref u, .int (nI (d + 1))]))] ++ im) _ := subP hP [0] rfl
  replace hD : va_D A ([(a, .inr (9, [.ref ra, .ref u, .int (nI (d + 1))]))] ++ im) := subD hD [0] (by decide) rfl
  obtain ⟨im_6, he_7⟩ : ∃ x9 : va_W, x9 = ([(a, .inr (9, [.ref ra, .ref u, .int (nI (d + 1))]))] ++ im) := ⟨_, rfl⟩
  have hs_8 : Sb im im_6 := by rw [he_7]; exact Sb.app
  have hm_a : (a, .inr (9, [.ref ra, .ref u, .int (nI (d + 1))])) ∈ im_6 := by rw [he_7]; exact List.mem_of_getElem? (i := 0) rfl
  replace hP : va_P D vwCl ([] ++ ([(a, .inr (9, [.ref ra, .ref u, .int (nI (d + 1))]))] ++ im)) _ := hP
  replace hD : va_D A ([] ++ ([(a, .inr (9, [.ref ra, .ref u, .int (nI (d + 1))]))] ++ im)) := hD
  rw [← he_7] at hP hD
  clear he_7
  replace hix := hix.up hs_8
  replace hvw := hvw.up hs_8
  replace ix_5 := ix_5.up hs_8
  replace hm_4 := hs_8 _ hm_4
  have hf_9 : Vw κ im_6 (d + 1) a R := ⟨ra, n, u, hm_a, hix, hvw⟩
  exact et_vret hx hb hr hlk hS im_6 rfl ⟨(show Sb im im_6 from (by first | exact Sb.rf | assumption | exact Sb.tr (by assumption) (by assumption) | exact Sb.tr (by assumption) (Sb.tr (by assumption) (by assumption)))), (show Vw κ im_6 (d + 1) a R from hf_9)⟩ (subP hP [] rfl) (subD hD [] (by decide) rfl) (Nat.le_of_ble_eq_true rfl) (Nat.le_of_ble_eq_true rfl) dX9_init_32
set_option maxHeartbeats 4000000 in
set_option maxRecDepth 100000 in
theorem c_X5_init (l : Launch) (D : va_G) (κ : Nat → ClassId) (κq : Nat → Nat) (im : va_W) (a : Nat) (ca : Nat) (cx : Nat) (r : Nat) (w : Nat) (hca : Ca κ im ca w) (hcx : Cx κ im cx (r * w)) (hr4 : r ≤ 40) (hw1 : 1 ≤ w) (hw8 : w ≤ 8) : Et l yX5_init (wl yX5_init cX5_init 6 none) { frames := 2, cells := 2, slots := 43, locals := 34 } D κ κq [.ref a, .ref ca, .ref cx, .int (nI r)] ([(a, .inr (5, [.null, .null, .int 0, .null]))] ++ im) (fun im2 : va_W => none) (fun im2 : va_W => Sb im im2 ∧ Sh κ im2 a r w) (fun im2 : va_W => ([] ++ im2)) := by
  refine et_of (by decide +kernel) (Nat.le_of_ble_eq_true rfl) ?_
  intro p e s m args below meth c A ls hx hb hr hml hts hown hlk hin hKK hK hA hP hD hS hE hl
  have hS : va_S A s.heap s.heap [] := hS
  have hP : va_P D vwCl ([(a, .inr (5, [.null, .null, .int 0, .null]))] ++ im) s.heap := hP
  have hD : va_D A ([(a, .inr (5, [.null, .null, .int 0, .null]))] ++ im) := hD
  have hFX : FX p s m args c cX5_init 6 RX5 := ⟨hx, hb, hml, hown, hts⟩
  have hl : lv_has ls 6 [(0, .ref a), (1, .ref ca), (2, .ref cx), (3, .int (nI r))] := hl
  obtain ⟨g_1, hm_2, lo_3⟩ := id hca
  obtain ⟨g_4, hm_5, lo_6⟩ := id hcx
  refine lv_aload_n hx hb dX5_init_0 rfl (lv_at hl 0 rfl) ?_
  refine W.objInit hx hb hown (hts _ mw_381) (hts _ mw_10) (hts _ mw_11) rfl (by rw [hml]; exact hl.1) rfl dX5_init_1 (Nat.le_of_ble_eq_true rfl) (Nat.le_of_ble_eq_true rfl) ?_
  refine W.eq (g2 := F0 m 4 ls []) rfl ?_
  refine lv_aload_n hx hb dX5_init_4 rfl (lv_at hl 0 rfl) ?_
  refine lv_aload_n hx hb dX5_init_5 rfl (lv_at hl 1 rfl) ?_
  refine va_putF (D := D) (ci := 5) (v := .ref ca) (ty := tyX5 0) (C := RX5) (T := TX5) (N := 4) hx hb hts inlX5 tyX5 tyX5_ok nmX5 hown hK hP hD hS 0 rfl rfl 0 (by decide) (hts _ mw_382) (fun _ h9 => h9) rfl hin rfl (tyX5_ok 0 (by decide)) rfl rfl (Nat.le_of_ble_eq_true rfl) dX5_init_6 (fun H locs hP hD hS => ?_)
  have hP : va_P D vwCl ([(a, .inr (5, [.ref ca, .null, .int 0, .null]))] ++ im) H := hP
  have hD : va_D A ([(a, .inr (5, [.ref ca, .null, .int 0, .null]))] ++ im) := hD
  refine lv_aload_n hx hb dX5_init_9 rfl (lv_at hl 0 rfl) ?_
  refine lv_aload_n hx hb dX5_init_10 rfl (lv_at hl 2 rfl) ?_
  refine va_putF (D := D) (ci := 5) (v := .ref cx) (ty := tyX5 1) (C := RX5) (T := TX5) (N := 4) hx hb hts inlX5 tyX5 tyX5_ok nmX5 hown hK hP hD hS 0 rfl rfl 1 (by decide) (hts _ mw_383) (fun _ h9 => h9) rfl hin rfl (tyX5_ok 1 (by decide)) rfl rfl (Nat.le_of_ble_eq_true rfl) dX5_init_11 (fun H locs hP hD hS => ?_)
  have hP : va_P D vwCl ([(a, .inr (5, [.ref ca, .ref cx, .int 0, .null]))] ++ im) H := hP
  have hD : va_D A ([(a, .inr (5, [.ref ca, .ref cx, .int 0, .null]))] ++ im) := hD
  refine lv_aload_n hx hb dX5_init_14 rfl (lv_at hl 0 rfl) ?_
  refine lv_iload_n hx hb dX5_init_15 rfl (lv_at hl 3 rfl) ?_
  refine va_putF (D := D) (ci := 5) (v := .int (nI r)) (ty := tyX5 2) (C := RX5) (T := TX5) (N := 4) hx hb hts inlX5 tyX5 tyX5_ok nmX5 hown hK hP hD hS 0 rfl rfl 2 (by decide) (hts _ mw_384) (fun _ h9 => h9) rfl hin rfl (tyX5_ok 2 (by decide)) rfl rfl (Nat.le_of_ble_eq_true rfl) dX5_init_16 (fun H locs hP hD hS => ?_)
  have hP : va_P D vwCl ([(a, .inr (5, [.ref ca, .ref cx, .int (nI r), .null]))] ++ im) H := hP
  have hD : va_D A ([(a, .inr (5, [.ref ca, .ref cx, .int (nI r), .null]))] ++ im) := hD
  refine lv_iload_n hx hb dX5_init_19 rfl (lv_at hl 3 rfl) ?_
  refine my_newa (atype := .int) hx hb (hts _ mw_39) rfl hK hP hD hS hA 0 rfl (N' := r) (a0 := (r, .inl (fun _ => 0))) (fun _ => rfl) (nI_pos (by omega)) (nI_clamp (by omega)) (by show r * 4 ≤ _; omega) (Nat.le_of_ble_eq_true rfl) (by show _ ≤ 43; omega) dX5_init_20 (fun q_7 H hP hD hS => ?_)
  refine W.widen (k := 1) (n := 40) (Nat.le_refl _) (by omega) ?_
  replace hP : va_P D vwCl ([(a, .inr (5, [.ref ca, .ref cx, .int (nI r), .null])), (q_7, .inl (κ 0, r, .inl (fun _ => 0)))] ++ im) H := mvP hP
  replace hD : va_D A ([(a, .inr (5, [.ref ca, .ref cx, .int (nI r), .null])), (q_7, .inl (κ 0, r, .inl (fun _ => 0)))] ++ im) := mvD hD
  refine lv_astore (lv' := [(4, .ref q_7), (0, .ref a), (1, .ref ca), (2, .ref cx), (3, .int (nI r))]) hx hb dX5_init_22 hl (by decide) rfl (fun ls hl => ?_)
  refine lv_iconst (v := 0) hx hb dX5_init_24 (by decide) ?_
  refine lv_istore (lv' := [(5, .int 0), (4, .ref q_7), (0, .ref a), (1, .ref ca), (2, .ref cx), (3, .int (nI r))]) hx hb dX5_init_25 hl (by decide) rfl (fun ls hl => ?_)
  refine loop_dn (fun k9 H locs ls => ∃ (k5_27 : Nat), ∃ (gq_7_27 : Nat → Int32), (k5_27 ≤ r) ∧ (∀ i9 : Nat, i9 < k5_27 → ∃ j9 : Nat, j9 < r ∧ gq_7_27 i9 = nI j9) ∧ r - k5_27 = k9 ∧ va_P D vwCl ([(a, .inr (5, [.ref ca, .ref cx, .int (nI r), .null])), (q_7, .inl (κ 0, r, .inl gq_7_27))] ++ im) H ∧ va_D A ([(a, .inr (5, [.ref ca, .ref cx, .int (nI r), .null])), (q_7, .inl (κ 0, r, .inl gq_7_27))] ++ im) ∧ va_S A s.heap H locs ∧ lv_has ls 6 [(5, .int (nI k5_27)), (4, .ref q_7), (0, .ref a), (1, .ref ca), (2, .ref cx), (3, .int (nI r))]) (fun k9 H locs ls hI27 ih27 => ?_) (r - 0) _ _ _ ⟨0, (fun _ => 0), (by omega), (fun i9 h9 => absurd h9 (by omega)), rfl, hP, hD, hS, lv_sub hl [0, 1, 2, 3, 4, 5] rfl⟩
  obtain ⟨k5_27, gq_7_27, hl27_0, hl27_1, hm27, hP, hD, hS, hl⟩ := hI27
  refine lv_iload hx hb dX5_init_27 (lv_at hl 0 rfl) ?_
  refine lv_iload_n hx hb dX5_init_29 rfl (lv_at hl 5 rfl) ?_
  refine lv_icmp_ge (tgt := 46) hx hb dX5_init_30 (by decide) (fun c_8 => ?_) (fun c_8 => ?_)
  · have nc_8 := cv_le (a := r) (b := k5_27) (by omega) (by omega) c_8
    have he9 : k5_27 = r := by omega
    rw [he9] at hl27_1
    replace hP : va_P D vwCl ([(a, .inr (5, [.ref ca, .ref cx, .int (nI r), .null])), (q_7, .inl (κ 0, r, .inl gq_7_27))] ++ im) _ := subP hP [0, 1] rfl
    replace hD : va_D A ([(a, .inr (5, [.ref ca, .ref cx, .int (nI r), .null])), (q_7, .inl (κ 0, r, .inl gq_7_27))] ++ im) := subD hD [0, 1] (by decide) rfl
    obtain ⟨im_9, he_10⟩ : ∃ x9 : va_W, x9 = ([(q_7, .inl (κ 0, r, .inl gq_7_27))] ++ im) := ⟨_, rfl⟩
    have hs_11 : Sb im im_9 := by rw [he_10]; exact Sb.app
    have hm_q_7 : (q_7, .inl (κ 0, r, .inl gq_7_27)) ∈ im_9 := by rw [he_10]; exact List.mem_of_getElem? (i := 0) rfl
    replace hP : va_P D vwCl ([(a, .inr (5, [.ref ca, .ref cx, .int (nI r), .null]))] ++ ([(q_7, .inl (κ 0, r, .inl gq_7_27))] ++ im)) _ := hP
    replace hD : va_D A ([(a, .inr (5, [.ref ca, .ref cx, .int (nI r), .null]))] ++ ([(q_7, .inl (κ 0, r, .inl gq_7_27))] ++ im)) := hD
    rw [← he_10] at hP hD
    clear he_10
    replace hca := hca.up hs_11
    replace hcx := hcx.up hs_11
    replace lo_3 := lo_3.up hs_11
    replace lo_6 := lo_6.up hs_11
    replace hm_2 := hs_11 _ hm_2
    replace hm_5 := hs_11 _ hm_5
    have hf_12 : Ix κ im_9 q_7 r r := ⟨by omega, _, hm_q_7, hl27_1⟩
    refine lv_aload_n hx hb dX5_init_46 rfl (lv_at hl 2 rfl) ?_
    refine va_new (ci := 9) (fs := [.null, .null, .int 0]) (C := RX9) (T := TX9) (N := 3) hx hb hts inlX9 tyX9 tyX9_ok hown (hts _ mw_385) (hts _ mw_386) (hts _ mw_387) hK hP hD hS hA rfl (fun j hj => by rcases (show j = 0 ∨ j = 1 ∨ j = 2 by omega) with rfl | rfl | rfl <;> rfl) (Nat.le_of_ble_eq_true rfl) (Nat.le_of_ble_eq_true rfl) dX5_init_47 (fun q_13 H hP hD hS => ?_)
    replace hP : va_P D vwCl ([(a, .inr (5, [.ref ca, .ref cx, .int (nI r), .null])), (q_13, .inr (9, [.null, .null, .int 0]))] ++ im_9) H := mvP hP
    replace hD : va_D A ([(a, .inr (5, [.ref ca, .ref cx, .int (nI r), .null])), (q_13, .inr (9, [.null, .null, .int 0]))] ++ im_9) := mvD hD
    refine lv_dup hx hb dX5_init_50 rfl ?_
    refine lv_aload hx hb dX5_init_51 (lv_at hl 1 rfl) ?_
    refine lv_null hx hb dX5_init_53 ?_
    refine et_IT (CR := [(a, .inr (5, [.ref ca, .ref cx, .int (nI r), .null]))]) (As := [.ref q_7, .null]) (rest := [.ref q_13, .ref a]) hFX hKK hE hP hD hS hA (c_X9_init_0 l D κ κq im_9 q_13 q_7 r r hf_12) 2 mw_389 mw_390 mw_387 mw_391 hdI_X9_init ⟨Nat.le_of_ble_eq_true rfl, Nat.le_of_ble_eq_true rfl⟩ rfl rfl (Nat.le_of_ble_eq_true rfl) dX5_init_54 ⟨Nat.le_of_ble_eq_true rfl, Nat.le_of_ble_eq_true rfl⟩ hl.1 [1] [0] rfl rfl (by decide) (by decide) (by decide) (fun im2__14 H locs hp_15 hP hD hS => ?_)
    replace hP : va_P D vwCl ([(a, .inr (5, [.ref ca, .ref cx, .int (nI r), .null]))] ++ im2__14) H := subP (C := [(a, .inr (5, [.ref ca, .ref cx, .int (nI r), .null]))]) hP [0] rfl
    replace hD : va_D A ([(a, .inr (5, [.ref ca, .ref cx, .int (nI r), .null]))] ++ im2__14) := subD (C := [(a, .inr (5, [.ref ca, .ref cx, .int (nI r), .null]))]) hD [0] (by decide) rfl
    replace hp_15 : Sb im_9 im2__14 ∧ Vw κ im2__14 0 q_13 r := hp_15
    obtain ⟨h_16, h_17⟩ := hp_15
    replace hca := hca.up h_16
    replace hcx := hcx.up h_16
    replace lo_3 := lo_3.up h_16
    replace lo_6 := lo_6.up h_16
    replace hf_12 := hf_12.up h_16
    replace hm_2 := h_16 _ hm_2
    replace hm_5 := h_16 _ hm_5
    replace hm_q_7 := h_16 _ hm_q_7
    refine W.eq (g2 := F0 m 57 ls [.ref q_13, .ref a]) rfl ?_
    refine va_putF (D := D) (ci := 5) (v := .ref q_13) (ty := tyX5 3) (C := RX5) (T := TX5) (N := 4) hx hb hts inlX5 tyX5 tyX5_ok nmX5 hown hK hP hD hS 0 rfl rfl 3 (by decide) (hts _ mw_388) (fun _ h9 => h9) rfl hin rfl (tyX5_ok 3 (by decide)) rfl rfl (Nat.le_of_ble_eq_true rfl) dX5_init_57 (fun H locs hP hD hS => ?_)
    have hP : va_P D vwCl ([(a, .inr (5, [.ref ca, .ref cx, .int (nI r), .ref q_13]))] ++ im2__14) H := hP
    have hD : va_D A ([(a, .inr (5, [.ref ca, .ref cx, .int (nI r), .ref q_13]))] ++ im2__14) := hD
    replace hP : va_P D vwCl ([(a, .inr (5, [.ref ca, .ref cx, .int (nI r), .ref q_13]))] ++ im2__14) _ := subP hP [0] rfl
    replace hD : va_D A ([(a, .inr (5, [.ref ca, .ref cx, .int (nI r), .ref q_13]))] ++ im2__14) := subD hD [0] (by decide) rfl
    obtain ⟨im_18, he_19⟩ : ∃ x9 : va_W, x9 = ([(a, .inr (5, [.ref ca, .ref cx, .int (nI r), .ref q_13]))] ++ im2__14) := ⟨_, rfl⟩
    have hs_20 : Sb im2__14 im_18 := by rw [he_19]; exact Sb.app
    have hm_a : (a, .inr (5, [.ref ca, .ref cx, .int (nI r), .ref q_13])) ∈ im_18 := by rw [he_19]; exact List.mem_of_getElem? (i := 0) rfl
    replace hP : va_P D vwCl ([] ++ ([(a, .inr (5, [.ref ca, .ref cx, .int (nI r), .ref q_13]))] ++ im2__14)) _ := hP
    replace hD : va_D A ([] ++ ([(a, .inr (5, [.ref ca, .ref cx, .int (nI r), .ref q_13]))] ++ im2__14)) := hD
    rw [← he_19] at hP hD
    clear he_19
    replace hca := hca.up hs_20
    replace hcx := hcx.up hs_20
    replace lo_3 := lo_3.up hs_20
    replace lo_6 := lo_6.up hs_20
    replace hf_12 := hf_12.up hs_20
    replace h_17 := h_17.up hs_20
    replace hm_2 := hs_20 _ hm_2
    replace hm_5 := hs_20 _ hm_5
    replace hm_q_7 := hs_20 _ hm_q_7
    have hf_21 : Sh κ im_18 a r w := ⟨⟨by omega, by omega, by omega⟩, ca, cx, q_13, g_1, g_4, hm_a, hm_2, hm_5, lo_3, lo_6, h_17⟩
    exact et_vret hx hb hr hlk hS im_18 rfl ⟨(show Sb im im_18 from (by first | exact Sb.rf | assumption | exact Sb.tr (by assumption) (by assumption) | exact Sb.tr (by assumption) (Sb.tr (by assumption) (by assumption)))), (show Sh κ im_18 a r w from hf_21)⟩ (subP hP [] rfl) (subD hD [] (by decide) rfl) (Nat.le_of_ble_eq_true rfl) (Nat.le_of_ble_eq_true rfl) dX5_init_60
  · have nc_8 := cv_nle (a := r) (b := k5_27) (by omega) (by omega) c_8
    refine lv_aload hx hb dX5_init_33 (lv_at hl 1 rfl) ?_
    refine lv_iload hx hb dX5_init_35 (lv_at hl 0 rfl) ?_
    refine lv_iload hx hb dX5_init_37 (lv_at hl 0 rfl) ?_
    refine va_iast hx hb hK hP hD hS 1 0 rfl rfl (i := nI k5_27) (x := nI k5_27) (vp_in_nI (n := k5_27) (by omega) (by omega)) dX5_init_39 (fun H locs hP hD hS => ?_)
    rw [nI_clamp (by omega)] at hP hD
    have hP : va_P D vwCl ([(a, .inr (5, [.ref ca, .ref cx, .int (nI r), .null])), (q_7, .inl (κ 0, r, .inl (upd gq_7_27 k5_27 (nI k5_27))))] ++ im) H := hP
    have hD : va_D A ([(a, .inr (5, [.ref ca, .ref cx, .int (nI r), .null])), (q_7, .inl (κ 0, r, .inl (upd gq_7_27 k5_27 (nI k5_27))))] ++ im) := hD
    have hq : ∀ i9 : Nat, i9 < k5_27 + 1 → ∃ j9 : Nat, j9 < r ∧ (upd gq_7_27 k5_27 (nI k5_27)) i9 = nI j9 := (rq_put hl27_1 (by omega))
    generalize upd gq_7_27 k5_27 (nI k5_27) = g_22 at hP hD hq
    refine lv_iinc (v := (nI (k5_27 + 1))) (lv' := [(5, .int (nI (k5_27 + 1))), (4, .ref q_7), (0, .ref a), (1, .ref ca), (2, .ref cx), (3, .int (nI r))]) hx hb dX5_init_40 hl (k := 0) rfl (nI_i k5_27) (by decide) rfl (fun ls hl => ?_)
    refine lv_goto (tgt := 27) hx hb dX5_init_43 (by decide) ?_
    exact ih27 _ _ _ _ (by omega) ⟨(k5_27 + 1), g_22, (by omega), hq, rfl, hP, hD, hS, lv_sub hl [0, 1, 2, 3, 4, 5] rfl⟩
set_option maxHeartbeats 4000000 in
set_option maxRecDepth 100000 in
theorem c_X10_append (l : Launch) (D : va_G) (κ : Nat → ClassId) (κq : Nat → Nat) (wr : Nat) (d : Nat) (wb : Nat) (L : Nat) (bf : Nat → Int32) (za : Int32) (hL : L ≤ 100000) : Et l yX10_append (wl yX10_append cX10_append 2 none) { frames := 0, cells := 0, slots := 0, locals := 0 } D κ κq [.ref wr, .int za] [(wr, .inr (10, [.ref d, .ref wb, .int (nI L)])), (wb, .inl (κ 1, 6000, .inl bf))] (fun g : (Nat → Int32) => none) (fun g : (Nat → Int32) => True) (fun g : (Nat → Int32) => [(wr, .inr (10, [.ref d, .ref wb, .int (nI (L + 1))])), (wb, .inl (κ 1, 6000, .inl g))]) := by
  refine et_of (by decide +kernel) (Nat.le_of_ble_eq_true rfl) ?_
  intro p e s m args below meth c A ls hx hb hr hml hts hown hlk hin hKK hK hA hP hD hS hE hl
  have hS : va_S A s.heap s.heap [] := hS
  have hP : va_P D vwCl ([(wr, .inr (10, [.ref d, .ref wb, .int (nI L)])), (wb, .inl (κ 1, 6000, .inl bf))] ++ []) s.heap := hP
  have hD : va_D A ([(wr, .inr (10, [.ref d, .ref wb, .int (nI L)])), (wb, .inl (κ 1, 6000, .inl bf))] ++ []) := hD
  have hFX : FX p s m args c cX10_append 2 RX10 := ⟨hx, hb, hml, hown, hts⟩
  have hl : lv_has ls 2 [(0, .ref wr), (1, .int za)] := hl
  refine lv_aload_n hx hb dX10_append_0 rfl (lv_at hl 0 rfl) ?_
  refine va_get (D := D) (ci := 10) (v := .int (nI L)) (C := RX10) (T := TX10) (N := 3) hx hb hts inlX10 hown hK hP 0 rfl rfl 2 (by decide) (hts _ mw_181) (fun _ h9 => h9) rfl dX10_append_1 ?_
  refine lv_sipush (v := 6000) hx hb dX10_append_4 (by decide) ?_
  refine lv_icmp_ge (tgt := 21) hx hb dX10_append_7 (by decide) (fun c_1 => ?_) (fun c_1 => ?_)
  · have nc_1 := cv_le (a := 6000) (b := L) (by omega) (by omega) c_1
    refine lv_aload_n hx hb dX10_append_21 rfl (lv_at hl 0 rfl) ?_
    refine lv_dup hx hb dX10_append_22 rfl ?_
    refine va_get (D := D) (ci := 10) (v := .int (nI L)) (C := RX10) (T := TX10) (N := 3) hx hb hts inlX10 hown hK hP 0 rfl rfl 2 (by decide) (hts _ mw_181) (fun _ h9 => h9) rfl dX10_append_23 ?_
    refine lv_iconst (v := 1) hx hb dX10_append_26 (by decide) ?_
    refine lv_iadd hx hb dX10_append_27 ?_
    refine ki (v := (nI (L + 1))) (nI_add L 1) ?_
    refine va_put (D := D) (ci := 10) (v := .int (nI (L + 1))) (ty := tyX10 2) (C := RX10) (T := TX10) (N := 3) hx hb hts inlX10 tyX10 tyX10_ok nmX10 hown hK hP hD hS 0 rfl rfl 2 (by decide) (hts _ mw_181) (fun _ h9 => h9) rfl (tyX10_ok 2 (by decide)) rfl rfl (Nat.le_of_ble_eq_true rfl) dX10_append_28 (fun H locs hP hD hS => ?_)
    have hP : va_P D vwCl ([(wr, .inr (10, [.ref d, .ref wb, .int (nI (L + 1))])), (wb, .inl (κ 1, 6000, .inl bf))] ++ []) H := hP
    have hD : va_D A ([(wr, .inr (10, [.ref d, .ref wb, .int (nI (L + 1))])), (wb, .inl (κ 1, 6000, .inl bf))] ++ []) := hD
    exact et_vret hx hb hr hlk hS bf rfl trivial (subP0 hP [0, 1] rfl) (hD.sub [0, 1] (by decide) rfl) (Nat.le_of_ble_eq_true rfl) (Nat.le_of_ble_eq_true rfl) dX10_append_31
  · have nc_1 := cv_nle (a := 6000) (b := L) (by omega) (by omega) c_1
    refine lv_aload_n hx hb dX10_append_10 rfl (lv_at hl 0 rfl) ?_
    refine va_get (D := D) (ci := 10) (v := .ref wb) (C := RX10) (T := TX10) (N := 3) hx hb hts inlX10 hown hK hP 0 rfl rfl 1 (by decide) (hts _ mw_180) (fun _ h9 => h9) rfl dX10_append_11 ?_
    refine lv_aload_n hx hb dX10_append_14 rfl (lv_at hl 0 rfl) ?_
    refine va_get (D := D) (ci := 10) (v := .int (nI L)) (C := RX10) (T := TX10) (N := 3) hx hb hts inlX10 hown hK hP 0 rfl rfl 2 (by decide) (hts _ mw_181) (fun _ h9 => h9) rfl dX10_append_15 ?_
    refine lv_iload_n hx hb dX10_append_18 rfl (lv_at hl 1 rfl) ?_
    obtain ⟨x_2, ex_2⟩ : ∃ y9 : Int32, (za : Int32).toInt8.toInt32 = y9 := ⟨_, rfl⟩
    refine lv_i2b hx hb dX10_append_19 ex_2 ?_
    refine va_bast hx hb hK hP hD hS 1 1 rfl rfl (i := nI L) (x := x_2) (vp_in_nI (n := L) (by omega) (by omega)) dX10_append_20 (fun H locs hP hD hS => ?_)
    rw [nI_clamp (by omega)] at hP hD
    have hP : va_P D vwCl ([(wr, .inr (10, [.ref d, .ref wb, .int (nI L)])), (wb, .inl (κ 1, 6000, .inl (upd bf L (vp_nar .byte x_2))))] ++ []) H := hP
    have hD : va_D A ([(wr, .inr (10, [.ref d, .ref wb, .int (nI L)])), (wb, .inl (κ 1, 6000, .inl (upd bf L (vp_nar .byte x_2))))] ++ []) := hD
    generalize upd bf L (vp_nar .byte x_2) = g_3 at hP hD 
    refine lv_aload_n hx hb dX10_append_21 rfl (lv_at hl 0 rfl) ?_
    refine lv_dup hx hb dX10_append_22 rfl ?_
    refine va_get (D := D) (ci := 10) (v := .int (nI L)) (C := RX10) (T := TX10) (N := 3) hx hb hts inlX10 hown hK hP 0 rfl rfl 2 (by decide) (hts _ mw_181) (fun _ h9 => h9) rfl dX10_append_23 ?_
    refine lv_iconst (v := 1) hx hb dX10_append_26 (by decide) ?_
    refine lv_iadd hx hb dX10_append_27 ?_
    refine ki (v := (nI (L + 1))) (nI_add L 1) ?_
    refine va_put (D := D) (ci := 10) (v := .int (nI (L + 1))) (ty := tyX10 2) (C := RX10) (T := TX10) (N := 3) hx hb hts inlX10 tyX10 tyX10_ok nmX10 hown hK hP hD hS 0 rfl rfl 2 (by decide) (hts _ mw_181) (fun _ h9 => h9) rfl (tyX10_ok 2 (by decide)) rfl rfl (Nat.le_of_ble_eq_true rfl) dX10_append_28 (fun H locs hP hD hS => ?_)
    have hP : va_P D vwCl ([(wr, .inr (10, [.ref d, .ref wb, .int (nI (L + 1))])), (wb, .inl (κ 1, 6000, .inl g_3))] ++ []) H := hP
    have hD : va_D A ([(wr, .inr (10, [.ref d, .ref wb, .int (nI (L + 1))])), (wb, .inl (κ 1, 6000, .inl g_3))] ++ []) := hD
    exact et_vret hx hb hr hlk hS g_3 rfl trivial (subP0 hP [0, 1] rfl) (hD.sub [0, 1] (by decide) rfl) (Nat.le_of_ble_eq_true rfl) (Nat.le_of_ble_eq_true rfl) dX10_append_31
set_option maxHeartbeats 4000000 in
set_option maxRecDepth 100000 in
theorem c_X10_writeBytes (l : Launch) (D : va_G) (κ : Nat → ClassId) (κq : Nat → Nat) (im : va_W) (wr : Nat) (d : Nat) (wb : Nat) (L : Nat) (bf : Nat → Int32) (b : Nat) (n : Nat) (hL : L ≤ 90000) (hby : By κ im b n) : Et l yX10_writeBytes (wl yX10_writeBytes cX10_writeBytes 3 none) { frames := 1, cells := 0, slots := 0, locals := 21 } D κ κq [.ref wr, .ref b] ([(wr, .inr (10, [.ref d, .ref wb, .int (nI L)])), (wb, .inl (κ 1, 6000, .inl bf))] ++ im) (fun u9 : Nat × (Nat → Int32) => none) (fun u9 : Nat × (Nat → Int32) => L ≤ u9.1 ∧ u9.1 ≤ L + n ∧ n ≤ 20) (fun u9 : Nat × (Nat → Int32) => ([(wr, .inr (10, [.ref d, .ref wb, .int (nI u9.1)])), (wb, .inl (κ 1, 6000, .inl u9.2))] ++ im)) := by
  refine et_of (by decide +kernel) (Nat.le_of_ble_eq_true rfl) ?_
  intro p e s m args below meth c A ls hx hb hr hml hts hown hlk hin hKK hK hA hP hD hS hE hl
  have hS : va_S A s.heap s.heap [] := hS
  have hP : va_P D vwCl ([(wr, .inr (10, [.ref d, .ref wb, .int (nI L)])), (wb, .inl (κ 1, 6000, .inl bf))] ++ im) s.heap := hP
  have hD : va_D A ([(wr, .inr (10, [.ref d, .ref wb, .int (nI L)])), (wb, .inl (κ 1, 6000, .inl bf))] ++ im) := hD
  have hFX : FX p s m args c cX10_writeBytes 3 RX10 := ⟨hx, hb, hml, hown, hts⟩
  have hl : lv_has ls 3 [(0, .ref wr), (1, .ref b)] := hl
  obtain ⟨hn_2, f_1, hm_3, hfit_4⟩ := id hby
  refine lv_iconst (v := 0) hx hb dX10_writeBytes_0 (by decide) ?_
  refine lv_istore_n (lv' := [(2, .int 0), (0, .ref wr), (1, .ref b)]) hx hb dX10_writeBytes_1 rfl hl (by decide) rfl (fun ls hl => ?_)
  refine loop_dn (fun k9 H locs ls => ∃ (k2_2 : Nat), ∃ (v2_2 : Nat), ∃ (gwb_2 : Nat → Int32), (k2_2 ≤ n) ∧ (v2_2 = L + k2_2) ∧ n - k2_2 = k9 ∧ va_P D vwCl ([(wr, .inr (10, [.ref d, .ref wb, .int (nI v2_2)])), (wb, .inl (κ 1, 6000, .inl gwb_2))] ++ im) H ∧ va_D A ([(wr, .inr (10, [.ref d, .ref wb, .int (nI v2_2)])), (wb, .inl (κ 1, 6000, .inl gwb_2))] ++ im) ∧ va_S A s.heap H locs ∧ lv_has ls 3 [(2, .int (nI k2_2)), (0, .ref wr), (1, .ref b)]) (fun k9 H locs ls hI2 ih2 => ?_) (n - 0) _ _ _ ⟨0, L, bf, (by omega), (by omega), rfl, hP, hD, hS, lv_sub hl [0, 1, 2] rfl⟩
  obtain ⟨k2_2, v2_2, gwb_2, hl2_0, hl2_1, hm2, hP, hD, hS, hl⟩ := hI2
  refine lv_iload_n hx hb dX10_writeBytes_2 rfl (lv_at hl 0 rfl) ?_
  refine lv_aload_n hx hb dX10_writeBytes_3 rfl (lv_at hl 2 rfl) ?_
  refine va_alen hx hb hK (oneP (C := [(wr, .inr (10, [.ref d, .ref wb, .int (nI v2_2)])), (wb, .inl (κ 1, 6000, .inl gwb_2))]) hP hm_3) 0 1 rfl rfl (v := nI n) rfl dX10_writeBytes_4 ?_
  refine lv_icmp_ge (tgt := 21) hx hb dX10_writeBytes_5 (by decide) (fun c_5 => ?_) (fun c_5 => ?_)
  · have nc_5 := cv_le (a := n) (b := k2_2) (by omega) (by omega) c_5
    exact et_vret hx hb hr hlk hS (v2_2, gwb_2) rfl ⟨(show L ≤ v2_2 from (by first | assumption | omega | rfl | exact Or.inl (by assumption) | exact Or.inr (by assumption))), (show v2_2 ≤ L + n from (by first | assumption | omega | rfl | exact Or.inl (by assumption) | exact Or.inr (by assumption))), (show n ≤ 20 from (by first | assumption | omega | rfl | exact Or.inl (by assumption) | exact Or.inr (by assumption)))⟩ (subP hP [0, 1] rfl) (subD hD [0, 1] (by decide) rfl) (Nat.le_of_ble_eq_true rfl) (Nat.le_of_ble_eq_true rfl) dX10_writeBytes_21
  · have nc_5 := cv_nle (a := n) (b := k2_2) (by omega) (by omega) c_5
    refine lv_aload_n hx hb dX10_writeBytes_8 rfl (lv_at hl 1 rfl) ?_
    refine lv_aload_n hx hb dX10_writeBytes_9 rfl (lv_at hl 2 rfl) ?_
    refine lv_iload_n hx hb dX10_writeBytes_10 rfl (lv_at hl 0 rfl) ?_
    refine va_bald hx hb hK (oneP (C := [(wr, .inr (10, [.ref d, .ref wb, .int (nI v2_2)])), (wb, .inl (κ 1, 6000, .inl gwb_2))]) hP hm_3) 0 1 rfl rfl (i := nI k2_2) (vp_in_nI (n := k2_2) (by omega) (by omega)) dX10_writeBytes_11 ?_
    refine kv (v := .int (f_1 k2_2)) (by rw [nI_clamp (by omega)]) ?_
    obtain ⟨x_6, ex_6⟩ : ∃ y9 : Int32, f_1 k2_2 = y9 := ⟨_, rfl⟩
    refine kv (v := .int x_6) (congrArg Value.int ex_6) ?_
    refine et_VN (CR := []) (As := [.int x_6]) (rest := []) hFX hKK hE hP hD hS hA (c_X10_append l D κ κq wr d wb v2_2 gwb_2 x_6 (by omega)) 1 gV_X10_68 hdV_X10_append ⟨Nat.le_of_ble_eq_true rfl, Nat.le_of_ble_eq_true rfl⟩ rfl rfl (Nat.le_of_ble_eq_true rfl) dX10_writeBytes_12 ⟨Nat.le_of_ble_eq_true rfl, Nat.le_of_ble_eq_true rfl⟩ hl.1 [0, 1] [] rfl rfl (by decide) (by decide) (by decide) hP 0 10 rfl rfl rfl (fun g__7 H locs hp_8 hP hD hS => ?_)
    replace hP : va_P D vwCl ([(wr, .inr (10, [.ref d, .ref wb, .int (nI (v2_2 + 1))])), (wb, .inl (κ 1, 6000, .inl g__7))] ++ im) H := subP (C := [(wr, .inr (10, [.ref d, .ref wb, .int (nI (v2_2 + 1))])), (wb, .inl (κ 1, 6000, .inl g__7))]) hP [0, 1] rfl
    replace hD : va_D A ([(wr, .inr (10, [.ref d, .ref wb, .int (nI (v2_2 + 1))])), (wb, .inl (κ 1, 6000, .inl g__7))] ++ im) := subD (C := [(wr, .inr (10, [.ref d, .ref wb, .int (nI (v2_2 + 1))])), (wb, .inl (κ 1, 6000, .inl g__7))]) hD [0, 1] (by decide) rfl
    refine W.eq (g2 := F0 m 15 ls []) rfl ?_
    refine lv_iinc (v := (nI (k2_2 + 1))) (lv' := [(2, .int (nI (k2_2 + 1))), (0, .ref wr), (1, .ref b)]) hx hb dX10_writeBytes_15 hl (k := 0) rfl (nI_i k2_2) (by decide) rfl (fun ls hl => ?_)
    refine lv_goto (tgt := 2) hx hb dX10_writeBytes_18 (by decide) ?_
    exact ih2 _ _ _ _ (by omega) ⟨(k2_2 + 1), (v2_2 + 1), g__7, (by omega), (by omega), rfl, hP, hD, hS, lv_sub hl [0, 1, 2] rfl⟩
set_option maxHeartbeats 4000000 in
set_option maxRecDepth 100000 in
theorem c_X10_separate (l : Launch) (D : va_G) (κ : Nat → ClassId) (κq : Nat → Nat) (wr : Nat) (d : Nat) (wb : Nat) (L : Nat) (bf : Nat → Int32) (dl : Nat → Int32) (i : Nat) (hL : L ≤ 90000) (hi : i ≤ 8) : Et l yX10_separate (wl yX10_separate cX10_separate 2 none) { frames := 1, cells := 0, slots := 0, locals := 21 } D κ κq [.ref wr, .int (nI i)] [(wr, .inr (10, [.ref d, .ref wb, .int (nI L)])), (d, .inl (κ 0, 6, .inl dl)), (wb, .inl (κ 1, 6000, .inl bf))] (fun u9 : Nat × (Nat → Int32) => none) (fun u9 : Nat × (Nat → Int32) => L ≤ u9.1 ∧ u9.1 ≤ L + 1) (fun u9 : Nat × (Nat → Int32) => [(wr, .inr (10, [.ref d, .ref wb, .int (nI u9.1)])), (d, .inl (κ 0, 6, .inl dl)), (wb, .inl (κ 1, 6000, .inl u9.2))]) := by
  refine et_of (by decide +kernel) (Nat.le_of_ble_eq_true rfl) ?_
  intro p e s m args below meth c A ls hx hb hr hml hts hown hlk hin hKK hK hA hP hD hS hE hl
  have hS : va_S A s.heap s.heap [] := hS
  have hP : va_P D vwCl ([(wr, .inr (10, [.ref d, .ref wb, .int (nI L)])), (d, .inl (κ 0, 6, .inl dl)), (wb, .inl (κ 1, 6000, .inl bf))] ++ []) s.heap := hP
  have hD : va_D A ([(wr, .inr (10, [.ref d, .ref wb, .int (nI L)])), (d, .inl (κ 0, 6, .inl dl)), (wb, .inl (κ 1, 6000, .inl bf))] ++ []) := hD
  have hFX : FX p s m args c cX10_separate 2 RX10 := ⟨hx, hb, hml, hown, hts⟩
  have hl : lv_has ls 2 [(0, .ref wr), (1, .int (nI i))] := hl
  refine lv_iload_n hx hb dX10_separate_0 rfl (lv_at hl 1 rfl) ?_
  refine lv_if_le (tgt := 14) hx hb dX10_separate_1 (by decide) (fun c_1 => ?_) (fun c_1 => ?_)
  · have nc_1 := cv_le (a := i) (b := 0) (by omega) (by omega) c_1
    exact et_vret hx hb hr hlk hS (L, bf) rfl ⟨(show L ≤ L from (by first | assumption | omega | rfl | exact Or.inl (by assumption) | exact Or.inr (by assumption))), (show L ≤ L + 1 from (by first | assumption | omega | rfl | exact Or.inl (by assumption) | exact Or.inr (by assumption)))⟩ (subP0 hP [0, 1, 2] rfl) (hD.sub [0, 1, 2] (by decide) rfl) (Nat.le_of_ble_eq_true rfl) (Nat.le_of_ble_eq_true rfl) dX10_separate_14
  · have nc_1 := cv_nle (a := i) (b := 0) (by omega) (by omega) c_1
    refine lv_aload_n hx hb dX10_separate_4 rfl (lv_at hl 0 rfl) ?_
    refine lv_aload_n hx hb dX10_separate_5 rfl (lv_at hl 0 rfl) ?_
    refine va_get (D := D) (ci := 10) (v := .ref d) (C := RX10) (T := TX10) (N := 3) hx hb hts inlX10 hown hK hP 0 rfl rfl 0 (by decide) (hts _ mw_182) (fun _ h9 => h9) rfl dX10_separate_6 ?_
    refine lv_iconst (v := 0) hx hb dX10_separate_9 (by decide) ?_
    refine va_iald hx hb hK hP 1 0 rfl rfl (i := 0) (vp_k (by decide)) dX10_separate_10 ?_
    obtain ⟨x_2, ex_2⟩ : ∃ y9 : Int32, dl 0 = y9 := ⟨_, rfl⟩
    refine kv (v := .int x_2) (congrArg Value.int ex_2) ?_
    refine et_VN (CR := [(d, .inl (κ 0, 6, .inl dl))]) (As := [.int x_2]) (rest := []) hFX hKK hE hP hD hS hA (c_X10_append l D κ κq wr d wb L bf x_2 (by omega)) 1 gV_X10_68 hdV_X10_append ⟨Nat.le_of_ble_eq_true rfl, Nat.le_of_ble_eq_true rfl⟩ rfl rfl (Nat.le_of_ble_eq_true rfl) dX10_separate_11 ⟨Nat.le_of_ble_eq_true rfl, Nat.le_of_ble_eq_true rfl⟩ hl.1 [0, 2] [1] rfl rfl (by decide) (by decide) (by decide) hP 0 10 rfl rfl rfl (fun g__3 H locs hp_4 hP hD hS => ?_)
    replace hP : va_P D vwCl ([(wr, .inr (10, [.ref d, .ref wb, .int (nI (L + 1))])), (d, .inl (κ 0, 6, .inl dl)), (wb, .inl (κ 1, 6000, .inl g__3))] ++ []) H := subP (C := [(d, .inl (κ 0, 6, .inl dl)), (wr, .inr (10, [.ref d, .ref wb, .int (nI (L + 1))])), (wb, .inl (κ 1, 6000, .inl g__3))]) hP [1, 0, 2] rfl
    replace hD : va_D A ([(wr, .inr (10, [.ref d, .ref wb, .int (nI (L + 1))])), (d, .inl (κ 0, 6, .inl dl)), (wb, .inl (κ 1, 6000, .inl g__3))] ++ []) := subD (C := [(d, .inl (κ 0, 6, .inl dl)), (wr, .inr (10, [.ref d, .ref wb, .int (nI (L + 1))])), (wb, .inl (κ 1, 6000, .inl g__3))]) hD [1, 0, 2] (by decide) rfl
    refine W.eq (g2 := F0 m 14 ls []) rfl ?_
    exact et_vret hx hb hr hlk hS (L + 1, g__3) rfl ⟨(show L ≤ (L + 1) from (by first | assumption | omega | rfl | exact Or.inl (by assumption) | exact Or.inr (by assumption))), (show (L + 1) ≤ L + 1 from (by first | assumption | omega | rfl | exact Or.inl (by assumption) | exact Or.inr (by assumption)))⟩ (subP0 hP [0, 1, 2] rfl) (hD.sub [0, 1, 2] (by decide) rfl) (Nat.le_of_ble_eq_true rfl) (Nat.le_of_ble_eq_true rfl) dX10_separate_14
set_option maxHeartbeats 4000000 in
set_option maxRecDepth 100000 in
theorem c_X10_writeQuoted (l : Launch) (D : va_G) (κ : Nat → ClassId) (κq : Nat → Nat) (im : va_W) (wr : Nat) (d : Nat) (wb : Nat) (L : Nat) (bf : Nat → Int32) (dl : Nat → Int32) (b : Nat) (n : Nat) (hL : L ≤ 90000) (hby : By κ im b n) : Et l yX10_writeQuoted (wl yX10_writeQuoted cX10_writeQuoted 3 none) { frames := 1, cells := 0, slots := 0, locals := 21 } D κ κq [.ref wr, .ref b] ([(wr, .inr (10, [.ref d, .ref wb, .int (nI L)])), (d, .inl (κ 0, 6, .inl dl)), (wb, .inl (κ 1, 6000, .inl bf))] ++ im) (fun u9 : Nat × (Nat → Int32) => none) (fun u9 : Nat × (Nat → Int32) => L ≤ u9.1 ∧ u9.1 ≤ L + 2 * n + 2 ∧ n ≤ 20) (fun u9 : Nat × (Nat → Int32) => ([(wr, .inr (10, [.ref d, .ref wb, .int (nI u9.1)])), (d, .inl (κ 0, 6, .inl dl)), (wb, .inl (κ 1, 6000, .inl u9.2))] ++ im)) := by
  refine et_of (by decide +kernel) (Nat.le_of_ble_eq_true rfl) ?_
  intro p e s m args below meth c A ls hx hb hr hml hts hown hlk hin hKK hK hA hP hD hS hE hl
  have hS : va_S A s.heap s.heap [] := hS
  have hP : va_P D vwCl ([(wr, .inr (10, [.ref d, .ref wb, .int (nI L)])), (d, .inl (κ 0, 6, .inl dl)), (wb, .inl (κ 1, 6000, .inl bf))] ++ im) s.heap := hP
  have hD : va_D A ([(wr, .inr (10, [.ref d, .ref wb, .int (nI L)])), (d, .inl (κ 0, 6, .inl dl)), (wb, .inl (κ 1, 6000, .inl bf))] ++ im) := hD
  have hFX : FX p s m args c cX10_writeQuoted 3 RX10 := ⟨hx, hb, hml, hown, hts⟩
  have hl : lv_has ls 3 [(0, .ref wr), (1, .ref b)] := hl
  obtain ⟨hn_2, f_1, hm_3, hfit_4⟩ := id hby
  refine lv_aload_n hx hb dX10_writeQuoted_0 rfl (lv_at hl 0 rfl) ?_
  refine lv_aload_n hx hb dX10_writeQuoted_1 rfl (lv_at hl 0 rfl) ?_
  refine va_get (D := D) (ci := 10) (v := .ref d) (C := RX10) (T := TX10) (N := 3) hx hb hts inlX10 hown hK hP 0 rfl rfl 0 (by decide) (hts _ mw_182) (fun _ h9 => h9) rfl dX10_writeQuoted_2 ?_
  refine lv_iconst (v := 1) hx hb dX10_writeQuoted_5 (by decide) ?_
  refine va_iald hx hb hK hP 1 0 rfl rfl (i := 1) (vp_k (by decide)) dX10_writeQuoted_6 ?_
  obtain ⟨x_5, ex_5⟩ : ∃ y9 : Int32, dl 1 = y9 := ⟨_, rfl⟩
  refine kv (v := .int x_5) (congrArg Value.int ex_5) ?_
  refine et_VN (CR := [(d, .inl (κ 0, 6, .inl dl))]) (As := [.int x_5]) (rest := []) hFX hKK hE hP hD hS hA (c_X10_append l D κ κq wr d wb L bf x_5 (by omega)) 1 gV_X10_68 hdV_X10_append ⟨Nat.le_of_ble_eq_true rfl, Nat.le_of_ble_eq_true rfl⟩ rfl rfl (Nat.le_of_ble_eq_true rfl) dX10_writeQuoted_7 ⟨Nat.le_of_ble_eq_true rfl, Nat.le_of_ble_eq_true rfl⟩ hl.1 [0, 2] [1] rfl rfl (by decide) (by decide) (by decide) hP 0 10 rfl rfl rfl (fun g__6 H locs hp_7 hP hD hS => ?_)
  replace hP : va_P D vwCl ([(wr, .inr (10, [.ref d, .ref wb, .int (nI (L + 1))])), (d, .inl (κ 0, 6, .inl dl)), (wb, .inl (κ 1, 6000, .inl g__6))] ++ im) H := subP (C := [(d, .inl (κ 0, 6, .inl dl)), (wr, .inr (10, [.ref d, .ref wb, .int (nI (L + 1))])), (wb, .inl (κ 1, 6000, .inl g__6))]) hP [1, 0, 2] rfl
  replace hD : va_D A ([(wr, .inr (10, [.ref d, .ref wb, .int (nI (L + 1))])), (d, .inl (κ 0, 6, .inl dl)), (wb, .inl (κ 1, 6000, .inl g__6))] ++ im) := subD (C := [(d, .inl (κ 0, 6, .inl dl)), (wr, .inr (10, [.ref d, .ref wb, .int (nI (L + 1))])), (wb, .inl (κ 1, 6000, .inl g__6))]) hD [1, 0, 2] (by decide) rfl
  refine W.eq (g2 := F0 m 10 ls []) rfl ?_
  refine lv_iconst (v := 0) hx hb dX10_writeQuoted_10 (by decide) ?_
  refine lv_istore_n (lv' := [(2, .int 0), (0, .ref wr), (1, .ref b)]) hx hb dX10_writeQuoted_11 rfl hl (by decide) rfl (fun ls hl => ?_)
  refine loop_dn (fun k9 H locs ls => ∃ (k2_12 : Nat), ∃ (v2_12 : Nat), ∃ (gwb_12 : Nat → Int32), (k2_12 ≤ n) ∧ (L ≤ v2_12) ∧ (v2_12 ≤ L + 1 + 2 * k2_12) ∧ n - k2_12 = k9 ∧ va_P D vwCl ([(wr, .inr (10, [.ref d, .ref wb, .int (nI v2_12)])), (d, .inl (κ 0, 6, .inl dl)), (wb, .inl (κ 1, 6000, .inl gwb_12))] ++ im) H ∧ va_D A ([(wr, .inr (10, [.ref d, .ref wb, .int (nI v2_12)])), (d, .inl (κ 0, 6, .inl dl)), (wb, .inl (κ 1, 6000, .inl gwb_12))] ++ im) ∧ va_S A s.heap H locs ∧ lv_has ls 3 [(2, .int (nI k2_12)), (0, .ref wr), (1, .ref b)]) (fun k9 H locs ls hI12 ih12 => ?_) (n - 0) _ _ _ ⟨0, (L + 1), g__6, (by omega), (by omega), (by omega), rfl, hP, hD, hS, lv_sub hl [0, 1, 2] rfl⟩
  obtain ⟨k2_12, v2_12, gwb_12, hl12_0, hl12_1, hl12_2, hm12, hP, hD, hS, hl⟩ := hI12
  refine lv_iload_n hx hb dX10_writeQuoted_12 rfl (lv_at hl 0 rfl) ?_
  refine lv_aload_n hx hb dX10_writeQuoted_13 rfl (lv_at hl 2 rfl) ?_
  refine va_alen hx hb hK (oneP (C := [(wr, .inr (10, [.ref d, .ref wb, .int (nI v2_12)])), (d, .inl (κ 0, 6, .inl dl)), (wb, .inl (κ 1, 6000, .inl gwb_12))]) hP hm_3) 0 1 rfl rfl (v := nI n) rfl dX10_writeQuoted_14 ?_
  refine lv_icmp_ge (tgt := 53) hx hb dX10_writeQuoted_15 (by decide) (fun c_8 => ?_) (fun c_8 => ?_)
  · have nc_8 := cv_le (a := n) (b := k2_12) (by omega) (by omega) c_8
    refine lv_aload_n hx hb dX10_writeQuoted_53 rfl (lv_at hl 1 rfl) ?_
    refine lv_aload_n hx hb dX10_writeQuoted_54 rfl (lv_at hl 1 rfl) ?_
    refine va_get (D := D) (ci := 10) (v := .ref d) (C := RX10) (T := TX10) (N := 3) hx hb hts inlX10 hown hK hP 0 rfl rfl 0 (by decide) (hts _ mw_182) (fun _ h9 => h9) rfl dX10_writeQuoted_55 ?_
    refine lv_iconst (v := 1) hx hb dX10_writeQuoted_58 (by decide) ?_
    refine va_iald hx hb hK hP 1 0 rfl rfl (i := 1) (vp_k (by decide)) dX10_writeQuoted_59 ?_
    refine kv (v := .int x_5) (congrArg Value.int (ex_5)) ?_
    refine et_VN (CR := [(d, .inl (κ 0, 6, .inl dl))]) (As := [.int x_5]) (rest := []) hFX hKK hE hP hD hS hA (c_X10_append l D κ κq wr d wb v2_12 gwb_12 x_5 (by omega)) 1 gV_X10_68 hdV_X10_append ⟨Nat.le_of_ble_eq_true rfl, Nat.le_of_ble_eq_true rfl⟩ rfl rfl (Nat.le_of_ble_eq_true rfl) dX10_writeQuoted_60 ⟨Nat.le_of_ble_eq_true rfl, Nat.le_of_ble_eq_true rfl⟩ hl.1 [0, 2] [1] rfl rfl (by decide) (by decide) (by decide) hP 0 10 rfl rfl rfl (fun g__9 H locs hp_10 hP hD hS => ?_)
    replace hP : va_P D vwCl ([(wr, .inr (10, [.ref d, .ref wb, .int (nI (v2_12 + 1))])), (d, .inl (κ 0, 6, .inl dl)), (wb, .inl (κ 1, 6000, .inl g__9))] ++ im) H := subP (C := [(d, .inl (κ 0, 6, .inl dl)), (wr, .inr (10, [.ref d, .ref wb, .int (nI (v2_12 + 1))])), (wb, .inl (κ 1, 6000, .inl g__9))]) hP [1, 0, 2] rfl
    replace hD : va_D A ([(wr, .inr (10, [.ref d, .ref wb, .int (nI (v2_12 + 1))])), (d, .inl (κ 0, 6, .inl dl)), (wb, .inl (κ 1, 6000, .inl g__9))] ++ im) := subD (C := [(d, .inl (κ 0, 6, .inl dl)), (wr, .inr (10, [.ref d, .ref wb, .int (nI (v2_12 + 1))])), (wb, .inl (κ 1, 6000, .inl g__9))]) hD [1, 0, 2] (by decide) rfl
    refine W.eq (g2 := F0 m 63 ls []) rfl ?_
    exact et_vret hx hb hr hlk hS (v2_12 + 1, g__9) rfl ⟨(show L ≤ (v2_12 + 1) from (by first | assumption | omega | rfl | exact Or.inl (by assumption) | exact Or.inr (by assumption))), (show (v2_12 + 1) ≤ L + 2 * n + 2 from (by first | assumption | omega | rfl | exact Or.inl (by assumption) | exact Or.inr (by assumption))), (show n ≤ 20 from (by first | assumption | omega | rfl | exact Or.inl (by assumption) | exact Or.inr (by assumption)))⟩ (subP hP [0, 1, 2] rfl) (subD hD [0, 1, 2] (by decide) rfl) (Nat.le_of_ble_eq_true rfl) (Nat.le_of_ble_eq_true rfl) dX10_writeQuoted_63
  · have nc_8 := cv_nle (a := n) (b := k2_12) (by omega) (by omega) c_8
    refine lv_aload_n hx hb dX10_writeQuoted_18 rfl (lv_at hl 2 rfl) ?_
    refine lv_iload_n hx hb dX10_writeQuoted_19 rfl (lv_at hl 0 rfl) ?_
    refine va_bald hx hb hK (oneP (C := [(wr, .inr (10, [.ref d, .ref wb, .int (nI v2_12)])), (d, .inl (κ 0, 6, .inl dl)), (wb, .inl (κ 1, 6000, .inl gwb_12))]) hP hm_3) 0 1 rfl rfl (i := nI k2_12) (vp_in_nI (n := k2_12) (by omega) (by omega)) dX10_writeQuoted_20 ?_
    refine kv (v := .int (f_1 k2_12)) (by rw [nI_clamp (by omega)]) ?_
    obtain ⟨x_11, ex_11⟩ : ∃ y9 : Int32, f_1 k2_12 = y9 := ⟨_, rfl⟩
    refine kv (v := .int x_11) (congrArg Value.int ex_11) ?_
    refine lv_aload_n hx hb dX10_writeQuoted_21 rfl (lv_at hl 1 rfl) ?_
    refine va_get (D := D) (ci := 10) (v := .ref d) (C := RX10) (T := TX10) (N := 3) hx hb hts inlX10 hown hK hP 0 rfl rfl 0 (by decide) (hts _ mw_182) (fun _ h9 => h9) rfl dX10_writeQuoted_22 ?_
    refine lv_iconst (v := 1) hx hb dX10_writeQuoted_25 (by decide) ?_
    refine va_iald hx hb hK hP 1 0 rfl rfl (i := 1) (vp_k (by decide)) dX10_writeQuoted_26 ?_
    refine kv (v := .int x_5) (congrArg Value.int (ex_5)) ?_
    refine lv_icmp_ne (tgt := 40) hx hb dX10_writeQuoted_27 (by decide) (fun c_12 => ?_) (fun c_12 => ?_)
    · refine lv_aload_n hx hb dX10_writeQuoted_40 rfl (lv_at hl 1 rfl) ?_
      refine lv_aload_n hx hb dX10_writeQuoted_41 rfl (lv_at hl 2 rfl) ?_
      refine lv_iload_n hx hb dX10_writeQuoted_42 rfl (lv_at hl 0 rfl) ?_
      refine va_bald hx hb hK (oneP (C := [(wr, .inr (10, [.ref d, .ref wb, .int (nI v2_12)])), (d, .inl (κ 0, 6, .inl dl)), (wb, .inl (κ 1, 6000, .inl gwb_12))]) hP hm_3) 0 1 rfl rfl (i := nI k2_12) (vp_in_nI (n := k2_12) (by omega) (by omega)) dX10_writeQuoted_43 ?_
      refine kv (v := .int x_11) (by rw [nI_clamp (by omega)]; exact congrArg Value.int ex_11) ?_
      refine et_VN (CR := [(d, .inl (κ 0, 6, .inl dl))]) (As := [.int x_11]) (rest := []) hFX hKK hE hP hD hS hA (c_X10_append l D κ κq wr d wb v2_12 gwb_12 x_11 (by omega)) 1 gV_X10_68 hdV_X10_append ⟨Nat.le_of_ble_eq_true rfl, Nat.le_of_ble_eq_true rfl⟩ rfl rfl (Nat.le_of_ble_eq_true rfl) dX10_writeQuoted_44 ⟨Nat.le_of_ble_eq_true rfl, Nat.le_of_ble_eq_true rfl⟩ hl.1 [0, 2] [1] rfl rfl (by decide) (by decide) (by decide) hP 0 10 rfl rfl rfl (fun g__13 H locs hp_14 hP hD hS => ?_)
      replace hP : va_P D vwCl ([(wr, .inr (10, [.ref d, .ref wb, .int (nI (v2_12 + 1))])), (d, .inl (κ 0, 6, .inl dl)), (wb, .inl (κ 1, 6000, .inl g__13))] ++ im) H := subP (C := [(d, .inl (κ 0, 6, .inl dl)), (wr, .inr (10, [.ref d, .ref wb, .int (nI (v2_12 + 1))])), (wb, .inl (κ 1, 6000, .inl g__13))]) hP [1, 0, 2] rfl
      replace hD : va_D A ([(wr, .inr (10, [.ref d, .ref wb, .int (nI (v2_12 + 1))])), (d, .inl (κ 0, 6, .inl dl)), (wb, .inl (κ 1, 6000, .inl g__13))] ++ im) := subD (C := [(d, .inl (κ 0, 6, .inl dl)), (wr, .inr (10, [.ref d, .ref wb, .int (nI (v2_12 + 1))])), (wb, .inl (κ 1, 6000, .inl g__13))]) hD [1, 0, 2] (by decide) rfl
      refine W.eq (g2 := F0 m 47 ls []) rfl ?_
      refine lv_iinc (v := (nI (k2_12 + 1))) (lv' := [(2, .int (nI (k2_12 + 1))), (0, .ref wr), (1, .ref b)]) hx hb dX10_writeQuoted_47 hl (k := 0) rfl (nI_i k2_12) (by decide) rfl (fun ls hl => ?_)
      refine lv_goto (tgt := 12) hx hb dX10_writeQuoted_50 (by decide) ?_
      exact ih12 _ _ _ _ (by omega) ⟨(k2_12 + 1), (v2_12 + 1), g__13, (by omega), (by omega), (by omega), rfl, hP, hD, hS, lv_sub hl [0, 1, 2] rfl⟩
    · refine lv_aload_n hx hb dX10_writeQuoted_30 rfl (lv_at hl 1 rfl) ?_
      refine lv_aload_n hx hb dX10_writeQuoted_31 rfl (lv_at hl 1 rfl) ?_
      refine va_get (D := D) (ci := 10) (v := .ref d) (C := RX10) (T := TX10) (N := 3) hx hb hts inlX10 hown hK hP 0 rfl rfl 0 (by decide) (hts _ mw_182) (fun _ h9 => h9) rfl dX10_writeQuoted_32 ?_
      refine lv_iconst (v := 1) hx hb dX10_writeQuoted_35 (by decide) ?_
      refine va_iald hx hb hK hP 1 0 rfl rfl (i := 1) (vp_k (by decide)) dX10_writeQuoted_36 ?_
      refine kv (v := .int x_5) (congrArg Value.int (ex_5)) ?_
      refine et_VN (CR := [(d, .inl (κ 0, 6, .inl dl))]) (As := [.int x_5]) (rest := []) hFX hKK hE hP hD hS hA (c_X10_append l D κ κq wr d wb v2_12 gwb_12 x_5 (by omega)) 1 gV_X10_68 hdV_X10_append ⟨Nat.le_of_ble_eq_true rfl, Nat.le_of_ble_eq_true rfl⟩ rfl rfl (Nat.le_of_ble_eq_true rfl) dX10_writeQuoted_37 ⟨Nat.le_of_ble_eq_true rfl, Nat.le_of_ble_eq_true rfl⟩ hl.1 [0, 2] [1] rfl rfl (by decide) (by decide) (by decide) hP 0 10 rfl rfl rfl (fun g__15 H locs hp_16 hP hD hS => ?_)
      replace hP : va_P D vwCl ([(wr, .inr (10, [.ref d, .ref wb, .int (nI (v2_12 + 1))])), (d, .inl (κ 0, 6, .inl dl)), (wb, .inl (κ 1, 6000, .inl g__15))] ++ im) H := subP (C := [(d, .inl (κ 0, 6, .inl dl)), (wr, .inr (10, [.ref d, .ref wb, .int (nI (v2_12 + 1))])), (wb, .inl (κ 1, 6000, .inl g__15))]) hP [1, 0, 2] rfl
      replace hD : va_D A ([(wr, .inr (10, [.ref d, .ref wb, .int (nI (v2_12 + 1))])), (d, .inl (κ 0, 6, .inl dl)), (wb, .inl (κ 1, 6000, .inl g__15))] ++ im) := subD (C := [(d, .inl (κ 0, 6, .inl dl)), (wr, .inr (10, [.ref d, .ref wb, .int (nI (v2_12 + 1))])), (wb, .inl (κ 1, 6000, .inl g__15))]) hD [1, 0, 2] (by decide) rfl
      refine W.eq (g2 := F0 m 40 ls []) rfl ?_
      refine lv_aload_n hx hb dX10_writeQuoted_40 rfl (lv_at hl 1 rfl) ?_
      refine lv_aload_n hx hb dX10_writeQuoted_41 rfl (lv_at hl 2 rfl) ?_
      refine lv_iload_n hx hb dX10_writeQuoted_42 rfl (lv_at hl 0 rfl) ?_
      refine va_bald hx hb hK (oneP (C := [(wr, .inr (10, [.ref d, .ref wb, .int (nI (v2_12 + 1))])), (d, .inl (κ 0, 6, .inl dl)), (wb, .inl (κ 1, 6000, .inl g__15))]) hP hm_3) 0 1 rfl rfl (i := nI k2_12) (vp_in_nI (n := k2_12) (by omega) (by omega)) dX10_writeQuoted_43 ?_
      refine kv (v := .int x_11) (by rw [nI_clamp (by omega)]; exact congrArg Value.int ex_11) ?_
      refine et_VN (CR := [(d, .inl (κ 0, 6, .inl dl))]) (As := [.int x_11]) (rest := []) hFX hKK hE hP hD hS hA (c_X10_append l D κ κq wr d wb (v2_12 + 1) g__15 x_11 (by omega)) 1 gV_X10_68 hdV_X10_append ⟨Nat.le_of_ble_eq_true rfl, Nat.le_of_ble_eq_true rfl⟩ rfl rfl (Nat.le_of_ble_eq_true rfl) dX10_writeQuoted_44 ⟨Nat.le_of_ble_eq_true rfl, Nat.le_of_ble_eq_true rfl⟩ hl.1 [0, 2] [1] rfl rfl (by decide) (by decide) (by decide) hP 0 10 rfl rfl rfl (fun g__17 H locs hp_18 hP hD hS => ?_)
      replace hP : va_P D vwCl ([(wr, .inr (10, [.ref d, .ref wb, .int (nI ((v2_12 + 1) + 1))])), (d, .inl (κ 0, 6, .inl dl)), (wb, .inl (κ 1, 6000, .inl g__17))] ++ im) H := subP (C := [(d, .inl (κ 0, 6, .inl dl)), (wr, .inr (10, [.ref d, .ref wb, .int (nI ((v2_12 + 1) + 1))])), (wb, .inl (κ 1, 6000, .inl g__17))]) hP [1, 0, 2] rfl
      replace hD : va_D A ([(wr, .inr (10, [.ref d, .ref wb, .int (nI ((v2_12 + 1) + 1))])), (d, .inl (κ 0, 6, .inl dl)), (wb, .inl (κ 1, 6000, .inl g__17))] ++ im) := subD (C := [(d, .inl (κ 0, 6, .inl dl)), (wr, .inr (10, [.ref d, .ref wb, .int (nI ((v2_12 + 1) + 1))])), (wb, .inl (κ 1, 6000, .inl g__17))]) hD [1, 0, 2] (by decide) rfl
      refine W.eq (g2 := F0 m 47 ls []) rfl ?_
      refine lv_iinc (v := (nI (k2_12 + 1))) (lv' := [(2, .int (nI (k2_12 + 1))), (0, .ref wr), (1, .ref b)]) hx hb dX10_writeQuoted_47 hl (k := 0) rfl (nI_i k2_12) (by decide) rfl (fun ls hl => ?_)
      refine lv_goto (tgt := 12) hx hb dX10_writeQuoted_50 (by decide) ?_
      exact ih12 _ _ _ _ (by omega) ⟨(k2_12 + 1), ((v2_12 + 1) + 1), g__17, (by omega), (by omega), (by omega), rfl, hP, hD, hS, lv_sub hl [0, 1, 2] rfl⟩
set_option maxHeartbeats 4000000 in
set_option maxRecDepth 100000 in
theorem c_X10_closeLine (l : Launch) (D : va_G) (κ : Nat → ClassId) (κq : Nat → Nat) (wr : Nat) (d : Nat) (wb : Nat) (L : Nat) (bf : Nat → Int32) (beg : Nat) (hL : L ≤ 90000) (hbg : beg ≤ 6000) : Et l yX10_closeLine (wl yX10_closeLine cX10_closeLine 2 (some .boolean)) { frames := 1, cells := 0, slots := 0, locals := 21 } D κ κq [.ref wr, .int (nI beg)] [(wr, .inr (10, [.ref d, .ref wb, .int (nI L)])), (wb, .inl (κ 1, 6000, .inl bf))] (fun u9 : Int32 × Nat × (Nat → Int32) => some (.int u9.1)) (fun u9 : Int32 × Nat × (Nat → Int32) => u9.2.1 ≤ 6000 ∧ ((u9.1 = 1) ∨ (u9.1 = 0))) (fun u9 : Int32 × Nat × (Nat → Int32) => [(wr, .inr (10, [.ref d, .ref wb, .int (nI u9.2.1)])), (wb, .inl (κ 1, 6000, .inl u9.2.2))]) := by
  refine et_of (by decide +kernel) (Nat.le_of_ble_eq_true rfl) ?_
  intro p e s m args below meth c A ls hx hb hr hml hts hown hlk hin hKK hK hA hP hD hS hE hl
  have hS : va_S A s.heap s.heap [] := hS
  have hP : va_P D vwCl ([(wr, .inr (10, [.ref d, .ref wb, .int (nI L)])), (wb, .inl (κ 1, 6000, .inl bf))] ++ []) s.heap := hP
  have hD : va_D A ([(wr, .inr (10, [.ref d, .ref wb, .int (nI L)])), (wb, .inl (κ 1, 6000, .inl bf))] ++ []) := hD
  have hFX : FX p s m args c cX10_closeLine 2 RX10 := ⟨hx, hb, hml, hown, hts⟩
  have hl : lv_has ls 2 [(0, .ref wr), (1, .int (nI beg))] := hl
  refine lv_aload_n hx hb dX10_closeLine_0 rfl (lv_at hl 0 rfl) ?_
  refine lv_bipush (v := 10) hx hb dX10_closeLine_1 (by decide) ?_
  refine et_VN (CR := []) (As := [.int 10]) (rest := []) hFX hKK hE hP hD hS hA (c_X10_append l D κ κq wr d wb L bf 10 (by omega)) 1 gV_X10_68 hdV_X10_append ⟨Nat.le_of_ble_eq_true rfl, Nat.le_of_ble_eq_true rfl⟩ rfl rfl (Nat.le_of_ble_eq_true rfl) dX10_closeLine_3 ⟨Nat.le_of_ble_eq_true rfl, Nat.le_of_ble_eq_true rfl⟩ hl.1 [0, 1] [] rfl rfl (by decide) (by decide) (by decide) hP 0 10 rfl rfl rfl (fun g__1 H locs hp_2 hP hD hS => ?_)
  replace hP : va_P D vwCl ([(wr, .inr (10, [.ref d, .ref wb, .int (nI (L + 1))])), (wb, .inl (κ 1, 6000, .inl g__1))] ++ []) H := subP (C := [(wr, .inr (10, [.ref d, .ref wb, .int (nI (L + 1))])), (wb, .inl (κ 1, 6000, .inl g__1))]) hP [0, 1] rfl
  replace hD : va_D A ([(wr, .inr (10, [.ref d, .ref wb, .int (nI (L + 1))])), (wb, .inl (κ 1, 6000, .inl g__1))] ++ []) := subD (C := [(wr, .inr (10, [.ref d, .ref wb, .int (nI (L + 1))])), (wb, .inl (κ 1, 6000, .inl g__1))]) hD [0, 1] (by decide) rfl
  refine W.eq (g2 := F0 m 6 ls []) rfl ?_
  refine lv_aload_n hx hb dX10_closeLine_6 rfl (lv_at hl 0 rfl) ?_
  refine va_get (D := D) (ci := 10) (v := .int (nI (L + 1))) (C := RX10) (T := TX10) (N := 3) hx hb hts inlX10 hown hK hP 0 rfl rfl 2 (by decide) (hts _ mw_181) (fun _ h9 => h9) rfl dX10_closeLine_7 ?_
  refine lv_sipush (v := 6000) hx hb dX10_closeLine_10 (by decide) ?_
  refine lv_icmp_le (tgt := 23) hx hb dX10_closeLine_13 (by decide) (fun c_3 => ?_) (fun c_3 => ?_)
  · have nc_3 := cv_le (a := (L + 1)) (b := 6000) (by omega) (by omega) c_3
    refine lv_iconst (v := 1) hx hb dX10_closeLine_23 (by decide) ?_
    exact et_iret hx hb hr hlk rfl hS (1, L + 1, g__1) rfl ⟨(show (L + 1) ≤ 6000 from (by first | assumption | omega | rfl | exact Or.inl (by assumption) | exact Or.inr (by assumption))), (by exact Or.inl (rfl))⟩ (subP0 hP [0, 1] rfl) (hD.sub [0, 1] (by decide) rfl) (Nat.le_of_ble_eq_true rfl) (Nat.le_of_ble_eq_true rfl) dX10_closeLine_24
  · have nc_3 := cv_nle (a := (L + 1)) (b := 6000) (by omega) (by omega) c_3
    refine lv_aload_n hx hb dX10_closeLine_16 rfl (lv_at hl 0 rfl) ?_
    refine lv_iload_n hx hb dX10_closeLine_17 rfl (lv_at hl 1 rfl) ?_
    refine va_put (D := D) (ci := 10) (v := .int (nI beg)) (ty := tyX10 2) (C := RX10) (T := TX10) (N := 3) hx hb hts inlX10 tyX10 tyX10_ok nmX10 hown hK hP hD hS 0 rfl rfl 2 (by decide) (hts _ mw_181) (fun _ h9 => h9) rfl (tyX10_ok 2 (by decide)) rfl rfl (Nat.le_of_ble_eq_true rfl) dX10_closeLine_18 (fun H locs hP hD hS => ?_)
    have hP : va_P D vwCl ([(wr, .inr (10, [.ref d, .ref wb, .int (nI beg)])), (wb, .inl (κ 1, 6000, .inl g__1))] ++ []) H := hP
    have hD : va_D A ([(wr, .inr (10, [.ref d, .ref wb, .int (nI beg)])), (wb, .inl (κ 1, 6000, .inl g__1))] ++ []) := hD
    refine lv_iconst (v := 0) hx hb dX10_closeLine_21 (by decide) ?_
    exact et_iret hx hb hr hlk rfl hS (0, beg, g__1) rfl ⟨(show beg ≤ 6000 from (by first | assumption | omega | rfl | exact Or.inl (by assumption) | exact Or.inr (by assumption))), (by exact Or.inr ((rfl)))⟩ (subP0 hP [0, 1] rfl) (hD.sub [0, 1] (by decide) rfl) (Nat.le_of_ble_eq_true rfl) (Nat.le_of_ble_eq_true rfl) dX10_closeLine_22
set_option maxHeartbeats 4000000 in
set_option maxRecDepth 100000 in
theorem c_X10_needsQuotes (l : Launch) (D : va_G) (κ : Nat → ClassId) (κq : Nat → Nat) (im : va_W) (wr : Nat) (d : Nat) (wb : Nat) (L : Nat) (dl : Nat → Int32) (ce : Nat) (k : Nat) (n : Nat) (i : Nat) (w : Nat) (hc : Cl κ im ce k n) (hi : i ≤ 8) (hw : w ≤ 8) : Er l yX10_needsQuotes (wl yX10_needsQuotes cX10_needsQuotes 6 (some .boolean)) { frames := 0, cells := 0, slots := 0, locals := 0 } D κ κq [.ref wr, .ref ce, .int (nI i), .int (nI w)] ([(wr, .inr (10, [.ref d, .ref wb, .int (nI L)])), (d, .inl (κ 0, 6, .inl dl))] ++ im) (fun r : Int32 => some (.int r)) (fun r : Int32 => ((r = 1) ∨ (r = 0))) := by
  refine er_of (by decide +kernel) (Nat.le_of_ble_eq_true rfl) ?_
  intro p e s m args below meth c A ls hx hb hr hml hts hown hlk hKK hK hP hE hl
  have hS : va_S A s.heap s.heap [] := va_S.rf
  have hP : va_P D vwCl ([(wr, .inr (10, [.ref d, .ref wb, .int (nI L)])), (d, .inl (κ 0, 6, .inl dl))] ++ im) s.heap := hP
  have hFX : FX p s m args c cX10_needsQuotes 6 RX10 := ⟨hx, hb, hml, hown, hts⟩
  have hl : lv_has ls 6 [(0, .ref wr), (1, .ref ce), (2, .int (nI i)), (3, .int (nI w))] := hl
  obtain ⟨hk_1, b_2, x_3, hm_4, hb_5⟩ := id hc
  have hn_b_2 := hb_5.1
  obtain ⟨hn_7, f_6, hm_8, hfit_9⟩ := id hb_5
  refine lv_aload_n hx hb dX10_needsQuotes_0 rfl (lv_at hl 1 rfl) ?_
  refine va_get (D := D) (ci := 0) (v := .ref b_2) (C := RX0) (T := TX0) (N := 3) hx hb hts inlX0 hown hK (oneP (C := [(wr, .inr (10, [.ref d, .ref wb, .int (nI L)])), (d, .inl (κ 0, 6, .inl dl))]) hP hm_4) 0 rfl rfl 0 (by decide) (hts _ mw_1231) (fun _ h9 => h9) rfl dX10_needsQuotes_1 ?_
  refine lv_astore (lv' := [(4, .ref b_2), (0, .ref wr), (1, .ref ce), (2, .int (nI i)), (3, .int (nI w))]) hx hb dX10_needsQuotes_4 hl (by decide) rfl (fun ls hl => ?_)
  refine lv_aload hx hb dX10_needsQuotes_6 (lv_at hl 0 rfl) ?_
  refine va_alen hx hb hK (oneP (C := [(wr, .inr (10, [.ref d, .ref wb, .int (nI L)])), (d, .inl (κ 0, 6, .inl dl))]) hP hm_8) 0 1 rfl rfl (v := nI n) rfl dX10_needsQuotes_8 ?_
  refine lv_if_ne (tgt := 23) hx hb dX10_needsQuotes_9 (by decide) (fun c_10 => ?_) (fun c_10 => ?_)
  · have nc_10 := cv_ne (a := n) (b := 0) (by omega) (by omega) c_10
    refine lv_aload_n hx hb dX10_needsQuotes_23 rfl (lv_at hl 1 rfl) ?_
    refine va_get (D := D) (ci := 10) (v := .ref d) (C := RX10) (T := TX10) (N := 3) hx hb hts inlX10 hown hK hP 0 rfl rfl 0 (by decide) (hts _ mw_182) (fun _ h9 => h9) rfl dX10_needsQuotes_24 ?_
    refine lv_iconst (v := 3) hx hb dX10_needsQuotes_27 (by decide) ?_
    refine va_iald hx hb hK hP 1 0 rfl rfl (i := 3) (vp_k (by decide)) dX10_needsQuotes_28 ?_
    obtain ⟨x_11, ex_11⟩ : ∃ y9 : Int32, dl 3 = y9 := ⟨_, rfl⟩
    refine kv (v := .int x_11) (congrArg Value.int ex_11) ?_
    refine lv_iconst (v := 1) hx hb dX10_needsQuotes_29 (by decide) ?_
    refine lv_icmp_ne (tgt := 57) hx hb dX10_needsQuotes_30 (by decide) (fun c_12 => ?_) (fun c_12 => ?_)
    · refine lv_iload_n hx hb dX10_needsQuotes_57 rfl (lv_at hl 3 rfl) ?_
      refine lv_if_ne (tgt := 76) hx hb dX10_needsQuotes_58 (by decide) (fun c_13 => ?_) (fun c_13 => ?_)
      · have nc_13 := cv_ne (a := i) (b := 0) (by omega) (by omega) c_13
        refine lv_iconst (v := 0) hx hb dX10_needsQuotes_76 (by decide) ?_
        refine lv_istore (lv' := [(5, .int 0), (4, .ref b_2), (0, .ref wr), (1, .ref ce), (2, .int (nI i)), (3, .int (nI w))]) hx hb dX10_needsQuotes_77 hl (by decide) rfl (fun ls hl => ?_)
        refine loop_r (fun k9 ls => ∃ (k5_79 : Nat), (k5_79 ≤ n) ∧ n - k5_79 = k9 ∧ lv_has ls 6 [(5, .int (nI k5_79)), (4, .ref b_2), (0, .ref wr), (1, .ref ce), (2, .int (nI i)), (3, .int (nI w))]) (fun k9 ls hI79 ih79 => ?_) (n - 0) _ ⟨0, (by omega), rfl, lv_sub hl [0, 1, 2, 3, 4, 5] rfl⟩
        obtain ⟨k5_79, hl79_0, hm79, hl⟩ := hI79
        refine lv_iload hx hb dX10_needsQuotes_79 (lv_at hl 0 rfl) ?_
        refine lv_aload hx hb dX10_needsQuotes_81 (lv_at hl 1 rfl) ?_
        refine va_alen hx hb hK (oneP (C := [(wr, .inr (10, [.ref d, .ref wb, .int (nI L)])), (d, .inl (κ 0, 6, .inl dl))]) hP hm_8) 0 1 rfl rfl (v := nI n) rfl dX10_needsQuotes_83 ?_
        refine lv_icmp_ge (tgt := 133) hx hb dX10_needsQuotes_84 (by decide) (fun c_14 => ?_) (fun c_14 => ?_)
        · have nc_14 := cv_le (a := n) (b := k5_79) (by omega) (by omega) c_14
          refine lv_iconst (v := 0) hx hb dX10_needsQuotes_133 (by decide) ?_
          exact cr_iret hx hb hr hlk rfl 0 rfl (by exact Or.inr ((rfl))) dX10_needsQuotes_134
        · have nc_14 := cv_nle (a := n) (b := k5_79) (by omega) (by omega) c_14
          refine lv_aload hx hb dX10_needsQuotes_87 (lv_at hl 1 rfl) ?_
          refine lv_iload hx hb dX10_needsQuotes_89 (lv_at hl 0 rfl) ?_
          refine va_bald hx hb hK (oneP (C := [(wr, .inr (10, [.ref d, .ref wb, .int (nI L)])), (d, .inl (κ 0, 6, .inl dl))]) hP hm_8) 0 1 rfl rfl (i := nI k5_79) (vp_in_nI (n := k5_79) (by omega) (by omega)) dX10_needsQuotes_91 ?_
          refine kv (v := .int (f_6 k5_79)) (by rw [nI_clamp (by omega)]) ?_
          obtain ⟨x_15, ex_15⟩ : ∃ y9 : Int32, f_6 k5_79 = y9 := ⟨_, rfl⟩
          refine kv (v := .int x_15) (congrArg Value.int ex_15) ?_
          refine lv_aload_n hx hb dX10_needsQuotes_92 rfl (lv_at hl 2 rfl) ?_
          refine va_get (D := D) (ci := 10) (v := .ref d) (C := RX10) (T := TX10) (N := 3) hx hb hts inlX10 hown hK hP 0 rfl rfl 0 (by decide) (hts _ mw_182) (fun _ h9 => h9) rfl dX10_needsQuotes_93 ?_
          refine lv_iconst (v := 0) hx hb dX10_needsQuotes_96 (by decide) ?_
          refine va_iald hx hb hK hP 1 0 rfl rfl (i := 0) (vp_k (by decide)) dX10_needsQuotes_97 ?_
          obtain ⟨x_16, ex_16⟩ : ∃ y9 : Int32, dl 0 = y9 := ⟨_, rfl⟩
          refine kv (v := .int x_16) (congrArg Value.int ex_16) ?_
          refine lv_icmp_eq (tgt := 125) hx hb dX10_needsQuotes_98 (by decide) (fun c_17 => ?_) (fun c_17 => ?_)
          · refine lv_iconst (v := 1) hx hb dX10_needsQuotes_125 (by decide) ?_
            exact cr_iret hx hb hr hlk rfl 1 rfl (by exact Or.inl (rfl)) dX10_needsQuotes_126
          · refine lv_aload hx hb dX10_needsQuotes_101 (lv_at hl 1 rfl) ?_
            refine lv_iload hx hb dX10_needsQuotes_103 (lv_at hl 0 rfl) ?_
            refine va_bald hx hb hK (oneP (C := [(wr, .inr (10, [.ref d, .ref wb, .int (nI L)])), (d, .inl (κ 0, 6, .inl dl))]) hP hm_8) 0 1 rfl rfl (i := nI k5_79) (vp_in_nI (n := k5_79) (by omega) (by omega)) dX10_needsQuotes_105 ?_
            refine kv (v := .int x_15) (by rw [nI_clamp (by omega)]; exact congrArg Value.int ex_15) ?_
            refine lv_aload_n hx hb dX10_needsQuotes_106 rfl (lv_at hl 2 rfl) ?_
            refine va_get (D := D) (ci := 10) (v := .ref d) (C := RX10) (T := TX10) (N := 3) hx hb hts inlX10 hown hK hP 0 rfl rfl 0 (by decide) (hts _ mw_182) (fun _ h9 => h9) rfl dX10_needsQuotes_107 ?_
            refine lv_iconst (v := 1) hx hb dX10_needsQuotes_110 (by decide) ?_
            refine va_iald hx hb hK hP 1 0 rfl rfl (i := 1) (vp_k (by decide)) dX10_needsQuotes_111 ?_
            obtain ⟨x_18, ex_18⟩ : ∃ y9 : Int32, dl 1 = y9 := ⟨_, rfl⟩
            refine kv (v := .int x_18) (congrArg Value.int ex_18) ?_
            refine lv_icmp_eq (tgt := 125) hx hb dX10_needsQuotes_112 (by decide) (fun c_19 => ?_) (fun c_19 => ?_)
            · refine lv_iconst (v := 1) hx hb dX10_needsQuotes_125 (by decide) ?_
              exact cr_iret hx hb hr hlk rfl 1 rfl (by exact Or.inl (rfl)) dX10_needsQuotes_126
            · refine lv_aload hx hb dX10_needsQuotes_115 (lv_at hl 1 rfl) ?_
              refine lv_iload hx hb dX10_needsQuotes_117 (lv_at hl 0 rfl) ?_
              refine va_bald hx hb hK (oneP (C := [(wr, .inr (10, [.ref d, .ref wb, .int (nI L)])), (d, .inl (κ 0, 6, .inl dl))]) hP hm_8) 0 1 rfl rfl (i := nI k5_79) (vp_in_nI (n := k5_79) (by omega) (by omega)) dX10_needsQuotes_119 ?_
              refine kv (v := .int x_15) (by rw [nI_clamp (by omega)]; exact congrArg Value.int ex_15) ?_
              refine lv_bipush (v := 10) hx hb dX10_needsQuotes_120 (by decide) ?_
              refine lv_icmp_ne (tgt := 127) hx hb dX10_needsQuotes_122 (by decide) (fun c_20 => ?_) (fun c_20 => ?_)
              · refine lv_iinc (v := (nI (k5_79 + 1))) (lv' := [(5, .int (nI (k5_79 + 1))), (4, .ref b_2), (0, .ref wr), (1, .ref ce), (2, .int (nI i)), (3, .int (nI w))]) hx hb dX10_needsQuotes_127 hl (k := 0) rfl (nI_i k5_79) (by decide) rfl (fun ls hl => ?_)
                refine lv_goto (tgt := 79) hx hb dX10_needsQuotes_130 (by decide) ?_
                exact ih79 _ _ (by omega) ⟨(k5_79 + 1), (by omega), rfl, lv_sub hl [0, 1, 2, 3, 4, 5] rfl⟩
              · refine lv_iconst (v := 1) hx hb dX10_needsQuotes_125 (by decide) ?_
                exact cr_iret hx hb hr hlk rfl 1 rfl (by exact Or.inl (rfl)) dX10_needsQuotes_126
      · have nc_13 := cv_eq (a := i) (b := 0) (by omega) (by omega) c_13
        refine lv_aload hx hb dX10_needsQuotes_61 (lv_at hl 0 rfl) ?_
        refine lv_iconst (v := 0) hx hb dX10_needsQuotes_63 (by decide) ?_
        refine va_bald hx hb hK (oneP (C := [(wr, .inr (10, [.ref d, .ref wb, .int (nI L)])), (d, .inl (κ 0, 6, .inl dl))]) hP hm_8) 0 1 rfl rfl (i := 0) (vp_c (c := 0) (by decide) (by omega)) dX10_needsQuotes_64 ?_
        obtain ⟨x_21, ex_21⟩ : ∃ y9 : Int32, f_6 0 = y9 := ⟨_, rfl⟩
        refine kv (v := .int x_21) (congrArg Value.int ex_21) ?_
        refine lv_aload_n hx hb dX10_needsQuotes_65 rfl (lv_at hl 1 rfl) ?_
        refine va_get (D := D) (ci := 10) (v := .ref d) (C := RX10) (T := TX10) (N := 3) hx hb hts inlX10 hown hK hP 0 rfl rfl 0 (by decide) (hts _ mw_182) (fun _ h9 => h9) rfl dX10_needsQuotes_66 ?_
        refine lv_iconst (v := 5) hx hb dX10_needsQuotes_69 (by decide) ?_
        refine va_iald hx hb hK hP 1 0 rfl rfl (i := 5) (vp_k (by decide)) dX10_needsQuotes_70 ?_
        obtain ⟨x_22, ex_22⟩ : ∃ y9 : Int32, dl 5 = y9 := ⟨_, rfl⟩
        refine kv (v := .int x_22) (congrArg Value.int ex_22) ?_
        refine lv_icmp_ne (tgt := 76) hx hb dX10_needsQuotes_71 (by decide) (fun c_23 => ?_) (fun c_23 => ?_)
        · refine lv_iconst (v := 0) hx hb dX10_needsQuotes_76 (by decide) ?_
          refine lv_istore (lv' := [(5, .int 0), (4, .ref b_2), (0, .ref wr), (1, .ref ce), (2, .int (nI i)), (3, .int (nI w))]) hx hb dX10_needsQuotes_77 hl (by decide) rfl (fun ls hl => ?_)
          refine loop_r (fun k9 ls => ∃ (k5_79 : Nat), (k5_79 ≤ n) ∧ n - k5_79 = k9 ∧ lv_has ls 6 [(5, .int (nI k5_79)), (4, .ref b_2), (0, .ref wr), (1, .ref ce), (2, .int (nI i)), (3, .int (nI w))]) (fun k9 ls hI79 ih79 => ?_) (n - 0) _ ⟨0, (by omega), rfl, lv_sub hl [0, 1, 2, 3, 4, 5] rfl⟩
          obtain ⟨k5_79, hl79_0, hm79, hl⟩ := hI79
          refine lv_iload hx hb dX10_needsQuotes_79 (lv_at hl 0 rfl) ?_
          refine lv_aload hx hb dX10_needsQuotes_81 (lv_at hl 1 rfl) ?_
          refine va_alen hx hb hK (oneP (C := [(wr, .inr (10, [.ref d, .ref wb, .int (nI L)])), (d, .inl (κ 0, 6, .inl dl))]) hP hm_8) 0 1 rfl rfl (v := nI n) rfl dX10_needsQuotes_83 ?_
          refine lv_icmp_ge (tgt := 133) hx hb dX10_needsQuotes_84 (by decide) (fun c_24 => ?_) (fun c_24 => ?_)
          · have nc_24 := cv_le (a := n) (b := k5_79) (by omega) (by omega) c_24
            refine lv_iconst (v := 0) hx hb dX10_needsQuotes_133 (by decide) ?_
            exact cr_iret hx hb hr hlk rfl 0 rfl (by exact Or.inr ((rfl))) dX10_needsQuotes_134
          · have nc_24 := cv_nle (a := n) (b := k5_79) (by omega) (by omega) c_24
            refine lv_aload hx hb dX10_needsQuotes_87 (lv_at hl 1 rfl) ?_
            refine lv_iload hx hb dX10_needsQuotes_89 (lv_at hl 0 rfl) ?_
            refine va_bald hx hb hK (oneP (C := [(wr, .inr (10, [.ref d, .ref wb, .int (nI L)])), (d, .inl (κ 0, 6, .inl dl))]) hP hm_8) 0 1 rfl rfl (i := nI k5_79) (vp_in_nI (n := k5_79) (by omega) (by omega)) dX10_needsQuotes_91 ?_
            refine kv (v := .int (f_6 k5_79)) (by rw [nI_clamp (by omega)]) ?_
            obtain ⟨x_25, ex_25⟩ : ∃ y9 : Int32, f_6 k5_79 = y9 := ⟨_, rfl⟩
            refine kv (v := .int x_25) (congrArg Value.int ex_25) ?_
            refine lv_aload_n hx hb dX10_needsQuotes_92 rfl (lv_at hl 2 rfl) ?_
            refine va_get (D := D) (ci := 10) (v := .ref d) (C := RX10) (T := TX10) (N := 3) hx hb hts inlX10 hown hK hP 0 rfl rfl 0 (by decide) (hts _ mw_182) (fun _ h9 => h9) rfl dX10_needsQuotes_93 ?_
            refine lv_iconst (v := 0) hx hb dX10_needsQuotes_96 (by decide) ?_
            refine va_iald hx hb hK hP 1 0 rfl rfl (i := 0) (vp_k (by decide)) dX10_needsQuotes_97 ?_
            obtain ⟨x_26, ex_26⟩ : ∃ y9 : Int32, dl 0 = y9 := ⟨_, rfl⟩
            refine kv (v := .int x_26) (congrArg Value.int ex_26) ?_
            refine lv_icmp_eq (tgt := 125) hx hb dX10_needsQuotes_98 (by decide) (fun c_27 => ?_) (fun c_27 => ?_)
            · refine lv_iconst (v := 1) hx hb dX10_needsQuotes_125 (by decide) ?_
              exact cr_iret hx hb hr hlk rfl 1 rfl (by exact Or.inl (rfl)) dX10_needsQuotes_126
            · refine lv_aload hx hb dX10_needsQuotes_101 (lv_at hl 1 rfl) ?_
              refine lv_iload hx hb dX10_needsQuotes_103 (lv_at hl 0 rfl) ?_
              refine va_bald hx hb hK (oneP (C := [(wr, .inr (10, [.ref d, .ref wb, .int (nI L)])), (d, .inl (κ 0, 6, .inl dl))]) hP hm_8) 0 1 rfl rfl (i := nI k5_79) (vp_in_nI (n := k5_79) (by omega) (by omega)) dX10_needsQuotes_105 ?_
              refine kv (v := .int x_25) (by rw [nI_clamp (by omega)]; exact congrArg Value.int ex_25) ?_
              refine lv_aload_n hx hb dX10_needsQuotes_106 rfl (lv_at hl 2 rfl) ?_
              refine va_get (D := D) (ci := 10) (v := .ref d) (C := RX10) (T := TX10) (N := 3) hx hb hts inlX10 hown hK hP 0 rfl rfl 0 (by decide) (hts _ mw_182) (fun _ h9 => h9) rfl dX10_needsQuotes_107 ?_
              refine lv_iconst (v := 1) hx hb dX10_needsQuotes_110 (by decide) ?_
              refine va_iald hx hb hK hP 1 0 rfl rfl (i := 1) (vp_k (by decide)) dX10_needsQuotes_111 ?_
              obtain ⟨x_28, ex_28⟩ : ∃ y9 : Int32, dl 1 = y9 := ⟨_, rfl⟩
              refine kv (v := .int x_28) (congrArg Value.int ex_28) ?_
              refine lv_icmp_eq (tgt := 125) hx hb dX10_needsQuotes_112 (by decide) (fun c_29 => ?_) (fun c_29 => ?_)
              · refine lv_iconst (v := 1) hx hb dX10_needsQuotes_125 (by decide) ?_
                exact cr_iret hx hb hr hlk rfl 1 rfl (by exact Or.inl (rfl)) dX10_needsQuotes_126
              · refine lv_aload hx hb dX10_needsQuotes_115 (lv_at hl 1 rfl) ?_
                refine lv_iload hx hb dX10_needsQuotes_117 (lv_at hl 0 rfl) ?_
                refine va_bald hx hb hK (oneP (C := [(wr, .inr (10, [.ref d, .ref wb, .int (nI L)])), (d, .inl (κ 0, 6, .inl dl))]) hP hm_8) 0 1 rfl rfl (i := nI k5_79) (vp_in_nI (n := k5_79) (by omega) (by omega)) dX10_needsQuotes_119 ?_
                refine kv (v := .int x_25) (by rw [nI_clamp (by omega)]; exact congrArg Value.int ex_25) ?_
                refine lv_bipush (v := 10) hx hb dX10_needsQuotes_120 (by decide) ?_
                refine lv_icmp_ne (tgt := 127) hx hb dX10_needsQuotes_122 (by decide) (fun c_30 => ?_) (fun c_30 => ?_)
                · refine lv_iinc (v := (nI (k5_79 + 1))) (lv' := [(5, .int (nI (k5_79 + 1))), (4, .ref b_2), (0, .ref wr), (1, .ref ce), (2, .int (nI i)), (3, .int (nI w))]) hx hb dX10_needsQuotes_127 hl (k := 0) rfl (nI_i k5_79) (by decide) rfl (fun ls hl => ?_)
                  refine lv_goto (tgt := 79) hx hb dX10_needsQuotes_130 (by decide) ?_
                  exact ih79 _ _ (by omega) ⟨(k5_79 + 1), (by omega), rfl, lv_sub hl [0, 1, 2, 3, 4, 5] rfl⟩
                · refine lv_iconst (v := 1) hx hb dX10_needsQuotes_125 (by decide) ?_
                  exact cr_iret hx hb hr hlk rfl 1 rfl (by exact Or.inl (rfl)) dX10_needsQuotes_126
        · refine lv_iconst (v := 1) hx hb dX10_needsQuotes_74 (by decide) ?_
          exact cr_iret hx hb hr hlk rfl 1 rfl (by exact Or.inl (rfl)) dX10_needsQuotes_75
    · refine lv_aload hx hb dX10_needsQuotes_33 (lv_at hl 0 rfl) ?_
      refine lv_iconst (v := 0) hx hb dX10_needsQuotes_35 (by decide) ?_
      refine va_bald hx hb hK (oneP (C := [(wr, .inr (10, [.ref d, .ref wb, .int (nI L)])), (d, .inl (κ 0, 6, .inl dl))]) hP hm_8) 0 1 rfl rfl (i := 0) (vp_c (c := 0) (by decide) (by omega)) dX10_needsQuotes_36 ?_
      obtain ⟨x_31, ex_31⟩ : ∃ y9 : Int32, f_6 0 = y9 := ⟨_, rfl⟩
      refine kv (v := .int x_31) (congrArg Value.int ex_31) ?_
      refine lv_bipush (v := 32) hx hb dX10_needsQuotes_37 (by decide) ?_
      refine lv_icmp_eq (tgt := 55) hx hb dX10_needsQuotes_39 (by decide) (fun c_32 => ?_) (fun c_32 => ?_)
      · refine lv_iconst (v := 1) hx hb dX10_needsQuotes_55 (by decide) ?_
        exact cr_iret hx hb hr hlk rfl 1 rfl (by exact Or.inl (rfl)) dX10_needsQuotes_56
      · refine lv_aload hx hb dX10_needsQuotes_42 (lv_at hl 0 rfl) ?_
        refine lv_aload hx hb dX10_needsQuotes_44 (lv_at hl 0 rfl) ?_
        refine va_alen hx hb hK (oneP (C := [(wr, .inr (10, [.ref d, .ref wb, .int (nI L)])), (d, .inl (κ 0, 6, .inl dl))]) hP hm_8) 0 1 rfl rfl (v := nI n) rfl dX10_needsQuotes_46 ?_
        refine lv_iconst (v := 1) hx hb dX10_needsQuotes_47 (by decide) ?_
        refine lv_isub hx hb dX10_needsQuotes_48 ?_
        refine ki (v := (nI (n - 1))) (pk_sub (a := n) (b := 1) (by omega)) ?_
        refine va_bald hx hb hK (oneP (C := [(wr, .inr (10, [.ref d, .ref wb, .int (nI L)])), (d, .inl (κ 0, 6, .inl dl))]) hP hm_8) 0 1 rfl rfl (i := nI (n - 1)) (vp_in_nI (n := (n - 1)) (by omega) (by omega)) dX10_needsQuotes_49 ?_
        refine kv (v := .int (f_6 (n - 1))) (by rw [nI_clamp (by omega)]) ?_
        obtain ⟨x_33, ex_33⟩ : ∃ y9 : Int32, f_6 (n - 1) = y9 := ⟨_, rfl⟩
        refine kv (v := .int x_33) (congrArg Value.int ex_33) ?_
        refine lv_bipush (v := 32) hx hb dX10_needsQuotes_50 (by decide) ?_
        refine lv_icmp_ne (tgt := 57) hx hb dX10_needsQuotes_52 (by decide) (fun c_34 => ?_) (fun c_34 => ?_)
        · refine lv_iload_n hx hb dX10_needsQuotes_57 rfl (lv_at hl 3 rfl) ?_
          refine lv_if_ne (tgt := 76) hx hb dX10_needsQuotes_58 (by decide) (fun c_35 => ?_) (fun c_35 => ?_)
          · have nc_35 := cv_ne (a := i) (b := 0) (by omega) (by omega) c_35
            refine lv_iconst (v := 0) hx hb dX10_needsQuotes_76 (by decide) ?_
            refine lv_istore (lv' := [(5, .int 0), (4, .ref b_2), (0, .ref wr), (1, .ref ce), (2, .int (nI i)), (3, .int (nI w))]) hx hb dX10_needsQuotes_77 hl (by decide) rfl (fun ls hl => ?_)
            refine loop_r (fun k9 ls => ∃ (k5_79 : Nat), (k5_79 ≤ n) ∧ n - k5_79 = k9 ∧ lv_has ls 6 [(5, .int (nI k5_79)), (4, .ref b_2), (0, .ref wr), (1, .ref ce), (2, .int (nI i)), (3, .int (nI w))]) (fun k9 ls hI79 ih79 => ?_) (n - 0) _ ⟨0, (by omega), rfl, lv_sub hl [0, 1, 2, 3, 4, 5] rfl⟩
            obtain ⟨k5_79, hl79_0, hm79, hl⟩ := hI79
            refine lv_iload hx hb dX10_needsQuotes_79 (lv_at hl 0 rfl) ?_
            refine lv_aload hx hb dX10_needsQuotes_81 (lv_at hl 1 rfl) ?_
            refine va_alen hx hb hK (oneP (C := [(wr, .inr (10, [.ref d, .ref wb, .int (nI L)])), (d, .inl (κ 0, 6, .inl dl))]) hP hm_8) 0 1 rfl rfl (v := nI n) rfl dX10_needsQuotes_83 ?_
            refine lv_icmp_ge (tgt := 133) hx hb dX10_needsQuotes_84 (by decide) (fun c_36 => ?_) (fun c_36 => ?_)
            · have nc_36 := cv_le (a := n) (b := k5_79) (by omega) (by omega) c_36
              refine lv_iconst (v := 0) hx hb dX10_needsQuotes_133 (by decide) ?_
              exact cr_iret hx hb hr hlk rfl 0 rfl (by exact Or.inr ((rfl))) dX10_needsQuotes_134
            · have nc_36 := cv_nle (a := n) (b := k5_79) (by omega) (by omega) c_36
              refine lv_aload hx hb dX10_needsQuotes_87 (lv_at hl 1 rfl) ?_
              refine lv_iload hx hb dX10_needsQuotes_89 (lv_at hl 0 rfl) ?_
              refine va_bald hx hb hK (oneP (C := [(wr, .inr (10, [.ref d, .ref wb, .int (nI L)])), (d, .inl (κ 0, 6, .inl dl))]) hP hm_8) 0 1 rfl rfl (i := nI k5_79) (vp_in_nI (n := k5_79) (by omega) (by omega)) dX10_needsQuotes_91 ?_
              refine kv (v := .int (f_6 k5_79)) (by rw [nI_clamp (by omega)]) ?_
              obtain ⟨x_37, ex_37⟩ : ∃ y9 : Int32, f_6 k5_79 = y9 := ⟨_, rfl⟩
              refine kv (v := .int x_37) (congrArg Value.int ex_37) ?_
              refine lv_aload_n hx hb dX10_needsQuotes_92 rfl (lv_at hl 2 rfl) ?_
              refine va_get (D := D) (ci := 10) (v := .ref d) (C := RX10) (T := TX10) (N := 3) hx hb hts inlX10 hown hK hP 0 rfl rfl 0 (by decide) (hts _ mw_182) (fun _ h9 => h9) rfl dX10_needsQuotes_93 ?_
              refine lv_iconst (v := 0) hx hb dX10_needsQuotes_96 (by decide) ?_
              refine va_iald hx hb hK hP 1 0 rfl rfl (i := 0) (vp_k (by decide)) dX10_needsQuotes_97 ?_
              obtain ⟨x_38, ex_38⟩ : ∃ y9 : Int32, dl 0 = y9 := ⟨_, rfl⟩
              refine kv (v := .int x_38) (congrArg Value.int ex_38) ?_
              refine lv_icmp_eq (tgt := 125) hx hb dX10_needsQuotes_98 (by decide) (fun c_39 => ?_) (fun c_39 => ?_)
              · refine lv_iconst (v := 1) hx hb dX10_needsQuotes_125 (by decide) ?_
                exact cr_iret hx hb hr hlk rfl 1 rfl (by exact Or.inl (rfl)) dX10_needsQuotes_126
              · refine lv_aload hx hb dX10_needsQuotes_101 (lv_at hl 1 rfl) ?_
                refine lv_iload hx hb dX10_needsQuotes_103 (lv_at hl 0 rfl) ?_
                refine va_bald hx hb hK (oneP (C := [(wr, .inr (10, [.ref d, .ref wb, .int (nI L)])), (d, .inl (κ 0, 6, .inl dl))]) hP hm_8) 0 1 rfl rfl (i := nI k5_79) (vp_in_nI (n := k5_79) (by omega) (by omega)) dX10_needsQuotes_105 ?_
                refine kv (v := .int x_37) (by rw [nI_clamp (by omega)]; exact congrArg Value.int ex_37) ?_
                refine lv_aload_n hx hb dX10_needsQuotes_106 rfl (lv_at hl 2 rfl) ?_
                refine va_get (D := D) (ci := 10) (v := .ref d) (C := RX10) (T := TX10) (N := 3) hx hb hts inlX10 hown hK hP 0 rfl rfl 0 (by decide) (hts _ mw_182) (fun _ h9 => h9) rfl dX10_needsQuotes_107 ?_
                refine lv_iconst (v := 1) hx hb dX10_needsQuotes_110 (by decide) ?_
                refine va_iald hx hb hK hP 1 0 rfl rfl (i := 1) (vp_k (by decide)) dX10_needsQuotes_111 ?_
                obtain ⟨x_40, ex_40⟩ : ∃ y9 : Int32, dl 1 = y9 := ⟨_, rfl⟩
                refine kv (v := .int x_40) (congrArg Value.int ex_40) ?_
                refine lv_icmp_eq (tgt := 125) hx hb dX10_needsQuotes_112 (by decide) (fun c_41 => ?_) (fun c_41 => ?_)
                · refine lv_iconst (v := 1) hx hb dX10_needsQuotes_125 (by decide) ?_
                  exact cr_iret hx hb hr hlk rfl 1 rfl (by exact Or.inl (rfl)) dX10_needsQuotes_126
                · refine lv_aload hx hb dX10_needsQuotes_115 (lv_at hl 1 rfl) ?_
                  refine lv_iload hx hb dX10_needsQuotes_117 (lv_at hl 0 rfl) ?_
                  refine va_bald hx hb hK (oneP (C := [(wr, .inr (10, [.ref d, .ref wb, .int (nI L)])), (d, .inl (κ 0, 6, .inl dl))]) hP hm_8) 0 1 rfl rfl (i := nI k5_79) (vp_in_nI (n := k5_79) (by omega) (by omega)) dX10_needsQuotes_119 ?_
                  refine kv (v := .int x_37) (by rw [nI_clamp (by omega)]; exact congrArg Value.int ex_37) ?_
                  refine lv_bipush (v := 10) hx hb dX10_needsQuotes_120 (by decide) ?_
                  refine lv_icmp_ne (tgt := 127) hx hb dX10_needsQuotes_122 (by decide) (fun c_42 => ?_) (fun c_42 => ?_)
                  · refine lv_iinc (v := (nI (k5_79 + 1))) (lv' := [(5, .int (nI (k5_79 + 1))), (4, .ref b_2), (0, .ref wr), (1, .ref ce), (2, .int (nI i)), (3, .int (nI w))]) hx hb dX10_needsQuotes_127 hl (k := 0) rfl (nI_i k5_79) (by decide) rfl (fun ls hl => ?_)
                    refine lv_goto (tgt := 79) hx hb dX10_needsQuotes_130 (by decide) ?_
                    exact ih79 _ _ (by omega) ⟨(k5_79 + 1), (by omega), rfl, lv_sub hl [0, 1, 2, 3, 4, 5] rfl⟩
                  · refine lv_iconst (v := 1) hx hb dX10_needsQuotes_125 (by decide) ?_
                    exact cr_iret hx hb hr hlk rfl 1 rfl (by exact Or.inl (rfl)) dX10_needsQuotes_126
          · have nc_35 := cv_eq (a := i) (b := 0) (by omega) (by omega) c_35
            refine lv_aload hx hb dX10_needsQuotes_61 (lv_at hl 0 rfl) ?_
            refine lv_iconst (v := 0) hx hb dX10_needsQuotes_63 (by decide) ?_
            refine va_bald hx hb hK (oneP (C := [(wr, .inr (10, [.ref d, .ref wb, .int (nI L)])), (d, .inl (κ 0, 6, .inl dl))]) hP hm_8) 0 1 rfl rfl (i := 0) (vp_c (c := 0) (by decide) (by omega)) dX10_needsQuotes_64 ?_
            refine kv (v := .int x_31) (congrArg Value.int (ex_31)) ?_
            refine lv_aload_n hx hb dX10_needsQuotes_65 rfl (lv_at hl 1 rfl) ?_
            refine va_get (D := D) (ci := 10) (v := .ref d) (C := RX10) (T := TX10) (N := 3) hx hb hts inlX10 hown hK hP 0 rfl rfl 0 (by decide) (hts _ mw_182) (fun _ h9 => h9) rfl dX10_needsQuotes_66 ?_
            refine lv_iconst (v := 5) hx hb dX10_needsQuotes_69 (by decide) ?_
            refine va_iald hx hb hK hP 1 0 rfl rfl (i := 5) (vp_k (by decide)) dX10_needsQuotes_70 ?_
            obtain ⟨x_43, ex_43⟩ : ∃ y9 : Int32, dl 5 = y9 := ⟨_, rfl⟩
            refine kv (v := .int x_43) (congrArg Value.int ex_43) ?_
            refine lv_icmp_ne (tgt := 76) hx hb dX10_needsQuotes_71 (by decide) (fun c_44 => ?_) (fun c_44 => ?_)
            · refine lv_iconst (v := 0) hx hb dX10_needsQuotes_76 (by decide) ?_
              refine lv_istore (lv' := [(5, .int 0), (4, .ref b_2), (0, .ref wr), (1, .ref ce), (2, .int (nI i)), (3, .int (nI w))]) hx hb dX10_needsQuotes_77 hl (by decide) rfl (fun ls hl => ?_)
              refine loop_r (fun k9 ls => ∃ (k5_79 : Nat), (k5_79 ≤ n) ∧ n - k5_79 = k9 ∧ lv_has ls 6 [(5, .int (nI k5_79)), (4, .ref b_2), (0, .ref wr), (1, .ref ce), (2, .int (nI i)), (3, .int (nI w))]) (fun k9 ls hI79 ih79 => ?_) (n - 0) _ ⟨0, (by omega), rfl, lv_sub hl [0, 1, 2, 3, 4, 5] rfl⟩
              obtain ⟨k5_79, hl79_0, hm79, hl⟩ := hI79
              refine lv_iload hx hb dX10_needsQuotes_79 (lv_at hl 0 rfl) ?_
              refine lv_aload hx hb dX10_needsQuotes_81 (lv_at hl 1 rfl) ?_
              refine va_alen hx hb hK (oneP (C := [(wr, .inr (10, [.ref d, .ref wb, .int (nI L)])), (d, .inl (κ 0, 6, .inl dl))]) hP hm_8) 0 1 rfl rfl (v := nI n) rfl dX10_needsQuotes_83 ?_
              refine lv_icmp_ge (tgt := 133) hx hb dX10_needsQuotes_84 (by decide) (fun c_45 => ?_) (fun c_45 => ?_)
              · have nc_45 := cv_le (a := n) (b := k5_79) (by omega) (by omega) c_45
                refine lv_iconst (v := 0) hx hb dX10_needsQuotes_133 (by decide) ?_
                exact cr_iret hx hb hr hlk rfl 0 rfl (by exact Or.inr ((rfl))) dX10_needsQuotes_134
              · have nc_45 := cv_nle (a := n) (b := k5_79) (by omega) (by omega) c_45
                refine lv_aload hx hb dX10_needsQuotes_87 (lv_at hl 1 rfl) ?_
                refine lv_iload hx hb dX10_needsQuotes_89 (lv_at hl 0 rfl) ?_
                refine va_bald hx hb hK (oneP (C := [(wr, .inr (10, [.ref d, .ref wb, .int (nI L)])), (d, .inl (κ 0, 6, .inl dl))]) hP hm_8) 0 1 rfl rfl (i := nI k5_79) (vp_in_nI (n := k5_79) (by omega) (by omega)) dX10_needsQuotes_91 ?_
                refine kv (v := .int (f_6 k5_79)) (by rw [nI_clamp (by omega)]) ?_
                obtain ⟨x_46, ex_46⟩ : ∃ y9 : Int32, f_6 k5_79 = y9 := ⟨_, rfl⟩
                refine kv (v := .int x_46) (congrArg Value.int ex_46) ?_
                refine lv_aload_n hx hb dX10_needsQuotes_92 rfl (lv_at hl 2 rfl) ?_
                refine va_get (D := D) (ci := 10) (v := .ref d) (C := RX10) (T := TX10) (N := 3) hx hb hts inlX10 hown hK hP 0 rfl rfl 0 (by decide) (hts _ mw_182) (fun _ h9 => h9) rfl dX10_needsQuotes_93 ?_
                refine lv_iconst (v := 0) hx hb dX10_needsQuotes_96 (by decide) ?_
                refine va_iald hx hb hK hP 1 0 rfl rfl (i := 0) (vp_k (by decide)) dX10_needsQuotes_97 ?_
                obtain ⟨x_47, ex_47⟩ : ∃ y9 : Int32, dl 0 = y9 := ⟨_, rfl⟩
                refine kv (v := .int x_47) (congrArg Value.int ex_47) ?_
                refine lv_icmp_eq (tgt := 125) hx hb dX10_needsQuotes_98 (by decide) (fun c_48 => ?_) (fun c_48 => ?_)
                · refine lv_iconst (v := 1) hx hb dX10_needsQuotes_125 (by decide) ?_
                  exact cr_iret hx hb hr hlk rfl 1 rfl (by exact Or.inl (rfl)) dX10_needsQuotes_126
                · refine lv_aload hx hb dX10_needsQuotes_101 (lv_at hl 1 rfl) ?_
                  refine lv_iload hx hb dX10_needsQuotes_103 (lv_at hl 0 rfl) ?_
                  refine va_bald hx hb hK (oneP (C := [(wr, .inr (10, [.ref d, .ref wb, .int (nI L)])), (d, .inl (κ 0, 6, .inl dl))]) hP hm_8) 0 1 rfl rfl (i := nI k5_79) (vp_in_nI (n := k5_79) (by omega) (by omega)) dX10_needsQuotes_105 ?_
                  refine kv (v := .int x_46) (by rw [nI_clamp (by omega)]; exact congrArg Value.int ex_46) ?_
                  refine lv_aload_n hx hb dX10_needsQuotes_106 rfl (lv_at hl 2 rfl) ?_
                  refine va_get (D := D) (ci := 10) (v := .ref d) (C := RX10) (T := TX10) (N := 3) hx hb hts inlX10 hown hK hP 0 rfl rfl 0 (by decide) (hts _ mw_182) (fun _ h9 => h9) rfl dX10_needsQuotes_107 ?_
                  refine lv_iconst (v := 1) hx hb dX10_needsQuotes_110 (by decide) ?_
                  refine va_iald hx hb hK hP 1 0 rfl rfl (i := 1) (vp_k (by decide)) dX10_needsQuotes_111 ?_
                  obtain ⟨x_49, ex_49⟩ : ∃ y9 : Int32, dl 1 = y9 := ⟨_, rfl⟩
                  refine kv (v := .int x_49) (congrArg Value.int ex_49) ?_
                  refine lv_icmp_eq (tgt := 125) hx hb dX10_needsQuotes_112 (by decide) (fun c_50 => ?_) (fun c_50 => ?_)
                  · refine lv_iconst (v := 1) hx hb dX10_needsQuotes_125 (by decide) ?_
                    exact cr_iret hx hb hr hlk rfl 1 rfl (by exact Or.inl (rfl)) dX10_needsQuotes_126
                  · refine lv_aload hx hb dX10_needsQuotes_115 (lv_at hl 1 rfl) ?_
                    refine lv_iload hx hb dX10_needsQuotes_117 (lv_at hl 0 rfl) ?_
                    refine va_bald hx hb hK (oneP (C := [(wr, .inr (10, [.ref d, .ref wb, .int (nI L)])), (d, .inl (κ 0, 6, .inl dl))]) hP hm_8) 0 1 rfl rfl (i := nI k5_79) (vp_in_nI (n := k5_79) (by omega) (by omega)) dX10_needsQuotes_119 ?_
                    refine kv (v := .int x_46) (by rw [nI_clamp (by omega)]; exact congrArg Value.int ex_46) ?_
                    refine lv_bipush (v := 10) hx hb dX10_needsQuotes_120 (by decide) ?_
                    refine lv_icmp_ne (tgt := 127) hx hb dX10_needsQuotes_122 (by decide) (fun c_51 => ?_) (fun c_51 => ?_)
                    · refine lv_iinc (v := (nI (k5_79 + 1))) (lv' := [(5, .int (nI (k5_79 + 1))), (4, .ref b_2), (0, .ref wr), (1, .ref ce), (2, .int (nI i)), (3, .int (nI w))]) hx hb dX10_needsQuotes_127 hl (k := 0) rfl (nI_i k5_79) (by decide) rfl (fun ls hl => ?_)
                      refine lv_goto (tgt := 79) hx hb dX10_needsQuotes_130 (by decide) ?_
                      exact ih79 _ _ (by omega) ⟨(k5_79 + 1), (by omega), rfl, lv_sub hl [0, 1, 2, 3, 4, 5] rfl⟩
                    · refine lv_iconst (v := 1) hx hb dX10_needsQuotes_125 (by decide) ?_
                      exact cr_iret hx hb hr hlk rfl 1 rfl (by exact Or.inl (rfl)) dX10_needsQuotes_126
            · refine lv_iconst (v := 1) hx hb dX10_needsQuotes_74 (by decide) ?_
              exact cr_iret hx hb hr hlk rfl 1 rfl (by exact Or.inl (rfl)) dX10_needsQuotes_75
        · refine lv_iconst (v := 1) hx hb dX10_needsQuotes_55 (by decide) ?_
          exact cr_iret hx hb hr hlk rfl 1 rfl (by exact Or.inl (rfl)) dX10_needsQuotes_56
  · have nc_10 := cv_eq (a := n) (b := 0) (by omega) (by omega) c_10
    refine lv_iload_n hx hb dX10_needsQuotes_12 rfl (lv_at hl 4 rfl) ?_
    refine lv_iconst (v := 1) hx hb dX10_needsQuotes_13 (by decide) ?_
    refine lv_icmp_ne (tgt := 21) hx hb dX10_needsQuotes_14 (by decide) (fun c_52 => ?_) (fun c_52 => ?_)
    · have nc_52 := cv_ne (a := w) (b := 1) (by omega) (by omega) c_52
      refine lv_iconst (v := 0) hx hb dX10_needsQuotes_21 (by decide) ?_
      exact cr_iret hx hb hr hlk rfl 0 rfl (by exact Or.inr ((rfl))) dX10_needsQuotes_22
    · have nc_52 := cv_eq (a := w) (b := 1) (by omega) (by omega) c_52
      refine lv_iconst (v := 1) hx hb dX10_needsQuotes_17 (by decide) ?_
      refine lv_goto (tgt := 22) hx hb dX10_needsQuotes_18 (by decide) ?_
      exact cr_iret hx hb hr hlk rfl 1 rfl (by exact Or.inl (rfl)) dX10_needsQuotes_22
set_option maxHeartbeats 4000000 in
set_option maxRecDepth 100000 in
theorem c_X10_writeNames (l : Launch) (D : va_G) (κ : Nat → ClassId) (κq : Nat → Nat) (im : va_W) (wr : Nat) (d : Nat) (wb : Nat) (L : Nat) (bf : Nat → Int32) (dl : Nat → Int32) (ca : Nat) (w : Nat) (hL : L ≤ 6000) (hca : Ca κ im ca w) (hw8 : w ≤ 8) : Et l yX10_writeNames (wl yX10_writeNames cX10_writeNames 4 (some .boolean)) { frames := 2, cells := 0, slots := 0, locals := 43 } D κ κq [.ref wr, .ref ca] ([(wr, .inr (10, [.ref d, .ref wb, .int (nI L)])), (d, .inl (κ 0, 6, .inl dl)), (wb, .inl (κ 1, 6000, .inl bf))] ++ im) (fun u9 : Int32 × Nat × (Nat → Int32) => some (.int u9.1)) (fun u9 : Int32 × Nat × (Nat → Int32) => u9.2.1 ≤ 6000 ∧ ((u9.1 = 1) ∨ (u9.1 = 0))) (fun u9 : Int32 × Nat × (Nat → Int32) => ([(wr, .inr (10, [.ref d, .ref wb, .int (nI u9.2.1)])), (d, .inl (κ 0, 6, .inl dl)), (wb, .inl (κ 1, 6000, .inl u9.2.2))] ++ im)) := by
  refine et_of (by decide +kernel) (Nat.le_of_ble_eq_true rfl) ?_
  intro p e s m args below meth c A ls hx hb hr hml hts hown hlk hin hKK hK hA hP hD hS hE hl
  have hS : va_S A s.heap s.heap [] := hS
  have hP : va_P D vwCl ([(wr, .inr (10, [.ref d, .ref wb, .int (nI L)])), (d, .inl (κ 0, 6, .inl dl)), (wb, .inl (κ 1, 6000, .inl bf))] ++ im) s.heap := hP
  have hD : va_D A ([(wr, .inr (10, [.ref d, .ref wb, .int (nI L)])), (d, .inl (κ 0, 6, .inl dl)), (wb, .inl (κ 1, 6000, .inl bf))] ++ im) := hD
  have hFX : FX p s m args c cX10_writeNames 4 RX10 := ⟨hx, hb, hml, hown, hts⟩
  have hl : lv_has ls 4 [(0, .ref wr), (1, .ref ca)] := hl
  obtain ⟨g_1, hm_2, lo_3⟩ := id hca
  refine lv_aload_n hx hb dX10_writeNames_0 rfl (lv_at hl 0 rfl) ?_
  refine va_get (D := D) (ci := 10) (v := .int (nI L)) (C := RX10) (T := TX10) (N := 3) hx hb hts inlX10 hown hK hP 0 rfl rfl 2 (by decide) (hts _ mw_181) (fun _ h9 => h9) rfl dX10_writeNames_1 ?_
  refine lv_istore_n (lv' := [(2, .int (nI L)), (0, .ref wr), (1, .ref ca)]) hx hb dX10_writeNames_4 rfl hl (by decide) rfl (fun ls hl => ?_)
  refine lv_iconst (v := 0) hx hb dX10_writeNames_5 (by decide) ?_
  refine lv_istore_n (lv' := [(3, .int 0), (2, .int (nI L)), (0, .ref wr), (1, .ref ca)]) hx hb dX10_writeNames_6 rfl hl (by decide) rfl (fun ls hl => ?_)
  refine loop_dn (fun k9 H locs ls => ∃ (k3_7 : Nat), ∃ (v2_7 : Nat), ∃ (gwb_7 : Nat → Int32), (k3_7 ≤ w) ∧ (v2_7 ≤ L + 21 * k3_7) ∧ w - k3_7 = k9 ∧ va_P D vwCl ([(wr, .inr (10, [.ref d, .ref wb, .int (nI v2_7)])), (d, .inl (κ 0, 6, .inl dl)), (wb, .inl (κ 1, 6000, .inl gwb_7))] ++ im) H ∧ va_D A ([(wr, .inr (10, [.ref d, .ref wb, .int (nI v2_7)])), (d, .inl (κ 0, 6, .inl dl)), (wb, .inl (κ 1, 6000, .inl gwb_7))] ++ im) ∧ va_S A s.heap H locs ∧ lv_has ls 4 [(3, .int (nI k3_7)), (2, .int (nI L)), (0, .ref wr), (1, .ref ca)]) (fun k9 H locs ls hI7 ih7 => ?_) (w - 0) _ _ _ ⟨0, L, bf, (by omega), (by omega), rfl, hP, hD, hS, lv_sub hl [0, 1, 2, 3] rfl⟩
  obtain ⟨k3_7, v2_7, gwb_7, hl7_0, hl7_1, hm7, hP, hD, hS, hl⟩ := hI7
  refine lv_iload_n hx hb dX10_writeNames_7 rfl (lv_at hl 0 rfl) ?_
  refine lv_aload_n hx hb dX10_writeNames_8 rfl (lv_at hl 3 rfl) ?_
  refine va_alen hx hb hK (oneP (C := [(wr, .inr (10, [.ref d, .ref wb, .int (nI v2_7)])), (d, .inl (κ 0, 6, .inl dl)), (wb, .inl (κ 1, 6000, .inl gwb_7))]) hP hm_2) 0 3 rfl rfl (v := nI w) rfl dX10_writeNames_9 ?_
  refine lv_icmp_ge (tgt := 34) hx hb dX10_writeNames_10 (by decide) (fun c_4 => ?_) (fun c_4 => ?_)
  · have nc_4 := cv_le (a := w) (b := k3_7) (by omega) (by omega) c_4
    refine lv_aload_n hx hb dX10_writeNames_34 rfl (lv_at hl 2 rfl) ?_
    refine lv_iload_n hx hb dX10_writeNames_35 rfl (lv_at hl 1 rfl) ?_
    refine et_VN (CR := [(d, .inl (κ 0, 6, .inl dl))]) (As := [.int (nI L)]) (rest := []) hFX hKK hE hP hD hS hA (c_X10_closeLine l D κ κq wr d wb v2_7 gwb_7 L (by omega) (by omega)) 1 gV_X10_50 hdV_X10_closeLine ⟨Nat.le_of_ble_eq_true rfl, Nat.le_of_ble_eq_true rfl⟩ rfl rfl (Nat.le_of_ble_eq_true rfl) dX10_writeNames_36 ⟨Nat.le_of_ble_eq_true rfl, Nat.le_of_ble_eq_true rfl⟩ hl.1 [0, 2] [1] rfl rfl (by decide) (by decide) (by decide) hP 0 10 rfl rfl rfl (fun u_8 H locs hp_9 hP hD hS => ?_)
    obtain ⟨r__5, y__6, g__7⟩ := u_8
    replace hP : va_P D vwCl ([(wr, .inr (10, [.ref d, .ref wb, .int (nI y__6)])), (d, .inl (κ 0, 6, .inl dl)), (wb, .inl (κ 1, 6000, .inl g__7))] ++ im) H := subP (C := [(d, .inl (κ 0, 6, .inl dl)), (wr, .inr (10, [.ref d, .ref wb, .int (nI y__6)])), (wb, .inl (κ 1, 6000, .inl g__7))]) hP [1, 0, 2] rfl
    replace hD : va_D A ([(wr, .inr (10, [.ref d, .ref wb, .int (nI y__6)])), (d, .inl (κ 0, 6, .inl dl)), (wb, .inl (κ 1, 6000, .inl g__7))] ++ im) := subD (C := [(d, .inl (κ 0, 6, .inl dl)), (wr, .inr (10, [.ref d, .ref wb, .int (nI y__6)])), (wb, .inl (κ 1, 6000, .inl g__7))]) hD [1, 0, 2] (by decide) rfl
    replace hp_9 : y__6 ≤ 6000 ∧ ((r__5 = 1) ∨ (r__5 = 0)) := hp_9
    obtain ⟨h_10, ha_11⟩ := hp_9
    rcases ha_11 with rfl | rfl
    · refine W.eq (g2 := F0 m 39 ls [.int 1]) rfl ?_
      exact et_iret hx hb hr hlk rfl hS (1, y__6, g__7) rfl ⟨(show y__6 ≤ 6000 from (by first | assumption | omega | rfl | exact Or.inl (by assumption) | exact Or.inr (by assumption))), (by exact Or.inl (rfl))⟩ (subP hP [0, 1, 2] rfl) (subD hD [0, 1, 2] (by decide) rfl) (Nat.le_of_ble_eq_true rfl) (Nat.le_of_ble_eq_true rfl) dX10_writeNames_39
    · refine W.eq (g2 := F0 m 39 ls [.int 0]) rfl ?_
      exact et_iret hx hb hr hlk rfl hS (0, y__6, g__7) rfl ⟨(show y__6 ≤ 6000 from (by first | assumption | omega | rfl | exact Or.inl (by assumption) | exact Or.inr (by assumption))), (by exact Or.inr ((rfl)))⟩ (subP hP [0, 1, 2] rfl) (subD hD [0, 1, 2] (by decide) rfl) (Nat.le_of_ble_eq_true rfl) (Nat.le_of_ble_eq_true rfl) dX10_writeNames_39
  · have nc_4 := cv_nle (a := w) (b := k3_7) (by omega) (by omega) c_4
    refine lv_aload_n hx hb dX10_writeNames_13 rfl (lv_at hl 2 rfl) ?_
    refine lv_iload_n hx hb dX10_writeNames_14 rfl (lv_at hl 0 rfl) ?_
    refine et_VN (CR := []) (As := [.int (nI k3_7)]) (rest := []) hFX hKK hE hP hD hS hA (c_X10_separate l D κ κq wr d wb v2_7 gwb_7 dl k3_7 (by omega) (by omega)) 1 gV_X10_37 hdV_X10_separate ⟨Nat.le_of_ble_eq_true rfl, Nat.le_of_ble_eq_true rfl⟩ rfl rfl (Nat.le_of_ble_eq_true rfl) dX10_writeNames_15 ⟨Nat.le_of_ble_eq_true rfl, Nat.le_of_ble_eq_true rfl⟩ hl.1 [0, 1, 2] [] rfl rfl (by decide) (by decide) (by decide) hP 0 10 rfl rfl rfl (fun u_14 H locs hp_15 hP hD hS => ?_)
    obtain ⟨y__12, g__13⟩ := u_14
    replace hP : va_P D vwCl ([(wr, .inr (10, [.ref d, .ref wb, .int (nI y__12)])), (d, .inl (κ 0, 6, .inl dl)), (wb, .inl (κ 1, 6000, .inl g__13))] ++ im) H := subP (C := [(wr, .inr (10, [.ref d, .ref wb, .int (nI y__12)])), (d, .inl (κ 0, 6, .inl dl)), (wb, .inl (κ 1, 6000, .inl g__13))]) hP [0, 1, 2] rfl
    replace hD : va_D A ([(wr, .inr (10, [.ref d, .ref wb, .int (nI y__12)])), (d, .inl (κ 0, 6, .inl dl)), (wb, .inl (κ 1, 6000, .inl g__13))] ++ im) := subD (C := [(wr, .inr (10, [.ref d, .ref wb, .int (nI y__12)])), (d, .inl (κ 0, 6, .inl dl)), (wb, .inl (κ 1, 6000, .inl g__13))]) hD [0, 1, 2] (by decide) rfl
    replace hp_15 : v2_7 ≤ y__12 ∧ y__12 ≤ v2_7 + 1 := hp_15
    obtain ⟨h_16, h_17⟩ := hp_15
    refine W.eq (g2 := F0 m 18 ls []) rfl ?_
    refine lv_aload_n hx hb dX10_writeNames_18 rfl (lv_at hl 2 rfl) ?_
    refine lv_aload_n hx hb dX10_writeNames_19 rfl (lv_at hl 3 rfl) ?_
    refine lv_iload_n hx hb dX10_writeNames_20 rfl (lv_at hl 0 rfl) ?_
    refine va_aldq hx hb hK (oneP (C := [(wr, .inr (10, [.ref d, .ref wb, .int (nI y__12)])), (d, .inl (κ 0, 6, .inl dl)), (wb, .inl (κ 1, 6000, .inl g__13))]) hP hm_2) 0 3 rfl rfl (i := nI k3_7) (vp_in_nI (n := k3_7) (by omega) (by omega)) dX10_writeNames_21 ?_
    obtain ⟨q_18, e_19, m_20, t_21, h_22⟩ := lo_3 k3_7 (by omega)
    refine kv (v := .ref q_18) (by rw [nI_clamp (by omega)]; rw [e_19]; rfl) ?_
    obtain ⟨ht_23, b_24, hm_25, hb_26⟩ := id h_22
    have hn_b_24 := hb_26.1
    refine va_get (D := D) (ci := 1) (v := .ref b_24) (C := RX1) (T := TX1) (N := 2) hx hb hts inlX1 hown hK (oneP (C := [(wr, .inr (10, [.ref d, .ref wb, .int (nI y__12)])), (d, .inl (κ 0, 6, .inl dl)), (wb, .inl (κ 1, 6000, .inl g__13))]) hP hm_25) 0 rfl rfl 0 (by decide) (hts _ mw_1415) (fun _ h9 => h9) rfl dX10_writeNames_22 ?_
    refine et_VT (CR := [(d, .inl (κ 0, 6, .inl dl))]) (As := [.ref b_24]) (rest := []) hFX hKK hE hP hD hS hA (c_X10_writeBytes l D κ κq im wr d wb y__12 g__13 b_24 m_20 (by omega) hb_26) 1 gV_X10_46 hdV_X10_writeBytes ⟨Nat.le_of_ble_eq_true rfl, Nat.le_of_ble_eq_true rfl⟩ rfl rfl (Nat.le_of_ble_eq_true rfl) dX10_writeNames_25 ⟨Nat.le_of_ble_eq_true rfl, Nat.le_of_ble_eq_true rfl⟩ hl.1 [0, 2] [1] rfl rfl (by decide) (by decide) (by decide) hP 0 10 rfl rfl rfl (fun u_29 H locs hp_30 hP hD hS => ?_)
    obtain ⟨y__27, g__28⟩ := u_29
    replace hP : va_P D vwCl ([(wr, .inr (10, [.ref d, .ref wb, .int (nI y__27)])), (d, .inl (κ 0, 6, .inl dl)), (wb, .inl (κ 1, 6000, .inl g__28))] ++ im) H := subP (C := [(d, .inl (κ 0, 6, .inl dl)), (wr, .inr (10, [.ref d, .ref wb, .int (nI y__27)])), (wb, .inl (κ 1, 6000, .inl g__28))]) hP [1, 0, 2] rfl
    replace hD : va_D A ([(wr, .inr (10, [.ref d, .ref wb, .int (nI y__27)])), (d, .inl (κ 0, 6, .inl dl)), (wb, .inl (κ 1, 6000, .inl g__28))] ++ im) := subD (C := [(d, .inl (κ 0, 6, .inl dl)), (wr, .inr (10, [.ref d, .ref wb, .int (nI y__27)])), (wb, .inl (κ 1, 6000, .inl g__28))]) hD [1, 0, 2] (by decide) rfl
    replace hp_30 : y__12 ≤ y__27 ∧ y__27 ≤ y__12 + m_20 ∧ m_20 ≤ 20 := hp_30
    obtain ⟨h_31, h_32, h_33⟩ := hp_30
    refine W.eq (g2 := F0 m 28 ls []) rfl ?_
    refine lv_iinc (v := (nI (k3_7 + 1))) (lv' := [(3, .int (nI (k3_7 + 1))), (2, .int (nI L)), (0, .ref wr), (1, .ref ca)]) hx hb dX10_writeNames_28 hl (k := 0) rfl (nI_i k3_7) (by decide) rfl (fun ls hl => ?_)
    refine lv_goto (tgt := 7) hx hb dX10_writeNames_31 (by decide) ?_
    exact ih7 _ _ _ _ (by omega) ⟨(k3_7 + 1), y__27, g__28, (by omega), (by omega), rfl, hP, hD, hS, lv_sub hl [0, 1, 2, 3] rfl⟩
set_option maxHeartbeats 4000000 in
set_option maxRecDepth 100000 in
theorem c_X10_writeRow (l : Launch) (D : va_G) (κ : Nat → ClassId) (κq : Nat → Nat) (im : va_W) (wr : Nat) (d : Nat) (wb : Nat) (L : Nat) (bf : Nat → Int32) (dl : Nat → Int32) (a : Nat) (R : Nat) (w : Nat) (r9 : Nat) (hL : L ≤ 6000) (hs : Sh κ im a R w) (hr9 : r9 < R) : Et l yX10_writeRow (wl yX10_writeRow cX10_writeRow 7 (some .boolean)) { frames := 2, cells := 0, slots := 0, locals := 43 } D κ κq [.ref wr, .ref a, .int (nI r9)] ([(wr, .inr (10, [.ref d, .ref wb, .int (nI L)])), (d, .inl (κ 0, 6, .inl dl)), (wb, .inl (κ 1, 6000, .inl bf))] ++ im) (fun u9 : Int32 × Nat × (Nat → Int32) => some (.int u9.1)) (fun u9 : Int32 × Nat × (Nat → Int32) => u9.2.1 ≤ 6000 ∧ ((u9.1 = 1) ∨ (u9.1 = 0))) (fun u9 : Int32 × Nat × (Nat → Int32) => ([(wr, .inr (10, [.ref d, .ref wb, .int (nI u9.2.1)])), (d, .inl (κ 0, 6, .inl dl)), (wb, .inl (κ 1, 6000, .inl u9.2.2))] ++ im)) := by
  refine et_of (by decide +kernel) (Nat.le_of_ble_eq_true rfl) ?_
  intro p e s m args below meth c A ls hx hb hr hml hts hown hlk hin hKK hK hA hP hD hS hE hl
  have hS : va_S A s.heap s.heap [] := hS
  have hP : va_P D vwCl ([(wr, .inr (10, [.ref d, .ref wb, .int (nI L)])), (d, .inl (κ 0, 6, .inl dl)), (wb, .inl (κ 1, 6000, .inl bf))] ++ im) s.heap := hP
  have hD : va_D A ([(wr, .inr (10, [.ref d, .ref wb, .int (nI L)])), (d, .inl (κ 0, 6, .inl dl)), (wb, .inl (κ 1, 6000, .inl bf))] ++ im) := hD
  have hFX : FX p s m args c cX10_writeRow 7 RX10 := ⟨hx, hb, hml, hown, hts⟩
  have hl : lv_has ls 7 [(0, .ref wr), (1, .ref a), (2, .int (nI r9))] := hl
  obtain ⟨hb_1, c_2, x_3, v_4, g_5, h_6, hm_7, hm_8, hm_9, lo_10, lc_11, vw_12⟩ := id hs
  obtain ⟨hb_1_1, hb_1_2, hb_1_3⟩ := hb_1
  have hrw_hb_1 := rw_le hb_1_1 hb_1_3
  refine lv_aload_n hx hb dX10_writeRow_0 rfl (lv_at hl 0 rfl) ?_
  refine va_get (D := D) (ci := 10) (v := .int (nI L)) (C := RX10) (T := TX10) (N := 3) hx hb hts inlX10 hown hK hP 0 rfl rfl 2 (by decide) (hts _ mw_181) (fun _ h9 => h9) rfl dX10_writeRow_1 ?_
  refine lv_istore_n (lv' := [(3, .int (nI L)), (0, .ref wr), (1, .ref a), (2, .int (nI r9))]) hx hb dX10_writeRow_4 rfl hl (by decide) rfl (fun ls hl => ?_)
  refine lv_aload_n hx hb dX10_writeRow_5 rfl (lv_at hl 2 rfl) ?_
  refine va_get (D := D) (ci := 5) (v := .ref c_2) (C := RX5) (T := TX5) (N := 4) hx hb hts inlX5 hown hK (oneP (C := [(wr, .inr (10, [.ref d, .ref wb, .int (nI L)])), (d, .inl (κ 0, 6, .inl dl)), (wb, .inl (κ 1, 6000, .inl bf))]) hP hm_7) 0 rfl rfl 0 (by decide) (hts _ mw_1410) (fun _ h9 => h9) rfl dX10_writeRow_6 ?_
  refine va_alen hx hb hK (oneP (C := [(wr, .inr (10, [.ref d, .ref wb, .int (nI L)])), (d, .inl (κ 0, 6, .inl dl)), (wb, .inl (κ 1, 6000, .inl bf))]) hP hm_8) 0 3 rfl rfl (v := nI w) rfl dX10_writeRow_9 ?_
  refine lv_istore (lv' := [(4, .int (nI w)), (3, .int (nI L)), (0, .ref wr), (1, .ref a), (2, .int (nI r9))]) hx hb dX10_writeRow_10 hl (by decide) rfl (fun ls hl => ?_)
  refine lv_iconst (v := 0) hx hb dX10_writeRow_12 (by decide) ?_
  refine lv_istore (lv' := [(5, .int 0), (4, .int (nI w)), (3, .int (nI L)), (0, .ref wr), (1, .ref a), (2, .int (nI r9))]) hx hb dX10_writeRow_13 hl (by decide) rfl (fun ls hl => ?_)
  refine loop_dn (fun k9 H locs ls => ∃ (k5_15 : Nat), ∃ (v2_15 : Nat), ∃ (gwb_15 : Nat → Int32), (k5_15 ≤ w) ∧ (v2_15 ≤ L + 43 * k5_15) ∧ w - k5_15 = k9 ∧ va_P D vwCl ([(wr, .inr (10, [.ref d, .ref wb, .int (nI v2_15)])), (d, .inl (κ 0, 6, .inl dl)), (wb, .inl (κ 1, 6000, .inl gwb_15))] ++ im) H ∧ va_D A ([(wr, .inr (10, [.ref d, .ref wb, .int (nI v2_15)])), (d, .inl (κ 0, 6, .inl dl)), (wb, .inl (κ 1, 6000, .inl gwb_15))] ++ im) ∧ va_S A s.heap H locs ∧ lv_has ls 7 [(5, .int (nI k5_15)), (4, .int (nI w)), (3, .int (nI L)), (0, .ref wr), (1, .ref a), (2, .int (nI r9))]) (fun k9 H locs ls hI15 ih15 => ?_) (w - 0) _ _ _ ⟨0, L, bf, (by omega), (by omega), rfl, hP, hD, hS, lv_sub hl [0, 1, 2, 3, 4, 5] rfl⟩
  obtain ⟨k5_15, v2_15, gwb_15, hl15_0, hl15_1, hm15, hP, hD, hS, hl⟩ := hI15
  refine lv_iload hx hb dX10_writeRow_15 (lv_at hl 0 rfl) ?_
  refine lv_iload hx hb dX10_writeRow_17 (lv_at hl 1 rfl) ?_
  refine lv_icmp_ge (tgt := 77) hx hb dX10_writeRow_19 (by decide) (fun c_13 => ?_) (fun c_13 => ?_)
  · have nc_13 := cv_le (a := w) (b := k5_15) (by omega) (by omega) c_13
    refine lv_aload_n hx hb dX10_writeRow_77 rfl (lv_at hl 3 rfl) ?_
    refine lv_iload_n hx hb dX10_writeRow_78 rfl (lv_at hl 2 rfl) ?_
    refine et_VN (CR := [(d, .inl (κ 0, 6, .inl dl))]) (As := [.int (nI L)]) (rest := []) hFX hKK hE hP hD hS hA (c_X10_closeLine l D κ κq wr d wb v2_15 gwb_15 L (by omega) (by omega)) 1 gV_X10_50 hdV_X10_closeLine ⟨Nat.le_of_ble_eq_true rfl, Nat.le_of_ble_eq_true rfl⟩ rfl rfl (Nat.le_of_ble_eq_true rfl) dX10_writeRow_79 ⟨Nat.le_of_ble_eq_true rfl, Nat.le_of_ble_eq_true rfl⟩ hl.1 [0, 2] [1] rfl rfl (by decide) (by decide) (by decide) hP 0 10 rfl rfl rfl (fun u_17 H locs hp_18 hP hD hS => ?_)
    obtain ⟨r__14, y__15, g__16⟩ := u_17
    replace hP : va_P D vwCl ([(wr, .inr (10, [.ref d, .ref wb, .int (nI y__15)])), (d, .inl (κ 0, 6, .inl dl)), (wb, .inl (κ 1, 6000, .inl g__16))] ++ im) H := subP (C := [(d, .inl (κ 0, 6, .inl dl)), (wr, .inr (10, [.ref d, .ref wb, .int (nI y__15)])), (wb, .inl (κ 1, 6000, .inl g__16))]) hP [1, 0, 2] rfl
    replace hD : va_D A ([(wr, .inr (10, [.ref d, .ref wb, .int (nI y__15)])), (d, .inl (κ 0, 6, .inl dl)), (wb, .inl (κ 1, 6000, .inl g__16))] ++ im) := subD (C := [(d, .inl (κ 0, 6, .inl dl)), (wr, .inr (10, [.ref d, .ref wb, .int (nI y__15)])), (wb, .inl (κ 1, 6000, .inl g__16))]) hD [1, 0, 2] (by decide) rfl
    replace hp_18 : y__15 ≤ 6000 ∧ ((r__14 = 1) ∨ (r__14 = 0)) := hp_18
    obtain ⟨h_19, ha_20⟩ := hp_18
    rcases ha_20 with rfl | rfl
    · refine W.eq (g2 := F0 m 82 ls [.int 1]) rfl ?_
      exact et_iret hx hb hr hlk rfl hS (1, y__15, g__16) rfl ⟨(show y__15 ≤ 6000 from (by first | assumption | omega | rfl | exact Or.inl (by assumption) | exact Or.inr (by assumption))), (by exact Or.inl (rfl))⟩ (subP hP [0, 1, 2] rfl) (subD hD [0, 1, 2] (by decide) rfl) (Nat.le_of_ble_eq_true rfl) (Nat.le_of_ble_eq_true rfl) dX10_writeRow_82
    · refine W.eq (g2 := F0 m 82 ls [.int 0]) rfl ?_
      exact et_iret hx hb hr hlk rfl hS (0, y__15, g__16) rfl ⟨(show y__15 ≤ 6000 from (by first | assumption | omega | rfl | exact Or.inl (by assumption) | exact Or.inr (by assumption))), (by exact Or.inr ((rfl)))⟩ (subP hP [0, 1, 2] rfl) (subD hD [0, 1, 2] (by decide) rfl) (Nat.le_of_ble_eq_true rfl) (Nat.le_of_ble_eq_true rfl) dX10_writeRow_82
  · have nc_13 := cv_nle (a := w) (b := k5_15) (by omega) (by omega) c_13
    refine lv_aload_n hx hb dX10_writeRow_22 rfl (lv_at hl 4 rfl) ?_
    refine lv_iload_n hx hb dX10_writeRow_23 rfl (lv_at hl 5 rfl) ?_
    refine lv_iload hx hb dX10_writeRow_24 (lv_at hl 0 rfl) ?_
    refine er_V (As := [.int (nI r9), .int (nI k5_15)]) (rest := []) hFX hKK hE hS (c_X5_cellOf l D κ κq im a R w r9 k5_15 hs (by omega) (by omega)) 2 gV_X10_54 hdV_X5_cellOf rfl rfl ⟨Nat.le_of_ble_eq_true rfl, Nat.le_of_ble_eq_true rfl⟩ rfl rfl (Nat.le_of_ble_eq_true rfl) dX10_writeRow_26 ⟨Nat.le_of_ble_eq_true rfl, Nat.le_of_ble_eq_true rfl⟩ hl.1 (oneP (C := [(wr, .inr (10, [.ref d, .ref wb, .int (nI v2_15)])), (d, .inl (κ 0, 6, .inl dl)), (wb, .inl (κ 1, 6000, .inl gwb_15))]) hP hm_7) 0 5 rfl rfl rfl (subP hP [] rfl) (fun r__21 hp_22 => ?_)
    replace hp_22 : ((∃ (q : Nat), ∃ (k : Nat), ∃ (m : Nat), r__21 = some q ∧ Cl κ im q k m)) := hp_22
    have ha_23 := hp_22
    clear hp_22
    rcases ha_23 with ⟨q__24, k__25, m__26, rfl, a_27⟩
    · refine W.eq (g2 := F0 m 29 ls [.ref q__24]) rfl ?_
      refine lv_astore (lv' := [(6, .ref q__24), (5, .int (nI k5_15)), (4, .int (nI w)), (3, .int (nI L)), (0, .ref wr), (1, .ref a), (2, .int (nI r9))]) hx hb dX10_writeRow_29 hl (by decide) rfl (fun ls hl => ?_)
      refine lv_aload_n hx hb dX10_writeRow_31 rfl (lv_at hl 4 rfl) ?_
      refine lv_iload hx hb dX10_writeRow_32 (lv_at hl 1 rfl) ?_
      refine et_VN (CR := []) (As := [.int (nI k5_15)]) (rest := []) hFX hKK hE hP hD hS hA (c_X10_separate l D κ κq wr d wb v2_15 gwb_15 dl k5_15 (by omega) (by omega)) 1 gV_X10_37 hdV_X10_separate ⟨Nat.le_of_ble_eq_true rfl, Nat.le_of_ble_eq_true rfl⟩ rfl rfl (Nat.le_of_ble_eq_true rfl) dX10_writeRow_34 ⟨Nat.le_of_ble_eq_true rfl, Nat.le_of_ble_eq_true rfl⟩ hl.1 [0, 1, 2] [] rfl rfl (by decide) (by decide) (by decide) hP 0 10 rfl rfl rfl (fun u_30 H locs hp_31 hP hD hS => ?_)
      obtain ⟨y__28, g__29⟩ := u_30
      replace hP : va_P D vwCl ([(wr, .inr (10, [.ref d, .ref wb, .int (nI y__28)])), (d, .inl (κ 0, 6, .inl dl)), (wb, .inl (κ 1, 6000, .inl g__29))] ++ im) H := subP (C := [(wr, .inr (10, [.ref d, .ref wb, .int (nI y__28)])), (d, .inl (κ 0, 6, .inl dl)), (wb, .inl (κ 1, 6000, .inl g__29))]) hP [0, 1, 2] rfl
      replace hD : va_D A ([(wr, .inr (10, [.ref d, .ref wb, .int (nI y__28)])), (d, .inl (κ 0, 6, .inl dl)), (wb, .inl (κ 1, 6000, .inl g__29))] ++ im) := subD (C := [(wr, .inr (10, [.ref d, .ref wb, .int (nI y__28)])), (d, .inl (κ 0, 6, .inl dl)), (wb, .inl (κ 1, 6000, .inl g__29))]) hD [0, 1, 2] (by decide) rfl
      replace hp_31 : v2_15 ≤ y__28 ∧ y__28 ≤ v2_15 + 1 := hp_31
      obtain ⟨h_32, h_33⟩ := hp_31
      refine W.eq (g2 := F0 m 37 ls []) rfl ?_
      refine lv_aload_n hx hb dX10_writeRow_37 rfl (lv_at hl 4 rfl) ?_
      refine lv_aload hx hb dX10_writeRow_38 (lv_at hl 0 rfl) ?_
      refine lv_iload hx hb dX10_writeRow_40 (lv_at hl 1 rfl) ?_
      refine lv_iload hx hb dX10_writeRow_42 (lv_at hl 2 rfl) ?_
      refine er_V (As := [.ref q__24, .int (nI k5_15), .int (nI w)]) (rest := []) hFX hKK hE hS (c_X10_needsQuotes l D κ κq im wr d wb y__28 dl q__24 k__25 m__26 k5_15 w a_27 (by omega) (by omega)) 3 gV_X10_58 hdV_X10_needsQuotes rfl rfl ⟨Nat.le_of_ble_eq_true rfl, Nat.le_of_ble_eq_true rfl⟩ rfl rfl (Nat.le_of_ble_eq_true rfl) dX10_writeRow_44 ⟨Nat.le_of_ble_eq_true rfl, Nat.le_of_ble_eq_true rfl⟩ hl.1 hP 0 10 rfl rfl rfl (subP hP [0, 1] rfl) (fun r__34 hp_35 => ?_)
      replace hp_35 : ((r__34 = 1) ∨ (r__34 = 0)) := hp_35
      have ha_36 := hp_35
      clear hp_35
      rcases ha_36 with rfl | rfl
      · refine W.eq (g2 := F0 m 47 ls [.int 1]) rfl ?_
        refine lv_if_eq (tgt := 62) hx hb dX10_writeRow_47 (by decide) (fun c_37 => absurd c_37 (by decide)) (fun c_37 => ?_)
        refine lv_aload_n hx hb dX10_writeRow_50 rfl (lv_at hl 4 rfl) ?_
        refine lv_aload hx hb dX10_writeRow_51 (lv_at hl 0 rfl) ?_
        obtain ⟨hk_38, b_39, x_40, hm_41, hb_42⟩ := id a_27
        have hn_b_39 := hb_42.1
        refine va_get (D := D) (ci := 0) (v := .ref b_39) (C := RX0) (T := TX0) (N := 3) hx hb hts inlX0 hown hK (oneP (C := [(wr, .inr (10, [.ref d, .ref wb, .int (nI y__28)])), (d, .inl (κ 0, 6, .inl dl)), (wb, .inl (κ 1, 6000, .inl g__29))]) hP hm_41) 0 rfl rfl 0 (by decide) (hts _ mw_1231) (fun _ h9 => h9) rfl dX10_writeRow_53 ?_
        refine et_VT (CR := []) (As := [.ref b_39]) (rest := []) hFX hKK hE hP hD hS hA (c_X10_writeQuoted l D κ κq im wr d wb y__28 g__29 dl b_39 m__26 (by omega) hb_42) 1 gV_X10_65 hdV_X10_writeQuoted ⟨Nat.le_of_ble_eq_true rfl, Nat.le_of_ble_eq_true rfl⟩ rfl rfl (Nat.le_of_ble_eq_true rfl) dX10_writeRow_56 ⟨Nat.le_of_ble_eq_true rfl, Nat.le_of_ble_eq_true rfl⟩ hl.1 [0, 1, 2] [] rfl rfl (by decide) (by decide) (by decide) hP 0 10 rfl rfl rfl (fun u_45 H locs hp_46 hP hD hS => ?_)
        obtain ⟨y__43, g__44⟩ := u_45
        replace hP : va_P D vwCl ([(wr, .inr (10, [.ref d, .ref wb, .int (nI y__43)])), (d, .inl (κ 0, 6, .inl dl)), (wb, .inl (κ 1, 6000, .inl g__44))] ++ im) H := subP (C := [(wr, .inr (10, [.ref d, .ref wb, .int (nI y__43)])), (d, .inl (κ 0, 6, .inl dl)), (wb, .inl (κ 1, 6000, .inl g__44))]) hP [0, 1, 2] rfl
        replace hD : va_D A ([(wr, .inr (10, [.ref d, .ref wb, .int (nI y__43)])), (d, .inl (κ 0, 6, .inl dl)), (wb, .inl (κ 1, 6000, .inl g__44))] ++ im) := subD (C := [(wr, .inr (10, [.ref d, .ref wb, .int (nI y__43)])), (d, .inl (κ 0, 6, .inl dl)), (wb, .inl (κ 1, 6000, .inl g__44))]) hD [0, 1, 2] (by decide) rfl
        replace hp_46 : y__28 ≤ y__43 ∧ y__43 ≤ y__28 + 2 * m__26 + 2 ∧ m__26 ≤ 20 := hp_46
        obtain ⟨h_47, h_48, h_49⟩ := hp_46
        refine W.eq (g2 := F0 m 59 ls []) rfl ?_
        refine lv_goto (tgt := 71) hx hb dX10_writeRow_59 (by decide) ?_
        refine lv_iinc (v := (nI (k5_15 + 1))) (lv' := [(5, .int (nI (k5_15 + 1))), (6, .ref q__24), (4, .int (nI w)), (3, .int (nI L)), (0, .ref wr), (1, .ref a), (2, .int (nI r9))]) hx hb dX10_writeRow_71 hl (k := 1) rfl (nI_i k5_15) (by decide) rfl (fun ls hl => ?_)
        refine lv_goto (tgt := 15) hx hb dX10_writeRow_74 (by decide) ?_
        exact ih15 _ _ _ _ (by omega) ⟨(k5_15 + 1), y__43, g__44, (by omega), (by omega), rfl, hP, hD, hS, lv_sub hl [0, 2, 3, 4, 5, 6] rfl⟩
      · refine W.eq (g2 := F0 m 47 ls [.int 0]) rfl ?_
        refine lv_if_eq (tgt := 62) hx hb dX10_writeRow_47 (by decide) (fun c_50 => ?_) (fun c_50 => absurd (by decide) c_50)
        refine lv_aload_n hx hb dX10_writeRow_62 rfl (lv_at hl 4 rfl) ?_
        refine lv_aload hx hb dX10_writeRow_63 (lv_at hl 0 rfl) ?_
        obtain ⟨hk_51, b_52, x_53, hm_54, hb_55⟩ := id a_27
        have hn_b_52 := hb_55.1
        refine va_get (D := D) (ci := 0) (v := .ref b_52) (C := RX0) (T := TX0) (N := 3) hx hb hts inlX0 hown hK (oneP (C := [(wr, .inr (10, [.ref d, .ref wb, .int (nI y__28)])), (d, .inl (κ 0, 6, .inl dl)), (wb, .inl (κ 1, 6000, .inl g__29))]) hP hm_54) 0 rfl rfl 0 (by decide) (hts _ mw_1231) (fun _ h9 => h9) rfl dX10_writeRow_65 ?_
        refine et_VT (CR := [(d, .inl (κ 0, 6, .inl dl))]) (As := [.ref b_52]) (rest := []) hFX hKK hE hP hD hS hA (c_X10_writeBytes l D κ κq im wr d wb y__28 g__29 b_52 m__26 (by omega) hb_55) 1 gV_X10_46 hdV_X10_writeBytes ⟨Nat.le_of_ble_eq_true rfl, Nat.le_of_ble_eq_true rfl⟩ rfl rfl (Nat.le_of_ble_eq_true rfl) dX10_writeRow_68 ⟨Nat.le_of_ble_eq_true rfl, Nat.le_of_ble_eq_true rfl⟩ hl.1 [0, 2] [1] rfl rfl (by decide) (by decide) (by decide) hP 0 10 rfl rfl rfl (fun u_58 H locs hp_59 hP hD hS => ?_)
        obtain ⟨y__56, g__57⟩ := u_58
        replace hP : va_P D vwCl ([(wr, .inr (10, [.ref d, .ref wb, .int (nI y__56)])), (d, .inl (κ 0, 6, .inl dl)), (wb, .inl (κ 1, 6000, .inl g__57))] ++ im) H := subP (C := [(d, .inl (κ 0, 6, .inl dl)), (wr, .inr (10, [.ref d, .ref wb, .int (nI y__56)])), (wb, .inl (κ 1, 6000, .inl g__57))]) hP [1, 0, 2] rfl
        replace hD : va_D A ([(wr, .inr (10, [.ref d, .ref wb, .int (nI y__56)])), (d, .inl (κ 0, 6, .inl dl)), (wb, .inl (κ 1, 6000, .inl g__57))] ++ im) := subD (C := [(d, .inl (κ 0, 6, .inl dl)), (wr, .inr (10, [.ref d, .ref wb, .int (nI y__56)])), (wb, .inl (κ 1, 6000, .inl g__57))]) hD [1, 0, 2] (by decide) rfl
        replace hp_59 : y__28 ≤ y__56 ∧ y__56 ≤ y__28 + m__26 ∧ m__26 ≤ 20 := hp_59
        obtain ⟨h_60, h_61, h_62⟩ := hp_59
        refine W.eq (g2 := F0 m 71 ls []) rfl ?_
        refine lv_iinc (v := (nI (k5_15 + 1))) (lv' := [(5, .int (nI (k5_15 + 1))), (6, .ref q__24), (4, .int (nI w)), (3, .int (nI L)), (0, .ref wr), (1, .ref a), (2, .int (nI r9))]) hx hb dX10_writeRow_71 hl (k := 1) rfl (nI_i k5_15) (by decide) rfl (fun ls hl => ?_)
        refine lv_goto (tgt := 15) hx hb dX10_writeRow_74 (by decide) ?_
        exact ih15 _ _ _ _ (by omega) ⟨(k5_15 + 1), y__56, g__57, (by omega), (by omega), rfl, hP, hD, hS, lv_sub hl [0, 2, 3, 4, 5, 6] rfl⟩
set_option maxHeartbeats 4000000 in
set_option maxRecDepth 100000 in
theorem c_X10_writeSheet (l : Launch) (D : va_G) (κ : Nat → ClassId) (κq : Nat → Nat) (im : va_W) (wr : Nat) (d : Nat) (wb : Nat) (L : Nat) (bf : Nat → Int32) (dl : Nat → Int32) (a : Nat) (R : Nat) (w : Nat) (ra : Nat) (n : Nat) (hs : Sh κ im a R w) (hix : Ix κ im ra n R) : Et l yX10_writeSheet (wl yX10_writeSheet cX10_writeSheet 5 none) { frames := 3, cells := 0, slots := 0, locals := 69 } D κ κq [.ref wr, .ref a, .ref ra] ([(wr, .inr (10, [.ref d, .ref wb, .int (nI L)])), (d, .inl (κ 0, 6, .inl dl)), (wb, .inl (κ 1, 6000, .inl bf))] ++ im) (fun u9 : Nat × (Nat → Int32) => none) (fun u9 : Nat × (Nat → Int32) => u9.1 ≤ 6000) (fun u9 : Nat × (Nat → Int32) => ([(wr, .inr (10, [.ref d, .ref wb, .int (nI u9.1)])), (d, .inl (κ 0, 6, .inl dl)), (wb, .inl (κ 1, 6000, .inl u9.2))] ++ im)) := by
  refine et_of (by decide +kernel) (Nat.le_of_ble_eq_true rfl) ?_
  intro p e s m args below meth c A ls hx hb hr hml hts hown hlk hin hKK hK hA hP hD hS hE hl
  have hS : va_S A s.heap s.heap [] := hS
  have hP : va_P D vwCl ([(wr, .inr (10, [.ref d, .ref wb, .int (nI L)])), (d, .inl (κ 0, 6, .inl dl)), (wb, .inl (κ 1, 6000, .inl bf))] ++ im) s.heap := hP
  have hD : va_D A ([(wr, .inr (10, [.ref d, .ref wb, .int (nI L)])), (d, .inl (κ 0, 6, .inl dl)), (wb, .inl (κ 1, 6000, .inl bf))] ++ im) := hD
  have hFX : FX p s m args c cX10_writeSheet 5 RX10 := ⟨hx, hb, hml, hown, hts⟩
  have hl : lv_has ls 5 [(0, .ref wr), (1, .ref a), (2, .ref ra)] := hl
  obtain ⟨hb_1, c_2, x_3, v_4, g_5, h_6, hm_7, hm_8, hm_9, lo_10, lc_11, vw_12⟩ := id hs
  obtain ⟨hb_1_1, hb_1_2, hb_1_3⟩ := hb_1
  have hrw_hb_1 := rw_le hb_1_1 hb_1_3
  obtain ⟨hn_13, f_14, hm_15, hf_16⟩ := id hix
  refine lv_aload_n hx hb dX10_writeSheet_0 rfl (lv_at hl 0 rfl) ?_
  refine lv_iconst (v := 0) hx hb dX10_writeSheet_1 (by decide) ?_
  refine va_put (D := D) (ci := 10) (v := .int 0) (ty := tyX10 2) (C := RX10) (T := TX10) (N := 3) hx hb hts inlX10 tyX10 tyX10_ok nmX10 hown hK hP hD hS 0 rfl rfl 2 (by decide) (hts _ mw_181) (fun _ h9 => h9) rfl (tyX10_ok 2 (by decide)) rfl rfl (Nat.le_of_ble_eq_true rfl) dX10_writeSheet_2 (fun H locs hP hD hS => ?_)
  have hP : va_P D vwCl ([(wr, .inr (10, [.ref d, .ref wb, .int 0])), (d, .inl (κ 0, 6, .inl dl)), (wb, .inl (κ 1, 6000, .inl bf))] ++ im) H := hP
  have hD : va_D A ([(wr, .inr (10, [.ref d, .ref wb, .int 0])), (d, .inl (κ 0, 6, .inl dl)), (wb, .inl (κ 1, 6000, .inl bf))] ++ im) := hD
  refine lv_aload_n hx hb dX10_writeSheet_5 rfl (lv_at hl 0 rfl) ?_
  refine va_get (D := D) (ci := 10) (v := .ref d) (C := RX10) (T := TX10) (N := 3) hx hb hts inlX10 hown hK hP 0 rfl rfl 0 (by decide) (hts _ mw_182) (fun _ h9 => h9) rfl dX10_writeSheet_6 ?_
  refine lv_iconst (v := 2) hx hb dX10_writeSheet_9 (by decide) ?_
  refine va_iald hx hb hK hP 1 0 rfl rfl (i := 2) (vp_k (by decide)) dX10_writeSheet_10 ?_
  obtain ⟨x_17, ex_17⟩ : ∃ y9 : Int32, dl 2 = y9 := ⟨_, rfl⟩
  refine kv (v := .int x_17) (congrArg Value.int ex_17) ?_
  refine lv_if_eq (tgt := 25) hx hb dX10_writeSheet_11 (by decide) (fun c_18 => ?_) (fun c_18 => ?_)
  · refine lv_iconst (v := 1) hx hb dX10_writeSheet_25 (by decide) ?_
    refine lv_goto (tgt := 30) hx hb dX10_writeSheet_26 (by decide) ?_
    refine lv_istore_n (lv' := [(3, .int 1), (0, .ref wr), (1, .ref a), (2, .ref ra)]) hx hb dX10_writeSheet_30 rfl hl (by decide) rfl (fun ls hl => ?_)
    refine lv_iconst (v := 0) hx hb dX10_writeSheet_31 (by decide) ?_
    refine lv_istore (lv' := [(4, .int 0), (3, .int 1), (0, .ref wr), (1, .ref a), (2, .ref ra)]) hx hb dX10_writeSheet_32 hl (by decide) rfl (fun ls hl => ?_)
    refine loop_dn (fun k9 H locs ls => ∃ (k4_34 : Nat), ∃ (k3_34 : Int32), ∃ (v2_34 : Nat), ∃ (gwb_34 : Nat → Int32), (k4_34 ≤ n) ∧ (v2_34 ≤ 6000) ∧ n - k4_34 = k9 ∧ va_P D vwCl ([(wr, .inr (10, [.ref d, .ref wb, .int (nI v2_34)])), (d, .inl (κ 0, 6, .inl dl)), (wb, .inl (κ 1, 6000, .inl gwb_34))] ++ im) H ∧ va_D A ([(wr, .inr (10, [.ref d, .ref wb, .int (nI v2_34)])), (d, .inl (κ 0, 6, .inl dl)), (wb, .inl (κ 1, 6000, .inl gwb_34))] ++ im) ∧ va_S A s.heap H locs ∧ lv_has ls 5 [(4, .int (nI k4_34)), (3, .int k3_34), (0, .ref wr), (1, .ref a), (2, .ref ra)]) (fun k9 H locs ls hI34 ih34 => ?_) (n - 0) _ _ _ ⟨0, 1, 0, bf, (by omega), (by omega), rfl, hP, hD, hS, lv_sub hl [0, 1, 2, 3, 4] rfl⟩
    obtain ⟨k4_34, k3_34, v2_34, gwb_34, hl34_0, hl34_1, hm34, hP, hD, hS, hl⟩ := hI34
    refine lv_iload_n hx hb dX10_writeSheet_34 rfl (lv_at hl 1 rfl) ?_
    refine lv_if_eq (tgt := 61) hx hb dX10_writeSheet_35 (by decide) (fun c_19 => ?_) (fun c_19 => ?_)
    · exact et_vret hx hb hr hlk hS (v2_34, gwb_34) rfl (show v2_34 ≤ 6000 from (by first | assumption | omega | rfl | exact Or.inl (by assumption) | exact Or.inr (by assumption))) (subP hP [0, 1, 2] rfl) (subD hD [0, 1, 2] (by decide) rfl) (Nat.le_of_ble_eq_true rfl) (Nat.le_of_ble_eq_true rfl) dX10_writeSheet_61
    · refine lv_iload hx hb dX10_writeSheet_38 (lv_at hl 0 rfl) ?_
      refine lv_aload_n hx hb dX10_writeSheet_40 rfl (lv_at hl 4 rfl) ?_
      refine va_alen hx hb hK (oneP (C := [(wr, .inr (10, [.ref d, .ref wb, .int (nI v2_34)])), (d, .inl (κ 0, 6, .inl dl)), (wb, .inl (κ 1, 6000, .inl gwb_34))]) hP hm_15) 0 0 rfl rfl (v := nI n) rfl dX10_writeSheet_41 ?_
      refine lv_icmp_ge (tgt := 61) hx hb dX10_writeSheet_42 (by decide) (fun c_20 => ?_) (fun c_20 => ?_)
      · have nc_20 := cv_le (a := n) (b := k4_34) (by omega) (by omega) c_20
        exact et_vret hx hb hr hlk hS (v2_34, gwb_34) rfl (show v2_34 ≤ 6000 from (by first | assumption | omega | rfl | exact Or.inl (by assumption) | exact Or.inr (by assumption))) (subP hP [0, 1, 2] rfl) (subD hD [0, 1, 2] (by decide) rfl) (Nat.le_of_ble_eq_true rfl) (Nat.le_of_ble_eq_true rfl) dX10_writeSheet_61
      · have nc_20 := cv_nle (a := n) (b := k4_34) (by omega) (by omega) c_20
        refine lv_aload_n hx hb dX10_writeSheet_45 rfl (lv_at hl 2 rfl) ?_
        refine lv_aload_n hx hb dX10_writeSheet_46 rfl (lv_at hl 3 rfl) ?_
        refine lv_aload_n hx hb dX10_writeSheet_47 rfl (lv_at hl 4 rfl) ?_
        refine lv_iload hx hb dX10_writeSheet_48 (lv_at hl 0 rfl) ?_
        refine va_iald hx hb hK (oneP (C := [(wr, .inr (10, [.ref d, .ref wb, .int (nI v2_34)])), (d, .inl (κ 0, 6, .inl dl)), (wb, .inl (κ 1, 6000, .inl gwb_34))]) hP hm_15) 0 0 rfl rfl (i := nI k4_34) (vp_in_nI (n := k4_34) (by omega) (by omega)) dX10_writeSheet_50 ?_
        refine kv (v := .int (f_14 k4_34)) (by rw [nI_clamp (by omega)]) ?_
        obtain ⟨n_21, hn_21, en_21⟩ := hf_16 k4_34 (by omega)
        refine kv (v := .int (nI n_21)) (congrArg Value.int en_21) ?_
        refine et_VT (CR := []) (As := [.ref a, .int (nI n_21)]) (rest := []) hFX hKK hE hP hD hS hA (c_X10_writeRow l D κ κq im wr d wb v2_34 gwb_34 dl a R w n_21 (by omega) hs (by omega)) 2 gV_X10_33 hdV_X10_writeRow ⟨Nat.le_of_ble_eq_true rfl, Nat.le_of_ble_eq_true rfl⟩ rfl rfl (Nat.le_of_ble_eq_true rfl) dX10_writeSheet_51 ⟨Nat.le_of_ble_eq_true rfl, Nat.le_of_ble_eq_true rfl⟩ hl.1 [0, 1, 2] [] rfl rfl (by decide) (by decide) (by decide) hP 0 10 rfl rfl rfl (fun u_25 H locs hp_26 hP hD hS => ?_)
        obtain ⟨r__22, y__23, g__24⟩ := u_25
        replace hP : va_P D vwCl ([(wr, .inr (10, [.ref d, .ref wb, .int (nI y__23)])), (d, .inl (κ 0, 6, .inl dl)), (wb, .inl (κ 1, 6000, .inl g__24))] ++ im) H := subP (C := [(wr, .inr (10, [.ref d, .ref wb, .int (nI y__23)])), (d, .inl (κ 0, 6, .inl dl)), (wb, .inl (κ 1, 6000, .inl g__24))]) hP [0, 1, 2] rfl
        replace hD : va_D A ([(wr, .inr (10, [.ref d, .ref wb, .int (nI y__23)])), (d, .inl (κ 0, 6, .inl dl)), (wb, .inl (κ 1, 6000, .inl g__24))] ++ im) := subD (C := [(wr, .inr (10, [.ref d, .ref wb, .int (nI y__23)])), (d, .inl (κ 0, 6, .inl dl)), (wb, .inl (κ 1, 6000, .inl g__24))]) hD [0, 1, 2] (by decide) rfl
        replace hp_26 : y__23 ≤ 6000 ∧ ((r__22 = 1) ∨ (r__22 = 0)) := hp_26
        obtain ⟨h_27, ha_28⟩ := hp_26
        rcases ha_28 with rfl | rfl
        · refine W.eq (g2 := F0 m 54 ls [.int 1]) rfl ?_
          refine lv_istore_n (lv' := [(3, .int 1), (4, .int (nI k4_34)), (0, .ref wr), (1, .ref a), (2, .ref ra)]) hx hb dX10_writeSheet_54 rfl hl (by decide) rfl (fun ls hl => ?_)
          refine lv_iinc (v := (nI (k4_34 + 1))) (lv' := [(4, .int (nI (k4_34 + 1))), (3, .int 1), (0, .ref wr), (1, .ref a), (2, .ref ra)]) hx hb dX10_writeSheet_55 hl (k := 1) rfl (nI_i k4_34) (by decide) rfl (fun ls hl => ?_)
          refine lv_goto (tgt := 34) hx hb dX10_writeSheet_58 (by decide) ?_
          exact ih34 _ _ _ _ (by omega) ⟨(k4_34 + 1), 1, y__23, g__24, (by omega), (by omega), rfl, hP, hD, hS, lv_sub hl [0, 1, 2, 3, 4] rfl⟩
        · refine W.eq (g2 := F0 m 54 ls [.int 0]) rfl ?_
          refine lv_istore_n (lv' := [(3, .int 0), (4, .int (nI k4_34)), (0, .ref wr), (1, .ref a), (2, .ref ra)]) hx hb dX10_writeSheet_54 rfl hl (by decide) rfl (fun ls hl => ?_)
          refine lv_iinc (v := (nI (k4_34 + 1))) (lv' := [(4, .int (nI (k4_34 + 1))), (3, .int 0), (0, .ref wr), (1, .ref a), (2, .ref ra)]) hx hb dX10_writeSheet_55 hl (k := 1) rfl (nI_i k4_34) (by decide) rfl (fun ls hl => ?_)
          refine lv_goto (tgt := 34) hx hb dX10_writeSheet_58 (by decide) ?_
          exact ih34 _ _ _ _ (by omega) ⟨(k4_34 + 1), 0, y__23, g__24, (by omega), (by omega), rfl, hP, hD, hS, lv_sub hl [0, 1, 2, 3, 4] rfl⟩
  · refine lv_aload_n hx hb dX10_writeSheet_14 rfl (lv_at hl 0 rfl) ?_
    refine lv_aload_n hx hb dX10_writeSheet_15 rfl (lv_at hl 1 rfl) ?_
    refine va_get (D := D) (ci := 5) (v := .ref c_2) (C := RX5) (T := TX5) (N := 4) hx hb hts inlX5 hown hK (oneP (C := [(wr, .inr (10, [.ref d, .ref wb, .int 0])), (d, .inl (κ 0, 6, .inl dl)), (wb, .inl (κ 1, 6000, .inl bf))]) hP hm_7) 0 rfl rfl 0 (by decide) (hts _ mw_1410) (fun _ h9 => h9) rfl dX10_writeSheet_16 ?_
    refine et_VT (CR := []) (As := [.ref c_2]) (rest := []) hFX hKK hE hP hD hS hA (c_X10_writeNames l D κ κq im wr d wb 0 bf dl c_2 w (by omega) ⟨_, hm_8, lo_10⟩ (by omega)) 1 gV_X10_29 hdV_X10_writeNames ⟨Nat.le_of_ble_eq_true rfl, Nat.le_of_ble_eq_true rfl⟩ rfl rfl (Nat.le_of_ble_eq_true rfl) dX10_writeSheet_19 ⟨Nat.le_of_ble_eq_true rfl, Nat.le_of_ble_eq_true rfl⟩ hl.1 [0, 1, 2] [] rfl rfl (by decide) (by decide) (by decide) hP 0 10 rfl rfl rfl (fun u_32 H locs hp_33 hP hD hS => ?_)
    obtain ⟨r__29, y__30, g__31⟩ := u_32
    replace hP : va_P D vwCl ([(wr, .inr (10, [.ref d, .ref wb, .int (nI y__30)])), (d, .inl (κ 0, 6, .inl dl)), (wb, .inl (κ 1, 6000, .inl g__31))] ++ im) H := subP (C := [(wr, .inr (10, [.ref d, .ref wb, .int (nI y__30)])), (d, .inl (κ 0, 6, .inl dl)), (wb, .inl (κ 1, 6000, .inl g__31))]) hP [0, 1, 2] rfl
    replace hD : va_D A ([(wr, .inr (10, [.ref d, .ref wb, .int (nI y__30)])), (d, .inl (κ 0, 6, .inl dl)), (wb, .inl (κ 1, 6000, .inl g__31))] ++ im) := subD (C := [(wr, .inr (10, [.ref d, .ref wb, .int (nI y__30)])), (d, .inl (κ 0, 6, .inl dl)), (wb, .inl (κ 1, 6000, .inl g__31))]) hD [0, 1, 2] (by decide) rfl
    replace hp_33 : y__30 ≤ 6000 ∧ ((r__29 = 1) ∨ (r__29 = 0)) := hp_33
    obtain ⟨h_34, ha_35⟩ := hp_33
    rcases ha_35 with rfl | rfl
    · refine W.eq (g2 := F0 m 22 ls [.int 1]) rfl ?_
      refine lv_if_eq (tgt := 29) hx hb dX10_writeSheet_22 (by decide) (fun c_36 => absurd c_36 (by decide)) (fun c_36 => ?_)
      refine lv_iconst (v := 1) hx hb dX10_writeSheet_25 (by decide) ?_
      refine lv_goto (tgt := 30) hx hb dX10_writeSheet_26 (by decide) ?_
      refine lv_istore_n (lv' := [(3, .int 1), (0, .ref wr), (1, .ref a), (2, .ref ra)]) hx hb dX10_writeSheet_30 rfl hl (by decide) rfl (fun ls hl => ?_)
      refine lv_iconst (v := 0) hx hb dX10_writeSheet_31 (by decide) ?_
      refine lv_istore (lv' := [(4, .int 0), (3, .int 1), (0, .ref wr), (1, .ref a), (2, .ref ra)]) hx hb dX10_writeSheet_32 hl (by decide) rfl (fun ls hl => ?_)
      refine loop_dn (fun k9 H locs ls => ∃ (k4_34 : Nat), ∃ (k3_34 : Int32), ∃ (v2_34 : Nat), ∃ (gwb_34 : Nat → Int32), (k4_34 ≤ n) ∧ (v2_34 ≤ 6000) ∧ n - k4_34 = k9 ∧ va_P D vwCl ([(wr, .inr (10, [.ref d, .ref wb, .int (nI v2_34)])), (d, .inl (κ 0, 6, .inl dl)), (wb, .inl (κ 1, 6000, .inl gwb_34))] ++ im) H ∧ va_D A ([(wr, .inr (10, [.ref d, .ref wb, .int (nI v2_34)])), (d, .inl (κ 0, 6, .inl dl)), (wb, .inl (κ 1, 6000, .inl gwb_34))] ++ im) ∧ va_S A s.heap H locs ∧ lv_has ls 5 [(4, .int (nI k4_34)), (3, .int k3_34), (0, .ref wr), (1, .ref a), (2, .ref ra)]) (fun k9 H locs ls hI34 ih34 => ?_) (n - 0) _ _ _ ⟨0, 1, y__30, g__31, (by omega), (by omega), rfl, hP, hD, hS, lv_sub hl [0, 1, 2, 3, 4] rfl⟩
      obtain ⟨k4_34, k3_34, v2_34, gwb_34, hl34_0, hl34_1, hm34, hP, hD, hS, hl⟩ := hI34
      refine lv_iload_n hx hb dX10_writeSheet_34 rfl (lv_at hl 1 rfl) ?_
      refine lv_if_eq (tgt := 61) hx hb dX10_writeSheet_35 (by decide) (fun c_37 => ?_) (fun c_37 => ?_)
      · exact et_vret hx hb hr hlk hS (v2_34, gwb_34) rfl (show v2_34 ≤ 6000 from (by first | assumption | omega | rfl | exact Or.inl (by assumption) | exact Or.inr (by assumption))) (subP hP [0, 1, 2] rfl) (subD hD [0, 1, 2] (by decide) rfl) (Nat.le_of_ble_eq_true rfl) (Nat.le_of_ble_eq_true rfl) dX10_writeSheet_61
      · refine lv_iload hx hb dX10_writeSheet_38 (lv_at hl 0 rfl) ?_
        refine lv_aload_n hx hb dX10_writeSheet_40 rfl (lv_at hl 4 rfl) ?_
        refine va_alen hx hb hK (oneP (C := [(wr, .inr (10, [.ref d, .ref wb, .int (nI v2_34)])), (d, .inl (κ 0, 6, .inl dl)), (wb, .inl (κ 1, 6000, .inl gwb_34))]) hP hm_15) 0 0 rfl rfl (v := nI n) rfl dX10_writeSheet_41 ?_
        refine lv_icmp_ge (tgt := 61) hx hb dX10_writeSheet_42 (by decide) (fun c_38 => ?_) (fun c_38 => ?_)
        · have nc_38 := cv_le (a := n) (b := k4_34) (by omega) (by omega) c_38
          exact et_vret hx hb hr hlk hS (v2_34, gwb_34) rfl (show v2_34 ≤ 6000 from (by first | assumption | omega | rfl | exact Or.inl (by assumption) | exact Or.inr (by assumption))) (subP hP [0, 1, 2] rfl) (subD hD [0, 1, 2] (by decide) rfl) (Nat.le_of_ble_eq_true rfl) (Nat.le_of_ble_eq_true rfl) dX10_writeSheet_61
        · have nc_38 := cv_nle (a := n) (b := k4_34) (by omega) (by omega) c_38
          refine lv_aload_n hx hb dX10_writeSheet_45 rfl (lv_at hl 2 rfl) ?_
          refine lv_aload_n hx hb dX10_writeSheet_46 rfl (lv_at hl 3 rfl) ?_
          refine lv_aload_n hx hb dX10_writeSheet_47 rfl (lv_at hl 4 rfl) ?_
          refine lv_iload hx hb dX10_writeSheet_48 (lv_at hl 0 rfl) ?_
          refine va_iald hx hb hK (oneP (C := [(wr, .inr (10, [.ref d, .ref wb, .int (nI v2_34)])), (d, .inl (κ 0, 6, .inl dl)), (wb, .inl (κ 1, 6000, .inl gwb_34))]) hP hm_15) 0 0 rfl rfl (i := nI k4_34) (vp_in_nI (n := k4_34) (by omega) (by omega)) dX10_writeSheet_50 ?_
          refine kv (v := .int (f_14 k4_34)) (by rw [nI_clamp (by omega)]) ?_
          obtain ⟨n_39, hn_39, en_39⟩ := hf_16 k4_34 (by omega)
          refine kv (v := .int (nI n_39)) (congrArg Value.int en_39) ?_
          refine et_VT (CR := []) (As := [.ref a, .int (nI n_39)]) (rest := []) hFX hKK hE hP hD hS hA (c_X10_writeRow l D κ κq im wr d wb v2_34 gwb_34 dl a R w n_39 (by omega) hs (by omega)) 2 gV_X10_33 hdV_X10_writeRow ⟨Nat.le_of_ble_eq_true rfl, Nat.le_of_ble_eq_true rfl⟩ rfl rfl (Nat.le_of_ble_eq_true rfl) dX10_writeSheet_51 ⟨Nat.le_of_ble_eq_true rfl, Nat.le_of_ble_eq_true rfl⟩ hl.1 [0, 1, 2] [] rfl rfl (by decide) (by decide) (by decide) hP 0 10 rfl rfl rfl (fun u_43 H locs hp_44 hP hD hS => ?_)
          obtain ⟨r__40, y__41, g__42⟩ := u_43
          replace hP : va_P D vwCl ([(wr, .inr (10, [.ref d, .ref wb, .int (nI y__41)])), (d, .inl (κ 0, 6, .inl dl)), (wb, .inl (κ 1, 6000, .inl g__42))] ++ im) H := subP (C := [(wr, .inr (10, [.ref d, .ref wb, .int (nI y__41)])), (d, .inl (κ 0, 6, .inl dl)), (wb, .inl (κ 1, 6000, .inl g__42))]) hP [0, 1, 2] rfl
          replace hD : va_D A ([(wr, .inr (10, [.ref d, .ref wb, .int (nI y__41)])), (d, .inl (κ 0, 6, .inl dl)), (wb, .inl (κ 1, 6000, .inl g__42))] ++ im) := subD (C := [(wr, .inr (10, [.ref d, .ref wb, .int (nI y__41)])), (d, .inl (κ 0, 6, .inl dl)), (wb, .inl (κ 1, 6000, .inl g__42))]) hD [0, 1, 2] (by decide) rfl
          replace hp_44 : y__41 ≤ 6000 ∧ ((r__40 = 1) ∨ (r__40 = 0)) := hp_44
          obtain ⟨h_45, ha_46⟩ := hp_44
          rcases ha_46 with rfl | rfl
          · refine W.eq (g2 := F0 m 54 ls [.int 1]) rfl ?_
            refine lv_istore_n (lv' := [(3, .int 1), (4, .int (nI k4_34)), (0, .ref wr), (1, .ref a), (2, .ref ra)]) hx hb dX10_writeSheet_54 rfl hl (by decide) rfl (fun ls hl => ?_)
            refine lv_iinc (v := (nI (k4_34 + 1))) (lv' := [(4, .int (nI (k4_34 + 1))), (3, .int 1), (0, .ref wr), (1, .ref a), (2, .ref ra)]) hx hb dX10_writeSheet_55 hl (k := 1) rfl (nI_i k4_34) (by decide) rfl (fun ls hl => ?_)
            refine lv_goto (tgt := 34) hx hb dX10_writeSheet_58 (by decide) ?_
            exact ih34 _ _ _ _ (by omega) ⟨(k4_34 + 1), 1, y__41, g__42, (by omega), (by omega), rfl, hP, hD, hS, lv_sub hl [0, 1, 2, 3, 4] rfl⟩
          · refine W.eq (g2 := F0 m 54 ls [.int 0]) rfl ?_
            refine lv_istore_n (lv' := [(3, .int 0), (4, .int (nI k4_34)), (0, .ref wr), (1, .ref a), (2, .ref ra)]) hx hb dX10_writeSheet_54 rfl hl (by decide) rfl (fun ls hl => ?_)
            refine lv_iinc (v := (nI (k4_34 + 1))) (lv' := [(4, .int (nI (k4_34 + 1))), (3, .int 0), (0, .ref wr), (1, .ref a), (2, .ref ra)]) hx hb dX10_writeSheet_55 hl (k := 1) rfl (nI_i k4_34) (by decide) rfl (fun ls hl => ?_)
            refine lv_goto (tgt := 34) hx hb dX10_writeSheet_58 (by decide) ?_
            exact ih34 _ _ _ _ (by omega) ⟨(k4_34 + 1), 0, y__41, g__42, (by omega), (by omega), rfl, hP, hD, hS, lv_sub hl [0, 1, 2, 3, 4] rfl⟩
    · refine W.eq (g2 := F0 m 22 ls [.int 0]) rfl ?_
      refine lv_if_eq (tgt := 29) hx hb dX10_writeSheet_22 (by decide) (fun c_47 => ?_) (fun c_47 => absurd (by decide) c_47)
      refine lv_iconst (v := 0) hx hb dX10_writeSheet_29 (by decide) ?_
      refine lv_istore_n (lv' := [(3, .int 0), (0, .ref wr), (1, .ref a), (2, .ref ra)]) hx hb dX10_writeSheet_30 rfl hl (by decide) rfl (fun ls hl => ?_)
      refine lv_iconst (v := 0) hx hb dX10_writeSheet_31 (by decide) ?_
      refine lv_istore (lv' := [(4, .int 0), (3, .int 0), (0, .ref wr), (1, .ref a), (2, .ref ra)]) hx hb dX10_writeSheet_32 hl (by decide) rfl (fun ls hl => ?_)
      refine loop_dn (fun k9 H locs ls => ∃ (k4_34 : Nat), ∃ (k3_34 : Int32), ∃ (v2_34 : Nat), ∃ (gwb_34 : Nat → Int32), (k4_34 ≤ n) ∧ (v2_34 ≤ 6000) ∧ n - k4_34 = k9 ∧ va_P D vwCl ([(wr, .inr (10, [.ref d, .ref wb, .int (nI v2_34)])), (d, .inl (κ 0, 6, .inl dl)), (wb, .inl (κ 1, 6000, .inl gwb_34))] ++ im) H ∧ va_D A ([(wr, .inr (10, [.ref d, .ref wb, .int (nI v2_34)])), (d, .inl (κ 0, 6, .inl dl)), (wb, .inl (κ 1, 6000, .inl gwb_34))] ++ im) ∧ va_S A s.heap H locs ∧ lv_has ls 5 [(4, .int (nI k4_34)), (3, .int k3_34), (0, .ref wr), (1, .ref a), (2, .ref ra)]) (fun k9 H locs ls hI34 ih34 => ?_) (n - 0) _ _ _ ⟨0, 0, y__30, g__31, (by omega), (by omega), rfl, hP, hD, hS, lv_sub hl [0, 1, 2, 3, 4] rfl⟩
      obtain ⟨k4_34, k3_34, v2_34, gwb_34, hl34_0, hl34_1, hm34, hP, hD, hS, hl⟩ := hI34
      refine lv_iload_n hx hb dX10_writeSheet_34 rfl (lv_at hl 1 rfl) ?_
      refine lv_if_eq (tgt := 61) hx hb dX10_writeSheet_35 (by decide) (fun c_48 => ?_) (fun c_48 => ?_)
      · exact et_vret hx hb hr hlk hS (v2_34, gwb_34) rfl (show v2_34 ≤ 6000 from (by first | assumption | omega | rfl | exact Or.inl (by assumption) | exact Or.inr (by assumption))) (subP hP [0, 1, 2] rfl) (subD hD [0, 1, 2] (by decide) rfl) (Nat.le_of_ble_eq_true rfl) (Nat.le_of_ble_eq_true rfl) dX10_writeSheet_61
      · refine lv_iload hx hb dX10_writeSheet_38 (lv_at hl 0 rfl) ?_
        refine lv_aload_n hx hb dX10_writeSheet_40 rfl (lv_at hl 4 rfl) ?_
        refine va_alen hx hb hK (oneP (C := [(wr, .inr (10, [.ref d, .ref wb, .int (nI v2_34)])), (d, .inl (κ 0, 6, .inl dl)), (wb, .inl (κ 1, 6000, .inl gwb_34))]) hP hm_15) 0 0 rfl rfl (v := nI n) rfl dX10_writeSheet_41 ?_
        refine lv_icmp_ge (tgt := 61) hx hb dX10_writeSheet_42 (by decide) (fun c_49 => ?_) (fun c_49 => ?_)
        · have nc_49 := cv_le (a := n) (b := k4_34) (by omega) (by omega) c_49
          exact et_vret hx hb hr hlk hS (v2_34, gwb_34) rfl (show v2_34 ≤ 6000 from (by first | assumption | omega | rfl | exact Or.inl (by assumption) | exact Or.inr (by assumption))) (subP hP [0, 1, 2] rfl) (subD hD [0, 1, 2] (by decide) rfl) (Nat.le_of_ble_eq_true rfl) (Nat.le_of_ble_eq_true rfl) dX10_writeSheet_61
        · have nc_49 := cv_nle (a := n) (b := k4_34) (by omega) (by omega) c_49
          refine lv_aload_n hx hb dX10_writeSheet_45 rfl (lv_at hl 2 rfl) ?_
          refine lv_aload_n hx hb dX10_writeSheet_46 rfl (lv_at hl 3 rfl) ?_
          refine lv_aload_n hx hb dX10_writeSheet_47 rfl (lv_at hl 4 rfl) ?_
          refine lv_iload hx hb dX10_writeSheet_48 (lv_at hl 0 rfl) ?_
          refine va_iald hx hb hK (oneP (C := [(wr, .inr (10, [.ref d, .ref wb, .int (nI v2_34)])), (d, .inl (κ 0, 6, .inl dl)), (wb, .inl (κ 1, 6000, .inl gwb_34))]) hP hm_15) 0 0 rfl rfl (i := nI k4_34) (vp_in_nI (n := k4_34) (by omega) (by omega)) dX10_writeSheet_50 ?_
          refine kv (v := .int (f_14 k4_34)) (by rw [nI_clamp (by omega)]) ?_
          obtain ⟨n_50, hn_50, en_50⟩ := hf_16 k4_34 (by omega)
          refine kv (v := .int (nI n_50)) (congrArg Value.int en_50) ?_
          refine et_VT (CR := []) (As := [.ref a, .int (nI n_50)]) (rest := []) hFX hKK hE hP hD hS hA (c_X10_writeRow l D κ κq im wr d wb v2_34 gwb_34 dl a R w n_50 (by omega) hs (by omega)) 2 gV_X10_33 hdV_X10_writeRow ⟨Nat.le_of_ble_eq_true rfl, Nat.le_of_ble_eq_true rfl⟩ rfl rfl (Nat.le_of_ble_eq_true rfl) dX10_writeSheet_51 ⟨Nat.le_of_ble_eq_true rfl, Nat.le_of_ble_eq_true rfl⟩ hl.1 [0, 1, 2] [] rfl rfl (by decide) (by decide) (by decide) hP 0 10 rfl rfl rfl (fun u_54 H locs hp_55 hP hD hS => ?_)
          obtain ⟨r__51, y__52, g__53⟩ := u_54
          replace hP : va_P D vwCl ([(wr, .inr (10, [.ref d, .ref wb, .int (nI y__52)])), (d, .inl (κ 0, 6, .inl dl)), (wb, .inl (κ 1, 6000, .inl g__53))] ++ im) H := subP (C := [(wr, .inr (10, [.ref d, .ref wb, .int (nI y__52)])), (d, .inl (κ 0, 6, .inl dl)), (wb, .inl (κ 1, 6000, .inl g__53))]) hP [0, 1, 2] rfl
          replace hD : va_D A ([(wr, .inr (10, [.ref d, .ref wb, .int (nI y__52)])), (d, .inl (κ 0, 6, .inl dl)), (wb, .inl (κ 1, 6000, .inl g__53))] ++ im) := subD (C := [(wr, .inr (10, [.ref d, .ref wb, .int (nI y__52)])), (d, .inl (κ 0, 6, .inl dl)), (wb, .inl (κ 1, 6000, .inl g__53))]) hD [0, 1, 2] (by decide) rfl
          replace hp_55 : y__52 ≤ 6000 ∧ ((r__51 = 1) ∨ (r__51 = 0)) := hp_55
          obtain ⟨h_56, ha_57⟩ := hp_55
          rcases ha_57 with rfl | rfl
          · refine W.eq (g2 := F0 m 54 ls [.int 1]) rfl ?_
            refine lv_istore_n (lv' := [(3, .int 1), (4, .int (nI k4_34)), (0, .ref wr), (1, .ref a), (2, .ref ra)]) hx hb dX10_writeSheet_54 rfl hl (by decide) rfl (fun ls hl => ?_)
            refine lv_iinc (v := (nI (k4_34 + 1))) (lv' := [(4, .int (nI (k4_34 + 1))), (3, .int 1), (0, .ref wr), (1, .ref a), (2, .ref ra)]) hx hb dX10_writeSheet_55 hl (k := 1) rfl (nI_i k4_34) (by decide) rfl (fun ls hl => ?_)
            refine lv_goto (tgt := 34) hx hb dX10_writeSheet_58 (by decide) ?_
            exact ih34 _ _ _ _ (by omega) ⟨(k4_34 + 1), 1, y__52, g__53, (by omega), (by omega), rfl, hP, hD, hS, lv_sub hl [0, 1, 2, 3, 4] rfl⟩
          · refine W.eq (g2 := F0 m 54 ls [.int 0]) rfl ?_
            refine lv_istore_n (lv' := [(3, .int 0), (4, .int (nI k4_34)), (0, .ref wr), (1, .ref a), (2, .ref ra)]) hx hb dX10_writeSheet_54 rfl hl (by decide) rfl (fun ls hl => ?_)
            refine lv_iinc (v := (nI (k4_34 + 1))) (lv' := [(4, .int (nI (k4_34 + 1))), (3, .int 0), (0, .ref wr), (1, .ref a), (2, .ref ra)]) hx hb dX10_writeSheet_55 hl (k := 1) rfl (nI_i k4_34) (by decide) rfl (fun ls hl => ?_)
            refine lv_goto (tgt := 34) hx hb dX10_writeSheet_58 (by decide) ?_
            exact ih34 _ _ _ _ (by omega) ⟨(k4_34 + 1), 0, y__52, g__53, (by omega), (by omega), rfl, hP, hD, hS, lv_sub hl [0, 1, 2, 3, 4] rfl⟩
