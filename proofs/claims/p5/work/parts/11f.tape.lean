theorem dX1_indexOf_0 : decode cX1_indexOf 0 = .ok (.iconst 0, 1) := by decide +kernel
theorem dX1_indexOf_1 : decode cX1_indexOf 1 = .ok (.istore_n 3, 1) := by decide +kernel
theorem dX1_indexOf_2 : decode cX1_indexOf 2 = .ok (.iload_n 3, 1) := by decide +kernel
theorem dX1_indexOf_3 : decode cX1_indexOf 3 = .ok (.iload_n 1, 1) := by decide +kernel
theorem dX1_indexOf_4 : decode cX1_indexOf 4 = .ok (.if_icmp .ge 21, 3) := by decide +kernel
theorem dX1_indexOf_25 : decode cX1_indexOf 25 = .ok (.iconst (-1), 1) := by decide +kernel
theorem dX1_indexOf_26 : decode cX1_indexOf 26 = .ok (.ireturn, 1) := by decide +kernel
theorem dX1_indexOf_7 : decode cX1_indexOf 7 = .ok (.aload_n 0, 1) := by decide +kernel
theorem dX1_indexOf_8 : decode cX1_indexOf 8 = .ok (.iload_n 3, 1) := by decide +kernel
theorem dX1_indexOf_9 : decode cX1_indexOf 9 = .ok (.aaload, 1) := by decide +kernel
theorem dX1_indexOf_10 : decode cX1_indexOf 10 = .ok (.aload_n 2, 1) := by decide +kernel
theorem dX1_indexOf_11 : decode cX1_indexOf 11 = .ok (.invokevirtual 35, 3) := by decide +kernel
theorem mw_345 : Cond.code yX1_isNamed cX1_isNamed 3 (some .boolean) ∈ wsL_law := lrk_15 _ (List.mem_of_getElem? (i := 9) rfl)
theorem mw_342 : Cond.methodLink RX1 35 yX1_isNamed ∈ wsL_law := lrk_15 _ (List.mem_of_getElem? (i := 6) rfl)
theorem mw_343 : Cond.instanceMethod yX1_isNamed ∈ wsL_law := lrk_15 _ (List.mem_of_getElem? (i := 7) rfl)
theorem mw_344 : Cond.selects RX1 yX1_isNamed yX1_isNamed ∈ wsL_law := lrk_15 _ (List.mem_of_getElem? (i := 8) rfl)
theorem gV_X1_35 : GoodIn wsL_law (wsV RX1 35 RX1 yX1_isNamed (wl yX1_isNamed cX1_isNamed 3 (some .boolean))) := g_V mw_342 mw_343 mw_344 mw_331 mw_345
theorem hdV_X1_isNamed : yX1_isNamed.cls = RX1 ∧ okD yX1_isNamed 1 := by decide +kernel
theorem dX1_indexOf_14 : decode cX1_indexOf 14 = .ok (.ifCond .eq 5, 3) := by decide +kernel
theorem dX1_indexOf_17 : decode cX1_indexOf 17 = .ok (.iload_n 3, 1) := by decide +kernel
theorem dX1_indexOf_18 : decode cX1_indexOf 18 = .ok (.ireturn, 1) := by decide +kernel
theorem dX1_indexOf_19 : decode cX1_indexOf 19 = .ok (.iinc 3 1, 3) := by decide +kernel
theorem dX1_indexOf_22 : decode cX1_indexOf 22 = .ok (.goto (-20), 3) := by decide +kernel
theorem dX5_isUnlikeAt_0 : decode cX5_isUnlikeAt 0 = .ok (.aload_n 0, 1) := by decide +kernel
theorem dX5_isUnlikeAt_1 : decode cX5_isUnlikeAt 1 = .ok (.iload_n 2, 1) := by decide +kernel
theorem dX5_isUnlikeAt_2 : decode cX5_isUnlikeAt 2 = .ok (.iload_n 3, 1) := by decide +kernel
theorem dX5_isUnlikeAt_3 : decode cX5_isUnlikeAt 3 = .ok (.invokevirtual 84, 3) := by decide +kernel
theorem mw_579 : Cond.code yX5_hasCell cX5_hasCell 3 (some .boolean) ∈ wsL_law := lrk_25 _ (List.mem_of_getElem? (i := 3) rfl)
theorem mw_1392 : Cond.methodLink RX5 84 yX5_hasCell ∈ wsL_law := lrk_59 _ (List.mem_of_getElem? (i := 0) rfl)
theorem mw_577 : Cond.instanceMethod yX5_hasCell ∈ wsL_law := lrk_25 _ (List.mem_of_getElem? (i := 1) rfl)
theorem mw_578 : Cond.selects RX5 yX5_hasCell yX5_hasCell ∈ wsL_law := lrk_25 _ (List.mem_of_getElem? (i := 2) rfl)
theorem gV_X5_84 : GoodIn wsL_law (wsV RX5 84 RX5 yX5_hasCell (wl yX5_hasCell cX5_hasCell 3 (some .boolean))) := g_V mw_1392 mw_577 mw_578 mw_377 mw_579
theorem hdV_X5_hasCell : yX5_hasCell.cls = RX5 ∧ okD yX5_hasCell 2 := by decide +kernel
theorem dX5_isUnlikeAt_6 : decode cX5_isUnlikeAt 6 = .ok (.istore 4, 2) := by decide +kernel
theorem dX5_isUnlikeAt_8 : decode cX5_isUnlikeAt 8 = .ok (.aload_n 1, 1) := by decide +kernel
theorem dX5_isUnlikeAt_9 : decode cX5_isUnlikeAt 9 = .ok (.iload_n 2, 1) := by decide +kernel
theorem dX5_isUnlikeAt_10 : decode cX5_isUnlikeAt 10 = .ok (.iload_n 3, 1) := by decide +kernel
theorem dX5_isUnlikeAt_11 : decode cX5_isUnlikeAt 11 = .ok (.invokevirtual 84, 3) := by decide +kernel
theorem dX5_isUnlikeAt_14 : decode cX5_isUnlikeAt 14 = .ok (.istore 5, 2) := by decide +kernel
theorem dX5_isUnlikeAt_16 : decode cX5_isUnlikeAt 16 = .ok (.iload 4, 2) := by decide +kernel
theorem dX5_isUnlikeAt_18 : decode cX5_isUnlikeAt 18 = .ok (.ifCond .eq 32, 3) := by decide +kernel
theorem dX5_isUnlikeAt_21 : decode cX5_isUnlikeAt 21 = .ok (.iload 5, 2) := by decide +kernel
theorem dX5_isUnlikeAt_23 : decode cX5_isUnlikeAt 23 = .ok (.ifCond .eq 27, 3) := by decide +kernel
theorem dX5_isUnlikeAt_26 : decode cX5_isUnlikeAt 26 = .ok (.aload_n 0, 1) := by decide +kernel
theorem dX5_isUnlikeAt_27 : decode cX5_isUnlikeAt 27 = .ok (.iload_n 2, 1) := by decide +kernel
theorem dX5_isUnlikeAt_28 : decode cX5_isUnlikeAt 28 = .ok (.iload_n 3, 1) := by decide +kernel
theorem dX5_isUnlikeAt_29 : decode cX5_isUnlikeAt 29 = .ok (.invokevirtual 48, 3) := by decide +kernel
theorem dX5_isUnlikeAt_32 : decode cX5_isUnlikeAt 32 = .ok (.aload_n 1, 1) := by decide +kernel
theorem dX5_isUnlikeAt_33 : decode cX5_isUnlikeAt 33 = .ok (.iload_n 2, 1) := by decide +kernel
theorem dX5_isUnlikeAt_34 : decode cX5_isUnlikeAt 34 = .ok (.iload_n 3, 1) := by decide +kernel
theorem dX5_isUnlikeAt_35 : decode cX5_isUnlikeAt 35 = .ok (.invokevirtual 48, 3) := by decide +kernel
theorem dX5_isUnlikeAt_38 : decode cX5_isUnlikeAt 38 = .ok (.invokevirtual 87, 3) := by decide +kernel
theorem mw_1396 : Cond.code yX0_hasBytesOf cX0_hasBytesOf 2 (some .boolean) ∈ wsL_law := lrk_59 _ (List.mem_of_getElem? (i := 4) rfl)
theorem mw_1393 : Cond.methodLink RX5 87 yX0_hasBytesOf ∈ wsL_law := lrk_59 _ (List.mem_of_getElem? (i := 1) rfl)
theorem mw_1394 : Cond.instanceMethod yX0_hasBytesOf ∈ wsL_law := lrk_59 _ (List.mem_of_getElem? (i := 2) rfl)
theorem mw_1395 : Cond.selects RX0 yX0_hasBytesOf yX0_hasBytesOf ∈ wsL_law := lrk_59 _ (List.mem_of_getElem? (i := 3) rfl)
theorem gV_X5_87 : GoodIn wsL_law (wsV RX5 87 RX0 yX0_hasBytesOf (wl yX0_hasBytesOf cX0_hasBytesOf 2 (some .boolean))) := g_V mw_1393 mw_1394 mw_1395 mw_68 mw_1396
theorem hdV_X0_hasBytesOf : yX0_hasBytesOf.cls = RX0 ∧ okD yX0_hasBytesOf 1 := by decide +kernel
theorem dX5_isUnlikeAt_41 : decode cX5_isUnlikeAt 41 = .ok (.ifCond .ne 7, 3) := by decide +kernel
theorem dX5_isUnlikeAt_48 : decode cX5_isUnlikeAt 48 = .ok (.iconst 0, 1) := by decide +kernel
theorem dX5_isUnlikeAt_49 : decode cX5_isUnlikeAt 49 = .ok (.ireturn, 1) := by decide +kernel
theorem dX5_isUnlikeAt_44 : decode cX5_isUnlikeAt 44 = .ok (.iconst 1, 1) := by decide +kernel
theorem dX5_isUnlikeAt_45 : decode cX5_isUnlikeAt 45 = .ok (.goto 4, 3) := by decide +kernel
theorem dX5_isUnlikeAt_50 : decode cX5_isUnlikeAt 50 = .ok (.iload 4, 2) := by decide +kernel
theorem dX5_isUnlikeAt_52 : decode cX5_isUnlikeAt 52 = .ok (.ifCond .ne 8, 3) := by decide +kernel
theorem dX5_isUnlikeAt_60 : decode cX5_isUnlikeAt 60 = .ok (.iconst 1, 1) := by decide +kernel
theorem dX5_isUnlikeAt_61 : decode cX5_isUnlikeAt 61 = .ok (.goto 4, 3) := by decide +kernel
theorem dX5_isUnlikeAt_65 : decode cX5_isUnlikeAt 65 = .ok (.ireturn, 1) := by decide +kernel
theorem dX5_isUnlikeAt_55 : decode cX5_isUnlikeAt 55 = .ok (.iload 5, 2) := by decide +kernel
theorem dX5_isUnlikeAt_57 : decode cX5_isUnlikeAt 57 = .ok (.ifCond .eq 7, 3) := by decide +kernel
theorem dX5_isUnlikeAt_64 : decode cX5_isUnlikeAt 64 = .ok (.iconst 0, 1) := by decide +kernel
theorem dX5_countUnlike_0 : decode cX5_countUnlike 0 = .ok (.aload_n 0, 1) := by decide +kernel
theorem dX5_countUnlike_1 : decode cX5_countUnlike 1 = .ok (.getfield 19, 3) := by decide +kernel
theorem dX5_countUnlike_4 : decode cX5_countUnlike 4 = .ok (.aload_n 1, 1) := by decide +kernel
theorem dX5_countUnlike_5 : decode cX5_countUnlike 5 = .ok (.getfield 19, 3) := by decide +kernel
theorem dX5_countUnlike_8 : decode cX5_countUnlike 8 = .ok (.invokestatic 75, 3) := by decide +kernel
theorem mw_1385 : Cond.methodLink RX5 75 Lib.Math.max.name ∈ wsL_law := lrk_58 _ (List.mem_of_getElem? (i := 17) rfl)
theorem mw_1386 : Cond.static Lib.Math.max.name ∈ wsL_law := lrk_58 _ (List.mem_of_getElem? (i := 18) rfl)
theorem mw_1387 : Cond.code Lib.Math.max.name Lib.Math.max.code 2 (some .int) ∈ wsL_law := lrk_58 _ (List.mem_of_getElem? (i := 19) rfl)
theorem dX5_countUnlike_11 : decode cX5_countUnlike 11 = .ok (.istore_n 2, 1) := by decide +kernel
theorem dX5_countUnlike_12 : decode cX5_countUnlike 12 = .ok (.aload_n 0, 1) := by decide +kernel
theorem dX5_countUnlike_13 : decode cX5_countUnlike 13 = .ok (.getfield 9, 3) := by decide +kernel
theorem dX5_countUnlike_16 : decode cX5_countUnlike 16 = .ok (.arraylength, 1) := by decide +kernel
theorem dX5_countUnlike_17 : decode cX5_countUnlike 17 = .ok (.aload_n 1, 1) := by decide +kernel
theorem dX5_countUnlike_18 : decode cX5_countUnlike 18 = .ok (.getfield 9, 3) := by decide +kernel
theorem dX5_countUnlike_21 : decode cX5_countUnlike 21 = .ok (.arraylength, 1) := by decide +kernel
theorem dX5_countUnlike_22 : decode cX5_countUnlike 22 = .ok (.invokestatic 75, 3) := by decide +kernel
theorem dX5_countUnlike_25 : decode cX5_countUnlike 25 = .ok (.istore_n 3, 1) := by decide +kernel
theorem dX5_countUnlike_26 : decode cX5_countUnlike 26 = .ok (.iconst 0, 1) := by decide +kernel
theorem dX5_countUnlike_27 : decode cX5_countUnlike 27 = .ok (.istore 4, 2) := by decide +kernel
theorem dX5_countUnlike_29 : decode cX5_countUnlike 29 = .ok (.iconst 0, 1) := by decide +kernel
theorem dX5_countUnlike_30 : decode cX5_countUnlike 30 = .ok (.istore 5, 2) := by decide +kernel
theorem dX5_countUnlike_32 : decode cX5_countUnlike 32 = .ok (.iload 5, 2) := by decide +kernel
theorem dX5_countUnlike_34 : decode cX5_countUnlike 34 = .ok (.iload_n 2, 1) := by decide +kernel
theorem dX5_countUnlike_35 : decode cX5_countUnlike 35 = .ok (.if_icmp .ge 46, 3) := by decide +kernel
theorem dX5_countUnlike_81 : decode cX5_countUnlike 81 = .ok (.iload 4, 2) := by decide +kernel
theorem dX5_countUnlike_83 : decode cX5_countUnlike 83 = .ok (.ireturn, 1) := by decide +kernel
theorem dX5_countUnlike_38 : decode cX5_countUnlike 38 = .ok (.iconst 0, 1) := by decide +kernel
theorem dX5_countUnlike_39 : decode cX5_countUnlike 39 = .ok (.istore 6, 2) := by decide +kernel
theorem dX5_countUnlike_41 : decode cX5_countUnlike 41 = .ok (.iload 6, 2) := by decide +kernel
theorem dX5_countUnlike_43 : decode cX5_countUnlike 43 = .ok (.iload_n 3, 1) := by decide +kernel
theorem dX5_countUnlike_44 : decode cX5_countUnlike 44 = .ok (.if_icmp .ge 31, 3) := by decide +kernel
theorem dX5_countUnlike_75 : decode cX5_countUnlike 75 = .ok (.iinc 5 1, 3) := by decide +kernel
theorem dX5_countUnlike_78 : decode cX5_countUnlike 78 = .ok (.goto (-46), 3) := by decide +kernel
theorem dX5_countUnlike_47 : decode cX5_countUnlike 47 = .ok (.iload 4, 2) := by decide +kernel
theorem dX5_countUnlike_49 : decode cX5_countUnlike 49 = .ok (.aload_n 0, 1) := by decide +kernel
theorem dX5_countUnlike_50 : decode cX5_countUnlike 50 = .ok (.aload_n 1, 1) := by decide +kernel
theorem dX5_countUnlike_51 : decode cX5_countUnlike 51 = .ok (.iload 5, 2) := by decide +kernel
theorem dX5_countUnlike_53 : decode cX5_countUnlike 53 = .ok (.iload 6, 2) := by decide +kernel
theorem dX5_countUnlike_55 : decode cX5_countUnlike 55 = .ok (.invokevirtual 80, 3) := by decide +kernel
theorem mw_1391 : Cond.code yX5_isUnlikeAt cX5_isUnlikeAt 6 (some .boolean) ∈ wsL_law := lrk_58 _ (List.mem_of_getElem? (i := 23) rfl)
theorem mw_1388 : Cond.methodLink RX5 80 yX5_isUnlikeAt ∈ wsL_law := lrk_58 _ (List.mem_of_getElem? (i := 20) rfl)
theorem mw_1389 : Cond.instanceMethod yX5_isUnlikeAt ∈ wsL_law := lrk_58 _ (List.mem_of_getElem? (i := 21) rfl)
theorem mw_1390 : Cond.selects RX5 yX5_isUnlikeAt yX5_isUnlikeAt ∈ wsL_law := lrk_58 _ (List.mem_of_getElem? (i := 22) rfl)
theorem gV_X5_80 : GoodIn wsL_law (wsV RX5 80 RX5 yX5_isUnlikeAt (wl yX5_isUnlikeAt cX5_isUnlikeAt 6 (some .boolean))) := g_V mw_1388 mw_1389 mw_1390 mw_377 mw_1391
theorem hdV_X5_isUnlikeAt : yX5_isUnlikeAt.cls = RX5 ∧ okD yX5_isUnlikeAt 3 := by decide +kernel
theorem dX5_countUnlike_58 : decode cX5_countUnlike 58 = .ok (.ifCond .eq 7, 3) := by decide +kernel
theorem dX5_countUnlike_61 : decode cX5_countUnlike 61 = .ok (.iconst 1, 1) := by decide +kernel
theorem dX5_countUnlike_62 : decode cX5_countUnlike 62 = .ok (.goto 4, 3) := by decide +kernel
theorem dX5_countUnlike_66 : decode cX5_countUnlike 66 = .ok (.iadd, 1) := by decide +kernel
theorem dX5_countUnlike_67 : decode cX5_countUnlike 67 = .ok (.istore 4, 2) := by decide +kernel
theorem dX5_countUnlike_69 : decode cX5_countUnlike 69 = .ok (.iinc 6 1, 3) := by decide +kernel
theorem dX5_countUnlike_72 : decode cX5_countUnlike 72 = .ok (.goto (-31), 3) := by decide +kernel
theorem dX5_countUnlike_65 : decode cX5_countUnlike 65 = .ok (.iconst 0, 1) := by decide +kernel
theorem dX11_canBeTold_0 : decode cX11_canBeTold 0 = .ok (.iload_n 2, 1) := by decide +kernel
theorem dX11_canBeTold_1 : decode cX11_canBeTold 1 = .ok (.iconst (-1), 1) := by decide +kernel
theorem dX11_canBeTold_2 : decode cX11_canBeTold 2 = .ok (.if_icmp .ne 22, 3) := by decide +kernel
theorem dX11_canBeTold_24 : decode cX11_canBeTold 24 = .ok (.iload_n 2, 1) := by decide +kernel
theorem dX11_canBeTold_25 : decode cX11_canBeTold 25 = .ok (.iconst 1, 1) := by decide +kernel
theorem dX11_canBeTold_26 : decode cX11_canBeTold 26 = .ok (.if_icmp .lt 22, 3) := by decide +kernel
theorem dX11_canBeTold_48 : decode cX11_canBeTold 48 = .ok (.iconst 0, 1) := by decide +kernel
theorem dX11_canBeTold_49 : decode cX11_canBeTold 49 = .ok (.ireturn, 1) := by decide +kernel
theorem dX11_canBeTold_29 : decode cX11_canBeTold 29 = .ok (.iload_n 2, 1) := by decide +kernel
theorem dX11_canBeTold_30 : decode cX11_canBeTold 30 = .ok (.iconst 5, 1) := by decide +kernel
theorem dX11_canBeTold_31 : decode cX11_canBeTold 31 = .ok (.if_icmp .gt 17, 3) := by decide +kernel
theorem dX11_canBeTold_34 : decode cX11_canBeTold 34 = .ok (.aload_n 0, 1) := by decide +kernel
theorem dX11_canBeTold_35 : decode cX11_canBeTold 35 = .ok (.iload_n 1, 1) := by decide +kernel
theorem dX11_canBeTold_36 : decode cX11_canBeTold 36 = .ok (.iload_n 2, 1) := by decide +kernel
theorem dX11_canBeTold_37 : decode cX11_canBeTold 37 = .ok (.invokevirtual 286, 3) := by decide +kernel
theorem mw_766 : Cond.code yX5_firstNotHeld cX5_firstNotHeld 4 (some .int) ∈ wsL_law := lrk_32 _ (List.mem_of_getElem? (i := 22) rfl)
theorem mw_763 : Cond.methodLink RX11 286 yX5_firstNotHeld ∈ wsL_law := lrk_32 _ (List.mem_of_getElem? (i := 19) rfl)
theorem mw_764 : Cond.instanceMethod yX5_firstNotHeld ∈ wsL_law := lrk_32 _ (List.mem_of_getElem? (i := 20) rfl)
theorem mw_765 : Cond.selects RX5 yX5_firstNotHeld yX5_firstNotHeld ∈ wsL_law := lrk_32 _ (List.mem_of_getElem? (i := 21) rfl)
theorem gV_X11_286 : GoodIn wsL_law (wsV RX11 286 RX5 yX5_firstNotHeld (wl yX5_firstNotHeld cX5_firstNotHeld 4 (some .int))) := g_V mw_763 mw_764 mw_765 mw_377 mw_766
theorem hdV_X5_firstNotHeld : yX5_firstNotHeld.cls = RX5 ∧ okD yX5_firstNotHeld 2 := by decide +kernel
theorem dX11_canBeTold_40 : decode cX11_canBeTold 40 = .ok (.iconst (-1), 1) := by decide +kernel
theorem dX11_canBeTold_41 : decode cX11_canBeTold 41 = .ok (.if_icmp .ne 7, 3) := by decide +kernel
theorem dX11_canBeTold_44 : decode cX11_canBeTold 44 = .ok (.iconst 1, 1) := by decide +kernel
theorem dX11_canBeTold_45 : decode cX11_canBeTold 45 = .ok (.goto 4, 3) := by decide +kernel
theorem dX11_canBeTold_5 : decode cX11_canBeTold 5 = .ok (.aload_n 0, 1) := by decide +kernel
theorem dX11_canBeTold_6 : decode cX11_canBeTold 6 = .ok (.getfield 121, 3) := by decide +kernel
theorem mw_559 : Cond.fieldLink RX11 121 "TypedTables$Sheet" "columns" "[LTypedTables$Column;" ∈ wsL_law := lrk_24 _ (List.mem_of_getElem? (i := 7) rfl)
theorem dX11_canBeTold_9 : decode cX11_canBeTold 9 = .ok (.iload_n 1, 1) := by decide +kernel
theorem dX11_canBeTold_10 : decode cX11_canBeTold 10 = .ok (.aaload, 1) := by decide +kernel
theorem dX11_canBeTold_11 : decode cX11_canBeTold 11 = .ok (.getfield 168, 3) := by decide +kernel
theorem mw_714 : Cond.fieldLink RX11 168 "TypedTables$Column" "told" "I" ∈ wsL_law := lrk_30 _ (List.mem_of_getElem? (i := 18) rfl)
theorem dX11_canBeTold_14 : decode cX11_canBeTold 14 = .ok (.iconst (-1), 1) := by decide +kernel
theorem dX11_canBeTold_15 : decode cX11_canBeTold 15 = .ok (.if_icmp .eq 7, 3) := by decide +kernel
theorem dX11_canBeTold_22 : decode cX11_canBeTold 22 = .ok (.iconst 0, 1) := by decide +kernel
theorem dX11_canBeTold_23 : decode cX11_canBeTold 23 = .ok (.ireturn, 1) := by decide +kernel
theorem dX11_canBeTold_18 : decode cX11_canBeTold 18 = .ok (.iconst 1, 1) := by decide +kernel
theorem dX11_canBeTold_19 : decode cX11_canBeTold 19 = .ok (.goto 4, 3) := by decide +kernel
theorem dX2_clear_0 : decode cX2_clear 0 = .ok (.aload_n 0, 1) := by decide +kernel
theorem dX2_clear_1 : decode cX2_clear 1 = .ok (.iconst 0, 1) := by decide +kernel
theorem dX2_clear_2 : decode cX2_clear 2 = .ok (.putfield 9, 3) := by decide +kernel
theorem mw_56 : Cond.fieldLink RX2 9 "TypedTables$Fault" "kind" "I" ∈ wsL_law := lrk_3 _ (List.mem_of_getElem? (i := 8) rfl)
theorem dX2_clear_5 : decode cX2_clear 5 = .ok (.aload_n 0, 1) := by decide +kernel
theorem dX2_clear_6 : decode cX2_clear 6 = .ok (.iconst (-1), 1) := by decide +kernel
theorem dX2_clear_7 : decode cX2_clear 7 = .ok (.putfield 15, 3) := by decide +kernel
theorem mw_57 : Cond.fieldLink RX2 15 "TypedTables$Fault" "place" "I" ∈ wsL_law := lrk_3 _ (List.mem_of_getElem? (i := 9) rfl)
theorem dX2_clear_10 : decode cX2_clear 10 = .ok (.aload_n 0, 1) := by decide +kernel
theorem dX2_clear_11 : decode cX2_clear 11 = .ok (.iconst (-1), 1) := by decide +kernel
theorem dX2_clear_12 : decode cX2_clear 12 = .ok (.putfield 18, 3) := by decide +kernel
theorem mw_58 : Cond.fieldLink RX2 18 "TypedTables$Fault" "line" "I" ∈ wsL_law := lrk_3 _ (List.mem_of_getElem? (i := 10) rfl)
theorem dX2_clear_15 : decode cX2_clear 15 = .ok (.aload_n 0, 1) := by decide +kernel
theorem dX2_clear_16 : decode cX2_clear 16 = .ok (.iconst (-1), 1) := by decide +kernel
theorem dX2_clear_17 : decode cX2_clear 17 = .ok (.putfield 21, 3) := by decide +kernel
theorem mw_59 : Cond.fieldLink RX2 21 "TypedTables$Fault" "column" "I" ∈ wsL_law := lrk_3 _ (List.mem_of_getElem? (i := 11) rfl)
theorem dX2_clear_20 : decode cX2_clear 20 = .ok (.aload_n 0, 1) := by decide +kernel
theorem dX2_clear_21 : decode cX2_clear 21 = .ok (.iconst (-1), 1) := by decide +kernel
theorem dX2_clear_22 : decode cX2_clear 22 = .ok (.putfield 24, 3) := by decide +kernel
theorem mw_60 : Cond.fieldLink RX2 24 "TypedTables$Fault" "cause" "I" ∈ wsL_law := lrk_3 _ (List.mem_of_getElem? (i := 12) rfl)
theorem dX2_clear_25 : decode cX2_clear 25 = .ok (.return_, 1) := by decide +kernel
theorem dX2_tell_0 : decode cX2_tell 0 = .ok (.aload_n 0, 1) := by decide +kernel
theorem dX2_tell_1 : decode cX2_tell 1 = .ok (.iload_n 1, 1) := by decide +kernel
theorem dX2_tell_2 : decode cX2_tell 2 = .ok (.putfield 9, 3) := by decide +kernel
theorem dX2_tell_5 : decode cX2_tell 5 = .ok (.aload_n 0, 1) := by decide +kernel
theorem dX2_tell_6 : decode cX2_tell 6 = .ok (.iload_n 2, 1) := by decide +kernel
theorem dX2_tell_7 : decode cX2_tell 7 = .ok (.putfield 15, 3) := by decide +kernel
theorem dX2_tell_10 : decode cX2_tell 10 = .ok (.aload_n 0, 1) := by decide +kernel
theorem dX2_tell_11 : decode cX2_tell 11 = .ok (.iload_n 3, 1) := by decide +kernel
theorem dX2_tell_12 : decode cX2_tell 12 = .ok (.putfield 24, 3) := by decide +kernel
theorem dX2_tell_15 : decode cX2_tell 15 = .ok (.aload_n 0, 1) := by decide +kernel
theorem dX2_tell_16 : decode cX2_tell 16 = .ok (.iconst 0, 1) := by decide +kernel
theorem dX2_tell_17 : decode cX2_tell 17 = .ok (.putfield 18, 3) := by decide +kernel
theorem dX2_tell_20 : decode cX2_tell 20 = .ok (.iconst 0, 1) := by decide +kernel
theorem dX2_tell_21 : decode cX2_tell 21 = .ok (.istore 5, 2) := by decide +kernel
theorem dX2_tell_23 : decode cX2_tell 23 = .ok (.iconst 0, 1) := by decide +kernel
theorem dX2_tell_24 : decode cX2_tell 24 = .ok (.istore 6, 2) := by decide +kernel
theorem dX2_tell_26 : decode cX2_tell 26 = .ok (.iload 6, 2) := by decide +kernel
theorem dX2_tell_28 : decode cX2_tell 28 = .ok (.iload_n 2, 1) := by decide +kernel
theorem dX2_tell_29 : decode cX2_tell 29 = .ok (.if_icmp .ge 48, 3) := by decide +kernel
theorem dX2_tell_77 : decode cX2_tell 77 = .ok (.aload_n 0, 1) := by decide +kernel
theorem dX2_tell_78 : decode cX2_tell 78 = .ok (.iload_n 2, 1) := by decide +kernel
theorem dX2_tell_79 : decode cX2_tell 79 = .ok (.iload 5, 2) := by decide +kernel
theorem dX2_tell_81 : decode cX2_tell 81 = .ok (.isub, 1) := by decide +kernel
theorem dX2_tell_82 : decode cX2_tell 82 = .ok (.putfield 21, 3) := by decide +kernel
theorem dX2_tell_85 : decode cX2_tell 85 = .ok (.aload_n 0, 1) := by decide +kernel
theorem dX2_tell_86 : decode cX2_tell 86 = .ok (.dup, 1) := by decide +kernel
theorem dX2_tell_87 : decode cX2_tell 87 = .ok (.getfield 27, 3) := by decide +kernel
theorem mw_61 : Cond.fieldLink RX2 27 "TypedTables$Fault" "readings" "I" ∈ wsL_law := lrk_3 _ (List.mem_of_getElem? (i := 13) rfl)
theorem dX2_tell_90 : decode cX2_tell 90 = .ok (.iconst 1, 1) := by decide +kernel
theorem dX2_tell_91 : decode cX2_tell 91 = .ok (.iadd, 1) := by decide +kernel
theorem dX2_tell_92 : decode cX2_tell 92 = .ok (.putfield 27, 3) := by decide +kernel
theorem dX2_tell_95 : decode cX2_tell 95 = .ok (.return_, 1) := by decide +kernel
theorem dX2_tell_32 : decode cX2_tell 32 = .ok (.iload 6, 2) := by decide +kernel
theorem dX2_tell_34 : decode cX2_tell 34 = .ok (.aload 4, 2) := by decide +kernel
theorem dX2_tell_36 : decode cX2_tell 36 = .ok (.getfield 30, 3) := by decide +kernel
theorem mw_365 : Cond.fieldLink RX2 30 "TypedTables$Tape" "length" "I" ∈ wsL_law := lrk_16 _ (List.mem_of_getElem? (i := 5) rfl)
theorem dX2_tell_39 : decode cX2_tell 39 = .ok (.if_icmp .ge 38, 3) := by decide +kernel
theorem dX2_tell_42 : decode cX2_tell 42 = .ok (.aload 4, 2) := by decide +kernel
theorem dX2_tell_44 : decode cX2_tell 44 = .ok (.getfield 35, 3) := by decide +kernel
theorem mw_366 : Cond.fieldLink RX2 35 "TypedTables$Tape" "bytes" "[I" ∈ wsL_law := lrk_16 _ (List.mem_of_getElem? (i := 6) rfl)
theorem dX2_tell_47 : decode cX2_tell 47 = .ok (.iload 6, 2) := by decide +kernel
theorem dX2_tell_49 : decode cX2_tell 49 = .ok (.iaload, 1) := by decide +kernel
theorem dX2_tell_50 : decode cX2_tell 50 = .ok (.bipush 10, 2) := by decide +kernel
theorem dX2_tell_52 : decode cX2_tell 52 = .ok (.if_icmp .ne 19, 3) := by decide +kernel
theorem dX2_tell_71 : decode cX2_tell 71 = .ok (.iinc 6 1, 3) := by decide +kernel
theorem dX2_tell_74 : decode cX2_tell 74 = .ok (.goto (-48), 3) := by decide +kernel
theorem dX2_tell_55 : decode cX2_tell 55 = .ok (.aload_n 0, 1) := by decide +kernel
theorem dX2_tell_56 : decode cX2_tell 56 = .ok (.dup, 1) := by decide +kernel
theorem dX2_tell_57 : decode cX2_tell 57 = .ok (.getfield 18, 3) := by decide +kernel
theorem dX2_tell_60 : decode cX2_tell 60 = .ok (.iconst 1, 1) := by decide +kernel
theorem dX2_tell_61 : decode cX2_tell 61 = .ok (.iadd, 1) := by decide +kernel
theorem dX2_tell_62 : decode cX2_tell 62 = .ok (.putfield 18, 3) := by decide +kernel
theorem dX2_tell_65 : decode cX2_tell 65 = .ok (.iload 6, 2) := by decide +kernel
theorem dX2_tell_67 : decode cX2_tell 67 = .ok (.iconst 1, 1) := by decide +kernel
theorem dX2_tell_68 : decode cX2_tell 68 = .ok (.iadd, 1) := by decide +kernel
theorem dX2_tell_69 : decode cX2_tell 69 = .ok (.istore 5, 2) := by decide +kernel
theorem dX8_isSign_0 : decode cX8_isSign 0 = .ok (.iload_n 0, 1) := by decide +kernel
theorem dX8_isSign_1 : decode cX8_isSign 1 = .ok (.bipush 32, 2) := by decide +kernel
theorem dX8_isSign_3 : decode cX8_isSign 3 = .ok (.if_icmp .lt 13, 3) := by decide +kernel
theorem dX8_isSign_16 : decode cX8_isSign 16 = .ok (.iconst 0, 1) := by decide +kernel
theorem dX8_isSign_17 : decode cX8_isSign 17 = .ok (.ireturn, 1) := by decide +kernel
theorem dX8_isSign_6 : decode cX8_isSign 6 = .ok (.iload_n 0, 1) := by decide +kernel
theorem dX8_isSign_7 : decode cX8_isSign 7 = .ok (.bipush 126, 2) := by decide +kernel
theorem dX8_isSign_9 : decode cX8_isSign 9 = .ok (.if_icmp .gt 7, 3) := by decide +kernel
theorem dX8_isSign_12 : decode cX8_isSign 12 = .ok (.iconst 1, 1) := by decide +kernel
theorem dX8_isSign_13 : decode cX8_isSign 13 = .ok (.goto 4, 3) := by decide +kernel
theorem dX8_hasRoom_0 : decode cX8_hasRoom 0 = .ok (.aload_n 0, 1) := by decide +kernel
theorem dX8_hasRoom_1 : decode cX8_hasRoom 1 = .ok (.getfield 15, 3) := by decide +kernel
theorem mw_52 : Cond.fieldLink RX8 15 "TypedTables$Tape" "length" "I" ∈ wsL_law := lrk_3 _ (List.mem_of_getElem? (i := 4) rfl)
theorem dX8_hasRoom_4 : decode cX8_hasRoom 4 = .ok (.iconst 4, 1) := by decide +kernel
theorem dX8_hasRoom_5 : decode cX8_hasRoom 5 = .ok (.iload_n 1, 1) := by decide +kernel
theorem dX8_hasRoom_6 : decode cX8_hasRoom 6 = .ok (.imul, 1) := by decide +kernel
theorem dX8_hasRoom_7 : decode cX8_hasRoom 7 = .ok (.iadd, 1) := by decide +kernel
theorem dX8_hasRoom_8 : decode cX8_hasRoom 8 = .ok (.sipush 800, 3) := by decide +kernel
theorem dX8_hasRoom_11 : decode cX8_hasRoom 11 = .ok (.if_icmp .gt 7, 3) := by decide +kernel
theorem dX8_hasRoom_18 : decode cX8_hasRoom 18 = .ok (.iconst 0, 1) := by decide +kernel
theorem dX8_hasRoom_19 : decode cX8_hasRoom 19 = .ok (.ireturn, 1) := by decide +kernel
theorem dX8_hasRoom_14 : decode cX8_hasRoom 14 = .ok (.iconst 1, 1) := by decide +kernel
theorem dX8_hasRoom_15 : decode cX8_hasRoom 15 = .ok (.goto 4, 3) := by decide +kernel
theorem dX8_add_0 : decode cX8_add 0 = .ok (.bipush 24, 2) := by decide +kernel
theorem dX8_add_2 : decode cX8_add 2 = .ok (.istore_n 2, 1) := by decide +kernel
theorem dX8_add_3 : decode cX8_add 3 = .ok (.iload_n 2, 1) := by decide +kernel
theorem dX8_add_4 : decode cX8_add 4 = .ok (.ifCond .lt 45, 3) := by decide +kernel
theorem dX8_add_7 : decode cX8_add 7 = .ok (.aload_n 0, 1) := by decide +kernel
theorem dX8_add_8 : decode cX8_add 8 = .ok (.getfield 15, 3) := by decide +kernel
theorem dX8_add_11 : decode cX8_add 11 = .ok (.sipush 800, 3) := by decide +kernel
theorem dX8_add_14 : decode cX8_add 14 = .ok (.if_icmp .ge 35, 3) := by decide +kernel
theorem dX8_add_17 : decode cX8_add 17 = .ok (.aload_n 0, 1) := by decide +kernel
theorem dX8_add_18 : decode cX8_add 18 = .ok (.getfield 9, 3) := by decide +kernel
theorem mw_51 : Cond.fieldLink RX8 9 "TypedTables$Tape" "bytes" "[I" ∈ wsL_law := lrk_3 _ (List.mem_of_getElem? (i := 3) rfl)
theorem dX8_add_21 : decode cX8_add 21 = .ok (.aload_n 0, 1) := by decide +kernel
theorem dX8_add_22 : decode cX8_add 22 = .ok (.getfield 15, 3) := by decide +kernel
theorem dX8_add_25 : decode cX8_add 25 = .ok (.iload_n 1, 1) := by decide +kernel
theorem dX8_add_26 : decode cX8_add 26 = .ok (.iload_n 2, 1) := by decide +kernel
theorem dX8_add_27 : decode cX8_add 27 = .ok (.iushr, 1) := by decide +kernel
theorem dX8_add_28 : decode cX8_add 28 = .ok (.sipush 255, 3) := by decide +kernel
theorem dX8_add_31 : decode cX8_add 31 = .ok (.iand, 1) := by decide +kernel
theorem dX8_add_32 : decode cX8_add 32 = .ok (.iastore, 1) := by decide +kernel
theorem dX8_add_33 : decode cX8_add 33 = .ok (.aload_n 0, 1) := by decide +kernel
theorem dX8_add_34 : decode cX8_add 34 = .ok (.dup, 1) := by decide +kernel
theorem dX8_add_35 : decode cX8_add 35 = .ok (.getfield 15, 3) := by decide +kernel
theorem dX8_add_38 : decode cX8_add 38 = .ok (.iconst 1, 1) := by decide +kernel
theorem dX8_add_39 : decode cX8_add 39 = .ok (.iadd, 1) := by decide +kernel
theorem dX8_add_40 : decode cX8_add 40 = .ok (.putfield 15, 3) := by decide +kernel
theorem dX8_add_43 : decode cX8_add 43 = .ok (.iinc 2 (-8), 3) := by decide +kernel
theorem dX8_add_46 : decode cX8_add 46 = .ok (.goto (-43), 3) := by decide +kernel
theorem dX8_add_49 : decode cX8_add 49 = .ok (.return_, 1) := by decide +kernel
theorem dX8_takeBytes_0 : decode cX8_takeBytes 0 = .ok (.aload_n 0, 1) := by decide +kernel
theorem dX8_takeBytes_1 : decode cX8_takeBytes 1 = .ok (.getfield 15, 3) := by decide +kernel
theorem dX8_takeBytes_4 : decode cX8_takeBytes 4 = .ok (.istore_n 1, 1) := by decide +kernel
theorem dX8_takeBytes_5 : decode cX8_takeBytes 5 = .ok (.aload_n 0, 1) := by decide +kernel
theorem dX8_takeBytes_6 : decode cX8_takeBytes 6 = .ok (.iconst 0, 1) := by decide +kernel
theorem dX8_takeBytes_7 : decode cX8_takeBytes 7 = .ok (.putfield 15, 3) := by decide +kernel
theorem dX8_takeBytes_10 : decode cX8_takeBytes 10 = .ok (.iload_n 1, 1) := by decide +kernel
theorem dX8_takeBytes_11 : decode cX8_takeBytes 11 = .ok (.bipush 20, 2) := by decide +kernel
theorem dX8_takeBytes_13 : decode cX8_takeBytes 13 = .ok (.if_icmp .le 5, 3) := by decide +kernel
theorem dX8_takeBytes_18 : decode cX8_takeBytes 18 = .ok (.iload_n 1, 1) := by decide +kernel
theorem dX8_takeBytes_19 : decode cX8_takeBytes 19 = .ok (.newarray .byte, 2) := by decide +kernel
theorem mw_69 : Cond.arrayClass .byte ∈ wsL_law := lrk_3 _ (List.mem_of_getElem? (i := 21) rfl)
theorem dX8_takeBytes_21 : decode cX8_takeBytes 21 = .ok (.astore_n 2, 1) := by decide +kernel
theorem dX8_takeBytes_22 : decode cX8_takeBytes 22 = .ok (.iconst 0, 1) := by decide +kernel
theorem dX8_takeBytes_23 : decode cX8_takeBytes 23 = .ok (.istore_n 3, 1) := by decide +kernel
theorem dX8_takeBytes_24 : decode cX8_takeBytes 24 = .ok (.iload_n 3, 1) := by decide +kernel
theorem dX8_takeBytes_25 : decode cX8_takeBytes 25 = .ok (.iload_n 1, 1) := by decide +kernel
theorem dX8_takeBytes_26 : decode cX8_takeBytes 26 = .ok (.if_icmp .ge 44, 3) := by decide +kernel
theorem dX8_takeBytes_70 : decode cX8_takeBytes 70 = .ok (.aload_n 2, 1) := by decide +kernel
theorem dX8_takeBytes_71 : decode cX8_takeBytes 71 = .ok (.areturn, 1) := by decide +kernel
theorem dX8_takeBytes_29 : decode cX8_takeBytes 29 = .ok (.aload_n 0, 1) := by decide +kernel
theorem dX8_takeBytes_30 : decode cX8_takeBytes 30 = .ok (.getfield 9, 3) := by decide +kernel
theorem dX8_takeBytes_33 : decode cX8_takeBytes 33 = .ok (.iload_n 3, 1) := by decide +kernel
theorem dX8_takeBytes_34 : decode cX8_takeBytes 34 = .ok (.iaload, 1) := by decide +kernel
theorem dX8_takeBytes_35 : decode cX8_takeBytes 35 = .ok (.invokestatic 34, 3) := by decide +kernel
theorem mw_277 : Cond.code yX8_isSign cX8_isSign 1 (some .boolean) ∈ wsL_law := lrk_12 _ (List.mem_of_getElem? (i := 13) rfl)
theorem mw_569 : Cond.methodLink RX8 34 yX8_isSign ∈ wsL_law := lrk_24 _ (List.mem_of_getElem? (i := 17) rfl)
theorem mw_18 : Cond.initialized RX8 ∈ wsL_law := lrk_1 _ (List.mem_of_getElem? (i := 18) rfl)
theorem mw_276 : Cond.static yX8_isSign ∈ wsL_law := lrk_12 _ (List.mem_of_getElem? (i := 12) rfl)
theorem gS_X8_34 : GoodIn wsL_law (va_wsS RX8 34 yX8_isSign (wl yX8_isSign cX8_isSign 1 (some .boolean))) := g_S mw_569 mw_276 mw_18 mw_277
theorem hdS_X8_isSign : okD yX8_isSign 1 := by decide +kernel
theorem dX8_takeBytes_38 : decode cX8_takeBytes 38 = .ok (.ifCond .ne 16, 3) := by decide +kernel
theorem dX8_takeBytes_54 : decode cX8_takeBytes 54 = .ok (.aload_n 2, 1) := by decide +kernel
theorem dX8_takeBytes_55 : decode cX8_takeBytes 55 = .ok (.iload_n 3, 1) := by decide +kernel
theorem dX8_takeBytes_56 : decode cX8_takeBytes 56 = .ok (.aload_n 0, 1) := by decide +kernel
theorem dX8_takeBytes_57 : decode cX8_takeBytes 57 = .ok (.getfield 9, 3) := by decide +kernel
theorem dX8_takeBytes_60 : decode cX8_takeBytes 60 = .ok (.iload_n 3, 1) := by decide +kernel
theorem dX8_takeBytes_61 : decode cX8_takeBytes 61 = .ok (.iaload, 1) := by decide +kernel
theorem dX8_takeBytes_62 : decode cX8_takeBytes 62 = .ok (.i2b, 1) := by decide +kernel
theorem dX8_takeBytes_63 : decode cX8_takeBytes 63 = .ok (.bastore, 1) := by decide +kernel
theorem dX8_takeBytes_64 : decode cX8_takeBytes 64 = .ok (.iinc 3 1, 3) := by decide +kernel
theorem dX8_takeBytes_67 : decode cX8_takeBytes 67 = .ok (.goto (-43), 3) := by decide +kernel
theorem dX8_takeBytes_41 : decode cX8_takeBytes 41 = .ok (.aload_n 0, 1) := by decide +kernel
theorem dX8_takeBytes_42 : decode cX8_takeBytes 42 = .ok (.getfield 9, 3) := by decide +kernel
theorem dX8_takeBytes_45 : decode cX8_takeBytes 45 = .ok (.iload_n 3, 1) := by decide +kernel
theorem dX8_takeBytes_46 : decode cX8_takeBytes 46 = .ok (.iaload, 1) := by decide +kernel
theorem dX8_takeBytes_47 : decode cX8_takeBytes 47 = .ok (.bipush 10, 2) := by decide +kernel
theorem dX8_takeBytes_49 : decode cX8_takeBytes 49 = .ok (.if_icmp .eq 5, 3) := by decide +kernel
theorem dX8_takeBytes_52 : decode cX8_takeBytes 52 = .ok (.aconst_null, 1) := by decide +kernel
theorem dX8_takeBytes_53 : decode cX8_takeBytes 53 = .ok (.areturn, 1) := by decide +kernel
theorem dX8_takeBytes_16 : decode cX8_takeBytes 16 = .ok (.aconst_null, 1) := by decide +kernel
theorem dX8_takeBytes_17 : decode cX8_takeBytes 17 = .ok (.areturn, 1) := by decide +kernel
set_option maxHeartbeats 4000000 in
set_option maxRecDepth 100000 in
theorem c_X1_indexOf (l : Launch) (D : va_G) (κ : Nat → ClassId) (κq : Nat → Nat) (im : va_W) (g : Nat) (i : Nat) (b : Nat) (n : Nat) (w : Nat) (f : Nat → Option Nat) (hby : By κ im b n) (hlo : Lo κ im f i) (hw : i ≤ w) (hw2 : w ≤ 20) : Er l yX1_indexOf (wl yX1_indexOf cX1_indexOf 4 (some .int)) { frames := 1, cells := 0, slots := 0, locals := 22 } D κ κq [.ref g, .int (nI i), .ref b] ([(g, .inl (κ 3, w, .inr (.inr (.inr (.inr f)))))] ++ im) (fun r : Int32 => some (.int r)) (fun r : Int32 => (r = -1 ∨ ∃ j : Nat, j < i ∧ r = nI j)) := by
  refine er_of (by decide +kernel) (Nat.le_of_ble_eq_true rfl) ?_
  intro p e s m args below meth c A ls hx hb hr hml hts hown hlk hKK hK hP hE hl
  have hS : va_S A s.heap s.heap [] := va_S.rf
  have hP : va_P D vwCl ([(g, .inl (κ 3, w, .inr (.inr (.inr (.inr f)))))] ++ im) s.heap := hP
  have hFX : FX p s m args c cX1_indexOf 4 RX1 := ⟨hx, hb, hml, hown, hts⟩
  have hl : lv_has ls 4 [(0, .ref g), (1, .int (nI i)), (2, .ref b)] := hl
  refine lv_iconst (v := 0) hx hb dX1_indexOf_0 (by decide) ?_
  refine lv_istore_n (lv' := [(3, .int 0), (0, .ref g), (1, .int (nI i)), (2, .ref b)]) hx hb dX1_indexOf_1 rfl hl (by decide) rfl (fun ls hl => ?_)
  refine loop_r (fun k9 ls => ∃ (k3_2 : Nat), (k3_2 ≤ i) ∧ i - k3_2 = k9 ∧ lv_has ls 4 [(3, .int (nI k3_2)), (0, .ref g), (1, .int (nI i)), (2, .ref b)]) (fun k9 ls hI2 ih2 => ?_) (i - 0) _ ⟨0, (by omega), rfl, lv_sub hl [0, 1, 2, 3] rfl⟩
  obtain ⟨k3_2, hl2_0, hm2, hl⟩ := hI2
  refine lv_iload_n hx hb dX1_indexOf_2 rfl (lv_at hl 0 rfl) ?_
  refine lv_iload_n hx hb dX1_indexOf_3 rfl (lv_at hl 2 rfl) ?_
  refine lv_icmp_ge (tgt := 25) hx hb dX1_indexOf_4 (by decide) (fun c_1 => ?_) (fun c_1 => ?_)
  · have nc_1 := cv_le (a := i) (b := k3_2) (by omega) (by omega) c_1
    refine lv_iconst (v := (-1)) hx hb dX1_indexOf_25 (by decide) ?_
    exact cr_iret hx hb hr hlk rfl (-1) rfl (show (-1 : Int32) = -1 ∨ ∃ j : Nat, j < i ∧ (-1 : Int32) = nI j from (Or.inl rfl)) dX1_indexOf_26
  · have nc_1 := cv_nle (a := i) (b := k3_2) (by omega) (by omega) c_1
    refine lv_aload_n hx hb dX1_indexOf_7 rfl (lv_at hl 1 rfl) ?_
    refine lv_iload_n hx hb dX1_indexOf_8 rfl (lv_at hl 0 rfl) ?_
    refine va_aldq hx hb hK hP 0 3 rfl rfl (i := nI k3_2) (vp_in_nI (n := k3_2) (by omega) (by omega)) dX1_indexOf_9 ?_
    obtain ⟨q_2, e_3, m_4, t_5, h_6⟩ := hlo k3_2 (by omega)
    refine kv (v := .ref q_2) (by rw [nI_clamp (by omega)]; rw [e_3]; rfl) ?_
    refine lv_aload_n hx hb dX1_indexOf_10 rfl (lv_at hl 3 rfl) ?_
    obtain ⟨ht_9, b_10, hm_11, hb_12⟩ := id h_6
    have hn_b_10 := hb_12.1
    refine er_V (As := [.ref b]) (rest := []) hFX hKK hE hS (c_X1_isNamed l D κ κq im q_2 m_4 t_5 b n h_6 hby) 1 gV_X1_35 hdV_X1_isNamed rfl rfl ⟨Nat.le_of_ble_eq_true rfl, Nat.le_of_ble_eq_true rfl⟩ rfl rfl (Nat.le_of_ble_eq_true rfl) dX1_indexOf_11 ⟨Nat.le_of_ble_eq_true rfl, Nat.le_of_ble_eq_true rfl⟩ hl.1 (oneP (C := [(g, .inl (κ 3, w, .inr (.inr (.inr (.inr f)))))]) hP hm_11) 0 1 rfl rfl rfl (subP hP [] rfl) (fun r__7 hp_8 => ?_)
    replace hp_8 : ((r__7 = 1) ∨ (r__7 = 0)) := hp_8
    have ha_13 := hp_8
    clear hp_8
    rcases ha_13 with rfl | rfl
    · refine W.eq (g2 := F0 m 14 ls [.int 1]) rfl ?_
      refine lv_if_eq (tgt := 19) hx hb dX1_indexOf_14 (by decide) (fun c_14 => absurd c_14 (by decide)) (fun c_14 => ?_)
      refine lv_iload_n hx hb dX1_indexOf_17 rfl (lv_at hl 0 rfl) ?_
      exact cr_iret hx hb hr hlk rfl (nI k3_2) rfl (show (nI k3_2) = -1 ∨ ∃ j : Nat, j < i ∧ (nI k3_2) = nI j from (Or.inr ⟨_, (by omega), rfl⟩)) dX1_indexOf_18
    · refine W.eq (g2 := F0 m 14 ls [.int 0]) rfl ?_
      refine lv_if_eq (tgt := 19) hx hb dX1_indexOf_14 (by decide) (fun c_15 => ?_) (fun c_15 => absurd (by decide) c_15)
      refine lv_iinc (v := (nI (k3_2 + 1))) (lv' := [(3, .int (nI (k3_2 + 1))), (0, .ref g), (1, .int (nI i)), (2, .ref b)]) hx hb dX1_indexOf_19 hl (k := 0) rfl (nI_i k3_2) (by decide) rfl (fun ls hl => ?_)
      refine lv_goto (tgt := 2) hx hb dX1_indexOf_22 (by decide) ?_
      exact ih2 _ _ (by omega) ⟨(k3_2 + 1), (by omega), rfl, lv_sub hl [0, 1, 2, 3] rfl⟩
set_option maxHeartbeats 4000000 in
set_option maxRecDepth 100000 in
theorem c_X5_isUnlikeAt (l : Launch) (D : va_G) (κ : Nat → ClassId) (κq : Nat → Nat) (im : va_W) (a : Nat) (R : Nat) (w : Nat) (a2 : Nat) (R2 : Nat) (w2 : Nat) (r9 : Nat) (c9 : Nat) (hs : Sh κ im a R w) (hs2 : Sh κ im a2 R2 w2) (hr8 : r9 ≤ 40) (hc8 : c9 ≤ 8) : Er l yX5_isUnlikeAt (wl yX5_isUnlikeAt cX5_isUnlikeAt 6 (some .boolean)) { frames := 3, cells := 0, slots := 0, locals := 65 } D κ κq [.ref a, .ref a2, .int (nI r9), .int (nI c9)] ([] ++ im) (fun r : Int32 => some (.int r)) (fun r : Int32 => ((r = 1) ∨ (r = 0))) := by
  refine er_of (by decide +kernel) (Nat.le_of_ble_eq_true rfl) ?_
  intro p e s m args below meth c A ls hx hb hr hml hts hown hlk hKK hK hP hE hl
  have hS : va_S A s.heap s.heap [] := va_S.rf
  have hP : va_P D vwCl ([] ++ im) s.heap := hP
  have hFX : FX p s m args c cX5_isUnlikeAt 6 RX5 := ⟨hx, hb, hml, hown, hts⟩
  have hl : lv_has ls 6 [(0, .ref a), (1, .ref a2), (2, .int (nI r9)), (3, .int (nI c9))] := hl
  refine lv_aload_n hx hb dX5_isUnlikeAt_0 rfl (lv_at hl 0 rfl) ?_
  refine lv_iload_n hx hb dX5_isUnlikeAt_1 rfl (lv_at hl 2 rfl) ?_
  refine lv_iload_n hx hb dX5_isUnlikeAt_2 rfl (lv_at hl 3 rfl) ?_
  obtain ⟨hb_3, c_4, x_5, v_6, g_7, h_8, hm_9, hm_10, hm_11, lo_12, lc_13, vw_14⟩ := id hs
  obtain ⟨hb_3_1, hb_3_2, hb_3_3⟩ := hb_3
  have hrw_hb_3 := rw_le hb_3_1 hb_3_3
  refine er_V (As := [.int (nI r9), .int (nI c9)]) (rest := []) hFX hKK hE hS (c_X5_hasCell l D κ κq im a R w (nI r9) (nI c9) hs) 2 gV_X5_84 hdV_X5_hasCell rfl rfl ⟨Nat.le_of_ble_eq_true rfl, Nat.le_of_ble_eq_true rfl⟩ rfl rfl (Nat.le_of_ble_eq_true rfl) dX5_isUnlikeAt_3 ⟨Nat.le_of_ble_eq_true rfl, Nat.le_of_ble_eq_true rfl⟩ hl.1 (oneP (C := []) hP hm_9) 0 5 rfl rfl rfl (subP hP [] rfl) (fun r__1 hp_2 => ?_)
  replace hp_2 : ((r__1 = 1 ∧ (∃ j : Nat, j < R ∧ (nI r9) = nI j) ∧ (∃ k : Nat, k < w ∧ (nI c9) = nI k)) ∨ (r__1 = 0)) := hp_2
  have ha_15 := hp_2
  clear hp_2
  rcases ha_15 with ⟨rfl, ⟨j_16, hj_16, e_17⟩, ⟨k_18, hk_18, e_19⟩⟩ | rfl
  · refine W.eq (g2 := F0 m 6 ls [.int 1]) rfl ?_
    have ne_17 := cv_eq (a := r9) (b := j_16) (by omega) (by omega) e_17
    have ne_19 := cv_eq (a := c9) (b := k_18) (by omega) (by omega) e_19
    refine lv_istore (lv' := [(4, .int 1), (0, .ref a), (1, .ref a2), (2, .int (nI r9)), (3, .int (nI c9))]) hx hb dX5_isUnlikeAt_6 hl (by decide) rfl (fun ls hl => ?_)
    refine lv_aload_n hx hb dX5_isUnlikeAt_8 rfl (lv_at hl 2 rfl) ?_
    refine lv_iload_n hx hb dX5_isUnlikeAt_9 rfl (lv_at hl 3 rfl) ?_
    refine lv_iload_n hx hb dX5_isUnlikeAt_10 rfl (lv_at hl 4 rfl) ?_
    obtain ⟨hb_22, c_23, x_24, v_25, g_26, h_27, hm_28, hm_29, hm_30, lo_31, lc_32, vw_33⟩ := id hs2
    obtain ⟨hb_22_1, hb_22_2, hb_22_3⟩ := hb_22
    have hrw_hb_22 := rw_le hb_22_1 hb_22_3
    refine er_V (As := [.int (nI r9), .int (nI c9)]) (rest := []) hFX hKK hE hS (c_X5_hasCell l D κ κq im a2 R2 w2 (nI r9) (nI c9) hs2) 2 gV_X5_84 hdV_X5_hasCell rfl rfl ⟨Nat.le_of_ble_eq_true rfl, Nat.le_of_ble_eq_true rfl⟩ rfl rfl (Nat.le_of_ble_eq_true rfl) dX5_isUnlikeAt_11 ⟨Nat.le_of_ble_eq_true rfl, Nat.le_of_ble_eq_true rfl⟩ hl.1 (oneP (C := []) hP hm_28) 0 5 rfl rfl rfl (subP hP [] rfl) (fun r__20 hp_21 => ?_)
    replace hp_21 : ((r__20 = 1 ∧ (∃ j : Nat, j < R2 ∧ (nI r9) = nI j) ∧ (∃ k : Nat, k < w2 ∧ (nI c9) = nI k)) ∨ (r__20 = 0)) := hp_21
    have ha_34 := hp_21
    clear hp_21
    rcases ha_34 with ⟨rfl, ⟨j_35, hj_35, e_36⟩, ⟨k_37, hk_37, e_38⟩⟩ | rfl
    · refine W.eq (g2 := F0 m 14 ls [.int 1]) rfl ?_
      have ne_36 := cv_eq (a := r9) (b := j_35) (by omega) (by omega) e_36
      have ne_38 := cv_eq (a := c9) (b := k_37) (by omega) (by omega) e_38
      refine lv_istore (lv' := [(5, .int 1), (4, .int 1), (0, .ref a), (1, .ref a2), (2, .int (nI r9)), (3, .int (nI c9))]) hx hb dX5_isUnlikeAt_14 hl (by decide) rfl (fun ls hl => ?_)
      refine lv_iload hx hb dX5_isUnlikeAt_16 (lv_at hl 1 rfl) ?_
      refine lv_if_eq (tgt := 50) hx hb dX5_isUnlikeAt_18 (by decide) (fun c_39 => absurd c_39 (by decide)) (fun c_39 => ?_)
      refine lv_iload hx hb dX5_isUnlikeAt_21 (lv_at hl 0 rfl) ?_
      refine lv_if_eq (tgt := 50) hx hb dX5_isUnlikeAt_23 (by decide) (fun c_40 => absurd c_40 (by decide)) (fun c_40 => ?_)
      refine lv_aload_n hx hb dX5_isUnlikeAt_26 rfl (lv_at hl 2 rfl) ?_
      refine lv_iload_n hx hb dX5_isUnlikeAt_27 rfl (lv_at hl 4 rfl) ?_
      refine lv_iload_n hx hb dX5_isUnlikeAt_28 rfl (lv_at hl 5 rfl) ?_
      refine er_V (As := [.int (nI r9), .int (nI c9)]) (rest := []) hFX hKK hE hS (c_X5_cellOf l D κ κq im a R w r9 c9 hs (by omega) (by omega)) 2 gV_X5_48 hdV_X5_cellOf rfl rfl ⟨Nat.le_of_ble_eq_true rfl, Nat.le_of_ble_eq_true rfl⟩ rfl rfl (Nat.le_of_ble_eq_true rfl) dX5_isUnlikeAt_29 ⟨Nat.le_of_ble_eq_true rfl, Nat.le_of_ble_eq_true rfl⟩ hl.1 (oneP (C := []) hP hm_9) 0 5 rfl rfl rfl (subP hP [] rfl) (fun r__41 hp_42 => ?_)
      replace hp_42 : ((∃ (q : Nat), ∃ (k : Nat), ∃ (m : Nat), r__41 = some q ∧ Cl κ im q k m)) := hp_42
      have ha_43 := hp_42
      clear hp_42
      rcases ha_43 with ⟨q__44, k__45, m__46, rfl, a_47⟩
      · refine W.eq (g2 := F0 m 32 ls [.ref q__44]) rfl ?_
        refine lv_aload_n hx hb dX5_isUnlikeAt_32 rfl (lv_at hl 3 rfl) ?_
        refine lv_iload_n hx hb dX5_isUnlikeAt_33 rfl (lv_at hl 4 rfl) ?_
        refine lv_iload_n hx hb dX5_isUnlikeAt_34 rfl (lv_at hl 5 rfl) ?_
        refine er_V (As := [.int (nI r9), .int (nI c9)]) (rest := [.ref q__44]) hFX hKK hE hS (c_X5_cellOf l D κ κq im a2 R2 w2 r9 c9 hs2 (by omega) (by omega)) 2 gV_X5_48 hdV_X5_cellOf rfl rfl ⟨Nat.le_of_ble_eq_true rfl, Nat.le_of_ble_eq_true rfl⟩ rfl rfl (Nat.le_of_ble_eq_true rfl) dX5_isUnlikeAt_35 ⟨Nat.le_of_ble_eq_true rfl, Nat.le_of_ble_eq_true rfl⟩ hl.1 (oneP (C := []) hP hm_28) 0 5 rfl rfl rfl (subP hP [] rfl) (fun r__48 hp_49 => ?_)
        replace hp_49 : ((∃ (q : Nat), ∃ (k : Nat), ∃ (m : Nat), r__48 = some q ∧ Cl κ im q k m)) := hp_49
        have ha_50 := hp_49
        clear hp_49
        rcases ha_50 with ⟨q__51, k__52, m__53, rfl, a_54⟩
        · refine W.eq (g2 := F0 m 38 ls [.ref q__51, .ref q__44]) rfl ?_
          obtain ⟨hk_57, b_58, x_59, hm_60, hb_61⟩ := id a_47
          have hn_b_58 := hb_61.1
          refine er_V (As := [.ref q__51]) (rest := []) hFX hKK hE hS (c_X0_hasBytesOf l D κ κq im q__44 k__45 m__46 q__51 k__52 m__53 a_47 a_54) 1 gV_X5_87 hdV_X0_hasBytesOf rfl rfl ⟨Nat.le_of_ble_eq_true rfl, Nat.le_of_ble_eq_true rfl⟩ rfl rfl (Nat.le_of_ble_eq_true rfl) dX5_isUnlikeAt_38 ⟨Nat.le_of_ble_eq_true rfl, Nat.le_of_ble_eq_true rfl⟩ hl.1 (oneP (C := []) hP hm_60) 0 0 rfl rfl rfl (subP hP [] rfl) (fun r__55 hp_56 => ?_)
          replace hp_56 : ((r__55 = 1) ∨ (r__55 = 0)) := hp_56
          have ha_62 := hp_56
          clear hp_56
          rcases ha_62 with rfl | rfl
          · refine W.eq (g2 := F0 m 41 ls [.int 1]) rfl ?_
            refine lv_if_ne (tgt := 48) hx hb dX5_isUnlikeAt_41 (by decide) (fun c_63 => ?_) (fun c_63 => absurd c_63 (by decide))
            refine lv_iconst (v := 0) hx hb dX5_isUnlikeAt_48 (by decide) ?_
            exact cr_iret hx hb hr hlk rfl 0 rfl (by exact Or.inr ((rfl))) dX5_isUnlikeAt_49
          · refine W.eq (g2 := F0 m 41 ls [.int 0]) rfl ?_
            refine lv_if_ne (tgt := 48) hx hb dX5_isUnlikeAt_41 (by decide) (fun c_64 => absurd c_64 (by decide)) (fun c_64 => ?_)
            refine lv_iconst (v := 1) hx hb dX5_isUnlikeAt_44 (by decide) ?_
            refine lv_goto (tgt := 49) hx hb dX5_isUnlikeAt_45 (by decide) ?_
            exact cr_iret hx hb hr hlk rfl 1 rfl (by exact Or.inl (rfl)) dX5_isUnlikeAt_49
    · refine W.eq (g2 := F0 m 14 ls [.int 0]) rfl ?_
      refine lv_istore (lv' := [(5, .int 0), (4, .int 1), (0, .ref a), (1, .ref a2), (2, .int (nI r9)), (3, .int (nI c9))]) hx hb dX5_isUnlikeAt_14 hl (by decide) rfl (fun ls hl => ?_)
      refine lv_iload hx hb dX5_isUnlikeAt_16 (lv_at hl 1 rfl) ?_
      refine lv_if_eq (tgt := 50) hx hb dX5_isUnlikeAt_18 (by decide) (fun c_65 => absurd c_65 (by decide)) (fun c_65 => ?_)
      refine lv_iload hx hb dX5_isUnlikeAt_21 (lv_at hl 0 rfl) ?_
      refine lv_if_eq (tgt := 50) hx hb dX5_isUnlikeAt_23 (by decide) (fun c_66 => ?_) (fun c_66 => absurd (by decide) c_66)
      refine lv_iload hx hb dX5_isUnlikeAt_50 (lv_at hl 1 rfl) ?_
      refine lv_if_ne (tgt := 60) hx hb dX5_isUnlikeAt_52 (by decide) (fun c_67 => ?_) (fun c_67 => absurd c_67 (by decide))
      refine lv_iconst (v := 1) hx hb dX5_isUnlikeAt_60 (by decide) ?_
      refine lv_goto (tgt := 65) hx hb dX5_isUnlikeAt_61 (by decide) ?_
      exact cr_iret hx hb hr hlk rfl 1 rfl (by exact Or.inl (rfl)) dX5_isUnlikeAt_65
  · refine W.eq (g2 := F0 m 6 ls [.int 0]) rfl ?_
    refine lv_istore (lv' := [(4, .int 0), (0, .ref a), (1, .ref a2), (2, .int (nI r9)), (3, .int (nI c9))]) hx hb dX5_isUnlikeAt_6 hl (by decide) rfl (fun ls hl => ?_)
    refine lv_aload_n hx hb dX5_isUnlikeAt_8 rfl (lv_at hl 2 rfl) ?_
    refine lv_iload_n hx hb dX5_isUnlikeAt_9 rfl (lv_at hl 3 rfl) ?_
    refine lv_iload_n hx hb dX5_isUnlikeAt_10 rfl (lv_at hl 4 rfl) ?_
    obtain ⟨hb_70, c_71, x_72, v_73, g_74, h_75, hm_76, hm_77, hm_78, lo_79, lc_80, vw_81⟩ := id hs2
    obtain ⟨hb_70_1, hb_70_2, hb_70_3⟩ := hb_70
    have hrw_hb_70 := rw_le hb_70_1 hb_70_3
    refine er_V (As := [.int (nI r9), .int (nI c9)]) (rest := []) hFX hKK hE hS (c_X5_hasCell l D κ κq im a2 R2 w2 (nI r9) (nI c9) hs2) 2 gV_X5_84 hdV_X5_hasCell rfl rfl ⟨Nat.le_of_ble_eq_true rfl, Nat.le_of_ble_eq_true rfl⟩ rfl rfl (Nat.le_of_ble_eq_true rfl) dX5_isUnlikeAt_11 ⟨Nat.le_of_ble_eq_true rfl, Nat.le_of_ble_eq_true rfl⟩ hl.1 (oneP (C := []) hP hm_76) 0 5 rfl rfl rfl (subP hP [] rfl) (fun r__68 hp_69 => ?_)
    replace hp_69 : ((r__68 = 1 ∧ (∃ j : Nat, j < R2 ∧ (nI r9) = nI j) ∧ (∃ k : Nat, k < w2 ∧ (nI c9) = nI k)) ∨ (r__68 = 0)) := hp_69
    have ha_82 := hp_69
    clear hp_69
    rcases ha_82 with ⟨rfl, ⟨j_83, hj_83, e_84⟩, ⟨k_85, hk_85, e_86⟩⟩ | rfl
    · refine W.eq (g2 := F0 m 14 ls [.int 1]) rfl ?_
      have ne_84 := cv_eq (a := r9) (b := j_83) (by omega) (by omega) e_84
      have ne_86 := cv_eq (a := c9) (b := k_85) (by omega) (by omega) e_86
      refine lv_istore (lv' := [(5, .int 1), (4, .int 0), (0, .ref a), (1, .ref a2), (2, .int (nI r9)), (3, .int (nI c9))]) hx hb dX5_isUnlikeAt_14 hl (by decide) rfl (fun ls hl => ?_)
      refine lv_iload hx hb dX5_isUnlikeAt_16 (lv_at hl 1 rfl) ?_
      refine lv_if_eq (tgt := 50) hx hb dX5_isUnlikeAt_18 (by decide) (fun c_87 => ?_) (fun c_87 => absurd (by decide) c_87)
      refine lv_iload hx hb dX5_isUnlikeAt_50 (lv_at hl 1 rfl) ?_
      refine lv_if_ne (tgt := 60) hx hb dX5_isUnlikeAt_52 (by decide) (fun c_88 => absurd c_88 (by decide)) (fun c_88 => ?_)
      refine lv_iload hx hb dX5_isUnlikeAt_55 (lv_at hl 0 rfl) ?_
      refine lv_if_eq (tgt := 64) hx hb dX5_isUnlikeAt_57 (by decide) (fun c_89 => absurd c_89 (by decide)) (fun c_89 => ?_)
      refine lv_iconst (v := 1) hx hb dX5_isUnlikeAt_60 (by decide) ?_
      refine lv_goto (tgt := 65) hx hb dX5_isUnlikeAt_61 (by decide) ?_
      exact cr_iret hx hb hr hlk rfl 1 rfl (by exact Or.inl (rfl)) dX5_isUnlikeAt_65
    · refine W.eq (g2 := F0 m 14 ls [.int 0]) rfl ?_
      refine lv_istore (lv' := [(5, .int 0), (4, .int 0), (0, .ref a), (1, .ref a2), (2, .int (nI r9)), (3, .int (nI c9))]) hx hb dX5_isUnlikeAt_14 hl (by decide) rfl (fun ls hl => ?_)
      refine lv_iload hx hb dX5_isUnlikeAt_16 (lv_at hl 1 rfl) ?_
      refine lv_if_eq (tgt := 50) hx hb dX5_isUnlikeAt_18 (by decide) (fun c_90 => ?_) (fun c_90 => absurd (by decide) c_90)
      refine lv_iload hx hb dX5_isUnlikeAt_50 (lv_at hl 1 rfl) ?_
      refine lv_if_ne (tgt := 60) hx hb dX5_isUnlikeAt_52 (by decide) (fun c_91 => absurd c_91 (by decide)) (fun c_91 => ?_)
      refine lv_iload hx hb dX5_isUnlikeAt_55 (lv_at hl 0 rfl) ?_
      refine lv_if_eq (tgt := 64) hx hb dX5_isUnlikeAt_57 (by decide) (fun c_92 => ?_) (fun c_92 => absurd (by decide) c_92)
      refine lv_iconst (v := 0) hx hb dX5_isUnlikeAt_64 (by decide) ?_
      exact cr_iret hx hb hr hlk rfl 0 rfl (by exact Or.inr ((rfl))) dX5_isUnlikeAt_65
set_option maxHeartbeats 4000000 in
set_option maxRecDepth 100000 in
theorem c_X5_countUnlike (l : Launch) (D : va_G) (κ : Nat → ClassId) (κq : Nat → Nat) (im : va_W) (a : Nat) (R : Nat) (w : Nat) (a2 : Nat) (R2 : Nat) (w2 : Nat) (hs : Sh κ im a R w) (hs2 : Sh κ im a2 R2 w2) : Er l yX5_countUnlike (wl yX5_countUnlike cX5_countUnlike 7 (some .int)) { frames := 4, cells := 0, slots := 0, locals := 90 } D κ κq [.ref a, .ref a2] ([] ++ im) (fun r : Int32 => some (.int r)) (fun r : Int32 => True) := by
  refine er_of (by decide +kernel) (Nat.le_of_ble_eq_true rfl) ?_
  intro p e s m args below meth c A ls hx hb hr hml hts hown hlk hKK hK hP hE hl
  have hS : va_S A s.heap s.heap [] := va_S.rf
  have hP : va_P D vwCl ([] ++ im) s.heap := hP
  have hFX : FX p s m args c cX5_countUnlike 7 RX5 := ⟨hx, hb, hml, hown, hts⟩
  have hl : lv_has ls 7 [(0, .ref a), (1, .ref a2)] := hl
  obtain ⟨hb_1, c_2, x_3, v_4, g_5, h_6, hm_7, hm_8, hm_9, lo_10, lc_11, vw_12⟩ := id hs
  obtain ⟨hb_1_1, hb_1_2, hb_1_3⟩ := hb_1
  have hrw_hb_1 := rw_le hb_1_1 hb_1_3
  obtain ⟨hb_13, c_14, x_15, v_16, g_17, h_18, hm_19, hm_20, hm_21, lo_22, lc_23, vw_24⟩ := id hs2
  obtain ⟨hb_13_1, hb_13_2, hb_13_3⟩ := hb_13
  have hrw_hb_13 := rw_le hb_13_1 hb_13_3
  refine lv_aload_n hx hb dX5_countUnlike_0 rfl (lv_at hl 0 rfl) ?_
  refine va_get (D := D) (ci := 5) (v := .int (nI R)) (C := RX5) (T := TX5) (N := 4) hx hb hts inlX5 hown hK (oneP (C := []) hP hm_7) 0 rfl rfl 2 (by decide) (hts _ mw_384) (fun _ h9 => h9) rfl dX5_countUnlike_1 ?_
  refine lv_aload_n hx hb dX5_countUnlike_4 rfl (lv_at hl 1 rfl) ?_
  refine va_get (D := D) (ci := 5) (v := .int (nI R2)) (C := RX5) (T := TX5) (N := 4) hx hb hts inlX5 hown hK (oneP (C := []) hP hm_19) 0 rfl rfl 2 (by decide) (hts _ mw_384) (fun _ h9 => h9) rfl dX5_countUnlike_5 ?_
  refine va_mmax hx hb (hml.trans hl.1.symm) hown (hts _ mw_1385) (hts _ mw_1386) (hts _ mw_318) (hts _ mw_1387) (Nat.le_of_ble_eq_true rfl) (Nat.le_of_ble_eq_true rfl) (Nat.le_of_ble_eq_true rfl) (Nat.le_of_ble_eq_true rfl) dX5_countUnlike_8 ?_
  obtain ⟨r_25, hr_25a, hr_25b, hr_25c, er_25⟩ := max_n (a := R) (b := R2) (by omega) (by omega)
  refine ki (v := nI r_25) er_25 ?_
  refine W.eq (g2 := F0 m 11 ls [.int (nI r_25)]) rfl ?_
  refine lv_istore_n (lv' := [(2, .int (nI r_25)), (0, .ref a), (1, .ref a2)]) hx hb dX5_countUnlike_11 rfl hl (by decide) rfl (fun ls hl => ?_)
  refine lv_aload_n hx hb dX5_countUnlike_12 rfl (lv_at hl 1 rfl) ?_
  refine va_get (D := D) (ci := 5) (v := .ref c_2) (C := RX5) (T := TX5) (N := 4) hx hb hts inlX5 hown hK (oneP (C := []) hP hm_7) 0 rfl rfl 0 (by decide) (hts _ mw_382) (fun _ h9 => h9) rfl dX5_countUnlike_13 ?_
  refine va_alen hx hb hK (oneP (C := []) hP hm_8) 0 3 rfl rfl (v := nI w) rfl dX5_countUnlike_16 ?_
  refine lv_aload_n hx hb dX5_countUnlike_17 rfl (lv_at hl 2 rfl) ?_
  refine va_get (D := D) (ci := 5) (v := .ref c_14) (C := RX5) (T := TX5) (N := 4) hx hb hts inlX5 hown hK (oneP (C := []) hP hm_19) 0 rfl rfl 0 (by decide) (hts _ mw_382) (fun _ h9 => h9) rfl dX5_countUnlike_18 ?_
  refine va_alen hx hb hK (oneP (C := []) hP hm_20) 0 3 rfl rfl (v := nI w2) rfl dX5_countUnlike_21 ?_
  refine va_mmax hx hb (hml.trans hl.1.symm) hown (hts _ mw_1385) (hts _ mw_1386) (hts _ mw_318) (hts _ mw_1387) (Nat.le_of_ble_eq_true rfl) (Nat.le_of_ble_eq_true rfl) (Nat.le_of_ble_eq_true rfl) (Nat.le_of_ble_eq_true rfl) dX5_countUnlike_22 ?_
  obtain ⟨r_26, hr_26a, hr_26b, hr_26c, er_26⟩ := max_n (a := w) (b := w2) (by omega) (by omega)
  refine ki (v := nI r_26) er_26 ?_
  refine W.eq (g2 := F0 m 25 ls [.int (nI r_26)]) rfl ?_
  refine lv_istore_n (lv' := [(3, .int (nI r_26)), (2, .int (nI r_25)), (0, .ref a), (1, .ref a2)]) hx hb dX5_countUnlike_25 rfl hl (by decide) rfl (fun ls hl => ?_)
  refine lv_iconst (v := 0) hx hb dX5_countUnlike_26 (by decide) ?_
  refine lv_istore (lv' := [(4, .int 0), (3, .int (nI r_26)), (2, .int (nI r_25)), (0, .ref a), (1, .ref a2)]) hx hb dX5_countUnlike_27 hl (by decide) rfl (fun ls hl => ?_)
  refine lv_iconst (v := 0) hx hb dX5_countUnlike_29 (by decide) ?_
  refine lv_istore (lv' := [(5, .int 0), (4, .int 0), (3, .int (nI r_26)), (2, .int (nI r_25)), (0, .ref a), (1, .ref a2)]) hx hb dX5_countUnlike_30 hl (by decide) rfl (fun ls hl => ?_)
  refine loop_r (fun k9 ls => ∃ (k5_32 : Nat), ∃ (k4_32 : Int32), (k5_32 ≤ 40) ∧ 40 - k5_32 = k9 ∧ lv_has ls 7 [(5, .int (nI k5_32)), (4, .int k4_32), (3, .int (nI r_26)), (2, .int (nI r_25)), (0, .ref a), (1, .ref a2)]) (fun k9 ls hI32 ih32 => ?_) (40 - 0) _ ⟨0, 0, (by omega), rfl, lv_sub hl [0, 1, 2, 3, 4, 5] rfl⟩
  obtain ⟨k5_32, k4_32, hl32_0, hm32, hl⟩ := hI32
  refine lv_iload hx hb dX5_countUnlike_32 (lv_at hl 0 rfl) ?_
  refine lv_iload_n hx hb dX5_countUnlike_34 rfl (lv_at hl 3 rfl) ?_
  refine lv_icmp_ge (tgt := 81) hx hb dX5_countUnlike_35 (by decide) (fun c_27 => ?_) (fun c_27 => ?_)
  · have nc_27 := cv_le (a := r_25) (b := k5_32) (by omega) (by omega) c_27
    refine lv_iload hx hb dX5_countUnlike_81 (lv_at hl 1 rfl) ?_
    exact cr_iret hx hb hr hlk rfl k4_32 rfl trivial dX5_countUnlike_83
  · have nc_27 := cv_nle (a := r_25) (b := k5_32) (by omega) (by omega) c_27
    refine lv_iconst (v := 0) hx hb dX5_countUnlike_38 (by decide) ?_
    refine lv_istore (lv' := [(6, .int 0), (5, .int (nI k5_32)), (4, .int k4_32), (3, .int (nI r_26)), (2, .int (nI r_25)), (0, .ref a), (1, .ref a2)]) hx hb dX5_countUnlike_39 hl (by decide) rfl (fun ls hl => ?_)
    refine loop_r (fun k9 ls => ∃ (k6_41 : Nat), ∃ (k4_41 : Int32), (k6_41 ≤ 8) ∧ 8 - k6_41 = k9 ∧ lv_has ls 7 [(6, .int (nI k6_41)), (5, .int (nI k5_32)), (4, .int k4_41), (3, .int (nI r_26)), (2, .int (nI r_25)), (0, .ref a), (1, .ref a2)]) (fun k9 ls hI41 ih41 => ?_) (8 - 0) _ ⟨0, k4_32, (by omega), rfl, lv_sub hl [0, 1, 2, 3, 4, 5, 6] rfl⟩
    obtain ⟨k6_41, k4_41, hl41_0, hm41, hl⟩ := hI41
    refine lv_iload hx hb dX5_countUnlike_41 (lv_at hl 0 rfl) ?_
    refine lv_iload_n hx hb dX5_countUnlike_43 rfl (lv_at hl 3 rfl) ?_
    refine lv_icmp_ge (tgt := 75) hx hb dX5_countUnlike_44 (by decide) (fun c_28 => ?_) (fun c_28 => ?_)
    · have nc_28 := cv_le (a := r_26) (b := k6_41) (by omega) (by omega) c_28
      refine lv_iinc (v := (nI (k5_32 + 1))) (lv' := [(5, .int (nI (k5_32 + 1))), (6, .int (nI k6_41)), (4, .int k4_41), (3, .int (nI r_26)), (2, .int (nI r_25)), (0, .ref a), (1, .ref a2)]) hx hb dX5_countUnlike_75 hl (k := 1) rfl (nI_i k5_32) (by decide) rfl (fun ls hl => ?_)
      refine lv_goto (tgt := 32) hx hb dX5_countUnlike_78 (by decide) ?_
      exact ih32 _ _ (by omega) ⟨(k5_32 + 1), k4_41, (by omega), rfl, lv_sub hl [0, 2, 3, 4, 5, 6] rfl⟩
    · have nc_28 := cv_nle (a := r_26) (b := k6_41) (by omega) (by omega) c_28
      refine lv_iload hx hb dX5_countUnlike_47 (lv_at hl 2 rfl) ?_
      refine lv_aload_n hx hb dX5_countUnlike_49 rfl (lv_at hl 5 rfl) ?_
      refine lv_aload_n hx hb dX5_countUnlike_50 rfl (lv_at hl 6 rfl) ?_
      refine lv_iload hx hb dX5_countUnlike_51 (lv_at hl 1 rfl) ?_
      refine lv_iload hx hb dX5_countUnlike_53 (lv_at hl 0 rfl) ?_
      refine er_V (As := [.ref a2, .int (nI k5_32), .int (nI k6_41)]) (rest := [.int k4_41]) hFX hKK hE hS (c_X5_isUnlikeAt l D κ κq im a R w a2 R2 w2 k5_32 k6_41 hs hs2 (by omega) (by omega)) 3 gV_X5_80 hdV_X5_isUnlikeAt rfl rfl ⟨Nat.le_of_ble_eq_true rfl, Nat.le_of_ble_eq_true rfl⟩ rfl rfl (Nat.le_of_ble_eq_true rfl) dX5_countUnlike_55 ⟨Nat.le_of_ble_eq_true rfl, Nat.le_of_ble_eq_true rfl⟩ hl.1 (oneP (C := []) hP hm_7) 0 5 rfl rfl rfl (subP hP [] rfl) (fun r__29 hp_30 => ?_)
      replace hp_30 : ((r__29 = 1) ∨ (r__29 = 0)) := hp_30
      have ha_31 := hp_30
      clear hp_30
      rcases ha_31 with rfl | rfl
      · refine W.eq (g2 := F0 m 58 ls [.int 1, .int k4_41]) rfl ?_
        refine lv_if_eq (tgt := 65) hx hb dX5_countUnlike_58 (by decide) (fun c_32 => absurd c_32 (by decide)) (fun c_32 => ?_)
        refine lv_iconst (v := 1) hx hb dX5_countUnlike_61 (by decide) ?_
        refine lv_goto (tgt := 66) hx hb dX5_countUnlike_62 (by decide) ?_
        refine lv_iadd hx hb dX5_countUnlike_66 ?_
        refine lv_topi (fun x_33 ex_33 => ?_)
        refine lv_istore (lv' := [(4, .int x_33), (6, .int (nI k6_41)), (5, .int (nI k5_32)), (3, .int (nI r_26)), (2, .int (nI r_25)), (0, .ref a), (1, .ref a2)]) hx hb dX5_countUnlike_67 hl (by decide) rfl (fun ls hl => ?_)
        refine lv_iinc (v := (nI (k6_41 + 1))) (lv' := [(6, .int (nI (k6_41 + 1))), (4, .int x_33), (5, .int (nI k5_32)), (3, .int (nI r_26)), (2, .int (nI r_25)), (0, .ref a), (1, .ref a2)]) hx hb dX5_countUnlike_69 hl (k := 1) rfl (nI_i k6_41) (by decide) rfl (fun ls hl => ?_)
        refine lv_goto (tgt := 41) hx hb dX5_countUnlike_72 (by decide) ?_
        exact ih41 _ _ (by omega) ⟨(k6_41 + 1), x_33, (by omega), rfl, lv_sub hl [0, 2, 1, 3, 4, 5, 6] rfl⟩
      · refine W.eq (g2 := F0 m 58 ls [.int 0, .int k4_41]) rfl ?_
        refine lv_if_eq (tgt := 65) hx hb dX5_countUnlike_58 (by decide) (fun c_34 => ?_) (fun c_34 => absurd (by decide) c_34)
        refine lv_iconst (v := 0) hx hb dX5_countUnlike_65 (by decide) ?_
        refine lv_iadd hx hb dX5_countUnlike_66 ?_
        refine lv_topi (fun x_35 ex_35 => ?_)
        refine lv_istore (lv' := [(4, .int x_35), (6, .int (nI k6_41)), (5, .int (nI k5_32)), (3, .int (nI r_26)), (2, .int (nI r_25)), (0, .ref a), (1, .ref a2)]) hx hb dX5_countUnlike_67 hl (by decide) rfl (fun ls hl => ?_)
        refine lv_iinc (v := (nI (k6_41 + 1))) (lv' := [(6, .int (nI (k6_41 + 1))), (4, .int x_35), (5, .int (nI k5_32)), (3, .int (nI r_26)), (2, .int (nI r_25)), (0, .ref a), (1, .ref a2)]) hx hb dX5_countUnlike_69 hl (k := 1) rfl (nI_i k6_41) (by decide) rfl (fun ls hl => ?_)
        refine lv_goto (tgt := 41) hx hb dX5_countUnlike_72 (by decide) ?_
        exact ih41 _ _ (by omega) ⟨(k6_41 + 1), x_35, (by omega), rfl, lv_sub hl [0, 2, 1, 3, 4, 5, 6] rfl⟩
set_option maxHeartbeats 4000000 in
set_option maxRecDepth 100000 in
theorem c_X11_canBeTold (l : Launch) (D : va_G) (κ : Nat → ClassId) (κq : Nat → Nat) (im : va_W) (a : Nat) (R : Nat) (w : Nat) (c9 : Nat) (zt : Int32) (hs : Sh κ im a R w) (hc9 : c9 < w) : Er l yX11_canBeTold (wl yX11_canBeTold cX11_canBeTold 3 (some .boolean)) { frames := 4, cells := 0, slots := 0, locals := 85 } D κ κq [.ref a, .int (nI c9), .int zt] ([] ++ im) (fun r : Int32 => some (.int r)) (fun r : Int32 => ((r = 1 ∧ To zt) ∨ (r = 0))) := by
  refine er_of (by decide +kernel) (Nat.le_of_ble_eq_true rfl) ?_
  intro p e s m args below meth c A ls hx hb hr hml hts hown hlk hKK hK hP hE hl
  have hS : va_S A s.heap s.heap [] := va_S.rf
  have hP : va_P D vwCl ([] ++ im) s.heap := hP
  have hFX : FX p s m args c cX11_canBeTold 3 RX11 := ⟨hx, hb, hml, hown, hts⟩
  have hl : lv_has ls 3 [(0, .ref a), (1, .int (nI c9)), (2, .int zt)] := hl
  refine lv_iload_n hx hb dX11_canBeTold_0 rfl (lv_at hl 2 rfl) ?_
  refine lv_iconst (v := (-1)) hx hb dX11_canBeTold_1 (by decide) ?_
  refine lv_icmp_ne (tgt := 24) hx hb dX11_canBeTold_2 (by decide) (fun c_1 => ?_) (fun c_1 => ?_)
  · refine lv_iload_n hx hb dX11_canBeTold_24 rfl (lv_at hl 2 rfl) ?_
    refine lv_iconst (v := 1) hx hb dX11_canBeTold_25 (by decide) ?_
    refine lv_icmp_lt (tgt := 48) hx hb dX11_canBeTold_26 (by decide) (fun c_2 => ?_) (fun c_2 => ?_)
    · have nc_2 := cz_lt (a := zt.toInt) (b := (1 : Int)) rfl (by decide) c_2
      refine lv_iconst (v := 0) hx hb dX11_canBeTold_48 (by decide) ?_
      exact cr_iret hx hb hr hlk rfl 0 rfl (by exact Or.inr ((rfl))) dX11_canBeTold_49
    · have nc_2 := cz_nlt (a := zt.toInt) (b := (1 : Int)) rfl (by decide) c_2
      refine lv_iload_n hx hb dX11_canBeTold_29 rfl (lv_at hl 2 rfl) ?_
      refine lv_iconst (v := 5) hx hb dX11_canBeTold_30 (by decide) ?_
      refine lv_icmp_gt (tgt := 48) hx hb dX11_canBeTold_31 (by decide) (fun c_3 => ?_) (fun c_3 => ?_)
      · have nc_3 := cz_lt (a := (5 : Int)) (b := zt.toInt) (by decide) rfl c_3
        refine lv_iconst (v := 0) hx hb dX11_canBeTold_48 (by decide) ?_
        exact cr_iret hx hb hr hlk rfl 0 rfl (by exact Or.inr ((rfl))) dX11_canBeTold_49
      · have nc_3 := cz_nlt (a := (5 : Int)) (b := zt.toInt) (by decide) rfl c_3
        obtain ⟨j_4, hj_4, rfl⟩ := i_nat (x := zt) (B := 5) (by omega) (by omega)
        refine lv_aload_n hx hb dX11_canBeTold_34 rfl (lv_at hl 0 rfl) ?_
        refine lv_iload_n hx hb dX11_canBeTold_35 rfl (lv_at hl 1 rfl) ?_
        refine lv_iload_n hx hb dX11_canBeTold_36 rfl (lv_at hl 2 rfl) ?_
        obtain ⟨hb_7, c_8, x_9, v_10, g_11, h_12, hm_13, hm_14, hm_15, lo_16, lc_17, vw_18⟩ := id hs
        obtain ⟨hb_7_1, hb_7_2, hb_7_3⟩ := hb_7
        have hrw_hb_7 := rw_le hb_7_1 hb_7_3
        refine er_V (As := [.int (nI c9), .int (nI j_4)]) (rest := []) hFX hKK hE hS (c_X5_firstNotHeld l D κ κq im a R w c9 j_4 hs (by omega) (by omega)) 2 gV_X11_286 hdV_X5_firstNotHeld rfl rfl ⟨Nat.le_of_ble_eq_true rfl, Nat.le_of_ble_eq_true rfl⟩ rfl rfl (Nat.le_of_ble_eq_true rfl) dX11_canBeTold_37 ⟨Nat.le_of_ble_eq_true rfl, Nat.le_of_ble_eq_true rfl⟩ hl.1 (oneP (C := []) hP hm_13) 0 5 rfl rfl rfl (subP hP [] rfl) (fun r__5 hp_6 => ?_)
        refine W.eq (g2 := F0 m 40 ls [.int r__5]) rfl ?_
        refine lv_iconst (v := (-1)) hx hb dX11_canBeTold_40 (by decide) ?_
        refine lv_icmp_ne (tgt := 48) hx hb dX11_canBeTold_41 (by decide) (fun c_19 => ?_) (fun c_19 => ?_)
        · refine lv_iconst (v := 0) hx hb dX11_canBeTold_48 (by decide) ?_
          exact cr_iret hx hb hr hlk rfl 0 rfl (by exact Or.inr ((rfl))) dX11_canBeTold_49
        · refine lv_iconst (v := 1) hx hb dX11_canBeTold_44 (by decide) ?_
          refine lv_goto (tgt := 49) hx hb dX11_canBeTold_45 (by decide) ?_
          exact cr_iret hx hb hr hlk rfl 1 rfl (by exact Or.inl (⟨rfl, (show To (nI j_4) from (To_n (by omega)))⟩)) dX11_canBeTold_49
  · refine lv_aload_n hx hb dX11_canBeTold_5 rfl (lv_at hl 0 rfl) ?_
    obtain ⟨hb_20, c_21, x_22, v_23, g_24, h_25, hm_26, hm_27, hm_28, lo_29, lc_30, vw_31⟩ := id hs
    obtain ⟨hb_20_1, hb_20_2, hb_20_3⟩ := hb_20
    have hrw_hb_20 := rw_le hb_20_1 hb_20_3
    refine va_get (D := D) (ci := 5) (v := .ref c_21) (C := RX5) (T := TX5) (N := 4) hx hb hts inlX5 hown hK (oneP (C := []) hP hm_26) 0 rfl rfl 0 (by decide) (hts _ mw_559) (fun _ h9 => h9) rfl dX11_canBeTold_6 ?_
    refine lv_iload_n hx hb dX11_canBeTold_9 rfl (lv_at hl 1 rfl) ?_
    refine va_aldq hx hb hK (oneP (C := []) hP hm_27) 0 3 rfl rfl (i := nI c9) (vp_in_nI (n := c9) (by omega) (by omega)) dX11_canBeTold_10 ?_
    obtain ⟨q_32, e_33, m_34, t_35, h_36⟩ := lo_29 c9 (by omega)
    refine kv (v := .ref q_32) (by rw [nI_clamp (by omega)]; rw [e_33]; rfl) ?_
    obtain ⟨ht_37, b_38, hm_39, hb_40⟩ := id h_36
    have hn_b_38 := hb_40.1
    refine va_get (D := D) (ci := 1) (v := .int t_35) (C := RX1) (T := TX1) (N := 2) hx hb hts inlX1 hown hK (oneP (C := []) hP hm_39) 0 rfl rfl 1 (by decide) (hts _ mw_714) (fun _ h9 => h9) rfl dX11_canBeTold_11 ?_
    refine lv_iconst (v := (-1)) hx hb dX11_canBeTold_14 (by decide) ?_
    refine lv_icmp_eq (tgt := 22) hx hb dX11_canBeTold_15 (by decide) (fun c_41 => ?_) (fun c_41 => ?_)
    · refine lv_iconst (v := 0) hx hb dX11_canBeTold_22 (by decide) ?_
      exact cr_iret hx hb hr hlk rfl 0 rfl (by exact Or.inr ((rfl))) dX11_canBeTold_23
    · refine lv_iconst (v := 1) hx hb dX11_canBeTold_18 (by decide) ?_
      refine lv_goto (tgt := 23) hx hb dX11_canBeTold_19 (by decide) ?_
      exact cr_iret hx hb hr hlk rfl 1 rfl (by exact Or.inl (⟨rfl, (show To zt from (by first | assumption | omega | rfl | exact Or.inl (by assumption) | exact Or.inr (by assumption)))⟩)) dX11_canBeTold_23
set_option maxHeartbeats 4000000 in
set_option maxRecDepth 100000 in
theorem c_X2_clear (l : Launch) (D : va_G) (κ : Nat → ClassId) (κq : Nat → Nat) (ft : Nat) (f0 : Int32) (f1 : Int32) (f2 : Int32) (f3 : Int32) (f4 : Int32) (f5 : Int32) : Et l yX2_clear (wl yX2_clear cX2_clear 1 none) { frames := 0, cells := 0, slots := 0, locals := 0 } D κ κq [.ref ft] [(ft, .inr (2, [.int f0, .int f1, .int f2, .int f3, .int f4, .int f5]))] (fun _ : Unit => none) (fun _ : Unit => True) (fun _ : Unit => [(ft, .inr (2, [.int 0, .int (-1), .int (-1), .int (-1), .int (-1), .int f5]))]) := by
  refine et_of (by decide +kernel) (Nat.le_of_ble_eq_true rfl) ?_
  intro p e s m args below meth c A ls hx hb hr hml hts hown hlk hin hKK hK hA hP hD hS hE hl
  have hS : va_S A s.heap s.heap [] := hS
  have hP : va_P D vwCl ([(ft, .inr (2, [.int f0, .int f1, .int f2, .int f3, .int f4, .int f5]))] ++ []) s.heap := hP
  have hD : va_D A ([(ft, .inr (2, [.int f0, .int f1, .int f2, .int f3, .int f4, .int f5]))] ++ []) := hD
  have hFX : FX p s m args c cX2_clear 1 RX2 := ⟨hx, hb, hml, hown, hts⟩
  have hl : lv_has ls 1 [(0, .ref ft)] := hl
  refine lv_aload_n hx hb dX2_clear_0 rfl (lv_at hl 0 rfl) ?_
  refine lv_iconst (v := 0) hx hb dX2_clear_1 (by decide) ?_
  refine va_put (D := D) (ci := 2) (v := .int 0) (ty := tyX2 0) (C := RX2) (T := TX2) (N := 6) hx hb hts inlX2 tyX2 tyX2_ok nmX2 hown hK hP hD hS 0 rfl rfl 0 (by decide) (hts _ mw_56) (fun _ h9 => h9) rfl (tyX2_ok 0 (by decide)) rfl rfl (Nat.le_of_ble_eq_true rfl) dX2_clear_2 (fun H locs hP hD hS => ?_)
  have hP : va_P D vwCl ([(ft, .inr (2, [.int 0, .int f1, .int f2, .int f3, .int f4, .int f5]))] ++ []) H := hP
  have hD : va_D A ([(ft, .inr (2, [.int 0, .int f1, .int f2, .int f3, .int f4, .int f5]))] ++ []) := hD
  refine lv_aload_n hx hb dX2_clear_5 rfl (lv_at hl 0 rfl) ?_
  refine lv_iconst (v := (-1)) hx hb dX2_clear_6 (by decide) ?_
  refine va_put (D := D) (ci := 2) (v := .int (-1)) (ty := tyX2 1) (C := RX2) (T := TX2) (N := 6) hx hb hts inlX2 tyX2 tyX2_ok nmX2 hown hK hP hD hS 0 rfl rfl 1 (by decide) (hts _ mw_57) (fun _ h9 => h9) rfl (tyX2_ok 1 (by decide)) rfl rfl (Nat.le_of_ble_eq_true rfl) dX2_clear_7 (fun H locs hP hD hS => ?_)
  have hP : va_P D vwCl ([(ft, .inr (2, [.int 0, .int (-1), .int f2, .int f3, .int f4, .int f5]))] ++ []) H := hP
  have hD : va_D A ([(ft, .inr (2, [.int 0, .int (-1), .int f2, .int f3, .int f4, .int f5]))] ++ []) := hD
  refine lv_aload_n hx hb dX2_clear_10 rfl (lv_at hl 0 rfl) ?_
  refine lv_iconst (v := (-1)) hx hb dX2_clear_11 (by decide) ?_
  refine va_put (D := D) (ci := 2) (v := .int (-1)) (ty := tyX2 2) (C := RX2) (T := TX2) (N := 6) hx hb hts inlX2 tyX2 tyX2_ok nmX2 hown hK hP hD hS 0 rfl rfl 2 (by decide) (hts _ mw_58) (fun _ h9 => h9) rfl (tyX2_ok 2 (by decide)) rfl rfl (Nat.le_of_ble_eq_true rfl) dX2_clear_12 (fun H locs hP hD hS => ?_)
  have hP : va_P D vwCl ([(ft, .inr (2, [.int 0, .int (-1), .int (-1), .int f3, .int f4, .int f5]))] ++ []) H := hP
  have hD : va_D A ([(ft, .inr (2, [.int 0, .int (-1), .int (-1), .int f3, .int f4, .int f5]))] ++ []) := hD
  refine lv_aload_n hx hb dX2_clear_15 rfl (lv_at hl 0 rfl) ?_
  refine lv_iconst (v := (-1)) hx hb dX2_clear_16 (by decide) ?_
  refine va_put (D := D) (ci := 2) (v := .int (-1)) (ty := tyX2 3) (C := RX2) (T := TX2) (N := 6) hx hb hts inlX2 tyX2 tyX2_ok nmX2 hown hK hP hD hS 0 rfl rfl 3 (by decide) (hts _ mw_59) (fun _ h9 => h9) rfl (tyX2_ok 3 (by decide)) rfl rfl (Nat.le_of_ble_eq_true rfl) dX2_clear_17 (fun H locs hP hD hS => ?_)
  have hP : va_P D vwCl ([(ft, .inr (2, [.int 0, .int (-1), .int (-1), .int (-1), .int f4, .int f5]))] ++ []) H := hP
  have hD : va_D A ([(ft, .inr (2, [.int 0, .int (-1), .int (-1), .int (-1), .int f4, .int f5]))] ++ []) := hD
  refine lv_aload_n hx hb dX2_clear_20 rfl (lv_at hl 0 rfl) ?_
  refine lv_iconst (v := (-1)) hx hb dX2_clear_21 (by decide) ?_
  refine va_put (D := D) (ci := 2) (v := .int (-1)) (ty := tyX2 4) (C := RX2) (T := TX2) (N := 6) hx hb hts inlX2 tyX2 tyX2_ok nmX2 hown hK hP hD hS 0 rfl rfl 4 (by decide) (hts _ mw_60) (fun _ h9 => h9) rfl (tyX2_ok 4 (by decide)) rfl rfl (Nat.le_of_ble_eq_true rfl) dX2_clear_22 (fun H locs hP hD hS => ?_)
  have hP : va_P D vwCl ([(ft, .inr (2, [.int 0, .int (-1), .int (-1), .int (-1), .int (-1), .int f5]))] ++ []) H := hP
  have hD : va_D A ([(ft, .inr (2, [.int 0, .int (-1), .int (-1), .int (-1), .int (-1), .int f5]))] ++ []) := hD
  exact et_vret hx hb hr hlk hS () rfl trivial (subP0 hP [0] rfl) (hD.sub [0] (by decide) rfl) (Nat.le_of_ble_eq_true rfl) (Nat.le_of_ble_eq_true rfl) dX2_clear_25
set_option maxHeartbeats 4000000 in
set_option maxRecDepth 100000 in
theorem c_X2_tell (l : Launch) (D : va_G) (κ : Nat → ClassId) (κq : Nat → Nat) (ft : Nat) (f0 : Int32) (f1 : Int32) (f2 : Int32) (f3 : Int32) (f4 : Int32) (f5 : Int32) (za : Int32) (zb : Int32) (zc : Int32) (tp : Nat) (tb : Nat) (L : Nat) (tf : Nat → Int32) (hL : L ≤ 800) : Et l yX2_tell (wl yX2_tell cX2_tell 7 none) { frames := 0, cells := 0, slots := 0, locals := 0 } D κ κq [.ref ft, .int za, .int zb, .int zc, .ref tp] [(ft, .inr (2, [.int f0, .int f1, .int f2, .int f3, .int f4, .int f5])), (tp, .inr (8, [.ref tb, .int (nI L)])), (tb, .inl (κ 0, 800, .inl tf))] (fun u9 : Int32 × Int32 × Int32 => none) (fun u9 : Int32 × Int32 × Int32 => True) (fun u9 : Int32 × Int32 × Int32 => [(ft, .inr (2, [.int za, .int zb, .int u9.1, .int u9.2.1, .int zc, .int u9.2.2])), (tp, .inr (8, [.ref tb, .int (nI L)])), (tb, .inl (κ 0, 800, .inl tf))]) := by
  refine et_of (by decide +kernel) (Nat.le_of_ble_eq_true rfl) ?_
  intro p e s m args below meth c A ls hx hb hr hml hts hown hlk hin hKK hK hA hP hD hS hE hl
  have hS : va_S A s.heap s.heap [] := hS
  have hP : va_P D vwCl ([(ft, .inr (2, [.int f0, .int f1, .int f2, .int f3, .int f4, .int f5])), (tp, .inr (8, [.ref tb, .int (nI L)])), (tb, .inl (κ 0, 800, .inl tf))] ++ []) s.heap := hP
  have hD : va_D A ([(ft, .inr (2, [.int f0, .int f1, .int f2, .int f3, .int f4, .int f5])), (tp, .inr (8, [.ref tb, .int (nI L)])), (tb, .inl (κ 0, 800, .inl tf))] ++ []) := hD
  have hFX : FX p s m args c cX2_tell 7 RX2 := ⟨hx, hb, hml, hown, hts⟩
  have hl : lv_has ls 7 [(0, .ref ft), (1, .int za), (2, .int zb), (3, .int zc), (4, .ref tp)] := hl
  refine lv_aload_n hx hb dX2_tell_0 rfl (lv_at hl 0 rfl) ?_
  refine lv_iload_n hx hb dX2_tell_1 rfl (lv_at hl 1 rfl) ?_
  refine va_put (D := D) (ci := 2) (v := .int za) (ty := tyX2 0) (C := RX2) (T := TX2) (N := 6) hx hb hts inlX2 tyX2 tyX2_ok nmX2 hown hK hP hD hS 0 rfl rfl 0 (by decide) (hts _ mw_56) (fun _ h9 => h9) rfl (tyX2_ok 0 (by decide)) rfl rfl (Nat.le_of_ble_eq_true rfl) dX2_tell_2 (fun H locs hP hD hS => ?_)
  have hP : va_P D vwCl ([(ft, .inr (2, [.int za, .int f1, .int f2, .int f3, .int f4, .int f5])), (tp, .inr (8, [.ref tb, .int (nI L)])), (tb, .inl (κ 0, 800, .inl tf))] ++ []) H := hP
  have hD : va_D A ([(ft, .inr (2, [.int za, .int f1, .int f2, .int f3, .int f4, .int f5])), (tp, .inr (8, [.ref tb, .int (nI L)])), (tb, .inl (κ 0, 800, .inl tf))] ++ []) := hD
  refine lv_aload_n hx hb dX2_tell_5 rfl (lv_at hl 0 rfl) ?_
  refine lv_iload_n hx hb dX2_tell_6 rfl (lv_at hl 2 rfl) ?_
  refine va_put (D := D) (ci := 2) (v := .int zb) (ty := tyX2 1) (C := RX2) (T := TX2) (N := 6) hx hb hts inlX2 tyX2 tyX2_ok nmX2 hown hK hP hD hS 0 rfl rfl 1 (by decide) (hts _ mw_57) (fun _ h9 => h9) rfl (tyX2_ok 1 (by decide)) rfl rfl (Nat.le_of_ble_eq_true rfl) dX2_tell_7 (fun H locs hP hD hS => ?_)
  have hP : va_P D vwCl ([(ft, .inr (2, [.int za, .int zb, .int f2, .int f3, .int f4, .int f5])), (tp, .inr (8, [.ref tb, .int (nI L)])), (tb, .inl (κ 0, 800, .inl tf))] ++ []) H := hP
  have hD : va_D A ([(ft, .inr (2, [.int za, .int zb, .int f2, .int f3, .int f4, .int f5])), (tp, .inr (8, [.ref tb, .int (nI L)])), (tb, .inl (κ 0, 800, .inl tf))] ++ []) := hD
  refine lv_aload_n hx hb dX2_tell_10 rfl (lv_at hl 0 rfl) ?_
  refine lv_iload_n hx hb dX2_tell_11 rfl (lv_at hl 3 rfl) ?_
  refine va_put (D := D) (ci := 2) (v := .int zc) (ty := tyX2 4) (C := RX2) (T := TX2) (N := 6) hx hb hts inlX2 tyX2 tyX2_ok nmX2 hown hK hP hD hS 0 rfl rfl 4 (by decide) (hts _ mw_60) (fun _ h9 => h9) rfl (tyX2_ok 4 (by decide)) rfl rfl (Nat.le_of_ble_eq_true rfl) dX2_tell_12 (fun H locs hP hD hS => ?_)
  have hP : va_P D vwCl ([(ft, .inr (2, [.int za, .int zb, .int f2, .int f3, .int zc, .int f5])), (tp, .inr (8, [.ref tb, .int (nI L)])), (tb, .inl (κ 0, 800, .inl tf))] ++ []) H := hP
  have hD : va_D A ([(ft, .inr (2, [.int za, .int zb, .int f2, .int f3, .int zc, .int f5])), (tp, .inr (8, [.ref tb, .int (nI L)])), (tb, .inl (κ 0, 800, .inl tf))] ++ []) := hD
  refine lv_aload_n hx hb dX2_tell_15 rfl (lv_at hl 0 rfl) ?_
  refine lv_iconst (v := 0) hx hb dX2_tell_16 (by decide) ?_
  refine va_put (D := D) (ci := 2) (v := .int 0) (ty := tyX2 2) (C := RX2) (T := TX2) (N := 6) hx hb hts inlX2 tyX2 tyX2_ok nmX2 hown hK hP hD hS 0 rfl rfl 2 (by decide) (hts _ mw_58) (fun _ h9 => h9) rfl (tyX2_ok 2 (by decide)) rfl rfl (Nat.le_of_ble_eq_true rfl) dX2_tell_17 (fun H locs hP hD hS => ?_)
  have hP : va_P D vwCl ([(ft, .inr (2, [.int za, .int zb, .int 0, .int f3, .int zc, .int f5])), (tp, .inr (8, [.ref tb, .int (nI L)])), (tb, .inl (κ 0, 800, .inl tf))] ++ []) H := hP
  have hD : va_D A ([(ft, .inr (2, [.int za, .int zb, .int 0, .int f3, .int zc, .int f5])), (tp, .inr (8, [.ref tb, .int (nI L)])), (tb, .inl (κ 0, 800, .inl tf))] ++ []) := hD
  refine lv_iconst (v := 0) hx hb dX2_tell_20 (by decide) ?_
  refine lv_istore (lv' := [(5, .int 0), (0, .ref ft), (1, .int za), (2, .int zb), (3, .int zc), (4, .ref tp)]) hx hb dX2_tell_21 hl (by decide) rfl (fun ls hl => ?_)
  refine lv_iconst (v := 0) hx hb dX2_tell_23 (by decide) ?_
  refine lv_istore (lv' := [(6, .int 0), (5, .int 0), (0, .ref ft), (1, .int za), (2, .int zb), (3, .int zc), (4, .ref tp)]) hx hb dX2_tell_24 hl (by decide) rfl (fun ls hl => ?_)
  refine loop_dn (fun k9 H locs ls => ∃ (k6_26 : Nat), ∃ (k5_26 : Nat), ∃ (v2_26 : Int32), (k6_26 ≤ L) ∧ L - k6_26 = k9 ∧ va_P D vwCl ([(ft, .inr (2, [.int za, .int zb, .int v2_26, .int f3, .int zc, .int f5])), (tp, .inr (8, [.ref tb, .int (nI L)])), (tb, .inl (κ 0, 800, .inl tf))] ++ []) H ∧ va_D A ([(ft, .inr (2, [.int za, .int zb, .int v2_26, .int f3, .int zc, .int f5])), (tp, .inr (8, [.ref tb, .int (nI L)])), (tb, .inl (κ 0, 800, .inl tf))] ++ []) ∧ va_S A s.heap H locs ∧ lv_has ls 7 [(6, .int (nI k6_26)), (5, .int (nI k5_26)), (0, .ref ft), (1, .int za), (2, .int zb), (3, .int zc), (4, .ref tp)]) (fun k9 H locs ls hI26 ih26 => ?_) (L - 0) _ _ _ ⟨0, 0, 0, (by omega), rfl, hP, hD, hS, lv_sub hl [0, 1, 2, 3, 4, 5, 6] rfl⟩
  obtain ⟨k6_26, k5_26, v2_26, hl26_0, hm26, hP, hD, hS, hl⟩ := hI26
  refine lv_iload hx hb dX2_tell_26 (lv_at hl 0 rfl) ?_
  refine lv_iload_n hx hb dX2_tell_28 rfl (lv_at hl 4 rfl) ?_
  refine lv_icmp_ge (tgt := 77) hx hb dX2_tell_29 (by decide) (fun c_1 => ?_) (fun c_1 => ?_)
  · refine lv_aload_n hx hb dX2_tell_77 rfl (lv_at hl 2 rfl) ?_
    refine lv_iload_n hx hb dX2_tell_78 rfl (lv_at hl 4 rfl) ?_
    refine lv_iload hx hb dX2_tell_79 (lv_at hl 1 rfl) ?_
    refine lv_isub hx hb dX2_tell_81 ?_
    refine lv_topi (fun x_2 ex_2 => ?_)
    refine va_put (D := D) (ci := 2) (v := .int x_2) (ty := tyX2 3) (C := RX2) (T := TX2) (N := 6) hx hb hts inlX2 tyX2 tyX2_ok nmX2 hown hK hP hD hS 0 rfl rfl 3 (by decide) (hts _ mw_59) (fun _ h9 => h9) rfl (tyX2_ok 3 (by decide)) rfl rfl (Nat.le_of_ble_eq_true rfl) dX2_tell_82 (fun H locs hP hD hS => ?_)
    have hP : va_P D vwCl ([(ft, .inr (2, [.int za, .int zb, .int v2_26, .int x_2, .int zc, .int f5])), (tp, .inr (8, [.ref tb, .int (nI L)])), (tb, .inl (κ 0, 800, .inl tf))] ++ []) H := hP
    have hD : va_D A ([(ft, .inr (2, [.int za, .int zb, .int v2_26, .int x_2, .int zc, .int f5])), (tp, .inr (8, [.ref tb, .int (nI L)])), (tb, .inl (κ 0, 800, .inl tf))] ++ []) := hD
    refine lv_aload_n hx hb dX2_tell_85 rfl (lv_at hl 2 rfl) ?_
    refine lv_dup hx hb dX2_tell_86 rfl ?_
    refine va_get (D := D) (ci := 2) (v := .int f5) (C := RX2) (T := TX2) (N := 6) hx hb hts inlX2 hown hK hP 0 rfl rfl 5 (by decide) (hts _ mw_61) (fun _ h9 => h9) rfl dX2_tell_87 ?_
    refine lv_iconst (v := 1) hx hb dX2_tell_90 (by decide) ?_
    refine lv_iadd hx hb dX2_tell_91 ?_
    refine lv_topi (fun x_3 ex_3 => ?_)
    refine va_put (D := D) (ci := 2) (v := .int x_3) (ty := tyX2 5) (C := RX2) (T := TX2) (N := 6) hx hb hts inlX2 tyX2 tyX2_ok nmX2 hown hK hP hD hS 0 rfl rfl 5 (by decide) (hts _ mw_61) (fun _ h9 => h9) rfl (tyX2_ok 5 (by decide)) rfl rfl (Nat.le_of_ble_eq_true rfl) dX2_tell_92 (fun H locs hP hD hS => ?_)
    have hP : va_P D vwCl ([(ft, .inr (2, [.int za, .int zb, .int v2_26, .int x_2, .int zc, .int x_3])), (tp, .inr (8, [.ref tb, .int (nI L)])), (tb, .inl (κ 0, 800, .inl tf))] ++ []) H := hP
    have hD : va_D A ([(ft, .inr (2, [.int za, .int zb, .int v2_26, .int x_2, .int zc, .int x_3])), (tp, .inr (8, [.ref tb, .int (nI L)])), (tb, .inl (κ 0, 800, .inl tf))] ++ []) := hD
    exact et_vret hx hb hr hlk hS (v2_26, x_2, x_3) rfl trivial (subP0 hP [0, 1, 2] rfl) (hD.sub [0, 1, 2] (by decide) rfl) (Nat.le_of_ble_eq_true rfl) (Nat.le_of_ble_eq_true rfl) dX2_tell_95
  · refine lv_iload hx hb dX2_tell_32 (lv_at hl 0 rfl) ?_
    refine lv_aload hx hb dX2_tell_34 (lv_at hl 6 rfl) ?_
    refine va_get (D := D) (ci := 8) (v := .int (nI L)) (C := RX8) (T := TX8) (N := 2) hx hb hts inlX8 hown hK hP 1 rfl rfl 1 (by decide) (hts _ mw_365) (fun _ h9 => h9) rfl dX2_tell_36 ?_
    refine lv_icmp_ge (tgt := 77) hx hb dX2_tell_39 (by decide) (fun c_4 => ?_) (fun c_4 => ?_)
    · have nc_4 := cv_le (a := L) (b := k6_26) (by omega) (by omega) c_4
      refine lv_aload_n hx hb dX2_tell_77 rfl (lv_at hl 2 rfl) ?_
      refine lv_iload_n hx hb dX2_tell_78 rfl (lv_at hl 4 rfl) ?_
      refine lv_iload hx hb dX2_tell_79 (lv_at hl 1 rfl) ?_
      refine lv_isub hx hb dX2_tell_81 ?_
      refine lv_topi (fun x_5 ex_5 => ?_)
      refine va_put (D := D) (ci := 2) (v := .int x_5) (ty := tyX2 3) (C := RX2) (T := TX2) (N := 6) hx hb hts inlX2 tyX2 tyX2_ok nmX2 hown hK hP hD hS 0 rfl rfl 3 (by decide) (hts _ mw_59) (fun _ h9 => h9) rfl (tyX2_ok 3 (by decide)) rfl rfl (Nat.le_of_ble_eq_true rfl) dX2_tell_82 (fun H locs hP hD hS => ?_)
      have hP : va_P D vwCl ([(ft, .inr (2, [.int za, .int zb, .int v2_26, .int x_5, .int zc, .int f5])), (tp, .inr (8, [.ref tb, .int (nI L)])), (tb, .inl (κ 0, 800, .inl tf))] ++ []) H := hP
      have hD : va_D A ([(ft, .inr (2, [.int za, .int zb, .int v2_26, .int x_5, .int zc, .int f5])), (tp, .inr (8, [.ref tb, .int (nI L)])), (tb, .inl (κ 0, 800, .inl tf))] ++ []) := hD
      refine lv_aload_n hx hb dX2_tell_85 rfl (lv_at hl 2 rfl) ?_
      refine lv_dup hx hb dX2_tell_86 rfl ?_
      refine va_get (D := D) (ci := 2) (v := .int f5) (C := RX2) (T := TX2) (N := 6) hx hb hts inlX2 hown hK hP 0 rfl rfl 5 (by decide) (hts _ mw_61) (fun _ h9 => h9) rfl dX2_tell_87 ?_
      refine lv_iconst (v := 1) hx hb dX2_tell_90 (by decide) ?_
      refine lv_iadd hx hb dX2_tell_91 ?_
      refine lv_topi (fun x_6 ex_6 => ?_)
      refine va_put (D := D) (ci := 2) (v := .int x_6) (ty := tyX2 5) (C := RX2) (T := TX2) (N := 6) hx hb hts inlX2 tyX2 tyX2_ok nmX2 hown hK hP hD hS 0 rfl rfl 5 (by decide) (hts _ mw_61) (fun _ h9 => h9) rfl (tyX2_ok 5 (by decide)) rfl rfl (Nat.le_of_ble_eq_true rfl) dX2_tell_92 (fun H locs hP hD hS => ?_)
      have hP : va_P D vwCl ([(ft, .inr (2, [.int za, .int zb, .int v2_26, .int x_5, .int zc, .int x_6])), (tp, .inr (8, [.ref tb, .int (nI L)])), (tb, .inl (κ 0, 800, .inl tf))] ++ []) H := hP
      have hD : va_D A ([(ft, .inr (2, [.int za, .int zb, .int v2_26, .int x_5, .int zc, .int x_6])), (tp, .inr (8, [.ref tb, .int (nI L)])), (tb, .inl (κ 0, 800, .inl tf))] ++ []) := hD
      exact et_vret hx hb hr hlk hS (v2_26, x_5, x_6) rfl trivial (subP0 hP [0, 1, 2] rfl) (hD.sub [0, 1, 2] (by decide) rfl) (Nat.le_of_ble_eq_true rfl) (Nat.le_of_ble_eq_true rfl) dX2_tell_95
    · have nc_4 := cv_nle (a := L) (b := k6_26) (by omega) (by omega) c_4
      refine lv_aload hx hb dX2_tell_42 (lv_at hl 6 rfl) ?_
      refine va_get (D := D) (ci := 8) (v := .ref tb) (C := RX8) (T := TX8) (N := 2) hx hb hts inlX8 hown hK hP 1 rfl rfl 0 (by decide) (hts _ mw_366) (fun _ h9 => h9) rfl dX2_tell_44 ?_
      refine lv_iload hx hb dX2_tell_47 (lv_at hl 0 rfl) ?_
      refine va_iald hx hb hK hP 2 0 rfl rfl (i := nI k6_26) (vp_in_nI (n := k6_26) (by omega) (by omega)) dX2_tell_49 ?_
      refine kv (v := .int (tf k6_26)) (by rw [nI_clamp (by omega)]) ?_
      obtain ⟨x_7, ex_7⟩ : ∃ y9 : Int32, tf k6_26 = y9 := ⟨_, rfl⟩
      refine kv (v := .int x_7) (congrArg Value.int ex_7) ?_
      refine lv_bipush (v := 10) hx hb dX2_tell_50 (by decide) ?_
      refine lv_icmp_ne (tgt := 71) hx hb dX2_tell_52 (by decide) (fun c_8 => ?_) (fun c_8 => ?_)
      · refine lv_iinc (v := (nI (k6_26 + 1))) (lv' := [(6, .int (nI (k6_26 + 1))), (5, .int (nI k5_26)), (0, .ref ft), (1, .int za), (2, .int zb), (3, .int zc), (4, .ref tp)]) hx hb dX2_tell_71 hl (k := 0) rfl (nI_i k6_26) (by decide) rfl (fun ls hl => ?_)
        refine lv_goto (tgt := 26) hx hb dX2_tell_74 (by decide) ?_
        exact ih26 _ _ _ _ (by omega) ⟨(k6_26 + 1), k5_26, v2_26, (by omega), rfl, hP, hD, hS, lv_sub hl [0, 1, 2, 3, 4, 5, 6] rfl⟩
      · refine lv_aload_n hx hb dX2_tell_55 rfl (lv_at hl 2 rfl) ?_
        refine lv_dup hx hb dX2_tell_56 rfl ?_
        refine va_get (D := D) (ci := 2) (v := .int v2_26) (C := RX2) (T := TX2) (N := 6) hx hb hts inlX2 hown hK hP 0 rfl rfl 2 (by decide) (hts _ mw_58) (fun _ h9 => h9) rfl dX2_tell_57 ?_
        refine lv_iconst (v := 1) hx hb dX2_tell_60 (by decide) ?_
        refine lv_iadd hx hb dX2_tell_61 ?_
        refine lv_topi (fun x_9 ex_9 => ?_)
        refine va_put (D := D) (ci := 2) (v := .int x_9) (ty := tyX2 2) (C := RX2) (T := TX2) (N := 6) hx hb hts inlX2 tyX2 tyX2_ok nmX2 hown hK hP hD hS 0 rfl rfl 2 (by decide) (hts _ mw_58) (fun _ h9 => h9) rfl (tyX2_ok 2 (by decide)) rfl rfl (Nat.le_of_ble_eq_true rfl) dX2_tell_62 (fun H locs hP hD hS => ?_)
        have hP : va_P D vwCl ([(ft, .inr (2, [.int za, .int zb, .int x_9, .int f3, .int zc, .int f5])), (tp, .inr (8, [.ref tb, .int (nI L)])), (tb, .inl (κ 0, 800, .inl tf))] ++ []) H := hP
        have hD : va_D A ([(ft, .inr (2, [.int za, .int zb, .int x_9, .int f3, .int zc, .int f5])), (tp, .inr (8, [.ref tb, .int (nI L)])), (tb, .inl (κ 0, 800, .inl tf))] ++ []) := hD
        refine lv_iload hx hb dX2_tell_65 (lv_at hl 0 rfl) ?_
        refine lv_iconst (v := 1) hx hb dX2_tell_67 (by decide) ?_
        refine lv_iadd hx hb dX2_tell_68 ?_
        refine ki (v := (nI (k6_26 + 1))) (nI_add k6_26 1) ?_
        refine lv_istore (lv' := [(5, .int (nI (k6_26 + 1))), (6, .int (nI k6_26)), (0, .ref ft), (1, .int za), (2, .int zb), (3, .int zc), (4, .ref tp)]) hx hb dX2_tell_69 hl (by decide) rfl (fun ls hl => ?_)
        refine lv_iinc (v := (nI (k6_26 + 1))) (lv' := [(6, .int (nI (k6_26 + 1))), (5, .int (nI (k6_26 + 1))), (0, .ref ft), (1, .int za), (2, .int zb), (3, .int zc), (4, .ref tp)]) hx hb dX2_tell_71 hl (k := 1) rfl (nI_i k6_26) (by decide) rfl (fun ls hl => ?_)
        refine lv_goto (tgt := 26) hx hb dX2_tell_74 (by decide) ?_
        exact ih26 _ _ _ _ (by omega) ⟨(k6_26 + 1), (k6_26 + 1), x_9, (by omega), rfl, hP, hD, hS, lv_sub hl [0, 1, 2, 3, 4, 5, 6] rfl⟩
set_option maxHeartbeats 4000000 in
set_option maxRecDepth 100000 in
theorem c_X8_isSign (l : Launch) (D : va_G) (κ : Nat → ClassId) (κq : Nat → Nat) (za : Int32) : Er l yX8_isSign (wl yX8_isSign cX8_isSign 1 (some .boolean)) { frames := 0, cells := 0, slots := 0, locals := 0 } D κ κq [.int za] [] (fun r : Int32 => some (.int r)) (fun r : Int32 => ((r = 1) ∨ (r = 0))) := by
  refine er_of (by decide +kernel) (Nat.le_of_ble_eq_true rfl) ?_
  intro p e s m args below meth c A ls hx hb hr hml hts hown hlk hKK hK hP hE hl
  have hS : va_S A s.heap s.heap [] := va_S.rf
  have hP : va_P D vwCl ([] ++ []) s.heap := hP
  have hFX : FX p s m args c cX8_isSign 1 RX8 := ⟨hx, hb, hml, hown, hts⟩
  have hl : lv_has ls 1 [(0, .int za)] := hl
  refine lv_iload_n hx hb dX8_isSign_0 rfl (lv_at hl 0 rfl) ?_
  refine lv_bipush (v := 32) hx hb dX8_isSign_1 (by decide) ?_
  refine lv_icmp_lt (tgt := 16) hx hb dX8_isSign_3 (by decide) (fun c_1 => ?_) (fun c_1 => ?_)
  · refine lv_iconst (v := 0) hx hb dX8_isSign_16 (by decide) ?_
    exact cr_iret hx hb hr hlk rfl 0 rfl (by exact Or.inr ((rfl))) dX8_isSign_17
  · refine lv_iload_n hx hb dX8_isSign_6 rfl (lv_at hl 0 rfl) ?_
    refine lv_bipush (v := 126) hx hb dX8_isSign_7 (by decide) ?_
    refine lv_icmp_gt (tgt := 16) hx hb dX8_isSign_9 (by decide) (fun c_2 => ?_) (fun c_2 => ?_)
    · refine lv_iconst (v := 0) hx hb dX8_isSign_16 (by decide) ?_
      exact cr_iret hx hb hr hlk rfl 0 rfl (by exact Or.inr ((rfl))) dX8_isSign_17
    · refine lv_iconst (v := 1) hx hb dX8_isSign_12 (by decide) ?_
      refine lv_goto (tgt := 17) hx hb dX8_isSign_13 (by decide) ?_
      exact cr_iret hx hb hr hlk rfl 1 rfl (by exact Or.inl (rfl)) dX8_isSign_17
set_option maxHeartbeats 4000000 in
set_option maxRecDepth 100000 in
theorem c_X8_hasRoom (l : Launch) (D : va_G) (κ : Nat → ClassId) (κq : Nat → Nat) (tp : Nat) (tb : Nat) (L : Nat) (hL : L ≤ 800) : Er l yX8_hasRoom (wl yX8_hasRoom cX8_hasRoom 2 (some .boolean)) { frames := 0, cells := 0, slots := 0, locals := 0 } D κ κq [.ref tp, .int 5] [(tp, .inr (8, [.ref tb, .int (nI L)]))] (fun r : Int32 => some (.int r)) (fun r : Int32 => ((r = 1 ∧ L ≤ 780) ∨ (r = 0 ∧ 781 ≤ L))) := by
  refine er_of (by decide +kernel) (Nat.le_of_ble_eq_true rfl) ?_
  intro p e s m args below meth c A ls hx hb hr hml hts hown hlk hKK hK hP hE hl
  have hS : va_S A s.heap s.heap [] := va_S.rf
  have hP : va_P D vwCl ([(tp, .inr (8, [.ref tb, .int (nI L)]))] ++ []) s.heap := hP
  have hFX : FX p s m args c cX8_hasRoom 2 RX8 := ⟨hx, hb, hml, hown, hts⟩
  have hl : lv_has ls 2 [(0, .ref tp), (1, .int 5)] := hl
  refine lv_aload_n hx hb dX8_hasRoom_0 rfl (lv_at hl 0 rfl) ?_
  refine va_get (D := D) (ci := 8) (v := .int (nI L)) (C := RX8) (T := TX8) (N := 2) hx hb hts inlX8 hown hK hP 0 rfl rfl 1 (by decide) (hts _ mw_52) (fun _ h9 => h9) rfl dX8_hasRoom_1 ?_
  refine lv_iconst (v := 4) hx hb dX8_hasRoom_4 (by decide) ?_
  refine lv_iload_n hx hb dX8_hasRoom_5 rfl (lv_at hl 1 rfl) ?_
  refine lv_imul hx hb dX8_hasRoom_6 ?_
  refine ki (v := 20) (by decide) ?_
  refine lv_iadd hx hb dX8_hasRoom_7 ?_
  refine ki (v := (nI (L + 20))) (nI_add L 20) ?_
  refine lv_sipush (v := 800) hx hb dX8_hasRoom_8 (by decide) ?_
  refine lv_icmp_gt (tgt := 18) hx hb dX8_hasRoom_11 (by decide) (fun c_1 => ?_) (fun c_1 => ?_)
  · have nc_1 := cv_lt (a := 800) (b := (L + 20)) (by omega) (by omega) c_1
    refine lv_iconst (v := 0) hx hb dX8_hasRoom_18 (by decide) ?_
    exact cr_iret hx hb hr hlk rfl 0 rfl (by exact Or.inr ((⟨rfl, (show 781 ≤ L from (by first | assumption | omega | rfl | exact Or.inl (by assumption) | exact Or.inr (by assumption)))⟩))) dX8_hasRoom_19
  · have nc_1 := cv_nlt (a := 800) (b := (L + 20)) (by omega) (by omega) c_1
    refine lv_iconst (v := 1) hx hb dX8_hasRoom_14 (by decide) ?_
    refine lv_goto (tgt := 19) hx hb dX8_hasRoom_15 (by decide) ?_
    exact cr_iret hx hb hr hlk rfl 1 rfl (by exact Or.inl (⟨rfl, (show L ≤ 780 from (by first | assumption | omega | rfl | exact Or.inl (by assumption) | exact Or.inr (by assumption)))⟩)) dX8_hasRoom_19
set_option maxHeartbeats 4000000 in
set_option maxRecDepth 100000 in
theorem c_X8_add (l : Launch) (D : va_G) (κ : Nat → ClassId) (κq : Nat → Nat) (tp : Nat) (tb : Nat) (L : Nat) (tf : Nat → Int32) (za : Int32) (hL : L ≤ 796) : Et l yX8_add (wl yX8_add cX8_add 3 none) { frames := 0, cells := 0, slots := 0, locals := 0 } D κ κq [.ref tp, .int za] [(tp, .inr (8, [.ref tb, .int (nI L)])), (tb, .inl (κ 0, 800, .inl tf))] (fun g : (Nat → Int32) => none) (fun g : (Nat → Int32) => True) (fun g : (Nat → Int32) => [(tp, .inr (8, [.ref tb, .int (nI (L + 4))])), (tb, .inl (κ 0, 800, .inl g))]) := by
  refine et_of (by decide +kernel) (Nat.le_of_ble_eq_true rfl) ?_
  intro p e s m args below meth c A ls hx hb hr hml hts hown hlk hin hKK hK hA hP hD hS hE hl
  have hS : va_S A s.heap s.heap [] := hS
  have hP : va_P D vwCl ([(tp, .inr (8, [.ref tb, .int (nI L)])), (tb, .inl (κ 0, 800, .inl tf))] ++ []) s.heap := hP
  have hD : va_D A ([(tp, .inr (8, [.ref tb, .int (nI L)])), (tb, .inl (κ 0, 800, .inl tf))] ++ []) := hD
  have hFX : FX p s m args c cX8_add 3 RX8 := ⟨hx, hb, hml, hown, hts⟩
  have hl : lv_has ls 3 [(0, .ref tp), (1, .int za)] := hl
  refine lv_bipush (v := 24) hx hb dX8_add_0 (by decide) ?_
  refine lv_istore_n (lv' := [(2, .int 24), (0, .ref tp), (1, .int za)]) hx hb dX8_add_2 rfl hl (by decide) rfl (fun ls hl => ?_)
  refine lv_iload_n hx hb dX8_add_3 rfl (lv_at hl 0 rfl) ?_
  refine lv_if_lt (tgt := 49) hx hb dX8_add_4 (by decide) (fun c_1 => absurd c_1 (by decide)) (fun c_1 => ?_)
  refine lv_aload_n hx hb dX8_add_7 rfl (lv_at hl 1 rfl) ?_
  refine va_get (D := D) (ci := 8) (v := .int (nI L)) (C := RX8) (T := TX8) (N := 2) hx hb hts inlX8 hown hK hP 0 rfl rfl 1 (by decide) (hts _ mw_52) (fun _ h9 => h9) rfl dX8_add_8 ?_
  refine lv_sipush (v := 800) hx hb dX8_add_11 (by decide) ?_
  refine lv_icmp_ge (tgt := 49) hx hb dX8_add_14 (by decide) (fun c_2 => ?_) (fun c_2 => ?_)
  · have nc_2 := cv_le (a := 800) (b := L) (by omega) (by omega) c_2
    omega
  · have nc_2 := cv_nle (a := 800) (b := L) (by omega) (by omega) c_2
    refine lv_aload_n hx hb dX8_add_17 rfl (lv_at hl 1 rfl) ?_
    refine va_get (D := D) (ci := 8) (v := .ref tb) (C := RX8) (T := TX8) (N := 2) hx hb hts inlX8 hown hK hP 0 rfl rfl 0 (by decide) (hts _ mw_51) (fun _ h9 => h9) rfl dX8_add_18 ?_
    refine lv_aload_n hx hb dX8_add_21 rfl (lv_at hl 1 rfl) ?_
    refine va_get (D := D) (ci := 8) (v := .int (nI L)) (C := RX8) (T := TX8) (N := 2) hx hb hts inlX8 hown hK hP 0 rfl rfl 1 (by decide) (hts _ mw_52) (fun _ h9 => h9) rfl dX8_add_22 ?_
    refine lv_iload_n hx hb dX8_add_25 rfl (lv_at hl 2 rfl) ?_
    refine lv_iload_n hx hb dX8_add_26 rfl (lv_at hl 0 rfl) ?_
    obtain ⟨x_3, ex_3⟩ : ∃ v9 : Int32, (za.toUInt32 >>> (Int32.toUInt32 24 &&& Int32.toUInt32 31)).toInt32 = v9 := ⟨_, rfl⟩
    refine lv_iushr (v := x_3) hx hb dX8_add_27 ex_3 ?_
    refine lv_sipush (v := 255) hx hb dX8_add_28 (by decide) ?_
    refine lv_iand hx hb dX8_add_31 ?_
    refine lv_topi (fun x_4 ex_4 => ?_)
    refine va_iast hx hb hK hP hD hS 1 0 rfl rfl (i := nI L) (x := x_4) (vp_in_nI (n := L) (by omega) (by omega)) dX8_add_32 (fun H locs hP hD hS => ?_)
    rw [nI_clamp (by omega)] at hP hD
    have hP : va_P D vwCl ([(tp, .inr (8, [.ref tb, .int (nI L)])), (tb, .inl (κ 0, 800, .inl (upd tf L x_4)))] ++ []) H := hP
    have hD : va_D A ([(tp, .inr (8, [.ref tb, .int (nI L)])), (tb, .inl (κ 0, 800, .inl (upd tf L x_4)))] ++ []) := hD
    generalize upd tf L x_4 = g_5 at hP hD 
    refine lv_aload_n hx hb dX8_add_33 rfl (lv_at hl 1 rfl) ?_
    refine lv_dup hx hb dX8_add_34 rfl ?_
    refine va_get (D := D) (ci := 8) (v := .int (nI L)) (C := RX8) (T := TX8) (N := 2) hx hb hts inlX8 hown hK hP 0 rfl rfl 1 (by decide) (hts _ mw_52) (fun _ h9 => h9) rfl dX8_add_35 ?_
    refine lv_iconst (v := 1) hx hb dX8_add_38 (by decide) ?_
    refine lv_iadd hx hb dX8_add_39 ?_
    refine ki (v := (nI (L + 1))) (nI_add L 1) ?_
    refine va_put (D := D) (ci := 8) (v := .int (nI (L + 1))) (ty := tyX8 1) (C := RX8) (T := TX8) (N := 2) hx hb hts inlX8 tyX8 tyX8_ok nmX8 hown hK hP hD hS 0 rfl rfl 1 (by decide) (hts _ mw_52) (fun _ h9 => h9) rfl (tyX8_ok 1 (by decide)) rfl rfl (Nat.le_of_ble_eq_true rfl) dX8_add_40 (fun H locs hP hD hS => ?_)
    have hP : va_P D vwCl ([(tp, .inr (8, [.ref tb, .int (nI (L + 1))])), (tb, .inl (κ 0, 800, .inl g_5))] ++ []) H := hP
    have hD : va_D A ([(tp, .inr (8, [.ref tb, .int (nI (L + 1))])), (tb, .inl (κ 0, 800, .inl g_5))] ++ []) := hD
    refine lv_iinc (v := 16) (lv' := [(2, .int 16), (0, .ref tp), (1, .int za)]) hx hb dX8_add_43 hl (k := 0) rfl (by decide) (by decide) rfl (fun ls hl => ?_)
    refine lv_goto (tgt := 3) hx hb dX8_add_46 (by decide) ?_
    refine lv_iload_n hx hb dX8_add_3 rfl (lv_at hl 0 rfl) ?_
    refine lv_if_lt (tgt := 49) hx hb dX8_add_4 (by decide) (fun c_6 => absurd c_6 (by decide)) (fun c_6 => ?_)
    refine lv_aload_n hx hb dX8_add_7 rfl (lv_at hl 1 rfl) ?_
    refine va_get (D := D) (ci := 8) (v := .int (nI (L + 1))) (C := RX8) (T := TX8) (N := 2) hx hb hts inlX8 hown hK hP 0 rfl rfl 1 (by decide) (hts _ mw_52) (fun _ h9 => h9) rfl dX8_add_8 ?_
    refine lv_sipush (v := 800) hx hb dX8_add_11 (by decide) ?_
    refine lv_icmp_ge (tgt := 49) hx hb dX8_add_14 (by decide) (fun c_7 => ?_) (fun c_7 => ?_)
    · have nc_7 := cv_le (a := 800) (b := (L + 1)) (by omega) (by omega) c_7
      omega
    · have nc_7 := cv_nle (a := 800) (b := (L + 1)) (by omega) (by omega) c_7
      refine lv_aload_n hx hb dX8_add_17 rfl (lv_at hl 1 rfl) ?_
      refine va_get (D := D) (ci := 8) (v := .ref tb) (C := RX8) (T := TX8) (N := 2) hx hb hts inlX8 hown hK hP 0 rfl rfl 0 (by decide) (hts _ mw_51) (fun _ h9 => h9) rfl dX8_add_18 ?_
      refine lv_aload_n hx hb dX8_add_21 rfl (lv_at hl 1 rfl) ?_
      refine va_get (D := D) (ci := 8) (v := .int (nI (L + 1))) (C := RX8) (T := TX8) (N := 2) hx hb hts inlX8 hown hK hP 0 rfl rfl 1 (by decide) (hts _ mw_52) (fun _ h9 => h9) rfl dX8_add_22 ?_
      refine lv_iload_n hx hb dX8_add_25 rfl (lv_at hl 2 rfl) ?_
      refine lv_iload_n hx hb dX8_add_26 rfl (lv_at hl 0 rfl) ?_
      obtain ⟨x_8, ex_8⟩ : ∃ v9 : Int32, (za.toUInt32 >>> (Int32.toUInt32 16 &&& Int32.toUInt32 31)).toInt32 = v9 := ⟨_, rfl⟩
      refine lv_iushr (v := x_8) hx hb dX8_add_27 ex_8 ?_
      refine lv_sipush (v := 255) hx hb dX8_add_28 (by decide) ?_
      refine lv_iand hx hb dX8_add_31 ?_
      refine lv_topi (fun x_9 ex_9 => ?_)
      refine va_iast hx hb hK hP hD hS 1 0 rfl rfl (i := nI (L + 1)) (x := x_9) (vp_in_nI (n := (L + 1)) (by omega) (by omega)) dX8_add_32 (fun H locs hP hD hS => ?_)
      rw [nI_clamp (by omega)] at hP hD
      have hP : va_P D vwCl ([(tp, .inr (8, [.ref tb, .int (nI (L + 1))])), (tb, .inl (κ 0, 800, .inl (upd g_5 (L + 1) x_9)))] ++ []) H := hP
      have hD : va_D A ([(tp, .inr (8, [.ref tb, .int (nI (L + 1))])), (tb, .inl (κ 0, 800, .inl (upd g_5 (L + 1) x_9)))] ++ []) := hD
      generalize upd g_5 (L + 1) x_9 = g_10 at hP hD 
      refine lv_aload_n hx hb dX8_add_33 rfl (lv_at hl 1 rfl) ?_
      refine lv_dup hx hb dX8_add_34 rfl ?_
      refine va_get (D := D) (ci := 8) (v := .int (nI (L + 1))) (C := RX8) (T := TX8) (N := 2) hx hb hts inlX8 hown hK hP 0 rfl rfl 1 (by decide) (hts _ mw_52) (fun _ h9 => h9) rfl dX8_add_35 ?_
      refine lv_iconst (v := 1) hx hb dX8_add_38 (by decide) ?_
      refine lv_iadd hx hb dX8_add_39 ?_
      refine ki (v := (nI (L + 1 + 1))) (nI_add (L + 1) 1) ?_
      refine va_put (D := D) (ci := 8) (v := .int (nI (L + 1 + 1))) (ty := tyX8 1) (C := RX8) (T := TX8) (N := 2) hx hb hts inlX8 tyX8 tyX8_ok nmX8 hown hK hP hD hS 0 rfl rfl 1 (by decide) (hts _ mw_52) (fun _ h9 => h9) rfl (tyX8_ok 1 (by decide)) rfl rfl (Nat.le_of_ble_eq_true rfl) dX8_add_40 (fun H locs hP hD hS => ?_)
      have hP : va_P D vwCl ([(tp, .inr (8, [.ref tb, .int (nI (L + 1 + 1))])), (tb, .inl (κ 0, 800, .inl g_10))] ++ []) H := hP
      have hD : va_D A ([(tp, .inr (8, [.ref tb, .int (nI (L + 1 + 1))])), (tb, .inl (κ 0, 800, .inl g_10))] ++ []) := hD
      refine lv_iinc (v := 8) (lv' := [(2, .int 8), (0, .ref tp), (1, .int za)]) hx hb dX8_add_43 hl (k := 0) rfl (by decide) (by decide) rfl (fun ls hl => ?_)
      refine lv_goto (tgt := 3) hx hb dX8_add_46 (by decide) ?_
      refine lv_iload_n hx hb dX8_add_3 rfl (lv_at hl 0 rfl) ?_
      refine lv_if_lt (tgt := 49) hx hb dX8_add_4 (by decide) (fun c_11 => absurd c_11 (by decide)) (fun c_11 => ?_)
      refine lv_aload_n hx hb dX8_add_7 rfl (lv_at hl 1 rfl) ?_
      refine va_get (D := D) (ci := 8) (v := .int (nI (L + 1 + 1))) (C := RX8) (T := TX8) (N := 2) hx hb hts inlX8 hown hK hP 0 rfl rfl 1 (by decide) (hts _ mw_52) (fun _ h9 => h9) rfl dX8_add_8 ?_
      refine lv_sipush (v := 800) hx hb dX8_add_11 (by decide) ?_
      refine lv_icmp_ge (tgt := 49) hx hb dX8_add_14 (by decide) (fun c_12 => ?_) (fun c_12 => ?_)
      · have nc_12 := cv_le (a := 800) (b := (L + 1 + 1)) (by omega) (by omega) c_12
        omega
      · have nc_12 := cv_nle (a := 800) (b := (L + 1 + 1)) (by omega) (by omega) c_12
        refine lv_aload_n hx hb dX8_add_17 rfl (lv_at hl 1 rfl) ?_
        refine va_get (D := D) (ci := 8) (v := .ref tb) (C := RX8) (T := TX8) (N := 2) hx hb hts inlX8 hown hK hP 0 rfl rfl 0 (by decide) (hts _ mw_51) (fun _ h9 => h9) rfl dX8_add_18 ?_
        refine lv_aload_n hx hb dX8_add_21 rfl (lv_at hl 1 rfl) ?_
        refine va_get (D := D) (ci := 8) (v := .int (nI (L + 1 + 1))) (C := RX8) (T := TX8) (N := 2) hx hb hts inlX8 hown hK hP 0 rfl rfl 1 (by decide) (hts _ mw_52) (fun _ h9 => h9) rfl dX8_add_22 ?_
        refine lv_iload_n hx hb dX8_add_25 rfl (lv_at hl 2 rfl) ?_
        refine lv_iload_n hx hb dX8_add_26 rfl (lv_at hl 0 rfl) ?_
        obtain ⟨x_13, ex_13⟩ : ∃ v9 : Int32, (za.toUInt32 >>> (Int32.toUInt32 8 &&& Int32.toUInt32 31)).toInt32 = v9 := ⟨_, rfl⟩
        refine lv_iushr (v := x_13) hx hb dX8_add_27 ex_13 ?_
        refine lv_sipush (v := 255) hx hb dX8_add_28 (by decide) ?_
        refine lv_iand hx hb dX8_add_31 ?_
        refine lv_topi (fun x_14 ex_14 => ?_)
        refine va_iast hx hb hK hP hD hS 1 0 rfl rfl (i := nI (L + 1 + 1)) (x := x_14) (vp_in_nI (n := (L + 1 + 1)) (by omega) (by omega)) dX8_add_32 (fun H locs hP hD hS => ?_)
        rw [nI_clamp (by omega)] at hP hD
        have hP : va_P D vwCl ([(tp, .inr (8, [.ref tb, .int (nI (L + 1 + 1))])), (tb, .inl (κ 0, 800, .inl (upd g_10 (L + 1 + 1) x_14)))] ++ []) H := hP
        have hD : va_D A ([(tp, .inr (8, [.ref tb, .int (nI (L + 1 + 1))])), (tb, .inl (κ 0, 800, .inl (upd g_10 (L + 1 + 1) x_14)))] ++ []) := hD
        generalize upd g_10 (L + 1 + 1) x_14 = g_15 at hP hD 
        refine lv_aload_n hx hb dX8_add_33 rfl (lv_at hl 1 rfl) ?_
        refine lv_dup hx hb dX8_add_34 rfl ?_
        refine va_get (D := D) (ci := 8) (v := .int (nI (L + 1 + 1))) (C := RX8) (T := TX8) (N := 2) hx hb hts inlX8 hown hK hP 0 rfl rfl 1 (by decide) (hts _ mw_52) (fun _ h9 => h9) rfl dX8_add_35 ?_
        refine lv_iconst (v := 1) hx hb dX8_add_38 (by decide) ?_
        refine lv_iadd hx hb dX8_add_39 ?_
        refine ki (v := (nI (L + 1 + 1 + 1))) (nI_add (L + 1 + 1) 1) ?_
        refine va_put (D := D) (ci := 8) (v := .int (nI (L + 1 + 1 + 1))) (ty := tyX8 1) (C := RX8) (T := TX8) (N := 2) hx hb hts inlX8 tyX8 tyX8_ok nmX8 hown hK hP hD hS 0 rfl rfl 1 (by decide) (hts _ mw_52) (fun _ h9 => h9) rfl (tyX8_ok 1 (by decide)) rfl rfl (Nat.le_of_ble_eq_true rfl) dX8_add_40 (fun H locs hP hD hS => ?_)
        have hP : va_P D vwCl ([(tp, .inr (8, [.ref tb, .int (nI (L + 1 + 1 + 1))])), (tb, .inl (κ 0, 800, .inl g_15))] ++ []) H := hP
        have hD : va_D A ([(tp, .inr (8, [.ref tb, .int (nI (L + 1 + 1 + 1))])), (tb, .inl (κ 0, 800, .inl g_15))] ++ []) := hD
        refine lv_iinc (v := 0) (lv' := [(2, .int 0), (0, .ref tp), (1, .int za)]) hx hb dX8_add_43 hl (k := 0) rfl (by decide) (by decide) rfl (fun ls hl => ?_)
        refine lv_goto (tgt := 3) hx hb dX8_add_46 (by decide) ?_
        refine lv_iload_n hx hb dX8_add_3 rfl (lv_at hl 0 rfl) ?_
        refine lv_if_lt (tgt := 49) hx hb dX8_add_4 (by decide) (fun c_16 => absurd c_16 (by decide)) (fun c_16 => ?_)
        refine lv_aload_n hx hb dX8_add_7 rfl (lv_at hl 1 rfl) ?_
        refine va_get (D := D) (ci := 8) (v := .int (nI (L + 1 + 1 + 1))) (C := RX8) (T := TX8) (N := 2) hx hb hts inlX8 hown hK hP 0 rfl rfl 1 (by decide) (hts _ mw_52) (fun _ h9 => h9) rfl dX8_add_8 ?_
        refine lv_sipush (v := 800) hx hb dX8_add_11 (by decide) ?_
        refine lv_icmp_ge (tgt := 49) hx hb dX8_add_14 (by decide) (fun c_17 => ?_) (fun c_17 => ?_)
        · have nc_17 := cv_le (a := 800) (b := (L + 1 + 1 + 1)) (by omega) (by omega) c_17
          omega
        · have nc_17 := cv_nle (a := 800) (b := (L + 1 + 1 + 1)) (by omega) (by omega) c_17
          refine lv_aload_n hx hb dX8_add_17 rfl (lv_at hl 1 rfl) ?_
          refine va_get (D := D) (ci := 8) (v := .ref tb) (C := RX8) (T := TX8) (N := 2) hx hb hts inlX8 hown hK hP 0 rfl rfl 0 (by decide) (hts _ mw_51) (fun _ h9 => h9) rfl dX8_add_18 ?_
          refine lv_aload_n hx hb dX8_add_21 rfl (lv_at hl 1 rfl) ?_
          refine va_get (D := D) (ci := 8) (v := .int (nI (L + 1 + 1 + 1))) (C := RX8) (T := TX8) (N := 2) hx hb hts inlX8 hown hK hP 0 rfl rfl 1 (by decide) (hts _ mw_52) (fun _ h9 => h9) rfl dX8_add_22 ?_
          refine lv_iload_n hx hb dX8_add_25 rfl (lv_at hl 2 rfl) ?_
          refine lv_iload_n hx hb dX8_add_26 rfl (lv_at hl 0 rfl) ?_
          obtain ⟨x_18, ex_18⟩ : ∃ v9 : Int32, (za.toUInt32 >>> (Int32.toUInt32 0 &&& Int32.toUInt32 31)).toInt32 = v9 := ⟨_, rfl⟩
          refine lv_iushr (v := x_18) hx hb dX8_add_27 ex_18 ?_
          refine lv_sipush (v := 255) hx hb dX8_add_28 (by decide) ?_
          refine lv_iand hx hb dX8_add_31 ?_
          refine lv_topi (fun x_19 ex_19 => ?_)
          refine va_iast hx hb hK hP hD hS 1 0 rfl rfl (i := nI (L + 1 + 1 + 1)) (x := x_19) (vp_in_nI (n := (L + 1 + 1 + 1)) (by omega) (by omega)) dX8_add_32 (fun H locs hP hD hS => ?_)
          rw [nI_clamp (by omega)] at hP hD
          have hP : va_P D vwCl ([(tp, .inr (8, [.ref tb, .int (nI (L + 1 + 1 + 1))])), (tb, .inl (κ 0, 800, .inl (upd g_15 (L + 1 + 1 + 1) x_19)))] ++ []) H := hP
          have hD : va_D A ([(tp, .inr (8, [.ref tb, .int (nI (L + 1 + 1 + 1))])), (tb, .inl (κ 0, 800, .inl (upd g_15 (L + 1 + 1 + 1) x_19)))] ++ []) := hD
          generalize upd g_15 (L + 1 + 1 + 1) x_19 = g_20 at hP hD 
          refine lv_aload_n hx hb dX8_add_33 rfl (lv_at hl 1 rfl) ?_
          refine lv_dup hx hb dX8_add_34 rfl ?_
          refine va_get (D := D) (ci := 8) (v := .int (nI (L + 1 + 1 + 1))) (C := RX8) (T := TX8) (N := 2) hx hb hts inlX8 hown hK hP 0 rfl rfl 1 (by decide) (hts _ mw_52) (fun _ h9 => h9) rfl dX8_add_35 ?_
          refine lv_iconst (v := 1) hx hb dX8_add_38 (by decide) ?_
          refine lv_iadd hx hb dX8_add_39 ?_
          refine ki (v := (nI (L + 1 + 1 + 1 + 1))) (nI_add (L + 1 + 1 + 1) 1) ?_
          refine va_put (D := D) (ci := 8) (v := .int (nI (L + 1 + 1 + 1 + 1))) (ty := tyX8 1) (C := RX8) (T := TX8) (N := 2) hx hb hts inlX8 tyX8 tyX8_ok nmX8 hown hK hP hD hS 0 rfl rfl 1 (by decide) (hts _ mw_52) (fun _ h9 => h9) rfl (tyX8_ok 1 (by decide)) rfl rfl (Nat.le_of_ble_eq_true rfl) dX8_add_40 (fun H locs hP hD hS => ?_)
          have hP : va_P D vwCl ([(tp, .inr (8, [.ref tb, .int (nI (L + 1 + 1 + 1 + 1))])), (tb, .inl (κ 0, 800, .inl g_20))] ++ []) H := hP
          have hD : va_D A ([(tp, .inr (8, [.ref tb, .int (nI (L + 1 + 1 + 1 + 1))])), (tb, .inl (κ 0, 800, .inl g_20))] ++ []) := hD
          refine lv_iinc (v := (-8)) (lv' := [(2, .int (-8)), (0, .ref tp), (1, .int za)]) hx hb dX8_add_43 hl (k := 0) rfl (by decide) (by decide) rfl (fun ls hl => ?_)
          refine lv_goto (tgt := 3) hx hb dX8_add_46 (by decide) ?_
          refine lv_iload_n hx hb dX8_add_3 rfl (lv_at hl 0 rfl) ?_
          refine lv_if_lt (tgt := 49) hx hb dX8_add_4 (by decide) (fun c_21 => ?_) (fun c_21 => absurd (by decide) c_21)
          exact et_vret hx hb hr hlk hS g_20 rfl trivial (subP0 hP [0, 1] rfl) (hD.sub [0, 1] (by decide) rfl) (Nat.le_of_ble_eq_true rfl) (Nat.le_of_ble_eq_true rfl) dX8_add_49
set_option maxHeartbeats 4000000 in
set_option maxRecDepth 100000 in
theorem c_X8_takeBytes (l : Launch) (D : va_G) (κ : Nat → ClassId) (κq : Nat → Nat) (im : va_W) (tp : Nat) (tb : Nat) (L : Nat) (tf : Nat → Int32) (hL : L ≤ 800) : Et l yX8_takeBytes (wl yX8_takeBytes cX8_takeBytes 4 (some (.array .byte))) { frames := 1, cells := 1, slots := 20, locals := 20 } D κ κq [.ref tp] ([(tp, .inr (8, [.ref tb, .int (nI L)])), (tb, .inl (κ 0, 800, .inl tf))] ++ im) (fun u9 : Option Nat × va_W => some (va_rf u9.1)) (fun u9 : Option Nat × va_W => Sb im u9.2 ∧ ((u9.1 = none) ∨ (∃ (q : Nat), ∃ (n : Nat), u9.1 = some q ∧ By κ u9.2 q n))) (fun u9 : Option Nat × va_W => ([(tp, .inr (8, [.ref tb, .int 0])), (tb, .inl (κ 0, 800, .inl tf))] ++ u9.2)) := by
  refine et_of (by decide +kernel) (Nat.le_of_ble_eq_true rfl) ?_
  intro p e s m args below meth c A ls hx hb hr hml hts hown hlk hin hKK hK hA hP hD hS hE hl
  have hS : va_S A s.heap s.heap [] := hS
  have hP : va_P D vwCl ([(tp, .inr (8, [.ref tb, .int (nI L)])), (tb, .inl (κ 0, 800, .inl tf))] ++ im) s.heap := hP
  have hD : va_D A ([(tp, .inr (8, [.ref tb, .int (nI L)])), (tb, .inl (κ 0, 800, .inl tf))] ++ im) := hD
  have hFX : FX p s m args c cX8_takeBytes 4 RX8 := ⟨hx, hb, hml, hown, hts⟩
  have hl : lv_has ls 4 [(0, .ref tp)] := hl
  refine lv_aload_n hx hb dX8_takeBytes_0 rfl (lv_at hl 0 rfl) ?_
  refine va_get (D := D) (ci := 8) (v := .int (nI L)) (C := RX8) (T := TX8) (N := 2) hx hb hts inlX8 hown hK hP 0 rfl rfl 1 (by decide) (hts _ mw_52) (fun _ h9 => h9) rfl dX8_takeBytes_1 ?_
  refine lv_istore_n (lv' := [(1, .int (nI L)), (0, .ref tp)]) hx hb dX8_takeBytes_4 rfl hl (by decide) rfl (fun ls hl => ?_)
  refine lv_aload_n hx hb dX8_takeBytes_5 rfl (lv_at hl 1 rfl) ?_
  refine lv_iconst (v := 0) hx hb dX8_takeBytes_6 (by decide) ?_
  refine va_put (D := D) (ci := 8) (v := .int 0) (ty := tyX8 1) (C := RX8) (T := TX8) (N := 2) hx hb hts inlX8 tyX8 tyX8_ok nmX8 hown hK hP hD hS 0 rfl rfl 1 (by decide) (hts _ mw_52) (fun _ h9 => h9) rfl (tyX8_ok 1 (by decide)) rfl rfl (Nat.le_of_ble_eq_true rfl) dX8_takeBytes_7 (fun H locs hP hD hS => ?_)
  have hP : va_P D vwCl ([(tp, .inr (8, [.ref tb, .int 0])), (tb, .inl (κ 0, 800, .inl tf))] ++ im) H := hP
  have hD : va_D A ([(tp, .inr (8, [.ref tb, .int 0])), (tb, .inl (κ 0, 800, .inl tf))] ++ im) := hD
  refine lv_iload_n hx hb dX8_takeBytes_10 rfl (lv_at hl 0 rfl) ?_
  refine lv_bipush (v := 20) hx hb dX8_takeBytes_11 (by decide) ?_
  refine lv_icmp_le (tgt := 18) hx hb dX8_takeBytes_13 (by decide) (fun c_1 => ?_) (fun c_1 => ?_)
  · have nc_1 := cv_le (a := L) (b := 20) (by omega) (by omega) c_1
    refine lv_iload_n hx hb dX8_takeBytes_18 rfl (lv_at hl 0 rfl) ?_
    refine my_newa (atype := .byte) hx hb (hts _ mw_69) rfl hK hP hD hS hA 1 rfl (N' := L) (a0 := (L, .inl (fun _ => 0))) (fun _ => rfl) (nI_pos (by omega)) (nI_clamp (by omega)) (by show L * 1 ≤ _; omega) (Nat.le_of_ble_eq_true rfl) (by show _ ≤ 20; omega) dX8_takeBytes_19 (fun q_2 H hP hD hS => ?_)
    refine W.widen (k := 1) (n := 20) (Nat.le_refl _) (by omega) ?_
    replace hP : va_P D vwCl ([(tp, .inr (8, [.ref tb, .int 0])), (tb, .inl (κ 0, 800, .inl tf)), (q_2, .inl (κ 1, L, .inl (fun _ => (0 : Int32))))] ++ im) H := mvP hP
    replace hD : va_D A ([(tp, .inr (8, [.ref tb, .int 0])), (tb, .inl (κ 0, 800, .inl tf)), (q_2, .inl (κ 1, L, .inl (fun _ => (0 : Int32))))] ++ im) := mvD hD
    refine lv_astore_n (lv' := [(2, .ref q_2), (1, .int (nI L)), (0, .ref tp)]) hx hb dX8_takeBytes_21 rfl hl (by decide) rfl (fun ls hl => ?_)
    refine lv_iconst (v := 0) hx hb dX8_takeBytes_22 (by decide) ?_
    refine lv_istore_n (lv' := [(3, .int 0), (2, .ref q_2), (1, .int (nI L)), (0, .ref tp)]) hx hb dX8_takeBytes_23 rfl hl (by decide) rfl (fun ls hl => ?_)
    refine loop_dn (fun k9 H locs ls => ∃ (k3_24 : Nat), ∃ (gq_2_24 : Nat → Int32), (k3_24 ≤ L) ∧ sb_Fit gq_2_24 ∧ L - k3_24 = k9 ∧ va_P D vwCl ([(tp, .inr (8, [.ref tb, .int 0])), (tb, .inl (κ 0, 800, .inl tf)), (q_2, .inl (κ 1, L, .inl gq_2_24))] ++ im) H ∧ va_D A ([(tp, .inr (8, [.ref tb, .int 0])), (tb, .inl (κ 0, 800, .inl tf)), (q_2, .inl (κ 1, L, .inl gq_2_24))] ++ im) ∧ va_S A s.heap H locs ∧ lv_has ls 4 [(3, .int (nI k3_24)), (2, .ref q_2), (1, .int (nI L)), (0, .ref tp)]) (fun k9 H locs ls hI24 ih24 => ?_) (L - 0) _ _ _ ⟨0, (fun _ => (0 : Int32)), (by omega), sb_fit0, rfl, hP, hD, hS, lv_sub hl [0, 1, 2, 3] rfl⟩
    obtain ⟨k3_24, gq_2_24, hl24_0, hg24_0, hm24, hP, hD, hS, hl⟩ := hI24
    refine lv_iload_n hx hb dX8_takeBytes_24 rfl (lv_at hl 0 rfl) ?_
    refine lv_iload_n hx hb dX8_takeBytes_25 rfl (lv_at hl 2 rfl) ?_
    refine lv_icmp_ge (tgt := 70) hx hb dX8_takeBytes_26 (by decide) (fun c_3 => ?_) (fun c_3 => ?_)
    · have nc_3 := cv_le (a := L) (b := k3_24) (by omega) (by omega) c_3
      refine lv_aload_n hx hb dX8_takeBytes_70 rfl (lv_at hl 1 rfl) ?_
      replace hP : va_P D vwCl ([(tp, .inr (8, [.ref tb, .int 0])), (tb, .inl (κ 0, 800, .inl tf)), (q_2, .inl (κ 1, L, .inl gq_2_24))] ++ im) _ := subP hP [0, 1, 2] rfl
      replace hD : va_D A ([(tp, .inr (8, [.ref tb, .int 0])), (tb, .inl (κ 0, 800, .inl tf)), (q_2, .inl (κ 1, L, .inl gq_2_24))] ++ im) := subD hD [0, 1, 2] (by decide) rfl
      obtain ⟨im_4, he_5⟩ : ∃ x9 : va_W, x9 = ([(q_2, .inl (κ 1, L, .inl gq_2_24))] ++ im) := ⟨_, rfl⟩
      have hs_6 : Sb im im_4 := by rw [he_5]; exact Sb.app
      have hm_q_2 : (q_2, .inl (κ 1, L, .inl gq_2_24)) ∈ im_4 := by rw [he_5]; exact List.mem_of_getElem? (i := 0) rfl
      replace hP : va_P D vwCl ([(tp, .inr (8, [.ref tb, .int 0])), (tb, .inl (κ 0, 800, .inl tf))] ++ ([(q_2, .inl (κ 1, L, .inl gq_2_24))] ++ im)) _ := hP
      replace hD : va_D A ([(tp, .inr (8, [.ref tb, .int 0])), (tb, .inl (κ 0, 800, .inl tf))] ++ ([(q_2, .inl (κ 1, L, .inl gq_2_24))] ++ im)) := hD
      rw [← he_5] at hP hD
      clear he_5
      have hf_7 : By κ im_4 q_2 L := ⟨by omega, _, hm_q_2, hg24_0⟩
      exact et_aret hx hb hr (by first | exact Or.inl ⟨_, rfl⟩ | exact Or.inr ⟨_, rfl⟩) hlk (by first | exact Or.inl rfl | exact Or.inr ⟨_, rfl⟩) hS ((some q_2), im_4) rfl ⟨(show Sb im im_4 from (by first | exact Sb.rf | assumption | exact Sb.tr (by assumption) (by assumption) | exact Sb.tr (by assumption) (Sb.tr (by assumption) (by assumption)))), (by exact Or.inr ((⟨q_2, L, rfl, (show By κ im_4 q_2 L from hf_7)⟩)))⟩ (subP hP [0, 1] rfl) (subD hD [0, 1] (by decide) rfl) (Nat.le_of_ble_eq_true rfl) (Nat.le_of_ble_eq_true rfl) dX8_takeBytes_71
    · have nc_3 := cv_nle (a := L) (b := k3_24) (by omega) (by omega) c_3
      refine lv_aload_n hx hb dX8_takeBytes_29 rfl (lv_at hl 3 rfl) ?_
      refine va_get (D := D) (ci := 8) (v := .ref tb) (C := RX8) (T := TX8) (N := 2) hx hb hts inlX8 hown hK hP 0 rfl rfl 0 (by decide) (hts _ mw_51) (fun _ h9 => h9) rfl dX8_takeBytes_30 ?_
      refine lv_iload_n hx hb dX8_takeBytes_33 rfl (lv_at hl 0 rfl) ?_
      refine va_iald hx hb hK hP 1 0 rfl rfl (i := nI k3_24) (vp_in_nI (n := k3_24) (by omega) (by omega)) dX8_takeBytes_34 ?_
      refine kv (v := .int (tf k3_24)) (by rw [nI_clamp (by omega)]) ?_
      obtain ⟨x_8, ex_8⟩ : ∃ y9 : Int32, tf k3_24 = y9 := ⟨_, rfl⟩
      refine kv (v := .int x_8) (congrArg Value.int ex_8) ?_
      refine er_S (As := [.int x_8]) (rest := []) hFX hKK hE hS (c_X8_isSign l D κ κq x_8) 1 gS_X8_34 hdS_X8_isSign rfl rfl ⟨Nat.le_of_ble_eq_true rfl, Nat.le_of_ble_eq_true rfl⟩ rfl rfl (Nat.le_of_ble_eq_true rfl) dX8_takeBytes_35 ⟨Nat.le_of_ble_eq_true rfl, Nat.le_of_ble_eq_true rfl⟩ hl.1 (subP0 hP [] rfl) (fun r__9 hp_10 => ?_)
      replace hp_10 : ((r__9 = 1) ∨ (r__9 = 0)) := hp_10
      have ha_11 := hp_10
      clear hp_10
      rcases ha_11 with rfl | rfl
      · refine W.eq (g2 := F0 m 38 ls [.int 1]) rfl ?_
        refine lv_if_ne (tgt := 54) hx hb dX8_takeBytes_38 (by decide) (fun c_12 => ?_) (fun c_12 => absurd c_12 (by decide))
        refine lv_aload_n hx hb dX8_takeBytes_54 rfl (lv_at hl 1 rfl) ?_
        refine lv_iload_n hx hb dX8_takeBytes_55 rfl (lv_at hl 0 rfl) ?_
        refine lv_aload_n hx hb dX8_takeBytes_56 rfl (lv_at hl 3 rfl) ?_
        refine va_get (D := D) (ci := 8) (v := .ref tb) (C := RX8) (T := TX8) (N := 2) hx hb hts inlX8 hown hK hP 0 rfl rfl 0 (by decide) (hts _ mw_51) (fun _ h9 => h9) rfl dX8_takeBytes_57 ?_
        refine lv_iload_n hx hb dX8_takeBytes_60 rfl (lv_at hl 0 rfl) ?_
        refine va_iald hx hb hK hP 1 0 rfl rfl (i := nI k3_24) (vp_in_nI (n := k3_24) (by omega) (by omega)) dX8_takeBytes_61 ?_
        refine kv (v := .int x_8) (by rw [nI_clamp (by omega)]; exact congrArg Value.int ex_8) ?_
        obtain ⟨x_13, ex_13⟩ : ∃ y9 : Int32, (x_8 : Int32).toInt8.toInt32 = y9 := ⟨_, rfl⟩
        refine lv_i2b hx hb dX8_takeBytes_62 ex_13 ?_
        refine va_bast hx hb hK hP hD hS 2 1 rfl rfl (i := nI k3_24) (x := x_13) (vp_in_nI (n := k3_24) (by omega) (by omega)) dX8_takeBytes_63 (fun H locs hP hD hS => ?_)
        rw [nI_clamp (by omega)] at hP hD
        have hP : va_P D vwCl ([(tp, .inr (8, [.ref tb, .int 0])), (tb, .inl (κ 0, 800, .inl tf)), (q_2, .inl (κ 1, L, .inl (upd gq_2_24 k3_24 (vp_nar .byte x_13))))] ++ im) H := hP
        have hD : va_D A ([(tp, .inr (8, [.ref tb, .int 0])), (tb, .inl (κ 0, 800, .inl tf)), (q_2, .inl (κ 1, L, .inl (upd gq_2_24 k3_24 (vp_nar .byte x_13))))] ++ im) := hD
        have hf_15 : sb_Fit (upd gq_2_24 k3_24 (vp_nar .byte x_13)) := sb_fitU hg24_0 (fit_nar _)
        generalize upd gq_2_24 k3_24 (vp_nar .byte x_13) = g_14 at hP hD hf_15
        refine lv_iinc (v := (nI (k3_24 + 1))) (lv' := [(3, .int (nI (k3_24 + 1))), (2, .ref q_2), (1, .int (nI L)), (0, .ref tp)]) hx hb dX8_takeBytes_64 hl (k := 0) rfl (nI_i k3_24) (by decide) rfl (fun ls hl => ?_)
        refine lv_goto (tgt := 24) hx hb dX8_takeBytes_67 (by decide) ?_
        exact ih24 _ _ _ _ (by omega) ⟨(k3_24 + 1), g_14, (by omega), hf_15, rfl, hP, hD, hS, lv_sub hl [0, 1, 2, 3] rfl⟩
      · refine W.eq (g2 := F0 m 38 ls [.int 0]) rfl ?_
        refine lv_if_ne (tgt := 54) hx hb dX8_takeBytes_38 (by decide) (fun c_16 => absurd c_16 (by decide)) (fun c_16 => ?_)
        refine lv_aload_n hx hb dX8_takeBytes_41 rfl (lv_at hl 3 rfl) ?_
        refine va_get (D := D) (ci := 8) (v := .ref tb) (C := RX8) (T := TX8) (N := 2) hx hb hts inlX8 hown hK hP 0 rfl rfl 0 (by decide) (hts _ mw_51) (fun _ h9 => h9) rfl dX8_takeBytes_42 ?_
        refine lv_iload_n hx hb dX8_takeBytes_45 rfl (lv_at hl 0 rfl) ?_
        refine va_iald hx hb hK hP 1 0 rfl rfl (i := nI k3_24) (vp_in_nI (n := k3_24) (by omega) (by omega)) dX8_takeBytes_46 ?_
        refine kv (v := .int x_8) (by rw [nI_clamp (by omega)]; exact congrArg Value.int ex_8) ?_
        refine lv_bipush (v := 10) hx hb dX8_takeBytes_47 (by decide) ?_
        refine lv_icmp_eq (tgt := 54) hx hb dX8_takeBytes_49 (by decide) (fun c_17 => ?_) (fun c_17 => ?_)
        · refine lv_aload_n hx hb dX8_takeBytes_54 rfl (lv_at hl 1 rfl) ?_
          refine lv_iload_n hx hb dX8_takeBytes_55 rfl (lv_at hl 0 rfl) ?_
          refine lv_aload_n hx hb dX8_takeBytes_56 rfl (lv_at hl 3 rfl) ?_
          refine va_get (D := D) (ci := 8) (v := .ref tb) (C := RX8) (T := TX8) (N := 2) hx hb hts inlX8 hown hK hP 0 rfl rfl 0 (by decide) (hts _ mw_51) (fun _ h9 => h9) rfl dX8_takeBytes_57 ?_
          refine lv_iload_n hx hb dX8_takeBytes_60 rfl (lv_at hl 0 rfl) ?_
          refine va_iald hx hb hK hP 1 0 rfl rfl (i := nI k3_24) (vp_in_nI (n := k3_24) (by omega) (by omega)) dX8_takeBytes_61 ?_
          refine kv (v := .int x_8) (by rw [nI_clamp (by omega)]; exact congrArg Value.int ex_8) ?_
          obtain ⟨x_18, ex_18⟩ : ∃ y9 : Int32, (x_8 : Int32).toInt8.toInt32 = y9 := ⟨_, rfl⟩
          refine lv_i2b hx hb dX8_takeBytes_62 ex_18 ?_
          refine va_bast hx hb hK hP hD hS 2 1 rfl rfl (i := nI k3_24) (x := x_18) (vp_in_nI (n := k3_24) (by omega) (by omega)) dX8_takeBytes_63 (fun H locs hP hD hS => ?_)
          rw [nI_clamp (by omega)] at hP hD
          have hP : va_P D vwCl ([(tp, .inr (8, [.ref tb, .int 0])), (tb, .inl (κ 0, 800, .inl tf)), (q_2, .inl (κ 1, L, .inl (upd gq_2_24 k3_24 (vp_nar .byte x_18))))] ++ im) H := hP
          have hD : va_D A ([(tp, .inr (8, [.ref tb, .int 0])), (tb, .inl (κ 0, 800, .inl tf)), (q_2, .inl (κ 1, L, .inl (upd gq_2_24 k3_24 (vp_nar .byte x_18))))] ++ im) := hD
          have hf_20 : sb_Fit (upd gq_2_24 k3_24 (vp_nar .byte x_18)) := sb_fitU hg24_0 (fit_nar _)
          generalize upd gq_2_24 k3_24 (vp_nar .byte x_18) = g_19 at hP hD hf_20
          refine lv_iinc (v := (nI (k3_24 + 1))) (lv' := [(3, .int (nI (k3_24 + 1))), (2, .ref q_2), (1, .int (nI L)), (0, .ref tp)]) hx hb dX8_takeBytes_64 hl (k := 0) rfl (nI_i k3_24) (by decide) rfl (fun ls hl => ?_)
          refine lv_goto (tgt := 24) hx hb dX8_takeBytes_67 (by decide) ?_
          exact ih24 _ _ _ _ (by omega) ⟨(k3_24 + 1), g_19, (by omega), hf_20, rfl, hP, hD, hS, lv_sub hl [0, 1, 2, 3] rfl⟩
        · refine lv_null hx hb dX8_takeBytes_52 ?_
          replace hP : va_P D vwCl ([(tp, .inr (8, [.ref tb, .int 0])), (tb, .inl (κ 0, 800, .inl tf)), (q_2, .inl (κ 1, L, .inl gq_2_24))] ++ im) _ := subP hP [0, 1, 2] rfl
          replace hD : va_D A ([(tp, .inr (8, [.ref tb, .int 0])), (tb, .inl (κ 0, 800, .inl tf)), (q_2, .inl (κ 1, L, .inl gq_2_24))] ++ im) := subD hD [0, 1, 2] (by decide) rfl
          obtain ⟨im_21, he_22⟩ : ∃ x9 : va_W, x9 = ([(q_2, .inl (κ 1, L, .inl gq_2_24))] ++ im) := ⟨_, rfl⟩
          have hs_23 : Sb im im_21 := by rw [he_22]; exact Sb.app
          have hm_q_2 : (q_2, .inl (κ 1, L, .inl gq_2_24)) ∈ im_21 := by rw [he_22]; exact List.mem_of_getElem? (i := 0) rfl
          replace hP : va_P D vwCl ([(tp, .inr (8, [.ref tb, .int 0])), (tb, .inl (κ 0, 800, .inl tf))] ++ ([(q_2, .inl (κ 1, L, .inl gq_2_24))] ++ im)) _ := hP
          replace hD : va_D A ([(tp, .inr (8, [.ref tb, .int 0])), (tb, .inl (κ 0, 800, .inl tf))] ++ ([(q_2, .inl (κ 1, L, .inl gq_2_24))] ++ im)) := hD
          rw [← he_22] at hP hD
          clear he_22
          exact et_aret hx hb hr (by first | exact Or.inl ⟨_, rfl⟩ | exact Or.inr ⟨_, rfl⟩) hlk (by first | exact Or.inl rfl | exact Or.inr ⟨_, rfl⟩) hS (none, im_21) rfl ⟨(show Sb im im_21 from (by first | exact Sb.rf | assumption | exact Sb.tr (by assumption) (by assumption) | exact Sb.tr (by assumption) (Sb.tr (by assumption) (by assumption)))), (by exact Or.inl (rfl))⟩ (subP hP [0, 1] rfl) (subD hD [0, 1] (by decide) rfl) (Nat.le_of_ble_eq_true rfl) (Nat.le_of_ble_eq_true rfl) dX8_takeBytes_53
  · have nc_1 := cv_nle (a := L) (b := 20) (by omega) (by omega) c_1
    refine lv_null hx hb dX8_takeBytes_16 ?_
    exact et_aret hx hb hr (by first | exact Or.inl ⟨_, rfl⟩ | exact Or.inr ⟨_, rfl⟩) hlk (by first | exact Or.inl rfl | exact Or.inr ⟨_, rfl⟩) hS (none, im) rfl ⟨(show Sb im im from (by first | exact Sb.rf | assumption | exact Sb.tr (by assumption) (by assumption) | exact Sb.tr (by assumption) (Sb.tr (by assumption) (by assumption)))), (by exact Or.inl (rfl))⟩ (subP hP [0, 1] rfl) (subD hD [0, 1] (by decide) rfl) (Nat.le_of_ble_eq_true rfl) (Nat.le_of_ble_eq_true rfl) dX8_takeBytes_17
