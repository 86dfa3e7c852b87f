theorem ex_le {A B : Nat} {x : Int32} (h : A ≤ B) (e : ∃ n9 : Nat, n9 ≤ A ∧ x = nI n9) : ∃ n9 : Nat, n9 ≤ B ∧ x = nI n9 := by
  obtain ⟨n, h1, h2⟩ := e
  exact ⟨n, Nat.le_trans h1 h, h2⟩
theorem head_val {f : Nat → Int32} {place k B : Nat} {x : Int32} (e : f (place + k) = x) (h : ∃ n9 : Nat, n9 ≤ B ∧ f place = nI n9) : k = 0 → ∃ n9 : Nat, n9 ≤ B ∧ x = nI n9 := by
  intro h0
  subst h0
  rw [← e]
  exact h
theorem dX12_viewsOff_0 : decode cX12_viewsOff 0 = .ok (.aload_n 0, 1) := by decide +kernel
theorem dX12_viewsOff_1 : decode cX12_viewsOff 1 = .ok (.getfield 9, 3) := by decide +kernel
theorem dX12_viewsOff_4 : decode cX12_viewsOff 4 = .ok (.iload_n 1, 1) := by decide +kernel
theorem dX12_viewsOff_5 : decode cX12_viewsOff 5 = .ok (.iconst 3, 1) := by decide +kernel
theorem dX12_viewsOff_6 : decode cX12_viewsOff 6 = .ok (.invokestatic 66, 3) := by decide +kernel
theorem dX12_viewsOff_9 : decode cX12_viewsOff 9 = .ok (.iconst 0, 1) := by decide +kernel
theorem dX12_viewsOff_10 : decode cX12_viewsOff 10 = .ok (.iastore, 1) := by decide +kernel
theorem dX12_viewsOff_11 : decode cX12_viewsOff 11 = .ok (.aload_n 0, 1) := by decide +kernel
theorem dX12_viewsOff_12 : decode cX12_viewsOff 12 = .ok (.getfield 9, 3) := by decide +kernel
theorem dX12_viewsOff_15 : decode cX12_viewsOff 15 = .ok (.iload_n 1, 1) := by decide +kernel
theorem dX12_viewsOff_16 : decode cX12_viewsOff 16 = .ok (.bipush 116, 2) := by decide +kernel
theorem dX12_viewsOff_18 : decode cX12_viewsOff 18 = .ok (.invokestatic 66, 3) := by decide +kernel
theorem dX12_viewsOff_21 : decode cX12_viewsOff 21 = .ok (.aload_n 0, 1) := by decide +kernel
theorem dX12_viewsOff_22 : decode cX12_viewsOff 22 = .ok (.getfield 9, 3) := by decide +kernel
theorem dX12_viewsOff_25 : decode cX12_viewsOff 25 = .ok (.iload_n 1, 1) := by decide +kernel
theorem dX12_viewsOff_26 : decode cX12_viewsOff 26 = .ok (.iconst 2, 1) := by decide +kernel
theorem dX12_viewsOff_27 : decode cX12_viewsOff 27 = .ok (.invokestatic 66, 3) := by decide +kernel
theorem dX12_viewsOff_30 : decode cX12_viewsOff 30 = .ok (.iaload, 1) := by decide +kernel
theorem dX12_viewsOff_31 : decode cX12_viewsOff 31 = .ok (.iastore, 1) := by decide +kernel
theorem dX12_viewsOff_32 : decode cX12_viewsOff 32 = .ok (.iconst 0, 1) := by decide +kernel
theorem dX12_viewsOff_33 : decode cX12_viewsOff 33 = .ok (.istore_n 2, 1) := by decide +kernel
theorem dX12_viewsOff_34 : decode cX12_viewsOff 34 = .ok (.iload_n 2, 1) := by decide +kernel
theorem dX12_viewsOff_35 : decode cX12_viewsOff 35 = .ok (.bipush 40, 2) := by decide +kernel
theorem dX12_viewsOff_37 : decode cX12_viewsOff 37 = .ok (.if_icmp .ge 23, 3) := by decide +kernel
theorem dX12_viewsOff_60 : decode cX12_viewsOff 60 = .ok (.return_, 1) := by decide +kernel
theorem dX12_viewsOff_40 : decode cX12_viewsOff 40 = .ok (.aload_n 0, 1) := by decide +kernel
theorem dX12_viewsOff_41 : decode cX12_viewsOff 41 = .ok (.getfield 9, 3) := by decide +kernel
theorem dX12_viewsOff_44 : decode cX12_viewsOff 44 = .ok (.iload_n 1, 1) := by decide +kernel
theorem dX12_viewsOff_45 : decode cX12_viewsOff 45 = .ok (.bipush 123, 2) := by decide +kernel
theorem dX12_viewsOff_47 : decode cX12_viewsOff 47 = .ok (.invokestatic 66, 3) := by decide +kernel
theorem dX12_viewsOff_50 : decode cX12_viewsOff 50 = .ok (.iload_n 2, 1) := by decide +kernel
theorem dX12_viewsOff_51 : decode cX12_viewsOff 51 = .ok (.iadd, 1) := by decide +kernel
theorem dX12_viewsOff_52 : decode cX12_viewsOff 52 = .ok (.iload_n 2, 1) := by decide +kernel
theorem dX12_viewsOff_53 : decode cX12_viewsOff 53 = .ok (.iastore, 1) := by decide +kernel
theorem dX12_viewsOff_54 : decode cX12_viewsOff 54 = .ok (.iinc 2 1, 3) := by decide +kernel
theorem dX12_viewsOff_57 : decode cX12_viewsOff 57 = .ok (.goto (-23), 3) := by decide +kernel
theorem dX12_canBe_0 : decode cX12_canBe 0 = .ok (.iload_n 1, 1) := by decide +kernel
theorem dX12_canBe_1 : decode cX12_canBe 1 = .ok (.bipush 9, 2) := by decide +kernel
theorem dX12_canBe_3 : decode cX12_canBe 3 = .ok (.if_icmp .ne 26, 3) := by decide +kernel
theorem dX12_canBe_29 : decode cX12_canBe 29 = .ok (.iload_n 1, 1) := by decide +kernel
theorem dX12_canBe_30 : decode cX12_canBe 30 = .ok (.i2l, 1) := by decide +kernel
theorem dX12_canBe_31 : decode cX12_canBe 31 = .ok (.ldc2_w 202, 3) := by decide +kernel
theorem mw_436 : Cond.constantLong RX12 202 (32) ∈ wsL_law := lrk_19 _ (List.mem_of_getElem? (i := 4) rfl)
theorem dX12_canBe_34 : decode cX12_canBe 34 = .ok (.ldc2_w 204, 3) := by decide +kernel
theorem mw_437 : Cond.constantLong RX12 204 (126) ∈ wsL_law := lrk_19 _ (List.mem_of_getElem? (i := 5) rfl)
theorem dX12_canBe_37 : decode cX12_canBe 37 = .ok (.invokestatic 62, 3) := by decide +kernel
theorem dX12_canBe_40 : decode cX12_canBe 40 = .ok (.ifCond .ne 9, 3) := by decide +kernel
theorem dX12_canBe_49 : decode cX12_canBe 49 = .ok (.iconst 1, 1) := by decide +kernel
theorem dX12_canBe_50 : decode cX12_canBe 50 = .ok (.goto 4, 3) := by decide +kernel
theorem dX12_canBe_54 : decode cX12_canBe 54 = .ok (.ireturn, 1) := by decide +kernel
theorem dX12_canBe_43 : decode cX12_canBe 43 = .ok (.iload_n 1, 1) := by decide +kernel
theorem dX12_canBe_44 : decode cX12_canBe 44 = .ok (.bipush 10, 2) := by decide +kernel
theorem dX12_canBe_46 : decode cX12_canBe 46 = .ok (.if_icmp .ne 7, 3) := by decide +kernel
theorem dX12_canBe_53 : decode cX12_canBe 53 = .ok (.iconst 0, 1) := by decide +kernel
theorem dX12_canBe_6 : decode cX12_canBe 6 = .ok (.iload_n 2, 1) := by decide +kernel
theorem dX12_canBe_7 : decode cX12_canBe 7 = .ok (.ifCond .ne 20, 3) := by decide +kernel
theorem dX12_canBe_27 : decode cX12_canBe 27 = .ok (.iconst 0, 1) := by decide +kernel
theorem dX12_canBe_28 : decode cX12_canBe 28 = .ok (.ireturn, 1) := by decide +kernel
theorem dX12_canBe_10 : decode cX12_canBe 10 = .ok (.aload_n 0, 1) := by decide +kernel
theorem dX12_canBe_11 : decode cX12_canBe 11 = .ok (.getfield 9, 3) := by decide +kernel
theorem dX12_canBe_14 : decode cX12_canBe 14 = .ok (.sipush 21369, 3) := by decide +kernel
theorem dX12_canBe_17 : decode cX12_canBe 17 = .ok (.iaload, 1) := by decide +kernel
theorem dX12_canBe_18 : decode cX12_canBe 18 = .ok (.bipush 9, 2) := by decide +kernel
theorem dX12_canBe_20 : decode cX12_canBe 20 = .ok (.if_icmp .ne 7, 3) := by decide +kernel
theorem dX12_canBe_23 : decode cX12_canBe 23 = .ok (.iconst 1, 1) := by decide +kernel
theorem dX12_canBe_24 : decode cX12_canBe 24 = .ok (.goto 4, 3) := by decide +kernel
theorem dX12_isOver_0 : decode cX12_isOver 0 = .ok (.aload_n 0, 1) := by decide +kernel
theorem dX12_isOver_1 : decode cX12_isOver 1 = .ok (.invokevirtual 198, 3) := by decide +kernel
theorem mw_468 : Cond.methodLink RX12 198 yX12_isEnd ∈ wsL_law := lrk_20 _ (List.mem_of_getElem? (i := 12) rfl)
theorem mw_469 : Cond.instanceMethod yX12_isEnd ∈ wsL_law := lrk_20 _ (List.mem_of_getElem? (i := 13) rfl)
theorem mw_470 : Cond.selects RX12 yX12_isEnd yX12_isEnd ∈ wsL_law := lrk_20 _ (List.mem_of_getElem? (i := 14) rfl)
theorem gV_X12_198 : GoodIn wsL_law (wsV RX12 198 RX12 yX12_isEnd (wl yX12_isEnd cX12_isEnd 1 (some .boolean))) := g_V mw_468 mw_469 mw_470 mw_5 mw_471
theorem hdV_X12_isEnd : yX12_isEnd.cls = RX12 ∧ okD yX12_isEnd 0 := by decide +kernel
theorem dX12_isOver_4 : decode cX12_isOver 4 = .ok (.ifCond .ne 23, 3) := by decide +kernel
theorem dX12_isOver_27 : decode cX12_isOver 27 = .ok (.iconst 1, 1) := by decide +kernel
theorem dX12_isOver_28 : decode cX12_isOver 28 = .ok (.goto 4, 3) := by decide +kernel
theorem dX12_isOver_32 : decode cX12_isOver 32 = .ok (.ireturn, 1) := by decide +kernel
theorem dX12_isOver_7 : decode cX12_isOver 7 = .ok (.aload_n 0, 1) := by decide +kernel
theorem dX12_isOver_8 : decode cX12_isOver 8 = .ok (.getfield 20, 3) := by decide +kernel
theorem dX12_isOver_11 : decode cX12_isOver 11 = .ok (.aload_n 0, 1) := by decide +kernel
theorem dX12_isOver_12 : decode cX12_isOver 12 = .ok (.getfield 195, 3) := by decide +kernel
theorem dX12_isOver_15 : decode cX12_isOver 15 = .ok (.iaload, 1) := by decide +kernel
theorem dX12_isOver_16 : decode cX12_isOver 16 = .ok (.aload_n 0, 1) := by decide +kernel
theorem dX12_isOver_17 : decode cX12_isOver 17 = .ok (.getfield 9, 3) := by decide +kernel
theorem dX12_isOver_20 : decode cX12_isOver 20 = .ok (.sipush 21369, 3) := by decide +kernel
theorem dX12_isOver_23 : decode cX12_isOver 23 = .ok (.iaload, 1) := by decide +kernel
theorem dX12_isOver_24 : decode cX12_isOver 24 = .ok (.if_icmp .ne 7, 3) := by decide +kernel
theorem dX12_isOver_31 : decode cX12_isOver 31 = .ok (.iconst 0, 1) := by decide +kernel
theorem dX12_blanks_0 : decode cX12_blanks 0 = .ok (.aload_n 0, 1) := by decide +kernel
theorem dX12_blanks_1 : decode cX12_blanks 1 = .ok (.getfield 9, 3) := by decide +kernel
theorem dX12_blanks_4 : decode cX12_blanks 4 = .ok (.sipush 21372, 3) := by decide +kernel
theorem dX12_blanks_7 : decode cX12_blanks 7 = .ok (.iaload, 1) := by decide +kernel
theorem dX12_blanks_8 : decode cX12_blanks 8 = .ok (.iconst 1, 1) := by decide +kernel
theorem dX12_blanks_9 : decode cX12_blanks 9 = .ok (.if_icmp .ne 41, 3) := by decide +kernel
theorem dX12_blanks_50 : decode cX12_blanks 50 = .ok (.return_, 1) := by decide +kernel
theorem dX12_blanks_12 : decode cX12_blanks 12 = .ok (.aload_n 0, 1) := by decide +kernel
theorem dX12_blanks_13 : decode cX12_blanks 13 = .ok (.getfield 195, 3) := by decide +kernel
theorem dX12_blanks_16 : decode cX12_blanks 16 = .ok (.aload_n 0, 1) := by decide +kernel
theorem dX12_blanks_17 : decode cX12_blanks 17 = .ok (.getfield 83, 3) := by decide +kernel
theorem dX12_blanks_20 : decode cX12_blanks 20 = .ok (.if_icmp .ge 30, 3) := by decide +kernel
theorem dX12_blanks_23 : decode cX12_blanks 23 = .ok (.aload_n 0, 1) := by decide +kernel
theorem dX12_blanks_24 : decode cX12_blanks 24 = .ok (.getfield 20, 3) := by decide +kernel
theorem dX12_blanks_27 : decode cX12_blanks 27 = .ok (.aload_n 0, 1) := by decide +kernel
theorem dX12_blanks_28 : decode cX12_blanks 28 = .ok (.getfield 195, 3) := by decide +kernel
theorem dX12_blanks_31 : decode cX12_blanks 31 = .ok (.iaload, 1) := by decide +kernel
theorem dX12_blanks_32 : decode cX12_blanks 32 = .ok (.bipush 32, 2) := by decide +kernel
theorem dX12_blanks_34 : decode cX12_blanks 34 = .ok (.if_icmp .ne 16, 3) := by decide +kernel
theorem dX12_blanks_37 : decode cX12_blanks 37 = .ok (.aload_n 0, 1) := by decide +kernel
theorem dX12_blanks_38 : decode cX12_blanks 38 = .ok (.dup, 1) := by decide +kernel
theorem dX12_blanks_39 : decode cX12_blanks 39 = .ok (.getfield 195, 3) := by decide +kernel
theorem dX12_blanks_42 : decode cX12_blanks 42 = .ok (.iconst 1, 1) := by decide +kernel
theorem dX12_blanks_43 : decode cX12_blanks 43 = .ok (.iadd, 1) := by decide +kernel
theorem dX12_blanks_44 : decode cX12_blanks 44 = .ok (.putfield 195, 3) := by decide +kernel
theorem dX12_blanks_47 : decode cX12_blanks 47 = .ok (.goto (-47), 3) := by decide +kernel
theorem dX12_wrong_0 : decode cX12_wrong 0 = .ok (.aload_n 0, 1) := by decide +kernel
theorem dX12_wrong_1 : decode cX12_wrong 1 = .ok (.iload_n 1, 1) := by decide +kernel
theorem dX12_wrong_2 : decode cX12_wrong 2 = .ok (.putfield 192, 3) := by decide +kernel
theorem mw_418 : Cond.fieldLink RX12 192 "TypedTablesModel" "faultKind" "I" ∈ wsL_law := lrk_18 _ (List.mem_of_getElem? (i := 10) rfl)
theorem dX12_wrong_5 : decode cX12_wrong 5 = .ok (.aload_n 0, 1) := by decide +kernel
theorem dX12_wrong_6 : decode cX12_wrong 6 = .ok (.iload_n 2, 1) := by decide +kernel
theorem dX12_wrong_7 : decode cX12_wrong 7 = .ok (.putfield 23, 3) := by decide +kernel
theorem mw_192 : Cond.fieldLink RX12 23 "TypedTablesModel" "faultPlace" "I" ∈ wsL_law := lrk_9 _ (List.mem_of_getElem? (i := 0) rfl)
theorem dX12_wrong_10 : decode cX12_wrong 10 = .ok (.aload_n 0, 1) := by decide +kernel
theorem dX12_wrong_11 : decode cX12_wrong 11 = .ok (.iload_n 3, 1) := by decide +kernel
theorem dX12_wrong_12 : decode cX12_wrong 12 = .ok (.putfield 27, 3) := by decide +kernel
theorem mw_193 : Cond.fieldLink RX12 27 "TypedTablesModel" "faultCause" "I" ∈ wsL_law := lrk_9 _ (List.mem_of_getElem? (i := 1) rfl)
theorem dX12_wrong_15 : decode cX12_wrong 15 = .ok (.iconst 0, 1) := by decide +kernel
theorem dX12_wrong_16 : decode cX12_wrong 16 = .ok (.ireturn, 1) := by decide +kernel
theorem dX12_goesOn_0 : decode cX12_goesOn 0 = .ok (.aload_n 0, 1) := by decide +kernel
theorem dX12_goesOn_1 : decode cX12_goesOn 1 = .ok (.getfield 195, 3) := by decide +kernel
theorem dX12_goesOn_4 : decode cX12_goesOn 4 = .ok (.aload_n 0, 1) := by decide +kernel
theorem dX12_goesOn_5 : decode cX12_goesOn 5 = .ok (.getfield 83, 3) := by decide +kernel
theorem dX12_goesOn_8 : decode cX12_goesOn 8 = .ok (.if_icmp .ge 13, 3) := by decide +kernel
theorem dX12_goesOn_21 : decode cX12_goesOn 21 = .ok (.return_, 1) := by decide +kernel
theorem dX12_goesOn_11 : decode cX12_goesOn 11 = .ok (.aload_n 0, 1) := by decide +kernel
theorem dX12_goesOn_12 : decode cX12_goesOn 12 = .ok (.dup, 1) := by decide +kernel
theorem dX12_goesOn_13 : decode cX12_goesOn 13 = .ok (.getfield 195, 3) := by decide +kernel
theorem dX12_goesOn_16 : decode cX12_goesOn 16 = .ok (.iconst 1, 1) := by decide +kernel
theorem dX12_goesOn_17 : decode cX12_goesOn 17 = .ok (.iadd, 1) := by decide +kernel
theorem dX12_goesOn_18 : decode cX12_goesOn 18 = .ok (.putfield 195, 3) := by decide +kernel
theorem dX12_adds_0 : decode cX12_adds 0 = .ok (.bipush 21, 2) := by decide +kernel
theorem dX12_adds_2 : decode cX12_adds 2 = .ok (.iload_n 1, 1) := by decide +kernel
theorem dX12_adds_3 : decode cX12_adds 3 = .ok (.imul, 1) := by decide +kernel
theorem dX12_adds_4 : decode cX12_adds 4 = .ok (.istore_n 3, 1) := by decide +kernel
theorem dX12_adds_5 : decode cX12_adds 5 = .ok (.aload_n 0, 1) := by decide +kernel
theorem dX12_adds_6 : decode cX12_adds 6 = .ok (.getfield 30, 3) := by decide +kernel
theorem mw_194 : Cond.fieldLink RX12 30 "TypedTablesModel" "field" "[I" ∈ wsL_law := lrk_9 _ (List.mem_of_getElem? (i := 2) rfl)
theorem dX12_adds_9 : decode cX12_adds 9 = .ok (.iload_n 3, 1) := by decide +kernel
theorem dX12_adds_10 : decode cX12_adds 10 = .ok (.iaload, 1) := by decide +kernel
theorem dX12_adds_11 : decode cX12_adds 11 = .ok (.bipush 20, 2) := by decide +kernel
theorem dX12_adds_13 : decode cX12_adds 13 = .ok (.if_icmp .ne 5, 3) := by decide +kernel
theorem dX12_adds_18 : decode cX12_adds 18 = .ok (.aload_n 0, 1) := by decide +kernel
theorem dX12_adds_19 : decode cX12_adds 19 = .ok (.getfield 30, 3) := by decide +kernel
theorem dX12_adds_22 : decode cX12_adds 22 = .ok (.iload_n 3, 1) := by decide +kernel
theorem dX12_adds_23 : decode cX12_adds 23 = .ok (.iconst 1, 1) := by decide +kernel
theorem dX12_adds_24 : decode cX12_adds 24 = .ok (.iadd, 1) := by decide +kernel
theorem dX12_adds_25 : decode cX12_adds 25 = .ok (.aload_n 0, 1) := by decide +kernel
theorem dX12_adds_26 : decode cX12_adds 26 = .ok (.getfield 30, 3) := by decide +kernel
theorem dX12_adds_29 : decode cX12_adds 29 = .ok (.iload_n 3, 1) := by decide +kernel
theorem dX12_adds_30 : decode cX12_adds 30 = .ok (.iaload, 1) := by decide +kernel
theorem dX12_adds_31 : decode cX12_adds 31 = .ok (.iadd, 1) := by decide +kernel
theorem dX12_adds_32 : decode cX12_adds 32 = .ok (.iload_n 2, 1) := by decide +kernel
theorem dX12_adds_33 : decode cX12_adds 33 = .ok (.iastore, 1) := by decide +kernel
theorem dX12_adds_34 : decode cX12_adds 34 = .ok (.aload_n 0, 1) := by decide +kernel
theorem dX12_adds_35 : decode cX12_adds 35 = .ok (.getfield 30, 3) := by decide +kernel
theorem dX12_adds_38 : decode cX12_adds 38 = .ok (.iload_n 3, 1) := by decide +kernel
theorem dX12_adds_39 : decode cX12_adds 39 = .ok (.dup2, 1) := by decide +kernel
theorem dX12_adds_40 : decode cX12_adds 40 = .ok (.iaload, 1) := by decide +kernel
theorem dX12_adds_41 : decode cX12_adds 41 = .ok (.iconst 1, 1) := by decide +kernel
theorem dX12_adds_42 : decode cX12_adds 42 = .ok (.iadd, 1) := by decide +kernel
theorem dX12_adds_43 : decode cX12_adds 43 = .ok (.iastore, 1) := by decide +kernel
theorem dX12_adds_44 : decode cX12_adds 44 = .ok (.iconst 1, 1) := by decide +kernel
theorem dX12_adds_45 : decode cX12_adds 45 = .ok (.ireturn, 1) := by decide +kernel
theorem dX12_adds_16 : decode cX12_adds 16 = .ok (.iconst 0, 1) := by decide +kernel
theorem dX12_adds_17 : decode cX12_adds 17 = .ok (.ireturn, 1) := by decide +kernel
theorem dX12_plain_0 : decode cX12_plain 0 = .ok (.iconst 0, 1) := by decide +kernel
theorem dX12_plain_1 : decode cX12_plain 1 = .ok (.istore_n 2, 1) := by decide +kernel
theorem dX12_plain_2 : decode cX12_plain 2 = .ok (.aload_n 0, 1) := by decide +kernel
theorem dX12_plain_3 : decode cX12_plain 3 = .ok (.invokevirtual 220, 3) := by decide +kernel
theorem mw_467 : Cond.code yX12_isOver cX12_isOver 1 (some .boolean) ∈ wsL_law := lrk_20 _ (List.mem_of_getElem? (i := 11) rfl)
theorem mw_464 : Cond.methodLink RX12 220 yX12_isOver ∈ wsL_law := lrk_20 _ (List.mem_of_getElem? (i := 8) rfl)
theorem mw_465 : Cond.instanceMethod yX12_isOver ∈ wsL_law := lrk_20 _ (List.mem_of_getElem? (i := 9) rfl)
theorem mw_466 : Cond.selects RX12 yX12_isOver yX12_isOver ∈ wsL_law := lrk_20 _ (List.mem_of_getElem? (i := 10) rfl)
theorem gV_X12_220 : GoodIn wsL_law (wsV RX12 220 RX12 yX12_isOver (wl yX12_isOver cX12_isOver 1 (some .boolean))) := g_V mw_464 mw_465 mw_466 mw_5 mw_467
theorem hdV_X12_isOver : yX12_isOver.cls = RX12 ∧ okD yX12_isOver 0 := by decide +kernel
theorem dX12_plain_6 : decode cX12_plain 6 = .ok (.ifCond .ne 144, 3) := by decide +kernel
theorem dX12_plain_150 : decode cX12_plain 150 = .ok (.iconst 1, 1) := by decide +kernel
theorem dX12_plain_151 : decode cX12_plain 151 = .ok (.ireturn, 1) := by decide +kernel
theorem dX12_plain_9 : decode cX12_plain 9 = .ok (.aload_n 0, 1) := by decide +kernel
theorem dX12_plain_10 : decode cX12_plain 10 = .ok (.getfield 20, 3) := by decide +kernel
theorem dX12_plain_13 : decode cX12_plain 13 = .ok (.aload_n 0, 1) := by decide +kernel
theorem dX12_plain_14 : decode cX12_plain 14 = .ok (.getfield 195, 3) := by decide +kernel
theorem dX12_plain_17 : decode cX12_plain 17 = .ok (.iaload, 1) := by decide +kernel
theorem dX12_plain_18 : decode cX12_plain 18 = .ok (.istore_n 3, 1) := by decide +kernel
theorem dX12_plain_19 : decode cX12_plain 19 = .ok (.aload_n 0, 1) := by decide +kernel
theorem dX12_plain_20 : decode cX12_plain 20 = .ok (.iload_n 3, 1) := by decide +kernel
theorem dX12_plain_21 : decode cX12_plain 21 = .ok (.iconst 0, 1) := by decide +kernel
theorem dX12_plain_22 : decode cX12_plain 22 = .ok (.invokevirtual 206, 3) := by decide +kernel
theorem mw_435 : Cond.code yX12_canBe cX12_canBe 3 (some .boolean) ∈ wsL_law := lrk_19 _ (List.mem_of_getElem? (i := 3) rfl)
theorem mw_432 : Cond.methodLink RX12 206 yX12_canBe ∈ wsL_law := lrk_19 _ (List.mem_of_getElem? (i := 0) rfl)
theorem mw_433 : Cond.instanceMethod yX12_canBe ∈ wsL_law := lrk_19 _ (List.mem_of_getElem? (i := 1) rfl)
theorem mw_434 : Cond.selects RX12 yX12_canBe yX12_canBe ∈ wsL_law := lrk_19 _ (List.mem_of_getElem? (i := 2) rfl)
theorem gV_X12_206 : GoodIn wsL_law (wsV RX12 206 RX12 yX12_canBe (wl yX12_canBe cX12_canBe 3 (some .boolean))) := g_V mw_432 mw_433 mw_434 mw_5 mw_435
theorem hdV_X12_canBe : yX12_canBe.cls = RX12 ∧ okD yX12_canBe 2 := by decide +kernel
theorem dX12_plain_25 : decode cX12_plain 25 = .ok (.ifCond .ne 14, 3) := by decide +kernel
theorem dX12_plain_39 : decode cX12_plain 39 = .ok (.iload_n 3, 1) := by decide +kernel
theorem dX12_plain_40 : decode cX12_plain 40 = .ok (.aload_n 0, 1) := by decide +kernel
theorem dX12_plain_41 : decode cX12_plain 41 = .ok (.getfield 9, 3) := by decide +kernel
theorem dX12_plain_44 : decode cX12_plain 44 = .ok (.sipush 21370, 3) := by decide +kernel
theorem dX12_plain_47 : decode cX12_plain 47 = .ok (.iaload, 1) := by decide +kernel
theorem dX12_plain_48 : decode cX12_plain 48 = .ok (.if_icmp .ne 14, 3) := by decide +kernel
theorem dX12_plain_62 : decode cX12_plain 62 = .ok (.aload_n 0, 1) := by decide +kernel
theorem dX12_plain_63 : decode cX12_plain 63 = .ok (.getfield 9, 3) := by decide +kernel
theorem dX12_plain_66 : decode cX12_plain 66 = .ok (.sipush 21372, 3) := by decide +kernel
theorem dX12_plain_69 : decode cX12_plain 69 = .ok (.iaload, 1) := by decide +kernel
theorem dX12_plain_70 : decode cX12_plain 70 = .ok (.iconst 1, 1) := by decide +kernel
theorem dX12_plain_71 : decode cX12_plain 71 = .ok (.if_icmp .ne 15, 3) := by decide +kernel
theorem dX12_plain_86 : decode cX12_plain 86 = .ok (.iload_n 2, 1) := by decide +kernel
theorem dX12_plain_87 : decode cX12_plain 87 = .ok (.ifCond .le 30, 3) := by decide +kernel
theorem dX12_plain_117 : decode cX12_plain 117 = .ok (.aload_n 0, 1) := by decide +kernel
theorem dX12_plain_118 : decode cX12_plain 118 = .ok (.iload_n 1, 1) := by decide +kernel
theorem dX12_plain_119 : decode cX12_plain 119 = .ok (.iload_n 3, 1) := by decide +kernel
theorem dX12_plain_120 : decode cX12_plain 120 = .ok (.invokevirtual 214, 3) := by decide +kernel
theorem mw_463 : Cond.code yX12_adds cX12_adds 4 (some .boolean) ∈ wsL_law := lrk_20 _ (List.mem_of_getElem? (i := 7) rfl)
theorem mw_460 : Cond.methodLink RX12 214 yX12_adds ∈ wsL_law := lrk_20 _ (List.mem_of_getElem? (i := 4) rfl)
theorem mw_461 : Cond.instanceMethod yX12_adds ∈ wsL_law := lrk_20 _ (List.mem_of_getElem? (i := 5) rfl)
theorem mw_462 : Cond.selects RX12 yX12_adds yX12_adds ∈ wsL_law := lrk_20 _ (List.mem_of_getElem? (i := 6) rfl)
theorem gV_X12_214 : GoodIn wsL_law (wsV RX12 214 RX12 yX12_adds (wl yX12_adds cX12_adds 4 (some .boolean))) := g_V mw_460 mw_461 mw_462 mw_5 mw_463
theorem hdV_X12_adds : yX12_adds.cls = RX12 ∧ okD yX12_adds 2 := by decide +kernel
theorem dX12_plain_123 : decode cX12_plain 123 = .ok (.ifCond .ne 14, 3) := by decide +kernel
theorem dX12_plain_137 : decode cX12_plain 137 = .ok (.aload_n 0, 1) := by decide +kernel
theorem dX12_plain_138 : decode cX12_plain 138 = .ok (.dup, 1) := by decide +kernel
theorem dX12_plain_139 : decode cX12_plain 139 = .ok (.getfield 195, 3) := by decide +kernel
theorem dX12_plain_142 : decode cX12_plain 142 = .ok (.iconst 1, 1) := by decide +kernel
theorem dX12_plain_143 : decode cX12_plain 143 = .ok (.iadd, 1) := by decide +kernel
theorem dX12_plain_144 : decode cX12_plain 144 = .ok (.putfield 195, 3) := by decide +kernel
theorem dX12_plain_147 : decode cX12_plain 147 = .ok (.goto (-145), 3) := by decide +kernel
theorem dX12_plain_126 : decode cX12_plain 126 = .ok (.aload_n 0, 1) := by decide +kernel
theorem dX12_plain_127 : decode cX12_plain 127 = .ok (.iconst 5, 1) := by decide +kernel
theorem dX12_plain_128 : decode cX12_plain 128 = .ok (.aload_n 0, 1) := by decide +kernel
theorem dX12_plain_129 : decode cX12_plain 129 = .ok (.getfield 195, 3) := by decide +kernel
theorem dX12_plain_132 : decode cX12_plain 132 = .ok (.iload_n 1, 1) := by decide +kernel
theorem dX12_plain_133 : decode cX12_plain 133 = .ok (.invokevirtual 210, 3) := by decide +kernel
theorem mw_441 : Cond.code yX12_wrong cX12_wrong 4 (some .boolean) ∈ wsL_law := lrk_19 _ (List.mem_of_getElem? (i := 9) rfl)
theorem mw_438 : Cond.methodLink RX12 210 yX12_wrong ∈ wsL_law := lrk_19 _ (List.mem_of_getElem? (i := 6) rfl)
theorem mw_439 : Cond.instanceMethod yX12_wrong ∈ wsL_law := lrk_19 _ (List.mem_of_getElem? (i := 7) rfl)
theorem mw_440 : Cond.selects RX12 yX12_wrong yX12_wrong ∈ wsL_law := lrk_19 _ (List.mem_of_getElem? (i := 8) rfl)
theorem gV_X12_210 : GoodIn wsL_law (wsV RX12 210 RX12 yX12_wrong (wl yX12_wrong cX12_wrong 4 (some .boolean))) := g_V mw_438 mw_439 mw_440 mw_5 mw_441
theorem hdV_X12_wrong : yX12_wrong.cls = RX12 ∧ okD yX12_wrong 3 := by decide +kernel
theorem dX12_plain_136 : decode cX12_plain 136 = .ok (.ireturn, 1) := by decide +kernel
theorem dX12_plain_90 : decode cX12_plain 90 = .ok (.aload_n 0, 1) := by decide +kernel
theorem dX12_plain_91 : decode cX12_plain 91 = .ok (.iload_n 1, 1) := by decide +kernel
theorem dX12_plain_92 : decode cX12_plain 92 = .ok (.bipush 32, 2) := by decide +kernel
theorem dX12_plain_94 : decode cX12_plain 94 = .ok (.invokevirtual 214, 3) := by decide +kernel
theorem dX12_plain_97 : decode cX12_plain 97 = .ok (.ifCond .ne 14, 3) := by decide +kernel
theorem dX12_plain_111 : decode cX12_plain 111 = .ok (.iinc 2 (-1), 3) := by decide +kernel
theorem dX12_plain_114 : decode cX12_plain 114 = .ok (.goto (-28), 3) := by decide +kernel
theorem dX12_plain_100 : decode cX12_plain 100 = .ok (.aload_n 0, 1) := by decide +kernel
theorem dX12_plain_101 : decode cX12_plain 101 = .ok (.iconst 5, 1) := by decide +kernel
theorem dX12_plain_102 : decode cX12_plain 102 = .ok (.aload_n 0, 1) := by decide +kernel
theorem dX12_plain_103 : decode cX12_plain 103 = .ok (.getfield 195, 3) := by decide +kernel
theorem dX12_plain_106 : decode cX12_plain 106 = .ok (.iload_n 1, 1) := by decide +kernel
theorem dX12_plain_107 : decode cX12_plain 107 = .ok (.invokevirtual 210, 3) := by decide +kernel
theorem dX12_plain_110 : decode cX12_plain 110 = .ok (.ireturn, 1) := by decide +kernel
theorem dX12_plain_74 : decode cX12_plain 74 = .ok (.iload_n 3, 1) := by decide +kernel
theorem dX12_plain_75 : decode cX12_plain 75 = .ok (.bipush 32, 2) := by decide +kernel
theorem dX12_plain_77 : decode cX12_plain 77 = .ok (.if_icmp .ne 9, 3) := by decide +kernel
theorem dX12_plain_80 : decode cX12_plain 80 = .ok (.iinc 2 1, 3) := by decide +kernel
theorem dX12_plain_83 : decode cX12_plain 83 = .ok (.goto 54, 3) := by decide +kernel
theorem dX12_plain_51 : decode cX12_plain 51 = .ok (.aload_n 0, 1) := by decide +kernel
theorem dX12_plain_52 : decode cX12_plain 52 = .ok (.iconst 2, 1) := by decide +kernel
theorem dX12_plain_53 : decode cX12_plain 53 = .ok (.aload_n 0, 1) := by decide +kernel
theorem dX12_plain_54 : decode cX12_plain 54 = .ok (.getfield 195, 3) := by decide +kernel
theorem dX12_plain_57 : decode cX12_plain 57 = .ok (.iload_n 1, 1) := by decide +kernel
theorem dX12_plain_58 : decode cX12_plain 58 = .ok (.invokevirtual 210, 3) := by decide +kernel
theorem dX12_plain_61 : decode cX12_plain 61 = .ok (.ireturn, 1) := by decide +kernel
theorem dX12_plain_28 : decode cX12_plain 28 = .ok (.aload_n 0, 1) := by decide +kernel
theorem dX12_plain_29 : decode cX12_plain 29 = .ok (.iconst 1, 1) := by decide +kernel
theorem dX12_plain_30 : decode cX12_plain 30 = .ok (.aload_n 0, 1) := by decide +kernel
theorem dX12_plain_31 : decode cX12_plain 31 = .ok (.getfield 195, 3) := by decide +kernel
theorem dX12_plain_34 : decode cX12_plain 34 = .ok (.iload_n 1, 1) := by decide +kernel
theorem dX12_plain_35 : decode cX12_plain 35 = .ok (.invokevirtual 210, 3) := by decide +kernel
theorem dX12_plain_38 : decode cX12_plain 38 = .ok (.ireturn, 1) := by decide +kernel
theorem dX12_quoted_0 : decode cX12_quoted 0 = .ok (.aload_n 0, 1) := by decide +kernel
theorem dX12_quoted_1 : decode cX12_quoted 1 = .ok (.dup, 1) := by decide +kernel
theorem dX12_quoted_2 : decode cX12_quoted 2 = .ok (.getfield 195, 3) := by decide +kernel
theorem dX12_quoted_5 : decode cX12_quoted 5 = .ok (.iconst 1, 1) := by decide +kernel
theorem dX12_quoted_6 : decode cX12_quoted 6 = .ok (.iadd, 1) := by decide +kernel
theorem dX12_quoted_7 : decode cX12_quoted 7 = .ok (.putfield 195, 3) := by decide +kernel
theorem dX12_quoted_10 : decode cX12_quoted 10 = .ok (.aload_n 0, 1) := by decide +kernel
theorem dX12_quoted_11 : decode cX12_quoted 11 = .ok (.getfield 195, 3) := by decide +kernel
theorem dX12_quoted_14 : decode cX12_quoted 14 = .ok (.aload_n 0, 1) := by decide +kernel
theorem dX12_quoted_15 : decode cX12_quoted 15 = .ok (.getfield 83, 3) := by decide +kernel
theorem dX12_quoted_18 : decode cX12_quoted 18 = .ok (.if_icmp .ge 126, 3) := by decide +kernel
theorem dX12_quoted_144 : decode cX12_quoted 144 = .ok (.aload_n 0, 1) := by decide +kernel
theorem dX12_quoted_145 : decode cX12_quoted 145 = .ok (.getfield 195, 3) := by decide +kernel
theorem dX12_quoted_148 : decode cX12_quoted 148 = .ok (.aload_n 0, 1) := by decide +kernel
theorem dX12_quoted_149 : decode cX12_quoted 149 = .ok (.getfield 83, 3) := by decide +kernel
theorem dX12_quoted_152 : decode cX12_quoted 152 = .ok (.if_icmp .ne 14, 3) := by decide +kernel
theorem dX12_quoted_166 : decode cX12_quoted 166 = .ok (.aload_n 0, 1) := by decide +kernel
theorem dX12_quoted_167 : decode cX12_quoted 167 = .ok (.dup, 1) := by decide +kernel
theorem dX12_quoted_168 : decode cX12_quoted 168 = .ok (.getfield 195, 3) := by decide +kernel
theorem dX12_quoted_171 : decode cX12_quoted 171 = .ok (.iconst 1, 1) := by decide +kernel
theorem dX12_quoted_172 : decode cX12_quoted 172 = .ok (.iadd, 1) := by decide +kernel
theorem dX12_quoted_173 : decode cX12_quoted 173 = .ok (.putfield 195, 3) := by decide +kernel
theorem dX12_quoted_176 : decode cX12_quoted 176 = .ok (.aload_n 0, 1) := by decide +kernel
theorem dX12_quoted_177 : decode cX12_quoted 177 = .ok (.invokevirtual 217, 3) := by decide +kernel
theorem mw_455 : Cond.code yX12_blanks cX12_blanks 1 none ∈ wsL_law := lrk_19 _ (List.mem_of_getElem? (i := 23) rfl)
theorem mw_452 : Cond.methodLink RX12 217 yX12_blanks ∈ wsL_law := lrk_19 _ (List.mem_of_getElem? (i := 20) rfl)
theorem mw_453 : Cond.instanceMethod yX12_blanks ∈ wsL_law := lrk_19 _ (List.mem_of_getElem? (i := 21) rfl)
theorem mw_454 : Cond.selects RX12 yX12_blanks yX12_blanks ∈ wsL_law := lrk_19 _ (List.mem_of_getElem? (i := 22) rfl)
theorem gV_X12_217 : GoodIn wsL_law (wsV RX12 217 RX12 yX12_blanks (wl yX12_blanks cX12_blanks 1 none)) := g_V mw_452 mw_453 mw_454 mw_5 mw_455
theorem hdV_X12_blanks : yX12_blanks.cls = RX12 ∧ okD yX12_blanks 0 := by decide +kernel
theorem dX12_quoted_180 : decode cX12_quoted 180 = .ok (.aload_n 0, 1) := by decide +kernel
theorem dX12_quoted_181 : decode cX12_quoted 181 = .ok (.invokevirtual 220, 3) := by decide +kernel
theorem dX12_quoted_184 : decode cX12_quoted 184 = .ok (.ifCond .eq 5, 3) := by decide +kernel
theorem dX12_quoted_187 : decode cX12_quoted 187 = .ok (.iconst 1, 1) := by decide +kernel
theorem dX12_quoted_188 : decode cX12_quoted 188 = .ok (.ireturn, 1) := by decide +kernel
theorem dX12_quoted_189 : decode cX12_quoted 189 = .ok (.aload_n 0, 1) := by decide +kernel
theorem dX12_quoted_190 : decode cX12_quoted 190 = .ok (.aload_n 0, 1) := by decide +kernel
theorem dX12_quoted_191 : decode cX12_quoted 191 = .ok (.aload_n 0, 1) := by decide +kernel
theorem dX12_quoted_192 : decode cX12_quoted 192 = .ok (.getfield 20, 3) := by decide +kernel
theorem dX12_quoted_195 : decode cX12_quoted 195 = .ok (.aload_n 0, 1) := by decide +kernel
theorem dX12_quoted_196 : decode cX12_quoted 196 = .ok (.getfield 195, 3) := by decide +kernel
theorem dX12_quoted_199 : decode cX12_quoted 199 = .ok (.iaload, 1) := by decide +kernel
theorem dX12_quoted_200 : decode cX12_quoted 200 = .ok (.iconst 0, 1) := by decide +kernel
theorem dX12_quoted_201 : decode cX12_quoted 201 = .ok (.invokevirtual 206, 3) := by decide +kernel
theorem dX12_quoted_204 : decode cX12_quoted 204 = .ok (.ifCond .eq 7, 3) := by decide +kernel
theorem dX12_quoted_207 : decode cX12_quoted 207 = .ok (.iconst 3, 1) := by decide +kernel
theorem dX12_quoted_208 : decode cX12_quoted 208 = .ok (.goto 4, 3) := by decide +kernel
theorem dX12_quoted_212 : decode cX12_quoted 212 = .ok (.aload_n 0, 1) := by decide +kernel
theorem dX12_quoted_213 : decode cX12_quoted 213 = .ok (.getfield 195, 3) := by decide +kernel
theorem dX12_quoted_216 : decode cX12_quoted 216 = .ok (.iload_n 1, 1) := by decide +kernel
theorem dX12_quoted_217 : decode cX12_quoted 217 = .ok (.invokevirtual 210, 3) := by decide +kernel
theorem dX12_quoted_220 : decode cX12_quoted 220 = .ok (.ireturn, 1) := by decide +kernel
theorem dX12_quoted_211 : decode cX12_quoted 211 = .ok (.iconst 1, 1) := by decide +kernel
theorem dX12_quoted_155 : decode cX12_quoted 155 = .ok (.aload_n 0, 1) := by decide +kernel
theorem dX12_quoted_156 : decode cX12_quoted 156 = .ok (.iconst 4, 1) := by decide +kernel
theorem dX12_quoted_157 : decode cX12_quoted 157 = .ok (.aload_n 0, 1) := by decide +kernel
theorem dX12_quoted_158 : decode cX12_quoted 158 = .ok (.getfield 195, 3) := by decide +kernel
theorem dX12_quoted_161 : decode cX12_quoted 161 = .ok (.iload_n 1, 1) := by decide +kernel
theorem dX12_quoted_162 : decode cX12_quoted 162 = .ok (.invokevirtual 210, 3) := by decide +kernel
theorem dX12_quoted_165 : decode cX12_quoted 165 = .ok (.ireturn, 1) := by decide +kernel
theorem dX12_quoted_21 : decode cX12_quoted 21 = .ok (.aload_n 0, 1) := by decide +kernel
theorem dX12_quoted_22 : decode cX12_quoted 22 = .ok (.getfield 20, 3) := by decide +kernel
theorem dX12_quoted_25 : decode cX12_quoted 25 = .ok (.aload_n 0, 1) := by decide +kernel
theorem dX12_quoted_26 : decode cX12_quoted 26 = .ok (.getfield 195, 3) := by decide +kernel
theorem dX12_quoted_29 : decode cX12_quoted 29 = .ok (.iaload, 1) := by decide +kernel
theorem dX12_quoted_30 : decode cX12_quoted 30 = .ok (.istore_n 2, 1) := by decide +kernel
theorem dX12_quoted_31 : decode cX12_quoted 31 = .ok (.iload_n 2, 1) := by decide +kernel
theorem dX12_quoted_32 : decode cX12_quoted 32 = .ok (.aload_n 0, 1) := by decide +kernel
theorem dX12_quoted_33 : decode cX12_quoted 33 = .ok (.getfield 9, 3) := by decide +kernel
theorem dX12_quoted_36 : decode cX12_quoted 36 = .ok (.sipush 21370, 3) := by decide +kernel
theorem dX12_quoted_39 : decode cX12_quoted 39 = .ok (.iaload, 1) := by decide +kernel
theorem dX12_quoted_40 : decode cX12_quoted 40 = .ok (.if_icmp .ne 51, 3) := by decide +kernel
theorem dX12_quoted_91 : decode cX12_quoted 91 = .ok (.aload_n 0, 1) := by decide +kernel
theorem dX12_quoted_92 : decode cX12_quoted 92 = .ok (.iload_n 2, 1) := by decide +kernel
theorem dX12_quoted_93 : decode cX12_quoted 93 = .ok (.iconst 1, 1) := by decide +kernel
theorem dX12_quoted_94 : decode cX12_quoted 94 = .ok (.invokevirtual 206, 3) := by decide +kernel
theorem dX12_quoted_97 : decode cX12_quoted 97 = .ok (.ifCond .ne 14, 3) := by decide +kernel
theorem dX12_quoted_111 : decode cX12_quoted 111 = .ok (.aload_n 0, 1) := by decide +kernel
theorem dX12_quoted_112 : decode cX12_quoted 112 = .ok (.iload_n 1, 1) := by decide +kernel
theorem dX12_quoted_113 : decode cX12_quoted 113 = .ok (.iload_n 2, 1) := by decide +kernel
theorem dX12_quoted_114 : decode cX12_quoted 114 = .ok (.invokevirtual 214, 3) := by decide +kernel
theorem dX12_quoted_117 : decode cX12_quoted 117 = .ok (.ifCond .ne 14, 3) := by decide +kernel
theorem dX12_quoted_131 : decode cX12_quoted 131 = .ok (.aload_n 0, 1) := by decide +kernel
theorem dX12_quoted_132 : decode cX12_quoted 132 = .ok (.dup, 1) := by decide +kernel
theorem dX12_quoted_133 : decode cX12_quoted 133 = .ok (.getfield 195, 3) := by decide +kernel
theorem dX12_quoted_136 : decode cX12_quoted 136 = .ok (.iconst 1, 1) := by decide +kernel
theorem dX12_quoted_137 : decode cX12_quoted 137 = .ok (.iadd, 1) := by decide +kernel
theorem dX12_quoted_138 : decode cX12_quoted 138 = .ok (.putfield 195, 3) := by decide +kernel
theorem dX12_quoted_141 : decode cX12_quoted 141 = .ok (.goto (-131), 3) := by decide +kernel
theorem dX12_quoted_120 : decode cX12_quoted 120 = .ok (.aload_n 0, 1) := by decide +kernel
theorem dX12_quoted_121 : decode cX12_quoted 121 = .ok (.iconst 5, 1) := by decide +kernel
theorem dX12_quoted_122 : decode cX12_quoted 122 = .ok (.aload_n 0, 1) := by decide +kernel
theorem dX12_quoted_123 : decode cX12_quoted 123 = .ok (.getfield 195, 3) := by decide +kernel
theorem dX12_quoted_126 : decode cX12_quoted 126 = .ok (.iload_n 1, 1) := by decide +kernel
theorem dX12_quoted_127 : decode cX12_quoted 127 = .ok (.invokevirtual 210, 3) := by decide +kernel
theorem dX12_quoted_130 : decode cX12_quoted 130 = .ok (.ireturn, 1) := by decide +kernel
theorem dX12_quoted_100 : decode cX12_quoted 100 = .ok (.aload_n 0, 1) := by decide +kernel
theorem dX12_quoted_101 : decode cX12_quoted 101 = .ok (.iconst 1, 1) := by decide +kernel
theorem dX12_quoted_102 : decode cX12_quoted 102 = .ok (.aload_n 0, 1) := by decide +kernel
theorem dX12_quoted_103 : decode cX12_quoted 103 = .ok (.getfield 195, 3) := by decide +kernel
theorem dX12_quoted_106 : decode cX12_quoted 106 = .ok (.iload_n 1, 1) := by decide +kernel
theorem dX12_quoted_107 : decode cX12_quoted 107 = .ok (.invokevirtual 210, 3) := by decide +kernel
theorem dX12_quoted_110 : decode cX12_quoted 110 = .ok (.ireturn, 1) := by decide +kernel
theorem dX12_quoted_43 : decode cX12_quoted 43 = .ok (.aload_n 0, 1) := by decide +kernel
theorem dX12_quoted_44 : decode cX12_quoted 44 = .ok (.getfield 195, 3) := by decide +kernel
theorem dX12_quoted_47 : decode cX12_quoted 47 = .ok (.iconst 1, 1) := by decide +kernel
theorem dX12_quoted_48 : decode cX12_quoted 48 = .ok (.iadd, 1) := by decide +kernel
theorem dX12_quoted_49 : decode cX12_quoted 49 = .ok (.aload_n 0, 1) := by decide +kernel
theorem dX12_quoted_50 : decode cX12_quoted 50 = .ok (.getfield 83, 3) := by decide +kernel
theorem dX12_quoted_53 : decode cX12_quoted 53 = .ok (.if_icmp .eq 91, 3) := by decide +kernel
theorem dX12_quoted_56 : decode cX12_quoted 56 = .ok (.aload_n 0, 1) := by decide +kernel
theorem dX12_quoted_57 : decode cX12_quoted 57 = .ok (.getfield 20, 3) := by decide +kernel
theorem dX12_quoted_60 : decode cX12_quoted 60 = .ok (.aload_n 0, 1) := by decide +kernel
theorem dX12_quoted_61 : decode cX12_quoted 61 = .ok (.getfield 195, 3) := by decide +kernel
theorem dX12_quoted_64 : decode cX12_quoted 64 = .ok (.iconst 1, 1) := by decide +kernel
theorem dX12_quoted_65 : decode cX12_quoted 65 = .ok (.iadd, 1) := by decide +kernel
theorem dX12_quoted_66 : decode cX12_quoted 66 = .ok (.iaload, 1) := by decide +kernel
theorem dX12_quoted_67 : decode cX12_quoted 67 = .ok (.aload_n 0, 1) := by decide +kernel
theorem dX12_quoted_68 : decode cX12_quoted 68 = .ok (.getfield 9, 3) := by decide +kernel
theorem dX12_quoted_71 : decode cX12_quoted 71 = .ok (.sipush 21370, 3) := by decide +kernel
theorem dX12_quoted_74 : decode cX12_quoted 74 = .ok (.iaload, 1) := by decide +kernel
theorem dX12_quoted_75 : decode cX12_quoted 75 = .ok (.if_icmp .eq 6, 3) := by decide +kernel
theorem dX12_quoted_81 : decode cX12_quoted 81 = .ok (.aload_n 0, 1) := by decide +kernel
theorem dX12_quoted_82 : decode cX12_quoted 82 = .ok (.dup, 1) := by decide +kernel
theorem dX12_quoted_83 : decode cX12_quoted 83 = .ok (.getfield 195, 3) := by decide +kernel
theorem dX12_quoted_86 : decode cX12_quoted 86 = .ok (.iconst 1, 1) := by decide +kernel
theorem dX12_quoted_87 : decode cX12_quoted 87 = .ok (.iadd, 1) := by decide +kernel
theorem dX12_quoted_88 : decode cX12_quoted 88 = .ok (.putfield 195, 3) := by decide +kernel
theorem dX12_quoted_78 : decode cX12_quoted 78 = .ok (.goto 66, 3) := by decide +kernel
theorem dX12_reads_0 : decode cX12_reads 0 = .ok (.aload_n 0, 1) := by decide +kernel
theorem dX12_reads_1 : decode cX12_reads 1 = .ok (.getfield 33, 3) := by decide +kernel
theorem mw_195 : Cond.fieldLink RX12 33 "TypedTablesModel" "fieldAt" "[I" ∈ wsL_law := lrk_9 _ (List.mem_of_getElem? (i := 3) rfl)
theorem dX12_reads_4 : decode cX12_reads 4 = .ok (.iload_n 1, 1) := by decide +kernel
theorem dX12_reads_5 : decode cX12_reads 5 = .ok (.aload_n 0, 1) := by decide +kernel
theorem dX12_reads_6 : decode cX12_reads 6 = .ok (.getfield 195, 3) := by decide +kernel
theorem dX12_reads_9 : decode cX12_reads 9 = .ok (.iastore, 1) := by decide +kernel
theorem dX12_reads_10 : decode cX12_reads 10 = .ok (.aload_n 0, 1) := by decide +kernel
theorem dX12_reads_11 : decode cX12_reads 11 = .ok (.getfield 30, 3) := by decide +kernel
theorem dX12_reads_14 : decode cX12_reads 14 = .ok (.bipush 21, 2) := by decide +kernel
theorem dX12_reads_16 : decode cX12_reads 16 = .ok (.iload_n 1, 1) := by decide +kernel
theorem dX12_reads_17 : decode cX12_reads 17 = .ok (.imul, 1) := by decide +kernel
theorem dX12_reads_18 : decode cX12_reads 18 = .ok (.iconst 0, 1) := by decide +kernel
theorem dX12_reads_19 : decode cX12_reads 19 = .ok (.iastore, 1) := by decide +kernel
theorem dX12_reads_20 : decode cX12_reads 20 = .ok (.aload_n 0, 1) := by decide +kernel
theorem dX12_reads_21 : decode cX12_reads 21 = .ok (.invokevirtual 217, 3) := by decide +kernel
theorem dX12_reads_24 : decode cX12_reads 24 = .ok (.aload_n 0, 1) := by decide +kernel
theorem dX12_reads_25 : decode cX12_reads 25 = .ok (.getfield 195, 3) := by decide +kernel
theorem dX12_reads_28 : decode cX12_reads 28 = .ok (.aload_n 0, 1) := by decide +kernel
theorem dX12_reads_29 : decode cX12_reads 29 = .ok (.getfield 83, 3) := by decide +kernel
theorem dX12_reads_32 : decode cX12_reads 32 = .ok (.if_icmp .ge 31, 3) := by decide +kernel
theorem dX12_reads_63 : decode cX12_reads 63 = .ok (.aload_n 0, 1) := by decide +kernel
theorem dX12_reads_64 : decode cX12_reads 64 = .ok (.iload_n 1, 1) := by decide +kernel
theorem dX12_reads_65 : decode cX12_reads 65 = .ok (.invokevirtual 226, 3) := by decide +kernel
theorem mw_475 : Cond.code yX12_plain cX12_plain 4 (some .boolean) ∈ wsL_law := lrk_20 _ (List.mem_of_getElem? (i := 19) rfl)
theorem mw_472 : Cond.methodLink RX12 226 yX12_plain ∈ wsL_law := lrk_20 _ (List.mem_of_getElem? (i := 16) rfl)
theorem mw_473 : Cond.instanceMethod yX12_plain ∈ wsL_law := lrk_20 _ (List.mem_of_getElem? (i := 17) rfl)
theorem mw_474 : Cond.selects RX12 yX12_plain yX12_plain ∈ wsL_law := lrk_20 _ (List.mem_of_getElem? (i := 18) rfl)
theorem gV_X12_226 : GoodIn wsL_law (wsV RX12 226 RX12 yX12_plain (wl yX12_plain cX12_plain 4 (some .boolean))) := g_V mw_472 mw_473 mw_474 mw_5 mw_475
theorem hdV_X12_plain : yX12_plain.cls = RX12 ∧ okD yX12_plain 1 := by decide +kernel
theorem dX12_reads_68 : decode cX12_reads 68 = .ok (.ireturn, 1) := by decide +kernel
theorem dX12_reads_35 : decode cX12_reads 35 = .ok (.aload_n 0, 1) := by decide +kernel
theorem dX12_reads_36 : decode cX12_reads 36 = .ok (.getfield 20, 3) := by decide +kernel
theorem dX12_reads_39 : decode cX12_reads 39 = .ok (.aload_n 0, 1) := by decide +kernel
theorem dX12_reads_40 : decode cX12_reads 40 = .ok (.getfield 195, 3) := by decide +kernel
theorem dX12_reads_43 : decode cX12_reads 43 = .ok (.iaload, 1) := by decide +kernel
theorem dX12_reads_44 : decode cX12_reads 44 = .ok (.aload_n 0, 1) := by decide +kernel
theorem dX12_reads_45 : decode cX12_reads 45 = .ok (.getfield 9, 3) := by decide +kernel
theorem dX12_reads_48 : decode cX12_reads 48 = .ok (.sipush 21370, 3) := by decide +kernel
theorem dX12_reads_51 : decode cX12_reads 51 = .ok (.iaload, 1) := by decide +kernel
theorem dX12_reads_52 : decode cX12_reads 52 = .ok (.if_icmp .ne 11, 3) := by decide +kernel
theorem dX12_reads_55 : decode cX12_reads 55 = .ok (.aload_n 0, 1) := by decide +kernel
theorem dX12_reads_56 : decode cX12_reads 56 = .ok (.iload_n 1, 1) := by decide +kernel
theorem dX12_reads_57 : decode cX12_reads 57 = .ok (.invokevirtual 223, 3) := by decide +kernel
theorem mw_459 : Cond.code yX12_quoted cX12_quoted 3 (some .boolean) ∈ wsL_law := lrk_20 _ (List.mem_of_getElem? (i := 3) rfl)
theorem mw_456 : Cond.methodLink RX12 223 yX12_quoted ∈ wsL_law := lrk_20 _ (List.mem_of_getElem? (i := 0) rfl)
theorem mw_457 : Cond.instanceMethod yX12_quoted ∈ wsL_law := lrk_20 _ (List.mem_of_getElem? (i := 1) rfl)
theorem mw_458 : Cond.selects RX12 yX12_quoted yX12_quoted ∈ wsL_law := lrk_20 _ (List.mem_of_getElem? (i := 2) rfl)
theorem gV_X12_223 : GoodIn wsL_law (wsV RX12 223 RX12 yX12_quoted (wl yX12_quoted cX12_quoted 3 (some .boolean))) := g_V mw_456 mw_457 mw_458 mw_5 mw_459
theorem hdV_X12_quoted : yX12_quoted.cls = RX12 ∧ okD yX12_quoted 1 := by decide +kernel
theorem dX12_reads_60 : decode cX12_reads 60 = .ok (.goto 8, 3) := by decide +kernel
theorem dX12_passes_0 : decode cX12_passes 0 = .ok (.aload_n 0, 1) := by decide +kernel
theorem dX12_passes_1 : decode cX12_passes 1 = .ok (.getfield 195, 3) := by decide +kernel
theorem dX12_passes_4 : decode cX12_passes 4 = .ok (.aload_n 0, 1) := by decide +kernel
theorem dX12_passes_5 : decode cX12_passes 5 = .ok (.getfield 83, 3) := by decide +kernel
theorem dX12_passes_8 : decode cX12_passes 8 = .ok (.if_icmp .ge 122, 3) := by decide +kernel
theorem dX12_passes_130 : decode cX12_passes 130 = .ok (.iconst 0, 1) := by decide +kernel
theorem dX12_passes_131 : decode cX12_passes 131 = .ok (.ireturn, 1) := by decide +kernel
theorem dX12_passes_11 : decode cX12_passes 11 = .ok (.aload_n 0, 1) := by decide +kernel
theorem dX12_passes_12 : decode cX12_passes 12 = .ok (.getfield 20, 3) := by decide +kernel
theorem dX12_passes_15 : decode cX12_passes 15 = .ok (.aload_n 0, 1) := by decide +kernel
theorem dX12_passes_16 : decode cX12_passes 16 = .ok (.getfield 195, 3) := by decide +kernel
theorem dX12_passes_19 : decode cX12_passes 19 = .ok (.iaload, 1) := by decide +kernel
theorem dX12_passes_20 : decode cX12_passes 20 = .ok (.bipush 10, 2) := by decide +kernel
theorem dX12_passes_22 : decode cX12_passes 22 = .ok (.if_icmp .eq 34, 3) := by decide +kernel
theorem dX12_passes_56 : decode cX12_passes 56 = .ok (.iconst 1, 1) := by decide +kernel
theorem dX12_passes_57 : decode cX12_passes 57 = .ok (.goto 4, 3) := by decide +kernel
theorem dX12_passes_61 : decode cX12_passes 61 = .ok (.istore_n 1, 1) := by decide +kernel
theorem dX12_passes_62 : decode cX12_passes 62 = .ok (.iload_n 1, 1) := by decide +kernel
theorem dX12_passes_63 : decode cX12_passes 63 = .ok (.ifCond .ne 5, 3) := by decide +kernel
theorem dX12_passes_68 : decode cX12_passes 68 = .ok (.aload_n 0, 1) := by decide +kernel
theorem dX12_passes_69 : decode cX12_passes 69 = .ok (.getfield 195, 3) := by decide +kernel
theorem dX12_passes_72 : decode cX12_passes 72 = .ok (.aload_n 0, 1) := by decide +kernel
theorem dX12_passes_73 : decode cX12_passes 73 = .ok (.getfield 83, 3) := by decide +kernel
theorem dX12_passes_76 : decode cX12_passes 76 = .ok (.if_icmp .ge 30, 3) := by decide +kernel
theorem dX12_passes_106 : decode cX12_passes 106 = .ok (.aload_n 0, 1) := by decide +kernel
theorem dX12_passes_107 : decode cX12_passes 107 = .ok (.getfield 195, 3) := by decide +kernel
theorem dX12_passes_110 : decode cX12_passes 110 = .ok (.aload_n 0, 1) := by decide +kernel
theorem dX12_passes_111 : decode cX12_passes 111 = .ok (.getfield 83, 3) := by decide +kernel
theorem dX12_passes_114 : decode cX12_passes 114 = .ok (.if_icmp .ge 13, 3) := by decide +kernel
theorem dX12_passes_127 : decode cX12_passes 127 = .ok (.goto (-127), 3) := by decide +kernel
theorem dX12_passes_79 : decode cX12_passes 79 = .ok (.aload_n 0, 1) := by decide +kernel
theorem dX12_passes_80 : decode cX12_passes 80 = .ok (.getfield 20, 3) := by decide +kernel
theorem dX12_passes_83 : decode cX12_passes 83 = .ok (.aload_n 0, 1) := by decide +kernel
theorem dX12_passes_84 : decode cX12_passes 84 = .ok (.getfield 195, 3) := by decide +kernel
theorem dX12_passes_87 : decode cX12_passes 87 = .ok (.iaload, 1) := by decide +kernel
theorem dX12_passes_88 : decode cX12_passes 88 = .ok (.bipush 10, 2) := by decide +kernel
theorem dX12_passes_90 : decode cX12_passes 90 = .ok (.if_icmp .eq 16, 3) := by decide +kernel
theorem dX12_passes_117 : decode cX12_passes 117 = .ok (.aload_n 0, 1) := by decide +kernel
theorem dX12_passes_118 : decode cX12_passes 118 = .ok (.dup, 1) := by decide +kernel
theorem dX12_passes_119 : decode cX12_passes 119 = .ok (.getfield 195, 3) := by decide +kernel
theorem dX12_passes_122 : decode cX12_passes 122 = .ok (.iconst 1, 1) := by decide +kernel
theorem dX12_passes_123 : decode cX12_passes 123 = .ok (.iadd, 1) := by decide +kernel
theorem dX12_passes_124 : decode cX12_passes 124 = .ok (.putfield 195, 3) := by decide +kernel
theorem dX12_passes_93 : decode cX12_passes 93 = .ok (.aload_n 0, 1) := by decide +kernel
theorem dX12_passes_94 : decode cX12_passes 94 = .ok (.dup, 1) := by decide +kernel
theorem dX12_passes_95 : decode cX12_passes 95 = .ok (.getfield 195, 3) := by decide +kernel
theorem dX12_passes_98 : decode cX12_passes 98 = .ok (.iconst 1, 1) := by decide +kernel
theorem dX12_passes_99 : decode cX12_passes 99 = .ok (.iadd, 1) := by decide +kernel
theorem dX12_passes_100 : decode cX12_passes 100 = .ok (.putfield 195, 3) := by decide +kernel
theorem dX12_passes_103 : decode cX12_passes 103 = .ok (.goto (-35), 3) := by decide +kernel
theorem dX12_passes_25 : decode cX12_passes 25 = .ok (.aload_n 0, 1) := by decide +kernel
theorem dX12_passes_26 : decode cX12_passes 26 = .ok (.getfield 9, 3) := by decide +kernel
theorem dX12_passes_29 : decode cX12_passes 29 = .ok (.sipush 21374, 3) := by decide +kernel
theorem dX12_passes_32 : decode cX12_passes 32 = .ok (.iaload, 1) := by decide +kernel
theorem dX12_passes_33 : decode cX12_passes 33 = .ok (.ifCond .eq 27, 3) := by decide +kernel
theorem dX12_passes_60 : decode cX12_passes 60 = .ok (.iconst 0, 1) := by decide +kernel
theorem dX12_passes_66 : decode cX12_passes 66 = .ok (.iconst 1, 1) := by decide +kernel
theorem dX12_passes_67 : decode cX12_passes 67 = .ok (.ireturn, 1) := by decide +kernel
theorem dX12_passes_36 : decode cX12_passes 36 = .ok (.aload_n 0, 1) := by decide +kernel
theorem dX12_passes_37 : decode cX12_passes 37 = .ok (.getfield 20, 3) := by decide +kernel
theorem dX12_passes_40 : decode cX12_passes 40 = .ok (.aload_n 0, 1) := by decide +kernel
theorem dX12_passes_41 : decode cX12_passes 41 = .ok (.getfield 195, 3) := by decide +kernel
theorem dX12_passes_44 : decode cX12_passes 44 = .ok (.iaload, 1) := by decide +kernel
theorem dX12_passes_45 : decode cX12_passes 45 = .ok (.aload_n 0, 1) := by decide +kernel
theorem dX12_passes_46 : decode cX12_passes 46 = .ok (.getfield 9, 3) := by decide +kernel
theorem dX12_passes_49 : decode cX12_passes 49 = .ok (.sipush 21374, 3) := by decide +kernel
theorem dX12_passes_52 : decode cX12_passes 52 = .ok (.iaload, 1) := by decide +kernel
theorem dX12_passes_53 : decode cX12_passes 53 = .ok (.if_icmp .ne 7, 3) := by decide +kernel
theorem dX12_readsLine_0 : decode cX12_readsLine 0 = .ok (.aload_n 0, 1) := by decide +kernel
theorem dX12_readsLine_1 : decode cX12_readsLine 1 = .ok (.iconst 0, 1) := by decide +kernel
theorem dX12_readsLine_2 : decode cX12_readsLine 2 = .ok (.putfield 229, 3) := by decide +kernel
theorem mw_446 : Cond.fieldLink RX12 229 "TypedTablesModel" "fields" "I" ∈ wsL_law := lrk_19 _ (List.mem_of_getElem? (i := 14) rfl)
theorem dX12_readsLine_5 : decode cX12_readsLine 5 = .ok (.aload_n 0, 1) := by decide +kernel
theorem dX12_readsLine_6 : decode cX12_readsLine 6 = .ok (.aload_n 0, 1) := by decide +kernel
theorem dX12_readsLine_7 : decode cX12_readsLine 7 = .ok (.getfield 229, 3) := by decide +kernel
theorem dX12_readsLine_10 : decode cX12_readsLine 10 = .ok (.invokevirtual 232, 3) := by decide +kernel
theorem mw_451 : Cond.code yX12_reads cX12_reads 2 (some .boolean) ∈ wsL_law := lrk_19 _ (List.mem_of_getElem? (i := 19) rfl)
theorem mw_448 : Cond.methodLink RX12 232 yX12_reads ∈ wsL_law := lrk_19 _ (List.mem_of_getElem? (i := 16) rfl)
theorem mw_449 : Cond.instanceMethod yX12_reads ∈ wsL_law := lrk_19 _ (List.mem_of_getElem? (i := 17) rfl)
theorem mw_450 : Cond.selects RX12 yX12_reads yX12_reads ∈ wsL_law := lrk_19 _ (List.mem_of_getElem? (i := 18) rfl)
theorem gV_X12_232 : GoodIn wsL_law (wsV RX12 232 RX12 yX12_reads (wl yX12_reads cX12_reads 2 (some .boolean))) := g_V mw_448 mw_449 mw_450 mw_5 mw_451
theorem hdV_X12_reads : yX12_reads.cls = RX12 ∧ okD yX12_reads 1 := by decide +kernel
theorem dX12_readsLine_13 : decode cX12_readsLine 13 = .ok (.ifCond .ne 5, 3) := by decide +kernel
theorem dX12_readsLine_18 : decode cX12_readsLine 18 = .ok (.aload_n 0, 1) := by decide +kernel
theorem dX12_readsLine_19 : decode cX12_readsLine 19 = .ok (.dup, 1) := by decide +kernel
theorem dX12_readsLine_20 : decode cX12_readsLine 20 = .ok (.getfield 229, 3) := by decide +kernel
theorem dX12_readsLine_23 : decode cX12_readsLine 23 = .ok (.iconst 1, 1) := by decide +kernel
theorem dX12_readsLine_24 : decode cX12_readsLine 24 = .ok (.iadd, 1) := by decide +kernel
theorem dX12_readsLine_25 : decode cX12_readsLine 25 = .ok (.putfield 229, 3) := by decide +kernel
theorem dX12_readsLine_28 : decode cX12_readsLine 28 = .ok (.aload_n 0, 1) := by decide +kernel
theorem dX12_readsLine_29 : decode cX12_readsLine 29 = .ok (.invokevirtual 198, 3) := by decide +kernel
theorem dX12_readsLine_32 : decode cX12_readsLine 32 = .ok (.ifCond .eq 6, 3) := by decide +kernel
theorem dX12_readsLine_35 : decode cX12_readsLine 35 = .ok (.goto 50, 3) := by decide +kernel
theorem dX12_readsLine_85 : decode cX12_readsLine 85 = .ok (.aload_n 0, 1) := by decide +kernel
theorem dX12_readsLine_86 : decode cX12_readsLine 86 = .ok (.aload_n 0, 1) := by decide +kernel
theorem dX12_readsLine_87 : decode cX12_readsLine 87 = .ok (.getfield 195, 3) := by decide +kernel
theorem dX12_readsLine_90 : decode cX12_readsLine 90 = .ok (.putfield 235, 3) := by decide +kernel
theorem mw_447 : Cond.fieldLink RX12 235 "TypedTablesModel" "lineEnd" "I" ∈ wsL_law := lrk_19 _ (List.mem_of_getElem? (i := 15) rfl)
theorem dX12_readsLine_93 : decode cX12_readsLine 93 = .ok (.iconst 1, 1) := by decide +kernel
theorem dX12_readsLine_94 : decode cX12_readsLine 94 = .ok (.ireturn, 1) := by decide +kernel
theorem dX12_readsLine_38 : decode cX12_readsLine 38 = .ok (.aload_n 0, 1) := by decide +kernel
theorem dX12_readsLine_39 : decode cX12_readsLine 39 = .ok (.getfield 229, 3) := by decide +kernel
theorem dX12_readsLine_42 : decode cX12_readsLine 42 = .ok (.bipush 8, 2) := by decide +kernel
theorem dX12_readsLine_44 : decode cX12_readsLine 44 = .ok (.if_icmp .ne 15, 3) := by decide +kernel
theorem dX12_readsLine_59 : decode cX12_readsLine 59 = .ok (.aload_n 0, 1) := by decide +kernel
theorem dX12_readsLine_60 : decode cX12_readsLine 60 = .ok (.getfield 36, 3) := by decide +kernel
theorem mw_196 : Cond.fieldLink RX12 36 "TypedTablesModel" "parted" "[I" ∈ wsL_law := lrk_9 _ (List.mem_of_getElem? (i := 4) rfl)
theorem dX12_readsLine_63 : decode cX12_readsLine 63 = .ok (.aload_n 0, 1) := by decide +kernel
theorem dX12_readsLine_64 : decode cX12_readsLine 64 = .ok (.getfield 229, 3) := by decide +kernel
theorem dX12_readsLine_67 : decode cX12_readsLine 67 = .ok (.aload_n 0, 1) := by decide +kernel
theorem dX12_readsLine_68 : decode cX12_readsLine 68 = .ok (.getfield 195, 3) := by decide +kernel
theorem dX12_readsLine_71 : decode cX12_readsLine 71 = .ok (.iastore, 1) := by decide +kernel
theorem dX12_readsLine_72 : decode cX12_readsLine 72 = .ok (.aload_n 0, 1) := by decide +kernel
theorem dX12_readsLine_73 : decode cX12_readsLine 73 = .ok (.dup, 1) := by decide +kernel
theorem dX12_readsLine_74 : decode cX12_readsLine 74 = .ok (.getfield 195, 3) := by decide +kernel
theorem dX12_readsLine_77 : decode cX12_readsLine 77 = .ok (.iconst 1, 1) := by decide +kernel
theorem dX12_readsLine_78 : decode cX12_readsLine 78 = .ok (.iadd, 1) := by decide +kernel
theorem dX12_readsLine_79 : decode cX12_readsLine 79 = .ok (.putfield 195, 3) := by decide +kernel
theorem dX12_readsLine_82 : decode cX12_readsLine 82 = .ok (.goto (-77), 3) := by decide +kernel
theorem dX12_readsLine_47 : decode cX12_readsLine 47 = .ok (.aload_n 0, 1) := by decide +kernel
theorem dX12_readsLine_48 : decode cX12_readsLine 48 = .ok (.bipush 6, 2) := by decide +kernel
theorem dX12_readsLine_50 : decode cX12_readsLine 50 = .ok (.aload_n 0, 1) := by decide +kernel
theorem dX12_readsLine_51 : decode cX12_readsLine 51 = .ok (.getfield 195, 3) := by decide +kernel
theorem dX12_readsLine_54 : decode cX12_readsLine 54 = .ok (.iconst (-1), 1) := by decide +kernel
theorem dX12_readsLine_55 : decode cX12_readsLine 55 = .ok (.invokevirtual 210, 3) := by decide +kernel
theorem dX12_readsLine_58 : decode cX12_readsLine 58 = .ok (.ireturn, 1) := by decide +kernel
theorem dX12_readsLine_16 : decode cX12_readsLine 16 = .ok (.iconst 0, 1) := by decide +kernel
theorem dX12_readsLine_17 : decode cX12_readsLine 17 = .ok (.ireturn, 1) := by decide +kernel
theorem dX12_tooMuch_0 : decode cX12_tooMuch 0 = .ok (.aload_n 0, 1) := by decide +kernel
theorem dX12_tooMuch_1 : decode cX12_tooMuch 1 = .ok (.aload_n 0, 1) := by decide +kernel
theorem dX12_tooMuch_2 : decode cX12_tooMuch 2 = .ok (.aload_n 0, 1) := by decide +kernel
theorem dX12_tooMuch_3 : decode cX12_tooMuch 3 = .ok (.getfield 20, 3) := by decide +kernel
theorem dX12_tooMuch_6 : decode cX12_tooMuch 6 = .ok (.aload_n 0, 1) := by decide +kernel
theorem dX12_tooMuch_7 : decode cX12_tooMuch 7 = .ok (.getfield 195, 3) := by decide +kernel
theorem dX12_tooMuch_10 : decode cX12_tooMuch 10 = .ok (.iaload, 1) := by decide +kernel
theorem dX12_tooMuch_11 : decode cX12_tooMuch 11 = .ok (.iconst 0, 1) := by decide +kernel
theorem dX12_tooMuch_12 : decode cX12_tooMuch 12 = .ok (.invokevirtual 206, 3) := by decide +kernel
theorem dX12_tooMuch_15 : decode cX12_tooMuch 15 = .ok (.ifCond .ne 23, 3) := by decide +kernel
theorem dX12_tooMuch_38 : decode cX12_tooMuch 38 = .ok (.bipush 6, 2) := by decide +kernel
theorem dX12_tooMuch_40 : decode cX12_tooMuch 40 = .ok (.goto 4, 3) := by decide +kernel
theorem dX12_tooMuch_44 : decode cX12_tooMuch 44 = .ok (.aload_n 0, 1) := by decide +kernel
theorem dX12_tooMuch_45 : decode cX12_tooMuch 45 = .ok (.getfield 195, 3) := by decide +kernel
theorem dX12_tooMuch_48 : decode cX12_tooMuch 48 = .ok (.aload_n 0, 1) := by decide +kernel
theorem dX12_tooMuch_49 : decode cX12_tooMuch 49 = .ok (.aload_n 0, 1) := by decide +kernel
theorem dX12_tooMuch_50 : decode cX12_tooMuch 50 = .ok (.getfield 20, 3) := by decide +kernel
theorem dX12_tooMuch_53 : decode cX12_tooMuch 53 = .ok (.aload_n 0, 1) := by decide +kernel
theorem dX12_tooMuch_54 : decode cX12_tooMuch 54 = .ok (.getfield 195, 3) := by decide +kernel
theorem dX12_tooMuch_57 : decode cX12_tooMuch 57 = .ok (.iaload, 1) := by decide +kernel
theorem dX12_tooMuch_58 : decode cX12_tooMuch 58 = .ok (.iconst 0, 1) := by decide +kernel
theorem dX12_tooMuch_59 : decode cX12_tooMuch 59 = .ok (.invokevirtual 206, 3) := by decide +kernel
theorem dX12_tooMuch_62 : decode cX12_tooMuch 62 = .ok (.ifCond .ne 23, 3) := by decide +kernel
theorem dX12_tooMuch_85 : decode cX12_tooMuch 85 = .ok (.iconst (-1), 1) := by decide +kernel
theorem dX12_tooMuch_86 : decode cX12_tooMuch 86 = .ok (.goto 4, 3) := by decide +kernel
theorem dX12_tooMuch_90 : decode cX12_tooMuch 90 = .ok (.invokevirtual 210, 3) := by decide +kernel
theorem dX12_tooMuch_93 : decode cX12_tooMuch 93 = .ok (.ireturn, 1) := by decide +kernel
theorem dX12_tooMuch_65 : decode cX12_tooMuch 65 = .ok (.aload_n 0, 1) := by decide +kernel
theorem dX12_tooMuch_66 : decode cX12_tooMuch 66 = .ok (.getfield 20, 3) := by decide +kernel
theorem dX12_tooMuch_69 : decode cX12_tooMuch 69 = .ok (.aload_n 0, 1) := by decide +kernel
theorem dX12_tooMuch_70 : decode cX12_tooMuch 70 = .ok (.getfield 195, 3) := by decide +kernel
theorem dX12_tooMuch_73 : decode cX12_tooMuch 73 = .ok (.iaload, 1) := by decide +kernel
theorem dX12_tooMuch_74 : decode cX12_tooMuch 74 = .ok (.aload_n 0, 1) := by decide +kernel
theorem dX12_tooMuch_75 : decode cX12_tooMuch 75 = .ok (.getfield 9, 3) := by decide +kernel
theorem dX12_tooMuch_78 : decode cX12_tooMuch 78 = .ok (.sipush 21369, 3) := by decide +kernel
theorem dX12_tooMuch_81 : decode cX12_tooMuch 81 = .ok (.iaload, 1) := by decide +kernel
theorem dX12_tooMuch_82 : decode cX12_tooMuch 82 = .ok (.if_icmp .ne 7, 3) := by decide +kernel
theorem dX12_tooMuch_89 : decode cX12_tooMuch 89 = .ok (.iconst 0, 1) := by decide +kernel
theorem dX12_tooMuch_18 : decode cX12_tooMuch 18 = .ok (.aload_n 0, 1) := by decide +kernel
theorem dX12_tooMuch_19 : decode cX12_tooMuch 19 = .ok (.getfield 20, 3) := by decide +kernel
theorem dX12_tooMuch_22 : decode cX12_tooMuch 22 = .ok (.aload_n 0, 1) := by decide +kernel
theorem dX12_tooMuch_23 : decode cX12_tooMuch 23 = .ok (.getfield 195, 3) := by decide +kernel
theorem dX12_tooMuch_26 : decode cX12_tooMuch 26 = .ok (.iaload, 1) := by decide +kernel
theorem dX12_tooMuch_27 : decode cX12_tooMuch 27 = .ok (.aload_n 0, 1) := by decide +kernel
theorem dX12_tooMuch_28 : decode cX12_tooMuch 28 = .ok (.getfield 9, 3) := by decide +kernel
theorem dX12_tooMuch_31 : decode cX12_tooMuch 31 = .ok (.sipush 21369, 3) := by decide +kernel
theorem dX12_tooMuch_34 : decode cX12_tooMuch 34 = .ok (.iaload, 1) := by decide +kernel
theorem dX12_tooMuch_35 : decode cX12_tooMuch 35 = .ok (.if_icmp .ne 8, 3) := by decide +kernel
theorem dX12_tooMuch_43 : decode cX12_tooMuch 43 = .ok (.iconst 1, 1) := by decide +kernel
theorem dX12_names_0 : decode cX12_names 0 = .ok (.iconst 0, 1) := by decide +kernel
theorem dX12_names_1 : decode cX12_names 1 = .ok (.istore 4, 2) := by decide +kernel
theorem dX12_names_3 : decode cX12_names 3 = .ok (.iload 4, 2) := by decide +kernel
theorem dX12_names_5 : decode cX12_names 5 = .ok (.aload_n 2, 1) := by decide +kernel
theorem dX12_names_6 : decode cX12_names 6 = .ok (.iload_n 3, 1) := by decide +kernel
theorem dX12_names_7 : decode cX12_names 7 = .ok (.iaload, 1) := by decide +kernel
theorem dX12_names_8 : decode cX12_names 8 = .ok (.if_icmp .gt 29, 3) := by decide +kernel
theorem dX12_names_37 : decode cX12_names 37 = .ok (.return_, 1) := by decide +kernel
theorem dX12_names_11 : decode cX12_names 11 = .ok (.aload_n 0, 1) := by decide +kernel
theorem dX12_names_12 : decode cX12_names 12 = .ok (.getfield 39, 3) := by decide +kernel
theorem mw_197 : Cond.fieldLink RX12 39 "TypedTablesModel" "draft" "[I" ∈ wsL_law := lrk_9 _ (List.mem_of_getElem? (i := 5) rfl)
theorem dX12_names_15 : decode cX12_names 15 = .ok (.iconst 4, 1) := by decide +kernel
theorem dX12_names_16 : decode cX12_names 16 = .ok (.bipush 13, 2) := by decide +kernel
theorem dX12_names_18 : decode cX12_names 18 = .ok (.iload_n 1, 1) := by decide +kernel
theorem dX12_names_19 : decode cX12_names 19 = .ok (.imul, 1) := by decide +kernel
theorem dX12_names_20 : decode cX12_names 20 = .ok (.iadd, 1) := by decide +kernel
theorem dX12_names_21 : decode cX12_names 21 = .ok (.iload 4, 2) := by decide +kernel
theorem dX12_names_23 : decode cX12_names 23 = .ok (.iadd, 1) := by decide +kernel
theorem dX12_names_24 : decode cX12_names 24 = .ok (.aload_n 2, 1) := by decide +kernel
theorem dX12_names_25 : decode cX12_names 25 = .ok (.iload_n 3, 1) := by decide +kernel
theorem dX12_names_26 : decode cX12_names 26 = .ok (.iload 4, 2) := by decide +kernel
theorem dX12_names_28 : decode cX12_names 28 = .ok (.iadd, 1) := by decide +kernel
theorem dX12_names_29 : decode cX12_names 29 = .ok (.iaload, 1) := by decide +kernel
theorem dX12_names_30 : decode cX12_names 30 = .ok (.iastore, 1) := by decide +kernel
theorem dX12_names_31 : decode cX12_names 31 = .ok (.iinc 4 1, 3) := by decide +kernel
theorem dX12_names_34 : decode cX12_names 34 = .ok (.goto (-31), 3) := by decide +kernel
set_option maxHeartbeats 4000000 in
set_option maxRecDepth 100000 in
theorem s_X12_viewsOff (l : Launch) (D : va_G) (κ : Nat → ClassId) (m0 : Nat) (a0 : Nat) (a1 : Nat) (a2 : Nat) (u3 : Nat) (f4 : Int32) (a5 : Nat) (u6 : Nat) (f7 : Int32) (f8 : Int32) (f9 : Int32) (f10 : Int32) (u11 : Nat) (u12 : Nat) (u13 : Nat) (a14 : Nat) (a15 : Nat) (a16 : Nat) (a17 : Nat) (f18 : Int32) (f19 : Int32) (a20 : Nat) (a21 : Nat) (u22 : Nat) (a23 : Nat) (a24 : Nat) (a25 : Nat) (u26 : Nat) (f27 : Int32) (a28 : Nat) (u29 : Nat) (w : Nat → Int32) (a : Nat) (h_a0 : Pw w) (ht : a < 3) : Ct l yX12_viewsOff (wl yX12_viewsOff cX12_viewsOff 3 none) { frames := 1, cells := 0, slots := 0, locals := 21 } D κ [.ref m0, .int (nI a)] [(m0, .inr (12, [.ref a0, .ref a1, .ref a2, .int (nI u3), .int f4, .ref a5, .int (nI u6), .int f7, .int f8, .int f9, .int f10, .int (nI u11), .int (nI u12), .int (nI u13), .ref a14, .ref a15, .ref a16, .ref a17, .int f18, .int f19, .ref a20, .ref a21, .int (nI u22), .ref a23, .ref a24, .ref a25, .int (nI u26), .int f27, .ref a28, .int (nI u29)])), (a0, .inl (κ 0, 21375, .inl w))] (fun _ => True) (fun g_a0 : (Nat → Int32) => none) (fun g_a0 : (Nat → Int32) => Pw g_a0) (fun g_a0 : (Nat → Int32) => [(m0, .inr (12, [.ref a0, .ref a1, .ref a2, .int (nI u3), .int f4, .ref a5, .int (nI u6), .int f7, .int f8, .int f9, .int f10, .int (nI u11), .int (nI u12), .int (nI u13), .ref a14, .ref a15, .ref a16, .ref a17, .int f18, .int f19, .ref a20, .ref a21, .int (nI u22), .ref a23, .ref a24, .ref a25, .int (nI u26), .int f27, .ref a28, .int (nI u29)])), (a0, .inl (κ 0, 21375, .inl g_a0))]) (fun _ _ => True) := by
  refine ct_of (by decide +kernel) (Nat.le_of_ble_eq_true rfl) ?_
  intro p e s m args below meth c A ls hx hb hr hml hts hown hlk hin hKK hK hA hP hD hS hI hl
  have hS : va_S A s.heap s.heap [] := hS
  have hFX : FX p s m args c cX12_viewsOff 3 RX12 := ⟨hx, hb, hml, hown, hts⟩
  have hl : lv_has ls 3 [(0, .ref m0), (1, .int (nI a))] := hl
  refine lv_aload_n hx hb dX12_viewsOff_0 rfl (lv_at hl 0 rfl) ?_
  refine va_get (D := D) (ci := 12) (v := .ref a0) (C := RX12) (T := TX12) (N := 30) hx hb hts inlX12 hown hK hP 0 rfl rfl 0 (by decide) (hts _ mw_187) (fun _ h9 => h9) rfl dX12_viewsOff_1 ?_
  refine lv_iload_n hx hb dX12_viewsOff_4 rfl (lv_at hl 1 rfl) ?_
  refine lv_iconst (v := 3) hx hb dX12_viewsOff_5 (by decide) ?_
  refine cr_S (As := [.int (nI a), .int 3]) (rest := [.ref a0]) hFX hKK (s_X12_at l D κ a 3) 2 gS_X12_66 hdS_X12_at rfl rfl ⟨Nat.le_of_ble_eq_true rfl, Nat.le_of_ble_eq_true rfl⟩ rfl rfl (Nat.le_of_ble_eq_true rfl) dX12_viewsOff_6 ⟨Nat.le_of_ble_eq_true rfl, Nat.le_of_ble_eq_true rfl⟩ hl.1 (hP.sub [] rfl) (fun _ hp_1 => ?_)
  refine W.eq (g2 := F0 m 9 ls [.int (nI (7123 * a + 3)), .ref a0]) rfl ?_
  refine lv_iconst (v := 0) hx hb dX12_viewsOff_9 (by decide) ?_
  refine va_iast hx hb hK hP hD hS 1 0 rfl rfl (i := nI (7123 * a + 3)) (x := 0) (vp_in_nI (n := (7123 * a + 3)) (by omega) (by omega)) dX12_viewsOff_10 (fun H locs hP hD hS => ?_)
  rw [nI_clamp (by omega)] at hP hD
  have hP : va_P D vwCl [(m0, .inr (12, [.ref a0, .ref a1, .ref a2, .int (nI u3), .int f4, .ref a5, .int (nI u6), .int f7, .int f8, .int f9, .int f10, .int (nI u11), .int (nI u12), .int (nI u13), .ref a14, .ref a15, .ref a16, .ref a17, .int f18, .int f19, .ref a20, .ref a21, .int (nI u22), .ref a23, .ref a24, .ref a25, .int (nI u26), .int f27, .ref a28, .int (nI u29)])), (a0, .inl (κ 0, 21375, .inl (upd w (7123 * a + 3) 0)))] H := hP
  have hD : va_D A [(m0, .inr (12, [.ref a0, .ref a1, .ref a2, .int (nI u3), .int f4, .ref a5, .int (nI u6), .int f7, .int f8, .int f9, .int f10, .int (nI u11), .int (nI u12), .int (nI u13), .ref a14, .ref a15, .ref a16, .ref a17, .int f18, .int f19, .ref a20, .ref a21, .int (nI u22), .ref a23, .ref a24, .ref a25, .int (nI u26), .int f27, .ref a28, .int (nI u29)])), (a0, .inl (κ 0, 21375, .inl (upd w (7123 * a + 3) 0)))] := hD
  have hf_3 : Pw (upd w (7123 * a + 3) 0) := (Pw_upd h_a0 (mTOP (t := a) (by omega) (by omega)) ⟨0, by omega, by decide⟩)
  generalize upd w (7123 * a + 3) 0 = g_2 at hP hD hf_3
  refine lv_aload_n hx hb dX12_viewsOff_11 rfl (lv_at hl 0 rfl) ?_
  refine va_get (D := D) (ci := 12) (v := .ref a0) (C := RX12) (T := TX12) (N := 30) hx hb hts inlX12 hown hK hP 0 rfl rfl 0 (by decide) (hts _ mw_187) (fun _ h9 => h9) rfl dX12_viewsOff_12 ?_
  refine lv_iload_n hx hb dX12_viewsOff_15 rfl (lv_at hl 1 rfl) ?_
  refine lv_bipush (v := 116) hx hb dX12_viewsOff_16 (by decide) ?_
  refine cr_S (As := [.int (nI a), .int 116]) (rest := [.ref a0]) hFX hKK (s_X12_at l D κ a 116) 2 gS_X12_66 hdS_X12_at rfl rfl ⟨Nat.le_of_ble_eq_true rfl, Nat.le_of_ble_eq_true rfl⟩ rfl rfl (Nat.le_of_ble_eq_true rfl) dX12_viewsOff_18 ⟨Nat.le_of_ble_eq_true rfl, Nat.le_of_ble_eq_true rfl⟩ hl.1 (hP.sub [] rfl) (fun _ hp_4 => ?_)
  refine W.eq (g2 := F0 m 21 ls [.int (nI (7123 * a + 116)), .ref a0]) rfl ?_
  refine lv_aload_n hx hb dX12_viewsOff_21 rfl (lv_at hl 0 rfl) ?_
  refine va_get (D := D) (ci := 12) (v := .ref a0) (C := RX12) (T := TX12) (N := 30) hx hb hts inlX12 hown hK hP 0 rfl rfl 0 (by decide) (hts _ mw_187) (fun _ h9 => h9) rfl dX12_viewsOff_22 ?_
  refine lv_iload_n hx hb dX12_viewsOff_25 rfl (lv_at hl 1 rfl) ?_
  refine lv_iconst (v := 2) hx hb dX12_viewsOff_26 (by decide) ?_
  refine cr_S (As := [.int (nI a), .int 2]) (rest := [.ref a0, .int (nI (7123 * a + 116)), .ref a0]) hFX hKK (s_X12_at l D κ a 2) 2 gS_X12_66 hdS_X12_at rfl rfl ⟨Nat.le_of_ble_eq_true rfl, Nat.le_of_ble_eq_true rfl⟩ rfl rfl (Nat.le_of_ble_eq_true rfl) dX12_viewsOff_27 ⟨Nat.le_of_ble_eq_true rfl, Nat.le_of_ble_eq_true rfl⟩ hl.1 (hP.sub [] rfl) (fun _ hp_5 => ?_)
  refine W.eq (g2 := F0 m 30 ls [.int (nI (7123 * a + 2)), .ref a0, .int (nI (7123 * a + 116)), .ref a0]) rfl ?_
  refine va_iald hx hb hK hP 1 0 rfl rfl (i := nI (7123 * a + 2)) (vp_in_nI (n := (7123 * a + 2)) (by omega) (by omega)) dX12_viewsOff_30 ?_
  refine kv (v := .int (g_2 (7123 * a + 2))) (by rw [nI_clamp (by omega)]) ?_
  obtain ⟨n_6, hn_6, en_6⟩ : ∃ n9 : Nat, n9 ≤ 40 ∧ g_2 (7123 * a + 2) = nI n9 := id (hf_3 _ _ (mMANY (t := a) (by omega) (by omega)))
  refine kv (v := .int (nI n_6)) (congrArg Value.int en_6) ?_
  refine va_iast hx hb hK hP hD hS 1 0 rfl rfl (i := nI (7123 * a + 116)) (x := nI n_6) (vp_in_nI (n := (7123 * a + 116)) (by omega) (by omega)) dX12_viewsOff_31 (fun H locs hP hD hS => ?_)
  rw [nI_clamp (by omega)] at hP hD
  have hP : va_P D vwCl [(m0, .inr (12, [.ref a0, .ref a1, .ref a2, .int (nI u3), .int f4, .ref a5, .int (nI u6), .int f7, .int f8, .int f9, .int f10, .int (nI u11), .int (nI u12), .int (nI u13), .ref a14, .ref a15, .ref a16, .ref a17, .int f18, .int f19, .ref a20, .ref a21, .int (nI u22), .ref a23, .ref a24, .ref a25, .int (nI u26), .int f27, .ref a28, .int (nI u29)])), (a0, .inl (κ 0, 21375, .inl (upd g_2 (7123 * a + 116) (nI n_6))))] H := hP
  have hD : va_D A [(m0, .inr (12, [.ref a0, .ref a1, .ref a2, .int (nI u3), .int f4, .ref a5, .int (nI u6), .int f7, .int f8, .int f9, .int f10, .int (nI u11), .int (nI u12), .int (nI u13), .ref a14, .ref a15, .ref a16, .ref a17, .int f18, .int f19, .ref a20, .ref a21, .int (nI u22), .ref a23, .ref a24, .ref a25, .int (nI u26), .int f27, .ref a28, .int (nI u29)])), (a0, .inl (κ 0, 21375, .inl (upd g_2 (7123 * a + 116) (nI n_6))))] := hD
  have hf_8 : Pw (upd g_2 (7123 * a + 116) (nI n_6)) := (Pw_upd hf_3 (mVM (t := a) (k := 0) (by omega) (by omega) (by omega)) ⟨n_6, by omega, rfl⟩)
  generalize upd g_2 (7123 * a + 116) (nI n_6) = g_7 at hP hD hf_8
  refine lv_iconst (v := 0) hx hb dX12_viewsOff_32 (by decide) ?_
  refine lv_istore_n (lv' := [(2, .int 0), (0, .ref m0), (1, .int (nI a))]) hx hb dX12_viewsOff_33 rfl hl (by decide) rfl (fun ls hl => ?_)
  refine loop_dn (fun k9 H locs ls => ∃ (k2_34 : Nat), ∃ (ga0_34 : Nat → Int32), (k2_34 ≤ 40) ∧ Pw ga0_34 ∧ 40 - k2_34 = k9 ∧ va_P D vwCl [(m0, .inr (12, [.ref a0, .ref a1, .ref a2, .int (nI u3), .int f4, .ref a5, .int (nI u6), .int f7, .int f8, .int f9, .int f10, .int (nI u11), .int (nI u12), .int (nI u13), .ref a14, .ref a15, .ref a16, .ref a17, .int f18, .int f19, .ref a20, .ref a21, .int (nI u22), .ref a23, .ref a24, .ref a25, .int (nI u26), .int f27, .ref a28, .int (nI u29)])), (a0, .inl (κ 0, 21375, .inl ga0_34))] H ∧ va_D A [(m0, .inr (12, [.ref a0, .ref a1, .ref a2, .int (nI u3), .int f4, .ref a5, .int (nI u6), .int f7, .int f8, .int f9, .int f10, .int (nI u11), .int (nI u12), .int (nI u13), .ref a14, .ref a15, .ref a16, .ref a17, .int f18, .int f19, .ref a20, .ref a21, .int (nI u22), .ref a23, .ref a24, .ref a25, .int (nI u26), .int f27, .ref a28, .int (nI u29)])), (a0, .inl (κ 0, 21375, .inl ga0_34))] ∧ va_S A s.heap H locs ∧ lv_has ls 3 [(2, .int (nI k2_34)), (0, .ref m0), (1, .int (nI a))]) (fun k9 H locs ls hI34 ih34 => ?_) (40 - 0) _ _ _ ⟨0, g_7, (by omega), hf_8, rfl, hP, hD, hS, lv_sub hl [0, 1, 2] rfl⟩
  obtain ⟨k2_34, ga0_34, hl34_0, hg34_0, hm34, hP, hD, hS, hl⟩ := hI34
  refine lv_iload_n hx hb dX12_viewsOff_34 rfl (lv_at hl 0 rfl) ?_
  refine lv_bipush (v := 40) hx hb dX12_viewsOff_35 (by decide) ?_
  refine lv_icmp_ge (tgt := 60) hx hb dX12_viewsOff_37 (by decide) (fun c_9 => ?_) (fun c_9 => ?_)
  · have nc_9 := cv_le (a := 40) (b := k2_34) (by omega) (by omega) c_9
    exact ct_vret hx hb hr hlk hS hP hD ga0_34 rfl (show Pw ga0_34 from (by first | assumption | omega)) [0, 1] rfl (by decide) trivial (Nat.le_of_ble_eq_true rfl) (Nat.le_of_ble_eq_true rfl) dX12_viewsOff_60
  · have nc_9 := cv_nle (a := 40) (b := k2_34) (by omega) (by omega) c_9
    refine lv_aload_n hx hb dX12_viewsOff_40 rfl (lv_at hl 1 rfl) ?_
    refine va_get (D := D) (ci := 12) (v := .ref a0) (C := RX12) (T := TX12) (N := 30) hx hb hts inlX12 hown hK hP 0 rfl rfl 0 (by decide) (hts _ mw_187) (fun _ h9 => h9) rfl dX12_viewsOff_41 ?_
    refine lv_iload_n hx hb dX12_viewsOff_44 rfl (lv_at hl 2 rfl) ?_
    refine lv_bipush (v := 123) hx hb dX12_viewsOff_45 (by decide) ?_
    refine cr_S (As := [.int (nI a), .int 123]) (rest := [.ref a0]) hFX hKK (s_X12_at l D κ a 123) 2 gS_X12_66 hdS_X12_at rfl rfl ⟨Nat.le_of_ble_eq_true rfl, Nat.le_of_ble_eq_true rfl⟩ rfl rfl (Nat.le_of_ble_eq_true rfl) dX12_viewsOff_47 ⟨Nat.le_of_ble_eq_true rfl, Nat.le_of_ble_eq_true rfl⟩ hl.1 (hP.sub [] rfl) (fun _ hp_10 => ?_)
    refine W.eq (g2 := F0 m 50 ls [.int (nI (7123 * a + 123)), .ref a0]) rfl ?_
    refine lv_iload_n hx hb dX12_viewsOff_50 rfl (lv_at hl 0 rfl) ?_
    refine lv_iadd hx hb dX12_viewsOff_51 ?_
    refine ki (v := (nI (7123 * a + 123 + k2_34))) (nI_add (7123 * a + 123) k2_34) ?_
    refine lv_iload_n hx hb dX12_viewsOff_52 rfl (lv_at hl 0 rfl) ?_
    refine va_iast hx hb hK hP hD hS 1 0 rfl rfl (i := nI (7123 * a + 123 + k2_34)) (x := nI k2_34) (vp_in_nI (n := (7123 * a + 123 + k2_34)) (by omega) (by omega)) dX12_viewsOff_53 (fun H locs hP hD hS => ?_)
    rw [nI_clamp (by omega)] at hP hD
    have hP : va_P D vwCl [(m0, .inr (12, [.ref a0, .ref a1, .ref a2, .int (nI u3), .int f4, .ref a5, .int (nI u6), .int f7, .int f8, .int f9, .int f10, .int (nI u11), .int (nI u12), .int (nI u13), .ref a14, .ref a15, .ref a16, .ref a17, .int f18, .int f19, .ref a20, .ref a21, .int (nI u22), .ref a23, .ref a24, .ref a25, .int (nI u26), .int f27, .ref a28, .int (nI u29)])), (a0, .inl (κ 0, 21375, .inl (upd ga0_34 (7123 * a + 123 + k2_34) (nI k2_34))))] H := hP
    have hD : va_D A [(m0, .inr (12, [.ref a0, .ref a1, .ref a2, .int (nI u3), .int f4, .ref a5, .int (nI u6), .int f7, .int f8, .int f9, .int f10, .int (nI u11), .int (nI u12), .int (nI u13), .ref a14, .ref a15, .ref a16, .ref a17, .int f18, .int f19, .ref a20, .ref a21, .int (nI u22), .ref a23, .ref a24, .ref a25, .int (nI u26), .int f27, .ref a28, .int (nI u29)])), (a0, .inl (κ 0, 21375, .inl (upd ga0_34 (7123 * a + 123 + k2_34) (nI k2_34))))] := hD
    have hf_12 : Pw (upd ga0_34 (7123 * a + 123 + k2_34) (nI k2_34)) := (Pw_upd hg34_0 (mVIEW (t := a) (i := k2_34) (by omega) (by omega) (by omega)) ⟨k2_34, by omega, rfl⟩)
    generalize upd ga0_34 (7123 * a + 123 + k2_34) (nI k2_34) = g_11 at hP hD hf_12
    refine lv_iinc (v := (nI (k2_34 + 1))) (lv' := [(2, .int (nI (k2_34 + 1))), (0, .ref m0), (1, .int (nI a))]) hx hb dX12_viewsOff_54 hl (k := 0) rfl (nI_i k2_34) (by decide) rfl (fun ls hl => ?_)
    refine lv_goto (tgt := 34) hx hb dX12_viewsOff_57 (by decide) ?_
    exact ih34 _ _ _ _ (by omega) ⟨(k2_34 + 1), g_11, (by omega), hf_12, rfl, hP, hD, hS, lv_sub hl [0, 1, 2] rfl⟩
set_option maxHeartbeats 4000000 in
set_option maxRecDepth 100000 in
theorem s_X12_canBe (l : Launch) (D : va_G) (κ : Nat → ClassId) (m0 : Nat) (a0 : Nat) (a1 : Nat) (a2 : Nat) (u3 : Nat) (f4 : Int32) (a5 : Nat) (u6 : Nat) (f7 : Int32) (f8 : Int32) (f9 : Int32) (f10 : Int32) (u11 : Nat) (u12 : Nat) (u13 : Nat) (a14 : Nat) (a15 : Nat) (a16 : Nat) (a17 : Nat) (f18 : Int32) (f19 : Int32) (a20 : Nat) (a21 : Nat) (u22 : Nat) (a23 : Nat) (a24 : Nat) (a25 : Nat) (u26 : Nat) (f27 : Int32) (a28 : Nat) (u29 : Nat) (w : Nat → Int32) (za : Int32) (zb : Int32) (h_a0 : Pw w) : Cr l yX12_canBe (wl yX12_canBe cX12_canBe 3 (some .boolean)) { frames := 1, cells := 0, slots := 0, locals := 25 } D κ [.ref m0, .int za, .int zb] (va_P D vwCl [(m0, .inr (12, [.ref a0, .ref a1, .ref a2, .int (nI u3), .int f4, .ref a5, .int (nI u6), .int f7, .int f8, .int f9, .int f10, .int (nI u11), .int (nI u12), .int (nI u13), .ref a14, .ref a15, .ref a16, .ref a17, .int f18, .int f19, .ref a20, .ref a21, .int (nI u22), .ref a23, .ref a24, .ref a25, .int (nI u26), .int f27, .ref a28, .int (nI u29)])), (a0, .inl (κ 0, 21375, .inl w))]) (fun r : Int32 => some (.int r)) (fun r : Int32 => ((r = 1) ∨ (r = 0))) := by
  refine cr_of (by decide +kernel) (Nat.le_of_ble_eq_true rfl) ?_
  intro p e s m args below meth c ls hx hb hr hml hts hown hlk hKK hK hI hl
  have hP : va_P D vwCl [(m0, .inr (12, [.ref a0, .ref a1, .ref a2, .int (nI u3), .int f4, .ref a5, .int (nI u6), .int f7, .int f8, .int f9, .int f10, .int (nI u11), .int (nI u12), .int (nI u13), .ref a14, .ref a15, .ref a16, .ref a17, .int f18, .int f19, .ref a20, .ref a21, .int (nI u22), .ref a23, .ref a24, .ref a25, .int (nI u26), .int f27, .ref a28, .int (nI u29)])), (a0, .inl (κ 0, 21375, .inl w))] s.heap := hI
  have hFX : FX p s m args c cX12_canBe 3 RX12 := ⟨hx, hb, hml, hown, hts⟩
  have hl : lv_has ls 3 [(0, .ref m0), (1, .int za), (2, .int zb)] := hl
  refine lv_iload_n hx hb dX12_canBe_0 rfl (lv_at hl 1 rfl) ?_
  refine lv_bipush (v := 9) hx hb dX12_canBe_1 (by decide) ?_
  refine lv_icmp_ne (tgt := 29) hx hb dX12_canBe_3 (by decide) (fun c_1 => ?_) (fun c_1 => ?_)
  · refine lv_iload_n hx hb dX12_canBe_29 rfl (lv_at hl 1 rfl) ?_
    refine lv_i2l (v := za.toInt64) hx hb dX12_canBe_30 rfl ?_
    refine lv_ldc2 hx hb hown (hts _ mw_436) dX12_canBe_31 ?_
    refine lv_ldc2 hx hb hown (hts _ mw_437) dX12_canBe_34 ?_
    refine cr_S (As := [.long za.toInt64, .long 32, .long 126]) (rest := []) hFX hKK (s_X12_isIn l D κ za.toInt64 32 126) 3 gS_X12_62 hdS_X12_isIn rfl rfl ⟨Nat.le_of_ble_eq_true rfl, Nat.le_of_ble_eq_true rfl⟩ rfl rfl (Nat.le_of_ble_eq_true rfl) dX12_canBe_37 ⟨Nat.le_of_ble_eq_true rfl, Nat.le_of_ble_eq_true rfl⟩ hl.1 (hP.sub [] rfl) (fun r__2 hp_3 => ?_)
    replace hp_3 : ((r__2 = 1 ∧ ¬ lg_cmp za.toInt64 (32 : Int64) < 0 ∧ ¬ 0 < lg_cmp za.toInt64 (126 : Int64)) ∨ (r__2 = 0 ∧ (lg_cmp za.toInt64 (32 : Int64) < 0 ∨ 0 < lg_cmp za.toInt64 (126 : Int64)))) := hp_3
    have ha_4 := hp_3
    clear hp_3
    rcases ha_4 with ⟨rfl, a_5, a_6⟩ | ⟨rfl, a_7⟩
    · refine W.eq (g2 := F0 m 40 ls [.int 1]) rfl ?_
      have hin_8 : (32 : Int) ≤ za.toInt ∧ za.toInt ≤ (126 : Int) := l_in (l_of rfl) (by decide) (by decide) a_5 a_6
      obtain ⟨j_9, hj_9, rfl⟩ : ∃ j9 : Nat, (j9 : Int) ≤ (126 : Int) ∧ za = nI j9 := i_nat (by omega) (by omega)
      refine lv_if_ne (tgt := 49) hx hb dX12_canBe_40 (by decide) (fun c_10 => ?_) (fun c_10 => absurd c_10 (by decide))
      refine lv_iconst (v := 1) hx hb dX12_canBe_49 (by decide) ?_
      refine lv_goto (tgt := 54) hx hb dX12_canBe_50 (by decide) ?_
      exact cr_iret hx hb hr hlk rfl 1 rfl (by exact Or.inl (rfl)) dX12_canBe_54
    · refine W.eq (g2 := F0 m 40 ls [.int 0]) rfl ?_
      have hin_11 : za.toInt < (32 : Int) ∨ (126 : Int) < za.toInt := l_out (l_of rfl) (by decide) (by decide) a_7
      refine lv_if_ne (tgt := 49) hx hb dX12_canBe_40 (by decide) (fun c_12 => absurd c_12 (by decide)) (fun c_12 => ?_)
      refine lv_iload_n hx hb dX12_canBe_43 rfl (lv_at hl 1 rfl) ?_
      refine lv_bipush (v := 10) hx hb dX12_canBe_44 (by decide) ?_
      refine lv_icmp_ne (tgt := 53) hx hb dX12_canBe_46 (by decide) (fun c_13 => ?_) (fun c_13 => ?_)
      · refine lv_iconst (v := 0) hx hb dX12_canBe_53 (by decide) ?_
        exact cr_iret hx hb hr hlk rfl 0 rfl (by exact Or.inr ((rfl))) dX12_canBe_54
      · refine lv_iconst (v := 1) hx hb dX12_canBe_49 (by decide) ?_
        refine lv_goto (tgt := 54) hx hb dX12_canBe_50 (by decide) ?_
        exact cr_iret hx hb hr hlk rfl 1 rfl (by exact Or.inl (rfl)) dX12_canBe_54
  · refine lv_iload_n hx hb dX12_canBe_6 rfl (lv_at hl 2 rfl) ?_
    refine lv_if_ne (tgt := 27) hx hb dX12_canBe_7 (by decide) (fun c_14 => ?_) (fun c_14 => ?_)
    · refine lv_iconst (v := 0) hx hb dX12_canBe_27 (by decide) ?_
      exact cr_iret hx hb hr hlk rfl 0 rfl (by exact Or.inr ((rfl))) dX12_canBe_28
    · refine lv_aload_n hx hb dX12_canBe_10 rfl (lv_at hl 0 rfl) ?_
      refine va_get (D := D) (ci := 12) (v := .ref a0) (C := RX12) (T := TX12) (N := 30) hx hb hts inlX12 hown hK hP 0 rfl rfl 0 (by decide) (hts _ mw_187) (fun _ h9 => h9) rfl dX12_canBe_11 ?_
      refine lv_sipush (v := 21369) hx hb dX12_canBe_14 (by decide) ?_
      refine va_iald hx hb hK hP 1 0 rfl rfl (i := 21369) (vp_k (by decide)) dX12_canBe_17 ?_
      obtain ⟨x_15, ex_15⟩ : ∃ y9 : Int32, w 21369 = y9 := ⟨_, rfl⟩
      refine kv (v := .int x_15) (congrArg Value.int ex_15) ?_
      refine lv_bipush (v := 9) hx hb dX12_canBe_18 (by decide) ?_
      refine lv_icmp_ne (tgt := 27) hx hb dX12_canBe_20 (by decide) (fun c_16 => ?_) (fun c_16 => ?_)
      · refine lv_iconst (v := 0) hx hb dX12_canBe_27 (by decide) ?_
        exact cr_iret hx hb hr hlk rfl 0 rfl (by exact Or.inr ((rfl))) dX12_canBe_28
      · refine lv_iconst (v := 1) hx hb dX12_canBe_23 (by decide) ?_
        refine lv_goto (tgt := 28) hx hb dX12_canBe_24 (by decide) ?_
        exact cr_iret hx hb hr hlk rfl 1 rfl (by exact Or.inl (rfl)) dX12_canBe_28
set_option maxHeartbeats 4000000 in
set_option maxRecDepth 100000 in
theorem s_X12_isOver (l : Launch) (D : va_G) (κ : Nat → ClassId) (m0 : Nat) (a0 : Nat) (a1 : Nat) (a2 : Nat) (u3 : Nat) (f4 : Int32) (a5 : Nat) (u6 : Nat) (f7 : Int32) (f8 : Int32) (f9 : Int32) (f10 : Int32) (u11 : Nat) (u12 : Nat) (u13 : Nat) (a14 : Nat) (a15 : Nat) (a16 : Nat) (a17 : Nat) (f18 : Int32) (f19 : Int32) (a20 : Nat) (a21 : Nat) (u22 : Nat) (a23 : Nat) (a24 : Nat) (a25 : Nat) (u26 : Nat) (f27 : Int32) (a28 : Nat) (u29 : Nat) (w : Nat → Int32) (tp : Nat → Int32) (h6 : u6 ≤ 800) (h_a0 : Pw w) (h11 : u11 ≤ u6) : Cr l yX12_isOver (wl yX12_isOver cX12_isOver 1 (some .boolean)) { frames := 1, cells := 0, slots := 0, locals := 20 } D κ [.ref m0] (va_P D vwCl [(m0, .inr (12, [.ref a0, .ref a1, .ref a2, .int (nI u3), .int f4, .ref a5, .int (nI u6), .int f7, .int f8, .int f9, .int f10, .int (nI u11), .int (nI u12), .int (nI u13), .ref a14, .ref a15, .ref a16, .ref a17, .int f18, .int f19, .ref a20, .ref a21, .int (nI u22), .ref a23, .ref a24, .ref a25, .int (nI u26), .int f27, .ref a28, .int (nI u29)])), (a0, .inl (κ 0, 21375, .inl w)), (a5, .inl (κ 0, 800, .inl tp))]) (fun r : Int32 => some (.int r)) (fun r : Int32 => ((r = 1) ∨ (r = 0 ∧ u11 < u6))) := by
  refine cr_of (by decide +kernel) (Nat.le_of_ble_eq_true rfl) ?_
  intro p e s m args below meth c ls hx hb hr hml hts hown hlk hKK hK hI hl
  have hP : va_P D vwCl [(m0, .inr (12, [.ref a0, .ref a1, .ref a2, .int (nI u3), .int f4, .ref a5, .int (nI u6), .int f7, .int f8, .int f9, .int f10, .int (nI u11), .int (nI u12), .int (nI u13), .ref a14, .ref a15, .ref a16, .ref a17, .int f18, .int f19, .ref a20, .ref a21, .int (nI u22), .ref a23, .ref a24, .ref a25, .int (nI u26), .int f27, .ref a28, .int (nI u29)])), (a0, .inl (κ 0, 21375, .inl w)), (a5, .inl (κ 0, 800, .inl tp))] s.heap := hI
  have hFX : FX p s m args c cX12_isOver 1 RX12 := ⟨hx, hb, hml, hown, hts⟩
  have hl : lv_has ls 1 [(0, .ref m0)] := hl
  refine lv_aload_n hx hb dX12_isOver_0 rfl (lv_at hl 0 rfl) ?_
  refine cr_V (As := []) (rest := []) hFX hKK (s_X12_isEnd l D κ m0 a0 a1 a2 u3 f4 a5 u6 f7 f8 f9 f10 u11 u12 u13 a14 a15 a16 a17 f18 f19 a20 a21 u22 a23 a24 a25 u26 f27 a28 u29 tp (by omega) (by omega)) 0 gV_X12_198 hdV_X12_isEnd rfl rfl ⟨Nat.le_of_ble_eq_true rfl, Nat.le_of_ble_eq_true rfl⟩ rfl rfl (Nat.le_of_ble_eq_true rfl) dX12_isOver_1 ⟨Nat.le_of_ble_eq_true rfl, Nat.le_of_ble_eq_true rfl⟩ hl.1 hP 0 12 rfl rfl rfl (hP.sub [0, 2] rfl) (fun r__1 hp_2 => ?_)
  replace hp_2 : ((r__1 = 1) ∨ (r__1 = 0 ∧ u11 < u6)) := hp_2
  have ha_3 := hp_2
  clear hp_2
  rcases ha_3 with rfl | ⟨rfl, a_4⟩
  · refine W.eq (g2 := F0 m 4 ls [.int 1]) rfl ?_
    refine lv_if_ne (tgt := 27) hx hb dX12_isOver_4 (by decide) (fun c_5 => ?_) (fun c_5 => absurd c_5 (by decide))
    refine lv_iconst (v := 1) hx hb dX12_isOver_27 (by decide) ?_
    refine lv_goto (tgt := 32) hx hb dX12_isOver_28 (by decide) ?_
    exact cr_iret hx hb hr hlk rfl 1 rfl (by exact Or.inl (rfl)) dX12_isOver_32
  · refine W.eq (g2 := F0 m 4 ls [.int 0]) rfl ?_
    refine lv_if_ne (tgt := 27) hx hb dX12_isOver_4 (by decide) (fun c_6 => absurd c_6 (by decide)) (fun c_6 => ?_)
    refine lv_aload_n hx hb dX12_isOver_7 rfl (lv_at hl 0 rfl) ?_
    refine va_get (D := D) (ci := 12) (v := .ref a5) (C := RX12) (T := TX12) (N := 30) hx hb hts inlX12 hown hK hP 0 rfl rfl 5 (by decide) (hts _ mw_191) (fun _ h9 => h9) rfl dX12_isOver_8 ?_
    refine lv_aload_n hx hb dX12_isOver_11 rfl (lv_at hl 0 rfl) ?_
    refine va_get (D := D) (ci := 12) (v := .int (nI u11)) (C := RX12) (T := TX12) (N := 30) hx hb hts inlX12 hown hK hP 0 rfl rfl 11 (by decide) (hts _ mw_423) (fun _ h9 => h9) rfl dX12_isOver_12 ?_
    refine va_iald hx hb hK hP 2 0 rfl rfl (i := nI u11) (vp_in_nI (n := u11) (by omega) (by omega)) dX12_isOver_15 ?_
    refine kv (v := .int (tp u11)) (by rw [nI_clamp (by omega)]) ?_
    obtain ⟨x_7, ex_7⟩ : ∃ y9 : Int32, tp u11 = y9 := ⟨_, rfl⟩
    refine kv (v := .int x_7) (congrArg Value.int ex_7) ?_
    refine lv_aload_n hx hb dX12_isOver_16 rfl (lv_at hl 0 rfl) ?_
    refine va_get (D := D) (ci := 12) (v := .ref a0) (C := RX12) (T := TX12) (N := 30) hx hb hts inlX12 hown hK hP 0 rfl rfl 0 (by decide) (hts _ mw_187) (fun _ h9 => h9) rfl dX12_isOver_17 ?_
    refine lv_sipush (v := 21369) hx hb dX12_isOver_20 (by decide) ?_
    refine va_iald hx hb hK hP 1 0 rfl rfl (i := 21369) (vp_k (by decide)) dX12_isOver_23 ?_
    obtain ⟨x_8, ex_8⟩ : ∃ y9 : Int32, w 21369 = y9 := ⟨_, rfl⟩
    refine kv (v := .int x_8) (congrArg Value.int ex_8) ?_
    refine lv_icmp_ne (tgt := 31) hx hb dX12_isOver_24 (by decide) (fun c_9 => ?_) (fun c_9 => ?_)
    · refine lv_iconst (v := 0) hx hb dX12_isOver_31 (by decide) ?_
      exact cr_iret hx hb hr hlk rfl 0 rfl (by exact Or.inr ((⟨rfl, (show u11 < u6 from (by first | assumption | omega))⟩))) dX12_isOver_32
    · refine lv_iconst (v := 1) hx hb dX12_isOver_27 (by decide) ?_
      refine lv_goto (tgt := 32) hx hb dX12_isOver_28 (by decide) ?_
      exact cr_iret hx hb hr hlk rfl 1 rfl (by exact Or.inl (rfl)) dX12_isOver_32
set_option maxHeartbeats 4000000 in
set_option maxRecDepth 100000 in
theorem s_X12_blanks (l : Launch) (D : va_G) (κ : Nat → ClassId) (m0 : Nat) (a0 : Nat) (a1 : Nat) (a2 : Nat) (u3 : Nat) (f4 : Int32) (a5 : Nat) (u6 : Nat) (f7 : Int32) (f8 : Int32) (f9 : Int32) (f10 : Int32) (u11 : Nat) (u12 : Nat) (u13 : Nat) (a14 : Nat) (a15 : Nat) (a16 : Nat) (a17 : Nat) (f18 : Int32) (f19 : Int32) (a20 : Nat) (a21 : Nat) (u22 : Nat) (a23 : Nat) (a24 : Nat) (a25 : Nat) (u26 : Nat) (f27 : Int32) (a28 : Nat) (u29 : Nat) (w : Nat → Int32) (tp : Nat → Int32) (h6 : u6 ≤ 800) (h_a0 : Pw w) (h11 : u11 ≤ u6) : Ct l yX12_blanks (wl yX12_blanks cX12_blanks 1 none) { frames := 0, cells := 0, slots := 0, locals := 0 } D κ [.ref m0] [(m0, .inr (12, [.ref a0, .ref a1, .ref a2, .int (nI u3), .int f4, .ref a5, .int (nI u6), .int f7, .int f8, .int f9, .int f10, .int (nI u11), .int (nI u12), .int (nI u13), .ref a14, .ref a15, .ref a16, .ref a17, .int f18, .int f19, .ref a20, .ref a21, .int (nI u22), .ref a23, .ref a24, .ref a25, .int (nI u26), .int f27, .ref a28, .int (nI u29)])), (a0, .inl (κ 0, 21375, .inl w)), (a5, .inl (κ 0, 800, .inl tp))] (fun _ => True) (fun y11 : Nat => none) (fun y11 : Nat => u11 ≤ y11 ∧ y11 ≤ u6) (fun y11 : Nat => [(m0, .inr (12, [.ref a0, .ref a1, .ref a2, .int (nI u3), .int f4, .ref a5, .int (nI u6), .int f7, .int f8, .int f9, .int f10, .int (nI y11), .int (nI u12), .int (nI u13), .ref a14, .ref a15, .ref a16, .ref a17, .int f18, .int f19, .ref a20, .ref a21, .int (nI u22), .ref a23, .ref a24, .ref a25, .int (nI u26), .int f27, .ref a28, .int (nI u29)])), (a0, .inl (κ 0, 21375, .inl w)), (a5, .inl (κ 0, 800, .inl tp))]) (fun _ _ => True) := by
  refine ct_of (by decide +kernel) (Nat.le_of_ble_eq_true rfl) ?_
  intro p e s m args below meth c A ls hx hb hr hml hts hown hlk hin hKK hK hA hP hD hS hI hl
  have hS : va_S A s.heap s.heap [] := hS
  have hFX : FX p s m args c cX12_blanks 1 RX12 := ⟨hx, hb, hml, hown, hts⟩
  have hl : lv_has ls 1 [(0, .ref m0)] := hl
  refine loop_dn (fun k9 H locs ls => ∃ (v11_0 : Nat), (u11 ≤ v11_0) ∧ (v11_0 ≤ u6) ∧ u6 - v11_0 = k9 ∧ va_P D vwCl [(m0, .inr (12, [.ref a0, .ref a1, .ref a2, .int (nI u3), .int f4, .ref a5, .int (nI u6), .int f7, .int f8, .int f9, .int f10, .int (nI v11_0), .int (nI u12), .int (nI u13), .ref a14, .ref a15, .ref a16, .ref a17, .int f18, .int f19, .ref a20, .ref a21, .int (nI u22), .ref a23, .ref a24, .ref a25, .int (nI u26), .int f27, .ref a28, .int (nI u29)])), (a0, .inl (κ 0, 21375, .inl w)), (a5, .inl (κ 0, 800, .inl tp))] H ∧ va_D A [(m0, .inr (12, [.ref a0, .ref a1, .ref a2, .int (nI u3), .int f4, .ref a5, .int (nI u6), .int f7, .int f8, .int f9, .int f10, .int (nI v11_0), .int (nI u12), .int (nI u13), .ref a14, .ref a15, .ref a16, .ref a17, .int f18, .int f19, .ref a20, .ref a21, .int (nI u22), .ref a23, .ref a24, .ref a25, .int (nI u26), .int f27, .ref a28, .int (nI u29)])), (a0, .inl (κ 0, 21375, .inl w)), (a5, .inl (κ 0, 800, .inl tp))] ∧ va_S A s.heap H locs ∧ lv_has ls 1 [(0, .ref m0)]) (fun k9 H locs ls hI0 ih0 => ?_) (u6 - u11) _ _ _ ⟨u11, (by omega), (by omega), rfl, hP, hD, hS, lv_sub hl [0] rfl⟩
  obtain ⟨v11_0, hl0_0, hl0_1, hm0, hP, hD, hS, hl⟩ := hI0
  refine lv_aload_n hx hb dX12_blanks_0 rfl (lv_at hl 0 rfl) ?_
  refine va_get (D := D) (ci := 12) (v := .ref a0) (C := RX12) (T := TX12) (N := 30) hx hb hts inlX12 hown hK hP 0 rfl rfl 0 (by decide) (hts _ mw_187) (fun _ h9 => h9) rfl dX12_blanks_1 ?_
  refine lv_sipush (v := 21372) hx hb dX12_blanks_4 (by decide) ?_
  refine va_iald hx hb hK hP 1 0 rfl rfl (i := 21372) (vp_k (by decide)) dX12_blanks_7 ?_
  obtain ⟨x_1, ex_1⟩ : ∃ y9 : Int32, w 21372 = y9 := ⟨_, rfl⟩
  refine kv (v := .int x_1) (congrArg Value.int ex_1) ?_
  refine lv_iconst (v := 1) hx hb dX12_blanks_8 (by decide) ?_
  refine lv_icmp_ne (tgt := 50) hx hb dX12_blanks_9 (by decide) (fun c_2 => ?_) (fun c_2 => ?_)
  · exact ct_vret hx hb hr hlk hS hP hD v11_0 rfl ⟨(show u11 ≤ v11_0 from (by first | assumption | omega)), (show v11_0 ≤ u6 from (by first | assumption | omega))⟩ [0, 1, 2] rfl (by decide) trivial (Nat.le_of_ble_eq_true rfl) (Nat.le_of_ble_eq_true rfl) dX12_blanks_50
  · refine lv_aload_n hx hb dX12_blanks_12 rfl (lv_at hl 0 rfl) ?_
    refine va_get (D := D) (ci := 12) (v := .int (nI v11_0)) (C := RX12) (T := TX12) (N := 30) hx hb hts inlX12 hown hK hP 0 rfl rfl 11 (by decide) (hts _ mw_423) (fun _ h9 => h9) rfl dX12_blanks_13 ?_
    refine lv_aload_n hx hb dX12_blanks_16 rfl (lv_at hl 0 rfl) ?_
    refine va_get (D := D) (ci := 12) (v := .int (nI u6)) (C := RX12) (T := TX12) (N := 30) hx hb hts inlX12 hown hK hP 0 rfl rfl 6 (by decide) (hts _ mw_236) (fun _ h9 => h9) rfl dX12_blanks_17 ?_
    refine lv_icmp_ge (tgt := 50) hx hb dX12_blanks_20 (by decide) (fun c_3 => ?_) (fun c_3 => ?_)
    · have nc_3 := cv_le (a := u6) (b := v11_0) (by omega) (by omega) c_3
      exact ct_vret hx hb hr hlk hS hP hD v11_0 rfl ⟨(show u11 ≤ v11_0 from (by first | assumption | omega)), (show v11_0 ≤ u6 from (by first | assumption | omega))⟩ [0, 1, 2] rfl (by decide) trivial (Nat.le_of_ble_eq_true rfl) (Nat.le_of_ble_eq_true rfl) dX12_blanks_50
    · have nc_3 := cv_nle (a := u6) (b := v11_0) (by omega) (by omega) c_3
      refine lv_aload_n hx hb dX12_blanks_23 rfl (lv_at hl 0 rfl) ?_
      refine va_get (D := D) (ci := 12) (v := .ref a5) (C := RX12) (T := TX12) (N := 30) hx hb hts inlX12 hown hK hP 0 rfl rfl 5 (by decide) (hts _ mw_191) (fun _ h9 => h9) rfl dX12_blanks_24 ?_
      refine lv_aload_n hx hb dX12_blanks_27 rfl (lv_at hl 0 rfl) ?_
      refine va_get (D := D) (ci := 12) (v := .int (nI v11_0)) (C := RX12) (T := TX12) (N := 30) hx hb hts inlX12 hown hK hP 0 rfl rfl 11 (by decide) (hts _ mw_423) (fun _ h9 => h9) rfl dX12_blanks_28 ?_
      refine va_iald hx hb hK hP 2 0 rfl rfl (i := nI v11_0) (vp_in_nI (n := v11_0) (by omega) (by omega)) dX12_blanks_31 ?_
      refine kv (v := .int (tp v11_0)) (by rw [nI_clamp (by omega)]) ?_
      obtain ⟨x_4, ex_4⟩ : ∃ y9 : Int32, tp v11_0 = y9 := ⟨_, rfl⟩
      refine kv (v := .int x_4) (congrArg Value.int ex_4) ?_
      refine lv_bipush (v := 32) hx hb dX12_blanks_32 (by decide) ?_
      refine lv_icmp_ne (tgt := 50) hx hb dX12_blanks_34 (by decide) (fun c_5 => ?_) (fun c_5 => ?_)
      · exact ct_vret hx hb hr hlk hS hP hD v11_0 rfl ⟨(show u11 ≤ v11_0 from (by first | assumption | omega)), (show v11_0 ≤ u6 from (by first | assumption | omega))⟩ [0, 1, 2] rfl (by decide) trivial (Nat.le_of_ble_eq_true rfl) (Nat.le_of_ble_eq_true rfl) dX12_blanks_50
      · refine lv_aload_n hx hb dX12_blanks_37 rfl (lv_at hl 0 rfl) ?_
        refine lv_dup hx hb dX12_blanks_38 rfl ?_
        refine va_get (D := D) (ci := 12) (v := .int (nI v11_0)) (C := RX12) (T := TX12) (N := 30) hx hb hts inlX12 hown hK hP 0 rfl rfl 11 (by decide) (hts _ mw_423) (fun _ h9 => h9) rfl dX12_blanks_39 ?_
        refine lv_iconst (v := 1) hx hb dX12_blanks_42 (by decide) ?_
        refine lv_iadd hx hb dX12_blanks_43 ?_
        refine ki (v := (nI (v11_0 + 1))) (nI_add v11_0 1) ?_
        refine va_put (D := D) (ci := 12) (v := .int (nI (v11_0 + 1))) (ty := tyX12 11) (C := RX12) (T := TX12) (N := 30) hx hb hts inlX12 tyX12 tyX12_ok nmX12 hown hK hP hD hS 0 rfl rfl 11 (by decide) (hts _ mw_423) (fun _ h9 => h9) rfl (tyX12_ok 11 (by decide)) rfl rfl (Nat.le_of_ble_eq_true rfl) dX12_blanks_44 (fun H locs hP hD hS => ?_)
        have hP : va_P D vwCl [(m0, .inr (12, [.ref a0, .ref a1, .ref a2, .int (nI u3), .int f4, .ref a5, .int (nI u6), .int f7, .int f8, .int f9, .int f10, .int (nI (v11_0 + 1)), .int (nI u12), .int (nI u13), .ref a14, .ref a15, .ref a16, .ref a17, .int f18, .int f19, .ref a20, .ref a21, .int (nI u22), .ref a23, .ref a24, .ref a25, .int (nI u26), .int f27, .ref a28, .int (nI u29)])), (a0, .inl (κ 0, 21375, .inl w)), (a5, .inl (κ 0, 800, .inl tp))] H := hP
        have hD : va_D A [(m0, .inr (12, [.ref a0, .ref a1, .ref a2, .int (nI u3), .int f4, .ref a5, .int (nI u6), .int f7, .int f8, .int f9, .int f10, .int (nI (v11_0 + 1)), .int (nI u12), .int (nI u13), .ref a14, .ref a15, .ref a16, .ref a17, .int f18, .int f19, .ref a20, .ref a21, .int (nI u22), .ref a23, .ref a24, .ref a25, .int (nI u26), .int f27, .ref a28, .int (nI u29)])), (a0, .inl (κ 0, 21375, .inl w)), (a5, .inl (κ 0, 800, .inl tp))] := hD
        refine lv_goto (tgt := 0) hx hb dX12_blanks_47 (by decide) ?_
        exact ih0 _ _ _ _ (by omega) ⟨(v11_0 + 1), (by omega), (by omega), rfl, hP, hD, hS, lv_sub hl [0] rfl⟩
set_option maxHeartbeats 4000000 in
set_option maxRecDepth 100000 in
theorem s_X12_wrong (l : Launch) (D : va_G) (κ : Nat → ClassId) (m0 : Nat) (a0 : Nat) (a1 : Nat) (a2 : Nat) (u3 : Nat) (f4 : Int32) (a5 : Nat) (u6 : Nat) (f7 : Int32) (f8 : Int32) (f9 : Int32) (f10 : Int32) (u11 : Nat) (u12 : Nat) (u13 : Nat) (a14 : Nat) (a15 : Nat) (a16 : Nat) (a17 : Nat) (f18 : Int32) (f19 : Int32) (a20 : Nat) (a21 : Nat) (u22 : Nat) (a23 : Nat) (a24 : Nat) (a25 : Nat) (u26 : Nat) (f27 : Int32) (a28 : Nat) (u29 : Nat) (za : Int32) (zb : Int32) (zc : Int32) : Ct l yX12_wrong (wl yX12_wrong cX12_wrong 4 (some .boolean)) { frames := 0, cells := 0, slots := 0, locals := 0 } D κ [.ref m0, .int za, .int zb, .int zc] [(m0, .inr (12, [.ref a0, .ref a1, .ref a2, .int (nI u3), .int f4, .ref a5, .int (nI u6), .int f7, .int f8, .int f9, .int f10, .int (nI u11), .int (nI u12), .int (nI u13), .ref a14, .ref a15, .ref a16, .ref a17, .int f18, .int f19, .ref a20, .ref a21, .int (nI u22), .ref a23, .ref a24, .ref a25, .int (nI u26), .int f27, .ref a28, .int (nI u29)]))] (fun _ => True) (fun _ : Unit => some (.int 0)) (fun _ : Unit => True) (fun _ : Unit => [(m0, .inr (12, [.ref a0, .ref a1, .ref a2, .int (nI u3), .int f4, .ref a5, .int (nI u6), .int za, .int zb, .int zc, .int f10, .int (nI u11), .int (nI u12), .int (nI u13), .ref a14, .ref a15, .ref a16, .ref a17, .int f18, .int f19, .ref a20, .ref a21, .int (nI u22), .ref a23, .ref a24, .ref a25, .int (nI u26), .int f27, .ref a28, .int (nI u29)]))]) (fun _ _ => True) := by
  refine ct_of (by decide +kernel) (Nat.le_of_ble_eq_true rfl) ?_
  intro p e s m args below meth c A ls hx hb hr hml hts hown hlk hin hKK hK hA hP hD hS hI hl
  have hS : va_S A s.heap s.heap [] := hS
  have hFX : FX p s m args c cX12_wrong 4 RX12 := ⟨hx, hb, hml, hown, hts⟩
  have hl : lv_has ls 4 [(0, .ref m0), (1, .int za), (2, .int zb), (3, .int zc)] := hl
  refine lv_aload_n hx hb dX12_wrong_0 rfl (lv_at hl 0 rfl) ?_
  refine lv_iload_n hx hb dX12_wrong_1 rfl (lv_at hl 1 rfl) ?_
  refine va_put (D := D) (ci := 12) (v := .int za) (ty := tyX12 7) (C := RX12) (T := TX12) (N := 30) hx hb hts inlX12 tyX12 tyX12_ok nmX12 hown hK hP hD hS 0 rfl rfl 7 (by decide) (hts _ mw_418) (fun _ h9 => h9) rfl (tyX12_ok 7 (by decide)) rfl rfl (Nat.le_of_ble_eq_true rfl) dX12_wrong_2 (fun H locs hP hD hS => ?_)
  have hP : va_P D vwCl [(m0, .inr (12, [.ref a0, .ref a1, .ref a2, .int (nI u3), .int f4, .ref a5, .int (nI u6), .int za, .int f8, .int f9, .int f10, .int (nI u11), .int (nI u12), .int (nI u13), .ref a14, .ref a15, .ref a16, .ref a17, .int f18, .int f19, .ref a20, .ref a21, .int (nI u22), .ref a23, .ref a24, .ref a25, .int (nI u26), .int f27, .ref a28, .int (nI u29)]))] H := hP
  have hD : va_D A [(m0, .inr (12, [.ref a0, .ref a1, .ref a2, .int (nI u3), .int f4, .ref a5, .int (nI u6), .int za, .int f8, .int f9, .int f10, .int (nI u11), .int (nI u12), .int (nI u13), .ref a14, .ref a15, .ref a16, .ref a17, .int f18, .int f19, .ref a20, .ref a21, .int (nI u22), .ref a23, .ref a24, .ref a25, .int (nI u26), .int f27, .ref a28, .int (nI u29)]))] := hD
  refine lv_aload_n hx hb dX12_wrong_5 rfl (lv_at hl 0 rfl) ?_
  refine lv_iload_n hx hb dX12_wrong_6 rfl (lv_at hl 2 rfl) ?_
  refine va_put (D := D) (ci := 12) (v := .int zb) (ty := tyX12 8) (C := RX12) (T := TX12) (N := 30) hx hb hts inlX12 tyX12 tyX12_ok nmX12 hown hK hP hD hS 0 rfl rfl 8 (by decide) (hts _ mw_192) (fun _ h9 => h9) rfl (tyX12_ok 8 (by decide)) rfl rfl (Nat.le_of_ble_eq_true rfl) dX12_wrong_7 (fun H locs hP hD hS => ?_)
  have hP : va_P D vwCl [(m0, .inr (12, [.ref a0, .ref a1, .ref a2, .int (nI u3), .int f4, .ref a5, .int (nI u6), .int za, .int zb, .int f9, .int f10, .int (nI u11), .int (nI u12), .int (nI u13), .ref a14, .ref a15, .ref a16, .ref a17, .int f18, .int f19, .ref a20, .ref a21, .int (nI u22), .ref a23, .ref a24, .ref a25, .int (nI u26), .int f27, .ref a28, .int (nI u29)]))] H := hP
  have hD : va_D A [(m0, .inr (12, [.ref a0, .ref a1, .ref a2, .int (nI u3), .int f4, .ref a5, .int (nI u6), .int za, .int zb, .int f9, .int f10, .int (nI u11), .int (nI u12), .int (nI u13), .ref a14, .ref a15, .ref a16, .ref a17, .int f18, .int f19, .ref a20, .ref a21, .int (nI u22), .ref a23, .ref a24, .ref a25, .int (nI u26), .int f27, .ref a28, .int (nI u29)]))] := hD
  refine lv_aload_n hx hb dX12_wrong_10 rfl (lv_at hl 0 rfl) ?_
  refine lv_iload_n hx hb dX12_wrong_11 rfl (lv_at hl 3 rfl) ?_
  refine va_put (D := D) (ci := 12) (v := .int zc) (ty := tyX12 9) (C := RX12) (T := TX12) (N := 30) hx hb hts inlX12 tyX12 tyX12_ok nmX12 hown hK hP hD hS 0 rfl rfl 9 (by decide) (hts _ mw_193) (fun _ h9 => h9) rfl (tyX12_ok 9 (by decide)) rfl rfl (Nat.le_of_ble_eq_true rfl) dX12_wrong_12 (fun H locs hP hD hS => ?_)
  have hP : va_P D vwCl [(m0, .inr (12, [.ref a0, .ref a1, .ref a2, .int (nI u3), .int f4, .ref a5, .int (nI u6), .int za, .int zb, .int zc, .int f10, .int (nI u11), .int (nI u12), .int (nI u13), .ref a14, .ref a15, .ref a16, .ref a17, .int f18, .int f19, .ref a20, .ref a21, .int (nI u22), .ref a23, .ref a24, .ref a25, .int (nI u26), .int f27, .ref a28, .int (nI u29)]))] H := hP
  have hD : va_D A [(m0, .inr (12, [.ref a0, .ref a1, .ref a2, .int (nI u3), .int f4, .ref a5, .int (nI u6), .int za, .int zb, .int zc, .int f10, .int (nI u11), .int (nI u12), .int (nI u13), .ref a14, .ref a15, .ref a16, .ref a17, .int f18, .int f19, .ref a20, .ref a21, .int (nI u22), .ref a23, .ref a24, .ref a25, .int (nI u26), .int f27, .ref a28, .int (nI u29)]))] := hD
  refine lv_iconst (v := 0) hx hb dX12_wrong_15 (by decide) ?_
  exact ct_iret hx hb hr hlk rfl hS hP hD () rfl trivial [0] rfl (by decide) trivial (Nat.le_of_ble_eq_true rfl) (Nat.le_of_ble_eq_true rfl) dX12_wrong_16
set_option maxHeartbeats 4000000 in
set_option maxRecDepth 100000 in
theorem s_X12_goesOn (l : Launch) (D : va_G) (κ : Nat → ClassId) (m0 : Nat) (a0 : Nat) (a1 : Nat) (a2 : Nat) (u3 : Nat) (f4 : Int32) (a5 : Nat) (u6 : Nat) (f7 : Int32) (f8 : Int32) (f9 : Int32) (f10 : Int32) (u11 : Nat) (u12 : Nat) (u13 : Nat) (a14 : Nat) (a15 : Nat) (a16 : Nat) (a17 : Nat) (f18 : Int32) (f19 : Int32) (a20 : Nat) (a21 : Nat) (u22 : Nat) (a23 : Nat) (a24 : Nat) (a25 : Nat) (u26 : Nat) (f27 : Int32) (a28 : Nat) (u29 : Nat) (h6 : u6 ≤ 800) (h11 : u11 ≤ u6) : Ct l yX12_goesOn (wl yX12_goesOn cX12_goesOn 1 none) { frames := 0, cells := 0, slots := 0, locals := 0 } D κ [.ref m0] [(m0, .inr (12, [.ref a0, .ref a1, .ref a2, .int (nI u3), .int f4, .ref a5, .int (nI u6), .int f7, .int f8, .int f9, .int f10, .int (nI u11), .int (nI u12), .int (nI u13), .ref a14, .ref a15, .ref a16, .ref a17, .int f18, .int f19, .ref a20, .ref a21, .int (nI u22), .ref a23, .ref a24, .ref a25, .int (nI u26), .int f27, .ref a28, .int (nI u29)]))] (fun _ => True) (fun y11 : Nat => none) (fun y11 : Nat => u11 ≤ y11 ∧ y11 ≤ u6) (fun y11 : Nat => [(m0, .inr (12, [.ref a0, .ref a1, .ref a2, .int (nI u3), .int f4, .ref a5, .int (nI u6), .int f7, .int f8, .int f9, .int f10, .int (nI y11), .int (nI u12), .int (nI u13), .ref a14, .ref a15, .ref a16, .ref a17, .int f18, .int f19, .ref a20, .ref a21, .int (nI u22), .ref a23, .ref a24, .ref a25, .int (nI u26), .int f27, .ref a28, .int (nI u29)]))]) (fun _ _ => True) := by
  refine ct_of (by decide +kernel) (Nat.le_of_ble_eq_true rfl) ?_
  intro p e s m args below meth c A ls hx hb hr hml hts hown hlk hin hKK hK hA hP hD hS hI hl
  have hS : va_S A s.heap s.heap [] := hS
  have hFX : FX p s m args c cX12_goesOn 1 RX12 := ⟨hx, hb, hml, hown, hts⟩
  have hl : lv_has ls 1 [(0, .ref m0)] := hl
  refine lv_aload_n hx hb dX12_goesOn_0 rfl (lv_at hl 0 rfl) ?_
  refine va_get (D := D) (ci := 12) (v := .int (nI u11)) (C := RX12) (T := TX12) (N := 30) hx hb hts inlX12 hown hK hP 0 rfl rfl 11 (by decide) (hts _ mw_423) (fun _ h9 => h9) rfl dX12_goesOn_1 ?_
  refine lv_aload_n hx hb dX12_goesOn_4 rfl (lv_at hl 0 rfl) ?_
  refine va_get (D := D) (ci := 12) (v := .int (nI u6)) (C := RX12) (T := TX12) (N := 30) hx hb hts inlX12 hown hK hP 0 rfl rfl 6 (by decide) (hts _ mw_236) (fun _ h9 => h9) rfl dX12_goesOn_5 ?_
  refine lv_icmp_ge (tgt := 21) hx hb dX12_goesOn_8 (by decide) (fun c_1 => ?_) (fun c_1 => ?_)
  · have nc_1 := cv_le (a := u6) (b := u11) (by omega) (by omega) c_1
    exact ct_vret hx hb hr hlk hS hP hD u11 rfl ⟨(show u11 ≤ u11 from (by first | assumption | omega)), (show u11 ≤ u6 from (by first | assumption | omega))⟩ [0] rfl (by decide) trivial (Nat.le_of_ble_eq_true rfl) (Nat.le_of_ble_eq_true rfl) dX12_goesOn_21
  · have nc_1 := cv_nle (a := u6) (b := u11) (by omega) (by omega) c_1
    refine lv_aload_n hx hb dX12_goesOn_11 rfl (lv_at hl 0 rfl) ?_
    refine lv_dup hx hb dX12_goesOn_12 rfl ?_
    refine va_get (D := D) (ci := 12) (v := .int (nI u11)) (C := RX12) (T := TX12) (N := 30) hx hb hts inlX12 hown hK hP 0 rfl rfl 11 (by decide) (hts _ mw_423) (fun _ h9 => h9) rfl dX12_goesOn_13 ?_
    refine lv_iconst (v := 1) hx hb dX12_goesOn_16 (by decide) ?_
    refine lv_iadd hx hb dX12_goesOn_17 ?_
    refine ki (v := (nI (u11 + 1))) (nI_add u11 1) ?_
    refine va_put (D := D) (ci := 12) (v := .int (nI (u11 + 1))) (ty := tyX12 11) (C := RX12) (T := TX12) (N := 30) hx hb hts inlX12 tyX12 tyX12_ok nmX12 hown hK hP hD hS 0 rfl rfl 11 (by decide) (hts _ mw_423) (fun _ h9 => h9) rfl (tyX12_ok 11 (by decide)) rfl rfl (Nat.le_of_ble_eq_true rfl) dX12_goesOn_18 (fun H locs hP hD hS => ?_)
    have hP : va_P D vwCl [(m0, .inr (12, [.ref a0, .ref a1, .ref a2, .int (nI u3), .int f4, .ref a5, .int (nI u6), .int f7, .int f8, .int f9, .int f10, .int (nI (u11 + 1)), .int (nI u12), .int (nI u13), .ref a14, .ref a15, .ref a16, .ref a17, .int f18, .int f19, .ref a20, .ref a21, .int (nI u22), .ref a23, .ref a24, .ref a25, .int (nI u26), .int f27, .ref a28, .int (nI u29)]))] H := hP
    have hD : va_D A [(m0, .inr (12, [.ref a0, .ref a1, .ref a2, .int (nI u3), .int f4, .ref a5, .int (nI u6), .int f7, .int f8, .int f9, .int f10, .int (nI (u11 + 1)), .int (nI u12), .int (nI u13), .ref a14, .ref a15, .ref a16, .ref a17, .int f18, .int f19, .ref a20, .ref a21, .int (nI u22), .ref a23, .ref a24, .ref a25, .int (nI u26), .int f27, .ref a28, .int (nI u29)]))] := hD
    exact ct_vret hx hb hr hlk hS hP hD (u11 + 1) rfl ⟨(show u11 ≤ (u11 + 1) from (by first | assumption | omega)), (show (u11 + 1) ≤ u6 from (by first | assumption | omega))⟩ [0] rfl (by decide) trivial (Nat.le_of_ble_eq_true rfl) (Nat.le_of_ble_eq_true rfl) dX12_goesOn_21
set_option maxHeartbeats 4000000 in
set_option maxRecDepth 100000 in
theorem s_X12_adds (l : Launch) (D : va_G) (κ : Nat → ClassId) (m0 : Nat) (a0 : Nat) (a1 : Nat) (a2 : Nat) (u3 : Nat) (f4 : Int32) (a5 : Nat) (u6 : Nat) (f7 : Int32) (f8 : Int32) (f9 : Int32) (f10 : Int32) (u11 : Nat) (u12 : Nat) (u13 : Nat) (a14 : Nat) (a15 : Nat) (a16 : Nat) (a17 : Nat) (f18 : Int32) (f19 : Int32) (a20 : Nat) (a21 : Nat) (u22 : Nat) (a23 : Nat) (a24 : Nat) (a25 : Nat) (u26 : Nat) (f27 : Int32) (a28 : Nat) (u29 : Nat) (fd : Nat → Int32) (zb : Int32) (a : Nat) (h_a14 : Pfd fd) (ha : a < 9) : Ct l yX12_adds (wl yX12_adds cX12_adds 4 (some .boolean)) { frames := 0, cells := 0, slots := 0, locals := 0 } D κ [.ref m0, .int (nI a), .int zb] [(m0, .inr (12, [.ref a0, .ref a1, .ref a2, .int (nI u3), .int f4, .ref a5, .int (nI u6), .int f7, .int f8, .int f9, .int f10, .int (nI u11), .int (nI u12), .int (nI u13), .ref a14, .ref a15, .ref a16, .ref a17, .int f18, .int f19, .ref a20, .ref a21, .int (nI u22), .ref a23, .ref a24, .ref a25, .int (nI u26), .int f27, .ref a28, .int (nI u29)])), (a14, .inl (κ 0, 189, .inl fd))] (fun _ => True) (fun u9 : Int32 × (Nat → Int32) => some (.int u9.1)) (fun u9 : Int32 × (Nat → Int32) => Pfd u9.2 ∧ ((u9.1 = 1) ∨ (u9.1 = 0))) (fun u9 : Int32 × (Nat → Int32) => [(m0, .inr (12, [.ref a0, .ref a1, .ref a2, .int (nI u3), .int f4, .ref a5, .int (nI u6), .int f7, .int f8, .int f9, .int f10, .int (nI u11), .int (nI u12), .int (nI u13), .ref a14, .ref a15, .ref a16, .ref a17, .int f18, .int f19, .ref a20, .ref a21, .int (nI u22), .ref a23, .ref a24, .ref a25, .int (nI u26), .int f27, .ref a28, .int (nI u29)])), (a14, .inl (κ 0, 189, .inl u9.2))]) (fun _ _ => True) := by
  refine ct_of (by decide +kernel) (Nat.le_of_ble_eq_true rfl) ?_
  intro p e s m args below meth c A ls hx hb hr hml hts hown hlk hin hKK hK hA hP hD hS hI hl
  have hS : va_S A s.heap s.heap [] := hS
  have hFX : FX p s m args c cX12_adds 4 RX12 := ⟨hx, hb, hml, hown, hts⟩
  have hl : lv_has ls 4 [(0, .ref m0), (1, .int (nI a)), (2, .int zb)] := hl
  refine lv_bipush (v := 21) hx hb dX12_adds_0 (by decide) ?_
  refine lv_iload_n hx hb dX12_adds_2 rfl (lv_at hl 1 rfl) ?_
  refine lv_imul hx hb dX12_adds_3 ?_
  refine ki (v := (nI (21 * a))) (pk_mul 21 a) ?_
  refine lv_istore_n (lv' := [(3, .int (nI (21 * a))), (0, .ref m0), (1, .int (nI a)), (2, .int zb)]) hx hb dX12_adds_4 rfl hl (by decide) rfl (fun ls hl => ?_)
  refine lv_aload_n hx hb dX12_adds_5 rfl (lv_at hl 1 rfl) ?_
  refine va_get (D := D) (ci := 12) (v := .ref a14) (C := RX12) (T := TX12) (N := 30) hx hb hts inlX12 hown hK hP 0 rfl rfl 14 (by decide) (hts _ mw_194) (fun _ h9 => h9) rfl dX12_adds_6 ?_
  refine lv_iload_n hx hb dX12_adds_9 rfl (lv_at hl 0 rfl) ?_
  refine va_iald hx hb hK hP 1 0 rfl rfl (i := nI (21 * a)) (vp_in_nI (n := (21 * a)) (by omega) (by omega)) dX12_adds_10 ?_
  refine kv (v := .int (fd (21 * a))) (by rw [nI_clamp (by omega)]) ?_
  obtain ⟨n_1, hn_1, en_1⟩ : ∃ n9 : Nat, n9 ≤ 20 ∧ fd (21 * a) = nI n9 := id ((pfd h_a14 (c := a) (by omega) (by omega)))
  refine kv (v := .int (nI n_1)) (congrArg Value.int en_1) ?_
  refine lv_bipush (v := 20) hx hb dX12_adds_11 (by decide) ?_
  refine lv_icmp_ne (tgt := 18) hx hb dX12_adds_13 (by decide) (fun c_2 => ?_) (fun c_2 => ?_)
  · have nc_2 := cv_ne (a := n_1) (b := 20) (by omega) (by omega) c_2
    refine lv_aload_n hx hb dX12_adds_18 rfl (lv_at hl 1 rfl) ?_
    refine va_get (D := D) (ci := 12) (v := .ref a14) (C := RX12) (T := TX12) (N := 30) hx hb hts inlX12 hown hK hP 0 rfl rfl 14 (by decide) (hts _ mw_194) (fun _ h9 => h9) rfl dX12_adds_19 ?_
    refine lv_iload_n hx hb dX12_adds_22 rfl (lv_at hl 0 rfl) ?_
    refine lv_iconst (v := 1) hx hb dX12_adds_23 (by decide) ?_
    refine lv_iadd hx hb dX12_adds_24 ?_
    refine ki (v := (nI (21 * a + 1))) (nI_add (21 * a) 1) ?_
    refine lv_aload_n hx hb dX12_adds_25 rfl (lv_at hl 1 rfl) ?_
    refine va_get (D := D) (ci := 12) (v := .ref a14) (C := RX12) (T := TX12) (N := 30) hx hb hts inlX12 hown hK hP 0 rfl rfl 14 (by decide) (hts _ mw_194) (fun _ h9 => h9) rfl dX12_adds_26 ?_
    refine lv_iload_n hx hb dX12_adds_29 rfl (lv_at hl 0 rfl) ?_
    refine va_iald hx hb hK hP 1 0 rfl rfl (i := nI (21 * a)) (vp_in_nI (n := (21 * a)) (by omega) (by omega)) dX12_adds_30 ?_
    refine kv (v := .int (nI n_1)) (by rw [nI_clamp (by omega), show fd (21 * a) = (nI n_1) from en_1]) ?_
    refine lv_iadd hx hb dX12_adds_31 ?_
    refine ki (v := (nI (21 * a + 1 + n_1))) (nI_add (21 * a + 1) n_1) ?_
    refine lv_iload_n hx hb dX12_adds_32 rfl (lv_at hl 3 rfl) ?_
    refine va_iast hx hb hK hP hD hS 1 0 rfl rfl (i := nI (21 * a + 1 + n_1)) (x := zb) (vp_in_nI (n := (21 * a + 1 + n_1)) (by omega) (by omega)) dX12_adds_33 (fun H locs hP hD hS => ?_)
    rw [nI_clamp (by omega)] at hP hD
    have hP : va_P D vwCl [(m0, .inr (12, [.ref a0, .ref a1, .ref a2, .int (nI u3), .int f4, .ref a5, .int (nI u6), .int f7, .int f8, .int f9, .int f10, .int (nI u11), .int (nI u12), .int (nI u13), .ref a14, .ref a15, .ref a16, .ref a17, .int f18, .int f19, .ref a20, .ref a21, .int (nI u22), .ref a23, .ref a24, .ref a25, .int (nI u26), .int f27, .ref a28, .int (nI u29)])), (a14, .inl (κ 0, 189, .inl (upd fd (21 * a + 1 + n_1) zb)))] H := hP
    have hD : va_D A [(m0, .inr (12, [.ref a0, .ref a1, .ref a2, .int (nI u3), .int f4, .ref a5, .int (nI u6), .int f7, .int f8, .int f9, .int f10, .int (nI u11), .int (nI u12), .int (nI u13), .ref a14, .ref a15, .ref a16, .ref a17, .int f18, .int f19, .ref a20, .ref a21, .int (nI u22), .ref a23, .ref a24, .ref a25, .int (nI u26), .int f27, .ref a28, .int (nI u29)])), (a14, .inl (κ 0, 189, .inl (upd fd (21 * a + 1 + n_1) zb)))] := hD
    have hf_4 : Pfd (upd fd (21 * a + 1 + n_1) zb) := (Pfd_free h_a14 (by intro c9 hc9; omega))
    have hq : (upd fd (21 * a + 1 + n_1) zb) (21 * a) = nI n_1 := ((pk_un (by omega)).trans en_1)
    generalize upd fd (21 * a + 1 + n_1) zb = g_3 at hP hD hf_4 hq
    refine lv_aload_n hx hb dX12_adds_34 rfl (lv_at hl 1 rfl) ?_
    refine va_get (D := D) (ci := 12) (v := .ref a14) (C := RX12) (T := TX12) (N := 30) hx hb hts inlX12 hown hK hP 0 rfl rfl 14 (by decide) (hts _ mw_194) (fun _ h9 => h9) rfl dX12_adds_35 ?_
    refine lv_iload_n hx hb dX12_adds_38 rfl (lv_at hl 0 rfl) ?_
    refine lv_dup2_11 hx hb dX12_adds_39 rfl rfl ?_
    refine va_iald hx hb hK hP 1 0 rfl rfl (i := nI (21 * a)) (vp_in_nI (n := (21 * a)) (by omega) (by omega)) dX12_adds_40 ?_
    refine kv (v := .int (g_3 (21 * a))) (by rw [nI_clamp (by omega)]) ?_
    refine kv (v := .int (nI n_1)) (congrArg Value.int hq) ?_
    refine lv_iconst (v := 1) hx hb dX12_adds_41 (by decide) ?_
    refine lv_iadd hx hb dX12_adds_42 ?_
    refine ki (v := (nI (n_1 + 1))) (nI_add n_1 1) ?_
    refine va_iast hx hb hK hP hD hS 1 0 rfl rfl (i := nI (21 * a)) (x := nI (n_1 + 1)) (vp_in_nI (n := (21 * a)) (by omega) (by omega)) dX12_adds_43 (fun H locs hP hD hS => ?_)
    rw [nI_clamp (by omega)] at hP hD
    have hP : va_P D vwCl [(m0, .inr (12, [.ref a0, .ref a1, .ref a2, .int (nI u3), .int f4, .ref a5, .int (nI u6), .int f7, .int f8, .int f9, .int f10, .int (nI u11), .int (nI u12), .int (nI u13), .ref a14, .ref a15, .ref a16, .ref a17, .int f18, .int f19, .ref a20, .ref a21, .int (nI u22), .ref a23, .ref a24, .ref a25, .int (nI u26), .int f27, .ref a28, .int (nI u29)])), (a14, .inl (κ 0, 189, .inl (upd g_3 (21 * a) (nI (n_1 + 1)))))] H := hP
    have hD : va_D A [(m0, .inr (12, [.ref a0, .ref a1, .ref a2, .int (nI u3), .int f4, .ref a5, .int (nI u6), .int f7, .int f8, .int f9, .int f10, .int (nI u11), .int (nI u12), .int (nI u13), .ref a14, .ref a15, .ref a16, .ref a17, .int f18, .int f19, .ref a20, .ref a21, .int (nI u22), .ref a23, .ref a24, .ref a25, .int (nI u26), .int f27, .ref a28, .int (nI u29)])), (a14, .inl (κ 0, 189, .inl (upd g_3 (21 * a) (nI (n_1 + 1)))))] := hD
    have hf_6 : Pfd (upd g_3 (21 * a) (nI (n_1 + 1))) := (Pfd_upd hf_4 (c := a) (by omega) ⟨n_1 + 1, by omega, rfl⟩)
    generalize upd g_3 (21 * a) (nI (n_1 + 1)) = g_5 at hP hD hf_6
    refine lv_iconst (v := 1) hx hb dX12_adds_44 (by decide) ?_
    exact ct_iret hx hb hr hlk rfl hS hP hD (1, g_5) rfl ⟨(show Pfd g_5 from (by first | assumption | omega)), (by exact Or.inl (rfl))⟩ [0, 1] rfl (by decide) trivial (Nat.le_of_ble_eq_true rfl) (Nat.le_of_ble_eq_true rfl) dX12_adds_45
  · have nc_2 := cv_eq (a := n_1) (b := 20) (by omega) (by omega) c_2
    refine lv_iconst (v := 0) hx hb dX12_adds_16 (by decide) ?_
    exact ct_iret hx hb hr hlk rfl hS hP hD (0, fd) rfl ⟨(show Pfd fd from (by first | assumption | omega)), (by exact Or.inr ((rfl)))⟩ [0, 1] rfl (by decide) trivial (Nat.le_of_ble_eq_true rfl) (Nat.le_of_ble_eq_true rfl) dX12_adds_17
set_option maxHeartbeats 4000000 in
set_option maxRecDepth 100000 in
theorem s_X12_plain (l : Launch) (D : va_G) (κ : Nat → ClassId) (m0 : Nat) (a0 : Nat) (a1 : Nat) (a2 : Nat) (u3 : Nat) (f4 : Int32) (a5 : Nat) (u6 : Nat) (f7 : Int32) (f8 : Int32) (f9 : Int32) (f10 : Int32) (u11 : Nat) (u12 : Nat) (u13 : Nat) (a14 : Nat) (a15 : Nat) (a16 : Nat) (a17 : Nat) (f18 : Int32) (f19 : Int32) (a20 : Nat) (a21 : Nat) (u22 : Nat) (a23 : Nat) (a24 : Nat) (a25 : Nat) (u26 : Nat) (f27 : Int32) (a28 : Nat) (u29 : Nat) (w : Nat → Int32) (tp : Nat → Int32) (fd : Nat → Int32) (a : Nat) (h6 : u6 ≤ 800) (h8 : PF f8) (h_a0 : Pw w) (h_a14 : Pfd fd) (h11 : u11 ≤ u6) (ha : a < 9) : Ct l yX12_plain (wl yX12_plain cX12_plain 4 (some .boolean)) { frames := 2, cells := 0, slots := 0, locals := 47 } D κ [.ref m0, .int (nI a)] [(m0, .inr (12, [.ref a0, .ref a1, .ref a2, .int (nI u3), .int f4, .ref a5, .int (nI u6), .int f7, .int f8, .int f9, .int f10, .int (nI u11), .int (nI u12), .int (nI u13), .ref a14, .ref a15, .ref a16, .ref a17, .int f18, .int f19, .ref a20, .ref a21, .int (nI u22), .ref a23, .ref a24, .ref a25, .int (nI u26), .int f27, .ref a28, .int (nI u29)])), (a0, .inl (κ 0, 21375, .inl w)), (a5, .inl (κ 0, 800, .inl tp)), (a14, .inl (κ 0, 189, .inl fd))] (fun _ => True) (fun u9 : Int32 × Int32 × Int32 × Int32 × Nat × (Nat → Int32) => some (.int u9.1)) (fun u9 : Int32 × Int32 × Int32 × Int32 × Nat × (Nat → Int32) => PF u9.2.2.1 ∧ Pfd u9.2.2.2.2.2 ∧ u11 ≤ u9.2.2.2.2.1 ∧ u9.2.2.2.2.1 ≤ u6 ∧ ((u9.1 = 1) ∨ (u9.1 = 0))) (fun u9 : Int32 × Int32 × Int32 × Int32 × Nat × (Nat → Int32) => [(m0, .inr (12, [.ref a0, .ref a1, .ref a2, .int (nI u3), .int f4, .ref a5, .int (nI u6), .int u9.2.1, .int u9.2.2.1, .int u9.2.2.2.1, .int f10, .int (nI u9.2.2.2.2.1), .int (nI u12), .int (nI u13), .ref a14, .ref a15, .ref a16, .ref a17, .int f18, .int f19, .ref a20, .ref a21, .int (nI u22), .ref a23, .ref a24, .ref a25, .int (nI u26), .int f27, .ref a28, .int (nI u29)])), (a0, .inl (κ 0, 21375, .inl w)), (a5, .inl (κ 0, 800, .inl tp)), (a14, .inl (κ 0, 189, .inl u9.2.2.2.2.2))]) (fun _ _ => True) := by
  refine ct_of (by decide +kernel) (Nat.le_of_ble_eq_true rfl) ?_
  intro p e s m args below meth c A ls hx hb hr hml hts hown hlk hin hKK hK hA hP hD hS hI hl
  have hS : va_S A s.heap s.heap [] := hS
  have hFX : FX p s m args c cX12_plain 4 RX12 := ⟨hx, hb, hml, hown, hts⟩
  have hl : lv_has ls 4 [(0, .ref m0), (1, .int (nI a))] := hl
  refine lv_iconst (v := 0) hx hb dX12_plain_0 (by decide) ?_
  refine lv_istore_n (lv' := [(2, .int 0), (0, .ref m0), (1, .int (nI a))]) hx hb dX12_plain_1 rfl hl (by decide) rfl (fun ls hl => ?_)
  refine loop_dn (fun k9 H locs ls => ∃ (k2_2 : Nat), ∃ (v11_2 : Nat), ∃ (ga14_2 : Nat → Int32), (u11 ≤ v11_2) ∧ (v11_2 ≤ u6) ∧ (k2_2 ≤ v11_2) ∧ Pfd ga14_2 ∧ u6 - v11_2 = k9 ∧ va_P D vwCl [(m0, .inr (12, [.ref a0, .ref a1, .ref a2, .int (nI u3), .int f4, .ref a5, .int (nI u6), .int f7, .int f8, .int f9, .int f10, .int (nI v11_2), .int (nI u12), .int (nI u13), .ref a14, .ref a15, .ref a16, .ref a17, .int f18, .int f19, .ref a20, .ref a21, .int (nI u22), .ref a23, .ref a24, .ref a25, .int (nI u26), .int f27, .ref a28, .int (nI u29)])), (a0, .inl (κ 0, 21375, .inl w)), (a5, .inl (κ 0, 800, .inl tp)), (a14, .inl (κ 0, 189, .inl ga14_2))] H ∧ va_D A [(m0, .inr (12, [.ref a0, .ref a1, .ref a2, .int (nI u3), .int f4, .ref a5, .int (nI u6), .int f7, .int f8, .int f9, .int f10, .int (nI v11_2), .int (nI u12), .int (nI u13), .ref a14, .ref a15, .ref a16, .ref a17, .int f18, .int f19, .ref a20, .ref a21, .int (nI u22), .ref a23, .ref a24, .ref a25, .int (nI u26), .int f27, .ref a28, .int (nI u29)])), (a0, .inl (κ 0, 21375, .inl w)), (a5, .inl (κ 0, 800, .inl tp)), (a14, .inl (κ 0, 189, .inl ga14_2))] ∧ va_S A s.heap H locs ∧ lv_has ls 4 [(2, .int (nI k2_2)), (0, .ref m0), (1, .int (nI a))]) (fun k9 H locs ls hI2 ih2 => ?_) (u6 - u11) _ _ _ ⟨0, u11, fd, (by omega), (by omega), (by omega), h_a14, rfl, hP, hD, hS, lv_sub hl [0, 1, 2] rfl⟩
  obtain ⟨k2_2, v11_2, ga14_2, hl2_0, hl2_1, hl2_2, hg2_0, hm2, hP, hD, hS, hl⟩ := hI2
  refine lv_aload_n hx hb dX12_plain_2 rfl (lv_at hl 1 rfl) ?_
  refine cr_V (As := []) (rest := []) hFX hKK (s_X12_isOver l D κ m0 a0 a1 a2 u3 f4 a5 u6 f7 f8 f9 f10 v11_2 u12 u13 a14 a15 a16 a17 f18 f19 a20 a21 u22 a23 a24 a25 u26 f27 a28 u29 w tp (by omega) h_a0 (by omega)) 0 gV_X12_220 hdV_X12_isOver rfl rfl ⟨Nat.le_of_ble_eq_true rfl, Nat.le_of_ble_eq_true rfl⟩ rfl rfl (Nat.le_of_ble_eq_true rfl) dX12_plain_3 ⟨Nat.le_of_ble_eq_true rfl, Nat.le_of_ble_eq_true rfl⟩ hl.1 hP 0 12 rfl rfl rfl (hP.sub [0, 1, 2] rfl) (fun r__1 hp_2 => ?_)
  replace hp_2 : ((r__1 = 1) ∨ (r__1 = 0 ∧ v11_2 < u6)) := hp_2
  have ha_3 := hp_2
  clear hp_2
  rcases ha_3 with rfl | ⟨rfl, a_4⟩
  · refine W.eq (g2 := F0 m 6 ls [.int 1]) rfl ?_
    refine lv_if_ne (tgt := 150) hx hb dX12_plain_6 (by decide) (fun c_5 => ?_) (fun c_5 => absurd c_5 (by decide))
    refine lv_iconst (v := 1) hx hb dX12_plain_150 (by decide) ?_
    exact ct_iret hx hb hr hlk rfl hS hP hD (1, f7, f8, f9, v11_2, ga14_2) rfl ⟨(show PF f8 from (by assumption)), (show Pfd ga14_2 from (by first | assumption | omega)), (show u11 ≤ v11_2 from (by first | assumption | omega)), (show v11_2 ≤ u6 from (by first | assumption | omega)), (by exact Or.inl (rfl))⟩ [0, 1, 2, 3] rfl (by decide) trivial (Nat.le_of_ble_eq_true rfl) (Nat.le_of_ble_eq_true rfl) dX12_plain_151
  · refine W.eq (g2 := F0 m 6 ls [.int 0]) rfl ?_
    refine lv_if_ne (tgt := 150) hx hb dX12_plain_6 (by decide) (fun c_6 => absurd c_6 (by decide)) (fun c_6 => ?_)
    refine lv_aload_n hx hb dX12_plain_9 rfl (lv_at hl 1 rfl) ?_
    refine va_get (D := D) (ci := 12) (v := .ref a5) (C := RX12) (T := TX12) (N := 30) hx hb hts inlX12 hown hK hP 0 rfl rfl 5 (by decide) (hts _ mw_191) (fun _ h9 => h9) rfl dX12_plain_10 ?_
    refine lv_aload_n hx hb dX12_plain_13 rfl (lv_at hl 1 rfl) ?_
    refine va_get (D := D) (ci := 12) (v := .int (nI v11_2)) (C := RX12) (T := TX12) (N := 30) hx hb hts inlX12 hown hK hP 0 rfl rfl 11 (by decide) (hts _ mw_423) (fun _ h9 => h9) rfl dX12_plain_14 ?_
    refine va_iald hx hb hK hP 2 0 rfl rfl (i := nI v11_2) (vp_in_nI (n := v11_2) (by omega) (by omega)) dX12_plain_17 ?_
    refine kv (v := .int (tp v11_2)) (by rw [nI_clamp (by omega)]) ?_
    obtain ⟨x_7, ex_7⟩ : ∃ y9 : Int32, tp v11_2 = y9 := ⟨_, rfl⟩
    refine kv (v := .int x_7) (congrArg Value.int ex_7) ?_
    refine lv_istore_n (lv' := [(3, .int x_7), (2, .int (nI k2_2)), (0, .ref m0), (1, .int (nI a))]) hx hb dX12_plain_18 rfl hl (by decide) rfl (fun ls hl => ?_)
    refine lv_aload_n hx hb dX12_plain_19 rfl (lv_at hl 2 rfl) ?_
    refine lv_iload_n hx hb dX12_plain_20 rfl (lv_at hl 0 rfl) ?_
    refine lv_iconst (v := 0) hx hb dX12_plain_21 (by decide) ?_
    refine cr_V (As := [.int x_7, .int 0]) (rest := []) hFX hKK (s_X12_canBe l D κ m0 a0 a1 a2 u3 f4 a5 u6 f7 f8 f9 f10 v11_2 u12 u13 a14 a15 a16 a17 f18 f19 a20 a21 u22 a23 a24 a25 u26 f27 a28 u29 w x_7 0 h_a0) 2 gV_X12_206 hdV_X12_canBe rfl rfl ⟨Nat.le_of_ble_eq_true rfl, Nat.le_of_ble_eq_true rfl⟩ rfl rfl (Nat.le_of_ble_eq_true rfl) dX12_plain_22 ⟨Nat.le_of_ble_eq_true rfl, Nat.le_of_ble_eq_true rfl⟩ hl.1 hP 0 12 rfl rfl rfl (hP.sub [0, 1] rfl) (fun r__8 hp_9 => ?_)
    replace hp_9 : ((r__8 = 1) ∨ (r__8 = 0)) := hp_9
    have ha_10 := hp_9
    clear hp_9
    rcases ha_10 with rfl | rfl
    · refine W.eq (g2 := F0 m 25 ls [.int 1]) rfl ?_
      refine lv_if_ne (tgt := 39) hx hb dX12_plain_25 (by decide) (fun c_11 => ?_) (fun c_11 => absurd c_11 (by decide))
      refine lv_iload_n hx hb dX12_plain_39 rfl (lv_at hl 0 rfl) ?_
      refine lv_aload_n hx hb dX12_plain_40 rfl (lv_at hl 2 rfl) ?_
      refine va_get (D := D) (ci := 12) (v := .ref a0) (C := RX12) (T := TX12) (N := 30) hx hb hts inlX12 hown hK hP 0 rfl rfl 0 (by decide) (hts _ mw_187) (fun _ h9 => h9) rfl dX12_plain_41 ?_
      refine lv_sipush (v := 21370) hx hb dX12_plain_44 (by decide) ?_
      refine va_iald hx hb hK hP 1 0 rfl rfl (i := 21370) (vp_k (by decide)) dX12_plain_47 ?_
      obtain ⟨x_12, ex_12⟩ : ∃ y9 : Int32, w 21370 = y9 := ⟨_, rfl⟩
      refine kv (v := .int x_12) (congrArg Value.int ex_12) ?_
      refine lv_icmp_ne (tgt := 62) hx hb dX12_plain_48 (by decide) (fun c_13 => ?_) (fun c_13 => ?_)
      · refine lv_aload_n hx hb dX12_plain_62 rfl (lv_at hl 2 rfl) ?_
        refine va_get (D := D) (ci := 12) (v := .ref a0) (C := RX12) (T := TX12) (N := 30) hx hb hts inlX12 hown hK hP 0 rfl rfl 0 (by decide) (hts _ mw_187) (fun _ h9 => h9) rfl dX12_plain_63 ?_
        refine lv_sipush (v := 21372) hx hb dX12_plain_66 (by decide) ?_
        refine va_iald hx hb hK hP 1 0 rfl rfl (i := 21372) (vp_k (by decide)) dX12_plain_69 ?_
        obtain ⟨x_14, ex_14⟩ : ∃ y9 : Int32, w 21372 = y9 := ⟨_, rfl⟩
        refine kv (v := .int x_14) (congrArg Value.int ex_14) ?_
        refine lv_iconst (v := 1) hx hb dX12_plain_70 (by decide) ?_
        refine lv_icmp_ne (tgt := 86) hx hb dX12_plain_71 (by decide) (fun c_15 => ?_) (fun c_15 => ?_)
        · refine loop_dn (fun k9 H locs ls => ∃ (k2_86 : Nat), ∃ (ga14_86 : Nat → Int32), (k2_86 ≤ v11_2) ∧ Pfd ga14_86 ∧ k2_86 = k9 ∧ va_P D vwCl [(m0, .inr (12, [.ref a0, .ref a1, .ref a2, .int (nI u3), .int f4, .ref a5, .int (nI u6), .int f7, .int f8, .int f9, .int f10, .int (nI v11_2), .int (nI u12), .int (nI u13), .ref a14, .ref a15, .ref a16, .ref a17, .int f18, .int f19, .ref a20, .ref a21, .int (nI u22), .ref a23, .ref a24, .ref a25, .int (nI u26), .int f27, .ref a28, .int (nI u29)])), (a0, .inl (κ 0, 21375, .inl w)), (a5, .inl (κ 0, 800, .inl tp)), (a14, .inl (κ 0, 189, .inl ga14_86))] H ∧ va_D A [(m0, .inr (12, [.ref a0, .ref a1, .ref a2, .int (nI u3), .int f4, .ref a5, .int (nI u6), .int f7, .int f8, .int f9, .int f10, .int (nI v11_2), .int (nI u12), .int (nI u13), .ref a14, .ref a15, .ref a16, .ref a17, .int f18, .int f19, .ref a20, .ref a21, .int (nI u22), .ref a23, .ref a24, .ref a25, .int (nI u26), .int f27, .ref a28, .int (nI u29)])), (a0, .inl (κ 0, 21375, .inl w)), (a5, .inl (κ 0, 800, .inl tp)), (a14, .inl (κ 0, 189, .inl ga14_86))] ∧ va_S A s.heap H locs ∧ lv_has ls 4 [(3, .int x_7), (2, .int (nI k2_86)), (0, .ref m0), (1, .int (nI a))]) (fun k9 H locs ls hI86 ih86 => ?_) (k2_2) _ _ _ ⟨k2_2, ga14_2, (by omega), hg2_0, rfl, hP, hD, hS, lv_sub hl [0, 1, 2, 3] rfl⟩
          obtain ⟨k2_86, ga14_86, hl86_0, hg86_0, hm86, hP, hD, hS, hl⟩ := hI86
          refine lv_iload_n hx hb dX12_plain_86 rfl (lv_at hl 1 rfl) ?_
          refine lv_if_le (tgt := 117) hx hb dX12_plain_87 (by decide) (fun c_16 => ?_) (fun c_16 => ?_)
          · have nc_16 := cv_le (a := k2_86) (b := 0) (by omega) (by omega) c_16
            refine lv_aload_n hx hb dX12_plain_117 rfl (lv_at hl 2 rfl) ?_
            refine lv_iload_n hx hb dX12_plain_118 rfl (lv_at hl 3 rfl) ?_
            refine lv_iload_n hx hb dX12_plain_119 rfl (lv_at hl 0 rfl) ?_
            refine ct_V (wr := [(a0, .inl (κ 0, 21375, .inl w)), (a5, .inl (κ 0, 800, .inl tp))]) (As := [.int (nI a), .int x_7]) (rest := []) hFX hKK hP hD hS hA (s_X12_adds l D κ m0 a0 a1 a2 u3 f4 a5 u6 f7 f8 f9 f10 v11_2 u12 u13 a14 a15 a16 a17 f18 f19 a20 a21 u22 a23 a24 a25 u26 f27 a28 u29 ga14_86 x_7 a hg86_0 (by omega)) 2 gV_X12_214 hdV_X12_adds ⟨Nat.le_of_ble_eq_true rfl, Nat.le_of_ble_eq_true rfl⟩ rfl rfl (Nat.le_of_ble_eq_true rfl) dX12_plain_120 ⟨Nat.le_of_ble_eq_true rfl, Nat.le_of_ble_eq_true rfl⟩ hl.1 [0, 3] [1, 2] rfl rfl (by decide) (by decide) (by decide) 0 12 rfl rfl rfl trivial (fun u_19 H locs hp_20 _ hP hD hS hz_ hk_ => ?_)
            obtain ⟨r__17, g_a14__18⟩ := u_19
            replace hP : va_P D vwCl [(m0, .inr (12, [.ref a0, .ref a1, .ref a2, .int (nI u3), .int f4, .ref a5, .int (nI u6), .int f7, .int f8, .int f9, .int f10, .int (nI v11_2), .int (nI u12), .int (nI u13), .ref a14, .ref a15, .ref a16, .ref a17, .int f18, .int f19, .ref a20, .ref a21, .int (nI u22), .ref a23, .ref a24, .ref a25, .int (nI u26), .int f27, .ref a28, .int (nI u29)])), (a0, .inl (κ 0, 21375, .inl w)), (a5, .inl (κ 0, 800, .inl tp)), (a14, .inl (κ 0, 189, .inl g_a14__18))] H := hP.sub [2, 0, 1, 3] rfl
            replace hD : va_D A [(m0, .inr (12, [.ref a0, .ref a1, .ref a2, .int (nI u3), .int f4, .ref a5, .int (nI u6), .int f7, .int f8, .int f9, .int f10, .int (nI v11_2), .int (nI u12), .int (nI u13), .ref a14, .ref a15, .ref a16, .ref a17, .int f18, .int f19, .ref a20, .ref a21, .int (nI u22), .ref a23, .ref a24, .ref a25, .int (nI u26), .int f27, .ref a28, .int (nI u29)])), (a0, .inl (κ 0, 21375, .inl w)), (a5, .inl (κ 0, 800, .inl tp)), (a14, .inl (κ 0, 189, .inl g_a14__18))] := hD.sub [2, 0, 1, 3] (by decide) rfl
            replace hp_20 : Pfd g_a14__18 ∧ ((r__17 = 1) ∨ (r__17 = 0)) := hp_20
            obtain ⟨h_21, ha_22⟩ := hp_20
            rcases ha_22 with rfl | rfl
            · refine W.eq (g2 := F0 m 123 ls [.int 1]) rfl ?_
              refine lv_if_ne (tgt := 137) hx hb dX12_plain_123 (by decide) (fun c_23 => ?_) (fun c_23 => absurd c_23 (by decide))
              refine lv_aload_n hx hb dX12_plain_137 rfl (lv_at hl 2 rfl) ?_
              refine lv_dup hx hb dX12_plain_138 rfl ?_
              refine va_get (D := D) (ci := 12) (v := .int (nI v11_2)) (C := RX12) (T := TX12) (N := 30) hx hb hts inlX12 hown hK hP 0 rfl rfl 11 (by decide) (hts _ mw_423) (fun _ h9 => h9) rfl dX12_plain_139 ?_
              refine lv_iconst (v := 1) hx hb dX12_plain_142 (by decide) ?_
              refine lv_iadd hx hb dX12_plain_143 ?_
              refine ki (v := (nI (v11_2 + 1))) (nI_add v11_2 1) ?_
              refine va_put (D := D) (ci := 12) (v := .int (nI (v11_2 + 1))) (ty := tyX12 11) (C := RX12) (T := TX12) (N := 30) hx hb hts inlX12 tyX12 tyX12_ok nmX12 hown hK hP hD hS 0 rfl rfl 11 (by decide) (hts _ mw_423) (fun _ h9 => h9) rfl (tyX12_ok 11 (by decide)) rfl rfl (Nat.le_of_ble_eq_true rfl) dX12_plain_144 (fun H locs hP hD hS => ?_)
              have hP : va_P D vwCl [(m0, .inr (12, [.ref a0, .ref a1, .ref a2, .int (nI u3), .int f4, .ref a5, .int (nI u6), .int f7, .int f8, .int f9, .int f10, .int (nI (v11_2 + 1)), .int (nI u12), .int (nI u13), .ref a14, .ref a15, .ref a16, .ref a17, .int f18, .int f19, .ref a20, .ref a21, .int (nI u22), .ref a23, .ref a24, .ref a25, .int (nI u26), .int f27, .ref a28, .int (nI u29)])), (a0, .inl (κ 0, 21375, .inl w)), (a5, .inl (κ 0, 800, .inl tp)), (a14, .inl (κ 0, 189, .inl g_a14__18))] H := hP
              have hD : va_D A [(m0, .inr (12, [.ref a0, .ref a1, .ref a2, .int (nI u3), .int f4, .ref a5, .int (nI u6), .int f7, .int f8, .int f9, .int f10, .int (nI (v11_2 + 1)), .int (nI u12), .int (nI u13), .ref a14, .ref a15, .ref a16, .ref a17, .int f18, .int f19, .ref a20, .ref a21, .int (nI u22), .ref a23, .ref a24, .ref a25, .int (nI u26), .int f27, .ref a28, .int (nI u29)])), (a0, .inl (κ 0, 21375, .inl w)), (a5, .inl (κ 0, 800, .inl tp)), (a14, .inl (κ 0, 189, .inl g_a14__18))] := hD
              refine lv_goto (tgt := 2) hx hb dX12_plain_147 (by decide) ?_
              exact ih2 _ _ _ _ (by omega) ⟨k2_86, (v11_2 + 1), g_a14__18, (by omega), (by omega), (by omega), h_21, rfl, hP, hD, hS, lv_sub hl [1, 2, 3] rfl⟩
            · refine W.eq (g2 := F0 m 123 ls [.int 0]) rfl ?_
              refine lv_if_ne (tgt := 137) hx hb dX12_plain_123 (by decide) (fun c_24 => absurd c_24 (by decide)) (fun c_24 => ?_)
              refine lv_aload_n hx hb dX12_plain_126 rfl (lv_at hl 2 rfl) ?_
              refine lv_iconst (v := 5) hx hb dX12_plain_127 (by decide) ?_
              refine lv_aload_n hx hb dX12_plain_128 rfl (lv_at hl 2 rfl) ?_
              refine va_get (D := D) (ci := 12) (v := .int (nI v11_2)) (C := RX12) (T := TX12) (N := 30) hx hb hts inlX12 hown hK hP 0 rfl rfl 11 (by decide) (hts _ mw_423) (fun _ h9 => h9) rfl dX12_plain_129 ?_
              refine lv_iload_n hx hb dX12_plain_132 rfl (lv_at hl 3 rfl) ?_
              refine ct_V (wr := [(a0, .inl (κ 0, 21375, .inl w)), (a5, .inl (κ 0, 800, .inl tp)), (a14, .inl (κ 0, 189, .inl g_a14__18))]) (As := [.int 5, .int (nI v11_2), .int (nI a)]) (rest := []) hFX hKK hP hD hS hA (s_X12_wrong l D κ m0 a0 a1 a2 u3 f4 a5 u6 f7 f8 f9 f10 v11_2 u12 u13 a14 a15 a16 a17 f18 f19 a20 a21 u22 a23 a24 a25 u26 f27 a28 u29 5 (nI v11_2) (nI a)) 3 gV_X12_210 hdV_X12_wrong ⟨Nat.le_of_ble_eq_true rfl, Nat.le_of_ble_eq_true rfl⟩ rfl rfl (Nat.le_of_ble_eq_true rfl) dX12_plain_133 ⟨Nat.le_of_ble_eq_true rfl, Nat.le_of_ble_eq_true rfl⟩ hl.1 [0] [1, 2, 3] rfl rfl (by decide) (by decide) (by decide) 0 12 rfl rfl rfl trivial (fun _ H locs hp_25 _ hP hD hS hz_ hk_ => ?_)
              replace hP : va_P D vwCl [(m0, .inr (12, [.ref a0, .ref a1, .ref a2, .int (nI u3), .int f4, .ref a5, .int (nI u6), .int 5, .int (nI v11_2), .int (nI a), .int f10, .int (nI v11_2), .int (nI u12), .int (nI u13), .ref a14, .ref a15, .ref a16, .ref a17, .int f18, .int f19, .ref a20, .ref a21, .int (nI u22), .ref a23, .ref a24, .ref a25, .int (nI u26), .int f27, .ref a28, .int (nI u29)])), (a0, .inl (κ 0, 21375, .inl w)), (a5, .inl (κ 0, 800, .inl tp)), (a14, .inl (κ 0, 189, .inl g_a14__18))] H := hP.sub [3, 0, 1, 2] rfl
              replace hD : va_D A [(m0, .inr (12, [.ref a0, .ref a1, .ref a2, .int (nI u3), .int f4, .ref a5, .int (nI u6), .int 5, .int (nI v11_2), .int (nI a), .int f10, .int (nI v11_2), .int (nI u12), .int (nI u13), .ref a14, .ref a15, .ref a16, .ref a17, .int f18, .int f19, .ref a20, .ref a21, .int (nI u22), .ref a23, .ref a24, .ref a25, .int (nI u26), .int f27, .ref a28, .int (nI u29)])), (a0, .inl (κ 0, 21375, .inl w)), (a5, .inl (κ 0, 800, .inl tp)), (a14, .inl (κ 0, 189, .inl g_a14__18))] := hD.sub [3, 0, 1, 2] (by decide) rfl
              refine W.eq (g2 := F0 m 136 ls [.int 0]) rfl ?_
              exact ct_iret hx hb hr hlk rfl hS hP hD (0, 5, nI v11_2, nI a, v11_2, g_a14__18) rfl ⟨(show PF (nI v11_2) from (PF_n (by omega))), (show Pfd g_a14__18 from (by first | assumption | omega)), (show u11 ≤ v11_2 from (by first | assumption | omega)), (show v11_2 ≤ u6 from (by first | assumption | omega)), (by exact Or.inr ((rfl)))⟩ [0, 1, 2, 3] rfl (by decide) trivial (Nat.le_of_ble_eq_true rfl) (Nat.le_of_ble_eq_true rfl) dX12_plain_136
          · have nc_16 := cv_nle (a := k2_86) (b := 0) (by omega) (by omega) c_16
            refine lv_aload_n hx hb dX12_plain_90 rfl (lv_at hl 2 rfl) ?_
            refine lv_iload_n hx hb dX12_plain_91 rfl (lv_at hl 3 rfl) ?_
            refine lv_bipush (v := 32) hx hb dX12_plain_92 (by decide) ?_
            refine ct_V (wr := [(a0, .inl (κ 0, 21375, .inl w)), (a5, .inl (κ 0, 800, .inl tp))]) (As := [.int (nI a), .int 32]) (rest := []) hFX hKK hP hD hS hA (s_X12_adds l D κ m0 a0 a1 a2 u3 f4 a5 u6 f7 f8 f9 f10 v11_2 u12 u13 a14 a15 a16 a17 f18 f19 a20 a21 u22 a23 a24 a25 u26 f27 a28 u29 ga14_86 32 a hg86_0 (by omega)) 2 gV_X12_214 hdV_X12_adds ⟨Nat.le_of_ble_eq_true rfl, Nat.le_of_ble_eq_true rfl⟩ rfl rfl (Nat.le_of_ble_eq_true rfl) dX12_plain_94 ⟨Nat.le_of_ble_eq_true rfl, Nat.le_of_ble_eq_true rfl⟩ hl.1 [0, 3] [1, 2] rfl rfl (by decide) (by decide) (by decide) 0 12 rfl rfl rfl trivial (fun u_28 H locs hp_29 _ hP hD hS hz_ hk_ => ?_)
            obtain ⟨r__26, g_a14__27⟩ := u_28
            replace hP : va_P D vwCl [(m0, .inr (12, [.ref a0, .ref a1, .ref a2, .int (nI u3), .int f4, .ref a5, .int (nI u6), .int f7, .int f8, .int f9, .int f10, .int (nI v11_2), .int (nI u12), .int (nI u13), .ref a14, .ref a15, .ref a16, .ref a17, .int f18, .int f19, .ref a20, .ref a21, .int (nI u22), .ref a23, .ref a24, .ref a25, .int (nI u26), .int f27, .ref a28, .int (nI u29)])), (a0, .inl (κ 0, 21375, .inl w)), (a5, .inl (κ 0, 800, .inl tp)), (a14, .inl (κ 0, 189, .inl g_a14__27))] H := hP.sub [2, 0, 1, 3] rfl
            replace hD : va_D A [(m0, .inr (12, [.ref a0, .ref a1, .ref a2, .int (nI u3), .int f4, .ref a5, .int (nI u6), .int f7, .int f8, .int f9, .int f10, .int (nI v11_2), .int (nI u12), .int (nI u13), .ref a14, .ref a15, .ref a16, .ref a17, .int f18, .int f19, .ref a20, .ref a21, .int (nI u22), .ref a23, .ref a24, .ref a25, .int (nI u26), .int f27, .ref a28, .int (nI u29)])), (a0, .inl (κ 0, 21375, .inl w)), (a5, .inl (κ 0, 800, .inl tp)), (a14, .inl (κ 0, 189, .inl g_a14__27))] := hD.sub [2, 0, 1, 3] (by decide) rfl
            replace hp_29 : Pfd g_a14__27 ∧ ((r__26 = 1) ∨ (r__26 = 0)) := hp_29
            obtain ⟨h_30, ha_31⟩ := hp_29
            rcases ha_31 with rfl | rfl
            · refine W.eq (g2 := F0 m 97 ls [.int 1]) rfl ?_
              refine lv_if_ne (tgt := 111) hx hb dX12_plain_97 (by decide) (fun c_32 => ?_) (fun c_32 => absurd c_32 (by decide))
              refine lv_iinc (v := (nI (k2_86 - 1))) (lv' := [(2, .int (nI (k2_86 - 1))), (3, .int x_7), (0, .ref m0), (1, .int (nI a))]) hx hb dX12_plain_111 hl (k := 1) rfl (nI_d (by omega)) (by decide) rfl (fun ls hl => ?_)
              refine lv_goto (tgt := 86) hx hb dX12_plain_114 (by decide) ?_
              exact ih86 _ _ _ _ (by omega) ⟨(k2_86 - 1), g_a14__27, (by omega), h_30, rfl, hP, hD, hS, lv_sub hl [1, 0, 2, 3] rfl⟩
            · refine W.eq (g2 := F0 m 97 ls [.int 0]) rfl ?_
              refine lv_if_ne (tgt := 111) hx hb dX12_plain_97 (by decide) (fun c_33 => absurd c_33 (by decide)) (fun c_33 => ?_)
              refine lv_aload_n hx hb dX12_plain_100 rfl (lv_at hl 2 rfl) ?_
              refine lv_iconst (v := 5) hx hb dX12_plain_101 (by decide) ?_
              refine lv_aload_n hx hb dX12_plain_102 rfl (lv_at hl 2 rfl) ?_
              refine va_get (D := D) (ci := 12) (v := .int (nI v11_2)) (C := RX12) (T := TX12) (N := 30) hx hb hts inlX12 hown hK hP 0 rfl rfl 11 (by decide) (hts _ mw_423) (fun _ h9 => h9) rfl dX12_plain_103 ?_
              refine lv_iload_n hx hb dX12_plain_106 rfl (lv_at hl 3 rfl) ?_
              refine ct_V (wr := [(a0, .inl (κ 0, 21375, .inl w)), (a5, .inl (κ 0, 800, .inl tp)), (a14, .inl (κ 0, 189, .inl g_a14__27))]) (As := [.int 5, .int (nI v11_2), .int (nI a)]) (rest := []) hFX hKK hP hD hS hA (s_X12_wrong l D κ m0 a0 a1 a2 u3 f4 a5 u6 f7 f8 f9 f10 v11_2 u12 u13 a14 a15 a16 a17 f18 f19 a20 a21 u22 a23 a24 a25 u26 f27 a28 u29 5 (nI v11_2) (nI a)) 3 gV_X12_210 hdV_X12_wrong ⟨Nat.le_of_ble_eq_true rfl, Nat.le_of_ble_eq_true rfl⟩ rfl rfl (Nat.le_of_ble_eq_true rfl) dX12_plain_107 ⟨Nat.le_of_ble_eq_true rfl, Nat.le_of_ble_eq_true rfl⟩ hl.1 [0] [1, 2, 3] rfl rfl (by decide) (by decide) (by decide) 0 12 rfl rfl rfl trivial (fun _ H locs hp_34 _ hP hD hS hz_ hk_ => ?_)
              replace hP : va_P D vwCl [(m0, .inr (12, [.ref a0, .ref a1, .ref a2, .int (nI u3), .int f4, .ref a5, .int (nI u6), .int 5, .int (nI v11_2), .int (nI a), .int f10, .int (nI v11_2), .int (nI u12), .int (nI u13), .ref a14, .ref a15, .ref a16, .ref a17, .int f18, .int f19, .ref a20, .ref a21, .int (nI u22), .ref a23, .ref a24, .ref a25, .int (nI u26), .int f27, .ref a28, .int (nI u29)])), (a0, .inl (κ 0, 21375, .inl w)), (a5, .inl (κ 0, 800, .inl tp)), (a14, .inl (κ 0, 189, .inl g_a14__27))] H := hP.sub [3, 0, 1, 2] rfl
              replace hD : va_D A [(m0, .inr (12, [.ref a0, .ref a1, .ref a2, .int (nI u3), .int f4, .ref a5, .int (nI u6), .int 5, .int (nI v11_2), .int (nI a), .int f10, .int (nI v11_2), .int (nI u12), .int (nI u13), .ref a14, .ref a15, .ref a16, .ref a17, .int f18, .int f19, .ref a20, .ref a21, .int (nI u22), .ref a23, .ref a24, .ref a25, .int (nI u26), .int f27, .ref a28, .int (nI u29)])), (a0, .inl (κ 0, 21375, .inl w)), (a5, .inl (κ 0, 800, .inl tp)), (a14, .inl (κ 0, 189, .inl g_a14__27))] := hD.sub [3, 0, 1, 2] (by decide) rfl
              refine W.eq (g2 := F0 m 110 ls [.int 0]) rfl ?_
              exact ct_iret hx hb hr hlk rfl hS hP hD (0, 5, nI v11_2, nI a, v11_2, g_a14__27) rfl ⟨(show PF (nI v11_2) from (PF_n (by omega))), (show Pfd g_a14__27 from (by first | assumption | omega)), (show u11 ≤ v11_2 from (by first | assumption | omega)), (show v11_2 ≤ u6 from (by first | assumption | omega)), (by exact Or.inr ((rfl)))⟩ [0, 1, 2, 3] rfl (by decide) trivial (Nat.le_of_ble_eq_true rfl) (Nat.le_of_ble_eq_true rfl) dX12_plain_110
        · refine lv_iload_n hx hb dX12_plain_74 rfl (lv_at hl 0 rfl) ?_
          refine lv_bipush (v := 32) hx hb dX12_plain_75 (by decide) ?_
          refine lv_icmp_ne (tgt := 86) hx hb dX12_plain_77 (by decide) (fun c_35 => ?_) (fun c_35 => ?_)
          · refine loop_dn (fun k9 H locs ls => ∃ (k2_86 : Nat), ∃ (ga14_86 : Nat → Int32), (k2_86 ≤ v11_2) ∧ Pfd ga14_86 ∧ k2_86 = k9 ∧ va_P D vwCl [(m0, .inr (12, [.ref a0, .ref a1, .ref a2, .int (nI u3), .int f4, .ref a5, .int (nI u6), .int f7, .int f8, .int f9, .int f10, .int (nI v11_2), .int (nI u12), .int (nI u13), .ref a14, .ref a15, .ref a16, .ref a17, .int f18, .int f19, .ref a20, .ref a21, .int (nI u22), .ref a23, .ref a24, .ref a25, .int (nI u26), .int f27, .ref a28, .int (nI u29)])), (a0, .inl (κ 0, 21375, .inl w)), (a5, .inl (κ 0, 800, .inl tp)), (a14, .inl (κ 0, 189, .inl ga14_86))] H ∧ va_D A [(m0, .inr (12, [.ref a0, .ref a1, .ref a2, .int (nI u3), .int f4, .ref a5, .int (nI u6), .int f7, .int f8, .int f9, .int f10, .int (nI v11_2), .int (nI u12), .int (nI u13), .ref a14, .ref a15, .ref a16, .ref a17, .int f18, .int f19, .ref a20, .ref a21, .int (nI u22), .ref a23, .ref a24, .ref a25, .int (nI u26), .int f27, .ref a28, .int (nI u29)])), (a0, .inl (κ 0, 21375, .inl w)), (a5, .inl (κ 0, 800, .inl tp)), (a14, .inl (κ 0, 189, .inl ga14_86))] ∧ va_S A s.heap H locs ∧ lv_has ls 4 [(3, .int x_7), (2, .int (nI k2_86)), (0, .ref m0), (1, .int (nI a))]) (fun k9 H locs ls hI86 ih86 => ?_) (k2_2) _ _ _ ⟨k2_2, ga14_2, (by omega), hg2_0, rfl, hP, hD, hS, lv_sub hl [0, 1, 2, 3] rfl⟩
            obtain ⟨k2_86, ga14_86, hl86_0, hg86_0, hm86, hP, hD, hS, hl⟩ := hI86
            refine lv_iload_n hx hb dX12_plain_86 rfl (lv_at hl 1 rfl) ?_
            refine lv_if_le (tgt := 117) hx hb dX12_plain_87 (by decide) (fun c_36 => ?_) (fun c_36 => ?_)
            · have nc_36 := cv_le (a := k2_86) (b := 0) (by omega) (by omega) c_36
              refine lv_aload_n hx hb dX12_plain_117 rfl (lv_at hl 2 rfl) ?_
              refine lv_iload_n hx hb dX12_plain_118 rfl (lv_at hl 3 rfl) ?_
              refine lv_iload_n hx hb dX12_plain_119 rfl (lv_at hl 0 rfl) ?_
              refine ct_V (wr := [(a0, .inl (κ 0, 21375, .inl w)), (a5, .inl (κ 0, 800, .inl tp))]) (As := [.int (nI a), .int x_7]) (rest := []) hFX hKK hP hD hS hA (s_X12_adds l D κ m0 a0 a1 a2 u3 f4 a5 u6 f7 f8 f9 f10 v11_2 u12 u13 a14 a15 a16 a17 f18 f19 a20 a21 u22 a23 a24 a25 u26 f27 a28 u29 ga14_86 x_7 a hg86_0 (by omega)) 2 gV_X12_214 hdV_X12_adds ⟨Nat.le_of_ble_eq_true rfl, Nat.le_of_ble_eq_true rfl⟩ rfl rfl (Nat.le_of_ble_eq_true rfl) dX12_plain_120 ⟨Nat.le_of_ble_eq_true rfl, Nat.le_of_ble_eq_true rfl⟩ hl.1 [0, 3] [1, 2] rfl rfl (by decide) (by decide) (by decide) 0 12 rfl rfl rfl trivial (fun u_39 H locs hp_40 _ hP hD hS hz_ hk_ => ?_)
              obtain ⟨r__37, g_a14__38⟩ := u_39
              replace hP : va_P D vwCl [(m0, .inr (12, [.ref a0, .ref a1, .ref a2, .int (nI u3), .int f4, .ref a5, .int (nI u6), .int f7, .int f8, .int f9, .int f10, .int (nI v11_2), .int (nI u12), .int (nI u13), .ref a14, .ref a15, .ref a16, .ref a17, .int f18, .int f19, .ref a20, .ref a21, .int (nI u22), .ref a23, .ref a24, .ref a25, .int (nI u26), .int f27, .ref a28, .int (nI u29)])), (a0, .inl (κ 0, 21375, .inl w)), (a5, .inl (κ 0, 800, .inl tp)), (a14, .inl (κ 0, 189, .inl g_a14__38))] H := hP.sub [2, 0, 1, 3] rfl
              replace hD : va_D A [(m0, .inr (12, [.ref a0, .ref a1, .ref a2, .int (nI u3), .int f4, .ref a5, .int (nI u6), .int f7, .int f8, .int f9, .int f10, .int (nI v11_2), .int (nI u12), .int (nI u13), .ref a14, .ref a15, .ref a16, .ref a17, .int f18, .int f19, .ref a20, .ref a21, .int (nI u22), .ref a23, .ref a24, .ref a25, .int (nI u26), .int f27, .ref a28, .int (nI u29)])), (a0, .inl (κ 0, 21375, .inl w)), (a5, .inl (κ 0, 800, .inl tp)), (a14, .inl (κ 0, 189, .inl g_a14__38))] := hD.sub [2, 0, 1, 3] (by decide) rfl
              replace hp_40 : Pfd g_a14__38 ∧ ((r__37 = 1) ∨ (r__37 = 0)) := hp_40
              obtain ⟨h_41, ha_42⟩ := hp_40
              rcases ha_42 with rfl | rfl
              · refine W.eq (g2 := F0 m 123 ls [.int 1]) rfl ?_
                refine lv_if_ne (tgt := 137) hx hb dX12_plain_123 (by decide) (fun c_43 => ?_) (fun c_43 => absurd c_43 (by decide))
                refine lv_aload_n hx hb dX12_plain_137 rfl (lv_at hl 2 rfl) ?_
                refine lv_dup hx hb dX12_plain_138 rfl ?_
                refine va_get (D := D) (ci := 12) (v := .int (nI v11_2)) (C := RX12) (T := TX12) (N := 30) hx hb hts inlX12 hown hK hP 0 rfl rfl 11 (by decide) (hts _ mw_423) (fun _ h9 => h9) rfl dX12_plain_139 ?_
                refine lv_iconst (v := 1) hx hb dX12_plain_142 (by decide) ?_
                refine lv_iadd hx hb dX12_plain_143 ?_
                refine ki (v := (nI (v11_2 + 1))) (nI_add v11_2 1) ?_
                refine va_put (D := D) (ci := 12) (v := .int (nI (v11_2 + 1))) (ty := tyX12 11) (C := RX12) (T := TX12) (N := 30) hx hb hts inlX12 tyX12 tyX12_ok nmX12 hown hK hP hD hS 0 rfl rfl 11 (by decide) (hts _ mw_423) (fun _ h9 => h9) rfl (tyX12_ok 11 (by decide)) rfl rfl (Nat.le_of_ble_eq_true rfl) dX12_plain_144 (fun H locs hP hD hS => ?_)
                have hP : va_P D vwCl [(m0, .inr (12, [.ref a0, .ref a1, .ref a2, .int (nI u3), .int f4, .ref a5, .int (nI u6), .int f7, .int f8, .int f9, .int f10, .int (nI (v11_2 + 1)), .int (nI u12), .int (nI u13), .ref a14, .ref a15, .ref a16, .ref a17, .int f18, .int f19, .ref a20, .ref a21, .int (nI u22), .ref a23, .ref a24, .ref a25, .int (nI u26), .int f27, .ref a28, .int (nI u29)])), (a0, .inl (κ 0, 21375, .inl w)), (a5, .inl (κ 0, 800, .inl tp)), (a14, .inl (κ 0, 189, .inl g_a14__38))] H := hP
                have hD : va_D A [(m0, .inr (12, [.ref a0, .ref a1, .ref a2, .int (nI u3), .int f4, .ref a5, .int (nI u6), .int f7, .int f8, .int f9, .int f10, .int (nI (v11_2 + 1)), .int (nI u12), .int (nI u13), .ref a14, .ref a15, .ref a16, .ref a17, .int f18, .int f19, .ref a20, .ref a21, .int (nI u22), .ref a23, .ref a24, .ref a25, .int (nI u26), .int f27, .ref a28, .int (nI u29)])), (a0, .inl (κ 0, 21375, .inl w)), (a5, .inl (κ 0, 800, .inl tp)), (a14, .inl (κ 0, 189, .inl g_a14__38))] := hD
                refine lv_goto (tgt := 2) hx hb dX12_plain_147 (by decide) ?_
                exact ih2 _ _ _ _ (by omega) ⟨k2_86, (v11_2 + 1), g_a14__38, (by omega), (by omega), (by omega), h_41, rfl, hP, hD, hS, lv_sub hl [1, 2, 3] rfl⟩
              · refine W.eq (g2 := F0 m 123 ls [.int 0]) rfl ?_
                refine lv_if_ne (tgt := 137) hx hb dX12_plain_123 (by decide) (fun c_44 => absurd c_44 (by decide)) (fun c_44 => ?_)
                refine lv_aload_n hx hb dX12_plain_126 rfl (lv_at hl 2 rfl) ?_
                refine lv_iconst (v := 5) hx hb dX12_plain_127 (by decide) ?_
                refine lv_aload_n hx hb dX12_plain_128 rfl (lv_at hl 2 rfl) ?_
                refine va_get (D := D) (ci := 12) (v := .int (nI v11_2)) (C := RX12) (T := TX12) (N := 30) hx hb hts inlX12 hown hK hP 0 rfl rfl 11 (by decide) (hts _ mw_423) (fun _ h9 => h9) rfl dX12_plain_129 ?_
                refine lv_iload_n hx hb dX12_plain_132 rfl (lv_at hl 3 rfl) ?_
                refine ct_V (wr := [(a0, .inl (κ 0, 21375, .inl w)), (a5, .inl (κ 0, 800, .inl tp)), (a14, .inl (κ 0, 189, .inl g_a14__38))]) (As := [.int 5, .int (nI v11_2), .int (nI a)]) (rest := []) hFX hKK hP hD hS hA (s_X12_wrong l D κ m0 a0 a1 a2 u3 f4 a5 u6 f7 f8 f9 f10 v11_2 u12 u13 a14 a15 a16 a17 f18 f19 a20 a21 u22 a23 a24 a25 u26 f27 a28 u29 5 (nI v11_2) (nI a)) 3 gV_X12_210 hdV_X12_wrong ⟨Nat.le_of_ble_eq_true rfl, Nat.le_of_ble_eq_true rfl⟩ rfl rfl (Nat.le_of_ble_eq_true rfl) dX12_plain_133 ⟨Nat.le_of_ble_eq_true rfl, Nat.le_of_ble_eq_true rfl⟩ hl.1 [0] [1, 2, 3] rfl rfl (by decide) (by decide) (by decide) 0 12 rfl rfl rfl trivial (fun _ H locs hp_45 _ hP hD hS hz_ hk_ => ?_)
                replace hP : va_P D vwCl [(m0, .inr (12, [.ref a0, .ref a1, .ref a2, .int (nI u3), .int f4, .ref a5, .int (nI u6), .int 5, .int (nI v11_2), .int (nI a), .int f10, .int (nI v11_2), .int (nI u12), .int (nI u13), .ref a14, .ref a15, .ref a16, .ref a17, .int f18, .int f19, .ref a20, .ref a21, .int (nI u22), .ref a23, .ref a24, .ref a25, .int (nI u26), .int f27, .ref a28, .int (nI u29)])), (a0, .inl (κ 0, 21375, .inl w)), (a5, .inl (κ 0, 800, .inl tp)), (a14, .inl (κ 0, 189, .inl g_a14__38))] H := hP.sub [3, 0, 1, 2] rfl
                replace hD : va_D A [(m0, .inr (12, [.ref a0, .ref a1, .ref a2, .int (nI u3), .int f4, .ref a5, .int (nI u6), .int 5, .int (nI v11_2), .int (nI a), .int f10, .int (nI v11_2), .int (nI u12), .int (nI u13), .ref a14, .ref a15, .ref a16, .ref a17, .int f18, .int f19, .ref a20, .ref a21, .int (nI u22), .ref a23, .ref a24, .ref a25, .int (nI u26), .int f27, .ref a28, .int (nI u29)])), (a0, .inl (κ 0, 21375, .inl w)), (a5, .inl (κ 0, 800, .inl tp)), (a14, .inl (κ 0, 189, .inl g_a14__38))] := hD.sub [3, 0, 1, 2] (by decide) rfl
                refine W.eq (g2 := F0 m 136 ls [.int 0]) rfl ?_
                exact ct_iret hx hb hr hlk rfl hS hP hD (0, 5, nI v11_2, nI a, v11_2, g_a14__38) rfl ⟨(show PF (nI v11_2) from (PF_n (by omega))), (show Pfd g_a14__38 from (by first | assumption | omega)), (show u11 ≤ v11_2 from (by first | assumption | omega)), (show v11_2 ≤ u6 from (by first | assumption | omega)), (by exact Or.inr ((rfl)))⟩ [0, 1, 2, 3] rfl (by decide) trivial (Nat.le_of_ble_eq_true rfl) (Nat.le_of_ble_eq_true rfl) dX12_plain_136
            · have nc_36 := cv_nle (a := k2_86) (b := 0) (by omega) (by omega) c_36
              refine lv_aload_n hx hb dX12_plain_90 rfl (lv_at hl 2 rfl) ?_
              refine lv_iload_n hx hb dX12_plain_91 rfl (lv_at hl 3 rfl) ?_
              refine lv_bipush (v := 32) hx hb dX12_plain_92 (by decide) ?_
              refine ct_V (wr := [(a0, .inl (κ 0, 21375, .inl w)), (a5, .inl (κ 0, 800, .inl tp))]) (As := [.int (nI a), .int 32]) (rest := []) hFX hKK hP hD hS hA (s_X12_adds l D κ m0 a0 a1 a2 u3 f4 a5 u6 f7 f8 f9 f10 v11_2 u12 u13 a14 a15 a16 a17 f18 f19 a20 a21 u22 a23 a24 a25 u26 f27 a28 u29 ga14_86 32 a hg86_0 (by omega)) 2 gV_X12_214 hdV_X12_adds ⟨Nat.le_of_ble_eq_true rfl, Nat.le_of_ble_eq_true rfl⟩ rfl rfl (Nat.le_of_ble_eq_true rfl) dX12_plain_94 ⟨Nat.le_of_ble_eq_true rfl, Nat.le_of_ble_eq_true rfl⟩ hl.1 [0, 3] [1, 2] rfl rfl (by decide) (by decide) (by decide) 0 12 rfl rfl rfl trivial (fun u_48 H locs hp_49 _ hP hD hS hz_ hk_ => ?_)
              obtain ⟨r__46, g_a14__47⟩ := u_48
              replace hP : va_P D vwCl [(m0, .inr (12, [.ref a0, .ref a1, .ref a2, .int (nI u3), .int f4, .ref a5, .int (nI u6), .int f7, .int f8, .int f9, .int f10, .int (nI v11_2), .int (nI u12), .int (nI u13), .ref a14, .ref a15, .ref a16, .ref a17, .int f18, .int f19, .ref a20, .ref a21, .int (nI u22), .ref a23, .ref a24, .ref a25, .int (nI u26), .int f27, .ref a28, .int (nI u29)])), (a0, .inl (κ 0, 21375, .inl w)), (a5, .inl (κ 0, 800, .inl tp)), (a14, .inl (κ 0, 189, .inl g_a14__47))] H := hP.sub [2, 0, 1, 3] rfl
              replace hD : va_D A [(m0, .inr (12, [.ref a0, .ref a1, .ref a2, .int (nI u3), .int f4, .ref a5, .int (nI u6), .int f7, .int f8, .int f9, .int f10, .int (nI v11_2), .int (nI u12), .int (nI u13), .ref a14, .ref a15, .ref a16, .ref a17, .int f18, .int f19, .ref a20, .ref a21, .int (nI u22), .ref a23, .ref a24, .ref a25, .int (nI u26), .int f27, .ref a28, .int (nI u29)])), (a0, .inl (κ 0, 21375, .inl w)), (a5, .inl (κ 0, 800, .inl tp)), (a14, .inl (κ 0, 189, .inl g_a14__47))] := hD.sub [2, 0, 1, 3] (by decide) rfl
              replace hp_49 : Pfd g_a14__47 ∧ ((r__46 = 1) ∨ (r__46 = 0)) := hp_49
              obtain ⟨h_50, ha_51⟩ := hp_49
              rcases ha_51 with rfl | rfl
              · refine W.eq (g2 := F0 m 97 ls [.int 1]) rfl ?_
                refine lv_if_ne (tgt := 111) hx hb dX12_plain_97 (by decide) (fun c_52 => ?_) (fun c_52 => absurd c_52 (by decide))
                refine lv_iinc (v := (nI (k2_86 - 1))) (lv' := [(2, .int (nI (k2_86 - 1))), (3, .int x_7), (0, .ref m0), (1, .int (nI a))]) hx hb dX12_plain_111 hl (k := 1) rfl (nI_d (by omega)) (by decide) rfl (fun ls hl => ?_)
                refine lv_goto (tgt := 86) hx hb dX12_plain_114 (by decide) ?_
                exact ih86 _ _ _ _ (by omega) ⟨(k2_86 - 1), g_a14__47, (by omega), h_50, rfl, hP, hD, hS, lv_sub hl [1, 0, 2, 3] rfl⟩
              · refine W.eq (g2 := F0 m 97 ls [.int 0]) rfl ?_
                refine lv_if_ne (tgt := 111) hx hb dX12_plain_97 (by decide) (fun c_53 => absurd c_53 (by decide)) (fun c_53 => ?_)
                refine lv_aload_n hx hb dX12_plain_100 rfl (lv_at hl 2 rfl) ?_
                refine lv_iconst (v := 5) hx hb dX12_plain_101 (by decide) ?_
                refine lv_aload_n hx hb dX12_plain_102 rfl (lv_at hl 2 rfl) ?_
                refine va_get (D := D) (ci := 12) (v := .int (nI v11_2)) (C := RX12) (T := TX12) (N := 30) hx hb hts inlX12 hown hK hP 0 rfl rfl 11 (by decide) (hts _ mw_423) (fun _ h9 => h9) rfl dX12_plain_103 ?_
                refine lv_iload_n hx hb dX12_plain_106 rfl (lv_at hl 3 rfl) ?_
                refine ct_V (wr := [(a0, .inl (κ 0, 21375, .inl w)), (a5, .inl (κ 0, 800, .inl tp)), (a14, .inl (κ 0, 189, .inl g_a14__47))]) (As := [.int 5, .int (nI v11_2), .int (nI a)]) (rest := []) hFX hKK hP hD hS hA (s_X12_wrong l D κ m0 a0 a1 a2 u3 f4 a5 u6 f7 f8 f9 f10 v11_2 u12 u13 a14 a15 a16 a17 f18 f19 a20 a21 u22 a23 a24 a25 u26 f27 a28 u29 5 (nI v11_2) (nI a)) 3 gV_X12_210 hdV_X12_wrong ⟨Nat.le_of_ble_eq_true rfl, Nat.le_of_ble_eq_true rfl⟩ rfl rfl (Nat.le_of_ble_eq_true rfl) dX12_plain_107 ⟨Nat.le_of_ble_eq_true rfl, Nat.le_of_ble_eq_true rfl⟩ hl.1 [0] [1, 2, 3] rfl rfl (by decide) (by decide) (by decide) 0 12 rfl rfl rfl trivial (fun _ H locs hp_54 _ hP hD hS hz_ hk_ => ?_)
                replace hP : va_P D vwCl [(m0, .inr (12, [.ref a0, .ref a1, .ref a2, .int (nI u3), .int f4, .ref a5, .int (nI u6), .int 5, .int (nI v11_2), .int (nI a), .int f10, .int (nI v11_2), .int (nI u12), .int (nI u13), .ref a14, .ref a15, .ref a16, .ref a17, .int f18, .int f19, .ref a20, .ref a21, .int (nI u22), .ref a23, .ref a24, .ref a25, .int (nI u26), .int f27, .ref a28, .int (nI u29)])), (a0, .inl (κ 0, 21375, .inl w)), (a5, .inl (κ 0, 800, .inl tp)), (a14, .inl (κ 0, 189, .inl g_a14__47))] H := hP.sub [3, 0, 1, 2] rfl
                replace hD : va_D A [(m0, .inr (12, [.ref a0, .ref a1, .ref a2, .int (nI u3), .int f4, .ref a5, .int (nI u6), .int 5, .int (nI v11_2), .int (nI a), .int f10, .int (nI v11_2), .int (nI u12), .int (nI u13), .ref a14, .ref a15, .ref a16, .ref a17, .int f18, .int f19, .ref a20, .ref a21, .int (nI u22), .ref a23, .ref a24, .ref a25, .int (nI u26), .int f27, .ref a28, .int (nI u29)])), (a0, .inl (κ 0, 21375, .inl w)), (a5, .inl (κ 0, 800, .inl tp)), (a14, .inl (κ 0, 189, .inl g_a14__47))] := hD.sub [3, 0, 1, 2] (by decide) rfl
                refine W.eq (g2 := F0 m 110 ls [.int 0]) rfl ?_
                exact ct_iret hx hb hr hlk rfl hS hP hD (0, 5, nI v11_2, nI a, v11_2, g_a14__47) rfl ⟨(show PF (nI v11_2) from (PF_n (by omega))), (show Pfd g_a14__47 from (by first | assumption | omega)), (show u11 ≤ v11_2 from (by first | assumption | omega)), (show v11_2 ≤ u6 from (by first | assumption | omega)), (by exact Or.inr ((rfl)))⟩ [0, 1, 2, 3] rfl (by decide) trivial (Nat.le_of_ble_eq_true rfl) (Nat.le_of_ble_eq_true rfl) dX12_plain_110
          · refine lv_iinc (v := (nI (k2_2 + 1))) (lv' := [(2, .int (nI (k2_2 + 1))), (3, .int x_7), (0, .ref m0), (1, .int (nI a))]) hx hb dX12_plain_80 hl (k := 1) rfl (nI_i k2_2) (by decide) rfl (fun ls hl => ?_)
            refine lv_goto (tgt := 137) hx hb dX12_plain_83 (by decide) ?_
            refine lv_aload_n hx hb dX12_plain_137 rfl (lv_at hl 2 rfl) ?_
            refine lv_dup hx hb dX12_plain_138 rfl ?_
            refine va_get (D := D) (ci := 12) (v := .int (nI v11_2)) (C := RX12) (T := TX12) (N := 30) hx hb hts inlX12 hown hK hP 0 rfl rfl 11 (by decide) (hts _ mw_423) (fun _ h9 => h9) rfl dX12_plain_139 ?_
            refine lv_iconst (v := 1) hx hb dX12_plain_142 (by decide) ?_
            refine lv_iadd hx hb dX12_plain_143 ?_
            refine ki (v := (nI (v11_2 + 1))) (nI_add v11_2 1) ?_
            refine va_put (D := D) (ci := 12) (v := .int (nI (v11_2 + 1))) (ty := tyX12 11) (C := RX12) (T := TX12) (N := 30) hx hb hts inlX12 tyX12 tyX12_ok nmX12 hown hK hP hD hS 0 rfl rfl 11 (by decide) (hts _ mw_423) (fun _ h9 => h9) rfl (tyX12_ok 11 (by decide)) rfl rfl (Nat.le_of_ble_eq_true rfl) dX12_plain_144 (fun H locs hP hD hS => ?_)
            have hP : va_P D vwCl [(m0, .inr (12, [.ref a0, .ref a1, .ref a2, .int (nI u3), .int f4, .ref a5, .int (nI u6), .int f7, .int f8, .int f9, .int f10, .int (nI (v11_2 + 1)), .int (nI u12), .int (nI u13), .ref a14, .ref a15, .ref a16, .ref a17, .int f18, .int f19, .ref a20, .ref a21, .int (nI u22), .ref a23, .ref a24, .ref a25, .int (nI u26), .int f27, .ref a28, .int (nI u29)])), (a0, .inl (κ 0, 21375, .inl w)), (a5, .inl (κ 0, 800, .inl tp)), (a14, .inl (κ 0, 189, .inl ga14_2))] H := hP
            have hD : va_D A [(m0, .inr (12, [.ref a0, .ref a1, .ref a2, .int (nI u3), .int f4, .ref a5, .int (nI u6), .int f7, .int f8, .int f9, .int f10, .int (nI (v11_2 + 1)), .int (nI u12), .int (nI u13), .ref a14, .ref a15, .ref a16, .ref a17, .int f18, .int f19, .ref a20, .ref a21, .int (nI u22), .ref a23, .ref a24, .ref a25, .int (nI u26), .int f27, .ref a28, .int (nI u29)])), (a0, .inl (κ 0, 21375, .inl w)), (a5, .inl (κ 0, 800, .inl tp)), (a14, .inl (κ 0, 189, .inl ga14_2))] := hD
            refine lv_goto (tgt := 2) hx hb dX12_plain_147 (by decide) ?_
            exact ih2 _ _ _ _ (by omega) ⟨(k2_2 + 1), (v11_2 + 1), ga14_2, (by omega), (by omega), (by omega), hg2_0, rfl, hP, hD, hS, lv_sub hl [0, 2, 3] rfl⟩
      · refine lv_aload_n hx hb dX12_plain_51 rfl (lv_at hl 2 rfl) ?_
        refine lv_iconst (v := 2) hx hb dX12_plain_52 (by decide) ?_
        refine lv_aload_n hx hb dX12_plain_53 rfl (lv_at hl 2 rfl) ?_
        refine va_get (D := D) (ci := 12) (v := .int (nI v11_2)) (C := RX12) (T := TX12) (N := 30) hx hb hts inlX12 hown hK hP 0 rfl rfl 11 (by decide) (hts _ mw_423) (fun _ h9 => h9) rfl dX12_plain_54 ?_
        refine lv_iload_n hx hb dX12_plain_57 rfl (lv_at hl 3 rfl) ?_
        refine ct_V (wr := [(a0, .inl (κ 0, 21375, .inl w)), (a5, .inl (κ 0, 800, .inl tp)), (a14, .inl (κ 0, 189, .inl ga14_2))]) (As := [.int 2, .int (nI v11_2), .int (nI a)]) (rest := []) hFX hKK hP hD hS hA (s_X12_wrong l D κ m0 a0 a1 a2 u3 f4 a5 u6 f7 f8 f9 f10 v11_2 u12 u13 a14 a15 a16 a17 f18 f19 a20 a21 u22 a23 a24 a25 u26 f27 a28 u29 2 (nI v11_2) (nI a)) 3 gV_X12_210 hdV_X12_wrong ⟨Nat.le_of_ble_eq_true rfl, Nat.le_of_ble_eq_true rfl⟩ rfl rfl (Nat.le_of_ble_eq_true rfl) dX12_plain_58 ⟨Nat.le_of_ble_eq_true rfl, Nat.le_of_ble_eq_true rfl⟩ hl.1 [0] [1, 2, 3] rfl rfl (by decide) (by decide) (by decide) 0 12 rfl rfl rfl trivial (fun _ H locs hp_55 _ hP hD hS hz_ hk_ => ?_)
        replace hP : va_P D vwCl [(m0, .inr (12, [.ref a0, .ref a1, .ref a2, .int (nI u3), .int f4, .ref a5, .int (nI u6), .int 2, .int (nI v11_2), .int (nI a), .int f10, .int (nI v11_2), .int (nI u12), .int (nI u13), .ref a14, .ref a15, .ref a16, .ref a17, .int f18, .int f19, .ref a20, .ref a21, .int (nI u22), .ref a23, .ref a24, .ref a25, .int (nI u26), .int f27, .ref a28, .int (nI u29)])), (a0, .inl (κ 0, 21375, .inl w)), (a5, .inl (κ 0, 800, .inl tp)), (a14, .inl (κ 0, 189, .inl ga14_2))] H := hP.sub [3, 0, 1, 2] rfl
        replace hD : va_D A [(m0, .inr (12, [.ref a0, .ref a1, .ref a2, .int (nI u3), .int f4, .ref a5, .int (nI u6), .int 2, .int (nI v11_2), .int (nI a), .int f10, .int (nI v11_2), .int (nI u12), .int (nI u13), .ref a14, .ref a15, .ref a16, .ref a17, .int f18, .int f19, .ref a20, .ref a21, .int (nI u22), .ref a23, .ref a24, .ref a25, .int (nI u26), .int f27, .ref a28, .int (nI u29)])), (a0, .inl (κ 0, 21375, .inl w)), (a5, .inl (κ 0, 800, .inl tp)), (a14, .inl (κ 0, 189, .inl ga14_2))] := hD.sub [3, 0, 1, 2] (by decide) rfl
        refine W.eq (g2 := F0 m 61 ls [.int 0]) rfl ?_
        exact ct_iret hx hb hr hlk rfl hS hP hD (0, 2, nI v11_2, nI a, v11_2, ga14_2) rfl ⟨(show PF (nI v11_2) from (PF_n (by omega))), (show Pfd ga14_2 from (by first | assumption | omega)), (show u11 ≤ v11_2 from (by first | assumption | omega)), (show v11_2 ≤ u6 from (by first | assumption | omega)), (by exact Or.inr ((rfl)))⟩ [0, 1, 2, 3] rfl (by decide) trivial (Nat.le_of_ble_eq_true rfl) (Nat.le_of_ble_eq_true rfl) dX12_plain_61
    · refine W.eq (g2 := F0 m 25 ls [.int 0]) rfl ?_
      refine lv_if_ne (tgt := 39) hx hb dX12_plain_25 (by decide) (fun c_56 => absurd c_56 (by decide)) (fun c_56 => ?_)
      refine lv_aload_n hx hb dX12_plain_28 rfl (lv_at hl 2 rfl) ?_
      refine lv_iconst (v := 1) hx hb dX12_plain_29 (by decide) ?_
      refine lv_aload_n hx hb dX12_plain_30 rfl (lv_at hl 2 rfl) ?_
      refine va_get (D := D) (ci := 12) (v := .int (nI v11_2)) (C := RX12) (T := TX12) (N := 30) hx hb hts inlX12 hown hK hP 0 rfl rfl 11 (by decide) (hts _ mw_423) (fun _ h9 => h9) rfl dX12_plain_31 ?_
      refine lv_iload_n hx hb dX12_plain_34 rfl (lv_at hl 3 rfl) ?_
      refine ct_V (wr := [(a0, .inl (κ 0, 21375, .inl w)), (a5, .inl (κ 0, 800, .inl tp)), (a14, .inl (κ 0, 189, .inl ga14_2))]) (As := [.int 1, .int (nI v11_2), .int (nI a)]) (rest := []) hFX hKK hP hD hS hA (s_X12_wrong l D κ m0 a0 a1 a2 u3 f4 a5 u6 f7 f8 f9 f10 v11_2 u12 u13 a14 a15 a16 a17 f18 f19 a20 a21 u22 a23 a24 a25 u26 f27 a28 u29 1 (nI v11_2) (nI a)) 3 gV_X12_210 hdV_X12_wrong ⟨Nat.le_of_ble_eq_true rfl, Nat.le_of_ble_eq_true rfl⟩ rfl rfl (Nat.le_of_ble_eq_true rfl) dX12_plain_35 ⟨Nat.le_of_ble_eq_true rfl, Nat.le_of_ble_eq_true rfl⟩ hl.1 [0] [1, 2, 3] rfl rfl (by decide) (by decide) (by decide) 0 12 rfl rfl rfl trivial (fun _ H locs hp_57 _ hP hD hS hz_ hk_ => ?_)
      replace hP : va_P D vwCl [(m0, .inr (12, [.ref a0, .ref a1, .ref a2, .int (nI u3), .int f4, .ref a5, .int (nI u6), .int 1, .int (nI v11_2), .int (nI a), .int f10, .int (nI v11_2), .int (nI u12), .int (nI u13), .ref a14, .ref a15, .ref a16, .ref a17, .int f18, .int f19, .ref a20, .ref a21, .int (nI u22), .ref a23, .ref a24, .ref a25, .int (nI u26), .int f27, .ref a28, .int (nI u29)])), (a0, .inl (κ 0, 21375, .inl w)), (a5, .inl (κ 0, 800, .inl tp)), (a14, .inl (κ 0, 189, .inl ga14_2))] H := hP.sub [3, 0, 1, 2] rfl
      replace hD : va_D A [(m0, .inr (12, [.ref a0, .ref a1, .ref a2, .int (nI u3), .int f4, .ref a5, .int (nI u6), .int 1, .int (nI v11_2), .int (nI a), .int f10, .int (nI v11_2), .int (nI u12), .int (nI u13), .ref a14, .ref a15, .ref a16, .ref a17, .int f18, .int f19, .ref a20, .ref a21, .int (nI u22), .ref a23, .ref a24, .ref a25, .int (nI u26), .int f27, .ref a28, .int (nI u29)])), (a0, .inl (κ 0, 21375, .inl w)), (a5, .inl (κ 0, 800, .inl tp)), (a14, .inl (κ 0, 189, .inl ga14_2))] := hD.sub [3, 0, 1, 2] (by decide) rfl
      refine W.eq (g2 := F0 m 38 ls [.int 0]) rfl ?_
      exact ct_iret hx hb hr hlk rfl hS hP hD (0, 1, nI v11_2, nI a, v11_2, ga14_2) rfl ⟨(show PF (nI v11_2) from (PF_n (by omega))), (show Pfd ga14_2 from (by first | assumption | omega)), (show u11 ≤ v11_2 from (by first | assumption | omega)), (show v11_2 ≤ u6 from (by first | assumption | omega)), (by exact Or.inr ((rfl)))⟩ [0, 1, 2, 3] rfl (by decide) trivial (Nat.le_of_ble_eq_true rfl) (Nat.le_of_ble_eq_true rfl) dX12_plain_38
set_option maxHeartbeats 4000000 in
set_option maxRecDepth 100000 in
theorem s_X12_quoted (l : Launch) (D : va_G) (κ : Nat → ClassId) (m0 : Nat) (a0 : Nat) (a1 : Nat) (a2 : Nat) (u3 : Nat) (f4 : Int32) (a5 : Nat) (u6 : Nat) (f7 : Int32) (f8 : Int32) (f9 : Int32) (f10 : Int32) (u11 : Nat) (u12 : Nat) (u13 : Nat) (a14 : Nat) (a15 : Nat) (a16 : Nat) (a17 : Nat) (f18 : Int32) (f19 : Int32) (a20 : Nat) (a21 : Nat) (u22 : Nat) (a23 : Nat) (a24 : Nat) (a25 : Nat) (u26 : Nat) (f27 : Int32) (a28 : Nat) (u29 : Nat) (w : Nat → Int32) (tp : Nat → Int32) (fd : Nat → Int32) (a : Nat) (h6 : u6 ≤ 800) (h8 : PF f8) (h_a0 : Pw w) (h_a14 : Pfd fd) (h11 : u11 < u6) (ha : a < 9) : Ct l yX12_quoted (wl yX12_quoted cX12_quoted 3 (some .boolean)) { frames := 2, cells := 0, slots := 0, locals := 47 } D κ [.ref m0, .int (nI a)] [(m0, .inr (12, [.ref a0, .ref a1, .ref a2, .int (nI u3), .int f4, .ref a5, .int (nI u6), .int f7, .int f8, .int f9, .int f10, .int (nI u11), .int (nI u12), .int (nI u13), .ref a14, .ref a15, .ref a16, .ref a17, .int f18, .int f19, .ref a20, .ref a21, .int (nI u22), .ref a23, .ref a24, .ref a25, .int (nI u26), .int f27, .ref a28, .int (nI u29)])), (a0, .inl (κ 0, 21375, .inl w)), (a5, .inl (κ 0, 800, .inl tp)), (a14, .inl (κ 0, 189, .inl fd))] (fun _ => True) (fun u9 : Int32 × Int32 × Int32 × Int32 × Nat × (Nat → Int32) => some (.int u9.1)) (fun u9 : Int32 × Int32 × Int32 × Int32 × Nat × (Nat → Int32) => PF u9.2.2.1 ∧ Pfd u9.2.2.2.2.2 ∧ u11 ≤ u9.2.2.2.2.1 ∧ u9.2.2.2.2.1 ≤ u6 ∧ ((u9.1 = 1) ∨ (u9.1 = 0))) (fun u9 : Int32 × Int32 × Int32 × Int32 × Nat × (Nat → Int32) => [(m0, .inr (12, [.ref a0, .ref a1, .ref a2, .int (nI u3), .int f4, .ref a5, .int (nI u6), .int u9.2.1, .int u9.2.2.1, .int u9.2.2.2.1, .int f10, .int (nI u9.2.2.2.2.1), .int (nI u12), .int (nI u13), .ref a14, .ref a15, .ref a16, .ref a17, .int f18, .int f19, .ref a20, .ref a21, .int (nI u22), .ref a23, .ref a24, .ref a25, .int (nI u26), .int f27, .ref a28, .int (nI u29)])), (a0, .inl (κ 0, 21375, .inl w)), (a5, .inl (κ 0, 800, .inl tp)), (a14, .inl (κ 0, 189, .inl u9.2.2.2.2.2))]) (fun _ _ => True) := by
  refine ct_of (by decide +kernel) (Nat.le_of_ble_eq_true rfl) ?_
  intro p e s m args below meth c A ls hx hb hr hml hts hown hlk hin hKK hK hA hP hD hS hI hl
  have hS : va_S A s.heap s.heap [] := hS
  have hFX : FX p s m args c cX12_quoted 3 RX12 := ⟨hx, hb, hml, hown, hts⟩
  have hl : lv_has ls 3 [(0, .ref m0), (1, .int (nI a))] := hl
  refine lv_aload_n hx hb dX12_quoted_0 rfl (lv_at hl 0 rfl) ?_
  refine lv_dup hx hb dX12_quoted_1 rfl ?_
  refine va_get (D := D) (ci := 12) (v := .int (nI u11)) (C := RX12) (T := TX12) (N := 30) hx hb hts inlX12 hown hK hP 0 rfl rfl 11 (by decide) (hts _ mw_423) (fun _ h9 => h9) rfl dX12_quoted_2 ?_
  refine lv_iconst (v := 1) hx hb dX12_quoted_5 (by decide) ?_
  refine lv_iadd hx hb dX12_quoted_6 ?_
  refine ki (v := (nI (u11 + 1))) (nI_add u11 1) ?_
  refine va_put (D := D) (ci := 12) (v := .int (nI (u11 + 1))) (ty := tyX12 11) (C := RX12) (T := TX12) (N := 30) hx hb hts inlX12 tyX12 tyX12_ok nmX12 hown hK hP hD hS 0 rfl rfl 11 (by decide) (hts _ mw_423) (fun _ h9 => h9) rfl (tyX12_ok 11 (by decide)) rfl rfl (Nat.le_of_ble_eq_true rfl) dX12_quoted_7 (fun H locs hP hD hS => ?_)
  have hP : va_P D vwCl [(m0, .inr (12, [.ref a0, .ref a1, .ref a2, .int (nI u3), .int f4, .ref a5, .int (nI u6), .int f7, .int f8, .int f9, .int f10, .int (nI (u11 + 1)), .int (nI u12), .int (nI u13), .ref a14, .ref a15, .ref a16, .ref a17, .int f18, .int f19, .ref a20, .ref a21, .int (nI u22), .ref a23, .ref a24, .ref a25, .int (nI u26), .int f27, .ref a28, .int (nI u29)])), (a0, .inl (κ 0, 21375, .inl w)), (a5, .inl (κ 0, 800, .inl tp)), (a14, .inl (κ 0, 189, .inl fd))] H := hP
  have hD : va_D A [(m0, .inr (12, [.ref a0, .ref a1, .ref a2, .int (nI u3), .int f4, .ref a5, .int (nI u6), .int f7, .int f8, .int f9, .int f10, .int (nI (u11 + 1)), .int (nI u12), .int (nI u13), .ref a14, .ref a15, .ref a16, .ref a17, .int f18, .int f19, .ref a20, .ref a21, .int (nI u22), .ref a23, .ref a24, .ref a25, .int (nI u26), .int f27, .ref a28, .int (nI u29)])), (a0, .inl (κ 0, 21375, .inl w)), (a5, .inl (κ 0, 800, .inl tp)), (a14, .inl (κ 0, 189, .inl fd))] := hD
  refine loop_dn (fun k9 H locs ls => ∃ (v11_10 : Nat), ∃ (ga14_10 : Nat → Int32), (u11 ≤ v11_10) ∧ (v11_10 ≤ u6) ∧ Pfd ga14_10 ∧ u6 - v11_10 = k9 ∧ va_P D vwCl [(m0, .inr (12, [.ref a0, .ref a1, .ref a2, .int (nI u3), .int f4, .ref a5, .int (nI u6), .int f7, .int f8, .int f9, .int f10, .int (nI v11_10), .int (nI u12), .int (nI u13), .ref a14, .ref a15, .ref a16, .ref a17, .int f18, .int f19, .ref a20, .ref a21, .int (nI u22), .ref a23, .ref a24, .ref a25, .int (nI u26), .int f27, .ref a28, .int (nI u29)])), (a0, .inl (κ 0, 21375, .inl w)), (a5, .inl (κ 0, 800, .inl tp)), (a14, .inl (κ 0, 189, .inl ga14_10))] H ∧ va_D A [(m0, .inr (12, [.ref a0, .ref a1, .ref a2, .int (nI u3), .int f4, .ref a5, .int (nI u6), .int f7, .int f8, .int f9, .int f10, .int (nI v11_10), .int (nI u12), .int (nI u13), .ref a14, .ref a15, .ref a16, .ref a17, .int f18, .int f19, .ref a20, .ref a21, .int (nI u22), .ref a23, .ref a24, .ref a25, .int (nI u26), .int f27, .ref a28, .int (nI u29)])), (a0, .inl (κ 0, 21375, .inl w)), (a5, .inl (κ 0, 800, .inl tp)), (a14, .inl (κ 0, 189, .inl ga14_10))] ∧ va_S A s.heap H locs ∧ lv_has ls 3 [(0, .ref m0), (1, .int (nI a))]) (fun k9 H locs ls hI10 ih10 => ?_) (u6 - (u11 + 1)) _ _ _ ⟨(u11 + 1), fd, (by omega), (by omega), h_a14, rfl, hP, hD, hS, lv_sub hl [0, 1] rfl⟩
  obtain ⟨v11_10, ga14_10, hl10_0, hl10_1, hg10_0, hm10, hP, hD, hS, hl⟩ := hI10
  refine lv_aload_n hx hb dX12_quoted_10 rfl (lv_at hl 0 rfl) ?_
  refine va_get (D := D) (ci := 12) (v := .int (nI v11_10)) (C := RX12) (T := TX12) (N := 30) hx hb hts inlX12 hown hK hP 0 rfl rfl 11 (by decide) (hts _ mw_423) (fun _ h9 => h9) rfl dX12_quoted_11 ?_
  refine lv_aload_n hx hb dX12_quoted_14 rfl (lv_at hl 0 rfl) ?_
  refine va_get (D := D) (ci := 12) (v := .int (nI u6)) (C := RX12) (T := TX12) (N := 30) hx hb hts inlX12 hown hK hP 0 rfl rfl 6 (by decide) (hts _ mw_236) (fun _ h9 => h9) rfl dX12_quoted_15 ?_
  refine lv_icmp_ge (tgt := 144) hx hb dX12_quoted_18 (by decide) (fun c_1 => ?_) (fun c_1 => ?_)
  · have nc_1 := cv_le (a := u6) (b := v11_10) (by omega) (by omega) c_1
    refine lv_aload_n hx hb dX12_quoted_144 rfl (lv_at hl 0 rfl) ?_
    refine va_get (D := D) (ci := 12) (v := .int (nI v11_10)) (C := RX12) (T := TX12) (N := 30) hx hb hts inlX12 hown hK hP 0 rfl rfl 11 (by decide) (hts _ mw_423) (fun _ h9 => h9) rfl dX12_quoted_145 ?_
    refine lv_aload_n hx hb dX12_quoted_148 rfl (lv_at hl 0 rfl) ?_
    refine va_get (D := D) (ci := 12) (v := .int (nI u6)) (C := RX12) (T := TX12) (N := 30) hx hb hts inlX12 hown hK hP 0 rfl rfl 6 (by decide) (hts _ mw_236) (fun _ h9 => h9) rfl dX12_quoted_149 ?_
    refine lv_icmp_ne (tgt := 166) hx hb dX12_quoted_152 (by decide) (fun c_2 => ?_) (fun c_2 => ?_)
    · have nc_2 := cv_ne (a := v11_10) (b := u6) (by omega) (by omega) c_2
      refine lv_aload_n hx hb dX12_quoted_166 rfl (lv_at hl 0 rfl) ?_
      refine lv_dup hx hb dX12_quoted_167 rfl ?_
      refine va_get (D := D) (ci := 12) (v := .int (nI v11_10)) (C := RX12) (T := TX12) (N := 30) hx hb hts inlX12 hown hK hP 0 rfl rfl 11 (by decide) (hts _ mw_423) (fun _ h9 => h9) rfl dX12_quoted_168 ?_
      refine lv_iconst (v := 1) hx hb dX12_quoted_171 (by decide) ?_
      refine lv_iadd hx hb dX12_quoted_172 ?_
      refine ki (v := (nI (v11_10 + 1))) (nI_add v11_10 1) ?_
      refine va_put (D := D) (ci := 12) (v := .int (nI (v11_10 + 1))) (ty := tyX12 11) (C := RX12) (T := TX12) (N := 30) hx hb hts inlX12 tyX12 tyX12_ok nmX12 hown hK hP hD hS 0 rfl rfl 11 (by decide) (hts _ mw_423) (fun _ h9 => h9) rfl (tyX12_ok 11 (by decide)) rfl rfl (Nat.le_of_ble_eq_true rfl) dX12_quoted_173 (fun H locs hP hD hS => ?_)
      have hP : va_P D vwCl [(m0, .inr (12, [.ref a0, .ref a1, .ref a2, .int (nI u3), .int f4, .ref a5, .int (nI u6), .int f7, .int f8, .int f9, .int f10, .int (nI (v11_10 + 1)), .int (nI u12), .int (nI u13), .ref a14, .ref a15, .ref a16, .ref a17, .int f18, .int f19, .ref a20, .ref a21, .int (nI u22), .ref a23, .ref a24, .ref a25, .int (nI u26), .int f27, .ref a28, .int (nI u29)])), (a0, .inl (κ 0, 21375, .inl w)), (a5, .inl (κ 0, 800, .inl tp)), (a14, .inl (κ 0, 189, .inl ga14_10))] H := hP
      have hD : va_D A [(m0, .inr (12, [.ref a0, .ref a1, .ref a2, .int (nI u3), .int f4, .ref a5, .int (nI u6), .int f7, .int f8, .int f9, .int f10, .int (nI (v11_10 + 1)), .int (nI u12), .int (nI u13), .ref a14, .ref a15, .ref a16, .ref a17, .int f18, .int f19, .ref a20, .ref a21, .int (nI u22), .ref a23, .ref a24, .ref a25, .int (nI u26), .int f27, .ref a28, .int (nI u29)])), (a0, .inl (κ 0, 21375, .inl w)), (a5, .inl (κ 0, 800, .inl tp)), (a14, .inl (κ 0, 189, .inl ga14_10))] := hD
      refine lv_aload_n hx hb dX12_quoted_176 rfl (lv_at hl 0 rfl) ?_
      refine ct_V (wr := [(a14, .inl (κ 0, 189, .inl ga14_10))]) (As := []) (rest := []) hFX hKK hP hD hS hA (s_X12_blanks l D κ m0 a0 a1 a2 u3 f4 a5 u6 f7 f8 f9 f10 (v11_10 + 1) u12 u13 a14 a15 a16 a17 f18 f19 a20 a21 u22 a23 a24 a25 u26 f27 a28 u29 w tp (by omega) h_a0 (by omega)) 0 gV_X12_217 hdV_X12_blanks ⟨Nat.le_of_ble_eq_true rfl, Nat.le_of_ble_eq_true rfl⟩ rfl rfl (Nat.le_of_ble_eq_true rfl) dX12_quoted_177 ⟨Nat.le_of_ble_eq_true rfl, Nat.le_of_ble_eq_true rfl⟩ hl.1 [0, 1, 2] [3] rfl rfl (by decide) (by decide) (by decide) 0 12 rfl rfl rfl trivial (fun y11__3 H locs hp_4 _ hP hD hS hz_ hk_ => ?_)
      replace hP : va_P D vwCl [(m0, .inr (12, [.ref a0, .ref a1, .ref a2, .int (nI u3), .int f4, .ref a5, .int (nI u6), .int f7, .int f8, .int f9, .int f10, .int (nI y11__3), .int (nI u12), .int (nI u13), .ref a14, .ref a15, .ref a16, .ref a17, .int f18, .int f19, .ref a20, .ref a21, .int (nI u22), .ref a23, .ref a24, .ref a25, .int (nI u26), .int f27, .ref a28, .int (nI u29)])), (a0, .inl (κ 0, 21375, .inl w)), (a5, .inl (κ 0, 800, .inl tp)), (a14, .inl (κ 0, 189, .inl ga14_10))] H := hP.sub [1, 2, 3, 0] rfl
      replace hD : va_D A [(m0, .inr (12, [.ref a0, .ref a1, .ref a2, .int (nI u3), .int f4, .ref a5, .int (nI u6), .int f7, .int f8, .int f9, .int f10, .int (nI y11__3), .int (nI u12), .int (nI u13), .ref a14, .ref a15, .ref a16, .ref a17, .int f18, .int f19, .ref a20, .ref a21, .int (nI u22), .ref a23, .ref a24, .ref a25, .int (nI u26), .int f27, .ref a28, .int (nI u29)])), (a0, .inl (κ 0, 21375, .inl w)), (a5, .inl (κ 0, 800, .inl tp)), (a14, .inl (κ 0, 189, .inl ga14_10))] := hD.sub [1, 2, 3, 0] (by decide) rfl
      replace hp_4 : (v11_10 + 1) ≤ y11__3 ∧ y11__3 ≤ u6 := hp_4
      obtain ⟨h_5, h_6⟩ := hp_4
      refine W.eq (g2 := F0 m 180 ls []) rfl ?_
      refine lv_aload_n hx hb dX12_quoted_180 rfl (lv_at hl 0 rfl) ?_
      refine cr_V (As := []) (rest := []) hFX hKK (s_X12_isOver l D κ m0 a0 a1 a2 u3 f4 a5 u6 f7 f8 f9 f10 y11__3 u12 u13 a14 a15 a16 a17 f18 f19 a20 a21 u22 a23 a24 a25 u26 f27 a28 u29 w tp (by omega) h_a0 (by omega)) 0 gV_X12_220 hdV_X12_isOver rfl rfl ⟨Nat.le_of_ble_eq_true rfl, Nat.le_of_ble_eq_true rfl⟩ rfl rfl (Nat.le_of_ble_eq_true rfl) dX12_quoted_181 ⟨Nat.le_of_ble_eq_true rfl, Nat.le_of_ble_eq_true rfl⟩ hl.1 hP 0 12 rfl rfl rfl (hP.sub [0, 1, 2] rfl) (fun r__7 hp_8 => ?_)
      replace hp_8 : ((r__7 = 1) ∨ (r__7 = 0 ∧ y11__3 < u6)) := hp_8
      have ha_9 := hp_8
      clear hp_8
      rcases ha_9 with rfl | ⟨rfl, a_10⟩
      · refine W.eq (g2 := F0 m 184 ls [.int 1]) rfl ?_
        refine lv_if_eq (tgt := 189) hx hb dX12_quoted_184 (by decide) (fun c_11 => absurd c_11 (by decide)) (fun c_11 => ?_)
        refine lv_iconst (v := 1) hx hb dX12_quoted_187 (by decide) ?_
        exact ct_iret hx hb hr hlk rfl hS hP hD (1, f7, f8, f9, y11__3, ga14_10) rfl ⟨(show PF f8 from (by assumption)), (show Pfd ga14_10 from (by first | assumption | omega)), (show u11 ≤ y11__3 from (by first | assumption | omega)), (show y11__3 ≤ u6 from (by first | assumption | omega)), (by exact Or.inl (rfl))⟩ [0, 1, 2, 3] rfl (by decide) trivial (Nat.le_of_ble_eq_true rfl) (Nat.le_of_ble_eq_true rfl) dX12_quoted_188
      · refine W.eq (g2 := F0 m 184 ls [.int 0]) rfl ?_
        refine lv_if_eq (tgt := 189) hx hb dX12_quoted_184 (by decide) (fun c_12 => ?_) (fun c_12 => absurd (by decide) c_12)
        refine lv_aload_n hx hb dX12_quoted_189 rfl (lv_at hl 0 rfl) ?_
        refine lv_aload_n hx hb dX12_quoted_190 rfl (lv_at hl 0 rfl) ?_
        refine lv_aload_n hx hb dX12_quoted_191 rfl (lv_at hl 0 rfl) ?_
        refine va_get (D := D) (ci := 12) (v := .ref a5) (C := RX12) (T := TX12) (N := 30) hx hb hts inlX12 hown hK hP 0 rfl rfl 5 (by decide) (hts _ mw_191) (fun _ h9 => h9) rfl dX12_quoted_192 ?_
        refine lv_aload_n hx hb dX12_quoted_195 rfl (lv_at hl 0 rfl) ?_
        refine va_get (D := D) (ci := 12) (v := .int (nI y11__3)) (C := RX12) (T := TX12) (N := 30) hx hb hts inlX12 hown hK hP 0 rfl rfl 11 (by decide) (hts _ mw_423) (fun _ h9 => h9) rfl dX12_quoted_196 ?_
        refine va_iald hx hb hK hP 2 0 rfl rfl (i := nI y11__3) (vp_in_nI (n := y11__3) (by omega) (by omega)) dX12_quoted_199 ?_
        refine kv (v := .int (tp y11__3)) (by rw [nI_clamp (by omega)]) ?_
        obtain ⟨x_13, ex_13⟩ : ∃ y9 : Int32, tp y11__3 = y9 := ⟨_, rfl⟩
        refine kv (v := .int x_13) (congrArg Value.int ex_13) ?_
        refine lv_iconst (v := 0) hx hb dX12_quoted_200 (by decide) ?_
        refine cr_V (As := [.int x_13, .int 0]) (rest := [.ref m0]) hFX hKK (s_X12_canBe l D κ m0 a0 a1 a2 u3 f4 a5 u6 f7 f8 f9 f10 y11__3 u12 u13 a14 a15 a16 a17 f18 f19 a20 a21 u22 a23 a24 a25 u26 f27 a28 u29 w x_13 0 h_a0) 2 gV_X12_206 hdV_X12_canBe rfl rfl ⟨Nat.le_of_ble_eq_true rfl, Nat.le_of_ble_eq_true rfl⟩ rfl rfl (Nat.le_of_ble_eq_true rfl) dX12_quoted_201 ⟨Nat.le_of_ble_eq_true rfl, Nat.le_of_ble_eq_true rfl⟩ hl.1 hP 0 12 rfl rfl rfl (hP.sub [0, 1] rfl) (fun r__14 hp_15 => ?_)
        replace hp_15 : ((r__14 = 1) ∨ (r__14 = 0)) := hp_15
        have ha_16 := hp_15
        clear hp_15
        rcases ha_16 with rfl | rfl
        · refine W.eq (g2 := F0 m 204 ls [.int 1, .ref m0]) rfl ?_
          refine lv_if_eq (tgt := 211) hx hb dX12_quoted_204 (by decide) (fun c_17 => absurd c_17 (by decide)) (fun c_17 => ?_)
          refine lv_iconst (v := 3) hx hb dX12_quoted_207 (by decide) ?_
          refine lv_goto (tgt := 212) hx hb dX12_quoted_208 (by decide) ?_
          refine lv_aload_n hx hb dX12_quoted_212 rfl (lv_at hl 0 rfl) ?_
          refine va_get (D := D) (ci := 12) (v := .int (nI y11__3)) (C := RX12) (T := TX12) (N := 30) hx hb hts inlX12 hown hK hP 0 rfl rfl 11 (by decide) (hts _ mw_423) (fun _ h9 => h9) rfl dX12_quoted_213 ?_
          refine lv_iload_n hx hb dX12_quoted_216 rfl (lv_at hl 1 rfl) ?_
          refine ct_V (wr := [(a0, .inl (κ 0, 21375, .inl w)), (a5, .inl (κ 0, 800, .inl tp)), (a14, .inl (κ 0, 189, .inl ga14_10))]) (As := [.int 3, .int (nI y11__3), .int (nI a)]) (rest := []) hFX hKK hP hD hS hA (s_X12_wrong l D κ m0 a0 a1 a2 u3 f4 a5 u6 f7 f8 f9 f10 y11__3 u12 u13 a14 a15 a16 a17 f18 f19 a20 a21 u22 a23 a24 a25 u26 f27 a28 u29 3 (nI y11__3) (nI a)) 3 gV_X12_210 hdV_X12_wrong ⟨Nat.le_of_ble_eq_true rfl, Nat.le_of_ble_eq_true rfl⟩ rfl rfl (Nat.le_of_ble_eq_true rfl) dX12_quoted_217 ⟨Nat.le_of_ble_eq_true rfl, Nat.le_of_ble_eq_true rfl⟩ hl.1 [0] [1, 2, 3] rfl rfl (by decide) (by decide) (by decide) 0 12 rfl rfl rfl trivial (fun _ H locs hp_18 _ hP hD hS hz_ hk_ => ?_)
          replace hP : va_P D vwCl [(m0, .inr (12, [.ref a0, .ref a1, .ref a2, .int (nI u3), .int f4, .ref a5, .int (nI u6), .int 3, .int (nI y11__3), .int (nI a), .int f10, .int (nI y11__3), .int (nI u12), .int (nI u13), .ref a14, .ref a15, .ref a16, .ref a17, .int f18, .int f19, .ref a20, .ref a21, .int (nI u22), .ref a23, .ref a24, .ref a25, .int (nI u26), .int f27, .ref a28, .int (nI u29)])), (a0, .inl (κ 0, 21375, .inl w)), (a5, .inl (κ 0, 800, .inl tp)), (a14, .inl (κ 0, 189, .inl ga14_10))] H := hP.sub [3, 0, 1, 2] rfl
          replace hD : va_D A [(m0, .inr (12, [.ref a0, .ref a1, .ref a2, .int (nI u3), .int f4, .ref a5, .int (nI u6), .int 3, .int (nI y11__3), .int (nI a), .int f10, .int (nI y11__3), .int (nI u12), .int (nI u13), .ref a14, .ref a15, .ref a16, .ref a17, .int f18, .int f19, .ref a20, .ref a21, .int (nI u22), .ref a23, .ref a24, .ref a25, .int (nI u26), .int f27, .ref a28, .int (nI u29)])), (a0, .inl (κ 0, 21375, .inl w)), (a5, .inl (κ 0, 800, .inl tp)), (a14, .inl (κ 0, 189, .inl ga14_10))] := hD.sub [3, 0, 1, 2] (by decide) rfl
          refine W.eq (g2 := F0 m 220 ls [.int 0]) rfl ?_
          exact ct_iret hx hb hr hlk rfl hS hP hD (0, 3, nI y11__3, nI a, y11__3, ga14_10) rfl ⟨(show PF (nI y11__3) from (PF_n (by omega))), (show Pfd ga14_10 from (by first | assumption | omega)), (show u11 ≤ y11__3 from (by first | assumption | omega)), (show y11__3 ≤ u6 from (by first | assumption | omega)), (by exact Or.inr ((rfl)))⟩ [0, 1, 2, 3] rfl (by decide) trivial (Nat.le_of_ble_eq_true rfl) (Nat.le_of_ble_eq_true rfl) dX12_quoted_220
        · refine W.eq (g2 := F0 m 204 ls [.int 0, .ref m0]) rfl ?_
          refine lv_if_eq (tgt := 211) hx hb dX12_quoted_204 (by decide) (fun c_19 => ?_) (fun c_19 => absurd (by decide) c_19)
          refine lv_iconst (v := 1) hx hb dX12_quoted_211 (by decide) ?_
          refine lv_aload_n hx hb dX12_quoted_212 rfl (lv_at hl 0 rfl) ?_
          refine va_get (D := D) (ci := 12) (v := .int (nI y11__3)) (C := RX12) (T := TX12) (N := 30) hx hb hts inlX12 hown hK hP 0 rfl rfl 11 (by decide) (hts _ mw_423) (fun _ h9 => h9) rfl dX12_quoted_213 ?_
          refine lv_iload_n hx hb dX12_quoted_216 rfl (lv_at hl 1 rfl) ?_
          refine ct_V (wr := [(a0, .inl (κ 0, 21375, .inl w)), (a5, .inl (κ 0, 800, .inl tp)), (a14, .inl (κ 0, 189, .inl ga14_10))]) (As := [.int 1, .int (nI y11__3), .int (nI a)]) (rest := []) hFX hKK hP hD hS hA (s_X12_wrong l D κ m0 a0 a1 a2 u3 f4 a5 u6 f7 f8 f9 f10 y11__3 u12 u13 a14 a15 a16 a17 f18 f19 a20 a21 u22 a23 a24 a25 u26 f27 a28 u29 1 (nI y11__3) (nI a)) 3 gV_X12_210 hdV_X12_wrong ⟨Nat.le_of_ble_eq_true rfl, Nat.le_of_ble_eq_true rfl⟩ rfl rfl (Nat.le_of_ble_eq_true rfl) dX12_quoted_217 ⟨Nat.le_of_ble_eq_true rfl, Nat.le_of_ble_eq_true rfl⟩ hl.1 [0] [1, 2, 3] rfl rfl (by decide) (by decide) (by decide) 0 12 rfl rfl rfl trivial (fun _ H locs hp_20 _ hP hD hS hz_ hk_ => ?_)
          replace hP : va_P D vwCl [(m0, .inr (12, [.ref a0, .ref a1, .ref a2, .int (nI u3), .int f4, .ref a5, .int (nI u6), .int 1, .int (nI y11__3), .int (nI a), .int f10, .int (nI y11__3), .int (nI u12), .int (nI u13), .ref a14, .ref a15, .ref a16, .ref a17, .int f18, .int f19, .ref a20, .ref a21, .int (nI u22), .ref a23, .ref a24, .ref a25, .int (nI u26), .int f27, .ref a28, .int (nI u29)])), (a0, .inl (κ 0, 21375, .inl w)), (a5, .inl (κ 0, 800, .inl tp)), (a14, .inl (κ 0, 189, .inl ga14_10))] H := hP.sub [3, 0, 1, 2] rfl
          replace hD : va_D A [(m0, .inr (12, [.ref a0, .ref a1, .ref a2, .int (nI u3), .int f4, .ref a5, .int (nI u6), .int 1, .int (nI y11__3), .int (nI a), .int f10, .int (nI y11__3), .int (nI u12), .int (nI u13), .ref a14, .ref a15, .ref a16, .ref a17, .int f18, .int f19, .ref a20, .ref a21, .int (nI u22), .ref a23, .ref a24, .ref a25, .int (nI u26), .int f27, .ref a28, .int (nI u29)])), (a0, .inl (κ 0, 21375, .inl w)), (a5, .inl (κ 0, 800, .inl tp)), (a14, .inl (κ 0, 189, .inl ga14_10))] := hD.sub [3, 0, 1, 2] (by decide) rfl
          refine W.eq (g2 := F0 m 220 ls [.int 0]) rfl ?_
          exact ct_iret hx hb hr hlk rfl hS hP hD (0, 1, nI y11__3, nI a, y11__3, ga14_10) rfl ⟨(show PF (nI y11__3) from (PF_n (by omega))), (show Pfd ga14_10 from (by first | assumption | omega)), (show u11 ≤ y11__3 from (by first | assumption | omega)), (show y11__3 ≤ u6 from (by first | assumption | omega)), (by exact Or.inr ((rfl)))⟩ [0, 1, 2, 3] rfl (by decide) trivial (Nat.le_of_ble_eq_true rfl) (Nat.le_of_ble_eq_true rfl) dX12_quoted_220
    · have nc_2 := cv_eq (a := v11_10) (b := u6) (by omega) (by omega) c_2
      refine lv_aload_n hx hb dX12_quoted_155 rfl (lv_at hl 0 rfl) ?_
      refine lv_iconst (v := 4) hx hb dX12_quoted_156 (by decide) ?_
      refine lv_aload_n hx hb dX12_quoted_157 rfl (lv_at hl 0 rfl) ?_
      refine va_get (D := D) (ci := 12) (v := .int (nI v11_10)) (C := RX12) (T := TX12) (N := 30) hx hb hts inlX12 hown hK hP 0 rfl rfl 11 (by decide) (hts _ mw_423) (fun _ h9 => h9) rfl dX12_quoted_158 ?_
      refine lv_iload_n hx hb dX12_quoted_161 rfl (lv_at hl 1 rfl) ?_
      refine ct_V (wr := [(a0, .inl (κ 0, 21375, .inl w)), (a5, .inl (κ 0, 800, .inl tp)), (a14, .inl (κ 0, 189, .inl ga14_10))]) (As := [.int 4, .int (nI v11_10), .int (nI a)]) (rest := []) hFX hKK hP hD hS hA (s_X12_wrong l D κ m0 a0 a1 a2 u3 f4 a5 u6 f7 f8 f9 f10 v11_10 u12 u13 a14 a15 a16 a17 f18 f19 a20 a21 u22 a23 a24 a25 u26 f27 a28 u29 4 (nI v11_10) (nI a)) 3 gV_X12_210 hdV_X12_wrong ⟨Nat.le_of_ble_eq_true rfl, Nat.le_of_ble_eq_true rfl⟩ rfl rfl (Nat.le_of_ble_eq_true rfl) dX12_quoted_162 ⟨Nat.le_of_ble_eq_true rfl, Nat.le_of_ble_eq_true rfl⟩ hl.1 [0] [1, 2, 3] rfl rfl (by decide) (by decide) (by decide) 0 12 rfl rfl rfl trivial (fun _ H locs hp_21 _ hP hD hS hz_ hk_ => ?_)
      replace hP : va_P D vwCl [(m0, .inr (12, [.ref a0, .ref a1, .ref a2, .int (nI u3), .int f4, .ref a5, .int (nI u6), .int 4, .int (nI v11_10), .int (nI a), .int f10, .int (nI v11_10), .int (nI u12), .int (nI u13), .ref a14, .ref a15, .ref a16, .ref a17, .int f18, .int f19, .ref a20, .ref a21, .int (nI u22), .ref a23, .ref a24, .ref a25, .int (nI u26), .int f27, .ref a28, .int (nI u29)])), (a0, .inl (κ 0, 21375, .inl w)), (a5, .inl (κ 0, 800, .inl tp)), (a14, .inl (κ 0, 189, .inl ga14_10))] H := hP.sub [3, 0, 1, 2] rfl
      replace hD : va_D A [(m0, .inr (12, [.ref a0, .ref a1, .ref a2, .int (nI u3), .int f4, .ref a5, .int (nI u6), .int 4, .int (nI v11_10), .int (nI a), .int f10, .int (nI v11_10), .int (nI u12), .int (nI u13), .ref a14, .ref a15, .ref a16, .ref a17, .int f18, .int f19, .ref a20, .ref a21, .int (nI u22), .ref a23, .ref a24, .ref a25, .int (nI u26), .int f27, .ref a28, .int (nI u29)])), (a0, .inl (κ 0, 21375, .inl w)), (a5, .inl (κ 0, 800, .inl tp)), (a14, .inl (κ 0, 189, .inl ga14_10))] := hD.sub [3, 0, 1, 2] (by decide) rfl
      refine W.eq (g2 := F0 m 165 ls [.int 0]) rfl ?_
      exact ct_iret hx hb hr hlk rfl hS hP hD (0, 4, nI v11_10, nI a, v11_10, ga14_10) rfl ⟨(show PF (nI v11_10) from (PF_n (by omega))), (show Pfd ga14_10 from (by first | assumption | omega)), (show u11 ≤ v11_10 from (by first | assumption | omega)), (show v11_10 ≤ u6 from (by first | assumption | omega)), (by exact Or.inr ((rfl)))⟩ [0, 1, 2, 3] rfl (by decide) trivial (Nat.le_of_ble_eq_true rfl) (Nat.le_of_ble_eq_true rfl) dX12_quoted_165
  · have nc_1 := cv_nle (a := u6) (b := v11_10) (by omega) (by omega) c_1
    refine lv_aload_n hx hb dX12_quoted_21 rfl (lv_at hl 0 rfl) ?_
    refine va_get (D := D) (ci := 12) (v := .ref a5) (C := RX12) (T := TX12) (N := 30) hx hb hts inlX12 hown hK hP 0 rfl rfl 5 (by decide) (hts _ mw_191) (fun _ h9 => h9) rfl dX12_quoted_22 ?_
    refine lv_aload_n hx hb dX12_quoted_25 rfl (lv_at hl 0 rfl) ?_
    refine va_get (D := D) (ci := 12) (v := .int (nI v11_10)) (C := RX12) (T := TX12) (N := 30) hx hb hts inlX12 hown hK hP 0 rfl rfl 11 (by decide) (hts _ mw_423) (fun _ h9 => h9) rfl dX12_quoted_26 ?_
    refine va_iald hx hb hK hP 2 0 rfl rfl (i := nI v11_10) (vp_in_nI (n := v11_10) (by omega) (by omega)) dX12_quoted_29 ?_
    refine kv (v := .int (tp v11_10)) (by rw [nI_clamp (by omega)]) ?_
    obtain ⟨x_22, ex_22⟩ : ∃ y9 : Int32, tp v11_10 = y9 := ⟨_, rfl⟩
    refine kv (v := .int x_22) (congrArg Value.int ex_22) ?_
    refine lv_istore_n (lv' := [(2, .int x_22), (0, .ref m0), (1, .int (nI a))]) hx hb dX12_quoted_30 rfl hl (by decide) rfl (fun ls hl => ?_)
    refine lv_iload_n hx hb dX12_quoted_31 rfl (lv_at hl 0 rfl) ?_
    refine lv_aload_n hx hb dX12_quoted_32 rfl (lv_at hl 1 rfl) ?_
    refine va_get (D := D) (ci := 12) (v := .ref a0) (C := RX12) (T := TX12) (N := 30) hx hb hts inlX12 hown hK hP 0 rfl rfl 0 (by decide) (hts _ mw_187) (fun _ h9 => h9) rfl dX12_quoted_33 ?_
    refine lv_sipush (v := 21370) hx hb dX12_quoted_36 (by decide) ?_
    refine va_iald hx hb hK hP 1 0 rfl rfl (i := 21370) (vp_k (by decide)) dX12_quoted_39 ?_
    obtain ⟨x_23, ex_23⟩ : ∃ y9 : Int32, w 21370 = y9 := ⟨_, rfl⟩
    refine kv (v := .int x_23) (congrArg Value.int ex_23) ?_
    refine lv_icmp_ne (tgt := 91) hx hb dX12_quoted_40 (by decide) (fun c_24 => ?_) (fun c_24 => ?_)
    · refine lv_aload_n hx hb dX12_quoted_91 rfl (lv_at hl 1 rfl) ?_
      refine lv_iload_n hx hb dX12_quoted_92 rfl (lv_at hl 0 rfl) ?_
      refine lv_iconst (v := 1) hx hb dX12_quoted_93 (by decide) ?_
      refine cr_V (As := [.int x_22, .int 1]) (rest := []) hFX hKK (s_X12_canBe l D κ m0 a0 a1 a2 u3 f4 a5 u6 f7 f8 f9 f10 v11_10 u12 u13 a14 a15 a16 a17 f18 f19 a20 a21 u22 a23 a24 a25 u26 f27 a28 u29 w x_22 1 h_a0) 2 gV_X12_206 hdV_X12_canBe rfl rfl ⟨Nat.le_of_ble_eq_true rfl, Nat.le_of_ble_eq_true rfl⟩ rfl rfl (Nat.le_of_ble_eq_true rfl) dX12_quoted_94 ⟨Nat.le_of_ble_eq_true rfl, Nat.le_of_ble_eq_true rfl⟩ hl.1 hP 0 12 rfl rfl rfl (hP.sub [0, 1] rfl) (fun r__25 hp_26 => ?_)
      replace hp_26 : ((r__25 = 1) ∨ (r__25 = 0)) := hp_26
      have ha_27 := hp_26
      clear hp_26
      rcases ha_27 with rfl | rfl
      · refine W.eq (g2 := F0 m 97 ls [.int 1]) rfl ?_
        refine lv_if_ne (tgt := 111) hx hb dX12_quoted_97 (by decide) (fun c_28 => ?_) (fun c_28 => absurd c_28 (by decide))
        refine lv_aload_n hx hb dX12_quoted_111 rfl (lv_at hl 1 rfl) ?_
        refine lv_iload_n hx hb dX12_quoted_112 rfl (lv_at hl 2 rfl) ?_
        refine lv_iload_n hx hb dX12_quoted_113 rfl (lv_at hl 0 rfl) ?_
        refine ct_V (wr := [(a0, .inl (κ 0, 21375, .inl w)), (a5, .inl (κ 0, 800, .inl tp))]) (As := [.int (nI a), .int x_22]) (rest := []) hFX hKK hP hD hS hA (s_X12_adds l D κ m0 a0 a1 a2 u3 f4 a5 u6 f7 f8 f9 f10 v11_10 u12 u13 a14 a15 a16 a17 f18 f19 a20 a21 u22 a23 a24 a25 u26 f27 a28 u29 ga14_10 x_22 a hg10_0 (by omega)) 2 gV_X12_214 hdV_X12_adds ⟨Nat.le_of_ble_eq_true rfl, Nat.le_of_ble_eq_true rfl⟩ rfl rfl (Nat.le_of_ble_eq_true rfl) dX12_quoted_114 ⟨Nat.le_of_ble_eq_true rfl, Nat.le_of_ble_eq_true rfl⟩ hl.1 [0, 3] [1, 2] rfl rfl (by decide) (by decide) (by decide) 0 12 rfl rfl rfl trivial (fun u_31 H locs hp_32 _ hP hD hS hz_ hk_ => ?_)
        obtain ⟨r__29, g_a14__30⟩ := u_31
        replace hP : va_P D vwCl [(m0, .inr (12, [.ref a0, .ref a1, .ref a2, .int (nI u3), .int f4, .ref a5, .int (nI u6), .int f7, .int f8, .int f9, .int f10, .int (nI v11_10), .int (nI u12), .int (nI u13), .ref a14, .ref a15, .ref a16, .ref a17, .int f18, .int f19, .ref a20, .ref a21, .int (nI u22), .ref a23, .ref a24, .ref a25, .int (nI u26), .int f27, .ref a28, .int (nI u29)])), (a0, .inl (κ 0, 21375, .inl w)), (a5, .inl (κ 0, 800, .inl tp)), (a14, .inl (κ 0, 189, .inl g_a14__30))] H := hP.sub [2, 0, 1, 3] rfl
        replace hD : va_D A [(m0, .inr (12, [.ref a0, .ref a1, .ref a2, .int (nI u3), .int f4, .ref a5, .int (nI u6), .int f7, .int f8, .int f9, .int f10, .int (nI v11_10), .int (nI u12), .int (nI u13), .ref a14, .ref a15, .ref a16, .ref a17, .int f18, .int f19, .ref a20, .ref a21, .int (nI u22), .ref a23, .ref a24, .ref a25, .int (nI u26), .int f27, .ref a28, .int (nI u29)])), (a0, .inl (κ 0, 21375, .inl w)), (a5, .inl (κ 0, 800, .inl tp)), (a14, .inl (κ 0, 189, .inl g_a14__30))] := hD.sub [2, 0, 1, 3] (by decide) rfl
        replace hp_32 : Pfd g_a14__30 ∧ ((r__29 = 1) ∨ (r__29 = 0)) := hp_32
        obtain ⟨h_33, ha_34⟩ := hp_32
        rcases ha_34 with rfl | rfl
        · refine W.eq (g2 := F0 m 117 ls [.int 1]) rfl ?_
          refine lv_if_ne (tgt := 131) hx hb dX12_quoted_117 (by decide) (fun c_35 => ?_) (fun c_35 => absurd c_35 (by decide))
          refine lv_aload_n hx hb dX12_quoted_131 rfl (lv_at hl 1 rfl) ?_
          refine lv_dup hx hb dX12_quoted_132 rfl ?_
          refine va_get (D := D) (ci := 12) (v := .int (nI v11_10)) (C := RX12) (T := TX12) (N := 30) hx hb hts inlX12 hown hK hP 0 rfl rfl 11 (by decide) (hts _ mw_423) (fun _ h9 => h9) rfl dX12_quoted_133 ?_
          refine lv_iconst (v := 1) hx hb dX12_quoted_136 (by decide) ?_
          refine lv_iadd hx hb dX12_quoted_137 ?_
          refine ki (v := (nI (v11_10 + 1))) (nI_add v11_10 1) ?_
          refine va_put (D := D) (ci := 12) (v := .int (nI (v11_10 + 1))) (ty := tyX12 11) (C := RX12) (T := TX12) (N := 30) hx hb hts inlX12 tyX12 tyX12_ok nmX12 hown hK hP hD hS 0 rfl rfl 11 (by decide) (hts _ mw_423) (fun _ h9 => h9) rfl (tyX12_ok 11 (by decide)) rfl rfl (Nat.le_of_ble_eq_true rfl) dX12_quoted_138 (fun H locs hP hD hS => ?_)
          have hP : va_P D vwCl [(m0, .inr (12, [.ref a0, .ref a1, .ref a2, .int (nI u3), .int f4, .ref a5, .int (nI u6), .int f7, .int f8, .int f9, .int f10, .int (nI (v11_10 + 1)), .int (nI u12), .int (nI u13), .ref a14, .ref a15, .ref a16, .ref a17, .int f18, .int f19, .ref a20, .ref a21, .int (nI u22), .ref a23, .ref a24, .ref a25, .int (nI u26), .int f27, .ref a28, .int (nI u29)])), (a0, .inl (κ 0, 21375, .inl w)), (a5, .inl (κ 0, 800, .inl tp)), (a14, .inl (κ 0, 189, .inl g_a14__30))] H := hP
          have hD : va_D A [(m0, .inr (12, [.ref a0, .ref a1, .ref a2, .int (nI u3), .int f4, .ref a5, .int (nI u6), .int f7, .int f8, .int f9, .int f10, .int (nI (v11_10 + 1)), .int (nI u12), .int (nI u13), .ref a14, .ref a15, .ref a16, .ref a17, .int f18, .int f19, .ref a20, .ref a21, .int (nI u22), .ref a23, .ref a24, .ref a25, .int (nI u26), .int f27, .ref a28, .int (nI u29)])), (a0, .inl (κ 0, 21375, .inl w)), (a5, .inl (κ 0, 800, .inl tp)), (a14, .inl (κ 0, 189, .inl g_a14__30))] := hD
          refine lv_goto (tgt := 10) hx hb dX12_quoted_141 (by decide) ?_
          exact ih10 _ _ _ _ (by omega) ⟨(v11_10 + 1), g_a14__30, (by omega), (by omega), h_33, rfl, hP, hD, hS, lv_sub hl [1, 2] rfl⟩
        · refine W.eq (g2 := F0 m 117 ls [.int 0]) rfl ?_
          refine lv_if_ne (tgt := 131) hx hb dX12_quoted_117 (by decide) (fun c_36 => absurd c_36 (by decide)) (fun c_36 => ?_)
          refine lv_aload_n hx hb dX12_quoted_120 rfl (lv_at hl 1 rfl) ?_
          refine lv_iconst (v := 5) hx hb dX12_quoted_121 (by decide) ?_
          refine lv_aload_n hx hb dX12_quoted_122 rfl (lv_at hl 1 rfl) ?_
          refine va_get (D := D) (ci := 12) (v := .int (nI v11_10)) (C := RX12) (T := TX12) (N := 30) hx hb hts inlX12 hown hK hP 0 rfl rfl 11 (by decide) (hts _ mw_423) (fun _ h9 => h9) rfl dX12_quoted_123 ?_
          refine lv_iload_n hx hb dX12_quoted_126 rfl (lv_at hl 2 rfl) ?_
          refine ct_V (wr := [(a0, .inl (κ 0, 21375, .inl w)), (a5, .inl (κ 0, 800, .inl tp)), (a14, .inl (κ 0, 189, .inl g_a14__30))]) (As := [.int 5, .int (nI v11_10), .int (nI a)]) (rest := []) hFX hKK hP hD hS hA (s_X12_wrong l D κ m0 a0 a1 a2 u3 f4 a5 u6 f7 f8 f9 f10 v11_10 u12 u13 a14 a15 a16 a17 f18 f19 a20 a21 u22 a23 a24 a25 u26 f27 a28 u29 5 (nI v11_10) (nI a)) 3 gV_X12_210 hdV_X12_wrong ⟨Nat.le_of_ble_eq_true rfl, Nat.le_of_ble_eq_true rfl⟩ rfl rfl (Nat.le_of_ble_eq_true rfl) dX12_quoted_127 ⟨Nat.le_of_ble_eq_true rfl, Nat.le_of_ble_eq_true rfl⟩ hl.1 [0] [1, 2, 3] rfl rfl (by decide) (by decide) (by decide) 0 12 rfl rfl rfl trivial (fun _ H locs hp_37 _ hP hD hS hz_ hk_ => ?_)
          replace hP : va_P D vwCl [(m0, .inr (12, [.ref a0, .ref a1, .ref a2, .int (nI u3), .int f4, .ref a5, .int (nI u6), .int 5, .int (nI v11_10), .int (nI a), .int f10, .int (nI v11_10), .int (nI u12), .int (nI u13), .ref a14, .ref a15, .ref a16, .ref a17, .int f18, .int f19, .ref a20, .ref a21, .int (nI u22), .ref a23, .ref a24, .ref a25, .int (nI u26), .int f27, .ref a28, .int (nI u29)])), (a0, .inl (κ 0, 21375, .inl w)), (a5, .inl (κ 0, 800, .inl tp)), (a14, .inl (κ 0, 189, .inl g_a14__30))] H := hP.sub [3, 0, 1, 2] rfl
          replace hD : va_D A [(m0, .inr (12, [.ref a0, .ref a1, .ref a2, .int (nI u3), .int f4, .ref a5, .int (nI u6), .int 5, .int (nI v11_10), .int (nI a), .int f10, .int (nI v11_10), .int (nI u12), .int (nI u13), .ref a14, .ref a15, .ref a16, .ref a17, .int f18, .int f19, .ref a20, .ref a21, .int (nI u22), .ref a23, .ref a24, .ref a25, .int (nI u26), .int f27, .ref a28, .int (nI u29)])), (a0, .inl (κ 0, 21375, .inl w)), (a5, .inl (κ 0, 800, .inl tp)), (a14, .inl (κ 0, 189, .inl g_a14__30))] := hD.sub [3, 0, 1, 2] (by decide) rfl
          refine W.eq (g2 := F0 m 130 ls [.int 0]) rfl ?_
          exact ct_iret hx hb hr hlk rfl hS hP hD (0, 5, nI v11_10, nI a, v11_10, g_a14__30) rfl ⟨(show PF (nI v11_10) from (PF_n (by omega))), (show Pfd g_a14__30 from (by first | assumption | omega)), (show u11 ≤ v11_10 from (by first | assumption | omega)), (show v11_10 ≤ u6 from (by first | assumption | omega)), (by exact Or.inr ((rfl)))⟩ [0, 1, 2, 3] rfl (by decide) trivial (Nat.le_of_ble_eq_true rfl) (Nat.le_of_ble_eq_true rfl) dX12_quoted_130
      · refine W.eq (g2 := F0 m 97 ls [.int 0]) rfl ?_
        refine lv_if_ne (tgt := 111) hx hb dX12_quoted_97 (by decide) (fun c_38 => absurd c_38 (by decide)) (fun c_38 => ?_)
        refine lv_aload_n hx hb dX12_quoted_100 rfl (lv_at hl 1 rfl) ?_
        refine lv_iconst (v := 1) hx hb dX12_quoted_101 (by decide) ?_
        refine lv_aload_n hx hb dX12_quoted_102 rfl (lv_at hl 1 rfl) ?_
        refine va_get (D := D) (ci := 12) (v := .int (nI v11_10)) (C := RX12) (T := TX12) (N := 30) hx hb hts inlX12 hown hK hP 0 rfl rfl 11 (by decide) (hts _ mw_423) (fun _ h9 => h9) rfl dX12_quoted_103 ?_
        refine lv_iload_n hx hb dX12_quoted_106 rfl (lv_at hl 2 rfl) ?_
        refine ct_V (wr := [(a0, .inl (κ 0, 21375, .inl w)), (a5, .inl (κ 0, 800, .inl tp)), (a14, .inl (κ 0, 189, .inl ga14_10))]) (As := [.int 1, .int (nI v11_10), .int (nI a)]) (rest := []) hFX hKK hP hD hS hA (s_X12_wrong l D κ m0 a0 a1 a2 u3 f4 a5 u6 f7 f8 f9 f10 v11_10 u12 u13 a14 a15 a16 a17 f18 f19 a20 a21 u22 a23 a24 a25 u26 f27 a28 u29 1 (nI v11_10) (nI a)) 3 gV_X12_210 hdV_X12_wrong ⟨Nat.le_of_ble_eq_true rfl, Nat.le_of_ble_eq_true rfl⟩ rfl rfl (Nat.le_of_ble_eq_true rfl) dX12_quoted_107 ⟨Nat.le_of_ble_eq_true rfl, Nat.le_of_ble_eq_true rfl⟩ hl.1 [0] [1, 2, 3] rfl rfl (by decide) (by decide) (by decide) 0 12 rfl rfl rfl trivial (fun _ H locs hp_39 _ hP hD hS hz_ hk_ => ?_)
        replace hP : va_P D vwCl [(m0, .inr (12, [.ref a0, .ref a1, .ref a2, .int (nI u3), .int f4, .ref a5, .int (nI u6), .int 1, .int (nI v11_10), .int (nI a), .int f10, .int (nI v11_10), .int (nI u12), .int (nI u13), .ref a14, .ref a15, .ref a16, .ref a17, .int f18, .int f19, .ref a20, .ref a21, .int (nI u22), .ref a23, .ref a24, .ref a25, .int (nI u26), .int f27, .ref a28, .int (nI u29)])), (a0, .inl (κ 0, 21375, .inl w)), (a5, .inl (κ 0, 800, .inl tp)), (a14, .inl (κ 0, 189, .inl ga14_10))] H := hP.sub [3, 0, 1, 2] rfl
        replace hD : va_D A [(m0, .inr (12, [.ref a0, .ref a1, .ref a2, .int (nI u3), .int f4, .ref a5, .int (nI u6), .int 1, .int (nI v11_10), .int (nI a), .int f10, .int (nI v11_10), .int (nI u12), .int (nI u13), .ref a14, .ref a15, .ref a16, .ref a17, .int f18, .int f19, .ref a20, .ref a21, .int (nI u22), .ref a23, .ref a24, .ref a25, .int (nI u26), .int f27, .ref a28, .int (nI u29)])), (a0, .inl (κ 0, 21375, .inl w)), (a5, .inl (κ 0, 800, .inl tp)), (a14, .inl (κ 0, 189, .inl ga14_10))] := hD.sub [3, 0, 1, 2] (by decide) rfl
        refine W.eq (g2 := F0 m 110 ls [.int 0]) rfl ?_
        exact ct_iret hx hb hr hlk rfl hS hP hD (0, 1, nI v11_10, nI a, v11_10, ga14_10) rfl ⟨(show PF (nI v11_10) from (PF_n (by omega))), (show Pfd ga14_10 from (by first | assumption | omega)), (show u11 ≤ v11_10 from (by first | assumption | omega)), (show v11_10 ≤ u6 from (by first | assumption | omega)), (by exact Or.inr ((rfl)))⟩ [0, 1, 2, 3] rfl (by decide) trivial (Nat.le_of_ble_eq_true rfl) (Nat.le_of_ble_eq_true rfl) dX12_quoted_110
    · refine lv_aload_n hx hb dX12_quoted_43 rfl (lv_at hl 1 rfl) ?_
      refine va_get (D := D) (ci := 12) (v := .int (nI v11_10)) (C := RX12) (T := TX12) (N := 30) hx hb hts inlX12 hown hK hP 0 rfl rfl 11 (by decide) (hts _ mw_423) (fun _ h9 => h9) rfl dX12_quoted_44 ?_
      refine lv_iconst (v := 1) hx hb dX12_quoted_47 (by decide) ?_
      refine lv_iadd hx hb dX12_quoted_48 ?_
      refine ki (v := (nI (v11_10 + 1))) (nI_add v11_10 1) ?_
      refine lv_aload_n hx hb dX12_quoted_49 rfl (lv_at hl 1 rfl) ?_
      refine va_get (D := D) (ci := 12) (v := .int (nI u6)) (C := RX12) (T := TX12) (N := 30) hx hb hts inlX12 hown hK hP 0 rfl rfl 6 (by decide) (hts _ mw_236) (fun _ h9 => h9) rfl dX12_quoted_50 ?_
      refine lv_icmp_eq (tgt := 144) hx hb dX12_quoted_53 (by decide) (fun c_40 => ?_) (fun c_40 => ?_)
      · have nc_40 := cv_eq (a := (v11_10 + 1)) (b := u6) (by omega) (by omega) c_40
        refine lv_aload_n hx hb dX12_quoted_144 rfl (lv_at hl 1 rfl) ?_
        refine va_get (D := D) (ci := 12) (v := .int (nI v11_10)) (C := RX12) (T := TX12) (N := 30) hx hb hts inlX12 hown hK hP 0 rfl rfl 11 (by decide) (hts _ mw_423) (fun _ h9 => h9) rfl dX12_quoted_145 ?_
        refine lv_aload_n hx hb dX12_quoted_148 rfl (lv_at hl 1 rfl) ?_
        refine va_get (D := D) (ci := 12) (v := .int (nI u6)) (C := RX12) (T := TX12) (N := 30) hx hb hts inlX12 hown hK hP 0 rfl rfl 6 (by decide) (hts _ mw_236) (fun _ h9 => h9) rfl dX12_quoted_149 ?_
        refine lv_icmp_ne (tgt := 166) hx hb dX12_quoted_152 (by decide) (fun c_41 => ?_) (fun c_41 => ?_)
        · have nc_41 := cv_ne (a := v11_10) (b := u6) (by omega) (by omega) c_41
          refine lv_aload_n hx hb dX12_quoted_166 rfl (lv_at hl 1 rfl) ?_
          refine lv_dup hx hb dX12_quoted_167 rfl ?_
          refine va_get (D := D) (ci := 12) (v := .int (nI v11_10)) (C := RX12) (T := TX12) (N := 30) hx hb hts inlX12 hown hK hP 0 rfl rfl 11 (by decide) (hts _ mw_423) (fun _ h9 => h9) rfl dX12_quoted_168 ?_
          refine lv_iconst (v := 1) hx hb dX12_quoted_171 (by decide) ?_
          refine lv_iadd hx hb dX12_quoted_172 ?_
          refine ki (v := (nI (v11_10 + 1))) (nI_add v11_10 1) ?_
          refine va_put (D := D) (ci := 12) (v := .int (nI (v11_10 + 1))) (ty := tyX12 11) (C := RX12) (T := TX12) (N := 30) hx hb hts inlX12 tyX12 tyX12_ok nmX12 hown hK hP hD hS 0 rfl rfl 11 (by decide) (hts _ mw_423) (fun _ h9 => h9) rfl (tyX12_ok 11 (by decide)) rfl rfl (Nat.le_of_ble_eq_true rfl) dX12_quoted_173 (fun H locs hP hD hS => ?_)
          have hP : va_P D vwCl [(m0, .inr (12, [.ref a0, .ref a1, .ref a2, .int (nI u3), .int f4, .ref a5, .int (nI u6), .int f7, .int f8, .int f9, .int f10, .int (nI (v11_10 + 1)), .int (nI u12), .int (nI u13), .ref a14, .ref a15, .ref a16, .ref a17, .int f18, .int f19, .ref a20, .ref a21, .int (nI u22), .ref a23, .ref a24, .ref a25, .int (nI u26), .int f27, .ref a28, .int (nI u29)])), (a0, .inl (κ 0, 21375, .inl w)), (a5, .inl (κ 0, 800, .inl tp)), (a14, .inl (κ 0, 189, .inl ga14_10))] H := hP
          have hD : va_D A [(m0, .inr (12, [.ref a0, .ref a1, .ref a2, .int (nI u3), .int f4, .ref a5, .int (nI u6), .int f7, .int f8, .int f9, .int f10, .int (nI (v11_10 + 1)), .int (nI u12), .int (nI u13), .ref a14, .ref a15, .ref a16, .ref a17, .int f18, .int f19, .ref a20, .ref a21, .int (nI u22), .ref a23, .ref a24, .ref a25, .int (nI u26), .int f27, .ref a28, .int (nI u29)])), (a0, .inl (κ 0, 21375, .inl w)), (a5, .inl (κ 0, 800, .inl tp)), (a14, .inl (κ 0, 189, .inl ga14_10))] := hD
          refine lv_aload_n hx hb dX12_quoted_176 rfl (lv_at hl 1 rfl) ?_
          refine ct_V (wr := [(a14, .inl (κ 0, 189, .inl ga14_10))]) (As := []) (rest := []) hFX hKK hP hD hS hA (s_X12_blanks l D κ m0 a0 a1 a2 u3 f4 a5 u6 f7 f8 f9 f10 (v11_10 + 1) u12 u13 a14 a15 a16 a17 f18 f19 a20 a21 u22 a23 a24 a25 u26 f27 a28 u29 w tp (by omega) h_a0 (by omega)) 0 gV_X12_217 hdV_X12_blanks ⟨Nat.le_of_ble_eq_true rfl, Nat.le_of_ble_eq_true rfl⟩ rfl rfl (Nat.le_of_ble_eq_true rfl) dX12_quoted_177 ⟨Nat.le_of_ble_eq_true rfl, Nat.le_of_ble_eq_true rfl⟩ hl.1 [0, 1, 2] [3] rfl rfl (by decide) (by decide) (by decide) 0 12 rfl rfl rfl trivial (fun y11__42 H locs hp_43 _ hP hD hS hz_ hk_ => ?_)
          replace hP : va_P D vwCl [(m0, .inr (12, [.ref a0, .ref a1, .ref a2, .int (nI u3), .int f4, .ref a5, .int (nI u6), .int f7, .int f8, .int f9, .int f10, .int (nI y11__42), .int (nI u12), .int (nI u13), .ref a14, .ref a15, .ref a16, .ref a17, .int f18, .int f19, .ref a20, .ref a21, .int (nI u22), .ref a23, .ref a24, .ref a25, .int (nI u26), .int f27, .ref a28, .int (nI u29)])), (a0, .inl (κ 0, 21375, .inl w)), (a5, .inl (κ 0, 800, .inl tp)), (a14, .inl (κ 0, 189, .inl ga14_10))] H := hP.sub [1, 2, 3, 0] rfl
          replace hD : va_D A [(m0, .inr (12, [.ref a0, .ref a1, .ref a2, .int (nI u3), .int f4, .ref a5, .int (nI u6), .int f7, .int f8, .int f9, .int f10, .int (nI y11__42), .int (nI u12), .int (nI u13), .ref a14, .ref a15, .ref a16, .ref a17, .int f18, .int f19, .ref a20, .ref a21, .int (nI u22), .ref a23, .ref a24, .ref a25, .int (nI u26), .int f27, .ref a28, .int (nI u29)])), (a0, .inl (κ 0, 21375, .inl w)), (a5, .inl (κ 0, 800, .inl tp)), (a14, .inl (κ 0, 189, .inl ga14_10))] := hD.sub [1, 2, 3, 0] (by decide) rfl
          replace hp_43 : (v11_10 + 1) ≤ y11__42 ∧ y11__42 ≤ u6 := hp_43
          obtain ⟨h_44, h_45⟩ := hp_43
          refine W.eq (g2 := F0 m 180 ls []) rfl ?_
          refine lv_aload_n hx hb dX12_quoted_180 rfl (lv_at hl 1 rfl) ?_
          refine cr_V (As := []) (rest := []) hFX hKK (s_X12_isOver l D κ m0 a0 a1 a2 u3 f4 a5 u6 f7 f8 f9 f10 y11__42 u12 u13 a14 a15 a16 a17 f18 f19 a20 a21 u22 a23 a24 a25 u26 f27 a28 u29 w tp (by omega) h_a0 (by omega)) 0 gV_X12_220 hdV_X12_isOver rfl rfl ⟨Nat.le_of_ble_eq_true rfl, Nat.le_of_ble_eq_true rfl⟩ rfl rfl (Nat.le_of_ble_eq_true rfl) dX12_quoted_181 ⟨Nat.le_of_ble_eq_true rfl, Nat.le_of_ble_eq_true rfl⟩ hl.1 hP 0 12 rfl rfl rfl (hP.sub [0, 1, 2] rfl) (fun r__46 hp_47 => ?_)
          replace hp_47 : ((r__46 = 1) ∨ (r__46 = 0 ∧ y11__42 < u6)) := hp_47
          have ha_48 := hp_47
          clear hp_47
          rcases ha_48 with rfl | ⟨rfl, a_49⟩
          · refine W.eq (g2 := F0 m 184 ls [.int 1]) rfl ?_
            refine lv_if_eq (tgt := 189) hx hb dX12_quoted_184 (by decide) (fun c_50 => absurd c_50 (by decide)) (fun c_50 => ?_)
            refine lv_iconst (v := 1) hx hb dX12_quoted_187 (by decide) ?_
            exact ct_iret hx hb hr hlk rfl hS hP hD (1, f7, f8, f9, y11__42, ga14_10) rfl ⟨(show PF f8 from (by assumption)), (show Pfd ga14_10 from (by first | assumption | omega)), (show u11 ≤ y11__42 from (by first | assumption | omega)), (show y11__42 ≤ u6 from (by first | assumption | omega)), (by exact Or.inl (rfl))⟩ [0, 1, 2, 3] rfl (by decide) trivial (Nat.le_of_ble_eq_true rfl) (Nat.le_of_ble_eq_true rfl) dX12_quoted_188
          · refine W.eq (g2 := F0 m 184 ls [.int 0]) rfl ?_
            refine lv_if_eq (tgt := 189) hx hb dX12_quoted_184 (by decide) (fun c_51 => ?_) (fun c_51 => absurd (by decide) c_51)
            refine lv_aload_n hx hb dX12_quoted_189 rfl (lv_at hl 1 rfl) ?_
            refine lv_aload_n hx hb dX12_quoted_190 rfl (lv_at hl 1 rfl) ?_
            refine lv_aload_n hx hb dX12_quoted_191 rfl (lv_at hl 1 rfl) ?_
            refine va_get (D := D) (ci := 12) (v := .ref a5) (C := RX12) (T := TX12) (N := 30) hx hb hts inlX12 hown hK hP 0 rfl rfl 5 (by decide) (hts _ mw_191) (fun _ h9 => h9) rfl dX12_quoted_192 ?_
            refine lv_aload_n hx hb dX12_quoted_195 rfl (lv_at hl 1 rfl) ?_
            refine va_get (D := D) (ci := 12) (v := .int (nI y11__42)) (C := RX12) (T := TX12) (N := 30) hx hb hts inlX12 hown hK hP 0 rfl rfl 11 (by decide) (hts _ mw_423) (fun _ h9 => h9) rfl dX12_quoted_196 ?_
            refine va_iald hx hb hK hP 2 0 rfl rfl (i := nI y11__42) (vp_in_nI (n := y11__42) (by omega) (by omega)) dX12_quoted_199 ?_
            refine kv (v := .int (tp y11__42)) (by rw [nI_clamp (by omega)]) ?_
            obtain ⟨x_52, ex_52⟩ : ∃ y9 : Int32, tp y11__42 = y9 := ⟨_, rfl⟩
            refine kv (v := .int x_52) (congrArg Value.int ex_52) ?_
            refine lv_iconst (v := 0) hx hb dX12_quoted_200 (by decide) ?_
            refine cr_V (As := [.int x_52, .int 0]) (rest := [.ref m0]) hFX hKK (s_X12_canBe l D κ m0 a0 a1 a2 u3 f4 a5 u6 f7 f8 f9 f10 y11__42 u12 u13 a14 a15 a16 a17 f18 f19 a20 a21 u22 a23 a24 a25 u26 f27 a28 u29 w x_52 0 h_a0) 2 gV_X12_206 hdV_X12_canBe rfl rfl ⟨Nat.le_of_ble_eq_true rfl, Nat.le_of_ble_eq_true rfl⟩ rfl rfl (Nat.le_of_ble_eq_true rfl) dX12_quoted_201 ⟨Nat.le_of_ble_eq_true rfl, Nat.le_of_ble_eq_true rfl⟩ hl.1 hP 0 12 rfl rfl rfl (hP.sub [0, 1] rfl) (fun r__53 hp_54 => ?_)
            replace hp_54 : ((r__53 = 1) ∨ (r__53 = 0)) := hp_54
            have ha_55 := hp_54
            clear hp_54
            rcases ha_55 with rfl | rfl
            · refine W.eq (g2 := F0 m 204 ls [.int 1, .ref m0]) rfl ?_
              refine lv_if_eq (tgt := 211) hx hb dX12_quoted_204 (by decide) (fun c_56 => absurd c_56 (by decide)) (fun c_56 => ?_)
              refine lv_iconst (v := 3) hx hb dX12_quoted_207 (by decide) ?_
              refine lv_goto (tgt := 212) hx hb dX12_quoted_208 (by decide) ?_
              refine lv_aload_n hx hb dX12_quoted_212 rfl (lv_at hl 1 rfl) ?_
              refine va_get (D := D) (ci := 12) (v := .int (nI y11__42)) (C := RX12) (T := TX12) (N := 30) hx hb hts inlX12 hown hK hP 0 rfl rfl 11 (by decide) (hts _ mw_423) (fun _ h9 => h9) rfl dX12_quoted_213 ?_
              refine lv_iload_n hx hb dX12_quoted_216 rfl (lv_at hl 2 rfl) ?_
              refine ct_V (wr := [(a0, .inl (κ 0, 21375, .inl w)), (a5, .inl (κ 0, 800, .inl tp)), (a14, .inl (κ 0, 189, .inl ga14_10))]) (As := [.int 3, .int (nI y11__42), .int (nI a)]) (rest := []) hFX hKK hP hD hS hA (s_X12_wrong l D κ m0 a0 a1 a2 u3 f4 a5 u6 f7 f8 f9 f10 y11__42 u12 u13 a14 a15 a16 a17 f18 f19 a20 a21 u22 a23 a24 a25 u26 f27 a28 u29 3 (nI y11__42) (nI a)) 3 gV_X12_210 hdV_X12_wrong ⟨Nat.le_of_ble_eq_true rfl, Nat.le_of_ble_eq_true rfl⟩ rfl rfl (Nat.le_of_ble_eq_true rfl) dX12_quoted_217 ⟨Nat.le_of_ble_eq_true rfl, Nat.le_of_ble_eq_true rfl⟩ hl.1 [0] [1, 2, 3] rfl rfl (by decide) (by decide) (by decide) 0 12 rfl rfl rfl trivial (fun _ H locs hp_57 _ hP hD hS hz_ hk_ => ?_)
              replace hP : va_P D vwCl [(m0, .inr (12, [.ref a0, .ref a1, .ref a2, .int (nI u3), .int f4, .ref a5, .int (nI u6), .int 3, .int (nI y11__42), .int (nI a), .int f10, .int (nI y11__42), .int (nI u12), .int (nI u13), .ref a14, .ref a15, .ref a16, .ref a17, .int f18, .int f19, .ref a20, .ref a21, .int (nI u22), .ref a23, .ref a24, .ref a25, .int (nI u26), .int f27, .ref a28, .int (nI u29)])), (a0, .inl (κ 0, 21375, .inl w)), (a5, .inl (κ 0, 800, .inl tp)), (a14, .inl (κ 0, 189, .inl ga14_10))] H := hP.sub [3, 0, 1, 2] rfl
              replace hD : va_D A [(m0, .inr (12, [.ref a0, .ref a1, .ref a2, .int (nI u3), .int f4, .ref a5, .int (nI u6), .int 3, .int (nI y11__42), .int (nI a), .int f10, .int (nI y11__42), .int (nI u12), .int (nI u13), .ref a14, .ref a15, .ref a16, .ref a17, .int f18, .int f19, .ref a20, .ref a21, .int (nI u22), .ref a23, .ref a24, .ref a25, .int (nI u26), .int f27, .ref a28, .int (nI u29)])), (a0, .inl (κ 0, 21375, .inl w)), (a5, .inl (κ 0, 800, .inl tp)), (a14, .inl (κ 0, 189, .inl ga14_10))] := hD.sub [3, 0, 1, 2] (by decide) rfl
              refine W.eq (g2 := F0 m 220 ls [.int 0]) rfl ?_
              exact ct_iret hx hb hr hlk rfl hS hP hD (0, 3, nI y11__42, nI a, y11__42, ga14_10) rfl ⟨(show PF (nI y11__42) from (PF_n (by omega))), (show Pfd ga14_10 from (by first | assumption | omega)), (show u11 ≤ y11__42 from (by first | assumption | omega)), (show y11__42 ≤ u6 from (by first | assumption | omega)), (by exact Or.inr ((rfl)))⟩ [0, 1, 2, 3] rfl (by decide) trivial (Nat.le_of_ble_eq_true rfl) (Nat.le_of_ble_eq_true rfl) dX12_quoted_220
            · refine W.eq (g2 := F0 m 204 ls [.int 0, .ref m0]) rfl ?_
              refine lv_if_eq (tgt := 211) hx hb dX12_quoted_204 (by decide) (fun c_58 => ?_) (fun c_58 => absurd (by decide) c_58)
              refine lv_iconst (v := 1) hx hb dX12_quoted_211 (by decide) ?_
              refine lv_aload_n hx hb dX12_quoted_212 rfl (lv_at hl 1 rfl) ?_
              refine va_get (D := D) (ci := 12) (v := .int (nI y11__42)) (C := RX12) (T := TX12) (N := 30) hx hb hts inlX12 hown hK hP 0 rfl rfl 11 (by decide) (hts _ mw_423) (fun _ h9 => h9) rfl dX12_quoted_213 ?_
              refine lv_iload_n hx hb dX12_quoted_216 rfl (lv_at hl 2 rfl) ?_
              refine ct_V (wr := [(a0, .inl (κ 0, 21375, .inl w)), (a5, .inl (κ 0, 800, .inl tp)), (a14, .inl (κ 0, 189, .inl ga14_10))]) (As := [.int 1, .int (nI y11__42), .int (nI a)]) (rest := []) hFX hKK hP hD hS hA (s_X12_wrong l D κ m0 a0 a1 a2 u3 f4 a5 u6 f7 f8 f9 f10 y11__42 u12 u13 a14 a15 a16 a17 f18 f19 a20 a21 u22 a23 a24 a25 u26 f27 a28 u29 1 (nI y11__42) (nI a)) 3 gV_X12_210 hdV_X12_wrong ⟨Nat.le_of_ble_eq_true rfl, Nat.le_of_ble_eq_true rfl⟩ rfl rfl (Nat.le_of_ble_eq_true rfl) dX12_quoted_217 ⟨Nat.le_of_ble_eq_true rfl, Nat.le_of_ble_eq_true rfl⟩ hl.1 [0] [1, 2, 3] rfl rfl (by decide) (by decide) (by decide) 0 12 rfl rfl rfl trivial (fun _ H locs hp_59 _ hP hD hS hz_ hk_ => ?_)
              replace hP : va_P D vwCl [(m0, .inr (12, [.ref a0, .ref a1, .ref a2, .int (nI u3), .int f4, .ref a5, .int (nI u6), .int 1, .int (nI y11__42), .int (nI a), .int f10, .int (nI y11__42), .int (nI u12), .int (nI u13), .ref a14, .ref a15, .ref a16, .ref a17, .int f18, .int f19, .ref a20, .ref a21, .int (nI u22), .ref a23, .ref a24, .ref a25, .int (nI u26), .int f27, .ref a28, .int (nI u29)])), (a0, .inl (κ 0, 21375, .inl w)), (a5, .inl (κ 0, 800, .inl tp)), (a14, .inl (κ 0, 189, .inl ga14_10))] H := hP.sub [3, 0, 1, 2] rfl
              replace hD : va_D A [(m0, .inr (12, [.ref a0, .ref a1, .ref a2, .int (nI u3), .int f4, .ref a5, .int (nI u6), .int 1, .int (nI y11__42), .int (nI a), .int f10, .int (nI y11__42), .int (nI u12), .int (nI u13), .ref a14, .ref a15, .ref a16, .ref a17, .int f18, .int f19, .ref a20, .ref a21, .int (nI u22), .ref a23, .ref a24, .ref a25, .int (nI u26), .int f27, .ref a28, .int (nI u29)])), (a0, .inl (κ 0, 21375, .inl w)), (a5, .inl (κ 0, 800, .inl tp)), (a14, .inl (κ 0, 189, .inl ga14_10))] := hD.sub [3, 0, 1, 2] (by decide) rfl
              refine W.eq (g2 := F0 m 220 ls [.int 0]) rfl ?_
              exact ct_iret hx hb hr hlk rfl hS hP hD (0, 1, nI y11__42, nI a, y11__42, ga14_10) rfl ⟨(show PF (nI y11__42) from (PF_n (by omega))), (show Pfd ga14_10 from (by first | assumption | omega)), (show u11 ≤ y11__42 from (by first | assumption | omega)), (show y11__42 ≤ u6 from (by first | assumption | omega)), (by exact Or.inr ((rfl)))⟩ [0, 1, 2, 3] rfl (by decide) trivial (Nat.le_of_ble_eq_true rfl) (Nat.le_of_ble_eq_true rfl) dX12_quoted_220
        · have nc_41 := cv_eq (a := v11_10) (b := u6) (by omega) (by omega) c_41
          refine lv_aload_n hx hb dX12_quoted_155 rfl (lv_at hl 1 rfl) ?_
          refine lv_iconst (v := 4) hx hb dX12_quoted_156 (by decide) ?_
          refine lv_aload_n hx hb dX12_quoted_157 rfl (lv_at hl 1 rfl) ?_
          refine va_get (D := D) (ci := 12) (v := .int (nI v11_10)) (C := RX12) (T := TX12) (N := 30) hx hb hts inlX12 hown hK hP 0 rfl rfl 11 (by decide) (hts _ mw_423) (fun _ h9 => h9) rfl dX12_quoted_158 ?_
          refine lv_iload_n hx hb dX12_quoted_161 rfl (lv_at hl 2 rfl) ?_
          refine ct_V (wr := [(a0, .inl (κ 0, 21375, .inl w)), (a5, .inl (κ 0, 800, .inl tp)), (a14, .inl (κ 0, 189, .inl ga14_10))]) (As := [.int 4, .int (nI v11_10), .int (nI a)]) (rest := []) hFX hKK hP hD hS hA (s_X12_wrong l D κ m0 a0 a1 a2 u3 f4 a5 u6 f7 f8 f9 f10 v11_10 u12 u13 a14 a15 a16 a17 f18 f19 a20 a21 u22 a23 a24 a25 u26 f27 a28 u29 4 (nI v11_10) (nI a)) 3 gV_X12_210 hdV_X12_wrong ⟨Nat.le_of_ble_eq_true rfl, Nat.le_of_ble_eq_true rfl⟩ rfl rfl (Nat.le_of_ble_eq_true rfl) dX12_quoted_162 ⟨Nat.le_of_ble_eq_true rfl, Nat.le_of_ble_eq_true rfl⟩ hl.1 [0] [1, 2, 3] rfl rfl (by decide) (by decide) (by decide) 0 12 rfl rfl rfl trivial (fun _ H locs hp_60 _ hP hD hS hz_ hk_ => ?_)
          replace hP : va_P D vwCl [(m0, .inr (12, [.ref a0, .ref a1, .ref a2, .int (nI u3), .int f4, .ref a5, .int (nI u6), .int 4, .int (nI v11_10), .int (nI a), .int f10, .int (nI v11_10), .int (nI u12), .int (nI u13), .ref a14, .ref a15, .ref a16, .ref a17, .int f18, .int f19, .ref a20, .ref a21, .int (nI u22), .ref a23, .ref a24, .ref a25, .int (nI u26), .int f27, .ref a28, .int (nI u29)])), (a0, .inl (κ 0, 21375, .inl w)), (a5, .inl (κ 0, 800, .inl tp)), (a14, .inl (κ 0, 189, .inl ga14_10))] H := hP.sub [3, 0, 1, 2] rfl
          replace hD : va_D A [(m0, .inr (12, [.ref a0, .ref a1, .ref a2, .int (nI u3), .int f4, .ref a5, .int (nI u6), .int 4, .int (nI v11_10), .int (nI a), .int f10, .int (nI v11_10), .int (nI u12), .int (nI u13), .ref a14, .ref a15, .ref a16, .ref a17, .int f18, .int f19, .ref a20, .ref a21, .int (nI u22), .ref a23, .ref a24, .ref a25, .int (nI u26), .int f27, .ref a28, .int (nI u29)])), (a0, .inl (κ 0, 21375, .inl w)), (a5, .inl (κ 0, 800, .inl tp)), (a14, .inl (κ 0, 189, .inl ga14_10))] := hD.sub [3, 0, 1, 2] (by decide) rfl
          refine W.eq (g2 := F0 m 165 ls [.int 0]) rfl ?_
          exact ct_iret hx hb hr hlk rfl hS hP hD (0, 4, nI v11_10, nI a, v11_10, ga14_10) rfl ⟨(show PF (nI v11_10) from (PF_n (by omega))), (show Pfd ga14_10 from (by first | assumption | omega)), (show u11 ≤ v11_10 from (by first | assumption | omega)), (show v11_10 ≤ u6 from (by first | assumption | omega)), (by exact Or.inr ((rfl)))⟩ [0, 1, 2, 3] rfl (by decide) trivial (Nat.le_of_ble_eq_true rfl) (Nat.le_of_ble_eq_true rfl) dX12_quoted_165
      · have nc_40 := cv_ne (a := (v11_10 + 1)) (b := u6) (by omega) (by omega) c_40
        refine lv_aload_n hx hb dX12_quoted_56 rfl (lv_at hl 1 rfl) ?_
        refine va_get (D := D) (ci := 12) (v := .ref a5) (C := RX12) (T := TX12) (N := 30) hx hb hts inlX12 hown hK hP 0 rfl rfl 5 (by decide) (hts _ mw_191) (fun _ h9 => h9) rfl dX12_quoted_57 ?_
        refine lv_aload_n hx hb dX12_quoted_60 rfl (lv_at hl 1 rfl) ?_
        refine va_get (D := D) (ci := 12) (v := .int (nI v11_10)) (C := RX12) (T := TX12) (N := 30) hx hb hts inlX12 hown hK hP 0 rfl rfl 11 (by decide) (hts _ mw_423) (fun _ h9 => h9) rfl dX12_quoted_61 ?_
        refine lv_iconst (v := 1) hx hb dX12_quoted_64 (by decide) ?_
        refine lv_iadd hx hb dX12_quoted_65 ?_
        refine ki (v := (nI (v11_10 + 1))) (nI_add v11_10 1) ?_
        refine va_iald hx hb hK hP 2 0 rfl rfl (i := nI (v11_10 + 1)) (vp_in_nI (n := (v11_10 + 1)) (by omega) (by omega)) dX12_quoted_66 ?_
        refine kv (v := .int (tp (v11_10 + 1))) (by rw [nI_clamp (by omega)]) ?_
        obtain ⟨x_61, ex_61⟩ : ∃ y9 : Int32, tp (v11_10 + 1) = y9 := ⟨_, rfl⟩
        refine kv (v := .int x_61) (congrArg Value.int ex_61) ?_
        refine lv_aload_n hx hb dX12_quoted_67 rfl (lv_at hl 1 rfl) ?_
        refine va_get (D := D) (ci := 12) (v := .ref a0) (C := RX12) (T := TX12) (N := 30) hx hb hts inlX12 hown hK hP 0 rfl rfl 0 (by decide) (hts _ mw_187) (fun _ h9 => h9) rfl dX12_quoted_68 ?_
        refine lv_sipush (v := 21370) hx hb dX12_quoted_71 (by decide) ?_
        refine va_iald hx hb hK hP 1 0 rfl rfl (i := 21370) (vp_k (by decide)) dX12_quoted_74 ?_
        refine kv (v := .int x_23) (congrArg Value.int (ex_23)) ?_
        refine lv_icmp_eq (tgt := 81) hx hb dX12_quoted_75 (by decide) (fun c_62 => ?_) (fun c_62 => ?_)
        · refine lv_aload_n hx hb dX12_quoted_81 rfl (lv_at hl 1 rfl) ?_
          refine lv_dup hx hb dX12_quoted_82 rfl ?_
          refine va_get (D := D) (ci := 12) (v := .int (nI v11_10)) (C := RX12) (T := TX12) (N := 30) hx hb hts inlX12 hown hK hP 0 rfl rfl 11 (by decide) (hts _ mw_423) (fun _ h9 => h9) rfl dX12_quoted_83 ?_
          refine lv_iconst (v := 1) hx hb dX12_quoted_86 (by decide) ?_
          refine lv_iadd hx hb dX12_quoted_87 ?_
          refine ki (v := (nI (v11_10 + 1))) (nI_add v11_10 1) ?_
          refine va_put (D := D) (ci := 12) (v := .int (nI (v11_10 + 1))) (ty := tyX12 11) (C := RX12) (T := TX12) (N := 30) hx hb hts inlX12 tyX12 tyX12_ok nmX12 hown hK hP hD hS 0 rfl rfl 11 (by decide) (hts _ mw_423) (fun _ h9 => h9) rfl (tyX12_ok 11 (by decide)) rfl rfl (Nat.le_of_ble_eq_true rfl) dX12_quoted_88 (fun H locs hP hD hS => ?_)
          have hP : va_P D vwCl [(m0, .inr (12, [.ref a0, .ref a1, .ref a2, .int (nI u3), .int f4, .ref a5, .int (nI u6), .int f7, .int f8, .int f9, .int f10, .int (nI (v11_10 + 1)), .int (nI u12), .int (nI u13), .ref a14, .ref a15, .ref a16, .ref a17, .int f18, .int f19, .ref a20, .ref a21, .int (nI u22), .ref a23, .ref a24, .ref a25, .int (nI u26), .int f27, .ref a28, .int (nI u29)])), (a0, .inl (κ 0, 21375, .inl w)), (a5, .inl (κ 0, 800, .inl tp)), (a14, .inl (κ 0, 189, .inl ga14_10))] H := hP
          have hD : va_D A [(m0, .inr (12, [.ref a0, .ref a1, .ref a2, .int (nI u3), .int f4, .ref a5, .int (nI u6), .int f7, .int f8, .int f9, .int f10, .int (nI (v11_10 + 1)), .int (nI u12), .int (nI u13), .ref a14, .ref a15, .ref a16, .ref a17, .int f18, .int f19, .ref a20, .ref a21, .int (nI u22), .ref a23, .ref a24, .ref a25, .int (nI u26), .int f27, .ref a28, .int (nI u29)])), (a0, .inl (κ 0, 21375, .inl w)), (a5, .inl (κ 0, 800, .inl tp)), (a14, .inl (κ 0, 189, .inl ga14_10))] := hD
          refine lv_aload_n hx hb dX12_quoted_91 rfl (lv_at hl 1 rfl) ?_
          refine lv_iload_n hx hb dX12_quoted_92 rfl (lv_at hl 0 rfl) ?_
          refine lv_iconst (v := 1) hx hb dX12_quoted_93 (by decide) ?_
          refine cr_V (As := [.int x_22, .int 1]) (rest := []) hFX hKK (s_X12_canBe l D κ m0 a0 a1 a2 u3 f4 a5 u6 f7 f8 f9 f10 (v11_10 + 1) u12 u13 a14 a15 a16 a17 f18 f19 a20 a21 u22 a23 a24 a25 u26 f27 a28 u29 w x_22 1 h_a0) 2 gV_X12_206 hdV_X12_canBe rfl rfl ⟨Nat.le_of_ble_eq_true rfl, Nat.le_of_ble_eq_true rfl⟩ rfl rfl (Nat.le_of_ble_eq_true rfl) dX12_quoted_94 ⟨Nat.le_of_ble_eq_true rfl, Nat.le_of_ble_eq_true rfl⟩ hl.1 hP 0 12 rfl rfl rfl (hP.sub [0, 1] rfl) (fun r__63 hp_64 => ?_)
          replace hp_64 : ((r__63 = 1) ∨ (r__63 = 0)) := hp_64
          have ha_65 := hp_64
          clear hp_64
          rcases ha_65 with rfl | rfl
          · refine W.eq (g2 := F0 m 97 ls [.int 1]) rfl ?_
            refine lv_if_ne (tgt := 111) hx hb dX12_quoted_97 (by decide) (fun c_66 => ?_) (fun c_66 => absurd c_66 (by decide))
            refine lv_aload_n hx hb dX12_quoted_111 rfl (lv_at hl 1 rfl) ?_
            refine lv_iload_n hx hb dX12_quoted_112 rfl (lv_at hl 2 rfl) ?_
            refine lv_iload_n hx hb dX12_quoted_113 rfl (lv_at hl 0 rfl) ?_
            refine ct_V (wr := [(a0, .inl (κ 0, 21375, .inl w)), (a5, .inl (κ 0, 800, .inl tp))]) (As := [.int (nI a), .int x_22]) (rest := []) hFX hKK hP hD hS hA (s_X12_adds l D κ m0 a0 a1 a2 u3 f4 a5 u6 f7 f8 f9 f10 (v11_10 + 1) u12 u13 a14 a15 a16 a17 f18 f19 a20 a21 u22 a23 a24 a25 u26 f27 a28 u29 ga14_10 x_22 a hg10_0 (by omega)) 2 gV_X12_214 hdV_X12_adds ⟨Nat.le_of_ble_eq_true rfl, Nat.le_of_ble_eq_true rfl⟩ rfl rfl (Nat.le_of_ble_eq_true rfl) dX12_quoted_114 ⟨Nat.le_of_ble_eq_true rfl, Nat.le_of_ble_eq_true rfl⟩ hl.1 [0, 3] [1, 2] rfl rfl (by decide) (by decide) (by decide) 0 12 rfl rfl rfl trivial (fun u_69 H locs hp_70 _ hP hD hS hz_ hk_ => ?_)
            obtain ⟨r__67, g_a14__68⟩ := u_69
            replace hP : va_P D vwCl [(m0, .inr (12, [.ref a0, .ref a1, .ref a2, .int (nI u3), .int f4, .ref a5, .int (nI u6), .int f7, .int f8, .int f9, .int f10, .int (nI (v11_10 + 1)), .int (nI u12), .int (nI u13), .ref a14, .ref a15, .ref a16, .ref a17, .int f18, .int f19, .ref a20, .ref a21, .int (nI u22), .ref a23, .ref a24, .ref a25, .int (nI u26), .int f27, .ref a28, .int (nI u29)])), (a0, .inl (κ 0, 21375, .inl w)), (a5, .inl (κ 0, 800, .inl tp)), (a14, .inl (κ 0, 189, .inl g_a14__68))] H := hP.sub [2, 0, 1, 3] rfl
            replace hD : va_D A [(m0, .inr (12, [.ref a0, .ref a1, .ref a2, .int (nI u3), .int f4, .ref a5, .int (nI u6), .int f7, .int f8, .int f9, .int f10, .int (nI (v11_10 + 1)), .int (nI u12), .int (nI u13), .ref a14, .ref a15, .ref a16, .ref a17, .int f18, .int f19, .ref a20, .ref a21, .int (nI u22), .ref a23, .ref a24, .ref a25, .int (nI u26), .int f27, .ref a28, .int (nI u29)])), (a0, .inl (κ 0, 21375, .inl w)), (a5, .inl (κ 0, 800, .inl tp)), (a14, .inl (κ 0, 189, .inl g_a14__68))] := hD.sub [2, 0, 1, 3] (by decide) rfl
            replace hp_70 : Pfd g_a14__68 ∧ ((r__67 = 1) ∨ (r__67 = 0)) := hp_70
            obtain ⟨h_71, ha_72⟩ := hp_70
            rcases ha_72 with rfl | rfl
            · refine W.eq (g2 := F0 m 117 ls [.int 1]) rfl ?_
              refine lv_if_ne (tgt := 131) hx hb dX12_quoted_117 (by decide) (fun c_73 => ?_) (fun c_73 => absurd c_73 (by decide))
              refine lv_aload_n hx hb dX12_quoted_131 rfl (lv_at hl 1 rfl) ?_
              refine lv_dup hx hb dX12_quoted_132 rfl ?_
              refine va_get (D := D) (ci := 12) (v := .int (nI (v11_10 + 1))) (C := RX12) (T := TX12) (N := 30) hx hb hts inlX12 hown hK hP 0 rfl rfl 11 (by decide) (hts _ mw_423) (fun _ h9 => h9) rfl dX12_quoted_133 ?_
              refine lv_iconst (v := 1) hx hb dX12_quoted_136 (by decide) ?_
              refine lv_iadd hx hb dX12_quoted_137 ?_
              refine ki (v := (nI (v11_10 + 1 + 1))) (nI_add (v11_10 + 1) 1) ?_
              refine va_put (D := D) (ci := 12) (v := .int (nI (v11_10 + 1 + 1))) (ty := tyX12 11) (C := RX12) (T := TX12) (N := 30) hx hb hts inlX12 tyX12 tyX12_ok nmX12 hown hK hP hD hS 0 rfl rfl 11 (by decide) (hts _ mw_423) (fun _ h9 => h9) rfl (tyX12_ok 11 (by decide)) rfl rfl (Nat.le_of_ble_eq_true rfl) dX12_quoted_138 (fun H locs hP hD hS => ?_)
              have hP : va_P D vwCl [(m0, .inr (12, [.ref a0, .ref a1, .ref a2, .int (nI u3), .int f4, .ref a5, .int (nI u6), .int f7, .int f8, .int f9, .int f10, .int (nI (v11_10 + 1 + 1)), .int (nI u12), .int (nI u13), .ref a14, .ref a15, .ref a16, .ref a17, .int f18, .int f19, .ref a20, .ref a21, .int (nI u22), .ref a23, .ref a24, .ref a25, .int (nI u26), .int f27, .ref a28, .int (nI u29)])), (a0, .inl (κ 0, 21375, .inl w)), (a5, .inl (κ 0, 800, .inl tp)), (a14, .inl (κ 0, 189, .inl g_a14__68))] H := hP
              have hD : va_D A [(m0, .inr (12, [.ref a0, .ref a1, .ref a2, .int (nI u3), .int f4, .ref a5, .int (nI u6), .int f7, .int f8, .int f9, .int f10, .int (nI (v11_10 + 1 + 1)), .int (nI u12), .int (nI u13), .ref a14, .ref a15, .ref a16, .ref a17, .int f18, .int f19, .ref a20, .ref a21, .int (nI u22), .ref a23, .ref a24, .ref a25, .int (nI u26), .int f27, .ref a28, .int (nI u29)])), (a0, .inl (κ 0, 21375, .inl w)), (a5, .inl (κ 0, 800, .inl tp)), (a14, .inl (κ 0, 189, .inl g_a14__68))] := hD
              refine lv_goto (tgt := 10) hx hb dX12_quoted_141 (by decide) ?_
              exact ih10 _ _ _ _ (by omega) ⟨(v11_10 + 1 + 1), g_a14__68, (by omega), (by omega), h_71, rfl, hP, hD, hS, lv_sub hl [1, 2] rfl⟩
            · refine W.eq (g2 := F0 m 117 ls [.int 0]) rfl ?_
              refine lv_if_ne (tgt := 131) hx hb dX12_quoted_117 (by decide) (fun c_74 => absurd c_74 (by decide)) (fun c_74 => ?_)
              refine lv_aload_n hx hb dX12_quoted_120 rfl (lv_at hl 1 rfl) ?_
              refine lv_iconst (v := 5) hx hb dX12_quoted_121 (by decide) ?_
              refine lv_aload_n hx hb dX12_quoted_122 rfl (lv_at hl 1 rfl) ?_
              refine va_get (D := D) (ci := 12) (v := .int (nI (v11_10 + 1))) (C := RX12) (T := TX12) (N := 30) hx hb hts inlX12 hown hK hP 0 rfl rfl 11 (by decide) (hts _ mw_423) (fun _ h9 => h9) rfl dX12_quoted_123 ?_
              refine lv_iload_n hx hb dX12_quoted_126 rfl (lv_at hl 2 rfl) ?_
              refine ct_V (wr := [(a0, .inl (κ 0, 21375, .inl w)), (a5, .inl (κ 0, 800, .inl tp)), (a14, .inl (κ 0, 189, .inl g_a14__68))]) (As := [.int 5, .int (nI (v11_10 + 1)), .int (nI a)]) (rest := []) hFX hKK hP hD hS hA (s_X12_wrong l D κ m0 a0 a1 a2 u3 f4 a5 u6 f7 f8 f9 f10 (v11_10 + 1) u12 u13 a14 a15 a16 a17 f18 f19 a20 a21 u22 a23 a24 a25 u26 f27 a28 u29 5 (nI (v11_10 + 1)) (nI a)) 3 gV_X12_210 hdV_X12_wrong ⟨Nat.le_of_ble_eq_true rfl, Nat.le_of_ble_eq_true rfl⟩ rfl rfl (Nat.le_of_ble_eq_true rfl) dX12_quoted_127 ⟨Nat.le_of_ble_eq_true rfl, Nat.le_of_ble_eq_true rfl⟩ hl.1 [0] [1, 2, 3] rfl rfl (by decide) (by decide) (by decide) 0 12 rfl rfl rfl trivial (fun _ H locs hp_75 _ hP hD hS hz_ hk_ => ?_)
              replace hP : va_P D vwCl [(m0, .inr (12, [.ref a0, .ref a1, .ref a2, .int (nI u3), .int f4, .ref a5, .int (nI u6), .int 5, .int (nI (v11_10 + 1)), .int (nI a), .int f10, .int (nI (v11_10 + 1)), .int (nI u12), .int (nI u13), .ref a14, .ref a15, .ref a16, .ref a17, .int f18, .int f19, .ref a20, .ref a21, .int (nI u22), .ref a23, .ref a24, .ref a25, .int (nI u26), .int f27, .ref a28, .int (nI u29)])), (a0, .inl (κ 0, 21375, .inl w)), (a5, .inl (κ 0, 800, .inl tp)), (a14, .inl (κ 0, 189, .inl g_a14__68))] H := hP.sub [3, 0, 1, 2] rfl
              replace hD : va_D A [(m0, .inr (12, [.ref a0, .ref a1, .ref a2, .int (nI u3), .int f4, .ref a5, .int (nI u6), .int 5, .int (nI (v11_10 + 1)), .int (nI a), .int f10, .int (nI (v11_10 + 1)), .int (nI u12), .int (nI u13), .ref a14, .ref a15, .ref a16, .ref a17, .int f18, .int f19, .ref a20, .ref a21, .int (nI u22), .ref a23, .ref a24, .ref a25, .int (nI u26), .int f27, .ref a28, .int (nI u29)])), (a0, .inl (κ 0, 21375, .inl w)), (a5, .inl (κ 0, 800, .inl tp)), (a14, .inl (κ 0, 189, .inl g_a14__68))] := hD.sub [3, 0, 1, 2] (by decide) rfl
              refine W.eq (g2 := F0 m 130 ls [.int 0]) rfl ?_
              exact ct_iret hx hb hr hlk rfl hS hP hD (0, 5, nI (v11_10 + 1), nI a, v11_10 + 1, g_a14__68) rfl ⟨(show PF (nI (v11_10 + 1)) from (PF_n (by omega))), (show Pfd g_a14__68 from (by first | assumption | omega)), (show u11 ≤ (v11_10 + 1) from (by first | assumption | omega)), (show (v11_10 + 1) ≤ u6 from (by first | assumption | omega)), (by exact Or.inr ((rfl)))⟩ [0, 1, 2, 3] rfl (by decide) trivial (Nat.le_of_ble_eq_true rfl) (Nat.le_of_ble_eq_true rfl) dX12_quoted_130
          · refine W.eq (g2 := F0 m 97 ls [.int 0]) rfl ?_
            refine lv_if_ne (tgt := 111) hx hb dX12_quoted_97 (by decide) (fun c_76 => absurd c_76 (by decide)) (fun c_76 => ?_)
            refine lv_aload_n hx hb dX12_quoted_100 rfl (lv_at hl 1 rfl) ?_
            refine lv_iconst (v := 1) hx hb dX12_quoted_101 (by decide) ?_
            refine lv_aload_n hx hb dX12_quoted_102 rfl (lv_at hl 1 rfl) ?_
            refine va_get (D := D) (ci := 12) (v := .int (nI (v11_10 + 1))) (C := RX12) (T := TX12) (N := 30) hx hb hts inlX12 hown hK hP 0 rfl rfl 11 (by decide) (hts _ mw_423) (fun _ h9 => h9) rfl dX12_quoted_103 ?_
            refine lv_iload_n hx hb dX12_quoted_106 rfl (lv_at hl 2 rfl) ?_
            refine ct_V (wr := [(a0, .inl (κ 0, 21375, .inl w)), (a5, .inl (κ 0, 800, .inl tp)), (a14, .inl (κ 0, 189, .inl ga14_10))]) (As := [.int 1, .int (nI (v11_10 + 1)), .int (nI a)]) (rest := []) hFX hKK hP hD hS hA (s_X12_wrong l D κ m0 a0 a1 a2 u3 f4 a5 u6 f7 f8 f9 f10 (v11_10 + 1) u12 u13 a14 a15 a16 a17 f18 f19 a20 a21 u22 a23 a24 a25 u26 f27 a28 u29 1 (nI (v11_10 + 1)) (nI a)) 3 gV_X12_210 hdV_X12_wrong ⟨Nat.le_of_ble_eq_true rfl, Nat.le_of_ble_eq_true rfl⟩ rfl rfl (Nat.le_of_ble_eq_true rfl) dX12_quoted_107 ⟨Nat.le_of_ble_eq_true rfl, Nat.le_of_ble_eq_true rfl⟩ hl.1 [0] [1, 2, 3] rfl rfl (by decide) (by decide) (by decide) 0 12 rfl rfl rfl trivial (fun _ H locs hp_77 _ hP hD hS hz_ hk_ => ?_)
            replace hP : va_P D vwCl [(m0, .inr (12, [.ref a0, .ref a1, .ref a2, .int (nI u3), .int f4, .ref a5, .int (nI u6), .int 1, .int (nI (v11_10 + 1)), .int (nI a), .int f10, .int (nI (v11_10 + 1)), .int (nI u12), .int (nI u13), .ref a14, .ref a15, .ref a16, .ref a17, .int f18, .int f19, .ref a20, .ref a21, .int (nI u22), .ref a23, .ref a24, .ref a25, .int (nI u26), .int f27, .ref a28, .int (nI u29)])), (a0, .inl (κ 0, 21375, .inl w)), (a5, .inl (κ 0, 800, .inl tp)), (a14, .inl (κ 0, 189, .inl ga14_10))] H := hP.sub [3, 0, 1, 2] rfl
            replace hD : va_D A [(m0, .inr (12, [.ref a0, .ref a1, .ref a2, .int (nI u3), .int f4, .ref a5, .int (nI u6), .int 1, .int (nI (v11_10 + 1)), .int (nI a), .int f10, .int (nI (v11_10 + 1)), .int (nI u12), .int (nI u13), .ref a14, .ref a15, .ref a16, .ref a17, .int f18, .int f19, .ref a20, .ref a21, .int (nI u22), .ref a23, .ref a24, .ref a25, .int (nI u26), .int f27, .ref a28, .int (nI u29)])), (a0, .inl (κ 0, 21375, .inl w)), (a5, .inl (κ 0, 800, .inl tp)), (a14, .inl (κ 0, 189, .inl ga14_10))] := hD.sub [3, 0, 1, 2] (by decide) rfl
            refine W.eq (g2 := F0 m 110 ls [.int 0]) rfl ?_
            exact ct_iret hx hb hr hlk rfl hS hP hD (0, 1, nI (v11_10 + 1), nI a, v11_10 + 1, ga14_10) rfl ⟨(show PF (nI (v11_10 + 1)) from (PF_n (by omega))), (show Pfd ga14_10 from (by first | assumption | omega)), (show u11 ≤ (v11_10 + 1) from (by first | assumption | omega)), (show (v11_10 + 1) ≤ u6 from (by first | assumption | omega)), (by exact Or.inr ((rfl)))⟩ [0, 1, 2, 3] rfl (by decide) trivial (Nat.le_of_ble_eq_true rfl) (Nat.le_of_ble_eq_true rfl) dX12_quoted_110
        · refine lv_goto (tgt := 144) hx hb dX12_quoted_78 (by decide) ?_
          refine lv_aload_n hx hb dX12_quoted_144 rfl (lv_at hl 1 rfl) ?_
          refine va_get (D := D) (ci := 12) (v := .int (nI v11_10)) (C := RX12) (T := TX12) (N := 30) hx hb hts inlX12 hown hK hP 0 rfl rfl 11 (by decide) (hts _ mw_423) (fun _ h9 => h9) rfl dX12_quoted_145 ?_
          refine lv_aload_n hx hb dX12_quoted_148 rfl (lv_at hl 1 rfl) ?_
          refine va_get (D := D) (ci := 12) (v := .int (nI u6)) (C := RX12) (T := TX12) (N := 30) hx hb hts inlX12 hown hK hP 0 rfl rfl 6 (by decide) (hts _ mw_236) (fun _ h9 => h9) rfl dX12_quoted_149 ?_
          refine lv_icmp_ne (tgt := 166) hx hb dX12_quoted_152 (by decide) (fun c_78 => ?_) (fun c_78 => ?_)
          · have nc_78 := cv_ne (a := v11_10) (b := u6) (by omega) (by omega) c_78
            refine lv_aload_n hx hb dX12_quoted_166 rfl (lv_at hl 1 rfl) ?_
            refine lv_dup hx hb dX12_quoted_167 rfl ?_
            refine va_get (D := D) (ci := 12) (v := .int (nI v11_10)) (C := RX12) (T := TX12) (N := 30) hx hb hts inlX12 hown hK hP 0 rfl rfl 11 (by decide) (hts _ mw_423) (fun _ h9 => h9) rfl dX12_quoted_168 ?_
            refine lv_iconst (v := 1) hx hb dX12_quoted_171 (by decide) ?_
            refine lv_iadd hx hb dX12_quoted_172 ?_
            refine ki (v := (nI (v11_10 + 1))) (nI_add v11_10 1) ?_
            refine va_put (D := D) (ci := 12) (v := .int (nI (v11_10 + 1))) (ty := tyX12 11) (C := RX12) (T := TX12) (N := 30) hx hb hts inlX12 tyX12 tyX12_ok nmX12 hown hK hP hD hS 0 rfl rfl 11 (by decide) (hts _ mw_423) (fun _ h9 => h9) rfl (tyX12_ok 11 (by decide)) rfl rfl (Nat.le_of_ble_eq_true rfl) dX12_quoted_173 (fun H locs hP hD hS => ?_)
            have hP : va_P D vwCl [(m0, .inr (12, [.ref a0, .ref a1, .ref a2, .int (nI u3), .int f4, .ref a5, .int (nI u6), .int f7, .int f8, .int f9, .int f10, .int (nI (v11_10 + 1)), .int (nI u12), .int (nI u13), .ref a14, .ref a15, .ref a16, .ref a17, .int f18, .int f19, .ref a20, .ref a21, .int (nI u22), .ref a23, .ref a24, .ref a25, .int (nI u26), .int f27, .ref a28, .int (nI u29)])), (a0, .inl (κ 0, 21375, .inl w)), (a5, .inl (κ 0, 800, .inl tp)), (a14, .inl (κ 0, 189, .inl ga14_10))] H := hP
            have hD : va_D A [(m0, .inr (12, [.ref a0, .ref a1, .ref a2, .int (nI u3), .int f4, .ref a5, .int (nI u6), .int f7, .int f8, .int f9, .int f10, .int (nI (v11_10 + 1)), .int (nI u12), .int (nI u13), .ref a14, .ref a15, .ref a16, .ref a17, .int f18, .int f19, .ref a20, .ref a21, .int (nI u22), .ref a23, .ref a24, .ref a25, .int (nI u26), .int f27, .ref a28, .int (nI u29)])), (a0, .inl (κ 0, 21375, .inl w)), (a5, .inl (κ 0, 800, .inl tp)), (a14, .inl (κ 0, 189, .inl ga14_10))] := hD
            refine lv_aload_n hx hb dX12_quoted_176 rfl (lv_at hl 1 rfl) ?_
            refine ct_V (wr := [(a14, .inl (κ 0, 189, .inl ga14_10))]) (As := []) (rest := []) hFX hKK hP hD hS hA (s_X12_blanks l D κ m0 a0 a1 a2 u3 f4 a5 u6 f7 f8 f9 f10 (v11_10 + 1) u12 u13 a14 a15 a16 a17 f18 f19 a20 a21 u22 a23 a24 a25 u26 f27 a28 u29 w tp (by omega) h_a0 (by omega)) 0 gV_X12_217 hdV_X12_blanks ⟨Nat.le_of_ble_eq_true rfl, Nat.le_of_ble_eq_true rfl⟩ rfl rfl (Nat.le_of_ble_eq_true rfl) dX12_quoted_177 ⟨Nat.le_of_ble_eq_true rfl, Nat.le_of_ble_eq_true rfl⟩ hl.1 [0, 1, 2] [3] rfl rfl (by decide) (by decide) (by decide) 0 12 rfl rfl rfl trivial (fun y11__79 H locs hp_80 _ hP hD hS hz_ hk_ => ?_)
            replace hP : va_P D vwCl [(m0, .inr (12, [.ref a0, .ref a1, .ref a2, .int (nI u3), .int f4, .ref a5, .int (nI u6), .int f7, .int f8, .int f9, .int f10, .int (nI y11__79), .int (nI u12), .int (nI u13), .ref a14, .ref a15, .ref a16, .ref a17, .int f18, .int f19, .ref a20, .ref a21, .int (nI u22), .ref a23, .ref a24, .ref a25, .int (nI u26), .int f27, .ref a28, .int (nI u29)])), (a0, .inl (κ 0, 21375, .inl w)), (a5, .inl (κ 0, 800, .inl tp)), (a14, .inl (κ 0, 189, .inl ga14_10))] H := hP.sub [1, 2, 3, 0] rfl
            replace hD : va_D A [(m0, .inr (12, [.ref a0, .ref a1, .ref a2, .int (nI u3), .int f4, .ref a5, .int (nI u6), .int f7, .int f8, .int f9, .int f10, .int (nI y11__79), .int (nI u12), .int (nI u13), .ref a14, .ref a15, .ref a16, .ref a17, .int f18, .int f19, .ref a20, .ref a21, .int (nI u22), .ref a23, .ref a24, .ref a25, .int (nI u26), .int f27, .ref a28, .int (nI u29)])), (a0, .inl (κ 0, 21375, .inl w)), (a5, .inl (κ 0, 800, .inl tp)), (a14, .inl (κ 0, 189, .inl ga14_10))] := hD.sub [1, 2, 3, 0] (by decide) rfl
            replace hp_80 : (v11_10 + 1) ≤ y11__79 ∧ y11__79 ≤ u6 := hp_80
            obtain ⟨h_81, h_82⟩ := hp_80
            refine W.eq (g2 := F0 m 180 ls []) rfl ?_
            refine lv_aload_n hx hb dX12_quoted_180 rfl (lv_at hl 1 rfl) ?_
            refine cr_V (As := []) (rest := []) hFX hKK (s_X12_isOver l D κ m0 a0 a1 a2 u3 f4 a5 u6 f7 f8 f9 f10 y11__79 u12 u13 a14 a15 a16 a17 f18 f19 a20 a21 u22 a23 a24 a25 u26 f27 a28 u29 w tp (by omega) h_a0 (by omega)) 0 gV_X12_220 hdV_X12_isOver rfl rfl ⟨Nat.le_of_ble_eq_true rfl, Nat.le_of_ble_eq_true rfl⟩ rfl rfl (Nat.le_of_ble_eq_true rfl) dX12_quoted_181 ⟨Nat.le_of_ble_eq_true rfl, Nat.le_of_ble_eq_true rfl⟩ hl.1 hP 0 12 rfl rfl rfl (hP.sub [0, 1, 2] rfl) (fun r__83 hp_84 => ?_)
            replace hp_84 : ((r__83 = 1) ∨ (r__83 = 0 ∧ y11__79 < u6)) := hp_84
            have ha_85 := hp_84
            clear hp_84
            rcases ha_85 with rfl | ⟨rfl, a_86⟩
            · refine W.eq (g2 := F0 m 184 ls [.int 1]) rfl ?_
              refine lv_if_eq (tgt := 189) hx hb dX12_quoted_184 (by decide) (fun c_87 => absurd c_87 (by decide)) (fun c_87 => ?_)
              refine lv_iconst (v := 1) hx hb dX12_quoted_187 (by decide) ?_
              exact ct_iret hx hb hr hlk rfl hS hP hD (1, f7, f8, f9, y11__79, ga14_10) rfl ⟨(show PF f8 from (by assumption)), (show Pfd ga14_10 from (by first | assumption | omega)), (show u11 ≤ y11__79 from (by first | assumption | omega)), (show y11__79 ≤ u6 from (by first | assumption | omega)), (by exact Or.inl (rfl))⟩ [0, 1, 2, 3] rfl (by decide) trivial (Nat.le_of_ble_eq_true rfl) (Nat.le_of_ble_eq_true rfl) dX12_quoted_188
            · refine W.eq (g2 := F0 m 184 ls [.int 0]) rfl ?_
              refine lv_if_eq (tgt := 189) hx hb dX12_quoted_184 (by decide) (fun c_88 => ?_) (fun c_88 => absurd (by decide) c_88)
              refine lv_aload_n hx hb dX12_quoted_189 rfl (lv_at hl 1 rfl) ?_
              refine lv_aload_n hx hb dX12_quoted_190 rfl (lv_at hl 1 rfl) ?_
              refine lv_aload_n hx hb dX12_quoted_191 rfl (lv_at hl 1 rfl) ?_
              refine va_get (D := D) (ci := 12) (v := .ref a5) (C := RX12) (T := TX12) (N := 30) hx hb hts inlX12 hown hK hP 0 rfl rfl 5 (by decide) (hts _ mw_191) (fun _ h9 => h9) rfl dX12_quoted_192 ?_
              refine lv_aload_n hx hb dX12_quoted_195 rfl (lv_at hl 1 rfl) ?_
              refine va_get (D := D) (ci := 12) (v := .int (nI y11__79)) (C := RX12) (T := TX12) (N := 30) hx hb hts inlX12 hown hK hP 0 rfl rfl 11 (by decide) (hts _ mw_423) (fun _ h9 => h9) rfl dX12_quoted_196 ?_
              refine va_iald hx hb hK hP 2 0 rfl rfl (i := nI y11__79) (vp_in_nI (n := y11__79) (by omega) (by omega)) dX12_quoted_199 ?_
              refine kv (v := .int (tp y11__79)) (by rw [nI_clamp (by omega)]) ?_
              obtain ⟨x_89, ex_89⟩ : ∃ y9 : Int32, tp y11__79 = y9 := ⟨_, rfl⟩
              refine kv (v := .int x_89) (congrArg Value.int ex_89) ?_
              refine lv_iconst (v := 0) hx hb dX12_quoted_200 (by decide) ?_
              refine cr_V (As := [.int x_89, .int 0]) (rest := [.ref m0]) hFX hKK (s_X12_canBe l D κ m0 a0 a1 a2 u3 f4 a5 u6 f7 f8 f9 f10 y11__79 u12 u13 a14 a15 a16 a17 f18 f19 a20 a21 u22 a23 a24 a25 u26 f27 a28 u29 w x_89 0 h_a0) 2 gV_X12_206 hdV_X12_canBe rfl rfl ⟨Nat.le_of_ble_eq_true rfl, Nat.le_of_ble_eq_true rfl⟩ rfl rfl (Nat.le_of_ble_eq_true rfl) dX12_quoted_201 ⟨Nat.le_of_ble_eq_true rfl, Nat.le_of_ble_eq_true rfl⟩ hl.1 hP 0 12 rfl rfl rfl (hP.sub [0, 1] rfl) (fun r__90 hp_91 => ?_)
              replace hp_91 : ((r__90 = 1) ∨ (r__90 = 0)) := hp_91
              have ha_92 := hp_91
              clear hp_91
              rcases ha_92 with rfl | rfl
              · refine W.eq (g2 := F0 m 204 ls [.int 1, .ref m0]) rfl ?_
                refine lv_if_eq (tgt := 211) hx hb dX12_quoted_204 (by decide) (fun c_93 => absurd c_93 (by decide)) (fun c_93 => ?_)
                refine lv_iconst (v := 3) hx hb dX12_quoted_207 (by decide) ?_
                refine lv_goto (tgt := 212) hx hb dX12_quoted_208 (by decide) ?_
                refine lv_aload_n hx hb dX12_quoted_212 rfl (lv_at hl 1 rfl) ?_
                refine va_get (D := D) (ci := 12) (v := .int (nI y11__79)) (C := RX12) (T := TX12) (N := 30) hx hb hts inlX12 hown hK hP 0 rfl rfl 11 (by decide) (hts _ mw_423) (fun _ h9 => h9) rfl dX12_quoted_213 ?_
                refine lv_iload_n hx hb dX12_quoted_216 rfl (lv_at hl 2 rfl) ?_
                refine ct_V (wr := [(a0, .inl (κ 0, 21375, .inl w)), (a5, .inl (κ 0, 800, .inl tp)), (a14, .inl (κ 0, 189, .inl ga14_10))]) (As := [.int 3, .int (nI y11__79), .int (nI a)]) (rest := []) hFX hKK hP hD hS hA (s_X12_wrong l D κ m0 a0 a1 a2 u3 f4 a5 u6 f7 f8 f9 f10 y11__79 u12 u13 a14 a15 a16 a17 f18 f19 a20 a21 u22 a23 a24 a25 u26 f27 a28 u29 3 (nI y11__79) (nI a)) 3 gV_X12_210 hdV_X12_wrong ⟨Nat.le_of_ble_eq_true rfl, Nat.le_of_ble_eq_true rfl⟩ rfl rfl (Nat.le_of_ble_eq_true rfl) dX12_quoted_217 ⟨Nat.le_of_ble_eq_true rfl, Nat.le_of_ble_eq_true rfl⟩ hl.1 [0] [1, 2, 3] rfl rfl (by decide) (by decide) (by decide) 0 12 rfl rfl rfl trivial (fun _ H locs hp_94 _ hP hD hS hz_ hk_ => ?_)
                replace hP : va_P D vwCl [(m0, .inr (12, [.ref a0, .ref a1, .ref a2, .int (nI u3), .int f4, .ref a5, .int (nI u6), .int 3, .int (nI y11__79), .int (nI a), .int f10, .int (nI y11__79), .int (nI u12), .int (nI u13), .ref a14, .ref a15, .ref a16, .ref a17, .int f18, .int f19, .ref a20, .ref a21, .int (nI u22), .ref a23, .ref a24, .ref a25, .int (nI u26), .int f27, .ref a28, .int (nI u29)])), (a0, .inl (κ 0, 21375, .inl w)), (a5, .inl (κ 0, 800, .inl tp)), (a14, .inl (κ 0, 189, .inl ga14_10))] H := hP.sub [3, 0, 1, 2] rfl
                replace hD : va_D A [(m0, .inr (12, [.ref a0, .ref a1, .ref a2, .int (nI u3), .int f4, .ref a5, .int (nI u6), .int 3, .int (nI y11__79), .int (nI a), .int f10, .int (nI y11__79), .int (nI u12), .int (nI u13), .ref a14, .ref a15, .ref a16, .ref a17, .int f18, .int f19, .ref a20, .ref a21, .int (nI u22), .ref a23, .ref a24, .ref a25, .int (nI u26), .int f27, .ref a28, .int (nI u29)])), (a0, .inl (κ 0, 21375, .inl w)), (a5, .inl (κ 0, 800, .inl tp)), (a14, .inl (κ 0, 189, .inl ga14_10))] := hD.sub [3, 0, 1, 2] (by decide) rfl
                refine W.eq (g2 := F0 m 220 ls [.int 0]) rfl ?_
                exact ct_iret hx hb hr hlk rfl hS hP hD (0, 3, nI y11__79, nI a, y11__79, ga14_10) rfl ⟨(show PF (nI y11__79) from (PF_n (by omega))), (show Pfd ga14_10 from (by first | assumption | omega)), (show u11 ≤ y11__79 from (by first | assumption | omega)), (show y11__79 ≤ u6 from (by first | assumption | omega)), (by exact Or.inr ((rfl)))⟩ [0, 1, 2, 3] rfl (by decide) trivial (Nat.le_of_ble_eq_true rfl) (Nat.le_of_ble_eq_true rfl) dX12_quoted_220
              · refine W.eq (g2 := F0 m 204 ls [.int 0, .ref m0]) rfl ?_
                refine lv_if_eq (tgt := 211) hx hb dX12_quoted_204 (by decide) (fun c_95 => ?_) (fun c_95 => absurd (by decide) c_95)
                refine lv_iconst (v := 1) hx hb dX12_quoted_211 (by decide) ?_
                refine lv_aload_n hx hb dX12_quoted_212 rfl (lv_at hl 1 rfl) ?_
                refine va_get (D := D) (ci := 12) (v := .int (nI y11__79)) (C := RX12) (T := TX12) (N := 30) hx hb hts inlX12 hown hK hP 0 rfl rfl 11 (by decide) (hts _ mw_423) (fun _ h9 => h9) rfl dX12_quoted_213 ?_
                refine lv_iload_n hx hb dX12_quoted_216 rfl (lv_at hl 2 rfl) ?_
                refine ct_V (wr := [(a0, .inl (κ 0, 21375, .inl w)), (a5, .inl (κ 0, 800, .inl tp)), (a14, .inl (κ 0, 189, .inl ga14_10))]) (As := [.int 1, .int (nI y11__79), .int (nI a)]) (rest := []) hFX hKK hP hD hS hA (s_X12_wrong l D κ m0 a0 a1 a2 u3 f4 a5 u6 f7 f8 f9 f10 y11__79 u12 u13 a14 a15 a16 a17 f18 f19 a20 a21 u22 a23 a24 a25 u26 f27 a28 u29 1 (nI y11__79) (nI a)) 3 gV_X12_210 hdV_X12_wrong ⟨Nat.le_of_ble_eq_true rfl, Nat.le_of_ble_eq_true rfl⟩ rfl rfl (Nat.le_of_ble_eq_true rfl) dX12_quoted_217 ⟨Nat.le_of_ble_eq_true rfl, Nat.le_of_ble_eq_true rfl⟩ hl.1 [0] [1, 2, 3] rfl rfl (by decide) (by decide) (by decide) 0 12 rfl rfl rfl trivial (fun _ H locs hp_96 _ hP hD hS hz_ hk_ => ?_)
                replace hP : va_P D vwCl [(m0, .inr (12, [.ref a0, .ref a1, .ref a2, .int (nI u3), .int f4, .ref a5, .int (nI u6), .int 1, .int (nI y11__79), .int (nI a), .int f10, .int (nI y11__79), .int (nI u12), .int (nI u13), .ref a14, .ref a15, .ref a16, .ref a17, .int f18, .int f19, .ref a20, .ref a21, .int (nI u22), .ref a23, .ref a24, .ref a25, .int (nI u26), .int f27, .ref a28, .int (nI u29)])), (a0, .inl (κ 0, 21375, .inl w)), (a5, .inl (κ 0, 800, .inl tp)), (a14, .inl (κ 0, 189, .inl ga14_10))] H := hP.sub [3, 0, 1, 2] rfl
                replace hD : va_D A [(m0, .inr (12, [.ref a0, .ref a1, .ref a2, .int (nI u3), .int f4, .ref a5, .int (nI u6), .int 1, .int (nI y11__79), .int (nI a), .int f10, .int (nI y11__79), .int (nI u12), .int (nI u13), .ref a14, .ref a15, .ref a16, .ref a17, .int f18, .int f19, .ref a20, .ref a21, .int (nI u22), .ref a23, .ref a24, .ref a25, .int (nI u26), .int f27, .ref a28, .int (nI u29)])), (a0, .inl (κ 0, 21375, .inl w)), (a5, .inl (κ 0, 800, .inl tp)), (a14, .inl (κ 0, 189, .inl ga14_10))] := hD.sub [3, 0, 1, 2] (by decide) rfl
                refine W.eq (g2 := F0 m 220 ls [.int 0]) rfl ?_
                exact ct_iret hx hb hr hlk rfl hS hP hD (0, 1, nI y11__79, nI a, y11__79, ga14_10) rfl ⟨(show PF (nI y11__79) from (PF_n (by omega))), (show Pfd ga14_10 from (by first | assumption | omega)), (show u11 ≤ y11__79 from (by first | assumption | omega)), (show y11__79 ≤ u6 from (by first | assumption | omega)), (by exact Or.inr ((rfl)))⟩ [0, 1, 2, 3] rfl (by decide) trivial (Nat.le_of_ble_eq_true rfl) (Nat.le_of_ble_eq_true rfl) dX12_quoted_220
          · have nc_78 := cv_eq (a := v11_10) (b := u6) (by omega) (by omega) c_78
            refine lv_aload_n hx hb dX12_quoted_155 rfl (lv_at hl 1 rfl) ?_
            refine lv_iconst (v := 4) hx hb dX12_quoted_156 (by decide) ?_
            refine lv_aload_n hx hb dX12_quoted_157 rfl (lv_at hl 1 rfl) ?_
            refine va_get (D := D) (ci := 12) (v := .int (nI v11_10)) (C := RX12) (T := TX12) (N := 30) hx hb hts inlX12 hown hK hP 0 rfl rfl 11 (by decide) (hts _ mw_423) (fun _ h9 => h9) rfl dX12_quoted_158 ?_
            refine lv_iload_n hx hb dX12_quoted_161 rfl (lv_at hl 2 rfl) ?_
            refine ct_V (wr := [(a0, .inl (κ 0, 21375, .inl w)), (a5, .inl (κ 0, 800, .inl tp)), (a14, .inl (κ 0, 189, .inl ga14_10))]) (As := [.int 4, .int (nI v11_10), .int (nI a)]) (rest := []) hFX hKK hP hD hS hA (s_X12_wrong l D κ m0 a0 a1 a2 u3 f4 a5 u6 f7 f8 f9 f10 v11_10 u12 u13 a14 a15 a16 a17 f18 f19 a20 a21 u22 a23 a24 a25 u26 f27 a28 u29 4 (nI v11_10) (nI a)) 3 gV_X12_210 hdV_X12_wrong ⟨Nat.le_of_ble_eq_true rfl, Nat.le_of_ble_eq_true rfl⟩ rfl rfl (Nat.le_of_ble_eq_true rfl) dX12_quoted_162 ⟨Nat.le_of_ble_eq_true rfl, Nat.le_of_ble_eq_true rfl⟩ hl.1 [0] [1, 2, 3] rfl rfl (by decide) (by decide) (by decide) 0 12 rfl rfl rfl trivial (fun _ H locs hp_97 _ hP hD hS hz_ hk_ => ?_)
            replace hP : va_P D vwCl [(m0, .inr (12, [.ref a0, .ref a1, .ref a2, .int (nI u3), .int f4, .ref a5, .int (nI u6), .int 4, .int (nI v11_10), .int (nI a), .int f10, .int (nI v11_10), .int (nI u12), .int (nI u13), .ref a14, .ref a15, .ref a16, .ref a17, .int f18, .int f19, .ref a20, .ref a21, .int (nI u22), .ref a23, .ref a24, .ref a25, .int (nI u26), .int f27, .ref a28, .int (nI u29)])), (a0, .inl (κ 0, 21375, .inl w)), (a5, .inl (κ 0, 800, .inl tp)), (a14, .inl (κ 0, 189, .inl ga14_10))] H := hP.sub [3, 0, 1, 2] rfl
            replace hD : va_D A [(m0, .inr (12, [.ref a0, .ref a1, .ref a2, .int (nI u3), .int f4, .ref a5, .int (nI u6), .int 4, .int (nI v11_10), .int (nI a), .int f10, .int (nI v11_10), .int (nI u12), .int (nI u13), .ref a14, .ref a15, .ref a16, .ref a17, .int f18, .int f19, .ref a20, .ref a21, .int (nI u22), .ref a23, .ref a24, .ref a25, .int (nI u26), .int f27, .ref a28, .int (nI u29)])), (a0, .inl (κ 0, 21375, .inl w)), (a5, .inl (κ 0, 800, .inl tp)), (a14, .inl (κ 0, 189, .inl ga14_10))] := hD.sub [3, 0, 1, 2] (by decide) rfl
            refine W.eq (g2 := F0 m 165 ls [.int 0]) rfl ?_
            exact ct_iret hx hb hr hlk rfl hS hP hD (0, 4, nI v11_10, nI a, v11_10, ga14_10) rfl ⟨(show PF (nI v11_10) from (PF_n (by omega))), (show Pfd ga14_10 from (by first | assumption | omega)), (show u11 ≤ v11_10 from (by first | assumption | omega)), (show v11_10 ≤ u6 from (by first | assumption | omega)), (by exact Or.inr ((rfl)))⟩ [0, 1, 2, 3] rfl (by decide) trivial (Nat.le_of_ble_eq_true rfl) (Nat.le_of_ble_eq_true rfl) dX12_quoted_165
set_option maxHeartbeats 4000000 in
set_option maxRecDepth 100000 in
theorem s_X12_reads (l : Launch) (D : va_G) (κ : Nat → ClassId) (m0 : Nat) (a0 : Nat) (a1 : Nat) (a2 : Nat) (u3 : Nat) (f4 : Int32) (a5 : Nat) (u6 : Nat) (f7 : Int32) (f8 : Int32) (f9 : Int32) (f10 : Int32) (u11 : Nat) (u12 : Nat) (u13 : Nat) (a14 : Nat) (a15 : Nat) (a16 : Nat) (a17 : Nat) (f18 : Int32) (f19 : Int32) (a20 : Nat) (a21 : Nat) (u22 : Nat) (a23 : Nat) (a24 : Nat) (a25 : Nat) (u26 : Nat) (f27 : Int32) (a28 : Nat) (u29 : Nat) (w : Nat → Int32) (tp : Nat → Int32) (fd : Nat → Int32) (fa : Nat → Int32) (a : Nat) (h6 : u6 ≤ 800) (h8 : PF f8) (h_a0 : Pw w) (h_a14 : Pfd fd) (h_a15 : Pb 9 800 fa) (h11 : u11 ≤ u6) (ha : a < 9) : Ct l yX12_reads (wl yX12_reads cX12_reads 2 (some .boolean)) { frames := 3, cells := 0, slots := 0, locals := 70 } D κ [.ref m0, .int (nI a)] [(m0, .inr (12, [.ref a0, .ref a1, .ref a2, .int (nI u3), .int f4, .ref a5, .int (nI u6), .int f7, .int f8, .int f9, .int f10, .int (nI u11), .int (nI u12), .int (nI u13), .ref a14, .ref a15, .ref a16, .ref a17, .int f18, .int f19, .ref a20, .ref a21, .int (nI u22), .ref a23, .ref a24, .ref a25, .int (nI u26), .int f27, .ref a28, .int (nI u29)])), (a0, .inl (κ 0, 21375, .inl w)), (a5, .inl (κ 0, 800, .inl tp)), (a14, .inl (κ 0, 189, .inl fd)), (a15, .inl (κ 0, 9, .inl fa))] (fun _ => True) (fun u9 : Int32 × Int32 × Int32 × Int32 × Nat × (Nat → Int32) × (Nat → Int32) => some (.int u9.1)) (fun u9 : Int32 × Int32 × Int32 × Int32 × Nat × (Nat → Int32) × (Nat → Int32) => PF u9.2.2.1 ∧ Pfd u9.2.2.2.2.2.1 ∧ Pb 9 800 u9.2.2.2.2.2.2 ∧ u11 ≤ u9.2.2.2.2.1 ∧ u9.2.2.2.2.1 ≤ u6 ∧ ((u9.1 = 1) ∨ (u9.1 = 0))) (fun u9 : Int32 × Int32 × Int32 × Int32 × Nat × (Nat → Int32) × (Nat → Int32) => [(m0, .inr (12, [.ref a0, .ref a1, .ref a2, .int (nI u3), .int f4, .ref a5, .int (nI u6), .int u9.2.1, .int u9.2.2.1, .int u9.2.2.2.1, .int f10, .int (nI u9.2.2.2.2.1), .int (nI u12), .int (nI u13), .ref a14, .ref a15, .ref a16, .ref a17, .int f18, .int f19, .ref a20, .ref a21, .int (nI u22), .ref a23, .ref a24, .ref a25, .int (nI u26), .int f27, .ref a28, .int (nI u29)])), (a0, .inl (κ 0, 21375, .inl w)), (a5, .inl (κ 0, 800, .inl tp)), (a14, .inl (κ 0, 189, .inl u9.2.2.2.2.2.1)), (a15, .inl (κ 0, 9, .inl u9.2.2.2.2.2.2))]) (fun _ _ => True) := by
  refine ct_of (by decide +kernel) (Nat.le_of_ble_eq_true rfl) ?_
  intro p e s m args below meth c A ls hx hb hr hml hts hown hlk hin hKK hK hA hP hD hS hI hl
  have hS : va_S A s.heap s.heap [] := hS
  have hFX : FX p s m args c cX12_reads 2 RX12 := ⟨hx, hb, hml, hown, hts⟩
  have hl : lv_has ls 2 [(0, .ref m0), (1, .int (nI a))] := hl
  refine lv_aload_n hx hb dX12_reads_0 rfl (lv_at hl 0 rfl) ?_
  refine va_get (D := D) (ci := 12) (v := .ref a15) (C := RX12) (T := TX12) (N := 30) hx hb hts inlX12 hown hK hP 0 rfl rfl 15 (by decide) (hts _ mw_195) (fun _ h9 => h9) rfl dX12_reads_1 ?_
  refine lv_iload_n hx hb dX12_reads_4 rfl (lv_at hl 1 rfl) ?_
  refine lv_aload_n hx hb dX12_reads_5 rfl (lv_at hl 0 rfl) ?_
  refine va_get (D := D) (ci := 12) (v := .int (nI u11)) (C := RX12) (T := TX12) (N := 30) hx hb hts inlX12 hown hK hP 0 rfl rfl 11 (by decide) (hts _ mw_423) (fun _ h9 => h9) rfl dX12_reads_6 ?_
  refine va_iast hx hb hK hP hD hS 4 0 rfl rfl (i := nI a) (x := nI u11) (vp_in_nI (n := a) (by omega) (by omega)) dX12_reads_9 (fun H locs hP hD hS => ?_)
  rw [nI_clamp (by omega)] at hP hD
  have hP : va_P D vwCl [(m0, .inr (12, [.ref a0, .ref a1, .ref a2, .int (nI u3), .int f4, .ref a5, .int (nI u6), .int f7, .int f8, .int f9, .int f10, .int (nI u11), .int (nI u12), .int (nI u13), .ref a14, .ref a15, .ref a16, .ref a17, .int f18, .int f19, .ref a20, .ref a21, .int (nI u22), .ref a23, .ref a24, .ref a25, .int (nI u26), .int f27, .ref a28, .int (nI u29)])), (a0, .inl (κ 0, 21375, .inl w)), (a5, .inl (κ 0, 800, .inl tp)), (a14, .inl (κ 0, 189, .inl fd)), (a15, .inl (κ 0, 9, .inl (upd fa a (nI u11))))] H := hP
  have hD : va_D A [(m0, .inr (12, [.ref a0, .ref a1, .ref a2, .int (nI u3), .int f4, .ref a5, .int (nI u6), .int f7, .int f8, .int f9, .int f10, .int (nI u11), .int (nI u12), .int (nI u13), .ref a14, .ref a15, .ref a16, .ref a17, .int f18, .int f19, .ref a20, .ref a21, .int (nI u22), .ref a23, .ref a24, .ref a25, .int (nI u26), .int f27, .ref a28, .int (nI u29)])), (a0, .inl (κ 0, 21375, .inl w)), (a5, .inl (κ 0, 800, .inl tp)), (a14, .inl (κ 0, 189, .inl fd)), (a15, .inl (κ 0, 9, .inl (upd fa a (nI u11))))] := hD
  have hf_2 : Pb 9 800 (upd fa a (nI u11)) := (Pb_upd h_a15 (fun _ => ⟨u11, by omega, rfl⟩))
  generalize upd fa a (nI u11) = g_1 at hP hD hf_2
  refine lv_aload_n hx hb dX12_reads_10 rfl (lv_at hl 0 rfl) ?_
  refine va_get (D := D) (ci := 12) (v := .ref a14) (C := RX12) (T := TX12) (N := 30) hx hb hts inlX12 hown hK hP 0 rfl rfl 14 (by decide) (hts _ mw_194) (fun _ h9 => h9) rfl dX12_reads_11 ?_
  refine lv_bipush (v := 21) hx hb dX12_reads_14 (by decide) ?_
  refine lv_iload_n hx hb dX12_reads_16 rfl (lv_at hl 1 rfl) ?_
  refine lv_imul hx hb dX12_reads_17 ?_
  refine ki (v := (nI (21 * a))) (pk_mul 21 a) ?_
  refine lv_iconst (v := 0) hx hb dX12_reads_18 (by decide) ?_
  refine va_iast hx hb hK hP hD hS 3 0 rfl rfl (i := nI (21 * a)) (x := 0) (vp_in_nI (n := (21 * a)) (by omega) (by omega)) dX12_reads_19 (fun H locs hP hD hS => ?_)
  rw [nI_clamp (by omega)] at hP hD
  have hP : va_P D vwCl [(m0, .inr (12, [.ref a0, .ref a1, .ref a2, .int (nI u3), .int f4, .ref a5, .int (nI u6), .int f7, .int f8, .int f9, .int f10, .int (nI u11), .int (nI u12), .int (nI u13), .ref a14, .ref a15, .ref a16, .ref a17, .int f18, .int f19, .ref a20, .ref a21, .int (nI u22), .ref a23, .ref a24, .ref a25, .int (nI u26), .int f27, .ref a28, .int (nI u29)])), (a0, .inl (κ 0, 21375, .inl w)), (a5, .inl (κ 0, 800, .inl tp)), (a14, .inl (κ 0, 189, .inl (upd fd (21 * a) 0))), (a15, .inl (κ 0, 9, .inl g_1))] H := hP
  have hD : va_D A [(m0, .inr (12, [.ref a0, .ref a1, .ref a2, .int (nI u3), .int f4, .ref a5, .int (nI u6), .int f7, .int f8, .int f9, .int f10, .int (nI u11), .int (nI u12), .int (nI u13), .ref a14, .ref a15, .ref a16, .ref a17, .int f18, .int f19, .ref a20, .ref a21, .int (nI u22), .ref a23, .ref a24, .ref a25, .int (nI u26), .int f27, .ref a28, .int (nI u29)])), (a0, .inl (κ 0, 21375, .inl w)), (a5, .inl (κ 0, 800, .inl tp)), (a14, .inl (κ 0, 189, .inl (upd fd (21 * a) 0))), (a15, .inl (κ 0, 9, .inl g_1))] := hD
  have hf_4 : Pfd (upd fd (21 * a) 0) := (Pfd_upd h_a14 (c := a) (by omega) ⟨0, by omega, rfl⟩)
  generalize upd fd (21 * a) 0 = g_3 at hP hD hf_4
  refine lv_aload_n hx hb dX12_reads_20 rfl (lv_at hl 0 rfl) ?_
  refine ct_V (wr := [(a14, .inl (κ 0, 189, .inl g_3)), (a15, .inl (κ 0, 9, .inl g_1))]) (As := []) (rest := []) hFX hKK hP hD hS hA (s_X12_blanks l D κ m0 a0 a1 a2 u3 f4 a5 u6 f7 f8 f9 f10 u11 u12 u13 a14 a15 a16 a17 f18 f19 a20 a21 u22 a23 a24 a25 u26 f27 a28 u29 w tp (by omega) h_a0 (by omega)) 0 gV_X12_217 hdV_X12_blanks ⟨Nat.le_of_ble_eq_true rfl, Nat.le_of_ble_eq_true rfl⟩ rfl rfl (Nat.le_of_ble_eq_true rfl) dX12_reads_21 ⟨Nat.le_of_ble_eq_true rfl, Nat.le_of_ble_eq_true rfl⟩ hl.1 [0, 1, 2] [3, 4] rfl rfl (by decide) (by decide) (by decide) 0 12 rfl rfl rfl trivial (fun y11__5 H locs hp_6 _ hP hD hS hz_ hk_ => ?_)
  replace hP : va_P D vwCl [(m0, .inr (12, [.ref a0, .ref a1, .ref a2, .int (nI u3), .int f4, .ref a5, .int (nI u6), .int f7, .int f8, .int f9, .int f10, .int (nI y11__5), .int (nI u12), .int (nI u13), .ref a14, .ref a15, .ref a16, .ref a17, .int f18, .int f19, .ref a20, .ref a21, .int (nI u22), .ref a23, .ref a24, .ref a25, .int (nI u26), .int f27, .ref a28, .int (nI u29)])), (a0, .inl (κ 0, 21375, .inl w)), (a5, .inl (κ 0, 800, .inl tp)), (a14, .inl (κ 0, 189, .inl g_3)), (a15, .inl (κ 0, 9, .inl g_1))] H := hP.sub [2, 3, 4, 0, 1] rfl
  replace hD : va_D A [(m0, .inr (12, [.ref a0, .ref a1, .ref a2, .int (nI u3), .int f4, .ref a5, .int (nI u6), .int f7, .int f8, .int f9, .int f10, .int (nI y11__5), .int (nI u12), .int (nI u13), .ref a14, .ref a15, .ref a16, .ref a17, .int f18, .int f19, .ref a20, .ref a21, .int (nI u22), .ref a23, .ref a24, .ref a25, .int (nI u26), .int f27, .ref a28, .int (nI u29)])), (a0, .inl (κ 0, 21375, .inl w)), (a5, .inl (κ 0, 800, .inl tp)), (a14, .inl (κ 0, 189, .inl g_3)), (a15, .inl (κ 0, 9, .inl g_1))] := hD.sub [2, 3, 4, 0, 1] (by decide) rfl
  replace hp_6 : u11 ≤ y11__5 ∧ y11__5 ≤ u6 := hp_6
  obtain ⟨h_7, h_8⟩ := hp_6
  refine W.eq (g2 := F0 m 24 ls []) rfl ?_
  refine lv_aload_n hx hb dX12_reads_24 rfl (lv_at hl 0 rfl) ?_
  refine va_get (D := D) (ci := 12) (v := .int (nI y11__5)) (C := RX12) (T := TX12) (N := 30) hx hb hts inlX12 hown hK hP 0 rfl rfl 11 (by decide) (hts _ mw_423) (fun _ h9 => h9) rfl dX12_reads_25 ?_
  refine lv_aload_n hx hb dX12_reads_28 rfl (lv_at hl 0 rfl) ?_
  refine va_get (D := D) (ci := 12) (v := .int (nI u6)) (C := RX12) (T := TX12) (N := 30) hx hb hts inlX12 hown hK hP 0 rfl rfl 6 (by decide) (hts _ mw_236) (fun _ h9 => h9) rfl dX12_reads_29 ?_
  refine lv_icmp_ge (tgt := 63) hx hb dX12_reads_32 (by decide) (fun c_9 => ?_) (fun c_9 => ?_)
  · have nc_9 := cv_le (a := u6) (b := y11__5) (by omega) (by omega) c_9
    refine lv_aload_n hx hb dX12_reads_63 rfl (lv_at hl 0 rfl) ?_
    refine lv_iload_n hx hb dX12_reads_64 rfl (lv_at hl 1 rfl) ?_
    refine ct_V (wr := [(a15, .inl (κ 0, 9, .inl g_1))]) (As := [.int (nI a)]) (rest := []) hFX hKK hP hD hS hA (s_X12_plain l D κ m0 a0 a1 a2 u3 f4 a5 u6 f7 f8 f9 f10 y11__5 u12 u13 a14 a15 a16 a17 f18 f19 a20 a21 u22 a23 a24 a25 u26 f27 a28 u29 w tp g_3 a (by omega) (by assumption) h_a0 hf_4 (by omega) (by omega)) 1 gV_X12_226 hdV_X12_plain ⟨Nat.le_of_ble_eq_true rfl, Nat.le_of_ble_eq_true rfl⟩ rfl rfl (Nat.le_of_ble_eq_true rfl) dX12_reads_65 ⟨Nat.le_of_ble_eq_true rfl, Nat.le_of_ble_eq_true rfl⟩ hl.1 [0, 1, 2, 3] [4] rfl rfl (by decide) (by decide) (by decide) 0 12 rfl rfl rfl trivial (fun u_16 H locs hp_17 _ hP hD hS hz_ hk_ => ?_)
    obtain ⟨r__10, y7__11, y8__12, y9__13, y11__14, g_a14__15⟩ := u_16
    replace hP : va_P D vwCl [(m0, .inr (12, [.ref a0, .ref a1, .ref a2, .int (nI u3), .int f4, .ref a5, .int (nI u6), .int y7__11, .int y8__12, .int y9__13, .int f10, .int (nI y11__14), .int (nI u12), .int (nI u13), .ref a14, .ref a15, .ref a16, .ref a17, .int f18, .int f19, .ref a20, .ref a21, .int (nI u22), .ref a23, .ref a24, .ref a25, .int (nI u26), .int f27, .ref a28, .int (nI u29)])), (a0, .inl (κ 0, 21375, .inl w)), (a5, .inl (κ 0, 800, .inl tp)), (a14, .inl (κ 0, 189, .inl g_a14__15)), (a15, .inl (κ 0, 9, .inl g_1))] H := hP.sub [1, 2, 3, 4, 0] rfl
    replace hD : va_D A [(m0, .inr (12, [.ref a0, .ref a1, .ref a2, .int (nI u3), .int f4, .ref a5, .int (nI u6), .int y7__11, .int y8__12, .int y9__13, .int f10, .int (nI y11__14), .int (nI u12), .int (nI u13), .ref a14, .ref a15, .ref a16, .ref a17, .int f18, .int f19, .ref a20, .ref a21, .int (nI u22), .ref a23, .ref a24, .ref a25, .int (nI u26), .int f27, .ref a28, .int (nI u29)])), (a0, .inl (κ 0, 21375, .inl w)), (a5, .inl (κ 0, 800, .inl tp)), (a14, .inl (κ 0, 189, .inl g_a14__15)), (a15, .inl (κ 0, 9, .inl g_1))] := hD.sub [1, 2, 3, 4, 0] (by decide) rfl
    replace hp_17 : PF y8__12 ∧ Pfd g_a14__15 ∧ y11__5 ≤ y11__14 ∧ y11__14 ≤ u6 ∧ ((r__10 = 1) ∨ (r__10 = 0)) := hp_17
    obtain ⟨h_18, h_19, h_20, h_21, ha_22⟩ := hp_17
    rcases ha_22 with rfl | rfl
    · refine W.eq (g2 := F0 m 68 ls [.int 1]) rfl ?_
      exact ct_iret hx hb hr hlk rfl hS hP hD (1, y7__11, y8__12, y9__13, y11__14, g_a14__15, g_1) rfl ⟨(show PF y8__12 from (by assumption)), (show Pfd g_a14__15 from (by first | assumption | omega)), (show Pb 9 800 g_1 from (by first | assumption | omega)), (show u11 ≤ y11__14 from (by first | assumption | omega)), (show y11__14 ≤ u6 from (by first | assumption | omega)), (by exact Or.inl (rfl))⟩ [0, 1, 2, 3, 4] rfl (by decide) trivial (Nat.le_of_ble_eq_true rfl) (Nat.le_of_ble_eq_true rfl) dX12_reads_68
    · refine W.eq (g2 := F0 m 68 ls [.int 0]) rfl ?_
      exact ct_iret hx hb hr hlk rfl hS hP hD (0, y7__11, y8__12, y9__13, y11__14, g_a14__15, g_1) rfl ⟨(show PF y8__12 from (by assumption)), (show Pfd g_a14__15 from (by first | assumption | omega)), (show Pb 9 800 g_1 from (by first | assumption | omega)), (show u11 ≤ y11__14 from (by first | assumption | omega)), (show y11__14 ≤ u6 from (by first | assumption | omega)), (by exact Or.inr ((rfl)))⟩ [0, 1, 2, 3, 4] rfl (by decide) trivial (Nat.le_of_ble_eq_true rfl) (Nat.le_of_ble_eq_true rfl) dX12_reads_68
  · have nc_9 := cv_nle (a := u6) (b := y11__5) (by omega) (by omega) c_9
    refine lv_aload_n hx hb dX12_reads_35 rfl (lv_at hl 0 rfl) ?_
    refine va_get (D := D) (ci := 12) (v := .ref a5) (C := RX12) (T := TX12) (N := 30) hx hb hts inlX12 hown hK hP 0 rfl rfl 5 (by decide) (hts _ mw_191) (fun _ h9 => h9) rfl dX12_reads_36 ?_
    refine lv_aload_n hx hb dX12_reads_39 rfl (lv_at hl 0 rfl) ?_
    refine va_get (D := D) (ci := 12) (v := .int (nI y11__5)) (C := RX12) (T := TX12) (N := 30) hx hb hts inlX12 hown hK hP 0 rfl rfl 11 (by decide) (hts _ mw_423) (fun _ h9 => h9) rfl dX12_reads_40 ?_
    refine va_iald hx hb hK hP 2 0 rfl rfl (i := nI y11__5) (vp_in_nI (n := y11__5) (by omega) (by omega)) dX12_reads_43 ?_
    refine kv (v := .int (tp y11__5)) (by rw [nI_clamp (by omega)]) ?_
    obtain ⟨x_23, ex_23⟩ : ∃ y9 : Int32, tp y11__5 = y9 := ⟨_, rfl⟩
    refine kv (v := .int x_23) (congrArg Value.int ex_23) ?_
    refine lv_aload_n hx hb dX12_reads_44 rfl (lv_at hl 0 rfl) ?_
    refine va_get (D := D) (ci := 12) (v := .ref a0) (C := RX12) (T := TX12) (N := 30) hx hb hts inlX12 hown hK hP 0 rfl rfl 0 (by decide) (hts _ mw_187) (fun _ h9 => h9) rfl dX12_reads_45 ?_
    refine lv_sipush (v := 21370) hx hb dX12_reads_48 (by decide) ?_
    refine va_iald hx hb hK hP 1 0 rfl rfl (i := 21370) (vp_k (by decide)) dX12_reads_51 ?_
    obtain ⟨x_24, ex_24⟩ : ∃ y9 : Int32, w 21370 = y9 := ⟨_, rfl⟩
    refine kv (v := .int x_24) (congrArg Value.int ex_24) ?_
    refine lv_icmp_ne (tgt := 63) hx hb dX12_reads_52 (by decide) (fun c_25 => ?_) (fun c_25 => ?_)
    · refine lv_aload_n hx hb dX12_reads_63 rfl (lv_at hl 0 rfl) ?_
      refine lv_iload_n hx hb dX12_reads_64 rfl (lv_at hl 1 rfl) ?_
      refine ct_V (wr := [(a15, .inl (κ 0, 9, .inl g_1))]) (As := [.int (nI a)]) (rest := []) hFX hKK hP hD hS hA (s_X12_plain l D κ m0 a0 a1 a2 u3 f4 a5 u6 f7 f8 f9 f10 y11__5 u12 u13 a14 a15 a16 a17 f18 f19 a20 a21 u22 a23 a24 a25 u26 f27 a28 u29 w tp g_3 a (by omega) (by assumption) h_a0 hf_4 (by omega) (by omega)) 1 gV_X12_226 hdV_X12_plain ⟨Nat.le_of_ble_eq_true rfl, Nat.le_of_ble_eq_true rfl⟩ rfl rfl (Nat.le_of_ble_eq_true rfl) dX12_reads_65 ⟨Nat.le_of_ble_eq_true rfl, Nat.le_of_ble_eq_true rfl⟩ hl.1 [0, 1, 2, 3] [4] rfl rfl (by decide) (by decide) (by decide) 0 12 rfl rfl rfl trivial (fun u_32 H locs hp_33 _ hP hD hS hz_ hk_ => ?_)
      obtain ⟨r__26, y7__27, y8__28, y9__29, y11__30, g_a14__31⟩ := u_32
      replace hP : va_P D vwCl [(m0, .inr (12, [.ref a0, .ref a1, .ref a2, .int (nI u3), .int f4, .ref a5, .int (nI u6), .int y7__27, .int y8__28, .int y9__29, .int f10, .int (nI y11__30), .int (nI u12), .int (nI u13), .ref a14, .ref a15, .ref a16, .ref a17, .int f18, .int f19, .ref a20, .ref a21, .int (nI u22), .ref a23, .ref a24, .ref a25, .int (nI u26), .int f27, .ref a28, .int (nI u29)])), (a0, .inl (κ 0, 21375, .inl w)), (a5, .inl (κ 0, 800, .inl tp)), (a14, .inl (κ 0, 189, .inl g_a14__31)), (a15, .inl (κ 0, 9, .inl g_1))] H := hP.sub [1, 2, 3, 4, 0] rfl
      replace hD : va_D A [(m0, .inr (12, [.ref a0, .ref a1, .ref a2, .int (nI u3), .int f4, .ref a5, .int (nI u6), .int y7__27, .int y8__28, .int y9__29, .int f10, .int (nI y11__30), .int (nI u12), .int (nI u13), .ref a14, .ref a15, .ref a16, .ref a17, .int f18, .int f19, .ref a20, .ref a21, .int (nI u22), .ref a23, .ref a24, .ref a25, .int (nI u26), .int f27, .ref a28, .int (nI u29)])), (a0, .inl (κ 0, 21375, .inl w)), (a5, .inl (κ 0, 800, .inl tp)), (a14, .inl (κ 0, 189, .inl g_a14__31)), (a15, .inl (κ 0, 9, .inl g_1))] := hD.sub [1, 2, 3, 4, 0] (by decide) rfl
      replace hp_33 : PF y8__28 ∧ Pfd g_a14__31 ∧ y11__5 ≤ y11__30 ∧ y11__30 ≤ u6 ∧ ((r__26 = 1) ∨ (r__26 = 0)) := hp_33
      obtain ⟨h_34, h_35, h_36, h_37, ha_38⟩ := hp_33
      rcases ha_38 with rfl | rfl
      · refine W.eq (g2 := F0 m 68 ls [.int 1]) rfl ?_
        exact ct_iret hx hb hr hlk rfl hS hP hD (1, y7__27, y8__28, y9__29, y11__30, g_a14__31, g_1) rfl ⟨(show PF y8__28 from (by assumption)), (show Pfd g_a14__31 from (by first | assumption | omega)), (show Pb 9 800 g_1 from (by first | assumption | omega)), (show u11 ≤ y11__30 from (by first | assumption | omega)), (show y11__30 ≤ u6 from (by first | assumption | omega)), (by exact Or.inl (rfl))⟩ [0, 1, 2, 3, 4] rfl (by decide) trivial (Nat.le_of_ble_eq_true rfl) (Nat.le_of_ble_eq_true rfl) dX12_reads_68
      · refine W.eq (g2 := F0 m 68 ls [.int 0]) rfl ?_
        exact ct_iret hx hb hr hlk rfl hS hP hD (0, y7__27, y8__28, y9__29, y11__30, g_a14__31, g_1) rfl ⟨(show PF y8__28 from (by assumption)), (show Pfd g_a14__31 from (by first | assumption | omega)), (show Pb 9 800 g_1 from (by first | assumption | omega)), (show u11 ≤ y11__30 from (by first | assumption | omega)), (show y11__30 ≤ u6 from (by first | assumption | omega)), (by exact Or.inr ((rfl)))⟩ [0, 1, 2, 3, 4] rfl (by decide) trivial (Nat.le_of_ble_eq_true rfl) (Nat.le_of_ble_eq_true rfl) dX12_reads_68
    · refine lv_aload_n hx hb dX12_reads_55 rfl (lv_at hl 0 rfl) ?_
      refine lv_iload_n hx hb dX12_reads_56 rfl (lv_at hl 1 rfl) ?_
      refine ct_V (wr := [(a15, .inl (κ 0, 9, .inl g_1))]) (As := [.int (nI a)]) (rest := []) hFX hKK hP hD hS hA (s_X12_quoted l D κ m0 a0 a1 a2 u3 f4 a5 u6 f7 f8 f9 f10 y11__5 u12 u13 a14 a15 a16 a17 f18 f19 a20 a21 u22 a23 a24 a25 u26 f27 a28 u29 w tp g_3 a (by omega) (by assumption) h_a0 hf_4 (by omega) (by omega)) 1 gV_X12_223 hdV_X12_quoted ⟨Nat.le_of_ble_eq_true rfl, Nat.le_of_ble_eq_true rfl⟩ rfl rfl (Nat.le_of_ble_eq_true rfl) dX12_reads_57 ⟨Nat.le_of_ble_eq_true rfl, Nat.le_of_ble_eq_true rfl⟩ hl.1 [0, 1, 2, 3] [4] rfl rfl (by decide) (by decide) (by decide) 0 12 rfl rfl rfl trivial (fun u_45 H locs hp_46 _ hP hD hS hz_ hk_ => ?_)
      obtain ⟨r__39, y7__40, y8__41, y9__42, y11__43, g_a14__44⟩ := u_45
      replace hP : va_P D vwCl [(m0, .inr (12, [.ref a0, .ref a1, .ref a2, .int (nI u3), .int f4, .ref a5, .int (nI u6), .int y7__40, .int y8__41, .int y9__42, .int f10, .int (nI y11__43), .int (nI u12), .int (nI u13), .ref a14, .ref a15, .ref a16, .ref a17, .int f18, .int f19, .ref a20, .ref a21, .int (nI u22), .ref a23, .ref a24, .ref a25, .int (nI u26), .int f27, .ref a28, .int (nI u29)])), (a0, .inl (κ 0, 21375, .inl w)), (a5, .inl (κ 0, 800, .inl tp)), (a14, .inl (κ 0, 189, .inl g_a14__44)), (a15, .inl (κ 0, 9, .inl g_1))] H := hP.sub [1, 2, 3, 4, 0] rfl
      replace hD : va_D A [(m0, .inr (12, [.ref a0, .ref a1, .ref a2, .int (nI u3), .int f4, .ref a5, .int (nI u6), .int y7__40, .int y8__41, .int y9__42, .int f10, .int (nI y11__43), .int (nI u12), .int (nI u13), .ref a14, .ref a15, .ref a16, .ref a17, .int f18, .int f19, .ref a20, .ref a21, .int (nI u22), .ref a23, .ref a24, .ref a25, .int (nI u26), .int f27, .ref a28, .int (nI u29)])), (a0, .inl (κ 0, 21375, .inl w)), (a5, .inl (κ 0, 800, .inl tp)), (a14, .inl (κ 0, 189, .inl g_a14__44)), (a15, .inl (κ 0, 9, .inl g_1))] := hD.sub [1, 2, 3, 4, 0] (by decide) rfl
      replace hp_46 : PF y8__41 ∧ Pfd g_a14__44 ∧ y11__5 ≤ y11__43 ∧ y11__43 ≤ u6 ∧ ((r__39 = 1) ∨ (r__39 = 0)) := hp_46
      obtain ⟨h_47, h_48, h_49, h_50, ha_51⟩ := hp_46
      rcases ha_51 with rfl | rfl
      · refine W.eq (g2 := F0 m 60 ls [.int 1]) rfl ?_
        refine lv_goto (tgt := 68) hx hb dX12_reads_60 (by decide) ?_
        exact ct_iret hx hb hr hlk rfl hS hP hD (1, y7__40, y8__41, y9__42, y11__43, g_a14__44, g_1) rfl ⟨(show PF y8__41 from (by assumption)), (show Pfd g_a14__44 from (by first | assumption | omega)), (show Pb 9 800 g_1 from (by first | assumption | omega)), (show u11 ≤ y11__43 from (by first | assumption | omega)), (show y11__43 ≤ u6 from (by first | assumption | omega)), (by exact Or.inl (rfl))⟩ [0, 1, 2, 3, 4] rfl (by decide) trivial (Nat.le_of_ble_eq_true rfl) (Nat.le_of_ble_eq_true rfl) dX12_reads_68
      · refine W.eq (g2 := F0 m 60 ls [.int 0]) rfl ?_
        refine lv_goto (tgt := 68) hx hb dX12_reads_60 (by decide) ?_
        exact ct_iret hx hb hr hlk rfl hS hP hD (0, y7__40, y8__41, y9__42, y11__43, g_a14__44, g_1) rfl ⟨(show PF y8__41 from (by assumption)), (show Pfd g_a14__44 from (by first | assumption | omega)), (show Pb 9 800 g_1 from (by first | assumption | omega)), (show u11 ≤ y11__43 from (by first | assumption | omega)), (show y11__43 ≤ u6 from (by first | assumption | omega)), (by exact Or.inr ((rfl)))⟩ [0, 1, 2, 3, 4] rfl (by decide) trivial (Nat.le_of_ble_eq_true rfl) (Nat.le_of_ble_eq_true rfl) dX12_reads_68
set_option maxHeartbeats 4000000 in
set_option maxRecDepth 100000 in
theorem s_X12_passes (l : Launch) (D : va_G) (κ : Nat → ClassId) (m0 : Nat) (a0 : Nat) (a1 : Nat) (a2 : Nat) (u3 : Nat) (f4 : Int32) (a5 : Nat) (u6 : Nat) (f7 : Int32) (f8 : Int32) (f9 : Int32) (f10 : Int32) (u11 : Nat) (u12 : Nat) (u13 : Nat) (a14 : Nat) (a15 : Nat) (a16 : Nat) (a17 : Nat) (f18 : Int32) (f19 : Int32) (a20 : Nat) (a21 : Nat) (u22 : Nat) (a23 : Nat) (a24 : Nat) (a25 : Nat) (u26 : Nat) (f27 : Int32) (a28 : Nat) (u29 : Nat) (w : Nat → Int32) (tp : Nat → Int32) (h6 : u6 ≤ 800) (h_a0 : Pw w) (h11 : u11 ≤ u6) : Ct l yX12_passes (wl yX12_passes cX12_passes 2 (some .boolean)) { frames := 0, cells := 0, slots := 0, locals := 0 } D κ [.ref m0] [(m0, .inr (12, [.ref a0, .ref a1, .ref a2, .int (nI u3), .int f4, .ref a5, .int (nI u6), .int f7, .int f8, .int f9, .int f10, .int (nI u11), .int (nI u12), .int (nI u13), .ref a14, .ref a15, .ref a16, .ref a17, .int f18, .int f19, .ref a20, .ref a21, .int (nI u22), .ref a23, .ref a24, .ref a25, .int (nI u26), .int f27, .ref a28, .int (nI u29)])), (a0, .inl (κ 0, 21375, .inl w)), (a5, .inl (κ 0, 800, .inl tp))] (fun _ => True) (fun u9 : Int32 × Nat => some (.int u9.1)) (fun u9 : Int32 × Nat => u11 ≤ u9.2 ∧ u9.2 ≤ u6 ∧ ((u9.1 = 1 ∧ u9.2 < u6) ∨ (u9.1 = 0))) (fun u9 : Int32 × Nat => [(m0, .inr (12, [.ref a0, .ref a1, .ref a2, .int (nI u3), .int f4, .ref a5, .int (nI u6), .int f7, .int f8, .int f9, .int f10, .int (nI u9.2), .int (nI u12), .int (nI u13), .ref a14, .ref a15, .ref a16, .ref a17, .int f18, .int f19, .ref a20, .ref a21, .int (nI u22), .ref a23, .ref a24, .ref a25, .int (nI u26), .int f27, .ref a28, .int (nI u29)])), (a0, .inl (κ 0, 21375, .inl w)), (a5, .inl (κ 0, 800, .inl tp))]) (fun _ _ => True) := by
  refine ct_of (by decide +kernel) (Nat.le_of_ble_eq_true rfl) ?_
  intro p e s m args below meth c A ls hx hb hr hml hts hown hlk hin hKK hK hA hP hD hS hI hl
  have hS : va_S A s.heap s.heap [] := hS
  have hFX : FX p s m args c cX12_passes 2 RX12 := ⟨hx, hb, hml, hown, hts⟩
  have hl : lv_has ls 2 [(0, .ref m0)] := hl
  refine loop_dn (fun k9 H locs ls => ∃ (v11_0 : Nat), (u11 ≤ v11_0) ∧ (v11_0 ≤ u6) ∧ u6 - v11_0 = k9 ∧ va_P D vwCl [(m0, .inr (12, [.ref a0, .ref a1, .ref a2, .int (nI u3), .int f4, .ref a5, .int (nI u6), .int f7, .int f8, .int f9, .int f10, .int (nI v11_0), .int (nI u12), .int (nI u13), .ref a14, .ref a15, .ref a16, .ref a17, .int f18, .int f19, .ref a20, .ref a21, .int (nI u22), .ref a23, .ref a24, .ref a25, .int (nI u26), .int f27, .ref a28, .int (nI u29)])), (a0, .inl (κ 0, 21375, .inl w)), (a5, .inl (κ 0, 800, .inl tp))] H ∧ va_D A [(m0, .inr (12, [.ref a0, .ref a1, .ref a2, .int (nI u3), .int f4, .ref a5, .int (nI u6), .int f7, .int f8, .int f9, .int f10, .int (nI v11_0), .int (nI u12), .int (nI u13), .ref a14, .ref a15, .ref a16, .ref a17, .int f18, .int f19, .ref a20, .ref a21, .int (nI u22), .ref a23, .ref a24, .ref a25, .int (nI u26), .int f27, .ref a28, .int (nI u29)])), (a0, .inl (κ 0, 21375, .inl w)), (a5, .inl (κ 0, 800, .inl tp))] ∧ va_S A s.heap H locs ∧ lv_has ls 2 [(0, .ref m0)]) (fun k9 H locs ls hI0 ih0 => ?_) (u6 - u11) _ _ _ ⟨u11, (by omega), (by omega), rfl, hP, hD, hS, lv_sub hl [0] rfl⟩
  obtain ⟨v11_0, hl0_0, hl0_1, hm0, hP, hD, hS, hl⟩ := hI0
  refine lv_aload_n hx hb dX12_passes_0 rfl (lv_at hl 0 rfl) ?_
  refine va_get (D := D) (ci := 12) (v := .int (nI v11_0)) (C := RX12) (T := TX12) (N := 30) hx hb hts inlX12 hown hK hP 0 rfl rfl 11 (by decide) (hts _ mw_423) (fun _ h9 => h9) rfl dX12_passes_1 ?_
  refine lv_aload_n hx hb dX12_passes_4 rfl (lv_at hl 0 rfl) ?_
  refine va_get (D := D) (ci := 12) (v := .int (nI u6)) (C := RX12) (T := TX12) (N := 30) hx hb hts inlX12 hown hK hP 0 rfl rfl 6 (by decide) (hts _ mw_236) (fun _ h9 => h9) rfl dX12_passes_5 ?_
  refine lv_icmp_ge (tgt := 130) hx hb dX12_passes_8 (by decide) (fun c_1 => ?_) (fun c_1 => ?_)
  · have nc_1 := cv_le (a := u6) (b := v11_0) (by omega) (by omega) c_1
    refine lv_iconst (v := 0) hx hb dX12_passes_130 (by decide) ?_
    exact ct_iret hx hb hr hlk rfl hS hP hD (0, v11_0) rfl ⟨(show u11 ≤ v11_0 from (by first | assumption | omega)), (show v11_0 ≤ u6 from (by first | assumption | omega)), (by exact Or.inr ((rfl)))⟩ [0, 1, 2] rfl (by decide) trivial (Nat.le_of_ble_eq_true rfl) (Nat.le_of_ble_eq_true rfl) dX12_passes_131
  · have nc_1 := cv_nle (a := u6) (b := v11_0) (by omega) (by omega) c_1
    refine lv_aload_n hx hb dX12_passes_11 rfl (lv_at hl 0 rfl) ?_
    refine va_get (D := D) (ci := 12) (v := .ref a5) (C := RX12) (T := TX12) (N := 30) hx hb hts inlX12 hown hK hP 0 rfl rfl 5 (by decide) (hts _ mw_191) (fun _ h9 => h9) rfl dX12_passes_12 ?_
    refine lv_aload_n hx hb dX12_passes_15 rfl (lv_at hl 0 rfl) ?_
    refine va_get (D := D) (ci := 12) (v := .int (nI v11_0)) (C := RX12) (T := TX12) (N := 30) hx hb hts inlX12 hown hK hP 0 rfl rfl 11 (by decide) (hts _ mw_423) (fun _ h9 => h9) rfl dX12_passes_16 ?_
    refine va_iald hx hb hK hP 2 0 rfl rfl (i := nI v11_0) (vp_in_nI (n := v11_0) (by omega) (by omega)) dX12_passes_19 ?_
    refine kv (v := .int (tp v11_0)) (by rw [nI_clamp (by omega)]) ?_
    obtain ⟨x_2, ex_2⟩ : ∃ y9 : Int32, tp v11_0 = y9 := ⟨_, rfl⟩
    refine kv (v := .int x_2) (congrArg Value.int ex_2) ?_
    refine lv_bipush (v := 10) hx hb dX12_passes_20 (by decide) ?_
    refine lv_icmp_eq (tgt := 56) hx hb dX12_passes_22 (by decide) (fun c_3 => ?_) (fun c_3 => ?_)
    · refine lv_iconst (v := 1) hx hb dX12_passes_56 (by decide) ?_
      refine lv_goto (tgt := 61) hx hb dX12_passes_57 (by decide) ?_
      refine lv_istore_n (lv' := [(1, .int 1), (0, .ref m0)]) hx hb dX12_passes_61 rfl hl (by decide) rfl (fun ls hl => ?_)
      refine lv_iload_n hx hb dX12_passes_62 rfl (lv_at hl 0 rfl) ?_
      refine lv_if_ne (tgt := 68) hx hb dX12_passes_63 (by decide) (fun c_4 => ?_) (fun c_4 => absurd c_4 (by decide))
      refine loop_dn (fun k9 H locs ls => ∃ (v11_68 : Nat), (v11_0 ≤ v11_68) ∧ (v11_68 ≤ u6) ∧ u6 - v11_68 = k9 ∧ va_P D vwCl [(m0, .inr (12, [.ref a0, .ref a1, .ref a2, .int (nI u3), .int f4, .ref a5, .int (nI u6), .int f7, .int f8, .int f9, .int f10, .int (nI v11_68), .int (nI u12), .int (nI u13), .ref a14, .ref a15, .ref a16, .ref a17, .int f18, .int f19, .ref a20, .ref a21, .int (nI u22), .ref a23, .ref a24, .ref a25, .int (nI u26), .int f27, .ref a28, .int (nI u29)])), (a0, .inl (κ 0, 21375, .inl w)), (a5, .inl (κ 0, 800, .inl tp))] H ∧ va_D A [(m0, .inr (12, [.ref a0, .ref a1, .ref a2, .int (nI u3), .int f4, .ref a5, .int (nI u6), .int f7, .int f8, .int f9, .int f10, .int (nI v11_68), .int (nI u12), .int (nI u13), .ref a14, .ref a15, .ref a16, .ref a17, .int f18, .int f19, .ref a20, .ref a21, .int (nI u22), .ref a23, .ref a24, .ref a25, .int (nI u26), .int f27, .ref a28, .int (nI u29)])), (a0, .inl (κ 0, 21375, .inl w)), (a5, .inl (κ 0, 800, .inl tp))] ∧ va_S A s.heap H locs ∧ lv_has ls 2 [(1, .int 1), (0, .ref m0)]) (fun k9 H locs ls hI68 ih68 => ?_) (u6 - v11_0) _ _ _ ⟨v11_0, (by omega), (by omega), rfl, hP, hD, hS, lv_sub hl [0, 1] rfl⟩
      obtain ⟨v11_68, hl68_0, hl68_1, hm68, hP, hD, hS, hl⟩ := hI68
      refine lv_aload_n hx hb dX12_passes_68 rfl (lv_at hl 1 rfl) ?_
      refine va_get (D := D) (ci := 12) (v := .int (nI v11_68)) (C := RX12) (T := TX12) (N := 30) hx hb hts inlX12 hown hK hP 0 rfl rfl 11 (by decide) (hts _ mw_423) (fun _ h9 => h9) rfl dX12_passes_69 ?_
      refine lv_aload_n hx hb dX12_passes_72 rfl (lv_at hl 1 rfl) ?_
      refine va_get (D := D) (ci := 12) (v := .int (nI u6)) (C := RX12) (T := TX12) (N := 30) hx hb hts inlX12 hown hK hP 0 rfl rfl 6 (by decide) (hts _ mw_236) (fun _ h9 => h9) rfl dX12_passes_73 ?_
      refine lv_icmp_ge (tgt := 106) hx hb dX12_passes_76 (by decide) (fun c_5 => ?_) (fun c_5 => ?_)
      · have nc_5 := cv_le (a := u6) (b := v11_68) (by omega) (by omega) c_5
        refine lv_aload_n hx hb dX12_passes_106 rfl (lv_at hl 1 rfl) ?_
        refine va_get (D := D) (ci := 12) (v := .int (nI v11_68)) (C := RX12) (T := TX12) (N := 30) hx hb hts inlX12 hown hK hP 0 rfl rfl 11 (by decide) (hts _ mw_423) (fun _ h9 => h9) rfl dX12_passes_107 ?_
        refine lv_aload_n hx hb dX12_passes_110 rfl (lv_at hl 1 rfl) ?_
        refine va_get (D := D) (ci := 12) (v := .int (nI u6)) (C := RX12) (T := TX12) (N := 30) hx hb hts inlX12 hown hK hP 0 rfl rfl 6 (by decide) (hts _ mw_236) (fun _ h9 => h9) rfl dX12_passes_111 ?_
        refine lv_icmp_ge (tgt := 127) hx hb dX12_passes_114 (by decide) (fun c_6 => ?_) (fun c_6 => absurd c_5 c_6)
        refine lv_goto (tgt := 0) hx hb dX12_passes_127 (by decide) ?_
        exact ih0 _ _ _ _ (by omega) ⟨v11_68, (by omega), (by omega), rfl, hP, hD, hS, lv_sub hl [1] rfl⟩
      · have nc_5 := cv_nle (a := u6) (b := v11_68) (by omega) (by omega) c_5
        refine lv_aload_n hx hb dX12_passes_79 rfl (lv_at hl 1 rfl) ?_
        refine va_get (D := D) (ci := 12) (v := .ref a5) (C := RX12) (T := TX12) (N := 30) hx hb hts inlX12 hown hK hP 0 rfl rfl 5 (by decide) (hts _ mw_191) (fun _ h9 => h9) rfl dX12_passes_80 ?_
        refine lv_aload_n hx hb dX12_passes_83 rfl (lv_at hl 1 rfl) ?_
        refine va_get (D := D) (ci := 12) (v := .int (nI v11_68)) (C := RX12) (T := TX12) (N := 30) hx hb hts inlX12 hown hK hP 0 rfl rfl 11 (by decide) (hts _ mw_423) (fun _ h9 => h9) rfl dX12_passes_84 ?_
        refine va_iald hx hb hK hP 2 0 rfl rfl (i := nI v11_68) (vp_in_nI (n := v11_68) (by omega) (by omega)) dX12_passes_87 ?_
        refine kv (v := .int (tp v11_68)) (by rw [nI_clamp (by omega)]) ?_
        obtain ⟨x_7, ex_7⟩ : ∃ y9 : Int32, tp v11_68 = y9 := ⟨_, rfl⟩
        refine kv (v := .int x_7) (congrArg Value.int ex_7) ?_
        refine lv_bipush (v := 10) hx hb dX12_passes_88 (by decide) ?_
        refine lv_icmp_eq (tgt := 106) hx hb dX12_passes_90 (by decide) (fun c_8 => ?_) (fun c_8 => ?_)
        · refine lv_aload_n hx hb dX12_passes_106 rfl (lv_at hl 1 rfl) ?_
          refine va_get (D := D) (ci := 12) (v := .int (nI v11_68)) (C := RX12) (T := TX12) (N := 30) hx hb hts inlX12 hown hK hP 0 rfl rfl 11 (by decide) (hts _ mw_423) (fun _ h9 => h9) rfl dX12_passes_107 ?_
          refine lv_aload_n hx hb dX12_passes_110 rfl (lv_at hl 1 rfl) ?_
          refine va_get (D := D) (ci := 12) (v := .int (nI u6)) (C := RX12) (T := TX12) (N := 30) hx hb hts inlX12 hown hK hP 0 rfl rfl 6 (by decide) (hts _ mw_236) (fun _ h9 => h9) rfl dX12_passes_111 ?_
          refine lv_icmp_ge (tgt := 127) hx hb dX12_passes_114 (by decide) (fun c_9 => absurd c_9 c_5) (fun c_9 => ?_)
          refine lv_aload_n hx hb dX12_passes_117 rfl (lv_at hl 1 rfl) ?_
          refine lv_dup hx hb dX12_passes_118 rfl ?_
          refine va_get (D := D) (ci := 12) (v := .int (nI v11_68)) (C := RX12) (T := TX12) (N := 30) hx hb hts inlX12 hown hK hP 0 rfl rfl 11 (by decide) (hts _ mw_423) (fun _ h9 => h9) rfl dX12_passes_119 ?_
          refine lv_iconst (v := 1) hx hb dX12_passes_122 (by decide) ?_
          refine lv_iadd hx hb dX12_passes_123 ?_
          refine ki (v := (nI (v11_68 + 1))) (nI_add v11_68 1) ?_
          refine va_put (D := D) (ci := 12) (v := .int (nI (v11_68 + 1))) (ty := tyX12 11) (C := RX12) (T := TX12) (N := 30) hx hb hts inlX12 tyX12 tyX12_ok nmX12 hown hK hP hD hS 0 rfl rfl 11 (by decide) (hts _ mw_423) (fun _ h9 => h9) rfl (tyX12_ok 11 (by decide)) rfl rfl (Nat.le_of_ble_eq_true rfl) dX12_passes_124 (fun H locs hP hD hS => ?_)
          have hP : va_P D vwCl [(m0, .inr (12, [.ref a0, .ref a1, .ref a2, .int (nI u3), .int f4, .ref a5, .int (nI u6), .int f7, .int f8, .int f9, .int f10, .int (nI (v11_68 + 1)), .int (nI u12), .int (nI u13), .ref a14, .ref a15, .ref a16, .ref a17, .int f18, .int f19, .ref a20, .ref a21, .int (nI u22), .ref a23, .ref a24, .ref a25, .int (nI u26), .int f27, .ref a28, .int (nI u29)])), (a0, .inl (κ 0, 21375, .inl w)), (a5, .inl (κ 0, 800, .inl tp))] H := hP
          have hD : va_D A [(m0, .inr (12, [.ref a0, .ref a1, .ref a2, .int (nI u3), .int f4, .ref a5, .int (nI u6), .int f7, .int f8, .int f9, .int f10, .int (nI (v11_68 + 1)), .int (nI u12), .int (nI u13), .ref a14, .ref a15, .ref a16, .ref a17, .int f18, .int f19, .ref a20, .ref a21, .int (nI u22), .ref a23, .ref a24, .ref a25, .int (nI u26), .int f27, .ref a28, .int (nI u29)])), (a0, .inl (κ 0, 21375, .inl w)), (a5, .inl (κ 0, 800, .inl tp))] := hD
          refine lv_goto (tgt := 0) hx hb dX12_passes_127 (by decide) ?_
          exact ih0 _ _ _ _ (by omega) ⟨(v11_68 + 1), (by omega), (by omega), rfl, hP, hD, hS, lv_sub hl [1] rfl⟩
        · refine lv_aload_n hx hb dX12_passes_93 rfl (lv_at hl 1 rfl) ?_
          refine lv_dup hx hb dX12_passes_94 rfl ?_
          refine va_get (D := D) (ci := 12) (v := .int (nI v11_68)) (C := RX12) (T := TX12) (N := 30) hx hb hts inlX12 hown hK hP 0 rfl rfl 11 (by decide) (hts _ mw_423) (fun _ h9 => h9) rfl dX12_passes_95 ?_
          refine lv_iconst (v := 1) hx hb dX12_passes_98 (by decide) ?_
          refine lv_iadd hx hb dX12_passes_99 ?_
          refine ki (v := (nI (v11_68 + 1))) (nI_add v11_68 1) ?_
          refine va_put (D := D) (ci := 12) (v := .int (nI (v11_68 + 1))) (ty := tyX12 11) (C := RX12) (T := TX12) (N := 30) hx hb hts inlX12 tyX12 tyX12_ok nmX12 hown hK hP hD hS 0 rfl rfl 11 (by decide) (hts _ mw_423) (fun _ h9 => h9) rfl (tyX12_ok 11 (by decide)) rfl rfl (Nat.le_of_ble_eq_true rfl) dX12_passes_100 (fun H locs hP hD hS => ?_)
          have hP : va_P D vwCl [(m0, .inr (12, [.ref a0, .ref a1, .ref a2, .int (nI u3), .int f4, .ref a5, .int (nI u6), .int f7, .int f8, .int f9, .int f10, .int (nI (v11_68 + 1)), .int (nI u12), .int (nI u13), .ref a14, .ref a15, .ref a16, .ref a17, .int f18, .int f19, .ref a20, .ref a21, .int (nI u22), .ref a23, .ref a24, .ref a25, .int (nI u26), .int f27, .ref a28, .int (nI u29)])), (a0, .inl (κ 0, 21375, .inl w)), (a5, .inl (κ 0, 800, .inl tp))] H := hP
          have hD : va_D A [(m0, .inr (12, [.ref a0, .ref a1, .ref a2, .int (nI u3), .int f4, .ref a5, .int (nI u6), .int f7, .int f8, .int f9, .int f10, .int (nI (v11_68 + 1)), .int (nI u12), .int (nI u13), .ref a14, .ref a15, .ref a16, .ref a17, .int f18, .int f19, .ref a20, .ref a21, .int (nI u22), .ref a23, .ref a24, .ref a25, .int (nI u26), .int f27, .ref a28, .int (nI u29)])), (a0, .inl (κ 0, 21375, .inl w)), (a5, .inl (κ 0, 800, .inl tp))] := hD
          refine lv_goto (tgt := 68) hx hb dX12_passes_103 (by decide) ?_
          exact ih68 _ _ _ _ (by omega) ⟨(v11_68 + 1), (by omega), (by omega), rfl, hP, hD, hS, lv_sub hl [0, 1] rfl⟩
    · refine lv_aload_n hx hb dX12_passes_25 rfl (lv_at hl 0 rfl) ?_
      refine va_get (D := D) (ci := 12) (v := .ref a0) (C := RX12) (T := TX12) (N := 30) hx hb hts inlX12 hown hK hP 0 rfl rfl 0 (by decide) (hts _ mw_187) (fun _ h9 => h9) rfl dX12_passes_26 ?_
      refine lv_sipush (v := 21374) hx hb dX12_passes_29 (by decide) ?_
      refine va_iald hx hb hK hP 1 0 rfl rfl (i := 21374) (vp_k (by decide)) dX12_passes_32 ?_
      obtain ⟨x_10, ex_10⟩ : ∃ y9 : Int32, w 21374 = y9 := ⟨_, rfl⟩
      refine kv (v := .int x_10) (congrArg Value.int ex_10) ?_
      refine lv_if_eq (tgt := 60) hx hb dX12_passes_33 (by decide) (fun c_11 => ?_) (fun c_11 => ?_)
      · refine lv_iconst (v := 0) hx hb dX12_passes_60 (by decide) ?_
        refine lv_istore_n (lv' := [(1, .int 0), (0, .ref m0)]) hx hb dX12_passes_61 rfl hl (by decide) rfl (fun ls hl => ?_)
        refine lv_iload_n hx hb dX12_passes_62 rfl (lv_at hl 0 rfl) ?_
        refine lv_if_ne (tgt := 68) hx hb dX12_passes_63 (by decide) (fun c_12 => absurd c_12 (by decide)) (fun c_12 => ?_)
        refine lv_iconst (v := 1) hx hb dX12_passes_66 (by decide) ?_
        exact ct_iret hx hb hr hlk rfl hS hP hD (1, v11_0) rfl ⟨(show u11 ≤ v11_0 from (by first | assumption | omega)), (show v11_0 ≤ u6 from (by first | assumption | omega)), (by exact Or.inl (⟨rfl, (show v11_0 < u6 from (by first | assumption | omega))⟩))⟩ [0, 1, 2] rfl (by decide) trivial (Nat.le_of_ble_eq_true rfl) (Nat.le_of_ble_eq_true rfl) dX12_passes_67
      · refine lv_aload_n hx hb dX12_passes_36 rfl (lv_at hl 0 rfl) ?_
        refine va_get (D := D) (ci := 12) (v := .ref a5) (C := RX12) (T := TX12) (N := 30) hx hb hts inlX12 hown hK hP 0 rfl rfl 5 (by decide) (hts _ mw_191) (fun _ h9 => h9) rfl dX12_passes_37 ?_
        refine lv_aload_n hx hb dX12_passes_40 rfl (lv_at hl 0 rfl) ?_
        refine va_get (D := D) (ci := 12) (v := .int (nI v11_0)) (C := RX12) (T := TX12) (N := 30) hx hb hts inlX12 hown hK hP 0 rfl rfl 11 (by decide) (hts _ mw_423) (fun _ h9 => h9) rfl dX12_passes_41 ?_
        refine va_iald hx hb hK hP 2 0 rfl rfl (i := nI v11_0) (vp_in_nI (n := v11_0) (by omega) (by omega)) dX12_passes_44 ?_
        refine kv (v := .int x_2) (by rw [nI_clamp (by omega), show tp v11_0 = x_2 from ex_2]) ?_
        refine lv_aload_n hx hb dX12_passes_45 rfl (lv_at hl 0 rfl) ?_
        refine va_get (D := D) (ci := 12) (v := .ref a0) (C := RX12) (T := TX12) (N := 30) hx hb hts inlX12 hown hK hP 0 rfl rfl 0 (by decide) (hts _ mw_187) (fun _ h9 => h9) rfl dX12_passes_46 ?_
        refine lv_sipush (v := 21374) hx hb dX12_passes_49 (by decide) ?_
        refine va_iald hx hb hK hP 1 0 rfl rfl (i := 21374) (vp_k (by decide)) dX12_passes_52 ?_
        refine kv (v := .int x_10) (congrArg Value.int (ex_10)) ?_
        refine lv_icmp_ne (tgt := 60) hx hb dX12_passes_53 (by decide) (fun c_13 => ?_) (fun c_13 => ?_)
        · refine lv_iconst (v := 0) hx hb dX12_passes_60 (by decide) ?_
          refine lv_istore_n (lv' := [(1, .int 0), (0, .ref m0)]) hx hb dX12_passes_61 rfl hl (by decide) rfl (fun ls hl => ?_)
          refine lv_iload_n hx hb dX12_passes_62 rfl (lv_at hl 0 rfl) ?_
          refine lv_if_ne (tgt := 68) hx hb dX12_passes_63 (by decide) (fun c_14 => absurd c_14 (by decide)) (fun c_14 => ?_)
          refine lv_iconst (v := 1) hx hb dX12_passes_66 (by decide) ?_
          exact ct_iret hx hb hr hlk rfl hS hP hD (1, v11_0) rfl ⟨(show u11 ≤ v11_0 from (by first | assumption | omega)), (show v11_0 ≤ u6 from (by first | assumption | omega)), (by exact Or.inl (⟨rfl, (show v11_0 < u6 from (by first | assumption | omega))⟩))⟩ [0, 1, 2] rfl (by decide) trivial (Nat.le_of_ble_eq_true rfl) (Nat.le_of_ble_eq_true rfl) dX12_passes_67
        · refine lv_iconst (v := 1) hx hb dX12_passes_56 (by decide) ?_
          refine lv_goto (tgt := 61) hx hb dX12_passes_57 (by decide) ?_
          refine lv_istore_n (lv' := [(1, .int 1), (0, .ref m0)]) hx hb dX12_passes_61 rfl hl (by decide) rfl (fun ls hl => ?_)
          refine lv_iload_n hx hb dX12_passes_62 rfl (lv_at hl 0 rfl) ?_
          refine lv_if_ne (tgt := 68) hx hb dX12_passes_63 (by decide) (fun c_15 => ?_) (fun c_15 => absurd c_15 (by decide))
          refine loop_dn (fun k9 H locs ls => ∃ (v11_68 : Nat), (v11_0 ≤ v11_68) ∧ (v11_68 ≤ u6) ∧ u6 - v11_68 = k9 ∧ va_P D vwCl [(m0, .inr (12, [.ref a0, .ref a1, .ref a2, .int (nI u3), .int f4, .ref a5, .int (nI u6), .int f7, .int f8, .int f9, .int f10, .int (nI v11_68), .int (nI u12), .int (nI u13), .ref a14, .ref a15, .ref a16, .ref a17, .int f18, .int f19, .ref a20, .ref a21, .int (nI u22), .ref a23, .ref a24, .ref a25, .int (nI u26), .int f27, .ref a28, .int (nI u29)])), (a0, .inl (κ 0, 21375, .inl w)), (a5, .inl (κ 0, 800, .inl tp))] H ∧ va_D A [(m0, .inr (12, [.ref a0, .ref a1, .ref a2, .int (nI u3), .int f4, .ref a5, .int (nI u6), .int f7, .int f8, .int f9, .int f10, .int (nI v11_68), .int (nI u12), .int (nI u13), .ref a14, .ref a15, .ref a16, .ref a17, .int f18, .int f19, .ref a20, .ref a21, .int (nI u22), .ref a23, .ref a24, .ref a25, .int (nI u26), .int f27, .ref a28, .int (nI u29)])), (a0, .inl (κ 0, 21375, .inl w)), (a5, .inl (κ 0, 800, .inl tp))] ∧ va_S A s.heap H locs ∧ lv_has ls 2 [(1, .int 1), (0, .ref m0)]) (fun k9 H locs ls hI68 ih68 => ?_) (u6 - v11_0) _ _ _ ⟨v11_0, (by omega), (by omega), rfl, hP, hD, hS, lv_sub hl [0, 1] rfl⟩
          obtain ⟨v11_68, hl68_0, hl68_1, hm68, hP, hD, hS, hl⟩ := hI68
          refine lv_aload_n hx hb dX12_passes_68 rfl (lv_at hl 1 rfl) ?_
          refine va_get (D := D) (ci := 12) (v := .int (nI v11_68)) (C := RX12) (T := TX12) (N := 30) hx hb hts inlX12 hown hK hP 0 rfl rfl 11 (by decide) (hts _ mw_423) (fun _ h9 => h9) rfl dX12_passes_69 ?_
          refine lv_aload_n hx hb dX12_passes_72 rfl (lv_at hl 1 rfl) ?_
          refine va_get (D := D) (ci := 12) (v := .int (nI u6)) (C := RX12) (T := TX12) (N := 30) hx hb hts inlX12 hown hK hP 0 rfl rfl 6 (by decide) (hts _ mw_236) (fun _ h9 => h9) rfl dX12_passes_73 ?_
          refine lv_icmp_ge (tgt := 106) hx hb dX12_passes_76 (by decide) (fun c_16 => ?_) (fun c_16 => ?_)
          · have nc_16 := cv_le (a := u6) (b := v11_68) (by omega) (by omega) c_16
            refine lv_aload_n hx hb dX12_passes_106 rfl (lv_at hl 1 rfl) ?_
            refine va_get (D := D) (ci := 12) (v := .int (nI v11_68)) (C := RX12) (T := TX12) (N := 30) hx hb hts inlX12 hown hK hP 0 rfl rfl 11 (by decide) (hts _ mw_423) (fun _ h9 => h9) rfl dX12_passes_107 ?_
            refine lv_aload_n hx hb dX12_passes_110 rfl (lv_at hl 1 rfl) ?_
            refine va_get (D := D) (ci := 12) (v := .int (nI u6)) (C := RX12) (T := TX12) (N := 30) hx hb hts inlX12 hown hK hP 0 rfl rfl 6 (by decide) (hts _ mw_236) (fun _ h9 => h9) rfl dX12_passes_111 ?_
            refine lv_icmp_ge (tgt := 127) hx hb dX12_passes_114 (by decide) (fun c_17 => ?_) (fun c_17 => absurd c_16 c_17)
            refine lv_goto (tgt := 0) hx hb dX12_passes_127 (by decide) ?_
            exact ih0 _ _ _ _ (by omega) ⟨v11_68, (by omega), (by omega), rfl, hP, hD, hS, lv_sub hl [1] rfl⟩
          · have nc_16 := cv_nle (a := u6) (b := v11_68) (by omega) (by omega) c_16
            refine lv_aload_n hx hb dX12_passes_79 rfl (lv_at hl 1 rfl) ?_
            refine va_get (D := D) (ci := 12) (v := .ref a5) (C := RX12) (T := TX12) (N := 30) hx hb hts inlX12 hown hK hP 0 rfl rfl 5 (by decide) (hts _ mw_191) (fun _ h9 => h9) rfl dX12_passes_80 ?_
            refine lv_aload_n hx hb dX12_passes_83 rfl (lv_at hl 1 rfl) ?_
            refine va_get (D := D) (ci := 12) (v := .int (nI v11_68)) (C := RX12) (T := TX12) (N := 30) hx hb hts inlX12 hown hK hP 0 rfl rfl 11 (by decide) (hts _ mw_423) (fun _ h9 => h9) rfl dX12_passes_84 ?_
            refine va_iald hx hb hK hP 2 0 rfl rfl (i := nI v11_68) (vp_in_nI (n := v11_68) (by omega) (by omega)) dX12_passes_87 ?_
            refine kv (v := .int (tp v11_68)) (by rw [nI_clamp (by omega)]) ?_
            obtain ⟨x_18, ex_18⟩ : ∃ y9 : Int32, tp v11_68 = y9 := ⟨_, rfl⟩
            refine kv (v := .int x_18) (congrArg Value.int ex_18) ?_
            refine lv_bipush (v := 10) hx hb dX12_passes_88 (by decide) ?_
            refine lv_icmp_eq (tgt := 106) hx hb dX12_passes_90 (by decide) (fun c_19 => ?_) (fun c_19 => ?_)
            · refine lv_aload_n hx hb dX12_passes_106 rfl (lv_at hl 1 rfl) ?_
              refine va_get (D := D) (ci := 12) (v := .int (nI v11_68)) (C := RX12) (T := TX12) (N := 30) hx hb hts inlX12 hown hK hP 0 rfl rfl 11 (by decide) (hts _ mw_423) (fun _ h9 => h9) rfl dX12_passes_107 ?_
              refine lv_aload_n hx hb dX12_passes_110 rfl (lv_at hl 1 rfl) ?_
              refine va_get (D := D) (ci := 12) (v := .int (nI u6)) (C := RX12) (T := TX12) (N := 30) hx hb hts inlX12 hown hK hP 0 rfl rfl 6 (by decide) (hts _ mw_236) (fun _ h9 => h9) rfl dX12_passes_111 ?_
              refine lv_icmp_ge (tgt := 127) hx hb dX12_passes_114 (by decide) (fun c_20 => absurd c_20 c_16) (fun c_20 => ?_)
              refine lv_aload_n hx hb dX12_passes_117 rfl (lv_at hl 1 rfl) ?_
              refine lv_dup hx hb dX12_passes_118 rfl ?_
              refine va_get (D := D) (ci := 12) (v := .int (nI v11_68)) (C := RX12) (T := TX12) (N := 30) hx hb hts inlX12 hown hK hP 0 rfl rfl 11 (by decide) (hts _ mw_423) (fun _ h9 => h9) rfl dX12_passes_119 ?_
              refine lv_iconst (v := 1) hx hb dX12_passes_122 (by decide) ?_
              refine lv_iadd hx hb dX12_passes_123 ?_
              refine ki (v := (nI (v11_68 + 1))) (nI_add v11_68 1) ?_
              refine va_put (D := D) (ci := 12) (v := .int (nI (v11_68 + 1))) (ty := tyX12 11) (C := RX12) (T := TX12) (N := 30) hx hb hts inlX12 tyX12 tyX12_ok nmX12 hown hK hP hD hS 0 rfl rfl 11 (by decide) (hts _ mw_423) (fun _ h9 => h9) rfl (tyX12_ok 11 (by decide)) rfl rfl (Nat.le_of_ble_eq_true rfl) dX12_passes_124 (fun H locs hP hD hS => ?_)
              have hP : va_P D vwCl [(m0, .inr (12, [.ref a0, .ref a1, .ref a2, .int (nI u3), .int f4, .ref a5, .int (nI u6), .int f7, .int f8, .int f9, .int f10, .int (nI (v11_68 + 1)), .int (nI u12), .int (nI u13), .ref a14, .ref a15, .ref a16, .ref a17, .int f18, .int f19, .ref a20, .ref a21, .int (nI u22), .ref a23, .ref a24, .ref a25, .int (nI u26), .int f27, .ref a28, .int (nI u29)])), (a0, .inl (κ 0, 21375, .inl w)), (a5, .inl (κ 0, 800, .inl tp))] H := hP
              have hD : va_D A [(m0, .inr (12, [.ref a0, .ref a1, .ref a2, .int (nI u3), .int f4, .ref a5, .int (nI u6), .int f7, .int f8, .int f9, .int f10, .int (nI (v11_68 + 1)), .int (nI u12), .int (nI u13), .ref a14, .ref a15, .ref a16, .ref a17, .int f18, .int f19, .ref a20, .ref a21, .int (nI u22), .ref a23, .ref a24, .ref a25, .int (nI u26), .int f27, .ref a28, .int (nI u29)])), (a0, .inl (κ 0, 21375, .inl w)), (a5, .inl (κ 0, 800, .inl tp))] := hD
              refine lv_goto (tgt := 0) hx hb dX12_passes_127 (by decide) ?_
              exact ih0 _ _ _ _ (by omega) ⟨(v11_68 + 1), (by omega), (by omega), rfl, hP, hD, hS, lv_sub hl [1] rfl⟩
            · refine lv_aload_n hx hb dX12_passes_93 rfl (lv_at hl 1 rfl) ?_
              refine lv_dup hx hb dX12_passes_94 rfl ?_
              refine va_get (D := D) (ci := 12) (v := .int (nI v11_68)) (C := RX12) (T := TX12) (N := 30) hx hb hts inlX12 hown hK hP 0 rfl rfl 11 (by decide) (hts _ mw_423) (fun _ h9 => h9) rfl dX12_passes_95 ?_
              refine lv_iconst (v := 1) hx hb dX12_passes_98 (by decide) ?_
              refine lv_iadd hx hb dX12_passes_99 ?_
              refine ki (v := (nI (v11_68 + 1))) (nI_add v11_68 1) ?_
              refine va_put (D := D) (ci := 12) (v := .int (nI (v11_68 + 1))) (ty := tyX12 11) (C := RX12) (T := TX12) (N := 30) hx hb hts inlX12 tyX12 tyX12_ok nmX12 hown hK hP hD hS 0 rfl rfl 11 (by decide) (hts _ mw_423) (fun _ h9 => h9) rfl (tyX12_ok 11 (by decide)) rfl rfl (Nat.le_of_ble_eq_true rfl) dX12_passes_100 (fun H locs hP hD hS => ?_)
              have hP : va_P D vwCl [(m0, .inr (12, [.ref a0, .ref a1, .ref a2, .int (nI u3), .int f4, .ref a5, .int (nI u6), .int f7, .int f8, .int f9, .int f10, .int (nI (v11_68 + 1)), .int (nI u12), .int (nI u13), .ref a14, .ref a15, .ref a16, .ref a17, .int f18, .int f19, .ref a20, .ref a21, .int (nI u22), .ref a23, .ref a24, .ref a25, .int (nI u26), .int f27, .ref a28, .int (nI u29)])), (a0, .inl (κ 0, 21375, .inl w)), (a5, .inl (κ 0, 800, .inl tp))] H := hP
              have hD : va_D A [(m0, .inr (12, [.ref a0, .ref a1, .ref a2, .int (nI u3), .int f4, .ref a5, .int (nI u6), .int f7, .int f8, .int f9, .int f10, .int (nI (v11_68 + 1)), .int (nI u12), .int (nI u13), .ref a14, .ref a15, .ref a16, .ref a17, .int f18, .int f19, .ref a20, .ref a21, .int (nI u22), .ref a23, .ref a24, .ref a25, .int (nI u26), .int f27, .ref a28, .int (nI u29)])), (a0, .inl (κ 0, 21375, .inl w)), (a5, .inl (κ 0, 800, .inl tp))] := hD
              refine lv_goto (tgt := 68) hx hb dX12_passes_103 (by decide) ?_
              exact ih68 _ _ _ _ (by omega) ⟨(v11_68 + 1), (by omega), (by omega), rfl, hP, hD, hS, lv_sub hl [0, 1] rfl⟩
set_option maxHeartbeats 4000000 in
set_option maxRecDepth 100000 in
theorem s_X12_readsLine (l : Launch) (D : va_G) (κ : Nat → ClassId) (m0 : Nat) (a0 : Nat) (a1 : Nat) (a2 : Nat) (u3 : Nat) (f4 : Int32) (a5 : Nat) (u6 : Nat) (f7 : Int32) (f8 : Int32) (f9 : Int32) (f10 : Int32) (u11 : Nat) (u12 : Nat) (u13 : Nat) (a14 : Nat) (a15 : Nat) (a16 : Nat) (a17 : Nat) (f18 : Int32) (f19 : Int32) (a20 : Nat) (a21 : Nat) (u22 : Nat) (a23 : Nat) (a24 : Nat) (a25 : Nat) (u26 : Nat) (f27 : Int32) (a28 : Nat) (u29 : Nat) (w : Nat → Int32) (tp : Nat → Int32) (fd : Nat → Int32) (fa : Nat → Int32) (pt : Nat → Int32) (h6 : u6 ≤ 800) (h8 : PF f8) (h13 : u13 ≤ 800) (h_a0 : Pw w) (h_a14 : Pfd fd) (h_a15 : Pb 9 800 fa) (h_a16 : Pb 9 800 pt) (h11 : u11 ≤ u6) : Ct l yX12_readsLine (wl yX12_readsLine cX12_readsLine 1 (some .boolean)) { frames := 4, cells := 0, slots := 0, locals := 91 } D κ [.ref m0] [(m0, .inr (12, [.ref a0, .ref a1, .ref a2, .int (nI u3), .int f4, .ref a5, .int (nI u6), .int f7, .int f8, .int f9, .int f10, .int (nI u11), .int (nI u12), .int (nI u13), .ref a14, .ref a15, .ref a16, .ref a17, .int f18, .int f19, .ref a20, .ref a21, .int (nI u22), .ref a23, .ref a24, .ref a25, .int (nI u26), .int f27, .ref a28, .int (nI u29)])), (a0, .inl (κ 0, 21375, .inl w)), (a5, .inl (κ 0, 800, .inl tp)), (a14, .inl (κ 0, 189, .inl fd)), (a15, .inl (κ 0, 9, .inl fa)), (a16, .inl (κ 0, 9, .inl pt))] (fun _ => True) (fun u9 : Int32 × Int32 × Int32 × Int32 × Nat × Nat × Nat × (Nat → Int32) × (Nat → Int32) × (Nat → Int32) => some (.int u9.1)) (fun u9 : Int32 × Int32 × Int32 × Int32 × Nat × Nat × Nat × (Nat → Int32) × (Nat → Int32) × (Nat → Int32) => PF u9.2.2.1 ∧ u9.2.2.2.2.2.1 ≤ 8 ∧ u9.2.2.2.2.2.2.1 ≤ 800 ∧ Pfd u9.2.2.2.2.2.2.2.1 ∧ Pb 9 800 u9.2.2.2.2.2.2.2.2.1 ∧ Pb 9 800 u9.2.2.2.2.2.2.2.2.2 ∧ u11 ≤ u9.2.2.2.2.1 ∧ u9.2.2.2.2.1 ≤ u6 ∧ ((u9.1 = 1 ∧ 1 ≤ u9.2.2.2.2.2.1) ∨ (u9.1 = 0))) (fun u9 : Int32 × Int32 × Int32 × Int32 × Nat × Nat × Nat × (Nat → Int32) × (Nat → Int32) × (Nat → Int32) => [(m0, .inr (12, [.ref a0, .ref a1, .ref a2, .int (nI u3), .int f4, .ref a5, .int (nI u6), .int u9.2.1, .int u9.2.2.1, .int u9.2.2.2.1, .int f10, .int (nI u9.2.2.2.2.1), .int (nI u9.2.2.2.2.2.1), .int (nI u9.2.2.2.2.2.2.1), .ref a14, .ref a15, .ref a16, .ref a17, .int f18, .int f19, .ref a20, .ref a21, .int (nI u22), .ref a23, .ref a24, .ref a25, .int (nI u26), .int f27, .ref a28, .int (nI u29)])), (a0, .inl (κ 0, 21375, .inl w)), (a5, .inl (κ 0, 800, .inl tp)), (a14, .inl (κ 0, 189, .inl u9.2.2.2.2.2.2.2.1)), (a15, .inl (κ 0, 9, .inl u9.2.2.2.2.2.2.2.2.1)), (a16, .inl (κ 0, 9, .inl u9.2.2.2.2.2.2.2.2.2))]) (fun _ _ => True) := by
  refine ct_of (by decide +kernel) (Nat.le_of_ble_eq_true rfl) ?_
  intro p e s m args below meth c A ls hx hb hr hml hts hown hlk hin hKK hK hA hP hD hS hI hl
  have hS : va_S A s.heap s.heap [] := hS
  have hFX : FX p s m args c cX12_readsLine 1 RX12 := ⟨hx, hb, hml, hown, hts⟩
  have hl : lv_has ls 1 [(0, .ref m0)] := hl
  refine lv_aload_n hx hb dX12_readsLine_0 rfl (lv_at hl 0 rfl) ?_
  refine lv_iconst (v := 0) hx hb dX12_readsLine_1 (by decide) ?_
  refine va_put (D := D) (ci := 12) (v := .int 0) (ty := tyX12 12) (C := RX12) (T := TX12) (N := 30) hx hb hts inlX12 tyX12 tyX12_ok nmX12 hown hK hP hD hS 0 rfl rfl 12 (by decide) (hts _ mw_446) (fun _ h9 => h9) rfl (tyX12_ok 12 (by decide)) rfl rfl (Nat.le_of_ble_eq_true rfl) dX12_readsLine_2 (fun H locs hP hD hS => ?_)
  have hP : va_P D vwCl [(m0, .inr (12, [.ref a0, .ref a1, .ref a2, .int (nI u3), .int f4, .ref a5, .int (nI u6), .int f7, .int f8, .int f9, .int f10, .int (nI u11), .int 0, .int (nI u13), .ref a14, .ref a15, .ref a16, .ref a17, .int f18, .int f19, .ref a20, .ref a21, .int (nI u22), .ref a23, .ref a24, .ref a25, .int (nI u26), .int f27, .ref a28, .int (nI u29)])), (a0, .inl (κ 0, 21375, .inl w)), (a5, .inl (κ 0, 800, .inl tp)), (a14, .inl (κ 0, 189, .inl fd)), (a15, .inl (κ 0, 9, .inl fa)), (a16, .inl (κ 0, 9, .inl pt))] H := hP
  have hD : va_D A [(m0, .inr (12, [.ref a0, .ref a1, .ref a2, .int (nI u3), .int f4, .ref a5, .int (nI u6), .int f7, .int f8, .int f9, .int f10, .int (nI u11), .int 0, .int (nI u13), .ref a14, .ref a15, .ref a16, .ref a17, .int f18, .int f19, .ref a20, .ref a21, .int (nI u22), .ref a23, .ref a24, .ref a25, .int (nI u26), .int f27, .ref a28, .int (nI u29)])), (a0, .inl (κ 0, 21375, .inl w)), (a5, .inl (κ 0, 800, .inl tp)), (a14, .inl (κ 0, 189, .inl fd)), (a15, .inl (κ 0, 9, .inl fa)), (a16, .inl (κ 0, 9, .inl pt))] := hD
  refine loop_dn (fun k9 H locs ls => ∃ (v7_5 : Int32), ∃ (v8_5 : Int32), ∃ (v9_5 : Int32), ∃ (v11_5 : Nat), ∃ (v12_5 : Nat), ∃ (ga14_5 : Nat → Int32), ∃ (ga15_5 : Nat → Int32), ∃ (ga16_5 : Nat → Int32), (u11 ≤ v11_5) ∧ (v11_5 ≤ u6) ∧ (v12_5 ≤ 7) ∧ (PF v8_5) ∧ Pfd ga14_5 ∧ Pb 9 800 ga15_5 ∧ Pb 9 800 ga16_5 ∧ u6 - v11_5 = k9 ∧ va_P D vwCl [(m0, .inr (12, [.ref a0, .ref a1, .ref a2, .int (nI u3), .int f4, .ref a5, .int (nI u6), .int v7_5, .int v8_5, .int v9_5, .int f10, .int (nI v11_5), .int (nI v12_5), .int (nI u13), .ref a14, .ref a15, .ref a16, .ref a17, .int f18, .int f19, .ref a20, .ref a21, .int (nI u22), .ref a23, .ref a24, .ref a25, .int (nI u26), .int f27, .ref a28, .int (nI u29)])), (a0, .inl (κ 0, 21375, .inl w)), (a5, .inl (κ 0, 800, .inl tp)), (a14, .inl (κ 0, 189, .inl ga14_5)), (a15, .inl (κ 0, 9, .inl ga15_5)), (a16, .inl (κ 0, 9, .inl ga16_5))] H ∧ va_D A [(m0, .inr (12, [.ref a0, .ref a1, .ref a2, .int (nI u3), .int f4, .ref a5, .int (nI u6), .int v7_5, .int v8_5, .int v9_5, .int f10, .int (nI v11_5), .int (nI v12_5), .int (nI u13), .ref a14, .ref a15, .ref a16, .ref a17, .int f18, .int f19, .ref a20, .ref a21, .int (nI u22), .ref a23, .ref a24, .ref a25, .int (nI u26), .int f27, .ref a28, .int (nI u29)])), (a0, .inl (κ 0, 21375, .inl w)), (a5, .inl (κ 0, 800, .inl tp)), (a14, .inl (κ 0, 189, .inl ga14_5)), (a15, .inl (κ 0, 9, .inl ga15_5)), (a16, .inl (κ 0, 9, .inl ga16_5))] ∧ va_S A s.heap H locs ∧ lv_has ls 1 [(0, .ref m0)]) (fun k9 H locs ls hI5 ih5 => ?_) (u6 - u11) _ _ _ ⟨f7, f8, f9, u11, 0, fd, fa, pt, (by omega), (by omega), (by omega), (by assumption), h_a14, h_a15, h_a16, rfl, hP, hD, hS, lv_sub hl [0] rfl⟩
  obtain ⟨v7_5, v8_5, v9_5, v11_5, v12_5, ga14_5, ga15_5, ga16_5, hl5_0, hl5_1, hl5_2, hl5_3, hg5_0, hg5_1, hg5_2, hm5, hP, hD, hS, hl⟩ := hI5
  refine lv_aload_n hx hb dX12_readsLine_5 rfl (lv_at hl 0 rfl) ?_
  refine lv_aload_n hx hb dX12_readsLine_6 rfl (lv_at hl 0 rfl) ?_
  refine va_get (D := D) (ci := 12) (v := .int (nI v12_5)) (C := RX12) (T := TX12) (N := 30) hx hb hts inlX12 hown hK hP 0 rfl rfl 12 (by decide) (hts _ mw_446) (fun _ h9 => h9) rfl dX12_readsLine_7 ?_
  refine ct_V (wr := [(a16, .inl (κ 0, 9, .inl ga16_5))]) (As := [.int (nI v12_5)]) (rest := []) hFX hKK hP hD hS hA (s_X12_reads l D κ m0 a0 a1 a2 u3 f4 a5 u6 v7_5 v8_5 v9_5 f10 v11_5 v12_5 u13 a14 a15 a16 a17 f18 f19 a20 a21 u22 a23 a24 a25 u26 f27 a28 u29 w tp ga14_5 ga15_5 v12_5 (by omega) (by assumption) h_a0 hg5_0 hg5_1 (by omega) (by omega)) 1 gV_X12_232 hdV_X12_reads ⟨Nat.le_of_ble_eq_true rfl, Nat.le_of_ble_eq_true rfl⟩ rfl rfl (Nat.le_of_ble_eq_true rfl) dX12_readsLine_10 ⟨Nat.le_of_ble_eq_true rfl, Nat.le_of_ble_eq_true rfl⟩ hl.1 [0, 1, 2, 3, 4] [5] rfl rfl (by decide) (by decide) (by decide) 0 12 rfl rfl rfl trivial (fun u_8 H locs hp_9 _ hP hD hS hz_ hk_ => ?_)
  obtain ⟨r__1, y7__2, y8__3, y9__4, y11__5, g_a14__6, g_a15__7⟩ := u_8
  replace hP : va_P D vwCl [(m0, .inr (12, [.ref a0, .ref a1, .ref a2, .int (nI u3), .int f4, .ref a5, .int (nI u6), .int y7__2, .int y8__3, .int y9__4, .int f10, .int (nI y11__5), .int (nI v12_5), .int (nI u13), .ref a14, .ref a15, .ref a16, .ref a17, .int f18, .int f19, .ref a20, .ref a21, .int (nI u22), .ref a23, .ref a24, .ref a25, .int (nI u26), .int f27, .ref a28, .int (nI u29)])), (a0, .inl (κ 0, 21375, .inl w)), (a5, .inl (κ 0, 800, .inl tp)), (a14, .inl (κ 0, 189, .inl g_a14__6)), (a15, .inl (κ 0, 9, .inl g_a15__7)), (a16, .inl (κ 0, 9, .inl ga16_5))] H := hP.sub [1, 2, 3, 4, 5, 0] rfl
  replace hD : va_D A [(m0, .inr (12, [.ref a0, .ref a1, .ref a2, .int (nI u3), .int f4, .ref a5, .int (nI u6), .int y7__2, .int y8__3, .int y9__4, .int f10, .int (nI y11__5), .int (nI v12_5), .int (nI u13), .ref a14, .ref a15, .ref a16, .ref a17, .int f18, .int f19, .ref a20, .ref a21, .int (nI u22), .ref a23, .ref a24, .ref a25, .int (nI u26), .int f27, .ref a28, .int (nI u29)])), (a0, .inl (κ 0, 21375, .inl w)), (a5, .inl (κ 0, 800, .inl tp)), (a14, .inl (κ 0, 189, .inl g_a14__6)), (a15, .inl (κ 0, 9, .inl g_a15__7)), (a16, .inl (κ 0, 9, .inl ga16_5))] := hD.sub [1, 2, 3, 4, 5, 0] (by decide) rfl
  replace hp_9 : PF y8__3 ∧ Pfd g_a14__6 ∧ Pb 9 800 g_a15__7 ∧ v11_5 ≤ y11__5 ∧ y11__5 ≤ u6 ∧ ((r__1 = 1) ∨ (r__1 = 0)) := hp_9
  obtain ⟨h_10, h_11, h_12, h_13, h_14, ha_15⟩ := hp_9
  rcases ha_15 with rfl | rfl
  · refine W.eq (g2 := F0 m 13 ls [.int 1]) rfl ?_
    refine lv_if_ne (tgt := 18) hx hb dX12_readsLine_13 (by decide) (fun c_16 => ?_) (fun c_16 => absurd c_16 (by decide))
    refine lv_aload_n hx hb dX12_readsLine_18 rfl (lv_at hl 0 rfl) ?_
    refine lv_dup hx hb dX12_readsLine_19 rfl ?_
    refine va_get (D := D) (ci := 12) (v := .int (nI v12_5)) (C := RX12) (T := TX12) (N := 30) hx hb hts inlX12 hown hK hP 0 rfl rfl 12 (by decide) (hts _ mw_446) (fun _ h9 => h9) rfl dX12_readsLine_20 ?_
    refine lv_iconst (v := 1) hx hb dX12_readsLine_23 (by decide) ?_
    refine lv_iadd hx hb dX12_readsLine_24 ?_
    refine ki (v := (nI (v12_5 + 1))) (nI_add v12_5 1) ?_
    refine va_put (D := D) (ci := 12) (v := .int (nI (v12_5 + 1))) (ty := tyX12 12) (C := RX12) (T := TX12) (N := 30) hx hb hts inlX12 tyX12 tyX12_ok nmX12 hown hK hP hD hS 0 rfl rfl 12 (by decide) (hts _ mw_446) (fun _ h9 => h9) rfl (tyX12_ok 12 (by decide)) rfl rfl (Nat.le_of_ble_eq_true rfl) dX12_readsLine_25 (fun H locs hP hD hS => ?_)
    have hP : va_P D vwCl [(m0, .inr (12, [.ref a0, .ref a1, .ref a2, .int (nI u3), .int f4, .ref a5, .int (nI u6), .int y7__2, .int y8__3, .int y9__4, .int f10, .int (nI y11__5), .int (nI (v12_5 + 1)), .int (nI u13), .ref a14, .ref a15, .ref a16, .ref a17, .int f18, .int f19, .ref a20, .ref a21, .int (nI u22), .ref a23, .ref a24, .ref a25, .int (nI u26), .int f27, .ref a28, .int (nI u29)])), (a0, .inl (κ 0, 21375, .inl w)), (a5, .inl (κ 0, 800, .inl tp)), (a14, .inl (κ 0, 189, .inl g_a14__6)), (a15, .inl (κ 0, 9, .inl g_a15__7)), (a16, .inl (κ 0, 9, .inl ga16_5))] H := hP
    have hD : va_D A [(m0, .inr (12, [.ref a0, .ref a1, .ref a2, .int (nI u3), .int f4, .ref a5, .int (nI u6), .int y7__2, .int y8__3, .int y9__4, .int f10, .int (nI y11__5), .int (nI (v12_5 + 1)), .int (nI u13), .ref a14, .ref a15, .ref a16, .ref a17, .int f18, .int f19, .ref a20, .ref a21, .int (nI u22), .ref a23, .ref a24, .ref a25, .int (nI u26), .int f27, .ref a28, .int (nI u29)])), (a0, .inl (κ 0, 21375, .inl w)), (a5, .inl (κ 0, 800, .inl tp)), (a14, .inl (κ 0, 189, .inl g_a14__6)), (a15, .inl (κ 0, 9, .inl g_a15__7)), (a16, .inl (κ 0, 9, .inl ga16_5))] := hD
    refine lv_aload_n hx hb dX12_readsLine_28 rfl (lv_at hl 0 rfl) ?_
    refine cr_V (As := []) (rest := []) hFX hKK (s_X12_isEnd l D κ m0 a0 a1 a2 u3 f4 a5 u6 y7__2 y8__3 y9__4 f10 y11__5 (v12_5 + 1) u13 a14 a15 a16 a17 f18 f19 a20 a21 u22 a23 a24 a25 u26 f27 a28 u29 tp (by omega) (by omega)) 0 gV_X12_198 hdV_X12_isEnd rfl rfl ⟨Nat.le_of_ble_eq_true rfl, Nat.le_of_ble_eq_true rfl⟩ rfl rfl (Nat.le_of_ble_eq_true rfl) dX12_readsLine_29 ⟨Nat.le_of_ble_eq_true rfl, Nat.le_of_ble_eq_true rfl⟩ hl.1 hP 0 12 rfl rfl rfl (hP.sub [0, 2] rfl) (fun r__17 hp_18 => ?_)
    replace hp_18 : ((r__17 = 1) ∨ (r__17 = 0 ∧ y11__5 < u6)) := hp_18
    have ha_19 := hp_18
    clear hp_18
    rcases ha_19 with rfl | ⟨rfl, a_20⟩
    · refine W.eq (g2 := F0 m 32 ls [.int 1]) rfl ?_
      refine lv_if_eq (tgt := 38) hx hb dX12_readsLine_32 (by decide) (fun c_21 => absurd c_21 (by decide)) (fun c_21 => ?_)
      refine lv_goto (tgt := 85) hx hb dX12_readsLine_35 (by decide) ?_
      refine lv_aload_n hx hb dX12_readsLine_85 rfl (lv_at hl 0 rfl) ?_
      refine lv_aload_n hx hb dX12_readsLine_86 rfl (lv_at hl 0 rfl) ?_
      refine va_get (D := D) (ci := 12) (v := .int (nI y11__5)) (C := RX12) (T := TX12) (N := 30) hx hb hts inlX12 hown hK hP 0 rfl rfl 11 (by decide) (hts _ mw_423) (fun _ h9 => h9) rfl dX12_readsLine_87 ?_
      refine va_put (D := D) (ci := 12) (v := .int (nI y11__5)) (ty := tyX12 13) (C := RX12) (T := TX12) (N := 30) hx hb hts inlX12 tyX12 tyX12_ok nmX12 hown hK hP hD hS 0 rfl rfl 13 (by decide) (hts _ mw_447) (fun _ h9 => h9) rfl (tyX12_ok 13 (by decide)) rfl rfl (Nat.le_of_ble_eq_true rfl) dX12_readsLine_90 (fun H locs hP hD hS => ?_)
      have hP : va_P D vwCl [(m0, .inr (12, [.ref a0, .ref a1, .ref a2, .int (nI u3), .int f4, .ref a5, .int (nI u6), .int y7__2, .int y8__3, .int y9__4, .int f10, .int (nI y11__5), .int (nI (v12_5 + 1)), .int (nI y11__5), .ref a14, .ref a15, .ref a16, .ref a17, .int f18, .int f19, .ref a20, .ref a21, .int (nI u22), .ref a23, .ref a24, .ref a25, .int (nI u26), .int f27, .ref a28, .int (nI u29)])), (a0, .inl (κ 0, 21375, .inl w)), (a5, .inl (κ 0, 800, .inl tp)), (a14, .inl (κ 0, 189, .inl g_a14__6)), (a15, .inl (κ 0, 9, .inl g_a15__7)), (a16, .inl (κ 0, 9, .inl ga16_5))] H := hP
      have hD : va_D A [(m0, .inr (12, [.ref a0, .ref a1, .ref a2, .int (nI u3), .int f4, .ref a5, .int (nI u6), .int y7__2, .int y8__3, .int y9__4, .int f10, .int (nI y11__5), .int (nI (v12_5 + 1)), .int (nI y11__5), .ref a14, .ref a15, .ref a16, .ref a17, .int f18, .int f19, .ref a20, .ref a21, .int (nI u22), .ref a23, .ref a24, .ref a25, .int (nI u26), .int f27, .ref a28, .int (nI u29)])), (a0, .inl (κ 0, 21375, .inl w)), (a5, .inl (κ 0, 800, .inl tp)), (a14, .inl (κ 0, 189, .inl g_a14__6)), (a15, .inl (κ 0, 9, .inl g_a15__7)), (a16, .inl (κ 0, 9, .inl ga16_5))] := hD
      refine lv_iconst (v := 1) hx hb dX12_readsLine_93 (by decide) ?_
      exact ct_iret hx hb hr hlk rfl hS hP hD (1, y7__2, y8__3, y9__4, y11__5, v12_5 + 1, y11__5, g_a14__6, g_a15__7, ga16_5) rfl ⟨(show PF y8__3 from (by assumption)), (show (v12_5 + 1) ≤ 8 from (by first | assumption | omega)), (show y11__5 ≤ 800 from (by first | assumption | omega)), (show Pfd g_a14__6 from (by first | assumption | omega)), (show Pb 9 800 g_a15__7 from (by first | assumption | omega)), (show Pb 9 800 ga16_5 from (by first | assumption | omega)), (show u11 ≤ y11__5 from (by first | assumption | omega)), (show y11__5 ≤ u6 from (by first | assumption | omega)), (by exact Or.inl (⟨rfl, (show 1 ≤ (v12_5 + 1) from (by first | assumption | omega))⟩))⟩ [0, 1, 2, 3, 4, 5] rfl (by decide) trivial (Nat.le_of_ble_eq_true rfl) (Nat.le_of_ble_eq_true rfl) dX12_readsLine_94
    · refine W.eq (g2 := F0 m 32 ls [.int 0]) rfl ?_
      refine lv_if_eq (tgt := 38) hx hb dX12_readsLine_32 (by decide) (fun c_22 => ?_) (fun c_22 => absurd (by decide) c_22)
      refine lv_aload_n hx hb dX12_readsLine_38 rfl (lv_at hl 0 rfl) ?_
      refine va_get (D := D) (ci := 12) (v := .int (nI (v12_5 + 1))) (C := RX12) (T := TX12) (N := 30) hx hb hts inlX12 hown hK hP 0 rfl rfl 12 (by decide) (hts _ mw_446) (fun _ h9 => h9) rfl dX12_readsLine_39 ?_
      refine lv_bipush (v := 8) hx hb dX12_readsLine_42 (by decide) ?_
      refine lv_icmp_ne (tgt := 59) hx hb dX12_readsLine_44 (by decide) (fun c_23 => ?_) (fun c_23 => ?_)
      · have nc_23 := cv_ne (a := (v12_5 + 1)) (b := 8) (by omega) (by omega) c_23
        refine lv_aload_n hx hb dX12_readsLine_59 rfl (lv_at hl 0 rfl) ?_
        refine va_get (D := D) (ci := 12) (v := .ref a16) (C := RX12) (T := TX12) (N := 30) hx hb hts inlX12 hown hK hP 0 rfl rfl 16 (by decide) (hts _ mw_196) (fun _ h9 => h9) rfl dX12_readsLine_60 ?_
        refine lv_aload_n hx hb dX12_readsLine_63 rfl (lv_at hl 0 rfl) ?_
        refine va_get (D := D) (ci := 12) (v := .int (nI (v12_5 + 1))) (C := RX12) (T := TX12) (N := 30) hx hb hts inlX12 hown hK hP 0 rfl rfl 12 (by decide) (hts _ mw_446) (fun _ h9 => h9) rfl dX12_readsLine_64 ?_
        refine lv_aload_n hx hb dX12_readsLine_67 rfl (lv_at hl 0 rfl) ?_
        refine va_get (D := D) (ci := 12) (v := .int (nI y11__5)) (C := RX12) (T := TX12) (N := 30) hx hb hts inlX12 hown hK hP 0 rfl rfl 11 (by decide) (hts _ mw_423) (fun _ h9 => h9) rfl dX12_readsLine_68 ?_
        refine va_iast hx hb hK hP hD hS 5 0 rfl rfl (i := nI (v12_5 + 1)) (x := nI y11__5) (vp_in_nI (n := (v12_5 + 1)) (by omega) (by omega)) dX12_readsLine_71 (fun H locs hP hD hS => ?_)
        rw [nI_clamp (by omega)] at hP hD
        have hP : va_P D vwCl [(m0, .inr (12, [.ref a0, .ref a1, .ref a2, .int (nI u3), .int f4, .ref a5, .int (nI u6), .int y7__2, .int y8__3, .int y9__4, .int f10, .int (nI y11__5), .int (nI (v12_5 + 1)), .int (nI u13), .ref a14, .ref a15, .ref a16, .ref a17, .int f18, .int f19, .ref a20, .ref a21, .int (nI u22), .ref a23, .ref a24, .ref a25, .int (nI u26), .int f27, .ref a28, .int (nI u29)])), (a0, .inl (κ 0, 21375, .inl w)), (a5, .inl (κ 0, 800, .inl tp)), (a14, .inl (κ 0, 189, .inl g_a14__6)), (a15, .inl (κ 0, 9, .inl g_a15__7)), (a16, .inl (κ 0, 9, .inl (upd ga16_5 (v12_5 + 1) (nI y11__5))))] H := hP
        have hD : va_D A [(m0, .inr (12, [.ref a0, .ref a1, .ref a2, .int (nI u3), .int f4, .ref a5, .int (nI u6), .int y7__2, .int y8__3, .int y9__4, .int f10, .int (nI y11__5), .int (nI (v12_5 + 1)), .int (nI u13), .ref a14, .ref a15, .ref a16, .ref a17, .int f18, .int f19, .ref a20, .ref a21, .int (nI u22), .ref a23, .ref a24, .ref a25, .int (nI u26), .int f27, .ref a28, .int (nI u29)])), (a0, .inl (κ 0, 21375, .inl w)), (a5, .inl (κ 0, 800, .inl tp)), (a14, .inl (κ 0, 189, .inl g_a14__6)), (a15, .inl (κ 0, 9, .inl g_a15__7)), (a16, .inl (κ 0, 9, .inl (upd ga16_5 (v12_5 + 1) (nI y11__5))))] := hD
        have hf_25 : Pb 9 800 (upd ga16_5 (v12_5 + 1) (nI y11__5)) := (Pb_upd hg5_2 (fun _ => ⟨y11__5, by omega, rfl⟩))
        generalize upd ga16_5 (v12_5 + 1) (nI y11__5) = g_24 at hP hD hf_25
        refine lv_aload_n hx hb dX12_readsLine_72 rfl (lv_at hl 0 rfl) ?_
        refine lv_dup hx hb dX12_readsLine_73 rfl ?_
        refine va_get (D := D) (ci := 12) (v := .int (nI y11__5)) (C := RX12) (T := TX12) (N := 30) hx hb hts inlX12 hown hK hP 0 rfl rfl 11 (by decide) (hts _ mw_423) (fun _ h9 => h9) rfl dX12_readsLine_74 ?_
        refine lv_iconst (v := 1) hx hb dX12_readsLine_77 (by decide) ?_
        refine lv_iadd hx hb dX12_readsLine_78 ?_
        refine ki (v := (nI (y11__5 + 1))) (nI_add y11__5 1) ?_
        refine va_put (D := D) (ci := 12) (v := .int (nI (y11__5 + 1))) (ty := tyX12 11) (C := RX12) (T := TX12) (N := 30) hx hb hts inlX12 tyX12 tyX12_ok nmX12 hown hK hP hD hS 0 rfl rfl 11 (by decide) (hts _ mw_423) (fun _ h9 => h9) rfl (tyX12_ok 11 (by decide)) rfl rfl (Nat.le_of_ble_eq_true rfl) dX12_readsLine_79 (fun H locs hP hD hS => ?_)
        have hP : va_P D vwCl [(m0, .inr (12, [.ref a0, .ref a1, .ref a2, .int (nI u3), .int f4, .ref a5, .int (nI u6), .int y7__2, .int y8__3, .int y9__4, .int f10, .int (nI (y11__5 + 1)), .int (nI (v12_5 + 1)), .int (nI u13), .ref a14, .ref a15, .ref a16, .ref a17, .int f18, .int f19, .ref a20, .ref a21, .int (nI u22), .ref a23, .ref a24, .ref a25, .int (nI u26), .int f27, .ref a28, .int (nI u29)])), (a0, .inl (κ 0, 21375, .inl w)), (a5, .inl (κ 0, 800, .inl tp)), (a14, .inl (κ 0, 189, .inl g_a14__6)), (a15, .inl (κ 0, 9, .inl g_a15__7)), (a16, .inl (κ 0, 9, .inl g_24))] H := hP
        have hD : va_D A [(m0, .inr (12, [.ref a0, .ref a1, .ref a2, .int (nI u3), .int f4, .ref a5, .int (nI u6), .int y7__2, .int y8__3, .int y9__4, .int f10, .int (nI (y11__5 + 1)), .int (nI (v12_5 + 1)), .int (nI u13), .ref a14, .ref a15, .ref a16, .ref a17, .int f18, .int f19, .ref a20, .ref a21, .int (nI u22), .ref a23, .ref a24, .ref a25, .int (nI u26), .int f27, .ref a28, .int (nI u29)])), (a0, .inl (κ 0, 21375, .inl w)), (a5, .inl (κ 0, 800, .inl tp)), (a14, .inl (κ 0, 189, .inl g_a14__6)), (a15, .inl (κ 0, 9, .inl g_a15__7)), (a16, .inl (κ 0, 9, .inl g_24))] := hD
        refine lv_goto (tgt := 5) hx hb dX12_readsLine_82 (by decide) ?_
        exact ih5 _ _ _ _ (by omega) ⟨y7__2, y8__3, y9__4, (y11__5 + 1), (v12_5 + 1), g_a14__6, g_a15__7, g_24, (by omega), (by omega), (by omega), (by assumption), h_11, h_12, hf_25, rfl, hP, hD, hS, lv_sub hl [0] rfl⟩
      · have nc_23 := cv_eq (a := (v12_5 + 1)) (b := 8) (by omega) (by omega) c_23
        refine lv_aload_n hx hb dX12_readsLine_47 rfl (lv_at hl 0 rfl) ?_
        refine lv_bipush (v := 6) hx hb dX12_readsLine_48 (by decide) ?_
        refine lv_aload_n hx hb dX12_readsLine_50 rfl (lv_at hl 0 rfl) ?_
        refine va_get (D := D) (ci := 12) (v := .int (nI y11__5)) (C := RX12) (T := TX12) (N := 30) hx hb hts inlX12 hown hK hP 0 rfl rfl 11 (by decide) (hts _ mw_423) (fun _ h9 => h9) rfl dX12_readsLine_51 ?_
        refine lv_iconst (v := (-1)) hx hb dX12_readsLine_54 (by decide) ?_
        refine ct_V (wr := [(a0, .inl (κ 0, 21375, .inl w)), (a5, .inl (κ 0, 800, .inl tp)), (a14, .inl (κ 0, 189, .inl g_a14__6)), (a15, .inl (κ 0, 9, .inl g_a15__7)), (a16, .inl (κ 0, 9, .inl ga16_5))]) (As := [.int 6, .int (nI y11__5), .int (-1)]) (rest := []) hFX hKK hP hD hS hA (s_X12_wrong l D κ m0 a0 a1 a2 u3 f4 a5 u6 y7__2 y8__3 y9__4 f10 y11__5 (v12_5 + 1) u13 a14 a15 a16 a17 f18 f19 a20 a21 u22 a23 a24 a25 u26 f27 a28 u29 6 (nI y11__5) (-1)) 3 gV_X12_210 hdV_X12_wrong ⟨Nat.le_of_ble_eq_true rfl, Nat.le_of_ble_eq_true rfl⟩ rfl rfl (Nat.le_of_ble_eq_true rfl) dX12_readsLine_55 ⟨Nat.le_of_ble_eq_true rfl, Nat.le_of_ble_eq_true rfl⟩ hl.1 [0] [1, 2, 3, 4, 5] rfl rfl (by decide) (by decide) (by decide) 0 12 rfl rfl rfl trivial (fun _ H locs hp_26 _ hP hD hS hz_ hk_ => ?_)
        replace hP : va_P D vwCl [(m0, .inr (12, [.ref a0, .ref a1, .ref a2, .int (nI u3), .int f4, .ref a5, .int (nI u6), .int 6, .int (nI y11__5), .int (-1), .int f10, .int (nI y11__5), .int (nI (v12_5 + 1)), .int (nI u13), .ref a14, .ref a15, .ref a16, .ref a17, .int f18, .int f19, .ref a20, .ref a21, .int (nI u22), .ref a23, .ref a24, .ref a25, .int (nI u26), .int f27, .ref a28, .int (nI u29)])), (a0, .inl (κ 0, 21375, .inl w)), (a5, .inl (κ 0, 800, .inl tp)), (a14, .inl (κ 0, 189, .inl g_a14__6)), (a15, .inl (κ 0, 9, .inl g_a15__7)), (a16, .inl (κ 0, 9, .inl ga16_5))] H := hP.sub [5, 0, 1, 2, 3, 4] rfl
        replace hD : va_D A [(m0, .inr (12, [.ref a0, .ref a1, .ref a2, .int (nI u3), .int f4, .ref a5, .int (nI u6), .int 6, .int (nI y11__5), .int (-1), .int f10, .int (nI y11__5), .int (nI (v12_5 + 1)), .int (nI u13), .ref a14, .ref a15, .ref a16, .ref a17, .int f18, .int f19, .ref a20, .ref a21, .int (nI u22), .ref a23, .ref a24, .ref a25, .int (nI u26), .int f27, .ref a28, .int (nI u29)])), (a0, .inl (κ 0, 21375, .inl w)), (a5, .inl (κ 0, 800, .inl tp)), (a14, .inl (κ 0, 189, .inl g_a14__6)), (a15, .inl (κ 0, 9, .inl g_a15__7)), (a16, .inl (κ 0, 9, .inl ga16_5))] := hD.sub [5, 0, 1, 2, 3, 4] (by decide) rfl
        refine W.eq (g2 := F0 m 58 ls [.int 0]) rfl ?_
        exact ct_iret hx hb hr hlk rfl hS hP hD (0, 6, nI y11__5, (-1), y11__5, v12_5 + 1, u13, g_a14__6, g_a15__7, ga16_5) rfl ⟨(show PF (nI y11__5) from (PF_n (by omega))), (show (v12_5 + 1) ≤ 8 from (by first | assumption | omega)), (show u13 ≤ 800 from (by first | assumption | omega)), (show Pfd g_a14__6 from (by first | assumption | omega)), (show Pb 9 800 g_a15__7 from (by first | assumption | omega)), (show Pb 9 800 ga16_5 from (by first | assumption | omega)), (show u11 ≤ y11__5 from (by first | assumption | omega)), (show y11__5 ≤ u6 from (by first | assumption | omega)), (by exact Or.inr ((rfl)))⟩ [0, 1, 2, 3, 4, 5] rfl (by decide) trivial (Nat.le_of_ble_eq_true rfl) (Nat.le_of_ble_eq_true rfl) dX12_readsLine_58
  · refine W.eq (g2 := F0 m 13 ls [.int 0]) rfl ?_
    refine lv_if_ne (tgt := 18) hx hb dX12_readsLine_13 (by decide) (fun c_27 => absurd c_27 (by decide)) (fun c_27 => ?_)
    refine lv_iconst (v := 0) hx hb dX12_readsLine_16 (by decide) ?_
    exact ct_iret hx hb hr hlk rfl hS hP hD (0, y7__2, y8__3, y9__4, y11__5, v12_5, u13, g_a14__6, g_a15__7, ga16_5) rfl ⟨(show PF y8__3 from (by assumption)), (show v12_5 ≤ 8 from (by first | assumption | omega)), (show u13 ≤ 800 from (by first | assumption | omega)), (show Pfd g_a14__6 from (by first | assumption | omega)), (show Pb 9 800 g_a15__7 from (by first | assumption | omega)), (show Pb 9 800 ga16_5 from (by first | assumption | omega)), (show u11 ≤ y11__5 from (by first | assumption | omega)), (show y11__5 ≤ u6 from (by first | assumption | omega)), (by exact Or.inr ((rfl)))⟩ [0, 1, 2, 3, 4, 5] rfl (by decide) trivial (Nat.le_of_ble_eq_true rfl) (Nat.le_of_ble_eq_true rfl) dX12_readsLine_17
set_option maxHeartbeats 4000000 in
set_option maxRecDepth 100000 in
theorem s_X12_tooMuch (l : Launch) (D : va_G) (κ : Nat → ClassId) (m0 : Nat) (a0 : Nat) (a1 : Nat) (a2 : Nat) (u3 : Nat) (f4 : Int32) (a5 : Nat) (u6 : Nat) (f7 : Int32) (f8 : Int32) (f9 : Int32) (f10 : Int32) (u11 : Nat) (u12 : Nat) (u13 : Nat) (a14 : Nat) (a15 : Nat) (a16 : Nat) (a17 : Nat) (f18 : Int32) (f19 : Int32) (a20 : Nat) (a21 : Nat) (u22 : Nat) (a23 : Nat) (a24 : Nat) (a25 : Nat) (u26 : Nat) (f27 : Int32) (a28 : Nat) (u29 : Nat) (w : Nat → Int32) (tp : Nat → Int32) (h6 : u6 ≤ 800) (h_a0 : Pw w) (h11 : u11 < u6) : Ct l yX12_tooMuch (wl yX12_tooMuch cX12_tooMuch 1 (some .boolean)) { frames := 2, cells := 0, slots := 0, locals := 47 } D κ [.ref m0] [(m0, .inr (12, [.ref a0, .ref a1, .ref a2, .int (nI u3), .int f4, .ref a5, .int (nI u6), .int f7, .int f8, .int f9, .int f10, .int (nI u11), .int (nI u12), .int (nI u13), .ref a14, .ref a15, .ref a16, .ref a17, .int f18, .int f19, .ref a20, .ref a21, .int (nI u22), .ref a23, .ref a24, .ref a25, .int (nI u26), .int f27, .ref a28, .int (nI u29)])), (a0, .inl (κ 0, 21375, .inl w)), (a5, .inl (κ 0, 800, .inl tp))] (fun _ => True) (fun u9 : Int32 × Int32 × Int32 × Int32 => some (.int u9.1)) (fun u9 : Int32 × Int32 × Int32 × Int32 => PF u9.2.2.1 ∧ (u9.1 = 0)) (fun u9 : Int32 × Int32 × Int32 × Int32 => [(m0, .inr (12, [.ref a0, .ref a1, .ref a2, .int (nI u3), .int f4, .ref a5, .int (nI u6), .int u9.2.1, .int u9.2.2.1, .int u9.2.2.2, .int f10, .int (nI u11), .int (nI u12), .int (nI u13), .ref a14, .ref a15, .ref a16, .ref a17, .int f18, .int f19, .ref a20, .ref a21, .int (nI u22), .ref a23, .ref a24, .ref a25, .int (nI u26), .int f27, .ref a28, .int (nI u29)])), (a0, .inl (κ 0, 21375, .inl w)), (a5, .inl (κ 0, 800, .inl tp))]) (fun _ _ => True) := by
  refine ct_of (by decide +kernel) (Nat.le_of_ble_eq_true rfl) ?_
  intro p e s m args below meth c A ls hx hb hr hml hts hown hlk hin hKK hK hA hP hD hS hI hl
  have hS : va_S A s.heap s.heap [] := hS
  have hFX : FX p s m args c cX12_tooMuch 1 RX12 := ⟨hx, hb, hml, hown, hts⟩
  have hl : lv_has ls 1 [(0, .ref m0)] := hl
  refine lv_aload_n hx hb dX12_tooMuch_0 rfl (lv_at hl 0 rfl) ?_
  refine lv_aload_n hx hb dX12_tooMuch_1 rfl (lv_at hl 0 rfl) ?_
  refine lv_aload_n hx hb dX12_tooMuch_2 rfl (lv_at hl 0 rfl) ?_
  refine va_get (D := D) (ci := 12) (v := .ref a5) (C := RX12) (T := TX12) (N := 30) hx hb hts inlX12 hown hK hP 0 rfl rfl 5 (by decide) (hts _ mw_191) (fun _ h9 => h9) rfl dX12_tooMuch_3 ?_
  refine lv_aload_n hx hb dX12_tooMuch_6 rfl (lv_at hl 0 rfl) ?_
  refine va_get (D := D) (ci := 12) (v := .int (nI u11)) (C := RX12) (T := TX12) (N := 30) hx hb hts inlX12 hown hK hP 0 rfl rfl 11 (by decide) (hts _ mw_423) (fun _ h9 => h9) rfl dX12_tooMuch_7 ?_
  refine va_iald hx hb hK hP 2 0 rfl rfl (i := nI u11) (vp_in_nI (n := u11) (by omega) (by omega)) dX12_tooMuch_10 ?_
  refine kv (v := .int (tp u11)) (by rw [nI_clamp (by omega)]) ?_
  obtain ⟨x_1, ex_1⟩ : ∃ y9 : Int32, tp u11 = y9 := ⟨_, rfl⟩
  refine kv (v := .int x_1) (congrArg Value.int ex_1) ?_
  refine lv_iconst (v := 0) hx hb dX12_tooMuch_11 (by decide) ?_
  refine cr_V (As := [.int x_1, .int 0]) (rest := [.ref m0]) hFX hKK (s_X12_canBe l D κ m0 a0 a1 a2 u3 f4 a5 u6 f7 f8 f9 f10 u11 u12 u13 a14 a15 a16 a17 f18 f19 a20 a21 u22 a23 a24 a25 u26 f27 a28 u29 w x_1 0 h_a0) 2 gV_X12_206 hdV_X12_canBe rfl rfl ⟨Nat.le_of_ble_eq_true rfl, Nat.le_of_ble_eq_true rfl⟩ rfl rfl (Nat.le_of_ble_eq_true rfl) dX12_tooMuch_12 ⟨Nat.le_of_ble_eq_true rfl, Nat.le_of_ble_eq_true rfl⟩ hl.1 hP 0 12 rfl rfl rfl (hP.sub [0, 1] rfl) (fun r__2 hp_3 => ?_)
  replace hp_3 : ((r__2 = 1) ∨ (r__2 = 0)) := hp_3
  have ha_4 := hp_3
  clear hp_3
  rcases ha_4 with rfl | rfl
  · refine W.eq (g2 := F0 m 15 ls [.int 1, .ref m0]) rfl ?_
    refine lv_if_ne (tgt := 38) hx hb dX12_tooMuch_15 (by decide) (fun c_5 => ?_) (fun c_5 => absurd c_5 (by decide))
    refine lv_bipush (v := 6) hx hb dX12_tooMuch_38 (by decide) ?_
    refine lv_goto (tgt := 44) hx hb dX12_tooMuch_40 (by decide) ?_
    refine lv_aload_n hx hb dX12_tooMuch_44 rfl (lv_at hl 0 rfl) ?_
    refine va_get (D := D) (ci := 12) (v := .int (nI u11)) (C := RX12) (T := TX12) (N := 30) hx hb hts inlX12 hown hK hP 0 rfl rfl 11 (by decide) (hts _ mw_423) (fun _ h9 => h9) rfl dX12_tooMuch_45 ?_
    refine lv_aload_n hx hb dX12_tooMuch_48 rfl (lv_at hl 0 rfl) ?_
    refine lv_aload_n hx hb dX12_tooMuch_49 rfl (lv_at hl 0 rfl) ?_
    refine va_get (D := D) (ci := 12) (v := .ref a5) (C := RX12) (T := TX12) (N := 30) hx hb hts inlX12 hown hK hP 0 rfl rfl 5 (by decide) (hts _ mw_191) (fun _ h9 => h9) rfl dX12_tooMuch_50 ?_
    refine lv_aload_n hx hb dX12_tooMuch_53 rfl (lv_at hl 0 rfl) ?_
    refine va_get (D := D) (ci := 12) (v := .int (nI u11)) (C := RX12) (T := TX12) (N := 30) hx hb hts inlX12 hown hK hP 0 rfl rfl 11 (by decide) (hts _ mw_423) (fun _ h9 => h9) rfl dX12_tooMuch_54 ?_
    refine va_iald hx hb hK hP 2 0 rfl rfl (i := nI u11) (vp_in_nI (n := u11) (by omega) (by omega)) dX12_tooMuch_57 ?_
    refine kv (v := .int x_1) (by rw [nI_clamp (by omega), show tp u11 = x_1 from ex_1]) ?_
    refine lv_iconst (v := 0) hx hb dX12_tooMuch_58 (by decide) ?_
    refine cr_V (As := [.int x_1, .int 0]) (rest := [.int (nI u11), .int 6, .ref m0]) hFX hKK (s_X12_canBe l D κ m0 a0 a1 a2 u3 f4 a5 u6 f7 f8 f9 f10 u11 u12 u13 a14 a15 a16 a17 f18 f19 a20 a21 u22 a23 a24 a25 u26 f27 a28 u29 w x_1 0 h_a0) 2 gV_X12_206 hdV_X12_canBe rfl rfl ⟨Nat.le_of_ble_eq_true rfl, Nat.le_of_ble_eq_true rfl⟩ rfl rfl (Nat.le_of_ble_eq_true rfl) dX12_tooMuch_59 ⟨Nat.le_of_ble_eq_true rfl, Nat.le_of_ble_eq_true rfl⟩ hl.1 hP 0 12 rfl rfl rfl (hP.sub [0, 1] rfl) (fun r__6 hp_7 => ?_)
    replace hp_7 : ((r__6 = 1) ∨ (r__6 = 0)) := hp_7
    have ha_8 := hp_7
    clear hp_7
    rcases ha_8 with rfl | rfl
    · refine W.eq (g2 := F0 m 62 ls [.int 1, .int (nI u11), .int 6, .ref m0]) rfl ?_
      refine lv_if_ne (tgt := 85) hx hb dX12_tooMuch_62 (by decide) (fun c_9 => ?_) (fun c_9 => absurd c_9 (by decide))
      refine lv_iconst (v := (-1)) hx hb dX12_tooMuch_85 (by decide) ?_
      refine lv_goto (tgt := 90) hx hb dX12_tooMuch_86 (by decide) ?_
      refine ct_V (wr := [(a0, .inl (κ 0, 21375, .inl w)), (a5, .inl (κ 0, 800, .inl tp))]) (As := [.int 6, .int (nI u11), .int (-1)]) (rest := []) hFX hKK hP hD hS hA (s_X12_wrong l D κ m0 a0 a1 a2 u3 f4 a5 u6 f7 f8 f9 f10 u11 u12 u13 a14 a15 a16 a17 f18 f19 a20 a21 u22 a23 a24 a25 u26 f27 a28 u29 6 (nI u11) (-1)) 3 gV_X12_210 hdV_X12_wrong ⟨Nat.le_of_ble_eq_true rfl, Nat.le_of_ble_eq_true rfl⟩ rfl rfl (Nat.le_of_ble_eq_true rfl) dX12_tooMuch_90 ⟨Nat.le_of_ble_eq_true rfl, Nat.le_of_ble_eq_true rfl⟩ hl.1 [0] [1, 2] rfl rfl (by decide) (by decide) (by decide) 0 12 rfl rfl rfl trivial (fun _ H locs hp_10 _ hP hD hS hz_ hk_ => ?_)
      replace hP : va_P D vwCl [(m0, .inr (12, [.ref a0, .ref a1, .ref a2, .int (nI u3), .int f4, .ref a5, .int (nI u6), .int 6, .int (nI u11), .int (-1), .int f10, .int (nI u11), .int (nI u12), .int (nI u13), .ref a14, .ref a15, .ref a16, .ref a17, .int f18, .int f19, .ref a20, .ref a21, .int (nI u22), .ref a23, .ref a24, .ref a25, .int (nI u26), .int f27, .ref a28, .int (nI u29)])), (a0, .inl (κ 0, 21375, .inl w)), (a5, .inl (κ 0, 800, .inl tp))] H := hP.sub [2, 0, 1] rfl
      replace hD : va_D A [(m0, .inr (12, [.ref a0, .ref a1, .ref a2, .int (nI u3), .int f4, .ref a5, .int (nI u6), .int 6, .int (nI u11), .int (-1), .int f10, .int (nI u11), .int (nI u12), .int (nI u13), .ref a14, .ref a15, .ref a16, .ref a17, .int f18, .int f19, .ref a20, .ref a21, .int (nI u22), .ref a23, .ref a24, .ref a25, .int (nI u26), .int f27, .ref a28, .int (nI u29)])), (a0, .inl (κ 0, 21375, .inl w)), (a5, .inl (κ 0, 800, .inl tp))] := hD.sub [2, 0, 1] (by decide) rfl
      refine W.eq (g2 := F0 m 93 ls [.int 0]) rfl ?_
      exact ct_iret hx hb hr hlk rfl hS hP hD (0, 6, nI u11, (-1)) rfl ⟨(show PF (nI u11) from (PF_n (by omega))), (by exact rfl)⟩ [0, 1, 2] rfl (by decide) trivial (Nat.le_of_ble_eq_true rfl) (Nat.le_of_ble_eq_true rfl) dX12_tooMuch_93
    · refine W.eq (g2 := F0 m 62 ls [.int 0, .int (nI u11), .int 6, .ref m0]) rfl ?_
      refine lv_if_ne (tgt := 85) hx hb dX12_tooMuch_62 (by decide) (fun c_11 => absurd c_11 (by decide)) (fun c_11 => ?_)
      refine lv_aload_n hx hb dX12_tooMuch_65 rfl (lv_at hl 0 rfl) ?_
      refine va_get (D := D) (ci := 12) (v := .ref a5) (C := RX12) (T := TX12) (N := 30) hx hb hts inlX12 hown hK hP 0 rfl rfl 5 (by decide) (hts _ mw_191) (fun _ h9 => h9) rfl dX12_tooMuch_66 ?_
      refine lv_aload_n hx hb dX12_tooMuch_69 rfl (lv_at hl 0 rfl) ?_
      refine va_get (D := D) (ci := 12) (v := .int (nI u11)) (C := RX12) (T := TX12) (N := 30) hx hb hts inlX12 hown hK hP 0 rfl rfl 11 (by decide) (hts _ mw_423) (fun _ h9 => h9) rfl dX12_tooMuch_70 ?_
      refine va_iald hx hb hK hP 2 0 rfl rfl (i := nI u11) (vp_in_nI (n := u11) (by omega) (by omega)) dX12_tooMuch_73 ?_
      refine kv (v := .int x_1) (by rw [nI_clamp (by omega), show tp u11 = x_1 from ex_1]) ?_
      refine lv_aload_n hx hb dX12_tooMuch_74 rfl (lv_at hl 0 rfl) ?_
      refine va_get (D := D) (ci := 12) (v := .ref a0) (C := RX12) (T := TX12) (N := 30) hx hb hts inlX12 hown hK hP 0 rfl rfl 0 (by decide) (hts _ mw_187) (fun _ h9 => h9) rfl dX12_tooMuch_75 ?_
      refine lv_sipush (v := 21369) hx hb dX12_tooMuch_78 (by decide) ?_
      refine va_iald hx hb hK hP 1 0 rfl rfl (i := 21369) (vp_k (by decide)) dX12_tooMuch_81 ?_
      obtain ⟨x_12, ex_12⟩ : ∃ y9 : Int32, w 21369 = y9 := ⟨_, rfl⟩
      refine kv (v := .int x_12) (congrArg Value.int ex_12) ?_
      refine lv_icmp_ne (tgt := 89) hx hb dX12_tooMuch_82 (by decide) (fun c_13 => ?_) (fun c_13 => ?_)
      · refine lv_iconst (v := 0) hx hb dX12_tooMuch_89 (by decide) ?_
        refine ct_V (wr := [(a0, .inl (κ 0, 21375, .inl w)), (a5, .inl (κ 0, 800, .inl tp))]) (As := [.int 6, .int (nI u11), .int 0]) (rest := []) hFX hKK hP hD hS hA (s_X12_wrong l D κ m0 a0 a1 a2 u3 f4 a5 u6 f7 f8 f9 f10 u11 u12 u13 a14 a15 a16 a17 f18 f19 a20 a21 u22 a23 a24 a25 u26 f27 a28 u29 6 (nI u11) 0) 3 gV_X12_210 hdV_X12_wrong ⟨Nat.le_of_ble_eq_true rfl, Nat.le_of_ble_eq_true rfl⟩ rfl rfl (Nat.le_of_ble_eq_true rfl) dX12_tooMuch_90 ⟨Nat.le_of_ble_eq_true rfl, Nat.le_of_ble_eq_true rfl⟩ hl.1 [0] [1, 2] rfl rfl (by decide) (by decide) (by decide) 0 12 rfl rfl rfl trivial (fun _ H locs hp_14 _ hP hD hS hz_ hk_ => ?_)
        replace hP : va_P D vwCl [(m0, .inr (12, [.ref a0, .ref a1, .ref a2, .int (nI u3), .int f4, .ref a5, .int (nI u6), .int 6, .int (nI u11), .int 0, .int f10, .int (nI u11), .int (nI u12), .int (nI u13), .ref a14, .ref a15, .ref a16, .ref a17, .int f18, .int f19, .ref a20, .ref a21, .int (nI u22), .ref a23, .ref a24, .ref a25, .int (nI u26), .int f27, .ref a28, .int (nI u29)])), (a0, .inl (κ 0, 21375, .inl w)), (a5, .inl (κ 0, 800, .inl tp))] H := hP.sub [2, 0, 1] rfl
        replace hD : va_D A [(m0, .inr (12, [.ref a0, .ref a1, .ref a2, .int (nI u3), .int f4, .ref a5, .int (nI u6), .int 6, .int (nI u11), .int 0, .int f10, .int (nI u11), .int (nI u12), .int (nI u13), .ref a14, .ref a15, .ref a16, .ref a17, .int f18, .int f19, .ref a20, .ref a21, .int (nI u22), .ref a23, .ref a24, .ref a25, .int (nI u26), .int f27, .ref a28, .int (nI u29)])), (a0, .inl (κ 0, 21375, .inl w)), (a5, .inl (κ 0, 800, .inl tp))] := hD.sub [2, 0, 1] (by decide) rfl
        refine W.eq (g2 := F0 m 93 ls [.int 0]) rfl ?_
        exact ct_iret hx hb hr hlk rfl hS hP hD (0, 6, nI u11, 0) rfl ⟨(show PF (nI u11) from (PF_n (by omega))), (by exact rfl)⟩ [0, 1, 2] rfl (by decide) trivial (Nat.le_of_ble_eq_true rfl) (Nat.le_of_ble_eq_true rfl) dX12_tooMuch_93
      · refine lv_iconst (v := (-1)) hx hb dX12_tooMuch_85 (by decide) ?_
        refine lv_goto (tgt := 90) hx hb dX12_tooMuch_86 (by decide) ?_
        refine ct_V (wr := [(a0, .inl (κ 0, 21375, .inl w)), (a5, .inl (κ 0, 800, .inl tp))]) (As := [.int 6, .int (nI u11), .int (-1)]) (rest := []) hFX hKK hP hD hS hA (s_X12_wrong l D κ m0 a0 a1 a2 u3 f4 a5 u6 f7 f8 f9 f10 u11 u12 u13 a14 a15 a16 a17 f18 f19 a20 a21 u22 a23 a24 a25 u26 f27 a28 u29 6 (nI u11) (-1)) 3 gV_X12_210 hdV_X12_wrong ⟨Nat.le_of_ble_eq_true rfl, Nat.le_of_ble_eq_true rfl⟩ rfl rfl (Nat.le_of_ble_eq_true rfl) dX12_tooMuch_90 ⟨Nat.le_of_ble_eq_true rfl, Nat.le_of_ble_eq_true rfl⟩ hl.1 [0] [1, 2] rfl rfl (by decide) (by decide) (by decide) 0 12 rfl rfl rfl trivial (fun _ H locs hp_15 _ hP hD hS hz_ hk_ => ?_)
        replace hP : va_P D vwCl [(m0, .inr (12, [.ref a0, .ref a1, .ref a2, .int (nI u3), .int f4, .ref a5, .int (nI u6), .int 6, .int (nI u11), .int (-1), .int f10, .int (nI u11), .int (nI u12), .int (nI u13), .ref a14, .ref a15, .ref a16, .ref a17, .int f18, .int f19, .ref a20, .ref a21, .int (nI u22), .ref a23, .ref a24, .ref a25, .int (nI u26), .int f27, .ref a28, .int (nI u29)])), (a0, .inl (κ 0, 21375, .inl w)), (a5, .inl (κ 0, 800, .inl tp))] H := hP.sub [2, 0, 1] rfl
        replace hD : va_D A [(m0, .inr (12, [.ref a0, .ref a1, .ref a2, .int (nI u3), .int f4, .ref a5, .int (nI u6), .int 6, .int (nI u11), .int (-1), .int f10, .int (nI u11), .int (nI u12), .int (nI u13), .ref a14, .ref a15, .ref a16, .ref a17, .int f18, .int f19, .ref a20, .ref a21, .int (nI u22), .ref a23, .ref a24, .ref a25, .int (nI u26), .int f27, .ref a28, .int (nI u29)])), (a0, .inl (κ 0, 21375, .inl w)), (a5, .inl (κ 0, 800, .inl tp))] := hD.sub [2, 0, 1] (by decide) rfl
        refine W.eq (g2 := F0 m 93 ls [.int 0]) rfl ?_
        exact ct_iret hx hb hr hlk rfl hS hP hD (0, 6, nI u11, (-1)) rfl ⟨(show PF (nI u11) from (PF_n (by omega))), (by exact rfl)⟩ [0, 1, 2] rfl (by decide) trivial (Nat.le_of_ble_eq_true rfl) (Nat.le_of_ble_eq_true rfl) dX12_tooMuch_93
  · refine W.eq (g2 := F0 m 15 ls [.int 0, .ref m0]) rfl ?_
    refine lv_if_ne (tgt := 38) hx hb dX12_tooMuch_15 (by decide) (fun c_16 => absurd c_16 (by decide)) (fun c_16 => ?_)
    refine lv_aload_n hx hb dX12_tooMuch_18 rfl (lv_at hl 0 rfl) ?_
    refine va_get (D := D) (ci := 12) (v := .ref a5) (C := RX12) (T := TX12) (N := 30) hx hb hts inlX12 hown hK hP 0 rfl rfl 5 (by decide) (hts _ mw_191) (fun _ h9 => h9) rfl dX12_tooMuch_19 ?_
    refine lv_aload_n hx hb dX12_tooMuch_22 rfl (lv_at hl 0 rfl) ?_
    refine va_get (D := D) (ci := 12) (v := .int (nI u11)) (C := RX12) (T := TX12) (N := 30) hx hb hts inlX12 hown hK hP 0 rfl rfl 11 (by decide) (hts _ mw_423) (fun _ h9 => h9) rfl dX12_tooMuch_23 ?_
    refine va_iald hx hb hK hP 2 0 rfl rfl (i := nI u11) (vp_in_nI (n := u11) (by omega) (by omega)) dX12_tooMuch_26 ?_
    refine kv (v := .int x_1) (by rw [nI_clamp (by omega), show tp u11 = x_1 from ex_1]) ?_
    refine lv_aload_n hx hb dX12_tooMuch_27 rfl (lv_at hl 0 rfl) ?_
    refine va_get (D := D) (ci := 12) (v := .ref a0) (C := RX12) (T := TX12) (N := 30) hx hb hts inlX12 hown hK hP 0 rfl rfl 0 (by decide) (hts _ mw_187) (fun _ h9 => h9) rfl dX12_tooMuch_28 ?_
    refine lv_sipush (v := 21369) hx hb dX12_tooMuch_31 (by decide) ?_
    refine va_iald hx hb hK hP 1 0 rfl rfl (i := 21369) (vp_k (by decide)) dX12_tooMuch_34 ?_
    obtain ⟨x_17, ex_17⟩ : ∃ y9 : Int32, w 21369 = y9 := ⟨_, rfl⟩
    refine kv (v := .int x_17) (congrArg Value.int ex_17) ?_
    refine lv_icmp_ne (tgt := 43) hx hb dX12_tooMuch_35 (by decide) (fun c_18 => ?_) (fun c_18 => ?_)
    · refine lv_iconst (v := 1) hx hb dX12_tooMuch_43 (by decide) ?_
      refine lv_aload_n hx hb dX12_tooMuch_44 rfl (lv_at hl 0 rfl) ?_
      refine va_get (D := D) (ci := 12) (v := .int (nI u11)) (C := RX12) (T := TX12) (N := 30) hx hb hts inlX12 hown hK hP 0 rfl rfl 11 (by decide) (hts _ mw_423) (fun _ h9 => h9) rfl dX12_tooMuch_45 ?_
      refine lv_aload_n hx hb dX12_tooMuch_48 rfl (lv_at hl 0 rfl) ?_
      refine lv_aload_n hx hb dX12_tooMuch_49 rfl (lv_at hl 0 rfl) ?_
      refine va_get (D := D) (ci := 12) (v := .ref a5) (C := RX12) (T := TX12) (N := 30) hx hb hts inlX12 hown hK hP 0 rfl rfl 5 (by decide) (hts _ mw_191) (fun _ h9 => h9) rfl dX12_tooMuch_50 ?_
      refine lv_aload_n hx hb dX12_tooMuch_53 rfl (lv_at hl 0 rfl) ?_
      refine va_get (D := D) (ci := 12) (v := .int (nI u11)) (C := RX12) (T := TX12) (N := 30) hx hb hts inlX12 hown hK hP 0 rfl rfl 11 (by decide) (hts _ mw_423) (fun _ h9 => h9) rfl dX12_tooMuch_54 ?_
      refine va_iald hx hb hK hP 2 0 rfl rfl (i := nI u11) (vp_in_nI (n := u11) (by omega) (by omega)) dX12_tooMuch_57 ?_
      refine kv (v := .int x_1) (by rw [nI_clamp (by omega), show tp u11 = x_1 from ex_1]) ?_
      refine lv_iconst (v := 0) hx hb dX12_tooMuch_58 (by decide) ?_
      refine cr_V (As := [.int x_1, .int 0]) (rest := [.int (nI u11), .int 1, .ref m0]) hFX hKK (s_X12_canBe l D κ m0 a0 a1 a2 u3 f4 a5 u6 f7 f8 f9 f10 u11 u12 u13 a14 a15 a16 a17 f18 f19 a20 a21 u22 a23 a24 a25 u26 f27 a28 u29 w x_1 0 h_a0) 2 gV_X12_206 hdV_X12_canBe rfl rfl ⟨Nat.le_of_ble_eq_true rfl, Nat.le_of_ble_eq_true rfl⟩ rfl rfl (Nat.le_of_ble_eq_true rfl) dX12_tooMuch_59 ⟨Nat.le_of_ble_eq_true rfl, Nat.le_of_ble_eq_true rfl⟩ hl.1 hP 0 12 rfl rfl rfl (hP.sub [0, 1] rfl) (fun r__19 hp_20 => ?_)
      replace hp_20 : ((r__19 = 1) ∨ (r__19 = 0)) := hp_20
      have ha_21 := hp_20
      clear hp_20
      rcases ha_21 with rfl | rfl
      · refine W.eq (g2 := F0 m 62 ls [.int 1, .int (nI u11), .int 1, .ref m0]) rfl ?_
        refine lv_if_ne (tgt := 85) hx hb dX12_tooMuch_62 (by decide) (fun c_22 => ?_) (fun c_22 => absurd c_22 (by decide))
        refine lv_iconst (v := (-1)) hx hb dX12_tooMuch_85 (by decide) ?_
        refine lv_goto (tgt := 90) hx hb dX12_tooMuch_86 (by decide) ?_
        refine ct_V (wr := [(a0, .inl (κ 0, 21375, .inl w)), (a5, .inl (κ 0, 800, .inl tp))]) (As := [.int 1, .int (nI u11), .int (-1)]) (rest := []) hFX hKK hP hD hS hA (s_X12_wrong l D κ m0 a0 a1 a2 u3 f4 a5 u6 f7 f8 f9 f10 u11 u12 u13 a14 a15 a16 a17 f18 f19 a20 a21 u22 a23 a24 a25 u26 f27 a28 u29 1 (nI u11) (-1)) 3 gV_X12_210 hdV_X12_wrong ⟨Nat.le_of_ble_eq_true rfl, Nat.le_of_ble_eq_true rfl⟩ rfl rfl (Nat.le_of_ble_eq_true rfl) dX12_tooMuch_90 ⟨Nat.le_of_ble_eq_true rfl, Nat.le_of_ble_eq_true rfl⟩ hl.1 [0] [1, 2] rfl rfl (by decide) (by decide) (by decide) 0 12 rfl rfl rfl trivial (fun _ H locs hp_23 _ hP hD hS hz_ hk_ => ?_)
        replace hP : va_P D vwCl [(m0, .inr (12, [.ref a0, .ref a1, .ref a2, .int (nI u3), .int f4, .ref a5, .int (nI u6), .int 1, .int (nI u11), .int (-1), .int f10, .int (nI u11), .int (nI u12), .int (nI u13), .ref a14, .ref a15, .ref a16, .ref a17, .int f18, .int f19, .ref a20, .ref a21, .int (nI u22), .ref a23, .ref a24, .ref a25, .int (nI u26), .int f27, .ref a28, .int (nI u29)])), (a0, .inl (κ 0, 21375, .inl w)), (a5, .inl (κ 0, 800, .inl tp))] H := hP.sub [2, 0, 1] rfl
        replace hD : va_D A [(m0, .inr (12, [.ref a0, .ref a1, .ref a2, .int (nI u3), .int f4, .ref a5, .int (nI u6), .int 1, .int (nI u11), .int (-1), .int f10, .int (nI u11), .int (nI u12), .int (nI u13), .ref a14, .ref a15, .ref a16, .ref a17, .int f18, .int f19, .ref a20, .ref a21, .int (nI u22), .ref a23, .ref a24, .ref a25, .int (nI u26), .int f27, .ref a28, .int (nI u29)])), (a0, .inl (κ 0, 21375, .inl w)), (a5, .inl (κ 0, 800, .inl tp))] := hD.sub [2, 0, 1] (by decide) rfl
        refine W.eq (g2 := F0 m 93 ls [.int 0]) rfl ?_
        exact ct_iret hx hb hr hlk rfl hS hP hD (0, 1, nI u11, (-1)) rfl ⟨(show PF (nI u11) from (PF_n (by omega))), (by exact rfl)⟩ [0, 1, 2] rfl (by decide) trivial (Nat.le_of_ble_eq_true rfl) (Nat.le_of_ble_eq_true rfl) dX12_tooMuch_93
      · refine W.eq (g2 := F0 m 62 ls [.int 0, .int (nI u11), .int 1, .ref m0]) rfl ?_
        refine lv_if_ne (tgt := 85) hx hb dX12_tooMuch_62 (by decide) (fun c_24 => absurd c_24 (by decide)) (fun c_24 => ?_)
        refine lv_aload_n hx hb dX12_tooMuch_65 rfl (lv_at hl 0 rfl) ?_
        refine va_get (D := D) (ci := 12) (v := .ref a5) (C := RX12) (T := TX12) (N := 30) hx hb hts inlX12 hown hK hP 0 rfl rfl 5 (by decide) (hts _ mw_191) (fun _ h9 => h9) rfl dX12_tooMuch_66 ?_
        refine lv_aload_n hx hb dX12_tooMuch_69 rfl (lv_at hl 0 rfl) ?_
        refine va_get (D := D) (ci := 12) (v := .int (nI u11)) (C := RX12) (T := TX12) (N := 30) hx hb hts inlX12 hown hK hP 0 rfl rfl 11 (by decide) (hts _ mw_423) (fun _ h9 => h9) rfl dX12_tooMuch_70 ?_
        refine va_iald hx hb hK hP 2 0 rfl rfl (i := nI u11) (vp_in_nI (n := u11) (by omega) (by omega)) dX12_tooMuch_73 ?_
        refine kv (v := .int x_1) (by rw [nI_clamp (by omega), show tp u11 = x_1 from ex_1]) ?_
        refine lv_aload_n hx hb dX12_tooMuch_74 rfl (lv_at hl 0 rfl) ?_
        refine va_get (D := D) (ci := 12) (v := .ref a0) (C := RX12) (T := TX12) (N := 30) hx hb hts inlX12 hown hK hP 0 rfl rfl 0 (by decide) (hts _ mw_187) (fun _ h9 => h9) rfl dX12_tooMuch_75 ?_
        refine lv_sipush (v := 21369) hx hb dX12_tooMuch_78 (by decide) ?_
        refine va_iald hx hb hK hP 1 0 rfl rfl (i := 21369) (vp_k (by decide)) dX12_tooMuch_81 ?_
        refine kv (v := .int x_17) (congrArg Value.int (ex_17)) ?_
        refine lv_icmp_ne (tgt := 89) hx hb dX12_tooMuch_82 (by decide) (fun c_25 => ?_) (fun c_25 => absurd c_25 c_18)
        refine lv_iconst (v := 0) hx hb dX12_tooMuch_89 (by decide) ?_
        refine ct_V (wr := [(a0, .inl (κ 0, 21375, .inl w)), (a5, .inl (κ 0, 800, .inl tp))]) (As := [.int 1, .int (nI u11), .int 0]) (rest := []) hFX hKK hP hD hS hA (s_X12_wrong l D κ m0 a0 a1 a2 u3 f4 a5 u6 f7 f8 f9 f10 u11 u12 u13 a14 a15 a16 a17 f18 f19 a20 a21 u22 a23 a24 a25 u26 f27 a28 u29 1 (nI u11) 0) 3 gV_X12_210 hdV_X12_wrong ⟨Nat.le_of_ble_eq_true rfl, Nat.le_of_ble_eq_true rfl⟩ rfl rfl (Nat.le_of_ble_eq_true rfl) dX12_tooMuch_90 ⟨Nat.le_of_ble_eq_true rfl, Nat.le_of_ble_eq_true rfl⟩ hl.1 [0] [1, 2] rfl rfl (by decide) (by decide) (by decide) 0 12 rfl rfl rfl trivial (fun _ H locs hp_26 _ hP hD hS hz_ hk_ => ?_)
        replace hP : va_P D vwCl [(m0, .inr (12, [.ref a0, .ref a1, .ref a2, .int (nI u3), .int f4, .ref a5, .int (nI u6), .int 1, .int (nI u11), .int 0, .int f10, .int (nI u11), .int (nI u12), .int (nI u13), .ref a14, .ref a15, .ref a16, .ref a17, .int f18, .int f19, .ref a20, .ref a21, .int (nI u22), .ref a23, .ref a24, .ref a25, .int (nI u26), .int f27, .ref a28, .int (nI u29)])), (a0, .inl (κ 0, 21375, .inl w)), (a5, .inl (κ 0, 800, .inl tp))] H := hP.sub [2, 0, 1] rfl
        replace hD : va_D A [(m0, .inr (12, [.ref a0, .ref a1, .ref a2, .int (nI u3), .int f4, .ref a5, .int (nI u6), .int 1, .int (nI u11), .int 0, .int f10, .int (nI u11), .int (nI u12), .int (nI u13), .ref a14, .ref a15, .ref a16, .ref a17, .int f18, .int f19, .ref a20, .ref a21, .int (nI u22), .ref a23, .ref a24, .ref a25, .int (nI u26), .int f27, .ref a28, .int (nI u29)])), (a0, .inl (κ 0, 21375, .inl w)), (a5, .inl (κ 0, 800, .inl tp))] := hD.sub [2, 0, 1] (by decide) rfl
        refine W.eq (g2 := F0 m 93 ls [.int 0]) rfl ?_
        exact ct_iret hx hb hr hlk rfl hS hP hD (0, 1, nI u11, 0) rfl ⟨(show PF (nI u11) from (PF_n (by omega))), (by exact rfl)⟩ [0, 1, 2] rfl (by decide) trivial (Nat.le_of_ble_eq_true rfl) (Nat.le_of_ble_eq_true rfl) dX12_tooMuch_93
    · refine lv_bipush (v := 6) hx hb dX12_tooMuch_38 (by decide) ?_
      refine lv_goto (tgt := 44) hx hb dX12_tooMuch_40 (by decide) ?_
      refine lv_aload_n hx hb dX12_tooMuch_44 rfl (lv_at hl 0 rfl) ?_
      refine va_get (D := D) (ci := 12) (v := .int (nI u11)) (C := RX12) (T := TX12) (N := 30) hx hb hts inlX12 hown hK hP 0 rfl rfl 11 (by decide) (hts _ mw_423) (fun _ h9 => h9) rfl dX12_tooMuch_45 ?_
      refine lv_aload_n hx hb dX12_tooMuch_48 rfl (lv_at hl 0 rfl) ?_
      refine lv_aload_n hx hb dX12_tooMuch_49 rfl (lv_at hl 0 rfl) ?_
      refine va_get (D := D) (ci := 12) (v := .ref a5) (C := RX12) (T := TX12) (N := 30) hx hb hts inlX12 hown hK hP 0 rfl rfl 5 (by decide) (hts _ mw_191) (fun _ h9 => h9) rfl dX12_tooMuch_50 ?_
      refine lv_aload_n hx hb dX12_tooMuch_53 rfl (lv_at hl 0 rfl) ?_
      refine va_get (D := D) (ci := 12) (v := .int (nI u11)) (C := RX12) (T := TX12) (N := 30) hx hb hts inlX12 hown hK hP 0 rfl rfl 11 (by decide) (hts _ mw_423) (fun _ h9 => h9) rfl dX12_tooMuch_54 ?_
      refine va_iald hx hb hK hP 2 0 rfl rfl (i := nI u11) (vp_in_nI (n := u11) (by omega) (by omega)) dX12_tooMuch_57 ?_
      refine kv (v := .int x_1) (by rw [nI_clamp (by omega), show tp u11 = x_1 from ex_1]) ?_
      refine lv_iconst (v := 0) hx hb dX12_tooMuch_58 (by decide) ?_
      refine cr_V (As := [.int x_1, .int 0]) (rest := [.int (nI u11), .int 6, .ref m0]) hFX hKK (s_X12_canBe l D κ m0 a0 a1 a2 u3 f4 a5 u6 f7 f8 f9 f10 u11 u12 u13 a14 a15 a16 a17 f18 f19 a20 a21 u22 a23 a24 a25 u26 f27 a28 u29 w x_1 0 h_a0) 2 gV_X12_206 hdV_X12_canBe rfl rfl ⟨Nat.le_of_ble_eq_true rfl, Nat.le_of_ble_eq_true rfl⟩ rfl rfl (Nat.le_of_ble_eq_true rfl) dX12_tooMuch_59 ⟨Nat.le_of_ble_eq_true rfl, Nat.le_of_ble_eq_true rfl⟩ hl.1 hP 0 12 rfl rfl rfl (hP.sub [0, 1] rfl) (fun r__27 hp_28 => ?_)
      replace hp_28 : ((r__27 = 1) ∨ (r__27 = 0)) := hp_28
      have ha_29 := hp_28
      clear hp_28
      rcases ha_29 with rfl | rfl
      · refine W.eq (g2 := F0 m 62 ls [.int 1, .int (nI u11), .int 6, .ref m0]) rfl ?_
        refine lv_if_ne (tgt := 85) hx hb dX12_tooMuch_62 (by decide) (fun c_30 => ?_) (fun c_30 => absurd c_30 (by decide))
        refine lv_iconst (v := (-1)) hx hb dX12_tooMuch_85 (by decide) ?_
        refine lv_goto (tgt := 90) hx hb dX12_tooMuch_86 (by decide) ?_
        refine ct_V (wr := [(a0, .inl (κ 0, 21375, .inl w)), (a5, .inl (κ 0, 800, .inl tp))]) (As := [.int 6, .int (nI u11), .int (-1)]) (rest := []) hFX hKK hP hD hS hA (s_X12_wrong l D κ m0 a0 a1 a2 u3 f4 a5 u6 f7 f8 f9 f10 u11 u12 u13 a14 a15 a16 a17 f18 f19 a20 a21 u22 a23 a24 a25 u26 f27 a28 u29 6 (nI u11) (-1)) 3 gV_X12_210 hdV_X12_wrong ⟨Nat.le_of_ble_eq_true rfl, Nat.le_of_ble_eq_true rfl⟩ rfl rfl (Nat.le_of_ble_eq_true rfl) dX12_tooMuch_90 ⟨Nat.le_of_ble_eq_true rfl, Nat.le_of_ble_eq_true rfl⟩ hl.1 [0] [1, 2] rfl rfl (by decide) (by decide) (by decide) 0 12 rfl rfl rfl trivial (fun _ H locs hp_31 _ hP hD hS hz_ hk_ => ?_)
        replace hP : va_P D vwCl [(m0, .inr (12, [.ref a0, .ref a1, .ref a2, .int (nI u3), .int f4, .ref a5, .int (nI u6), .int 6, .int (nI u11), .int (-1), .int f10, .int (nI u11), .int (nI u12), .int (nI u13), .ref a14, .ref a15, .ref a16, .ref a17, .int f18, .int f19, .ref a20, .ref a21, .int (nI u22), .ref a23, .ref a24, .ref a25, .int (nI u26), .int f27, .ref a28, .int (nI u29)])), (a0, .inl (κ 0, 21375, .inl w)), (a5, .inl (κ 0, 800, .inl tp))] H := hP.sub [2, 0, 1] rfl
        replace hD : va_D A [(m0, .inr (12, [.ref a0, .ref a1, .ref a2, .int (nI u3), .int f4, .ref a5, .int (nI u6), .int 6, .int (nI u11), .int (-1), .int f10, .int (nI u11), .int (nI u12), .int (nI u13), .ref a14, .ref a15, .ref a16, .ref a17, .int f18, .int f19, .ref a20, .ref a21, .int (nI u22), .ref a23, .ref a24, .ref a25, .int (nI u26), .int f27, .ref a28, .int (nI u29)])), (a0, .inl (κ 0, 21375, .inl w)), (a5, .inl (κ 0, 800, .inl tp))] := hD.sub [2, 0, 1] (by decide) rfl
        refine W.eq (g2 := F0 m 93 ls [.int 0]) rfl ?_
        exact ct_iret hx hb hr hlk rfl hS hP hD (0, 6, nI u11, (-1)) rfl ⟨(show PF (nI u11) from (PF_n (by omega))), (by exact rfl)⟩ [0, 1, 2] rfl (by decide) trivial (Nat.le_of_ble_eq_true rfl) (Nat.le_of_ble_eq_true rfl) dX12_tooMuch_93
      · refine W.eq (g2 := F0 m 62 ls [.int 0, .int (nI u11), .int 6, .ref m0]) rfl ?_
        refine lv_if_ne (tgt := 85) hx hb dX12_tooMuch_62 (by decide) (fun c_32 => absurd c_32 (by decide)) (fun c_32 => ?_)
        refine lv_aload_n hx hb dX12_tooMuch_65 rfl (lv_at hl 0 rfl) ?_
        refine va_get (D := D) (ci := 12) (v := .ref a5) (C := RX12) (T := TX12) (N := 30) hx hb hts inlX12 hown hK hP 0 rfl rfl 5 (by decide) (hts _ mw_191) (fun _ h9 => h9) rfl dX12_tooMuch_66 ?_
        refine lv_aload_n hx hb dX12_tooMuch_69 rfl (lv_at hl 0 rfl) ?_
        refine va_get (D := D) (ci := 12) (v := .int (nI u11)) (C := RX12) (T := TX12) (N := 30) hx hb hts inlX12 hown hK hP 0 rfl rfl 11 (by decide) (hts _ mw_423) (fun _ h9 => h9) rfl dX12_tooMuch_70 ?_
        refine va_iald hx hb hK hP 2 0 rfl rfl (i := nI u11) (vp_in_nI (n := u11) (by omega) (by omega)) dX12_tooMuch_73 ?_
        refine kv (v := .int x_1) (by rw [nI_clamp (by omega), show tp u11 = x_1 from ex_1]) ?_
        refine lv_aload_n hx hb dX12_tooMuch_74 rfl (lv_at hl 0 rfl) ?_
        refine va_get (D := D) (ci := 12) (v := .ref a0) (C := RX12) (T := TX12) (N := 30) hx hb hts inlX12 hown hK hP 0 rfl rfl 0 (by decide) (hts _ mw_187) (fun _ h9 => h9) rfl dX12_tooMuch_75 ?_
        refine lv_sipush (v := 21369) hx hb dX12_tooMuch_78 (by decide) ?_
        refine va_iald hx hb hK hP 1 0 rfl rfl (i := 21369) (vp_k (by decide)) dX12_tooMuch_81 ?_
        refine kv (v := .int x_17) (congrArg Value.int (ex_17)) ?_
        refine lv_icmp_ne (tgt := 89) hx hb dX12_tooMuch_82 (by decide) (fun c_33 => absurd c_18 c_33) (fun c_33 => ?_)
        refine lv_iconst (v := (-1)) hx hb dX12_tooMuch_85 (by decide) ?_
        refine lv_goto (tgt := 90) hx hb dX12_tooMuch_86 (by decide) ?_
        refine ct_V (wr := [(a0, .inl (κ 0, 21375, .inl w)), (a5, .inl (κ 0, 800, .inl tp))]) (As := [.int 6, .int (nI u11), .int (-1)]) (rest := []) hFX hKK hP hD hS hA (s_X12_wrong l D κ m0 a0 a1 a2 u3 f4 a5 u6 f7 f8 f9 f10 u11 u12 u13 a14 a15 a16 a17 f18 f19 a20 a21 u22 a23 a24 a25 u26 f27 a28 u29 6 (nI u11) (-1)) 3 gV_X12_210 hdV_X12_wrong ⟨Nat.le_of_ble_eq_true rfl, Nat.le_of_ble_eq_true rfl⟩ rfl rfl (Nat.le_of_ble_eq_true rfl) dX12_tooMuch_90 ⟨Nat.le_of_ble_eq_true rfl, Nat.le_of_ble_eq_true rfl⟩ hl.1 [0] [1, 2] rfl rfl (by decide) (by decide) (by decide) 0 12 rfl rfl rfl trivial (fun _ H locs hp_34 _ hP hD hS hz_ hk_ => ?_)
        replace hP : va_P D vwCl [(m0, .inr (12, [.ref a0, .ref a1, .ref a2, .int (nI u3), .int f4, .ref a5, .int (nI u6), .int 6, .int (nI u11), .int (-1), .int f10, .int (nI u11), .int (nI u12), .int (nI u13), .ref a14, .ref a15, .ref a16, .ref a17, .int f18, .int f19, .ref a20, .ref a21, .int (nI u22), .ref a23, .ref a24, .ref a25, .int (nI u26), .int f27, .ref a28, .int (nI u29)])), (a0, .inl (κ 0, 21375, .inl w)), (a5, .inl (κ 0, 800, .inl tp))] H := hP.sub [2, 0, 1] rfl
        replace hD : va_D A [(m0, .inr (12, [.ref a0, .ref a1, .ref a2, .int (nI u3), .int f4, .ref a5, .int (nI u6), .int 6, .int (nI u11), .int (-1), .int f10, .int (nI u11), .int (nI u12), .int (nI u13), .ref a14, .ref a15, .ref a16, .ref a17, .int f18, .int f19, .ref a20, .ref a21, .int (nI u22), .ref a23, .ref a24, .ref a25, .int (nI u26), .int f27, .ref a28, .int (nI u29)])), (a0, .inl (κ 0, 21375, .inl w)), (a5, .inl (κ 0, 800, .inl tp))] := hD.sub [2, 0, 1] (by decide) rfl
        refine W.eq (g2 := F0 m 93 ls [.int 0]) rfl ?_
        exact ct_iret hx hb hr hlk rfl hS hP hD (0, 6, nI u11, (-1)) rfl ⟨(show PF (nI u11) from (PF_n (by omega))), (by exact rfl)⟩ [0, 1, 2] rfl (by decide) trivial (Nat.le_of_ble_eq_true rfl) (Nat.le_of_ble_eq_true rfl) dX12_tooMuch_93
set_option maxHeartbeats 4000000 in
set_option maxRecDepth 100000 in
theorem s_X12_names (l : Launch) (D : va_G) (κ : Nat → ClassId) (m0 : Nat) (a0 : Nat) (a1 : Nat) (a2 : Nat) (u3 : Nat) (f4 : Int32) (a5 : Nat) (u6 : Nat) (f7 : Int32) (f8 : Int32) (f9 : Int32) (f10 : Int32) (u11 : Nat) (u12 : Nat) (u13 : Nat) (a14 : Nat) (a15 : Nat) (a16 : Nat) (a17 : Nat) (f18 : Int32) (f19 : Int32) (a20 : Nat) (a21 : Nat) (u22 : Nat) (a23 : Nat) (a24 : Nat) (a25 : Nat) (u26 : Nat) (f27 : Int32) (a28 : Nat) (u29 : Nat) (dr : Nat → Int32) (b : Nat) (q : Nat) (N : Nat) (pl : Nat) (f : Nat → Int32) (h_a17 : Pd dr) (hN : N < 2147483648) (hb : b < 8) (hpl : pl + 13 ≤ N) (hf : ∃ n9 : Nat, n9 ≤ 12 ∧ f pl = nI n9) : Ct l yX12_names (wl yX12_names cX12_names 5 none) { frames := 0, cells := 0, slots := 0, locals := 0 } D κ [.ref m0, .int (nI b), .ref q, .int (nI pl)] [(m0, .inr (12, [.ref a0, .ref a1, .ref a2, .int (nI u3), .int f4, .ref a5, .int (nI u6), .int f7, .int f8, .int f9, .int f10, .int (nI u11), .int (nI u12), .int (nI u13), .ref a14, .ref a15, .ref a16, .ref a17, .int f18, .int f19, .ref a20, .ref a21, .int (nI u22), .ref a23, .ref a24, .ref a25, .int (nI u26), .int f27, .ref a28, .int (nI u29)])), (a17, .inl (κ 0, 7123, .inl dr)), (q, .inl (κ 0, N, .inl f))] (fun _ => True) (fun g_a17 : (Nat → Int32) => none) (fun g_a17 : (Nat → Int32) => Pd g_a17 ∧ (∀ i : Nat, i < 4 → g_a17 i = dr i)) (fun g_a17 : (Nat → Int32) => [(m0, .inr (12, [.ref a0, .ref a1, .ref a2, .int (nI u3), .int f4, .ref a5, .int (nI u6), .int f7, .int f8, .int f9, .int f10, .int (nI u11), .int (nI u12), .int (nI u13), .ref a14, .ref a15, .ref a16, .ref a17, .int f18, .int f19, .ref a20, .ref a21, .int (nI u22), .ref a23, .ref a24, .ref a25, .int (nI u26), .int f27, .ref a28, .int (nI u29)])), (a17, .inl (κ 0, 7123, .inl g_a17)), (q, .inl (κ 0, N, .inl f))]) (fun _ _ => True) := by
  refine ct_of (by decide +kernel) (Nat.le_of_ble_eq_true rfl) ?_
  intro p e s m args below meth c A ls hx hb hr hml hts hown hlk hin hKK hK hA hP hD hS hI hl
  have hS : va_S A s.heap s.heap [] := hS
  have hFX : FX p s m args c cX12_names 5 RX12 := ⟨hx, hb, hml, hown, hts⟩
  have hl : lv_has ls 5 [(0, .ref m0), (1, .int (nI b)), (2, .ref q), (3, .int (nI pl))] := hl
  refine lv_iconst (v := 0) hx hb dX12_names_0 (by decide) ?_
  refine lv_istore (lv' := [(4, .int 0), (0, .ref m0), (1, .int (nI b)), (2, .ref q), (3, .int (nI pl))]) hx hb dX12_names_1 hl (by decide) rfl (fun ls hl => ?_)
  refine loop_dn (fun k9 H locs ls => ∃ (k4_3 : Nat), ∃ (ga17_3 : Nat → Int32), (k4_3 ≤ 13) ∧ (∀ i : Nat, i < 4 → ga17_3 i = dr i) ∧ Pd ga17_3 ∧ 13 - k4_3 = k9 ∧ va_P D vwCl [(m0, .inr (12, [.ref a0, .ref a1, .ref a2, .int (nI u3), .int f4, .ref a5, .int (nI u6), .int f7, .int f8, .int f9, .int f10, .int (nI u11), .int (nI u12), .int (nI u13), .ref a14, .ref a15, .ref a16, .ref a17, .int f18, .int f19, .ref a20, .ref a21, .int (nI u22), .ref a23, .ref a24, .ref a25, .int (nI u26), .int f27, .ref a28, .int (nI u29)])), (a17, .inl (κ 0, 7123, .inl ga17_3)), (q, .inl (κ 0, N, .inl f))] H ∧ va_D A [(m0, .inr (12, [.ref a0, .ref a1, .ref a2, .int (nI u3), .int f4, .ref a5, .int (nI u6), .int f7, .int f8, .int f9, .int f10, .int (nI u11), .int (nI u12), .int (nI u13), .ref a14, .ref a15, .ref a16, .ref a17, .int f18, .int f19, .ref a20, .ref a21, .int (nI u22), .ref a23, .ref a24, .ref a25, .int (nI u26), .int f27, .ref a28, .int (nI u29)])), (a17, .inl (κ 0, 7123, .inl ga17_3)), (q, .inl (κ 0, N, .inl f))] ∧ va_S A s.heap H locs ∧ lv_has ls 5 [(4, .int (nI k4_3)), (0, .ref m0), (1, .int (nI b)), (2, .ref q), (3, .int (nI pl))]) (fun k9 H locs ls hI3 ih3 => ?_) (13 - 0) _ _ _ ⟨0, dr, (by omega), (fun _ _ => rfl), h_a17, rfl, hP, hD, hS, lv_sub hl [0, 1, 2, 3, 4] rfl⟩
  obtain ⟨k4_3, ga17_3, hl3_0, hl3_1, hg3_0, hm3, hP, hD, hS, hl⟩ := hI3
  refine lv_iload hx hb dX12_names_3 (lv_at hl 0 rfl) ?_
  refine lv_aload_n hx hb dX12_names_5 rfl (lv_at hl 3 rfl) ?_
  refine lv_iload_n hx hb dX12_names_6 rfl (lv_at hl 4 rfl) ?_
  refine va_iald hx hb hK hP 2 0 rfl rfl (i := nI pl) (vp_in_nI (n := pl) (by omega) (by omega)) dX12_names_7 ?_
  refine kv (v := .int (f pl)) (by rw [nI_clamp (by omega)]) ?_
  obtain ⟨n_1, hn_1, en_1⟩ : ∃ n9 : Nat, n9 ≤ 12 ∧ f pl = nI n9 := id (hf)
  refine kv (v := .int (nI n_1)) (congrArg Value.int en_1) ?_
  refine lv_icmp_gt (tgt := 37) hx hb dX12_names_8 (by decide) (fun c_2 => ?_) (fun c_2 => ?_)
  · have nc_2 := cv_lt (a := n_1) (b := k4_3) (by omega) (by omega) c_2
    exact ct_vret hx hb hr hlk hS hP hD ga17_3 rfl ⟨(show Pd ga17_3 from (by first | assumption | omega)), (show ∀ i : Nat, i < 4 → ga17_3 i = dr i from (by first | assumption | omega))⟩ [0, 1, 2] rfl (by decide) trivial (Nat.le_of_ble_eq_true rfl) (Nat.le_of_ble_eq_true rfl) dX12_names_37
  · have nc_2 := cv_nlt (a := n_1) (b := k4_3) (by omega) (by omega) c_2
    refine lv_aload_n hx hb dX12_names_11 rfl (lv_at hl 1 rfl) ?_
    refine va_get (D := D) (ci := 12) (v := .ref a17) (C := RX12) (T := TX12) (N := 30) hx hb hts inlX12 hown hK hP 0 rfl rfl 17 (by decide) (hts _ mw_197) (fun _ h9 => h9) rfl dX12_names_12 ?_
    refine lv_iconst (v := 4) hx hb dX12_names_15 (by decide) ?_
    refine lv_bipush (v := 13) hx hb dX12_names_16 (by decide) ?_
    refine lv_iload_n hx hb dX12_names_18 rfl (lv_at hl 2 rfl) ?_
    refine lv_imul hx hb dX12_names_19 ?_
    refine ki (v := (nI (13 * b))) (pk_mul 13 b) ?_
    refine lv_iadd hx hb dX12_names_20 ?_
    refine ki (v := (nI (4 + (13 * b)))) (nI_add 4 (13 * b)) ?_
    refine lv_iload hx hb dX12_names_21 (lv_at hl 0 rfl) ?_
    refine lv_iadd hx hb dX12_names_23 ?_
    refine ki (v := (nI (4 + (13 * b) + k4_3))) (nI_add (4 + (13 * b)) k4_3) ?_
    refine lv_aload_n hx hb dX12_names_24 rfl (lv_at hl 3 rfl) ?_
    refine lv_iload_n hx hb dX12_names_25 rfl (lv_at hl 4 rfl) ?_
    refine lv_iload hx hb dX12_names_26 (lv_at hl 0 rfl) ?_
    refine lv_iadd hx hb dX12_names_28 ?_
    refine ki (v := (nI (pl + k4_3))) (nI_add pl k4_3) ?_
    refine va_iald hx hb hK hP 2 0 rfl rfl (i := nI (pl + k4_3)) (vp_in_nI (n := (pl + k4_3)) (by omega) (by omega)) dX12_names_29 ?_
    refine kv (v := .int (f (pl + k4_3))) (by rw [nI_clamp (by omega)]) ?_
    obtain ⟨x_3, ex_3⟩ : ∃ y9 : Int32, f (pl + k4_3) = y9 := ⟨_, rfl⟩
    refine kv (v := .int x_3) (congrArg Value.int ex_3) ?_
    refine va_iast hx hb hK hP hD hS 1 0 rfl rfl (i := nI (4 + (13 * b) + k4_3)) (x := x_3) (vp_in_nI (n := (4 + (13 * b) + k4_3)) (by omega) (by omega)) dX12_names_30 (fun H locs hP hD hS => ?_)
    rw [nI_clamp (by omega)] at hP hD
    have hP : va_P D vwCl [(m0, .inr (12, [.ref a0, .ref a1, .ref a2, .int (nI u3), .int f4, .ref a5, .int (nI u6), .int f7, .int f8, .int f9, .int f10, .int (nI u11), .int (nI u12), .int (nI u13), .ref a14, .ref a15, .ref a16, .ref a17, .int f18, .int f19, .ref a20, .ref a21, .int (nI u22), .ref a23, .ref a24, .ref a25, .int (nI u26), .int f27, .ref a28, .int (nI u29)])), (a17, .inl (κ 0, 7123, .inl (upd ga17_3 (4 + (13 * b) + k4_3) x_3))), (q, .inl (κ 0, N, .inl f))] H := hP
    have hD : va_D A [(m0, .inr (12, [.ref a0, .ref a1, .ref a2, .int (nI u3), .int f4, .ref a5, .int (nI u6), .int f7, .int f8, .int f9, .int f10, .int (nI u11), .int (nI u12), .int (nI u13), .ref a14, .ref a15, .ref a16, .ref a17, .int f18, .int f19, .ref a20, .ref a21, .int (nI u22), .ref a23, .ref a24, .ref a25, .int (nI u26), .int f27, .ref a28, .int (nI u29)])), (a17, .inl (κ 0, 7123, .inl (upd ga17_3 (4 + (13 * b) + k4_3) x_3))), (q, .inl (κ 0, N, .inl f))] := hD
    have hf_5 : Pd (upd ga17_3 (4 + (13 * b) + k4_3) x_3) := (PL_name hg3_0 (c := b) (k := k4_3) (by omega) (by omega) (by omega) (head_val ex_3 hf))
    have hq : ∀ i : Nat, i < 4 → (upd ga17_3 (4 + (13 * b) + k4_3) x_3) i = dr i := (fun i9 h9 => (pk_un (by omega)).trans (hl3_1 i9 h9))
    generalize upd ga17_3 (4 + (13 * b) + k4_3) x_3 = g_4 at hP hD hf_5 hq
    refine lv_iinc (v := (nI (k4_3 + 1))) (lv' := [(4, .int (nI (k4_3 + 1))), (0, .ref m0), (1, .int (nI b)), (2, .ref q), (3, .int (nI pl))]) hx hb dX12_names_31 hl (k := 0) rfl (nI_i k4_3) (by decide) rfl (fun ls hl => ?_)
    refine lv_goto (tgt := 3) hx hb dX12_names_34 (by decide) ?_
    exact ih3 _ _ _ _ (by omega) ⟨(k4_3 + 1), g_4, (by omega), hq, hf_5, rfl, hP, hD, hS, lv_sub hl [0, 1, 2, 3, 4] rfl⟩
