theorem lt_top {y : Int32} {k : Nat} (h : ¬ y ≤ nI k) (hk : k < 2147483648) : k + 1 < 2147483648 := by
  rw [Int32.le_iff_toInt_le, nI_toInt hk] at h
  have h2 := fb0_rng y
  omega
theorem in_of {t : Int32} {lo hi : Int64} {a b : Int} (hlo : lo.toInt = a) (hhi : hi.toInt = b) (h1 : ¬ lg_cmp t.toInt64 lo < 0) (h2 : ¬ 0 < lg_cmp t.toInt64 hi) : a ≤ t.toInt ∧ t.toInt ≤ b := by
  rw [lg_cmp_lt, Int64.lt_iff_toInt_lt, Int32.toInt_toInt64, hlo] at h1
  rw [lg_cmp_gt, Int64.lt_iff_toInt_lt, Int32.toInt_toInt64, hhi] at h2
  omega
theorem in_no {t : Int32} {lo hi : Int64} {a b : Int} (hlo : lo.toInt = a) (hhi : hi.toInt = b) (h : lg_cmp t.toInt64 lo < 0 ∨ 0 < lg_cmp t.toInt64 hi) : t.toInt < a ∨ b < t.toInt := by
  rw [lg_cmp_lt, Int64.lt_iff_toInt_lt, Int32.toInt_toInt64, hlo, lg_cmp_gt, Int64.lt_iff_toInt_lt, Int32.toInt_toInt64, hhi] at h
  exact h
theorem in_name {x : Int32} {n : Nat} (h1 : ¬ lg_cmp (nI n).toInt64 1 < 0) (h2 : ¬ 0 < lg_cmp (nI n).toInt64 12) (e : x = nI n) : ∃ n9 : Nat, n9 ≤ 12 ∧ x = nI n9 := by
  obtain ⟨h3, h4⟩ := in_of (lo := 1) (hi := 12) (a := 1) (b := 12) (by decide) (by decide) h1 h2
  obtain ⟨j, hj, e2, -⟩ := i_in (x := nI n) (n := 12) (by omega) (by omega)
  exact ⟨j, hj, e.trans e2⟩
theorem mw_218 : Cond.code yX12_isIn cX12_isIn 6 (some .boolean) ∈ wsL_law := lrk_10 _ (List.mem_of_getElem? (i := 2) rfl)
theorem dX12_isIn_0 : decode cX12_isIn 0 = .ok (.lload_n 0, 1) := by decide +kernel
theorem dX12_isIn_1 : decode cX12_isIn 1 = .ok (.lload_n 2, 1) := by decide +kernel
theorem dX12_isIn_2 : decode cX12_isIn 2 = .ok (.lcmp, 1) := by decide +kernel
theorem dX12_isIn_3 : decode cX12_isIn 3 = .ok (.ifCond .lt 14, 3) := by decide +kernel
theorem dX12_isIn_17 : decode cX12_isIn 17 = .ok (.iconst 0, 1) := by decide +kernel
theorem dX12_isIn_18 : decode cX12_isIn 18 = .ok (.ireturn, 1) := by decide +kernel
theorem dX12_isIn_6 : decode cX12_isIn 6 = .ok (.lload_n 0, 1) := by decide +kernel
theorem dX12_isIn_7 : decode cX12_isIn 7 = .ok (.lload 4, 2) := by decide +kernel
theorem dX12_isIn_9 : decode cX12_isIn 9 = .ok (.lcmp, 1) := by decide +kernel
theorem dX12_isIn_10 : decode cX12_isIn 10 = .ok (.ifCond .gt 7, 3) := by decide +kernel
theorem dX12_isIn_13 : decode cX12_isIn 13 = .ok (.iconst 1, 1) := by decide +kernel
theorem dX12_isIn_14 : decode cX12_isIn 14 = .ok (.goto 4, 3) := by decide +kernel
theorem mw_536 : Cond.code yX12_at cX12_at 2 (some .int) ∈ wsL_law := lrk_23 _ (List.mem_of_getElem? (i := 8) rfl)
theorem dX12_at_0 : decode cX12_at 0 = .ok (.sipush 7123, 3) := by decide +kernel
theorem dX12_at_3 : decode cX12_at 3 = .ok (.iload_n 0, 1) := by decide +kernel
theorem dX12_at_4 : decode cX12_at 4 = .ok (.imul, 1) := by decide +kernel
theorem dX12_at_5 : decode cX12_at 5 = .ok (.iload_n 1, 1) := by decide +kernel
theorem dX12_at_6 : decode cX12_at 6 = .ok (.iadd, 1) := by decide +kernel
theorem dX12_at_7 : decode cX12_at 7 = .ok (.ireturn, 1) := by decide +kernel
theorem mw_672 : Cond.code yX12_cellAt cX12_cellAt 3 (some .int) ∈ wsL_law := lrk_29 _ (List.mem_of_getElem? (i := 0) rfl)
theorem dX12_cellAt_0 : decode cX12_cellAt 0 = .ok (.sipush 7123, 3) := by decide +kernel
theorem dX12_cellAt_3 : decode cX12_cellAt 3 = .ok (.iload_n 0, 1) := by decide +kernel
theorem dX12_cellAt_4 : decode cX12_cellAt 4 = .ok (.imul, 1) := by decide +kernel
theorem dX12_cellAt_5 : decode cX12_cellAt 5 = .ok (.sipush 403, 3) := by decide +kernel
theorem dX12_cellAt_8 : decode cX12_cellAt 8 = .ok (.iadd, 1) := by decide +kernel
theorem dX12_cellAt_9 : decode cX12_cellAt 9 = .ok (.bipush 21, 2) := by decide +kernel
theorem dX12_cellAt_11 : decode cX12_cellAt 11 = .ok (.bipush 8, 2) := by decide +kernel
theorem dX12_cellAt_13 : decode cX12_cellAt 13 = .ok (.iload_n 1, 1) := by decide +kernel
theorem dX12_cellAt_14 : decode cX12_cellAt 14 = .ok (.imul, 1) := by decide +kernel
theorem dX12_cellAt_15 : decode cX12_cellAt 15 = .ok (.iload_n 2, 1) := by decide +kernel
theorem dX12_cellAt_16 : decode cX12_cellAt 16 = .ok (.iadd, 1) := by decide +kernel
theorem dX12_cellAt_17 : decode cX12_cellAt 17 = .ok (.imul, 1) := by decide +kernel
theorem dX12_cellAt_18 : decode cX12_cellAt 18 = .ok (.iadd, 1) := by decide +kernel
theorem dX12_cellAt_19 : decode cX12_cellAt 19 = .ok (.ireturn, 1) := by decide +kernel
theorem mw_738 : Cond.code yX12_nameAt cX12_nameAt 2 (some .int) ∈ wsL_law := lrk_31 _ (List.mem_of_getElem? (i := 18) rfl)
theorem dX12_nameAt_0 : decode cX12_nameAt 0 = .ok (.sipush 7123, 3) := by decide +kernel
theorem dX12_nameAt_3 : decode cX12_nameAt 3 = .ok (.iload_n 0, 1) := by decide +kernel
theorem dX12_nameAt_4 : decode cX12_nameAt 4 = .ok (.imul, 1) := by decide +kernel
theorem dX12_nameAt_5 : decode cX12_nameAt 5 = .ok (.iconst 4, 1) := by decide +kernel
theorem dX12_nameAt_6 : decode cX12_nameAt 6 = .ok (.iadd, 1) := by decide +kernel
theorem dX12_nameAt_7 : decode cX12_nameAt 7 = .ok (.bipush 13, 2) := by decide +kernel
theorem dX12_nameAt_9 : decode cX12_nameAt 9 = .ok (.iload_n 1, 1) := by decide +kernel
theorem dX12_nameAt_10 : decode cX12_nameAt 10 = .ok (.imul, 1) := by decide +kernel
theorem dX12_nameAt_11 : decode cX12_nameAt 11 = .ok (.iadd, 1) := by decide +kernel
theorem dX12_nameAt_12 : decode cX12_nameAt 12 = .ok (.ireturn, 1) := by decide +kernel
theorem mw_493 : Cond.code yX12_isDigit cX12_isDigit 1 (some .boolean) ∈ wsL_law := lrk_21 _ (List.mem_of_getElem? (i := 13) rfl)
theorem dX12_isDigit_0 : decode cX12_isDigit 0 = .ok (.iload_n 0, 1) := by decide +kernel
theorem dX12_isDigit_1 : decode cX12_isDigit 1 = .ok (.i2l, 1) := by decide +kernel
theorem dX12_isDigit_2 : decode cX12_isDigit 2 = .ok (.ldc2_w 89, 3) := by decide +kernel
theorem mw_494 : Cond.constantLong RX12 89 (48) ∈ wsL_law := lrk_21 _ (List.mem_of_getElem? (i := 14) rfl)
theorem dX12_isDigit_5 : decode cX12_isDigit 5 = .ok (.ldc2_w 91, 3) := by decide +kernel
theorem mw_495 : Cond.constantLong RX12 91 (57) ∈ wsL_law := lrk_21 _ (List.mem_of_getElem? (i := 15) rfl)
theorem dX12_isDigit_8 : decode cX12_isDigit 8 = .ok (.invokestatic 62, 3) := by decide +kernel
theorem mw_216 : Cond.methodLink RX12 62 yX12_isIn ∈ wsL_law := lrk_10 _ (List.mem_of_getElem? (i := 0) rfl)
theorem mw_5 : Cond.initialized RX12 ∈ wsL_law := lrk_1 _ (List.mem_of_getElem? (i := 5) rfl)
theorem mw_217 : Cond.static yX12_isIn ∈ wsL_law := lrk_10 _ (List.mem_of_getElem? (i := 1) rfl)
theorem gS_X12_62 : GoodIn wsL_law (va_wsS RX12 62 yX12_isIn (wl yX12_isIn cX12_isIn 6 (some .boolean))) := g_S mw_216 mw_217 mw_5 mw_218
theorem hdS_X12_isIn : okD yX12_isIn 3 := by decide +kernel
theorem dX12_isDigit_11 : decode cX12_isDigit 11 = .ok (.ireturn, 1) := by decide +kernel
theorem mw_486 : Cond.code yX12_isLetter cX12_isLetter 1 (some .boolean) ∈ wsL_law := lrk_21 _ (List.mem_of_getElem? (i := 6) rfl)
theorem dX12_isLetter_0 : decode cX12_isLetter 0 = .ok (.iload_n 0, 1) := by decide +kernel
theorem dX12_isLetter_1 : decode cX12_isLetter 1 = .ok (.i2l, 1) := by decide +kernel
theorem dX12_isLetter_2 : decode cX12_isLetter 2 = .ok (.ldc2_w 93, 3) := by decide +kernel
theorem mw_487 : Cond.constantLong RX12 93 (97) ∈ wsL_law := lrk_21 _ (List.mem_of_getElem? (i := 7) rfl)
theorem dX12_isLetter_5 : decode cX12_isLetter 5 = .ok (.ldc2_w 95, 3) := by decide +kernel
theorem mw_488 : Cond.constantLong RX12 95 (122) ∈ wsL_law := lrk_21 _ (List.mem_of_getElem? (i := 8) rfl)
theorem dX12_isLetter_8 : decode cX12_isLetter 8 = .ok (.invokestatic 62, 3) := by decide +kernel
theorem dX12_isLetter_11 : decode cX12_isLetter 11 = .ok (.ifCond .ne 30, 3) := by decide +kernel
theorem dX12_isLetter_41 : decode cX12_isLetter 41 = .ok (.iconst 1, 1) := by decide +kernel
theorem dX12_isLetter_42 : decode cX12_isLetter 42 = .ok (.goto 4, 3) := by decide +kernel
theorem dX12_isLetter_46 : decode cX12_isLetter 46 = .ok (.ireturn, 1) := by decide +kernel
theorem dX12_isLetter_14 : decode cX12_isLetter 14 = .ok (.iload_n 0, 1) := by decide +kernel
theorem dX12_isLetter_15 : decode cX12_isLetter 15 = .ok (.i2l, 1) := by decide +kernel
theorem dX12_isLetter_16 : decode cX12_isLetter 16 = .ok (.ldc2_w 97, 3) := by decide +kernel
theorem mw_489 : Cond.constantLong RX12 97 (65) ∈ wsL_law := lrk_21 _ (List.mem_of_getElem? (i := 9) rfl)
theorem dX12_isLetter_19 : decode cX12_isLetter 19 = .ok (.ldc2_w 99, 3) := by decide +kernel
theorem mw_490 : Cond.constantLong RX12 99 (90) ∈ wsL_law := lrk_21 _ (List.mem_of_getElem? (i := 10) rfl)
theorem dX12_isLetter_22 : decode cX12_isLetter 22 = .ok (.invokestatic 62, 3) := by decide +kernel
theorem dX12_isLetter_25 : decode cX12_isLetter 25 = .ok (.ifCond .ne 16, 3) := by decide +kernel
theorem dX12_isLetter_28 : decode cX12_isLetter 28 = .ok (.iload_n 0, 1) := by decide +kernel
theorem dX12_isLetter_29 : decode cX12_isLetter 29 = .ok (.invokestatic 101, 3) := by decide +kernel
theorem mw_491 : Cond.methodLink RX12 101 yX12_isDigit ∈ wsL_law := lrk_21 _ (List.mem_of_getElem? (i := 11) rfl)
theorem mw_492 : Cond.static yX12_isDigit ∈ wsL_law := lrk_21 _ (List.mem_of_getElem? (i := 12) rfl)
theorem gS_X12_101 : GoodIn wsL_law (va_wsS RX12 101 yX12_isDigit (wl yX12_isDigit cX12_isDigit 1 (some .boolean))) := g_S mw_491 mw_492 mw_5 mw_493
theorem hdS_X12_isDigit : okD yX12_isDigit 1 := by decide +kernel
theorem dX12_isLetter_32 : decode cX12_isLetter 32 = .ok (.ifCond .ne 9, 3) := by decide +kernel
theorem dX12_isLetter_35 : decode cX12_isLetter 35 = .ok (.iload_n 0, 1) := by decide +kernel
theorem dX12_isLetter_36 : decode cX12_isLetter 36 = .ok (.bipush 95, 2) := by decide +kernel
theorem dX12_isLetter_38 : decode cX12_isLetter 38 = .ok (.if_icmp .ne 7, 3) := by decide +kernel
theorem dX12_isLetter_45 : decode cX12_isLetter 45 = .ok (.iconst 0, 1) := by decide +kernel
theorem mw_654 : Cond.code yX12_digitsFrom cX12_digitsFrom 4 (some .int) ∈ wsL_law := lrk_28 _ (List.mem_of_getElem? (i := 6) rfl)
theorem dX12_digitsFrom_0 : decode cX12_digitsFrom 0 = .ok (.iconst 0, 1) := by decide +kernel
theorem dX12_digitsFrom_1 : decode cX12_digitsFrom 1 = .ok (.istore_n 3, 1) := by decide +kernel
theorem dX12_digitsFrom_2 : decode cX12_digitsFrom 2 = .ok (.iload_n 2, 1) := by decide +kernel
theorem dX12_digitsFrom_3 : decode cX12_digitsFrom 3 = .ok (.iload_n 3, 1) := by decide +kernel
theorem dX12_digitsFrom_4 : decode cX12_digitsFrom 4 = .ok (.iadd, 1) := by decide +kernel
theorem dX12_digitsFrom_5 : decode cX12_digitsFrom 5 = .ok (.aload_n 0, 1) := by decide +kernel
theorem dX12_digitsFrom_6 : decode cX12_digitsFrom 6 = .ok (.iload_n 1, 1) := by decide +kernel
theorem dX12_digitsFrom_7 : decode cX12_digitsFrom 7 = .ok (.iaload, 1) := by decide +kernel
theorem dX12_digitsFrom_8 : decode cX12_digitsFrom 8 = .ok (.if_icmp .ge 24, 3) := by decide +kernel
theorem dX12_digitsFrom_32 : decode cX12_digitsFrom 32 = .ok (.iload_n 3, 1) := by decide +kernel
theorem dX12_digitsFrom_33 : decode cX12_digitsFrom 33 = .ok (.ireturn, 1) := by decide +kernel
theorem dX12_digitsFrom_11 : decode cX12_digitsFrom 11 = .ok (.aload_n 0, 1) := by decide +kernel
theorem dX12_digitsFrom_12 : decode cX12_digitsFrom 12 = .ok (.iload_n 1, 1) := by decide +kernel
theorem dX12_digitsFrom_13 : decode cX12_digitsFrom 13 = .ok (.iconst 1, 1) := by decide +kernel
theorem dX12_digitsFrom_14 : decode cX12_digitsFrom 14 = .ok (.iadd, 1) := by decide +kernel
theorem dX12_digitsFrom_15 : decode cX12_digitsFrom 15 = .ok (.iload_n 2, 1) := by decide +kernel
theorem dX12_digitsFrom_16 : decode cX12_digitsFrom 16 = .ok (.iadd, 1) := by decide +kernel
theorem dX12_digitsFrom_17 : decode cX12_digitsFrom 17 = .ok (.iload_n 3, 1) := by decide +kernel
theorem dX12_digitsFrom_18 : decode cX12_digitsFrom 18 = .ok (.iadd, 1) := by decide +kernel
theorem dX12_digitsFrom_19 : decode cX12_digitsFrom 19 = .ok (.iaload, 1) := by decide +kernel
theorem dX12_digitsFrom_20 : decode cX12_digitsFrom 20 = .ok (.invokestatic 101, 3) := by decide +kernel
theorem dX12_digitsFrom_23 : decode cX12_digitsFrom 23 = .ok (.ifCond .eq 9, 3) := by decide +kernel
theorem dX12_digitsFrom_26 : decode cX12_digitsFrom 26 = .ok (.iinc 3 1, 3) := by decide +kernel
theorem dX12_digitsFrom_29 : decode cX12_digitsFrom 29 = .ok (.goto (-27), 3) := by decide +kernel
theorem mw_645 : Cond.code yX12_spells cX12_spells 9 (some .boolean) ∈ wsL_law := lrk_27 _ (List.mem_of_getElem? (i := 21) rfl)
theorem dX12_spells_0 : decode cX12_spells 0 = .ok (.aload_n 0, 1) := by decide +kernel
theorem dX12_spells_1 : decode cX12_spells 1 = .ok (.iload_n 1, 1) := by decide +kernel
theorem dX12_spells_2 : decode cX12_spells 2 = .ok (.iaload, 1) := by decide +kernel
theorem dX12_spells_3 : decode cX12_spells 3 = .ok (.istore 7, 2) := by decide +kernel
theorem dX12_spells_5 : decode cX12_spells 5 = .ok (.iload 4, 2) := by decide +kernel
theorem dX12_spells_7 : decode cX12_spells 7 = .ok (.ifCond .ne 7, 3) := by decide +kernel
theorem dX12_spells_14 : decode cX12_spells 14 = .ok (.iload 5, 2) := by decide +kernel
theorem dX12_spells_16 : decode cX12_spells 16 = .ok (.ifCond .ne 7, 3) := by decide +kernel
theorem dX12_spells_23 : decode cX12_spells 23 = .ok (.iload 6, 2) := by decide +kernel
theorem dX12_spells_25 : decode cX12_spells 25 = .ok (.ifCond .ne 7, 3) := by decide +kernel
theorem dX12_spells_32 : decode cX12_spells 32 = .ok (.iconst 5, 1) := by decide +kernel
theorem dX12_spells_33 : decode cX12_spells 33 = .ok (.istore 8, 2) := by decide +kernel
theorem dX12_spells_35 : decode cX12_spells 35 = .ok (.iload 7, 2) := by decide +kernel
theorem dX12_spells_37 : decode cX12_spells 37 = .ok (.iload 8, 2) := by decide +kernel
theorem dX12_spells_39 : decode cX12_spells 39 = .ok (.if_icmp .ne 21, 3) := by decide +kernel
theorem dX12_spells_60 : decode cX12_spells 60 = .ok (.iconst 0, 1) := by decide +kernel
theorem dX12_spells_61 : decode cX12_spells 61 = .ok (.ireturn, 1) := by decide +kernel
theorem dX12_spells_42 : decode cX12_spells 42 = .ok (.aload_n 0, 1) := by decide +kernel
theorem dX12_spells_43 : decode cX12_spells 43 = .ok (.iload_n 1, 1) := by decide +kernel
theorem dX12_spells_44 : decode cX12_spells 44 = .ok (.iconst 1, 1) := by decide +kernel
theorem dX12_spells_45 : decode cX12_spells 45 = .ok (.iadd, 1) := by decide +kernel
theorem dX12_spells_46 : decode cX12_spells 46 = .ok (.iaload, 1) := by decide +kernel
theorem dX12_spells_47 : decode cX12_spells 47 = .ok (.iload_n 2, 1) := by decide +kernel
theorem dX12_spells_48 : decode cX12_spells 48 = .ok (.if_icmp .ne 12, 3) := by decide +kernel
theorem dX12_spells_51 : decode cX12_spells 51 = .ok (.aload_n 0, 1) := by decide +kernel
theorem dX12_spells_52 : decode cX12_spells 52 = .ok (.iload_n 1, 1) := by decide +kernel
theorem dX12_spells_53 : decode cX12_spells 53 = .ok (.iconst 2, 1) := by decide +kernel
theorem dX12_spells_54 : decode cX12_spells 54 = .ok (.iadd, 1) := by decide +kernel
theorem dX12_spells_55 : decode cX12_spells 55 = .ok (.iaload, 1) := by decide +kernel
theorem dX12_spells_56 : decode cX12_spells 56 = .ok (.iload_n 3, 1) := by decide +kernel
theorem dX12_spells_57 : decode cX12_spells 57 = .ok (.if_icmp .eq 5, 3) := by decide +kernel
theorem dX12_spells_62 : decode cX12_spells 62 = .ok (.iload 7, 2) := by decide +kernel
theorem dX12_spells_64 : decode cX12_spells 64 = .ok (.iconst 3, 1) := by decide +kernel
theorem dX12_spells_65 : decode cX12_spells 65 = .ok (.if_icmp .lt 13, 3) := by decide +kernel
theorem dX12_spells_78 : decode cX12_spells 78 = .ok (.iload 7, 2) := by decide +kernel
theorem dX12_spells_80 : decode cX12_spells 80 = .ok (.iconst 4, 1) := by decide +kernel
theorem dX12_spells_81 : decode cX12_spells 81 = .ok (.if_icmp .lt 13, 3) := by decide +kernel
theorem dX12_spells_94 : decode cX12_spells 94 = .ok (.iload 7, 2) := by decide +kernel
theorem dX12_spells_96 : decode cX12_spells 96 = .ok (.iconst 5, 1) := by decide +kernel
theorem dX12_spells_97 : decode cX12_spells 97 = .ok (.if_icmp .lt 13, 3) := by decide +kernel
theorem dX12_spells_110 : decode cX12_spells 110 = .ok (.iconst 1, 1) := by decide +kernel
theorem dX12_spells_111 : decode cX12_spells 111 = .ok (.goto 4, 3) := by decide +kernel
theorem dX12_spells_115 : decode cX12_spells 115 = .ok (.ireturn, 1) := by decide +kernel
theorem dX12_spells_100 : decode cX12_spells 100 = .ok (.aload_n 0, 1) := by decide +kernel
theorem dX12_spells_101 : decode cX12_spells 101 = .ok (.iload_n 1, 1) := by decide +kernel
theorem dX12_spells_102 : decode cX12_spells 102 = .ok (.iconst 5, 1) := by decide +kernel
theorem dX12_spells_103 : decode cX12_spells 103 = .ok (.iadd, 1) := by decide +kernel
theorem dX12_spells_104 : decode cX12_spells 104 = .ok (.iaload, 1) := by decide +kernel
theorem dX12_spells_105 : decode cX12_spells 105 = .ok (.iload 6, 2) := by decide +kernel
theorem dX12_spells_107 : decode cX12_spells 107 = .ok (.if_icmp .ne 7, 3) := by decide +kernel
theorem dX12_spells_114 : decode cX12_spells 114 = .ok (.iconst 0, 1) := by decide +kernel
theorem dX12_spells_84 : decode cX12_spells 84 = .ok (.aload_n 0, 1) := by decide +kernel
theorem dX12_spells_85 : decode cX12_spells 85 = .ok (.iload_n 1, 1) := by decide +kernel
theorem dX12_spells_86 : decode cX12_spells 86 = .ok (.iconst 4, 1) := by decide +kernel
theorem dX12_spells_87 : decode cX12_spells 87 = .ok (.iadd, 1) := by decide +kernel
theorem dX12_spells_88 : decode cX12_spells 88 = .ok (.iaload, 1) := by decide +kernel
theorem dX12_spells_89 : decode cX12_spells 89 = .ok (.iload 5, 2) := by decide +kernel
theorem dX12_spells_91 : decode cX12_spells 91 = .ok (.if_icmp .ne 23, 3) := by decide +kernel
theorem dX12_spells_68 : decode cX12_spells 68 = .ok (.aload_n 0, 1) := by decide +kernel
theorem dX12_spells_69 : decode cX12_spells 69 = .ok (.iload_n 1, 1) := by decide +kernel
theorem dX12_spells_70 : decode cX12_spells 70 = .ok (.iconst 3, 1) := by decide +kernel
theorem dX12_spells_71 : decode cX12_spells 71 = .ok (.iadd, 1) := by decide +kernel
theorem dX12_spells_72 : decode cX12_spells 72 = .ok (.iaload, 1) := by decide +kernel
theorem dX12_spells_73 : decode cX12_spells 73 = .ok (.iload 4, 2) := by decide +kernel
theorem dX12_spells_75 : decode cX12_spells 75 = .ok (.if_icmp .ne 39, 3) := by decide +kernel
theorem dX12_spells_28 : decode cX12_spells 28 = .ok (.iconst 4, 1) := by decide +kernel
theorem dX12_spells_29 : decode cX12_spells 29 = .ok (.goto 4, 3) := by decide +kernel
theorem dX12_spells_19 : decode cX12_spells 19 = .ok (.iconst 3, 1) := by decide +kernel
theorem dX12_spells_20 : decode cX12_spells 20 = .ok (.goto 13, 3) := by decide +kernel
theorem dX12_spells_10 : decode cX12_spells 10 = .ok (.iconst 2, 1) := by decide +kernel
theorem dX12_spells_11 : decode cX12_spells 11 = .ok (.goto 22, 3) := by decide +kernel
theorem mw_642 : Cond.code yX12_isYes cX12_isYes 2 (some .boolean) ∈ wsL_law := lrk_27 _ (List.mem_of_getElem? (i := 18) rfl)
theorem dX12_isYes_0 : decode cX12_isYes 0 = .ok (.aload_n 0, 1) := by decide +kernel
theorem dX12_isYes_1 : decode cX12_isYes 1 = .ok (.iload_n 1, 1) := by decide +kernel
theorem dX12_isYes_2 : decode cX12_isYes 2 = .ok (.bipush 121, 2) := by decide +kernel
theorem dX12_isYes_4 : decode cX12_isYes 4 = .ok (.bipush 101, 2) := by decide +kernel
theorem dX12_isYes_6 : decode cX12_isYes 6 = .ok (.bipush 115, 2) := by decide +kernel
theorem dX12_isYes_8 : decode cX12_isYes 8 = .ok (.iconst 0, 1) := by decide +kernel
theorem dX12_isYes_9 : decode cX12_isYes 9 = .ok (.iconst 0, 1) := by decide +kernel
theorem dX12_isYes_10 : decode cX12_isYes 10 = .ok (.invokestatic 104, 3) := by decide +kernel
theorem mw_643 : Cond.methodLink RX12 104 yX12_spells ∈ wsL_law := lrk_27 _ (List.mem_of_getElem? (i := 19) rfl)
theorem mw_644 : Cond.static yX12_spells ∈ wsL_law := lrk_27 _ (List.mem_of_getElem? (i := 20) rfl)
theorem gS_X12_104 : GoodIn wsL_law (va_wsS RX12 104 yX12_spells (wl yX12_spells cX12_spells 9 (some .boolean))) := g_S mw_643 mw_644 mw_5 mw_645
theorem hdS_X12_spells : okD yX12_spells 7 := by decide +kernel
theorem dX12_isYes_13 : decode cX12_isYes 13 = .ok (.ifCond .ne 20, 3) := by decide +kernel
theorem dX12_isYes_33 : decode cX12_isYes 33 = .ok (.iconst 1, 1) := by decide +kernel
theorem dX12_isYes_34 : decode cX12_isYes 34 = .ok (.goto 4, 3) := by decide +kernel
theorem dX12_isYes_38 : decode cX12_isYes 38 = .ok (.ireturn, 1) := by decide +kernel
theorem dX12_isYes_16 : decode cX12_isYes 16 = .ok (.aload_n 0, 1) := by decide +kernel
theorem dX12_isYes_17 : decode cX12_isYes 17 = .ok (.iload_n 1, 1) := by decide +kernel
theorem dX12_isYes_18 : decode cX12_isYes 18 = .ok (.bipush 116, 2) := by decide +kernel
theorem dX12_isYes_20 : decode cX12_isYes 20 = .ok (.bipush 114, 2) := by decide +kernel
theorem dX12_isYes_22 : decode cX12_isYes 22 = .ok (.bipush 117, 2) := by decide +kernel
theorem dX12_isYes_24 : decode cX12_isYes 24 = .ok (.bipush 101, 2) := by decide +kernel
theorem dX12_isYes_26 : decode cX12_isYes 26 = .ok (.iconst 0, 1) := by decide +kernel
theorem dX12_isYes_27 : decode cX12_isYes 27 = .ok (.invokestatic 104, 3) := by decide +kernel
theorem dX12_isYes_30 : decode cX12_isYes 30 = .ok (.ifCond .eq 7, 3) := by decide +kernel
theorem dX12_isYes_37 : decode cX12_isYes 37 = .ok (.iconst 0, 1) := by decide +kernel
theorem mw_648 : Cond.code yX12_isNo cX12_isNo 2 (some .boolean) ∈ wsL_law := lrk_28 _ (List.mem_of_getElem? (i := 0) rfl)
theorem dX12_isNo_0 : decode cX12_isNo 0 = .ok (.aload_n 0, 1) := by decide +kernel
theorem dX12_isNo_1 : decode cX12_isNo 1 = .ok (.iload_n 1, 1) := by decide +kernel
theorem dX12_isNo_2 : decode cX12_isNo 2 = .ok (.bipush 110, 2) := by decide +kernel
theorem dX12_isNo_4 : decode cX12_isNo 4 = .ok (.bipush 111, 2) := by decide +kernel
theorem dX12_isNo_6 : decode cX12_isNo 6 = .ok (.iconst 0, 1) := by decide +kernel
theorem dX12_isNo_7 : decode cX12_isNo 7 = .ok (.iconst 0, 1) := by decide +kernel
theorem dX12_isNo_8 : decode cX12_isNo 8 = .ok (.iconst 0, 1) := by decide +kernel
theorem dX12_isNo_9 : decode cX12_isNo 9 = .ok (.invokestatic 104, 3) := by decide +kernel
theorem dX12_isNo_12 : decode cX12_isNo 12 = .ok (.ifCond .ne 21, 3) := by decide +kernel
theorem dX12_isNo_33 : decode cX12_isNo 33 = .ok (.iconst 1, 1) := by decide +kernel
theorem dX12_isNo_34 : decode cX12_isNo 34 = .ok (.goto 4, 3) := by decide +kernel
theorem dX12_isNo_38 : decode cX12_isNo 38 = .ok (.ireturn, 1) := by decide +kernel
theorem dX12_isNo_15 : decode cX12_isNo 15 = .ok (.aload_n 0, 1) := by decide +kernel
theorem dX12_isNo_16 : decode cX12_isNo 16 = .ok (.iload_n 1, 1) := by decide +kernel
theorem dX12_isNo_17 : decode cX12_isNo 17 = .ok (.bipush 102, 2) := by decide +kernel
theorem dX12_isNo_19 : decode cX12_isNo 19 = .ok (.bipush 97, 2) := by decide +kernel
theorem dX12_isNo_21 : decode cX12_isNo 21 = .ok (.bipush 108, 2) := by decide +kernel
theorem dX12_isNo_23 : decode cX12_isNo 23 = .ok (.bipush 115, 2) := by decide +kernel
theorem dX12_isNo_25 : decode cX12_isNo 25 = .ok (.bipush 101, 2) := by decide +kernel
theorem dX12_isNo_27 : decode cX12_isNo 27 = .ok (.invokestatic 104, 3) := by decide +kernel
theorem dX12_isNo_30 : decode cX12_isNo 30 = .ok (.ifCond .eq 7, 3) := by decide +kernel
theorem dX12_isNo_37 : decode cX12_isNo 37 = .ok (.iconst 0, 1) := by decide +kernel
theorem mw_657 : Cond.code yX12_two cX12_two 3 (some .int) ∈ wsL_law := lrk_28 _ (List.mem_of_getElem? (i := 9) rfl)
theorem dX12_two_0 : decode cX12_two 0 = .ok (.bipush 10, 2) := by decide +kernel
theorem dX12_two_2 : decode cX12_two 2 = .ok (.aload_n 0, 1) := by decide +kernel
theorem dX12_two_3 : decode cX12_two 3 = .ok (.iload_n 1, 1) := by decide +kernel
theorem dX12_two_4 : decode cX12_two 4 = .ok (.iconst 1, 1) := by decide +kernel
theorem dX12_two_5 : decode cX12_two 5 = .ok (.iadd, 1) := by decide +kernel
theorem dX12_two_6 : decode cX12_two 6 = .ok (.iload_n 2, 1) := by decide +kernel
theorem dX12_two_7 : decode cX12_two 7 = .ok (.iadd, 1) := by decide +kernel
theorem dX12_two_8 : decode cX12_two 8 = .ok (.iaload, 1) := by decide +kernel
theorem dX12_two_9 : decode cX12_two 9 = .ok (.bipush 48, 2) := by decide +kernel
theorem dX12_two_11 : decode cX12_two 11 = .ok (.isub, 1) := by decide +kernel
theorem dX12_two_12 : decode cX12_two 12 = .ok (.imul, 1) := by decide +kernel
theorem dX12_two_13 : decode cX12_two 13 = .ok (.aload_n 0, 1) := by decide +kernel
theorem dX12_two_14 : decode cX12_two 14 = .ok (.iload_n 1, 1) := by decide +kernel
theorem dX12_two_15 : decode cX12_two 15 = .ok (.iconst 2, 1) := by decide +kernel
theorem dX12_two_16 : decode cX12_two 16 = .ok (.iadd, 1) := by decide +kernel
theorem dX12_two_17 : decode cX12_two 17 = .ok (.iload_n 2, 1) := by decide +kernel
theorem dX12_two_18 : decode cX12_two 18 = .ok (.iadd, 1) := by decide +kernel
theorem dX12_two_19 : decode cX12_two 19 = .ok (.iaload, 1) := by decide +kernel
theorem dX12_two_20 : decode cX12_two 20 = .ok (.iadd, 1) := by decide +kernel
theorem dX12_two_21 : decode cX12_two 21 = .ok (.bipush 48, 2) := by decide +kernel
theorem dX12_two_23 : decode cX12_two 23 = .ok (.isub, 1) := by decide +kernel
theorem dX12_two_24 : decode cX12_two 24 = .ok (.ireturn, 1) := by decide +kernel
theorem mw_663 : Cond.code yX12_isLeap cX12_isLeap 1 (some .boolean) ∈ wsL_law := lrk_28 _ (List.mem_of_getElem? (i := 15) rfl)
theorem dX12_isLeap_0 : decode cX12_isLeap 0 = .ok (.iload_n 0, 1) := by decide +kernel
theorem dX12_isLeap_1 : decode cX12_isLeap 1 = .ok (.iconst 4, 1) := by decide +kernel
theorem dX12_isLeap_2 : decode cX12_isLeap 2 = .ok (.irem, 1) := by decide +kernel
theorem dX12_isLeap_3 : decode cX12_isLeap 3 = .ok (.ifCond .ne 22, 3) := by decide +kernel
theorem dX12_isLeap_25 : decode cX12_isLeap 25 = .ok (.iconst 0, 1) := by decide +kernel
theorem dX12_isLeap_26 : decode cX12_isLeap 26 = .ok (.ireturn, 1) := by decide +kernel
theorem dX12_isLeap_6 : decode cX12_isLeap 6 = .ok (.iload_n 0, 1) := by decide +kernel
theorem dX12_isLeap_7 : decode cX12_isLeap 7 = .ok (.bipush 100, 2) := by decide +kernel
theorem dX12_isLeap_9 : decode cX12_isLeap 9 = .ok (.irem, 1) := by decide +kernel
theorem dX12_isLeap_10 : decode cX12_isLeap 10 = .ok (.ifCond .ne 11, 3) := by decide +kernel
theorem dX12_isLeap_21 : decode cX12_isLeap 21 = .ok (.iconst 1, 1) := by decide +kernel
theorem dX12_isLeap_22 : decode cX12_isLeap 22 = .ok (.goto 4, 3) := by decide +kernel
theorem dX12_isLeap_13 : decode cX12_isLeap 13 = .ok (.iload_n 0, 1) := by decide +kernel
theorem dX12_isLeap_14 : decode cX12_isLeap 14 = .ok (.sipush 400, 3) := by decide +kernel
theorem dX12_isLeap_17 : decode cX12_isLeap 17 = .ok (.irem, 1) := by decide +kernel
theorem dX12_isLeap_18 : decode cX12_isLeap 18 = .ok (.ifCond .ne 7, 3) := by decide +kernel
theorem mw_660 : Cond.code yX12_daysOf cX12_daysOf 2 (some .int) ∈ wsL_law := lrk_28 _ (List.mem_of_getElem? (i := 12) rfl)
theorem dX12_daysOf_0 : decode cX12_daysOf 0 = .ok (.iload_n 1, 1) := by decide +kernel
theorem dX12_daysOf_1 : decode cX12_daysOf 1 = .ok (.iconst 2, 1) := by decide +kernel
theorem dX12_daysOf_2 : decode cX12_daysOf 2 = .ok (.if_icmp .ne 18, 3) := by decide +kernel
theorem dX12_daysOf_20 : decode cX12_daysOf 20 = .ok (.iload_n 1, 1) := by decide +kernel
theorem dX12_daysOf_21 : decode cX12_daysOf 21 = .ok (.iconst 4, 1) := by decide +kernel
theorem dX12_daysOf_22 : decode cX12_daysOf 22 = .ok (.if_icmp .eq 21, 3) := by decide +kernel
theorem dX12_daysOf_43 : decode cX12_daysOf 43 = .ok (.bipush 30, 2) := by decide +kernel
theorem dX12_daysOf_45 : decode cX12_daysOf 45 = .ok (.goto 5, 3) := by decide +kernel
theorem dX12_daysOf_50 : decode cX12_daysOf 50 = .ok (.ireturn, 1) := by decide +kernel
theorem dX12_daysOf_25 : decode cX12_daysOf 25 = .ok (.iload_n 1, 1) := by decide +kernel
theorem dX12_daysOf_26 : decode cX12_daysOf 26 = .ok (.bipush 6, 2) := by decide +kernel
theorem dX12_daysOf_28 : decode cX12_daysOf 28 = .ok (.if_icmp .eq 15, 3) := by decide +kernel
theorem dX12_daysOf_31 : decode cX12_daysOf 31 = .ok (.iload_n 1, 1) := by decide +kernel
theorem dX12_daysOf_32 : decode cX12_daysOf 32 = .ok (.bipush 9, 2) := by decide +kernel
theorem dX12_daysOf_34 : decode cX12_daysOf 34 = .ok (.if_icmp .eq 9, 3) := by decide +kernel
theorem dX12_daysOf_37 : decode cX12_daysOf 37 = .ok (.iload_n 1, 1) := by decide +kernel
theorem dX12_daysOf_38 : decode cX12_daysOf 38 = .ok (.bipush 11, 2) := by decide +kernel
theorem dX12_daysOf_40 : decode cX12_daysOf 40 = .ok (.if_icmp .ne 8, 3) := by decide +kernel
theorem dX12_daysOf_48 : decode cX12_daysOf 48 = .ok (.bipush 31, 2) := by decide +kernel
theorem dX12_daysOf_5 : decode cX12_daysOf 5 = .ok (.iload_n 0, 1) := by decide +kernel
theorem dX12_daysOf_6 : decode cX12_daysOf 6 = .ok (.invokestatic 108, 3) := by decide +kernel
theorem mw_661 : Cond.methodLink RX12 108 yX12_isLeap ∈ wsL_law := lrk_28 _ (List.mem_of_getElem? (i := 13) rfl)
theorem mw_662 : Cond.static yX12_isLeap ∈ wsL_law := lrk_28 _ (List.mem_of_getElem? (i := 14) rfl)
theorem gS_X12_108 : GoodIn wsL_law (va_wsS RX12 108 yX12_isLeap (wl yX12_isLeap cX12_isLeap 1 (some .boolean))) := g_S mw_661 mw_662 mw_5 mw_663
theorem hdS_X12_isLeap : okD yX12_isLeap 1 := by decide +kernel
theorem dX12_daysOf_9 : decode cX12_daysOf 9 = .ok (.ifCond .eq 8, 3) := by decide +kernel
theorem dX12_daysOf_12 : decode cX12_daysOf 12 = .ok (.bipush 29, 2) := by decide +kernel
theorem dX12_daysOf_14 : decode cX12_daysOf 14 = .ok (.goto 5, 3) := by decide +kernel
theorem dX12_daysOf_19 : decode cX12_daysOf 19 = .ok (.ireturn, 1) := by decide +kernel
theorem dX12_daysOf_17 : decode cX12_daysOf 17 = .ok (.bipush 28, 2) := by decide +kernel
theorem mw_651 : Cond.code yX12_isDate cX12_isDate 4 (some .boolean) ∈ wsL_law := lrk_28 _ (List.mem_of_getElem? (i := 3) rfl)
theorem dX12_isDate_0 : decode cX12_isDate 0 = .ok (.aload_n 0, 1) := by decide +kernel
theorem dX12_isDate_1 : decode cX12_isDate 1 = .ok (.iload_n 1, 1) := by decide +kernel
theorem dX12_isDate_2 : decode cX12_isDate 2 = .ok (.iaload, 1) := by decide +kernel
theorem dX12_isDate_3 : decode cX12_isDate 3 = .ok (.bipush 10, 2) := by decide +kernel
theorem dX12_isDate_5 : decode cX12_isDate 5 = .ok (.if_icmp .ne 34, 3) := by decide +kernel
theorem dX12_isDate_39 : decode cX12_isDate 39 = .ok (.iconst 0, 1) := by decide +kernel
theorem dX12_isDate_40 : decode cX12_isDate 40 = .ok (.ireturn, 1) := by decide +kernel
theorem dX12_isDate_8 : decode cX12_isDate 8 = .ok (.aload_n 0, 1) := by decide +kernel
theorem dX12_isDate_9 : decode cX12_isDate 9 = .ok (.iload_n 1, 1) := by decide +kernel
theorem dX12_isDate_10 : decode cX12_isDate 10 = .ok (.iconst 0, 1) := by decide +kernel
theorem dX12_isDate_11 : decode cX12_isDate 11 = .ok (.invokestatic 111, 3) := by decide +kernel
theorem mw_652 : Cond.methodLink RX12 111 yX12_digitsFrom ∈ wsL_law := lrk_28 _ (List.mem_of_getElem? (i := 4) rfl)
theorem mw_653 : Cond.static yX12_digitsFrom ∈ wsL_law := lrk_28 _ (List.mem_of_getElem? (i := 5) rfl)
theorem gS_X12_111 : GoodIn wsL_law (va_wsS RX12 111 yX12_digitsFrom (wl yX12_digitsFrom cX12_digitsFrom 4 (some .int))) := g_S mw_652 mw_653 mw_5 mw_654
theorem hdS_X12_digitsFrom : okD yX12_digitsFrom 3 := by decide +kernel
theorem dX12_isDate_14 : decode cX12_isDate 14 = .ok (.iconst 4, 1) := by decide +kernel
theorem dX12_isDate_15 : decode cX12_isDate 15 = .ok (.if_icmp .ne 24, 3) := by decide +kernel
theorem dX12_isDate_18 : decode cX12_isDate 18 = .ok (.aload_n 0, 1) := by decide +kernel
theorem dX12_isDate_19 : decode cX12_isDate 19 = .ok (.iload_n 1, 1) := by decide +kernel
theorem dX12_isDate_20 : decode cX12_isDate 20 = .ok (.iconst 5, 1) := by decide +kernel
theorem dX12_isDate_21 : decode cX12_isDate 21 = .ok (.invokestatic 111, 3) := by decide +kernel
theorem dX12_isDate_24 : decode cX12_isDate 24 = .ok (.iconst 2, 1) := by decide +kernel
theorem dX12_isDate_25 : decode cX12_isDate 25 = .ok (.if_icmp .ne 14, 3) := by decide +kernel
theorem dX12_isDate_28 : decode cX12_isDate 28 = .ok (.aload_n 0, 1) := by decide +kernel
theorem dX12_isDate_29 : decode cX12_isDate 29 = .ok (.iload_n 1, 1) := by decide +kernel
theorem dX12_isDate_30 : decode cX12_isDate 30 = .ok (.bipush 8, 2) := by decide +kernel
theorem dX12_isDate_32 : decode cX12_isDate 32 = .ok (.invokestatic 111, 3) := by decide +kernel
theorem dX12_isDate_35 : decode cX12_isDate 35 = .ok (.iconst 2, 1) := by decide +kernel
theorem dX12_isDate_36 : decode cX12_isDate 36 = .ok (.if_icmp .eq 5, 3) := by decide +kernel
theorem dX12_isDate_41 : decode cX12_isDate 41 = .ok (.aload_n 0, 1) := by decide +kernel
theorem dX12_isDate_42 : decode cX12_isDate 42 = .ok (.iload_n 1, 1) := by decide +kernel
theorem dX12_isDate_43 : decode cX12_isDate 43 = .ok (.iconst 5, 1) := by decide +kernel
theorem dX12_isDate_44 : decode cX12_isDate 44 = .ok (.iadd, 1) := by decide +kernel
theorem dX12_isDate_45 : decode cX12_isDate 45 = .ok (.iaload, 1) := by decide +kernel
theorem dX12_isDate_46 : decode cX12_isDate 46 = .ok (.bipush 45, 2) := by decide +kernel
theorem dX12_isDate_48 : decode cX12_isDate 48 = .ok (.if_icmp .ne 14, 3) := by decide +kernel
theorem dX12_isDate_62 : decode cX12_isDate 62 = .ok (.iconst 0, 1) := by decide +kernel
theorem dX12_isDate_63 : decode cX12_isDate 63 = .ok (.ireturn, 1) := by decide +kernel
theorem dX12_isDate_51 : decode cX12_isDate 51 = .ok (.aload_n 0, 1) := by decide +kernel
theorem dX12_isDate_52 : decode cX12_isDate 52 = .ok (.iload_n 1, 1) := by decide +kernel
theorem dX12_isDate_53 : decode cX12_isDate 53 = .ok (.bipush 8, 2) := by decide +kernel
theorem dX12_isDate_55 : decode cX12_isDate 55 = .ok (.iadd, 1) := by decide +kernel
theorem dX12_isDate_56 : decode cX12_isDate 56 = .ok (.iaload, 1) := by decide +kernel
theorem dX12_isDate_57 : decode cX12_isDate 57 = .ok (.bipush 45, 2) := by decide +kernel
theorem dX12_isDate_59 : decode cX12_isDate 59 = .ok (.if_icmp .eq 5, 3) := by decide +kernel
theorem dX12_isDate_64 : decode cX12_isDate 64 = .ok (.bipush 100, 2) := by decide +kernel
theorem dX12_isDate_66 : decode cX12_isDate 66 = .ok (.aload_n 0, 1) := by decide +kernel
theorem dX12_isDate_67 : decode cX12_isDate 67 = .ok (.iload_n 1, 1) := by decide +kernel
theorem dX12_isDate_68 : decode cX12_isDate 68 = .ok (.iconst 0, 1) := by decide +kernel
theorem dX12_isDate_69 : decode cX12_isDate 69 = .ok (.invokestatic 115, 3) := by decide +kernel
theorem mw_655 : Cond.methodLink RX12 115 yX12_two ∈ wsL_law := lrk_28 _ (List.mem_of_getElem? (i := 7) rfl)
theorem mw_656 : Cond.static yX12_two ∈ wsL_law := lrk_28 _ (List.mem_of_getElem? (i := 8) rfl)
theorem gS_X12_115 : GoodIn wsL_law (va_wsS RX12 115 yX12_two (wl yX12_two cX12_two 3 (some .int))) := g_S mw_655 mw_656 mw_5 mw_657
theorem hdS_X12_two : okD yX12_two 3 := by decide +kernel
theorem dX12_isDate_72 : decode cX12_isDate 72 = .ok (.imul, 1) := by decide +kernel
theorem dX12_isDate_73 : decode cX12_isDate 73 = .ok (.aload_n 0, 1) := by decide +kernel
theorem dX12_isDate_74 : decode cX12_isDate 74 = .ok (.iload_n 1, 1) := by decide +kernel
theorem dX12_isDate_75 : decode cX12_isDate 75 = .ok (.iconst 2, 1) := by decide +kernel
theorem dX12_isDate_76 : decode cX12_isDate 76 = .ok (.invokestatic 115, 3) := by decide +kernel
theorem dX12_isDate_79 : decode cX12_isDate 79 = .ok (.iadd, 1) := by decide +kernel
theorem dX12_isDate_80 : decode cX12_isDate 80 = .ok (.istore_n 2, 1) := by decide +kernel
theorem dX12_isDate_81 : decode cX12_isDate 81 = .ok (.aload_n 0, 1) := by decide +kernel
theorem dX12_isDate_82 : decode cX12_isDate 82 = .ok (.iload_n 1, 1) := by decide +kernel
theorem dX12_isDate_83 : decode cX12_isDate 83 = .ok (.iconst 5, 1) := by decide +kernel
theorem dX12_isDate_84 : decode cX12_isDate 84 = .ok (.invokestatic 115, 3) := by decide +kernel
theorem dX12_isDate_87 : decode cX12_isDate 87 = .ok (.istore_n 3, 1) := by decide +kernel
theorem dX12_isDate_88 : decode cX12_isDate 88 = .ok (.iload_n 2, 1) := by decide +kernel
theorem dX12_isDate_89 : decode cX12_isDate 89 = .ok (.sipush 1600, 3) := by decide +kernel
theorem dX12_isDate_92 : decode cX12_isDate 92 = .ok (.if_icmp .lt 40, 3) := by decide +kernel
theorem dX12_isDate_132 : decode cX12_isDate 132 = .ok (.iconst 0, 1) := by decide +kernel
theorem dX12_isDate_133 : decode cX12_isDate 133 = .ok (.ireturn, 1) := by decide +kernel
theorem dX12_isDate_95 : decode cX12_isDate 95 = .ok (.iload_n 3, 1) := by decide +kernel
theorem dX12_isDate_96 : decode cX12_isDate 96 = .ok (.i2l, 1) := by decide +kernel
theorem dX12_isDate_97 : decode cX12_isDate 97 = .ok (.lconst 1, 1) := by decide +kernel
theorem dX12_isDate_98 : decode cX12_isDate 98 = .ok (.ldc2_w 118, 3) := by decide +kernel
theorem mw_483 : Cond.constantLong RX12 118 (12) ∈ wsL_law := lrk_21 _ (List.mem_of_getElem? (i := 3) rfl)
theorem dX12_isDate_101 : decode cX12_isDate 101 = .ok (.invokestatic 62, 3) := by decide +kernel
theorem dX12_isDate_104 : decode cX12_isDate 104 = .ok (.ifCond .eq 28, 3) := by decide +kernel
theorem dX12_isDate_107 : decode cX12_isDate 107 = .ok (.aload_n 0, 1) := by decide +kernel
theorem dX12_isDate_108 : decode cX12_isDate 108 = .ok (.iload_n 1, 1) := by decide +kernel
theorem dX12_isDate_109 : decode cX12_isDate 109 = .ok (.bipush 8, 2) := by decide +kernel
theorem dX12_isDate_111 : decode cX12_isDate 111 = .ok (.invokestatic 115, 3) := by decide +kernel
theorem dX12_isDate_114 : decode cX12_isDate 114 = .ok (.i2l, 1) := by decide +kernel
theorem dX12_isDate_115 : decode cX12_isDate 115 = .ok (.lconst 1, 1) := by decide +kernel
theorem dX12_isDate_116 : decode cX12_isDate 116 = .ok (.iload_n 2, 1) := by decide +kernel
theorem dX12_isDate_117 : decode cX12_isDate 117 = .ok (.iload_n 3, 1) := by decide +kernel
theorem dX12_isDate_118 : decode cX12_isDate 118 = .ok (.invokestatic 120, 3) := by decide +kernel
theorem mw_658 : Cond.methodLink RX12 120 yX12_daysOf ∈ wsL_law := lrk_28 _ (List.mem_of_getElem? (i := 10) rfl)
theorem mw_659 : Cond.static yX12_daysOf ∈ wsL_law := lrk_28 _ (List.mem_of_getElem? (i := 11) rfl)
theorem gS_X12_120 : GoodIn wsL_law (va_wsS RX12 120 yX12_daysOf (wl yX12_daysOf cX12_daysOf 2 (some .int))) := g_S mw_658 mw_659 mw_5 mw_660
theorem hdS_X12_daysOf : okD yX12_daysOf 2 := by decide +kernel
theorem dX12_isDate_121 : decode cX12_isDate 121 = .ok (.i2l, 1) := by decide +kernel
theorem dX12_isDate_122 : decode cX12_isDate 122 = .ok (.invokestatic 62, 3) := by decide +kernel
theorem dX12_isDate_125 : decode cX12_isDate 125 = .ok (.ifCond .eq 7, 3) := by decide +kernel
theorem dX12_isDate_128 : decode cX12_isDate 128 = .ok (.iconst 1, 1) := by decide +kernel
theorem dX12_isDate_129 : decode cX12_isDate 129 = .ok (.goto 4, 3) := by decide +kernel
theorem mw_638 : Cond.code yX12_typeOf cX12_typeOf 7 (some .int) ∈ wsL_law := lrk_27 _ (List.mem_of_getElem? (i := 14) rfl)
theorem dX12_typeOf_0 : decode cX12_typeOf 0 = .ok (.aload_n 0, 1) := by decide +kernel
theorem dX12_typeOf_1 : decode cX12_typeOf 1 = .ok (.iload_n 1, 1) := by decide +kernel
theorem dX12_typeOf_2 : decode cX12_typeOf 2 = .ok (.iaload, 1) := by decide +kernel
theorem dX12_typeOf_3 : decode cX12_typeOf 3 = .ok (.istore_n 2, 1) := by decide +kernel
theorem dX12_typeOf_4 : decode cX12_typeOf 4 = .ok (.iload_n 2, 1) := by decide +kernel
theorem dX12_typeOf_5 : decode cX12_typeOf 5 = .ok (.ifCond .ne 5, 3) := by decide +kernel
theorem dX12_typeOf_10 : decode cX12_typeOf 10 = .ok (.aload_n 0, 1) := by decide +kernel
theorem dX12_typeOf_11 : decode cX12_typeOf 11 = .ok (.iload_n 1, 1) := by decide +kernel
theorem dX12_typeOf_12 : decode cX12_typeOf 12 = .ok (.invokestatic 123, 3) := by decide +kernel
theorem mw_640 : Cond.methodLink RX12 123 yX12_isYes ∈ wsL_law := lrk_27 _ (List.mem_of_getElem? (i := 16) rfl)
theorem mw_641 : Cond.static yX12_isYes ∈ wsL_law := lrk_27 _ (List.mem_of_getElem? (i := 17) rfl)
theorem gS_X12_123 : GoodIn wsL_law (va_wsS RX12 123 yX12_isYes (wl yX12_isYes cX12_isYes 2 (some .boolean))) := g_S mw_640 mw_641 mw_5 mw_642
theorem hdS_X12_isYes : okD yX12_isYes 2 := by decide +kernel
theorem dX12_typeOf_15 : decode cX12_typeOf 15 = .ok (.ifCond .ne 11, 3) := by decide +kernel
theorem dX12_typeOf_26 : decode cX12_typeOf 26 = .ok (.iconst 1, 1) := by decide +kernel
theorem dX12_typeOf_27 : decode cX12_typeOf 27 = .ok (.ireturn, 1) := by decide +kernel
theorem dX12_typeOf_18 : decode cX12_typeOf 18 = .ok (.aload_n 0, 1) := by decide +kernel
theorem dX12_typeOf_19 : decode cX12_typeOf 19 = .ok (.iload_n 1, 1) := by decide +kernel
theorem dX12_typeOf_20 : decode cX12_typeOf 20 = .ok (.invokestatic 127, 3) := by decide +kernel
theorem mw_646 : Cond.methodLink RX12 127 yX12_isNo ∈ wsL_law := lrk_27 _ (List.mem_of_getElem? (i := 22) rfl)
theorem mw_647 : Cond.static yX12_isNo ∈ wsL_law := lrk_27 _ (List.mem_of_getElem? (i := 23) rfl)
theorem gS_X12_127 : GoodIn wsL_law (va_wsS RX12 127 yX12_isNo (wl yX12_isNo cX12_isNo 2 (some .boolean))) := g_S mw_646 mw_647 mw_5 mw_648
theorem hdS_X12_isNo : okD yX12_isNo 2 := by decide +kernel
theorem dX12_typeOf_23 : decode cX12_typeOf 23 = .ok (.ifCond .eq 5, 3) := by decide +kernel
theorem dX12_typeOf_28 : decode cX12_typeOf 28 = .ok (.aload_n 0, 1) := by decide +kernel
theorem dX12_typeOf_29 : decode cX12_typeOf 29 = .ok (.iload_n 1, 1) := by decide +kernel
theorem dX12_typeOf_30 : decode cX12_typeOf 30 = .ok (.invokestatic 130, 3) := by decide +kernel
theorem mw_649 : Cond.methodLink RX12 130 yX12_isDate ∈ wsL_law := lrk_28 _ (List.mem_of_getElem? (i := 1) rfl)
theorem mw_650 : Cond.static yX12_isDate ∈ wsL_law := lrk_28 _ (List.mem_of_getElem? (i := 2) rfl)
theorem gS_X12_130 : GoodIn wsL_law (va_wsS RX12 130 yX12_isDate (wl yX12_isDate cX12_isDate 4 (some .boolean))) := g_S mw_649 mw_650 mw_5 mw_651
theorem hdS_X12_isDate : okD yX12_isDate 2 := by decide +kernel
theorem dX12_typeOf_33 : decode cX12_typeOf 33 = .ok (.ifCond .eq 5, 3) := by decide +kernel
theorem dX12_typeOf_36 : decode cX12_typeOf 36 = .ok (.iconst 4, 1) := by decide +kernel
theorem dX12_typeOf_37 : decode cX12_typeOf 37 = .ok (.ireturn, 1) := by decide +kernel
theorem dX12_typeOf_38 : decode cX12_typeOf 38 = .ok (.aload_n 0, 1) := by decide +kernel
theorem dX12_typeOf_39 : decode cX12_typeOf 39 = .ok (.iload_n 1, 1) := by decide +kernel
theorem dX12_typeOf_40 : decode cX12_typeOf 40 = .ok (.iconst 1, 1) := by decide +kernel
theorem dX12_typeOf_41 : decode cX12_typeOf 41 = .ok (.iadd, 1) := by decide +kernel
theorem dX12_typeOf_42 : decode cX12_typeOf 42 = .ok (.iaload, 1) := by decide +kernel
theorem dX12_typeOf_43 : decode cX12_typeOf 43 = .ok (.bipush 45, 2) := by decide +kernel
theorem dX12_typeOf_45 : decode cX12_typeOf 45 = .ok (.if_icmp .ne 7, 3) := by decide +kernel
theorem dX12_typeOf_52 : decode cX12_typeOf 52 = .ok (.iconst 0, 1) := by decide +kernel
theorem dX12_typeOf_53 : decode cX12_typeOf 53 = .ok (.istore_n 3, 1) := by decide +kernel
theorem dX12_typeOf_54 : decode cX12_typeOf 54 = .ok (.aload_n 0, 1) := by decide +kernel
theorem dX12_typeOf_55 : decode cX12_typeOf 55 = .ok (.iload_n 1, 1) := by decide +kernel
theorem dX12_typeOf_56 : decode cX12_typeOf 56 = .ok (.iload_n 3, 1) := by decide +kernel
theorem dX12_typeOf_57 : decode cX12_typeOf 57 = .ok (.invokestatic 111, 3) := by decide +kernel
theorem dX12_typeOf_60 : decode cX12_typeOf 60 = .ok (.istore 4, 2) := by decide +kernel
theorem dX12_typeOf_62 : decode cX12_typeOf 62 = .ok (.iload 4, 2) := by decide +kernel
theorem dX12_typeOf_64 : decode cX12_typeOf 64 = .ok (.i2l, 1) := by decide +kernel
theorem dX12_typeOf_65 : decode cX12_typeOf 65 = .ok (.lconst 1, 1) := by decide +kernel
theorem dX12_typeOf_66 : decode cX12_typeOf 66 = .ok (.ldc2_w 133, 3) := by decide +kernel
theorem mw_639 : Cond.constantLong RX12 133 (9) ∈ wsL_law := lrk_27 _ (List.mem_of_getElem? (i := 15) rfl)
theorem dX12_typeOf_69 : decode cX12_typeOf 69 = .ok (.invokestatic 62, 3) := by decide +kernel
theorem dX12_typeOf_72 : decode cX12_typeOf 72 = .ok (.ifCond .eq 21, 3) := by decide +kernel
theorem dX12_typeOf_75 : decode cX12_typeOf 75 = .ok (.iload 4, 2) := by decide +kernel
theorem dX12_typeOf_77 : decode cX12_typeOf 77 = .ok (.iconst 1, 1) := by decide +kernel
theorem dX12_typeOf_78 : decode cX12_typeOf 78 = .ok (.if_icmp .le 17, 3) := by decide +kernel
theorem dX12_typeOf_95 : decode cX12_typeOf 95 = .ok (.iload_n 3, 1) := by decide +kernel
theorem dX12_typeOf_96 : decode cX12_typeOf 96 = .ok (.iload 4, 2) := by decide +kernel
theorem dX12_typeOf_98 : decode cX12_typeOf 98 = .ok (.iadd, 1) := by decide +kernel
theorem dX12_typeOf_99 : decode cX12_typeOf 99 = .ok (.istore 5, 2) := by decide +kernel
theorem dX12_typeOf_101 : decode cX12_typeOf 101 = .ok (.iload 5, 2) := by decide +kernel
theorem dX12_typeOf_103 : decode cX12_typeOf 103 = .ok (.iload_n 2, 1) := by decide +kernel
theorem dX12_typeOf_104 : decode cX12_typeOf 104 = .ok (.if_icmp .ne 24, 3) := by decide +kernel
theorem dX12_typeOf_128 : decode cX12_typeOf 128 = .ok (.aload_n 0, 1) := by decide +kernel
theorem dX12_typeOf_129 : decode cX12_typeOf 129 = .ok (.iload_n 1, 1) := by decide +kernel
theorem dX12_typeOf_130 : decode cX12_typeOf 130 = .ok (.iconst 1, 1) := by decide +kernel
theorem dX12_typeOf_131 : decode cX12_typeOf 131 = .ok (.iadd, 1) := by decide +kernel
theorem dX12_typeOf_132 : decode cX12_typeOf 132 = .ok (.iload 5, 2) := by decide +kernel
theorem dX12_typeOf_134 : decode cX12_typeOf 134 = .ok (.iadd, 1) := by decide +kernel
theorem dX12_typeOf_135 : decode cX12_typeOf 135 = .ok (.iaload, 1) := by decide +kernel
theorem dX12_typeOf_136 : decode cX12_typeOf 136 = .ok (.bipush 46, 2) := by decide +kernel
theorem dX12_typeOf_138 : decode cX12_typeOf 138 = .ok (.if_icmp .ne 45, 3) := by decide +kernel
theorem dX12_typeOf_183 : decode cX12_typeOf 183 = .ok (.iconst 0, 1) := by decide +kernel
theorem dX12_typeOf_184 : decode cX12_typeOf 184 = .ok (.istore 6, 2) := by decide +kernel
theorem dX12_typeOf_186 : decode cX12_typeOf 186 = .ok (.iload 6, 2) := by decide +kernel
theorem dX12_typeOf_188 : decode cX12_typeOf 188 = .ok (.ifCond .eq 7, 3) := by decide +kernel
theorem dX12_typeOf_195 : decode cX12_typeOf 195 = .ok (.iconst 5, 1) := by decide +kernel
theorem dX12_typeOf_196 : decode cX12_typeOf 196 = .ok (.ireturn, 1) := by decide +kernel
theorem dX12_typeOf_141 : decode cX12_typeOf 141 = .ok (.aload_n 0, 1) := by decide +kernel
theorem dX12_typeOf_142 : decode cX12_typeOf 142 = .ok (.iload_n 1, 1) := by decide +kernel
theorem dX12_typeOf_143 : decode cX12_typeOf 143 = .ok (.iload 5, 2) := by decide +kernel
theorem dX12_typeOf_145 : decode cX12_typeOf 145 = .ok (.iconst 1, 1) := by decide +kernel
theorem dX12_typeOf_146 : decode cX12_typeOf 146 = .ok (.iadd, 1) := by decide +kernel
theorem dX12_typeOf_147 : decode cX12_typeOf 147 = .ok (.invokestatic 111, 3) := by decide +kernel
theorem dX12_typeOf_150 : decode cX12_typeOf 150 = .ok (.i2l, 1) := by decide +kernel
theorem dX12_typeOf_151 : decode cX12_typeOf 151 = .ok (.lconst 1, 1) := by decide +kernel
theorem dX12_typeOf_152 : decode cX12_typeOf 152 = .ok (.ldc2_w 135, 3) := by decide +kernel
theorem mw_554 : Cond.constantLong RX12 135 (4) ∈ wsL_law := lrk_24 _ (List.mem_of_getElem? (i := 2) rfl)
theorem dX12_typeOf_155 : decode cX12_typeOf 155 = .ok (.invokestatic 62, 3) := by decide +kernel
theorem dX12_typeOf_158 : decode cX12_typeOf 158 = .ok (.ifCond .eq 25, 3) := by decide +kernel
theorem dX12_typeOf_161 : decode cX12_typeOf 161 = .ok (.iload 5, 2) := by decide +kernel
theorem dX12_typeOf_163 : decode cX12_typeOf 163 = .ok (.iconst 1, 1) := by decide +kernel
theorem dX12_typeOf_164 : decode cX12_typeOf 164 = .ok (.iadd, 1) := by decide +kernel
theorem dX12_typeOf_165 : decode cX12_typeOf 165 = .ok (.aload_n 0, 1) := by decide +kernel
theorem dX12_typeOf_166 : decode cX12_typeOf 166 = .ok (.iload_n 1, 1) := by decide +kernel
theorem dX12_typeOf_167 : decode cX12_typeOf 167 = .ok (.iload 5, 2) := by decide +kernel
theorem dX12_typeOf_169 : decode cX12_typeOf 169 = .ok (.iconst 1, 1) := by decide +kernel
theorem dX12_typeOf_170 : decode cX12_typeOf 170 = .ok (.iadd, 1) := by decide +kernel
theorem dX12_typeOf_171 : decode cX12_typeOf 171 = .ok (.invokestatic 111, 3) := by decide +kernel
theorem dX12_typeOf_174 : decode cX12_typeOf 174 = .ok (.iadd, 1) := by decide +kernel
theorem dX12_typeOf_175 : decode cX12_typeOf 175 = .ok (.iload_n 2, 1) := by decide +kernel
theorem dX12_typeOf_176 : decode cX12_typeOf 176 = .ok (.if_icmp .ne 7, 3) := by decide +kernel
theorem dX12_typeOf_179 : decode cX12_typeOf 179 = .ok (.iconst 1, 1) := by decide +kernel
theorem dX12_typeOf_180 : decode cX12_typeOf 180 = .ok (.goto 4, 3) := by decide +kernel
theorem dX12_typeOf_191 : decode cX12_typeOf 191 = .ok (.iconst 3, 1) := by decide +kernel
theorem dX12_typeOf_192 : decode cX12_typeOf 192 = .ok (.goto 4, 3) := by decide +kernel
theorem dX12_typeOf_107 : decode cX12_typeOf 107 = .ok (.iload_n 3, 1) := by decide +kernel
theorem dX12_typeOf_108 : decode cX12_typeOf 108 = .ok (.iconst 1, 1) := by decide +kernel
theorem dX12_typeOf_109 : decode cX12_typeOf 109 = .ok (.if_icmp .ne 17, 3) := by decide +kernel
theorem dX12_typeOf_126 : decode cX12_typeOf 126 = .ok (.iconst 2, 1) := by decide +kernel
theorem dX12_typeOf_127 : decode cX12_typeOf 127 = .ok (.ireturn, 1) := by decide +kernel
theorem dX12_typeOf_81 : decode cX12_typeOf 81 = .ok (.aload_n 0, 1) := by decide +kernel
theorem dX12_typeOf_82 : decode cX12_typeOf 82 = .ok (.iload_n 1, 1) := by decide +kernel
theorem dX12_typeOf_83 : decode cX12_typeOf 83 = .ok (.iconst 1, 1) := by decide +kernel
theorem dX12_typeOf_84 : decode cX12_typeOf 84 = .ok (.iadd, 1) := by decide +kernel
theorem dX12_typeOf_85 : decode cX12_typeOf 85 = .ok (.iload_n 3, 1) := by decide +kernel
theorem dX12_typeOf_86 : decode cX12_typeOf 86 = .ok (.iadd, 1) := by decide +kernel
theorem dX12_typeOf_87 : decode cX12_typeOf 87 = .ok (.iaload, 1) := by decide +kernel
theorem dX12_typeOf_88 : decode cX12_typeOf 88 = .ok (.bipush 48, 2) := by decide +kernel
theorem dX12_typeOf_90 : decode cX12_typeOf 90 = .ok (.if_icmp .ne 5, 3) := by decide +kernel
theorem dX12_typeOf_93 : decode cX12_typeOf 93 = .ok (.iconst 5, 1) := by decide +kernel
theorem dX12_typeOf_94 : decode cX12_typeOf 94 = .ok (.ireturn, 1) := by decide +kernel
theorem dX12_typeOf_48 : decode cX12_typeOf 48 = .ok (.iconst 1, 1) := by decide +kernel
theorem dX12_typeOf_49 : decode cX12_typeOf 49 = .ok (.goto 4, 3) := by decide +kernel
theorem dX12_typeOf_112 : decode cX12_typeOf 112 = .ok (.aload_n 0, 1) := by decide +kernel
theorem dX12_typeOf_113 : decode cX12_typeOf 113 = .ok (.iload_n 1, 1) := by decide +kernel
theorem dX12_typeOf_114 : decode cX12_typeOf 114 = .ok (.iconst 2, 1) := by decide +kernel
theorem dX12_typeOf_115 : decode cX12_typeOf 115 = .ok (.iadd, 1) := by decide +kernel
theorem dX12_typeOf_116 : decode cX12_typeOf 116 = .ok (.iaload, 1) := by decide +kernel
theorem dX12_typeOf_117 : decode cX12_typeOf 117 = .ok (.bipush 48, 2) := by decide +kernel
theorem dX12_typeOf_119 : decode cX12_typeOf 119 = .ok (.if_icmp .ne 7, 3) := by decide +kernel
theorem dX12_typeOf_122 : decode cX12_typeOf 122 = .ok (.iconst 5, 1) := by decide +kernel
theorem dX12_typeOf_123 : decode cX12_typeOf 123 = .ok (.goto 4, 3) := by decide +kernel
theorem dX12_typeOf_8 : decode cX12_typeOf 8 = .ok (.iconst 0, 1) := by decide +kernel
theorem dX12_typeOf_9 : decode cX12_typeOf 9 = .ok (.ireturn, 1) := by decide +kernel
theorem mw_669 : Cond.code yX12_join cX12_join 2 (some .int) ∈ wsL_law := lrk_28 _ (List.mem_of_getElem? (i := 21) rfl)
theorem dX12_join_0 : decode cX12_join 0 = .ok (.iload_n 0, 1) := by decide +kernel
theorem dX12_join_1 : decode cX12_join 1 = .ok (.iload_n 1, 1) := by decide +kernel
theorem dX12_join_2 : decode cX12_join 2 = .ok (.if_icmp .eq 7, 3) := by decide +kernel
theorem dX12_join_9 : decode cX12_join 9 = .ok (.iload_n 0, 1) := by decide +kernel
theorem dX12_join_10 : decode cX12_join 10 = .ok (.ireturn, 1) := by decide +kernel
theorem dX12_join_5 : decode cX12_join 5 = .ok (.iload_n 1, 1) := by decide +kernel
theorem dX12_join_6 : decode cX12_join 6 = .ok (.ifCond .ne 5, 3) := by decide +kernel
theorem dX12_join_11 : decode cX12_join 11 = .ok (.iload_n 0, 1) := by decide +kernel
theorem dX12_join_12 : decode cX12_join 12 = .ok (.ifCond .ne 5, 3) := by decide +kernel
theorem dX12_join_17 : decode cX12_join 17 = .ok (.iload_n 0, 1) := by decide +kernel
theorem dX12_join_18 : decode cX12_join 18 = .ok (.i2l, 1) := by decide +kernel
theorem dX12_join_19 : decode cX12_join 19 = .ok (.ldc2_w 60, 3) := by decide +kernel
theorem mw_413 : Cond.constantLong RX12 60 (2) ∈ wsL_law := lrk_18 _ (List.mem_of_getElem? (i := 5) rfl)
theorem dX12_join_22 : decode cX12_join 22 = .ok (.ldc2_w 81, 3) := by decide +kernel
theorem mw_215 : Cond.constantLong RX12 81 (3) ∈ wsL_law := lrk_9 _ (List.mem_of_getElem? (i := 23) rfl)
theorem dX12_join_25 : decode cX12_join 25 = .ok (.invokestatic 62, 3) := by decide +kernel
theorem dX12_join_28 : decode cX12_join 28 = .ok (.ifCond .eq 21, 3) := by decide +kernel
theorem dX12_join_31 : decode cX12_join 31 = .ok (.iload_n 1, 1) := by decide +kernel
theorem dX12_join_32 : decode cX12_join 32 = .ok (.i2l, 1) := by decide +kernel
theorem dX12_join_33 : decode cX12_join 33 = .ok (.ldc2_w 60, 3) := by decide +kernel
theorem dX12_join_36 : decode cX12_join 36 = .ok (.ldc2_w 81, 3) := by decide +kernel
theorem dX12_join_39 : decode cX12_join 39 = .ok (.invokestatic 62, 3) := by decide +kernel
theorem dX12_join_42 : decode cX12_join 42 = .ok (.ifCond .eq 7, 3) := by decide +kernel
theorem dX12_join_45 : decode cX12_join 45 = .ok (.iconst 3, 1) := by decide +kernel
theorem dX12_join_46 : decode cX12_join 46 = .ok (.goto 4, 3) := by decide +kernel
theorem dX12_join_50 : decode cX12_join 50 = .ok (.ireturn, 1) := by decide +kernel
theorem dX12_join_49 : decode cX12_join 49 = .ok (.iconst 5, 1) := by decide +kernel
theorem dX12_join_15 : decode cX12_join 15 = .ok (.iload_n 1, 1) := by decide +kernel
theorem dX12_join_16 : decode cX12_join 16 = .ok (.ireturn, 1) := by decide +kernel
theorem mw_666 : Cond.code yX12_doesHold cX12_doesHold 2 (some .boolean) ∈ wsL_law := lrk_28 _ (List.mem_of_getElem? (i := 18) rfl)
theorem dX12_doesHold_0 : decode cX12_doesHold 0 = .ok (.iload_n 0, 1) := by decide +kernel
theorem dX12_doesHold_1 : decode cX12_doesHold 1 = .ok (.iload_n 1, 1) := by decide +kernel
theorem dX12_doesHold_2 : decode cX12_doesHold 2 = .ok (.invokestatic 137, 3) := by decide +kernel
theorem mw_667 : Cond.methodLink RX12 137 yX12_join ∈ wsL_law := lrk_28 _ (List.mem_of_getElem? (i := 19) rfl)
theorem mw_668 : Cond.static yX12_join ∈ wsL_law := lrk_28 _ (List.mem_of_getElem? (i := 20) rfl)
theorem gS_X12_137 : GoodIn wsL_law (va_wsS RX12 137 yX12_join (wl yX12_join cX12_join 2 (some .int))) := g_S mw_667 mw_668 mw_5 mw_669
theorem hdS_X12_join : okD yX12_join 2 := by decide +kernel
theorem dX12_doesHold_5 : decode cX12_doesHold 5 = .ok (.iload_n 0, 1) := by decide +kernel
theorem dX12_doesHold_6 : decode cX12_doesHold 6 = .ok (.if_icmp .ne 7, 3) := by decide +kernel
theorem dX12_doesHold_13 : decode cX12_doesHold 13 = .ok (.iconst 0, 1) := by decide +kernel
theorem dX12_doesHold_14 : decode cX12_doesHold 14 = .ok (.ireturn, 1) := by decide +kernel
theorem dX12_doesHold_9 : decode cX12_doesHold 9 = .ok (.iconst 1, 1) := by decide +kernel
theorem dX12_doesHold_10 : decode cX12_doesHold 10 = .ok (.goto 4, 3) := by decide +kernel
theorem mw_953 : Cond.code yX12_whole cX12_whole 7 (some .long) ∈ wsL_law := lrk_40 _ (List.mem_of_getElem? (i := 17) rfl)
theorem dX12_whole_0 : decode cX12_whole 0 = .ok (.lconst 0, 1) := by decide +kernel
theorem dX12_whole_1 : decode cX12_whole 1 = .ok (.lstore 4, 2) := by decide +kernel
theorem dX12_whole_3 : decode cX12_whole 3 = .ok (.iconst 0, 1) := by decide +kernel
theorem dX12_whole_4 : decode cX12_whole 4 = .ok (.istore 6, 2) := by decide +kernel
theorem dX12_whole_6 : decode cX12_whole 6 = .ok (.iload 6, 2) := by decide +kernel
theorem dX12_whole_8 : decode cX12_whole 8 = .ok (.iload_n 3, 1) := by decide +kernel
theorem dX12_whole_9 : decode cX12_whole 9 = .ok (.if_icmp .ge 33, 3) := by decide +kernel
theorem dX12_whole_42 : decode cX12_whole 42 = .ok (.lload 4, 2) := by decide +kernel
theorem dX12_whole_44 : decode cX12_whole 44 = .ok (.lreturn, 1) := by decide +kernel
theorem dX12_whole_12 : decode cX12_whole 12 = .ok (.ldc2_w 140, 3) := by decide +kernel
theorem mw_954 : Cond.constantLong RX12 140 (10) ∈ wsL_law := lrk_40 _ (List.mem_of_getElem? (i := 18) rfl)
theorem dX12_whole_15 : decode cX12_whole 15 = .ok (.lload 4, 2) := by decide +kernel
theorem dX12_whole_17 : decode cX12_whole 17 = .ok (.lmul, 1) := by decide +kernel
theorem dX12_whole_18 : decode cX12_whole 18 = .ok (.aload_n 0, 1) := by decide +kernel
theorem dX12_whole_19 : decode cX12_whole 19 = .ok (.iload_n 1, 1) := by decide +kernel
theorem dX12_whole_20 : decode cX12_whole 20 = .ok (.iconst 1, 1) := by decide +kernel
theorem dX12_whole_21 : decode cX12_whole 21 = .ok (.iadd, 1) := by decide +kernel
theorem dX12_whole_22 : decode cX12_whole 22 = .ok (.iload_n 2, 1) := by decide +kernel
theorem dX12_whole_23 : decode cX12_whole 23 = .ok (.iadd, 1) := by decide +kernel
theorem dX12_whole_24 : decode cX12_whole 24 = .ok (.iload 6, 2) := by decide +kernel
theorem dX12_whole_26 : decode cX12_whole 26 = .ok (.iadd, 1) := by decide +kernel
theorem dX12_whole_27 : decode cX12_whole 27 = .ok (.iaload, 1) := by decide +kernel
theorem dX12_whole_28 : decode cX12_whole 28 = .ok (.i2l, 1) := by decide +kernel
theorem dX12_whole_29 : decode cX12_whole 29 = .ok (.ladd, 1) := by decide +kernel
theorem dX12_whole_30 : decode cX12_whole 30 = .ok (.ldc2_w 89, 3) := by decide +kernel
theorem dX12_whole_33 : decode cX12_whole 33 = .ok (.lsub, 1) := by decide +kernel
theorem dX12_whole_34 : decode cX12_whole 34 = .ok (.lstore 4, 2) := by decide +kernel
theorem dX12_whole_36 : decode cX12_whole 36 = .ok (.iinc 6 1, 3) := by decide +kernel
theorem dX12_whole_39 : decode cX12_whole 39 = .ok (.goto (-33), 3) := by decide +kernel
theorem mw_957 : Cond.code yX12_daysFrom cX12_daysFrom 6 (some .long) ∈ wsL_law := lrk_40 _ (List.mem_of_getElem? (i := 21) rfl)
theorem dX12_daysFrom_0 : decode cX12_daysFrom 0 = .ok (.lconst 0, 1) := by decide +kernel
theorem dX12_daysFrom_1 : decode cX12_daysFrom 1 = .ok (.lstore_n 3, 1) := by decide +kernel
theorem dX12_daysFrom_2 : decode cX12_daysFrom 2 = .ok (.sipush 1600, 3) := by decide +kernel
theorem dX12_daysFrom_5 : decode cX12_daysFrom 5 = .ok (.istore 5, 2) := by decide +kernel
theorem dX12_daysFrom_7 : decode cX12_daysFrom 7 = .ok (.iload 5, 2) := by decide +kernel
theorem dX12_daysFrom_9 : decode cX12_daysFrom 9 = .ok (.iload_n 0, 1) := by decide +kernel
theorem dX12_daysFrom_10 : decode cX12_daysFrom 10 = .ok (.if_icmp .ge 29, 3) := by decide +kernel
theorem dX12_daysFrom_39 : decode cX12_daysFrom 39 = .ok (.iconst 1, 1) := by decide +kernel
theorem dX12_daysFrom_40 : decode cX12_daysFrom 40 = .ok (.istore 5, 2) := by decide +kernel
theorem dX12_daysFrom_42 : decode cX12_daysFrom 42 = .ok (.iload 5, 2) := by decide +kernel
theorem dX12_daysFrom_44 : decode cX12_daysFrom 44 = .ok (.iload_n 1, 1) := by decide +kernel
theorem dX12_daysFrom_45 : decode cX12_daysFrom 45 = .ok (.if_icmp .ge 19, 3) := by decide +kernel
theorem dX12_daysFrom_64 : decode cX12_daysFrom 64 = .ok (.lload_n 3, 1) := by decide +kernel
theorem dX12_daysFrom_65 : decode cX12_daysFrom 65 = .ok (.iload_n 2, 1) := by decide +kernel
theorem dX12_daysFrom_66 : decode cX12_daysFrom 66 = .ok (.i2l, 1) := by decide +kernel
theorem dX12_daysFrom_67 : decode cX12_daysFrom 67 = .ok (.ladd, 1) := by decide +kernel
theorem dX12_daysFrom_68 : decode cX12_daysFrom 68 = .ok (.lconst 1, 1) := by decide +kernel
theorem dX12_daysFrom_69 : decode cX12_daysFrom 69 = .ok (.lsub, 1) := by decide +kernel
theorem dX12_daysFrom_70 : decode cX12_daysFrom 70 = .ok (.ldc2_w 146, 3) := by decide +kernel
theorem mw_960 : Cond.constantLong RX12 146 (135140) ∈ wsL_law := lrk_41 _ (List.mem_of_getElem? (i := 0) rfl)
theorem dX12_daysFrom_73 : decode cX12_daysFrom 73 = .ok (.lsub, 1) := by decide +kernel
theorem dX12_daysFrom_74 : decode cX12_daysFrom 74 = .ok (.lreturn, 1) := by decide +kernel
theorem dX12_daysFrom_48 : decode cX12_daysFrom 48 = .ok (.lload_n 3, 1) := by decide +kernel
theorem dX12_daysFrom_49 : decode cX12_daysFrom 49 = .ok (.iload_n 0, 1) := by decide +kernel
theorem dX12_daysFrom_50 : decode cX12_daysFrom 50 = .ok (.iload 5, 2) := by decide +kernel
theorem dX12_daysFrom_52 : decode cX12_daysFrom 52 = .ok (.invokestatic 120, 3) := by decide +kernel
theorem dX12_daysFrom_55 : decode cX12_daysFrom 55 = .ok (.i2l, 1) := by decide +kernel
theorem dX12_daysFrom_56 : decode cX12_daysFrom 56 = .ok (.ladd, 1) := by decide +kernel
theorem dX12_daysFrom_57 : decode cX12_daysFrom 57 = .ok (.lstore_n 3, 1) := by decide +kernel
theorem dX12_daysFrom_58 : decode cX12_daysFrom 58 = .ok (.iinc 5 1, 3) := by decide +kernel
theorem dX12_daysFrom_61 : decode cX12_daysFrom 61 = .ok (.goto (-19), 3) := by decide +kernel
theorem dX12_daysFrom_13 : decode cX12_daysFrom 13 = .ok (.lload_n 3, 1) := by decide +kernel
theorem dX12_daysFrom_14 : decode cX12_daysFrom 14 = .ok (.iload 5, 2) := by decide +kernel
theorem dX12_daysFrom_16 : decode cX12_daysFrom 16 = .ok (.invokestatic 108, 3) := by decide +kernel
theorem dX12_daysFrom_19 : decode cX12_daysFrom 19 = .ok (.ifCond .eq 9, 3) := by decide +kernel
theorem dX12_daysFrom_22 : decode cX12_daysFrom 22 = .ok (.ldc2_w 142, 3) := by decide +kernel
theorem mw_958 : Cond.constantLong RX12 142 (366) ∈ wsL_law := lrk_40 _ (List.mem_of_getElem? (i := 22) rfl)
theorem dX12_daysFrom_25 : decode cX12_daysFrom 25 = .ok (.goto 6, 3) := by decide +kernel
theorem dX12_daysFrom_31 : decode cX12_daysFrom 31 = .ok (.ladd, 1) := by decide +kernel
theorem dX12_daysFrom_32 : decode cX12_daysFrom 32 = .ok (.lstore_n 3, 1) := by decide +kernel
theorem dX12_daysFrom_33 : decode cX12_daysFrom 33 = .ok (.iinc 5 1, 3) := by decide +kernel
theorem dX12_daysFrom_36 : decode cX12_daysFrom 36 = .ok (.goto (-29), 3) := by decide +kernel
theorem dX12_daysFrom_28 : decode cX12_daysFrom 28 = .ok (.ldc2_w 144, 3) := by decide +kernel
theorem mw_959 : Cond.constantLong RX12 144 (365) ∈ wsL_law := lrk_40 _ (List.mem_of_getElem? (i := 23) rfl)
theorem mw_950 : Cond.code yX12_fixed cX12_fixed 10 (some .long) ∈ wsL_law := lrk_40 _ (List.mem_of_getElem? (i := 14) rfl)
theorem dX12_fixed_0 : decode cX12_fixed 0 = .ok (.aload_n 0, 1) := by decide +kernel
theorem dX12_fixed_1 : decode cX12_fixed 1 = .ok (.iload_n 1, 1) := by decide +kernel
theorem dX12_fixed_2 : decode cX12_fixed 2 = .ok (.iconst 1, 1) := by decide +kernel
theorem dX12_fixed_3 : decode cX12_fixed 3 = .ok (.iadd, 1) := by decide +kernel
theorem dX12_fixed_4 : decode cX12_fixed 4 = .ok (.iaload, 1) := by decide +kernel
theorem dX12_fixed_5 : decode cX12_fixed 5 = .ok (.bipush 45, 2) := by decide +kernel
theorem dX12_fixed_7 : decode cX12_fixed 7 = .ok (.if_icmp .ne 7, 3) := by decide +kernel
theorem dX12_fixed_14 : decode cX12_fixed 14 = .ok (.iconst 0, 1) := by decide +kernel
theorem dX12_fixed_15 : decode cX12_fixed 15 = .ok (.istore_n 3, 1) := by decide +kernel
theorem dX12_fixed_16 : decode cX12_fixed 16 = .ok (.aload_n 0, 1) := by decide +kernel
theorem dX12_fixed_17 : decode cX12_fixed 17 = .ok (.iload_n 1, 1) := by decide +kernel
theorem dX12_fixed_18 : decode cX12_fixed 18 = .ok (.iload_n 3, 1) := by decide +kernel
theorem dX12_fixed_19 : decode cX12_fixed 19 = .ok (.invokestatic 111, 3) := by decide +kernel
theorem dX12_fixed_22 : decode cX12_fixed 22 = .ok (.istore 4, 2) := by decide +kernel
theorem dX12_fixed_24 : decode cX12_fixed 24 = .ok (.aload_n 0, 1) := by decide +kernel
theorem dX12_fixed_25 : decode cX12_fixed 25 = .ok (.iload_n 1, 1) := by decide +kernel
theorem dX12_fixed_26 : decode cX12_fixed 26 = .ok (.iload_n 3, 1) := by decide +kernel
theorem dX12_fixed_27 : decode cX12_fixed 27 = .ok (.iload 4, 2) := by decide +kernel
theorem dX12_fixed_29 : decode cX12_fixed 29 = .ok (.invokestatic 148, 3) := by decide +kernel
theorem mw_951 : Cond.methodLink RX12 148 yX12_whole ∈ wsL_law := lrk_40 _ (List.mem_of_getElem? (i := 15) rfl)
theorem mw_952 : Cond.static yX12_whole ∈ wsL_law := lrk_40 _ (List.mem_of_getElem? (i := 16) rfl)
theorem gS_X12_148 : GoodIn wsL_law (va_wsS RX12 148 yX12_whole (wl yX12_whole cX12_whole 7 (some .long))) := g_S mw_951 mw_952 mw_5 mw_953
theorem hdS_X12_whole : okD yX12_whole 4 := by decide +kernel
theorem dX12_fixed_32 : decode cX12_fixed 32 = .ok (.iload_n 2, 1) := by decide +kernel
theorem dX12_fixed_33 : decode cX12_fixed 33 = .ok (.i2l, 1) := by decide +kernel
theorem dX12_fixed_34 : decode cX12_fixed 34 = .ok (.lmul, 1) := by decide +kernel
theorem dX12_fixed_35 : decode cX12_fixed 35 = .ok (.lstore 5, 2) := by decide +kernel
theorem dX12_fixed_37 : decode cX12_fixed 37 = .ok (.iload_n 3, 1) := by decide +kernel
theorem dX12_fixed_38 : decode cX12_fixed 38 = .ok (.iload 4, 2) := by decide +kernel
theorem dX12_fixed_40 : decode cX12_fixed 40 = .ok (.iadd, 1) := by decide +kernel
theorem dX12_fixed_41 : decode cX12_fixed 41 = .ok (.iconst 1, 1) := by decide +kernel
theorem dX12_fixed_42 : decode cX12_fixed 42 = .ok (.iadd, 1) := by decide +kernel
theorem dX12_fixed_43 : decode cX12_fixed 43 = .ok (.istore 7, 2) := by decide +kernel
theorem dX12_fixed_45 : decode cX12_fixed 45 = .ok (.iload_n 2, 1) := by decide +kernel
theorem dX12_fixed_46 : decode cX12_fixed 46 = .ok (.bipush 10, 2) := by decide +kernel
theorem dX12_fixed_48 : decode cX12_fixed 48 = .ok (.idiv, 1) := by decide +kernel
theorem dX12_fixed_49 : decode cX12_fixed 49 = .ok (.istore 8, 2) := by decide +kernel
theorem dX12_fixed_51 : decode cX12_fixed 51 = .ok (.iload 7, 2) := by decide +kernel
theorem dX12_fixed_53 : decode cX12_fixed 53 = .ok (.istore 9, 2) := by decide +kernel
theorem dX12_fixed_55 : decode cX12_fixed 55 = .ok (.iload 9, 2) := by decide +kernel
theorem dX12_fixed_57 : decode cX12_fixed 57 = .ok (.aload_n 0, 1) := by decide +kernel
theorem dX12_fixed_58 : decode cX12_fixed 58 = .ok (.iload_n 1, 1) := by decide +kernel
theorem dX12_fixed_59 : decode cX12_fixed 59 = .ok (.iaload, 1) := by decide +kernel
theorem dX12_fixed_60 : decode cX12_fixed 60 = .ok (.if_icmp .ge 37, 3) := by decide +kernel
theorem dX12_fixed_97 : decode cX12_fixed 97 = .ok (.iload_n 3, 1) := by decide +kernel
theorem dX12_fixed_98 : decode cX12_fixed 98 = .ok (.iconst 1, 1) := by decide +kernel
theorem dX12_fixed_99 : decode cX12_fixed 99 = .ok (.if_icmp .ne 9, 3) := by decide +kernel
theorem dX12_fixed_108 : decode cX12_fixed 108 = .ok (.lload 5, 2) := by decide +kernel
theorem dX12_fixed_110 : decode cX12_fixed 110 = .ok (.lreturn, 1) := by decide +kernel
theorem dX12_fixed_102 : decode cX12_fixed 102 = .ok (.lload 5, 2) := by decide +kernel
theorem dX12_fixed_104 : decode cX12_fixed 104 = .ok (.lneg, 1) := by decide +kernel
theorem dX12_fixed_105 : decode cX12_fixed 105 = .ok (.goto 5, 3) := by decide +kernel
theorem dX12_fixed_63 : decode cX12_fixed 63 = .ok (.lload 5, 2) := by decide +kernel
theorem dX12_fixed_65 : decode cX12_fixed 65 = .ok (.iload 8, 2) := by decide +kernel
theorem dX12_fixed_67 : decode cX12_fixed 67 = .ok (.i2l, 1) := by decide +kernel
theorem dX12_fixed_68 : decode cX12_fixed 68 = .ok (.aload_n 0, 1) := by decide +kernel
theorem dX12_fixed_69 : decode cX12_fixed 69 = .ok (.iload_n 1, 1) := by decide +kernel
theorem dX12_fixed_70 : decode cX12_fixed 70 = .ok (.iconst 1, 1) := by decide +kernel
theorem dX12_fixed_71 : decode cX12_fixed 71 = .ok (.iadd, 1) := by decide +kernel
theorem dX12_fixed_72 : decode cX12_fixed 72 = .ok (.iload 9, 2) := by decide +kernel
theorem dX12_fixed_74 : decode cX12_fixed 74 = .ok (.iadd, 1) := by decide +kernel
theorem dX12_fixed_75 : decode cX12_fixed 75 = .ok (.iaload, 1) := by decide +kernel
theorem dX12_fixed_76 : decode cX12_fixed 76 = .ok (.bipush 48, 2) := by decide +kernel
theorem dX12_fixed_78 : decode cX12_fixed 78 = .ok (.isub, 1) := by decide +kernel
theorem dX12_fixed_79 : decode cX12_fixed 79 = .ok (.i2l, 1) := by decide +kernel
theorem dX12_fixed_80 : decode cX12_fixed 80 = .ok (.lmul, 1) := by decide +kernel
theorem dX12_fixed_81 : decode cX12_fixed 81 = .ok (.ladd, 1) := by decide +kernel
theorem dX12_fixed_82 : decode cX12_fixed 82 = .ok (.lstore 5, 2) := by decide +kernel
theorem dX12_fixed_84 : decode cX12_fixed 84 = .ok (.iload 8, 2) := by decide +kernel
theorem dX12_fixed_86 : decode cX12_fixed 86 = .ok (.bipush 10, 2) := by decide +kernel
theorem dX12_fixed_88 : decode cX12_fixed 88 = .ok (.idiv, 1) := by decide +kernel
theorem dX12_fixed_89 : decode cX12_fixed 89 = .ok (.istore 8, 2) := by decide +kernel
theorem dX12_fixed_91 : decode cX12_fixed 91 = .ok (.iinc 9 1, 3) := by decide +kernel
theorem dX12_fixed_94 : decode cX12_fixed 94 = .ok (.goto (-39), 3) := by decide +kernel
theorem dX12_fixed_10 : decode cX12_fixed 10 = .ok (.iconst 1, 1) := by decide +kernel
theorem dX12_fixed_11 : decode cX12_fixed 11 = .ok (.goto 4, 3) := by decide +kernel
theorem mw_947 : Cond.code yX12_valueBy cX12_valueBy 3 (some .long) ∈ wsL_law := lrk_40 _ (List.mem_of_getElem? (i := 11) rfl)
theorem dX12_valueBy_0 : decode cX12_valueBy 0 = .ok (.iload_n 2, 1) := by decide +kernel
theorem dX12_valueBy_1 : decode cX12_valueBy 1 = .ok (.tableswitch 94 1 4 #[31, 45, 52, 61], 31) := by decide +kernel
theorem dX12_valueBy_95 : decode cX12_valueBy 95 = .ok (.aload_n 0, 1) := by decide +kernel
theorem dX12_valueBy_96 : decode cX12_valueBy 96 = .ok (.iload_n 1, 1) := by decide +kernel
theorem dX12_valueBy_97 : decode cX12_valueBy 97 = .ok (.iaload, 1) := by decide +kernel
theorem dX12_valueBy_98 : decode cX12_valueBy 98 = .ok (.i2l, 1) := by decide +kernel
theorem dX12_valueBy_99 : decode cX12_valueBy 99 = .ok (.lreturn, 1) := by decide +kernel
theorem dX12_valueBy_32 : decode cX12_valueBy 32 = .ok (.aload_n 0, 1) := by decide +kernel
theorem dX12_valueBy_33 : decode cX12_valueBy 33 = .ok (.iload_n 1, 1) := by decide +kernel
theorem dX12_valueBy_34 : decode cX12_valueBy 34 = .ok (.invokestatic 123, 3) := by decide +kernel
theorem dX12_valueBy_37 : decode cX12_valueBy 37 = .ok (.ifCond .eq 7, 3) := by decide +kernel
theorem dX12_valueBy_40 : decode cX12_valueBy 40 = .ok (.lconst 1, 1) := by decide +kernel
theorem dX12_valueBy_41 : decode cX12_valueBy 41 = .ok (.goto 4, 3) := by decide +kernel
theorem dX12_valueBy_45 : decode cX12_valueBy 45 = .ok (.lreturn, 1) := by decide +kernel
theorem dX12_valueBy_44 : decode cX12_valueBy 44 = .ok (.lconst 0, 1) := by decide +kernel
theorem dX12_valueBy_46 : decode cX12_valueBy 46 = .ok (.aload_n 0, 1) := by decide +kernel
theorem dX12_valueBy_47 : decode cX12_valueBy 47 = .ok (.iload_n 1, 1) := by decide +kernel
theorem dX12_valueBy_48 : decode cX12_valueBy 48 = .ok (.iconst 1, 1) := by decide +kernel
theorem dX12_valueBy_49 : decode cX12_valueBy 49 = .ok (.invokestatic 152, 3) := by decide +kernel
theorem mw_948 : Cond.methodLink RX12 152 yX12_fixed ∈ wsL_law := lrk_40 _ (List.mem_of_getElem? (i := 12) rfl)
theorem mw_949 : Cond.static yX12_fixed ∈ wsL_law := lrk_40 _ (List.mem_of_getElem? (i := 13) rfl)
theorem gS_X12_152 : GoodIn wsL_law (va_wsS RX12 152 yX12_fixed (wl yX12_fixed cX12_fixed 10 (some .long))) := g_S mw_948 mw_949 mw_5 mw_950
theorem hdS_X12_fixed : okD yX12_fixed 3 := by decide +kernel
theorem dX12_valueBy_52 : decode cX12_valueBy 52 = .ok (.lreturn, 1) := by decide +kernel
theorem dX12_valueBy_53 : decode cX12_valueBy 53 = .ok (.aload_n 0, 1) := by decide +kernel
theorem dX12_valueBy_54 : decode cX12_valueBy 54 = .ok (.iload_n 1, 1) := by decide +kernel
theorem dX12_valueBy_55 : decode cX12_valueBy 55 = .ok (.sipush 10000, 3) := by decide +kernel
theorem dX12_valueBy_58 : decode cX12_valueBy 58 = .ok (.invokestatic 152, 3) := by decide +kernel
theorem dX12_valueBy_61 : decode cX12_valueBy 61 = .ok (.lreturn, 1) := by decide +kernel
theorem dX12_valueBy_62 : decode cX12_valueBy 62 = .ok (.bipush 100, 2) := by decide +kernel
theorem dX12_valueBy_64 : decode cX12_valueBy 64 = .ok (.aload_n 0, 1) := by decide +kernel
theorem dX12_valueBy_65 : decode cX12_valueBy 65 = .ok (.iload_n 1, 1) := by decide +kernel
theorem dX12_valueBy_66 : decode cX12_valueBy 66 = .ok (.iconst 0, 1) := by decide +kernel
theorem dX12_valueBy_67 : decode cX12_valueBy 67 = .ok (.invokestatic 115, 3) := by decide +kernel
theorem dX12_valueBy_70 : decode cX12_valueBy 70 = .ok (.imul, 1) := by decide +kernel
theorem dX12_valueBy_71 : decode cX12_valueBy 71 = .ok (.aload_n 0, 1) := by decide +kernel
theorem dX12_valueBy_72 : decode cX12_valueBy 72 = .ok (.iload_n 1, 1) := by decide +kernel
theorem dX12_valueBy_73 : decode cX12_valueBy 73 = .ok (.iconst 2, 1) := by decide +kernel
theorem dX12_valueBy_74 : decode cX12_valueBy 74 = .ok (.invokestatic 115, 3) := by decide +kernel
theorem dX12_valueBy_77 : decode cX12_valueBy 77 = .ok (.iadd, 1) := by decide +kernel
theorem dX12_valueBy_78 : decode cX12_valueBy 78 = .ok (.aload_n 0, 1) := by decide +kernel
theorem dX12_valueBy_79 : decode cX12_valueBy 79 = .ok (.iload_n 1, 1) := by decide +kernel
theorem dX12_valueBy_80 : decode cX12_valueBy 80 = .ok (.iconst 5, 1) := by decide +kernel
theorem dX12_valueBy_81 : decode cX12_valueBy 81 = .ok (.invokestatic 115, 3) := by decide +kernel
theorem dX12_valueBy_84 : decode cX12_valueBy 84 = .ok (.aload_n 0, 1) := by decide +kernel
theorem dX12_valueBy_85 : decode cX12_valueBy 85 = .ok (.iload_n 1, 1) := by decide +kernel
theorem dX12_valueBy_86 : decode cX12_valueBy 86 = .ok (.bipush 8, 2) := by decide +kernel
theorem dX12_valueBy_88 : decode cX12_valueBy 88 = .ok (.invokestatic 115, 3) := by decide +kernel
theorem dX12_valueBy_91 : decode cX12_valueBy 91 = .ok (.invokestatic 156, 3) := by decide +kernel
theorem mw_955 : Cond.methodLink RX12 156 yX12_daysFrom ∈ wsL_law := lrk_40 _ (List.mem_of_getElem? (i := 19) rfl)
theorem mw_956 : Cond.static yX12_daysFrom ∈ wsL_law := lrk_40 _ (List.mem_of_getElem? (i := 20) rfl)
theorem gS_X12_156 : GoodIn wsL_law (va_wsS RX12 156 yX12_daysFrom (wl yX12_daysFrom cX12_daysFrom 6 (some .long))) := g_S mw_955 mw_956 mw_5 mw_957
theorem hdS_X12_daysFrom : okD yX12_daysFrom 3 := by decide +kernel
theorem dX12_valueBy_94 : decode cX12_valueBy 94 = .ok (.lreturn, 1) := by decide +kernel
theorem mw_501 : Cond.code yX12_compareBytes cX12_compareBytes 7 (some .int) ∈ wsL_law := lrk_21 _ (List.mem_of_getElem? (i := 21) rfl)
theorem dX12_compareBytes_0 : decode cX12_compareBytes 0 = .ok (.iconst 0, 1) := by decide +kernel
theorem dX12_compareBytes_1 : decode cX12_compareBytes 1 = .ok (.istore 4, 2) := by decide +kernel
theorem dX12_compareBytes_3 : decode cX12_compareBytes 3 = .ok (.iload 4, 2) := by decide +kernel
theorem dX12_compareBytes_5 : decode cX12_compareBytes 5 = .ok (.aload_n 0, 1) := by decide +kernel
theorem dX12_compareBytes_6 : decode cX12_compareBytes 6 = .ok (.iload_n 1, 1) := by decide +kernel
theorem dX12_compareBytes_7 : decode cX12_compareBytes 7 = .ok (.iaload, 1) := by decide +kernel
theorem dX12_compareBytes_8 : decode cX12_compareBytes 8 = .ok (.if_icmp .ge 36, 3) := by decide +kernel
theorem dX12_compareBytes_44 : decode cX12_compareBytes 44 = .ok (.iload 4, 2) := by decide +kernel
theorem dX12_compareBytes_46 : decode cX12_compareBytes 46 = .ok (.aload_n 0, 1) := by decide +kernel
theorem dX12_compareBytes_47 : decode cX12_compareBytes 47 = .ok (.iload_n 1, 1) := by decide +kernel
theorem dX12_compareBytes_48 : decode cX12_compareBytes 48 = .ok (.iaload, 1) := by decide +kernel
theorem dX12_compareBytes_49 : decode cX12_compareBytes 49 = .ok (.if_icmp .ne 7, 3) := by decide +kernel
theorem dX12_compareBytes_56 : decode cX12_compareBytes 56 = .ok (.iconst 0, 1) := by decide +kernel
theorem dX12_compareBytes_57 : decode cX12_compareBytes 57 = .ok (.istore 5, 2) := by decide +kernel
theorem dX12_compareBytes_59 : decode cX12_compareBytes 59 = .ok (.iload 4, 2) := by decide +kernel
theorem dX12_compareBytes_61 : decode cX12_compareBytes 61 = .ok (.aload_n 2, 1) := by decide +kernel
theorem dX12_compareBytes_62 : decode cX12_compareBytes 62 = .ok (.iload_n 3, 1) := by decide +kernel
theorem dX12_compareBytes_63 : decode cX12_compareBytes 63 = .ok (.iaload, 1) := by decide +kernel
theorem dX12_compareBytes_64 : decode cX12_compareBytes 64 = .ok (.if_icmp .ne 7, 3) := by decide +kernel
theorem dX12_compareBytes_71 : decode cX12_compareBytes 71 = .ok (.iconst 0, 1) := by decide +kernel
theorem dX12_compareBytes_72 : decode cX12_compareBytes 72 = .ok (.istore 6, 2) := by decide +kernel
theorem dX12_compareBytes_74 : decode cX12_compareBytes 74 = .ok (.iload 5, 2) := by decide +kernel
theorem dX12_compareBytes_76 : decode cX12_compareBytes 76 = .ok (.ifCond .ne 8, 3) := by decide +kernel
theorem dX12_compareBytes_79 : decode cX12_compareBytes 79 = .ok (.iload 6, 2) := by decide +kernel
theorem dX12_compareBytes_81 : decode cX12_compareBytes 81 = .ok (.ifCond .eq 28, 3) := by decide +kernel
theorem dX12_compareBytes_109 : decode cX12_compareBytes 109 = .ok (.aload_n 0, 1) := by decide +kernel
theorem dX12_compareBytes_110 : decode cX12_compareBytes 110 = .ok (.iload_n 1, 1) := by decide +kernel
theorem dX12_compareBytes_111 : decode cX12_compareBytes 111 = .ok (.iconst 1, 1) := by decide +kernel
theorem dX12_compareBytes_112 : decode cX12_compareBytes 112 = .ok (.iadd, 1) := by decide +kernel
theorem dX12_compareBytes_113 : decode cX12_compareBytes 113 = .ok (.iload 4, 2) := by decide +kernel
theorem dX12_compareBytes_115 : decode cX12_compareBytes 115 = .ok (.iadd, 1) := by decide +kernel
theorem dX12_compareBytes_116 : decode cX12_compareBytes 116 = .ok (.iaload, 1) := by decide +kernel
theorem dX12_compareBytes_117 : decode cX12_compareBytes 117 = .ok (.aload_n 2, 1) := by decide +kernel
theorem dX12_compareBytes_118 : decode cX12_compareBytes 118 = .ok (.iload_n 3, 1) := by decide +kernel
theorem dX12_compareBytes_119 : decode cX12_compareBytes 119 = .ok (.iconst 1, 1) := by decide +kernel
theorem dX12_compareBytes_120 : decode cX12_compareBytes 120 = .ok (.iadd, 1) := by decide +kernel
theorem dX12_compareBytes_121 : decode cX12_compareBytes 121 = .ok (.iload 4, 2) := by decide +kernel
theorem dX12_compareBytes_123 : decode cX12_compareBytes 123 = .ok (.iadd, 1) := by decide +kernel
theorem dX12_compareBytes_124 : decode cX12_compareBytes 124 = .ok (.iaload, 1) := by decide +kernel
theorem dX12_compareBytes_125 : decode cX12_compareBytes 125 = .ok (.if_icmp .le 7, 3) := by decide +kernel
theorem dX12_compareBytes_132 : decode cX12_compareBytes 132 = .ok (.iconst 2, 1) := by decide +kernel
theorem dX12_compareBytes_133 : decode cX12_compareBytes 133 = .ok (.ireturn, 1) := by decide +kernel
theorem dX12_compareBytes_128 : decode cX12_compareBytes 128 = .ok (.iconst 1, 1) := by decide +kernel
theorem dX12_compareBytes_129 : decode cX12_compareBytes 129 = .ok (.goto 4, 3) := by decide +kernel
theorem dX12_compareBytes_67 : decode cX12_compareBytes 67 = .ok (.iconst 1, 1) := by decide +kernel
theorem dX12_compareBytes_68 : decode cX12_compareBytes 68 = .ok (.goto 4, 3) := by decide +kernel
theorem dX12_compareBytes_84 : decode cX12_compareBytes 84 = .ok (.iload 5, 2) := by decide +kernel
theorem dX12_compareBytes_86 : decode cX12_compareBytes 86 = .ok (.ifCond .eq 12, 3) := by decide +kernel
theorem dX12_compareBytes_98 : decode cX12_compareBytes 98 = .ok (.iload 5, 2) := by decide +kernel
theorem dX12_compareBytes_100 : decode cX12_compareBytes 100 = .ok (.ifCond .eq 7, 3) := by decide +kernel
theorem dX12_compareBytes_107 : decode cX12_compareBytes 107 = .ok (.iconst 1, 1) := by decide +kernel
theorem dX12_compareBytes_108 : decode cX12_compareBytes 108 = .ok (.ireturn, 1) := by decide +kernel
theorem dX12_compareBytes_52 : decode cX12_compareBytes 52 = .ok (.iconst 1, 1) := by decide +kernel
theorem dX12_compareBytes_53 : decode cX12_compareBytes 53 = .ok (.goto 4, 3) := by decide +kernel
theorem dX12_compareBytes_89 : decode cX12_compareBytes 89 = .ok (.iload 6, 2) := by decide +kernel
theorem dX12_compareBytes_91 : decode cX12_compareBytes 91 = .ok (.ifCond .eq 7, 3) := by decide +kernel
theorem dX12_compareBytes_103 : decode cX12_compareBytes 103 = .ok (.iconst 2, 1) := by decide +kernel
theorem dX12_compareBytes_104 : decode cX12_compareBytes 104 = .ok (.goto 4, 3) := by decide +kernel
theorem dX12_compareBytes_94 : decode cX12_compareBytes 94 = .ok (.iconst 0, 1) := by decide +kernel
theorem dX12_compareBytes_95 : decode cX12_compareBytes 95 = .ok (.goto 13, 3) := by decide +kernel
theorem dX12_compareBytes_11 : decode cX12_compareBytes 11 = .ok (.iload 4, 2) := by decide +kernel
theorem dX12_compareBytes_13 : decode cX12_compareBytes 13 = .ok (.aload_n 2, 1) := by decide +kernel
theorem dX12_compareBytes_14 : decode cX12_compareBytes 14 = .ok (.iload_n 3, 1) := by decide +kernel
theorem dX12_compareBytes_15 : decode cX12_compareBytes 15 = .ok (.iaload, 1) := by decide +kernel
theorem dX12_compareBytes_16 : decode cX12_compareBytes 16 = .ok (.if_icmp .ge 28, 3) := by decide +kernel
theorem dX12_compareBytes_19 : decode cX12_compareBytes 19 = .ok (.aload_n 0, 1) := by decide +kernel
theorem dX12_compareBytes_20 : decode cX12_compareBytes 20 = .ok (.iload_n 1, 1) := by decide +kernel
theorem dX12_compareBytes_21 : decode cX12_compareBytes 21 = .ok (.iconst 1, 1) := by decide +kernel
theorem dX12_compareBytes_22 : decode cX12_compareBytes 22 = .ok (.iadd, 1) := by decide +kernel
theorem dX12_compareBytes_23 : decode cX12_compareBytes 23 = .ok (.iload 4, 2) := by decide +kernel
theorem dX12_compareBytes_25 : decode cX12_compareBytes 25 = .ok (.iadd, 1) := by decide +kernel
theorem dX12_compareBytes_26 : decode cX12_compareBytes 26 = .ok (.iaload, 1) := by decide +kernel
theorem dX12_compareBytes_27 : decode cX12_compareBytes 27 = .ok (.aload_n 2, 1) := by decide +kernel
theorem dX12_compareBytes_28 : decode cX12_compareBytes 28 = .ok (.iload_n 3, 1) := by decide +kernel
theorem dX12_compareBytes_29 : decode cX12_compareBytes 29 = .ok (.iconst 1, 1) := by decide +kernel
theorem dX12_compareBytes_30 : decode cX12_compareBytes 30 = .ok (.iadd, 1) := by decide +kernel
theorem dX12_compareBytes_31 : decode cX12_compareBytes 31 = .ok (.iload 4, 2) := by decide +kernel
theorem dX12_compareBytes_33 : decode cX12_compareBytes 33 = .ok (.iadd, 1) := by decide +kernel
theorem dX12_compareBytes_34 : decode cX12_compareBytes 34 = .ok (.iaload, 1) := by decide +kernel
theorem dX12_compareBytes_35 : decode cX12_compareBytes 35 = .ok (.if_icmp .ne 9, 3) := by decide +kernel
theorem dX12_compareBytes_38 : decode cX12_compareBytes 38 = .ok (.iinc 4 1, 3) := by decide +kernel
theorem dX12_compareBytes_41 : decode cX12_compareBytes 41 = .ok (.goto (-38), 3) := by decide +kernel
theorem mw_498 : Cond.code yX12_areSame cX12_areSame 4 (some .boolean) ∈ wsL_law := lrk_21 _ (List.mem_of_getElem? (i := 18) rfl)
theorem dX12_areSame_0 : decode cX12_areSame 0 = .ok (.aload_n 0, 1) := by decide +kernel
theorem dX12_areSame_1 : decode cX12_areSame 1 = .ok (.iload_n 1, 1) := by decide +kernel
theorem dX12_areSame_2 : decode cX12_areSame 2 = .ok (.aload_n 2, 1) := by decide +kernel
theorem dX12_areSame_3 : decode cX12_areSame 3 = .ok (.iload_n 3, 1) := by decide +kernel
theorem dX12_areSame_4 : decode cX12_areSame 4 = .ok (.invokestatic 160, 3) := by decide +kernel
theorem mw_499 : Cond.methodLink RX12 160 yX12_compareBytes ∈ wsL_law := lrk_21 _ (List.mem_of_getElem? (i := 19) rfl)
theorem mw_500 : Cond.static yX12_compareBytes ∈ wsL_law := lrk_21 _ (List.mem_of_getElem? (i := 20) rfl)
theorem gS_X12_160 : GoodIn wsL_law (va_wsS RX12 160 yX12_compareBytes (wl yX12_compareBytes cX12_compareBytes 7 (some .int))) := g_S mw_499 mw_500 mw_5 mw_501
theorem hdS_X12_compareBytes : okD yX12_compareBytes 4 := by decide +kernel
theorem dX12_areSame_7 : decode cX12_areSame 7 = .ok (.ifCond .ne 7, 3) := by decide +kernel
theorem dX12_areSame_14 : decode cX12_areSame 14 = .ok (.iconst 0, 1) := by decide +kernel
theorem dX12_areSame_15 : decode cX12_areSame 15 = .ok (.ireturn, 1) := by decide +kernel
theorem dX12_areSame_10 : decode cX12_areSame 10 = .ok (.iconst 1, 1) := by decide +kernel
theorem dX12_areSame_11 : decode cX12_areSame 11 = .ok (.goto 4, 3) := by decide +kernel
theorem mw_944 : Cond.code yX12_compareBy cX12_compareBy 9 (some .int) ∈ wsL_law := lrk_40 _ (List.mem_of_getElem? (i := 8) rfl)
theorem dX12_compareBy_0 : decode cX12_compareBy 0 = .ok (.aload_n 0, 1) := by decide +kernel
theorem dX12_compareBy_1 : decode cX12_compareBy 1 = .ok (.iload_n 1, 1) := by decide +kernel
theorem dX12_compareBy_2 : decode cX12_compareBy 2 = .ok (.iaload, 1) := by decide +kernel
theorem dX12_compareBy_3 : decode cX12_compareBy 3 = .ok (.ifCond .eq 9, 3) := by decide +kernel
theorem dX12_compareBy_12 : decode cX12_compareBy 12 = .ok (.aload_n 0, 1) := by decide +kernel
theorem dX12_compareBy_13 : decode cX12_compareBy 13 = .ok (.iload_n 1, 1) := by decide +kernel
theorem dX12_compareBy_14 : decode cX12_compareBy 14 = .ok (.iaload, 1) := by decide +kernel
theorem dX12_compareBy_15 : decode cX12_compareBy 15 = .ok (.aload_n 2, 1) := by decide +kernel
theorem dX12_compareBy_16 : decode cX12_compareBy 16 = .ok (.iload_n 3, 1) := by decide +kernel
theorem dX12_compareBy_17 : decode cX12_compareBy 17 = .ok (.iaload, 1) := by decide +kernel
theorem dX12_compareBy_18 : decode cX12_compareBy 18 = .ok (.if_icmp .ne 7, 3) := by decide +kernel
theorem dX12_compareBy_25 : decode cX12_compareBy 25 = .ok (.aload_n 0, 1) := by decide +kernel
theorem dX12_compareBy_26 : decode cX12_compareBy 26 = .ok (.iload_n 1, 1) := by decide +kernel
theorem dX12_compareBy_27 : decode cX12_compareBy 27 = .ok (.iaload, 1) := by decide +kernel
theorem dX12_compareBy_28 : decode cX12_compareBy 28 = .ok (.ifCond .ne 7, 3) := by decide +kernel
theorem dX12_compareBy_35 : decode cX12_compareBy 35 = .ok (.iconst 1, 1) := by decide +kernel
theorem dX12_compareBy_36 : decode cX12_compareBy 36 = .ok (.ireturn, 1) := by decide +kernel
theorem dX12_compareBy_31 : decode cX12_compareBy 31 = .ok (.iconst 2, 1) := by decide +kernel
theorem dX12_compareBy_32 : decode cX12_compareBy 32 = .ok (.goto 4, 3) := by decide +kernel
theorem dX12_compareBy_21 : decode cX12_compareBy 21 = .ok (.iconst 0, 1) := by decide +kernel
theorem dX12_compareBy_22 : decode cX12_compareBy 22 = .ok (.goto 14, 3) := by decide +kernel
theorem dX12_compareBy_6 : decode cX12_compareBy 6 = .ok (.aload_n 2, 1) := by decide +kernel
theorem dX12_compareBy_7 : decode cX12_compareBy 7 = .ok (.iload_n 3, 1) := by decide +kernel
theorem dX12_compareBy_8 : decode cX12_compareBy 8 = .ok (.iaload, 1) := by decide +kernel
theorem dX12_compareBy_9 : decode cX12_compareBy 9 = .ok (.ifCond .ne 28, 3) := by decide +kernel
theorem dX12_compareBy_37 : decode cX12_compareBy 37 = .ok (.iload 4, 2) := by decide +kernel
theorem dX12_compareBy_39 : decode cX12_compareBy 39 = .ok (.iconst 5, 1) := by decide +kernel
theorem dX12_compareBy_40 : decode cX12_compareBy 40 = .ok (.if_icmp .ne 11, 3) := by decide +kernel
theorem dX12_compareBy_51 : decode cX12_compareBy 51 = .ok (.aload_n 0, 1) := by decide +kernel
theorem dX12_compareBy_52 : decode cX12_compareBy 52 = .ok (.iload_n 1, 1) := by decide +kernel
theorem dX12_compareBy_53 : decode cX12_compareBy 53 = .ok (.iload 4, 2) := by decide +kernel
theorem dX12_compareBy_55 : decode cX12_compareBy 55 = .ok (.invokestatic 164, 3) := by decide +kernel
theorem mw_945 : Cond.methodLink RX12 164 yX12_valueBy ∈ wsL_law := lrk_40 _ (List.mem_of_getElem? (i := 9) rfl)
theorem mw_946 : Cond.static yX12_valueBy ∈ wsL_law := lrk_40 _ (List.mem_of_getElem? (i := 10) rfl)
theorem gS_X12_164 : GoodIn wsL_law (va_wsS RX12 164 yX12_valueBy (wl yX12_valueBy cX12_valueBy 3 (some .long))) := g_S mw_945 mw_946 mw_5 mw_947
theorem hdS_X12_valueBy : okD yX12_valueBy 3 := by decide +kernel
theorem dX12_compareBy_58 : decode cX12_compareBy 58 = .ok (.lstore 5, 2) := by decide +kernel
theorem dX12_compareBy_60 : decode cX12_compareBy 60 = .ok (.aload_n 2, 1) := by decide +kernel
theorem dX12_compareBy_61 : decode cX12_compareBy 61 = .ok (.iload_n 3, 1) := by decide +kernel
theorem dX12_compareBy_62 : decode cX12_compareBy 62 = .ok (.iload 4, 2) := by decide +kernel
theorem dX12_compareBy_64 : decode cX12_compareBy 64 = .ok (.invokestatic 164, 3) := by decide +kernel
theorem dX12_compareBy_67 : decode cX12_compareBy 67 = .ok (.lstore 7, 2) := by decide +kernel
theorem dX12_compareBy_69 : decode cX12_compareBy 69 = .ok (.lload 5, 2) := by decide +kernel
theorem dX12_compareBy_71 : decode cX12_compareBy 71 = .ok (.lload 7, 2) := by decide +kernel
theorem dX12_compareBy_73 : decode cX12_compareBy 73 = .ok (.lcmp, 1) := by decide +kernel
theorem dX12_compareBy_74 : decode cX12_compareBy 74 = .ok (.ifCond .ne 7, 3) := by decide +kernel
theorem dX12_compareBy_81 : decode cX12_compareBy 81 = .ok (.lload 5, 2) := by decide +kernel
theorem dX12_compareBy_83 : decode cX12_compareBy 83 = .ok (.lload 7, 2) := by decide +kernel
theorem dX12_compareBy_85 : decode cX12_compareBy 85 = .ok (.lcmp, 1) := by decide +kernel
theorem dX12_compareBy_86 : decode cX12_compareBy 86 = .ok (.ifCond .le 7, 3) := by decide +kernel
theorem dX12_compareBy_93 : decode cX12_compareBy 93 = .ok (.iconst 2, 1) := by decide +kernel
theorem dX12_compareBy_94 : decode cX12_compareBy 94 = .ok (.ireturn, 1) := by decide +kernel
theorem dX12_compareBy_89 : decode cX12_compareBy 89 = .ok (.iconst 1, 1) := by decide +kernel
theorem dX12_compareBy_90 : decode cX12_compareBy 90 = .ok (.goto 4, 3) := by decide +kernel
theorem dX12_compareBy_77 : decode cX12_compareBy 77 = .ok (.iconst 0, 1) := by decide +kernel
theorem dX12_compareBy_78 : decode cX12_compareBy 78 = .ok (.goto 16, 3) := by decide +kernel
theorem dX12_compareBy_43 : decode cX12_compareBy 43 = .ok (.aload_n 0, 1) := by decide +kernel
theorem dX12_compareBy_44 : decode cX12_compareBy 44 = .ok (.iload_n 1, 1) := by decide +kernel
theorem dX12_compareBy_45 : decode cX12_compareBy 45 = .ok (.aload_n 2, 1) := by decide +kernel
theorem dX12_compareBy_46 : decode cX12_compareBy 46 = .ok (.iload_n 3, 1) := by decide +kernel
theorem dX12_compareBy_47 : decode cX12_compareBy 47 = .ok (.invokestatic 160, 3) := by decide +kernel
theorem dX12_compareBy_50 : decode cX12_compareBy 50 = .ok (.ireturn, 1) := by decide +kernel
theorem mw_482 : Cond.code yX12_isName cX12_isName 3 (some .boolean) ∈ wsL_law := lrk_21 _ (List.mem_of_getElem? (i := 2) rfl)
theorem dX12_isName_0 : decode cX12_isName 0 = .ok (.aload_n 0, 1) := by decide +kernel
theorem dX12_isName_1 : decode cX12_isName 1 = .ok (.iload_n 1, 1) := by decide +kernel
theorem dX12_isName_2 : decode cX12_isName 2 = .ok (.iaload, 1) := by decide +kernel
theorem dX12_isName_3 : decode cX12_isName 3 = .ok (.i2l, 1) := by decide +kernel
theorem dX12_isName_4 : decode cX12_isName 4 = .ok (.lconst 1, 1) := by decide +kernel
theorem dX12_isName_5 : decode cX12_isName 5 = .ok (.ldc2_w 118, 3) := by decide +kernel
theorem dX12_isName_8 : decode cX12_isName 8 = .ok (.invokestatic 62, 3) := by decide +kernel
theorem dX12_isName_11 : decode cX12_isName 11 = .ok (.ifCond .ne 5, 3) := by decide +kernel
theorem dX12_isName_16 : decode cX12_isName 16 = .ok (.iconst 0, 1) := by decide +kernel
theorem dX12_isName_17 : decode cX12_isName 17 = .ok (.istore_n 2, 1) := by decide +kernel
theorem dX12_isName_18 : decode cX12_isName 18 = .ok (.iload_n 2, 1) := by decide +kernel
theorem dX12_isName_19 : decode cX12_isName 19 = .ok (.aload_n 0, 1) := by decide +kernel
theorem dX12_isName_20 : decode cX12_isName 20 = .ok (.iload_n 1, 1) := by decide +kernel
theorem dX12_isName_21 : decode cX12_isName 21 = .ok (.iaload, 1) := by decide +kernel
theorem dX12_isName_22 : decode cX12_isName 22 = .ok (.if_icmp .ge 24, 3) := by decide +kernel
theorem dX12_isName_46 : decode cX12_isName 46 = .ok (.iconst 1, 1) := by decide +kernel
theorem dX12_isName_47 : decode cX12_isName 47 = .ok (.ireturn, 1) := by decide +kernel
theorem dX12_isName_25 : decode cX12_isName 25 = .ok (.aload_n 0, 1) := by decide +kernel
theorem dX12_isName_26 : decode cX12_isName 26 = .ok (.iload_n 1, 1) := by decide +kernel
theorem dX12_isName_27 : decode cX12_isName 27 = .ok (.iconst 1, 1) := by decide +kernel
theorem dX12_isName_28 : decode cX12_isName 28 = .ok (.iadd, 1) := by decide +kernel
theorem dX12_isName_29 : decode cX12_isName 29 = .ok (.iload_n 2, 1) := by decide +kernel
theorem dX12_isName_30 : decode cX12_isName 30 = .ok (.iadd, 1) := by decide +kernel
theorem dX12_isName_31 : decode cX12_isName 31 = .ok (.iaload, 1) := by decide +kernel
theorem dX12_isName_32 : decode cX12_isName 32 = .ok (.invokestatic 238, 3) := by decide +kernel
theorem mw_484 : Cond.methodLink RX12 238 yX12_isLetter ∈ wsL_law := lrk_21 _ (List.mem_of_getElem? (i := 4) rfl)
theorem mw_485 : Cond.static yX12_isLetter ∈ wsL_law := lrk_21 _ (List.mem_of_getElem? (i := 5) rfl)
theorem gS_X12_238 : GoodIn wsL_law (va_wsS RX12 238 yX12_isLetter (wl yX12_isLetter cX12_isLetter 1 (some .boolean))) := g_S mw_484 mw_485 mw_5 mw_486
theorem hdS_X12_isLetter : okD yX12_isLetter 1 := by decide +kernel
theorem dX12_isName_35 : decode cX12_isName 35 = .ok (.ifCond .ne 5, 3) := by decide +kernel
theorem dX12_isName_40 : decode cX12_isName 40 = .ok (.iinc 2 1, 3) := by decide +kernel
theorem dX12_isName_43 : decode cX12_isName 43 = .ok (.goto (-25), 3) := by decide +kernel
theorem dX12_isName_38 : decode cX12_isName 38 = .ok (.iconst 0, 1) := by decide +kernel
theorem dX12_isName_39 : decode cX12_isName 39 = .ok (.ireturn, 1) := by decide +kernel
theorem dX12_isName_14 : decode cX12_isName 14 = .ok (.iconst 0, 1) := by decide +kernel
theorem dX12_isName_15 : decode cX12_isName 15 = .ok (.ireturn, 1) := by decide +kernel
set_option maxHeartbeats 4000000 in
set_option maxRecDepth 100000 in
theorem s_X12_isIn (l : Launch) (D : va_G) (κ : Nat → ClassId) (v : Int64) (lo : Int64) (hi : Int64) : Cr l yX12_isIn (wl yX12_isIn cX12_isIn 6 (some .boolean)) { frames := 0, cells := 0, slots := 0, locals := 0 } D κ [.long v, .long lo, .long hi] (va_P D vwCl []) (fun r : Int32 => some (.int r)) (fun r : Int32 => (r = 1 ∧ ¬ lg_cmp v lo < 0 ∧ ¬ 0 < lg_cmp v hi) ∨ (r = 0 ∧ (lg_cmp v lo < 0 ∨ 0 < lg_cmp v hi))) := by
  refine cr_of (by decide +kernel) (Nat.le_of_ble_eq_true rfl) ?_
  intro p e s m args below meth c ls hx hb hr hml hts hown hlk hKK hK hI hl
  have hP : va_P D vwCl [] s.heap := hI
  have hFX : FX p s m args c cX12_isIn 6 RX12 := ⟨hx, hb, hml, hown, hts⟩
  have hl : lv_has ls 6 [(0, .long v), (2, .long lo), (4, .long hi)] := hl
  refine lv_lload_n hx hb dX12_isIn_0 rfl (lv_at hl 0 rfl) ?_
  refine lv_lload_n hx hb dX12_isIn_1 rfl (lv_at hl 1 rfl) ?_
  refine W.lcmp hx hb dX12_isIn_2 ?_
  refine lv_if_lt (tgt := 17) hx hb dX12_isIn_3 (by decide) (fun c_1 => ?_) (fun c_1 => ?_)
  · refine lv_iconst (v := 0) hx hb dX12_isIn_17 (by decide) ?_
    exact cr_iret hx hb hr hlk rfl 0 rfl (by first | exact Or.inr ((⟨rfl, (by first | assumption | exact Or.inl (by assumption) | exact Or.inr (by assumption) | exact out_ne (by assumption) (by decide) (by decide) | exact ⟨_, (by assumption), rfl⟩ | (simp_all; done))⟩))) dX12_isIn_18
  · refine lv_lload_n hx hb dX12_isIn_6 rfl (lv_at hl 0 rfl) ?_
    refine lv_lload hx hb dX12_isIn_7 (lv_at hl 2 rfl) ?_
    refine W.lcmp hx hb dX12_isIn_9 ?_
    refine lv_if_gt (tgt := 17) hx hb dX12_isIn_10 (by decide) (fun c_2 => ?_) (fun c_2 => ?_)
    · refine lv_iconst (v := 0) hx hb dX12_isIn_17 (by decide) ?_
      exact cr_iret hx hb hr hlk rfl 0 rfl (by first | exact Or.inr ((⟨rfl, (by first | assumption | exact Or.inl (by assumption) | exact Or.inr (by assumption) | exact out_ne (by assumption) (by decide) (by decide) | exact ⟨_, (by assumption), rfl⟩ | (simp_all; done))⟩))) dX12_isIn_18
    · refine lv_iconst (v := 1) hx hb dX12_isIn_13 (by decide) ?_
      refine lv_goto (tgt := 18) hx hb dX12_isIn_14 (by decide) ?_
      exact cr_iret hx hb hr hlk rfl 1 rfl (by first | exact Or.inl (⟨rfl, (by first | assumption | exact Or.inl (by assumption) | exact Or.inr (by assumption) | exact out_ne (by assumption) (by decide) (by decide) | exact ⟨_, (by assumption), rfl⟩ | (simp_all; done)), (by first | assumption | exact Or.inl (by assumption) | exact Or.inr (by assumption) | exact out_ne (by assumption) (by decide) (by decide) | exact ⟨_, (by assumption), rfl⟩ | (simp_all; done))⟩)) dX12_isIn_18
set_option maxHeartbeats 4000000 in
set_option maxRecDepth 100000 in
theorem s_X12_at (l : Launch) (D : va_G) (κ : Nat → ClassId) (a : Nat) (b : Nat) : Cr l yX12_at (wl yX12_at cX12_at 2 (some .int)) { frames := 0, cells := 0, slots := 0, locals := 0 } D κ [.int (nI a), .int (nI b)] (va_P D vwCl []) (fun _ : Unit => some (.int (nI (7123 * a + b)))) (fun _ : Unit => True) := by
  refine cr_of (by decide +kernel) (Nat.le_of_ble_eq_true rfl) ?_
  intro p e s m args below meth c ls hx hb hr hml hts hown hlk hKK hK hI hl
  have hP : va_P D vwCl [] s.heap := hI
  have hFX : FX p s m args c cX12_at 2 RX12 := ⟨hx, hb, hml, hown, hts⟩
  have hl : lv_has ls 2 [(0, .int (nI a)), (1, .int (nI b))] := hl
  refine lv_sipush (v := 7123) hx hb dX12_at_0 (by decide) ?_
  refine lv_iload_n hx hb dX12_at_3 rfl (lv_at hl 0 rfl) ?_
  refine lv_imul hx hb dX12_at_4 ?_
  refine ki (v := (nI (7123 * a))) (pk_mul 7123 a) ?_
  refine lv_iload_n hx hb dX12_at_5 rfl (lv_at hl 1 rfl) ?_
  refine lv_iadd hx hb dX12_at_6 ?_
  refine ki (v := (nI (7123 * a + b))) (nI_add (7123 * a) b) ?_
  exact cr_iret hx hb hr hlk rfl () rfl trivial dX12_at_7
set_option maxHeartbeats 4000000 in
set_option maxRecDepth 100000 in
theorem s_X12_cellAt (l : Launch) (D : va_G) (κ : Nat → ClassId) (a : Nat) (b : Nat) (co : Nat) : Cr l yX12_cellAt (wl yX12_cellAt cX12_cellAt 3 (some .int)) { frames := 0, cells := 0, slots := 0, locals := 0 } D κ [.int (nI a), .int (nI b), .int (nI co)] (va_P D vwCl []) (fun _ : Unit => some (.int (nI (7123 * a + 403 + 21 * (8 * b + co))))) (fun _ : Unit => True) := by
  refine cr_of (by decide +kernel) (Nat.le_of_ble_eq_true rfl) ?_
  intro p e s m args below meth c ls hx hb hr hml hts hown hlk hKK hK hI hl
  have hP : va_P D vwCl [] s.heap := hI
  have hFX : FX p s m args c cX12_cellAt 3 RX12 := ⟨hx, hb, hml, hown, hts⟩
  have hl : lv_has ls 3 [(0, .int (nI a)), (1, .int (nI b)), (2, .int (nI co))] := hl
  refine lv_sipush (v := 7123) hx hb dX12_cellAt_0 (by decide) ?_
  refine lv_iload_n hx hb dX12_cellAt_3 rfl (lv_at hl 0 rfl) ?_
  refine lv_imul hx hb dX12_cellAt_4 ?_
  refine ki (v := (nI (7123 * a))) (pk_mul 7123 a) ?_
  refine lv_sipush (v := 403) hx hb dX12_cellAt_5 (by decide) ?_
  refine lv_iadd hx hb dX12_cellAt_8 ?_
  refine ki (v := (nI (7123 * a + 403))) (nI_add (7123 * a) 403) ?_
  refine lv_bipush (v := 21) hx hb dX12_cellAt_9 (by decide) ?_
  refine lv_bipush (v := 8) hx hb dX12_cellAt_11 (by decide) ?_
  refine lv_iload_n hx hb dX12_cellAt_13 rfl (lv_at hl 1 rfl) ?_
  refine lv_imul hx hb dX12_cellAt_14 ?_
  refine ki (v := (nI (8 * b))) (pk_mul 8 b) ?_
  refine lv_iload_n hx hb dX12_cellAt_15 rfl (lv_at hl 2 rfl) ?_
  refine lv_iadd hx hb dX12_cellAt_16 ?_
  refine ki (v := (nI (8 * b + co))) (nI_add (8 * b) co) ?_
  refine lv_imul hx hb dX12_cellAt_17 ?_
  refine ki (v := (nI (21 * (8 * b + co)))) (pk_mul 21 (8 * b + co)) ?_
  refine lv_iadd hx hb dX12_cellAt_18 ?_
  refine ki (v := (nI (7123 * a + 403 + (21 * (8 * b + co))))) (nI_add (7123 * a + 403) (21 * (8 * b + co))) ?_
  exact cr_iret hx hb hr hlk rfl () rfl trivial dX12_cellAt_19
set_option maxHeartbeats 4000000 in
set_option maxRecDepth 100000 in
theorem s_X12_nameAt (l : Launch) (D : va_G) (κ : Nat → ClassId) (a : Nat) (b : Nat) : Cr l yX12_nameAt (wl yX12_nameAt cX12_nameAt 2 (some .int)) { frames := 0, cells := 0, slots := 0, locals := 0 } D κ [.int (nI a), .int (nI b)] (va_P D vwCl []) (fun _ : Unit => some (.int (nI (7123 * a + 4 + 13 * b)))) (fun _ : Unit => True) := by
  refine cr_of (by decide +kernel) (Nat.le_of_ble_eq_true rfl) ?_
  intro p e s m args below meth c ls hx hb hr hml hts hown hlk hKK hK hI hl
  have hP : va_P D vwCl [] s.heap := hI
  have hFX : FX p s m args c cX12_nameAt 2 RX12 := ⟨hx, hb, hml, hown, hts⟩
  have hl : lv_has ls 2 [(0, .int (nI a)), (1, .int (nI b))] := hl
  refine lv_sipush (v := 7123) hx hb dX12_nameAt_0 (by decide) ?_
  refine lv_iload_n hx hb dX12_nameAt_3 rfl (lv_at hl 0 rfl) ?_
  refine lv_imul hx hb dX12_nameAt_4 ?_
  refine ki (v := (nI (7123 * a))) (pk_mul 7123 a) ?_
  refine lv_iconst (v := 4) hx hb dX12_nameAt_5 (by decide) ?_
  refine lv_iadd hx hb dX12_nameAt_6 ?_
  refine ki (v := (nI (7123 * a + 4))) (nI_add (7123 * a) 4) ?_
  refine lv_bipush (v := 13) hx hb dX12_nameAt_7 (by decide) ?_
  refine lv_iload_n hx hb dX12_nameAt_9 rfl (lv_at hl 1 rfl) ?_
  refine lv_imul hx hb dX12_nameAt_10 ?_
  refine ki (v := (nI (13 * b))) (pk_mul 13 b) ?_
  refine lv_iadd hx hb dX12_nameAt_11 ?_
  refine ki (v := (nI (7123 * a + 4 + (13 * b)))) (nI_add (7123 * a + 4) (13 * b)) ?_
  exact cr_iret hx hb hr hlk rfl () rfl trivial dX12_nameAt_12
set_option maxHeartbeats 4000000 in
set_option maxRecDepth 100000 in
theorem s_X12_isDigit (l : Launch) (D : va_G) (κ : Nat → ClassId) (za : Int32) : Cr l yX12_isDigit (wl yX12_isDigit cX12_isDigit 1 (some .boolean)) { frames := 1, cells := 0, slots := 0, locals := 25 } D κ [.int za] (va_P D vwCl []) (fun r : Int32 => some (.int r)) (fun r : Int32 => (r = 1) ∨ (r = 0)) := by
  refine cr_of (by decide +kernel) (Nat.le_of_ble_eq_true rfl) ?_
  intro p e s m args below meth c ls hx hb hr hml hts hown hlk hKK hK hI hl
  have hP : va_P D vwCl [] s.heap := hI
  have hFX : FX p s m args c cX12_isDigit 1 RX12 := ⟨hx, hb, hml, hown, hts⟩
  have hl : lv_has ls 1 [(0, .int za)] := hl
  refine lv_iload_n hx hb dX12_isDigit_0 rfl (lv_at hl 0 rfl) ?_
  refine lv_i2l (v := za.toInt64) hx hb dX12_isDigit_1 rfl ?_
  refine lv_ldc2 hx hb hown (hts _ mw_494) dX12_isDigit_2 ?_
  refine lv_ldc2 hx hb hown (hts _ mw_495) dX12_isDigit_5 ?_
  refine cr_S (As := [.long za.toInt64, .long 48, .long 57]) (rest := []) hFX hKK (s_X12_isIn l D κ za.toInt64 48 57) 3 gS_X12_62 hdS_X12_isIn rfl rfl ⟨Nat.le_of_ble_eq_true rfl, Nat.le_of_ble_eq_true rfl⟩ rfl rfl (Nat.le_of_ble_eq_true rfl) dX12_isDigit_8 ⟨Nat.le_of_ble_eq_true rfl, Nat.le_of_ble_eq_true rfl⟩ hl.1 (hP.sub [] rfl) (fun r_1 hp_2 => ?_)
  have hp_2 : (r_1 = 1 ∧ ¬ lg_cmp za.toInt64 (48 : Int64) < 0 ∧ ¬ 0 < lg_cmp za.toInt64 (57 : Int64)) ∨ (r_1 = 0 ∧ (lg_cmp za.toInt64 (48 : Int64) < 0 ∨ 0 < lg_cmp za.toInt64 (57 : Int64))) := hp_2
  rcases hp_2 with ⟨rfl, a_3, a_4⟩ | ⟨rfl, a_5⟩
  · refine W.eq (g2 := F0 m 11 ls [.int 1]) rfl ?_
    exact cr_iret hx hb hr hlk rfl 1 rfl (by first | exact Or.inl (rfl)) dX12_isDigit_11
  · refine W.eq (g2 := F0 m 11 ls [.int 0]) rfl ?_
    exact cr_iret hx hb hr hlk rfl 0 rfl (by first | exact Or.inr ((rfl))) dX12_isDigit_11
set_option maxHeartbeats 4000000 in
set_option maxRecDepth 100000 in
theorem s_X12_isLetter (l : Launch) (D : va_G) (κ : Nat → ClassId) (za : Int32) : Cr l yX12_isLetter (wl yX12_isLetter cX12_isLetter 1 (some .boolean)) { frames := 2, cells := 0, slots := 0, locals := 45 } D κ [.int za] (va_P D vwCl []) (fun r : Int32 => some (.int r)) (fun r : Int32 => (r = 1) ∨ (r = 0)) := by
  refine cr_of (by decide +kernel) (Nat.le_of_ble_eq_true rfl) ?_
  intro p e s m args below meth c ls hx hb hr hml hts hown hlk hKK hK hI hl
  have hP : va_P D vwCl [] s.heap := hI
  have hFX : FX p s m args c cX12_isLetter 1 RX12 := ⟨hx, hb, hml, hown, hts⟩
  have hl : lv_has ls 1 [(0, .int za)] := hl
  refine lv_iload_n hx hb dX12_isLetter_0 rfl (lv_at hl 0 rfl) ?_
  refine lv_i2l (v := za.toInt64) hx hb dX12_isLetter_1 rfl ?_
  refine lv_ldc2 hx hb hown (hts _ mw_487) dX12_isLetter_2 ?_
  refine lv_ldc2 hx hb hown (hts _ mw_488) dX12_isLetter_5 ?_
  refine cr_S (As := [.long za.toInt64, .long 97, .long 122]) (rest := []) hFX hKK (s_X12_isIn l D κ za.toInt64 97 122) 3 gS_X12_62 hdS_X12_isIn rfl rfl ⟨Nat.le_of_ble_eq_true rfl, Nat.le_of_ble_eq_true rfl⟩ rfl rfl (Nat.le_of_ble_eq_true rfl) dX12_isLetter_8 ⟨Nat.le_of_ble_eq_true rfl, Nat.le_of_ble_eq_true rfl⟩ hl.1 (hP.sub [] rfl) (fun r_1 hp_2 => ?_)
  have hp_2 : (r_1 = 1 ∧ ¬ lg_cmp za.toInt64 (97 : Int64) < 0 ∧ ¬ 0 < lg_cmp za.toInt64 (122 : Int64)) ∨ (r_1 = 0 ∧ (lg_cmp za.toInt64 (97 : Int64) < 0 ∨ 0 < lg_cmp za.toInt64 (122 : Int64))) := hp_2
  rcases hp_2 with ⟨rfl, a_3, a_4⟩ | ⟨rfl, a_5⟩
  · refine W.eq (g2 := F0 m 11 ls [.int 1]) rfl ?_
    refine lv_if_ne (tgt := 41) hx hb dX12_isLetter_11 (by decide) (fun c_6 => ?_) (fun c_6 => absurd c_6 (by decide))
    refine lv_iconst (v := 1) hx hb dX12_isLetter_41 (by decide) ?_
    refine lv_goto (tgt := 46) hx hb dX12_isLetter_42 (by decide) ?_
    exact cr_iret hx hb hr hlk rfl 1 rfl (by first | exact Or.inl (rfl)) dX12_isLetter_46
  · refine W.eq (g2 := F0 m 11 ls [.int 0]) rfl ?_
    refine lv_if_ne (tgt := 41) hx hb dX12_isLetter_11 (by decide) (fun c_7 => absurd (by decide) c_7) (fun c_7 => ?_)
    refine lv_iload_n hx hb dX12_isLetter_14 rfl (lv_at hl 0 rfl) ?_
    refine lv_i2l (v := za.toInt64) hx hb dX12_isLetter_15 rfl ?_
    refine lv_ldc2 hx hb hown (hts _ mw_489) dX12_isLetter_16 ?_
    refine lv_ldc2 hx hb hown (hts _ mw_490) dX12_isLetter_19 ?_
    refine cr_S (As := [.long za.toInt64, .long 65, .long 90]) (rest := []) hFX hKK (s_X12_isIn l D κ za.toInt64 65 90) 3 gS_X12_62 hdS_X12_isIn rfl rfl ⟨Nat.le_of_ble_eq_true rfl, Nat.le_of_ble_eq_true rfl⟩ rfl rfl (Nat.le_of_ble_eq_true rfl) dX12_isLetter_22 ⟨Nat.le_of_ble_eq_true rfl, Nat.le_of_ble_eq_true rfl⟩ hl.1 (hP.sub [] rfl) (fun r_8 hp_9 => ?_)
    have hp_9 : (r_8 = 1 ∧ ¬ lg_cmp za.toInt64 (65 : Int64) < 0 ∧ ¬ 0 < lg_cmp za.toInt64 (90 : Int64)) ∨ (r_8 = 0 ∧ (lg_cmp za.toInt64 (65 : Int64) < 0 ∨ 0 < lg_cmp za.toInt64 (90 : Int64))) := hp_9
    rcases hp_9 with ⟨rfl, a_10, a_11⟩ | ⟨rfl, a_12⟩
    · refine W.eq (g2 := F0 m 25 ls [.int 1]) rfl ?_
      refine lv_if_ne (tgt := 41) hx hb dX12_isLetter_25 (by decide) (fun c_13 => ?_) (fun c_13 => absurd c_13 (by decide))
      refine lv_iconst (v := 1) hx hb dX12_isLetter_41 (by decide) ?_
      refine lv_goto (tgt := 46) hx hb dX12_isLetter_42 (by decide) ?_
      exact cr_iret hx hb hr hlk rfl 1 rfl (by first | exact Or.inl (rfl)) dX12_isLetter_46
    · refine W.eq (g2 := F0 m 25 ls [.int 0]) rfl ?_
      refine lv_if_ne (tgt := 41) hx hb dX12_isLetter_25 (by decide) (fun c_14 => absurd (by decide) c_14) (fun c_14 => ?_)
      refine lv_iload_n hx hb dX12_isLetter_28 rfl (lv_at hl 0 rfl) ?_
      refine cr_S (As := [.int za]) (rest := []) hFX hKK (s_X12_isDigit l D κ za) 1 gS_X12_101 hdS_X12_isDigit rfl rfl ⟨Nat.le_of_ble_eq_true rfl, Nat.le_of_ble_eq_true rfl⟩ rfl rfl (Nat.le_of_ble_eq_true rfl) dX12_isLetter_29 ⟨Nat.le_of_ble_eq_true rfl, Nat.le_of_ble_eq_true rfl⟩ hl.1 (hP.sub [] rfl) (fun r_15 hp_16 => ?_)
      have hp_16 : (r_15 = 1) ∨ (r_15 = 0) := hp_16
      rcases hp_16 with rfl | rfl
      · refine W.eq (g2 := F0 m 32 ls [.int 1]) rfl ?_
        refine lv_if_ne (tgt := 41) hx hb dX12_isLetter_32 (by decide) (fun c_17 => ?_) (fun c_17 => absurd c_17 (by decide))
        refine lv_iconst (v := 1) hx hb dX12_isLetter_41 (by decide) ?_
        refine lv_goto (tgt := 46) hx hb dX12_isLetter_42 (by decide) ?_
        exact cr_iret hx hb hr hlk rfl 1 rfl (by first | exact Or.inl (rfl)) dX12_isLetter_46
      · refine W.eq (g2 := F0 m 32 ls [.int 0]) rfl ?_
        refine lv_if_ne (tgt := 41) hx hb dX12_isLetter_32 (by decide) (fun c_18 => absurd (by decide) c_18) (fun c_18 => ?_)
        refine lv_iload_n hx hb dX12_isLetter_35 rfl (lv_at hl 0 rfl) ?_
        refine lv_bipush (v := 95) hx hb dX12_isLetter_36 (by decide) ?_
        refine lv_icmp_ne (tgt := 45) hx hb dX12_isLetter_38 (by decide) (fun c_19 => ?_) (fun c_19 => ?_)
        · refine lv_iconst (v := 0) hx hb dX12_isLetter_45 (by decide) ?_
          exact cr_iret hx hb hr hlk rfl 0 rfl (by first | exact Or.inr ((rfl))) dX12_isLetter_46
        · refine lv_iconst (v := 1) hx hb dX12_isLetter_41 (by decide) ?_
          refine lv_goto (tgt := 46) hx hb dX12_isLetter_42 (by decide) ?_
          exact cr_iret hx hb hr hlk rfl 1 rfl (by first | exact Or.inl (rfl)) dX12_isLetter_46
set_option maxHeartbeats 4000000 in
set_option maxRecDepth 100000 in
theorem s_X12_digitsFrom (l : Launch) (D : va_G) (κ : Nat → ClassId) (q : Nat) (N : Nat) (f : Nat → Int32) (a : Nat) (b : Nat) (hN : N < 2147483648) (ha : a + 22 ≤ N) (hf : ∃ n9 : Nat, n9 ≤ 20 ∧ f a = nI n9) (hb : b ≤ 100) : Cr l yX12_digitsFrom (wl yX12_digitsFrom cX12_digitsFrom 4 (some .int)) { frames := 2, cells := 0, slots := 0, locals := 45 } D κ [.ref q, .int (nI a), .int (nI b)] (va_P D vwCl [(q, .inl (κ 0, N, .inl f))]) (fun n : Nat => some (.int (nI n))) (fun n : Nat => n = 0 ∨ b + n ≤ 20) := by
  refine cr_of (by decide +kernel) (Nat.le_of_ble_eq_true rfl) ?_
  intro p e s m args below meth c ls hx hb hr hml hts hown hlk hKK hK hI hl
  have hP : va_P D vwCl [(q, .inl (κ 0, N, .inl f))] s.heap := hI
  have hFX : FX p s m args c cX12_digitsFrom 4 RX12 := ⟨hx, hb, hml, hown, hts⟩
  have hl : lv_has ls 4 [(0, .ref q), (1, .int (nI a)), (2, .int (nI b))] := hl
  refine lv_iconst (v := 0) hx hb dX12_digitsFrom_0 (by decide) ?_
  refine lv_istore_n (lv' := [(3, .int 0), (0, .ref q), (1, .int (nI a)), (2, .int (nI b))]) hx hb dX12_digitsFrom_1 rfl hl (by decide) rfl (fun ls hl => ?_)
  refine loop_r (fun k9 ls => ∃ (n : Nat), (n = 0 ∨ b + n ≤ 20) ∧ 21 - n = k9 ∧ lv_has ls 4 [(3, .int (nI n)), (0, .ref q), (1, .int (nI a)), (2, .int (nI b))]) (fun k9 ls hI2 ih2 => ?_) (21 - 0) _ ⟨0, (by omega), rfl, lv_sub hl [0, 1, 2, 3] rfl⟩
  obtain ⟨n, hn0, hm2, hl⟩ := hI2
  refine lv_iload_n hx hb dX12_digitsFrom_2 rfl (lv_at hl 3 rfl) ?_
  refine lv_iload_n hx hb dX12_digitsFrom_3 rfl (lv_at hl 0 rfl) ?_
  refine lv_iadd hx hb dX12_digitsFrom_4 ?_
  refine ki (v := (nI (b + n))) (nI_add b n) ?_
  refine lv_aload_n hx hb dX12_digitsFrom_5 rfl (lv_at hl 1 rfl) ?_
  refine lv_iload_n hx hb dX12_digitsFrom_6 rfl (lv_at hl 2 rfl) ?_
  refine va_iald hx hb hK hP 0 0 rfl rfl (i := nI a) (vp_in_nI (n := a) (by omega) (by omega)) dX12_digitsFrom_7 ?_
  refine kv (v := .int (f a)) (by rw [nI_clamp (by omega)]) ?_
  obtain ⟨n_1, hn_1, en_1⟩ : ∃ n9 : Nat, n9 ≤ 20 ∧ f a = nI n9 := id (hf)
  refine kv (v := .int (nI n_1)) (congrArg Value.int en_1) ?_
  refine lv_icmp_ge (tgt := 32) hx hb dX12_digitsFrom_8 (by decide) (fun c_2 => ?_) (fun c_2 => ?_)
  · have nc_2 := cv_le (a := n_1) (b := (b + n)) (by omega) (by omega) c_2
    refine lv_iload_n hx hb dX12_digitsFrom_32 rfl (lv_at hl 0 rfl) ?_
    exact cr_iret hx hb hr hlk rfl n rfl (by assumption) dX12_digitsFrom_33
  · have nc_2 := cv_nle (a := n_1) (b := (b + n)) (by omega) (by omega) c_2
    refine lv_aload_n hx hb dX12_digitsFrom_11 rfl (lv_at hl 1 rfl) ?_
    refine lv_iload_n hx hb dX12_digitsFrom_12 rfl (lv_at hl 2 rfl) ?_
    refine lv_iconst (v := 1) hx hb dX12_digitsFrom_13 (by decide) ?_
    refine lv_iadd hx hb dX12_digitsFrom_14 ?_
    refine ki (v := (nI (a + 1))) (nI_add a 1) ?_
    refine lv_iload_n hx hb dX12_digitsFrom_15 rfl (lv_at hl 3 rfl) ?_
    refine lv_iadd hx hb dX12_digitsFrom_16 ?_
    refine ki (v := (nI (a + 1 + b))) (nI_add (a + 1) b) ?_
    refine lv_iload_n hx hb dX12_digitsFrom_17 rfl (lv_at hl 0 rfl) ?_
    refine lv_iadd hx hb dX12_digitsFrom_18 ?_
    refine ki (v := (nI (a + 1 + b + n))) (nI_add (a + 1 + b) n) ?_
    refine va_iald hx hb hK hP 0 0 rfl rfl (i := nI (a + 1 + b + n)) (vp_in_nI (n := (a + 1 + b + n)) (by omega) (by omega)) dX12_digitsFrom_19 ?_
    refine kv (v := .int (f (a + 1 + b + n))) (by rw [nI_clamp (by omega)]) ?_
    refine lv_topi (fun x_3 ex_3 => ?_)
    refine cr_S (As := [.int x_3]) (rest := []) hFX hKK (s_X12_isDigit l D κ x_3) 1 gS_X12_101 hdS_X12_isDigit rfl rfl ⟨Nat.le_of_ble_eq_true rfl, Nat.le_of_ble_eq_true rfl⟩ rfl rfl (Nat.le_of_ble_eq_true rfl) dX12_digitsFrom_20 ⟨Nat.le_of_ble_eq_true rfl, Nat.le_of_ble_eq_true rfl⟩ hl.1 (hP.sub [] rfl) (fun r_4 hp_5 => ?_)
    have hp_5 : (r_4 = 1) ∨ (r_4 = 0) := hp_5
    rcases hp_5 with rfl | rfl
    · refine W.eq (g2 := F0 m 23 ls [.int 1]) rfl ?_
      refine lv_if_eq (tgt := 32) hx hb dX12_digitsFrom_23 (by decide) (fun c_6 => absurd c_6 (by decide)) (fun c_6 => ?_)
      refine lv_iinc (v := (nI (n + 1))) (lv' := [(3, .int (nI (n + 1))), (0, .ref q), (1, .int (nI a)), (2, .int (nI b))]) hx hb dX12_digitsFrom_26 hl (k := 0) rfl (nI_i n) (by decide) rfl (fun ls hl => ?_)
      refine lv_goto (tgt := 2) hx hb dX12_digitsFrom_29 (by decide) ?_
      exact ih2 _ _ (by omega) ⟨(n + 1), (by omega), rfl, lv_sub hl [0, 1, 2, 3] rfl⟩
    · refine W.eq (g2 := F0 m 23 ls [.int 0]) rfl ?_
      refine lv_if_eq (tgt := 32) hx hb dX12_digitsFrom_23 (by decide) (fun c_8 => ?_) (fun c_8 => absurd (by decide) c_8)
      refine lv_iload_n hx hb dX12_digitsFrom_32 rfl (lv_at hl 0 rfl) ?_
      exact cr_iret hx hb hr hlk rfl n rfl (by assumption) dX12_digitsFrom_33
set_option maxHeartbeats 4000000 in
set_option maxRecDepth 100000 in
theorem s_X12_spells (l : Launch) (D : va_G) (κ : Nat → ClassId) (q : Nat) (N : Nat) (f : Nat → Int32) (a : Nat) (za : Int32) (zb : Int32) (zc : Int32) (zd : Int32) (ze : Int32) (hN : N < 2147483648) (ha : a + 22 ≤ N) (hf : ∃ n9 : Nat, n9 ≤ 20 ∧ f a = nI n9) : Cr l yX12_spells (wl yX12_spells cX12_spells 9 (some .boolean)) { frames := 0, cells := 0, slots := 0, locals := 0 } D κ [.ref q, .int (nI a), .int za, .int zb, .int zc, .int zd, .int ze] (va_P D vwCl [(q, .inl (κ 0, N, .inl f))]) (fun r : Int32 => some (.int r)) (fun r : Int32 => (r = 1) ∨ (r = 0)) := by
  refine cr_of (by decide +kernel) (Nat.le_of_ble_eq_true rfl) ?_
  intro p e s m args below meth c ls hx hb hr hml hts hown hlk hKK hK hI hl
  have hP : va_P D vwCl [(q, .inl (κ 0, N, .inl f))] s.heap := hI
  have hFX : FX p s m args c cX12_spells 9 RX12 := ⟨hx, hb, hml, hown, hts⟩
  have hl : lv_has ls 9 [(0, .ref q), (1, .int (nI a)), (2, .int za), (3, .int zb), (4, .int zc), (5, .int zd), (6, .int ze)] := hl
  refine lv_aload_n hx hb dX12_spells_0 rfl (lv_at hl 0 rfl) ?_
  refine lv_iload_n hx hb dX12_spells_1 rfl (lv_at hl 1 rfl) ?_
  refine va_iald hx hb hK hP 0 0 rfl rfl (i := nI a) (vp_in_nI (n := a) (by omega) (by omega)) dX12_spells_2 ?_
  refine kv (v := .int (f a)) (by rw [nI_clamp (by omega)]) ?_
  obtain ⟨n_1, hn_1, en_1⟩ : ∃ n9 : Nat, n9 ≤ 20 ∧ f a = nI n9 := id (hf)
  refine kv (v := .int (nI n_1)) (congrArg Value.int en_1) ?_
  refine lv_istore (lv' := [(7, .int (nI n_1)), (0, .ref q), (1, .int (nI a)), (2, .int za), (3, .int zb), (4, .int zc), (5, .int zd), (6, .int ze)]) hx hb dX12_spells_3 hl (by decide) rfl (fun ls hl => ?_)
  refine lv_iload hx hb dX12_spells_5 (lv_at hl 5 rfl) ?_
  refine lv_if_ne (tgt := 14) hx hb dX12_spells_7 (by decide) (fun c_2 => ?_) (fun c_2 => ?_)
  · refine lv_iload hx hb dX12_spells_14 (lv_at hl 6 rfl) ?_
    refine lv_if_ne (tgt := 23) hx hb dX12_spells_16 (by decide) (fun c_3 => ?_) (fun c_3 => ?_)
    · refine lv_iload hx hb dX12_spells_23 (lv_at hl 7 rfl) ?_
      refine lv_if_ne (tgt := 32) hx hb dX12_spells_25 (by decide) (fun c_4 => ?_) (fun c_4 => ?_)
      · refine lv_iconst (v := 5) hx hb dX12_spells_32 (by decide) ?_
        refine lv_istore (lv' := [(8, .int 5), (7, .int (nI n_1)), (0, .ref q), (1, .int (nI a)), (2, .int za), (3, .int zb), (4, .int zc), (5, .int zd), (6, .int ze)]) hx hb dX12_spells_33 hl (by decide) rfl (fun ls hl => ?_)
        refine lv_iload hx hb dX12_spells_35 (lv_at hl 1 rfl) ?_
        refine lv_iload hx hb dX12_spells_37 (lv_at hl 0 rfl) ?_
        refine lv_icmp_ne (tgt := 60) hx hb dX12_spells_39 (by decide) (fun c_5 => ?_) (fun c_5 => ?_)
        · have nc_5 := cv_ne (a := n_1) (b := 5) (by omega) (by omega) c_5
          refine lv_iconst (v := 0) hx hb dX12_spells_60 (by decide) ?_
          exact cr_iret hx hb hr hlk rfl 0 rfl (by first | exact Or.inr ((rfl))) dX12_spells_61
        · have nc_5 := cv_eq (a := n_1) (b := 5) (by omega) (by omega) c_5
          refine lv_aload_n hx hb dX12_spells_42 rfl (lv_at hl 2 rfl) ?_
          refine lv_iload_n hx hb dX12_spells_43 rfl (lv_at hl 3 rfl) ?_
          refine lv_iconst (v := 1) hx hb dX12_spells_44 (by decide) ?_
          refine lv_iadd hx hb dX12_spells_45 ?_
          refine ki (v := (nI (a + 1))) (nI_add a 1) ?_
          refine va_iald hx hb hK hP 0 0 rfl rfl (i := nI (a + 1)) (vp_in_nI (n := (a + 1)) (by omega) (by omega)) dX12_spells_46 ?_
          refine kv (v := .int (f (a + 1))) (by rw [nI_clamp (by omega)]) ?_
          refine lv_topi (fun x_6 ex_6 => ?_)
          refine lv_iload_n hx hb dX12_spells_47 rfl (lv_at hl 4 rfl) ?_
          refine lv_icmp_ne (tgt := 60) hx hb dX12_spells_48 (by decide) (fun c_7 => ?_) (fun c_7 => ?_)
          · refine lv_iconst (v := 0) hx hb dX12_spells_60 (by decide) ?_
            exact cr_iret hx hb hr hlk rfl 0 rfl (by first | exact Or.inr ((rfl))) dX12_spells_61
          · refine lv_aload_n hx hb dX12_spells_51 rfl (lv_at hl 2 rfl) ?_
            refine lv_iload_n hx hb dX12_spells_52 rfl (lv_at hl 3 rfl) ?_
            refine lv_iconst (v := 2) hx hb dX12_spells_53 (by decide) ?_
            refine lv_iadd hx hb dX12_spells_54 ?_
            refine ki (v := (nI (a + 2))) (nI_add a 2) ?_
            refine va_iald hx hb hK hP 0 0 rfl rfl (i := nI (a + 2)) (vp_in_nI (n := (a + 2)) (by omega) (by omega)) dX12_spells_55 ?_
            refine kv (v := .int (f (a + 2))) (by rw [nI_clamp (by omega)]) ?_
            refine lv_topi (fun x_8 ex_8 => ?_)
            refine lv_iload_n hx hb dX12_spells_56 rfl (lv_at hl 5 rfl) ?_
            refine lv_icmp_eq (tgt := 62) hx hb dX12_spells_57 (by decide) (fun c_9 => ?_) (fun c_9 => ?_)
            · refine lv_iload hx hb dX12_spells_62 (lv_at hl 1 rfl) ?_
              refine lv_iconst (v := 3) hx hb dX12_spells_64 (by decide) ?_
              refine lv_icmp_lt (tgt := 78) hx hb dX12_spells_65 (by decide) (fun c_10 => ?_) (fun c_10 => ?_)
              · have nc_10 := cv_lt (a := n_1) (b := 3) (by omega) (by omega) c_10
                refine lv_iload hx hb dX12_spells_78 (lv_at hl 1 rfl) ?_
                refine lv_iconst (v := 4) hx hb dX12_spells_80 (by decide) ?_
                refine lv_icmp_lt (tgt := 94) hx hb dX12_spells_81 (by decide) (fun c_11 => ?_) (fun c_11 => ?_)
                · have nc_11 := cv_lt (a := n_1) (b := 4) (by omega) (by omega) c_11
                  refine lv_iload hx hb dX12_spells_94 (lv_at hl 1 rfl) ?_
                  refine lv_iconst (v := 5) hx hb dX12_spells_96 (by decide) ?_
                  refine lv_icmp_lt (tgt := 110) hx hb dX12_spells_97 (by decide) (fun c_12 => ?_) (fun c_12 => ?_)
                  · have nc_12 := cv_lt (a := n_1) (b := 5) (by omega) (by omega) c_12
                    refine lv_iconst (v := 1) hx hb dX12_spells_110 (by decide) ?_
                    refine lv_goto (tgt := 115) hx hb dX12_spells_111 (by decide) ?_
                    exact cr_iret hx hb hr hlk rfl 1 rfl (by first | exact Or.inl (rfl)) dX12_spells_115
                  · have nc_12 := cv_nlt (a := n_1) (b := 5) (by omega) (by omega) c_12
                    refine lv_aload_n hx hb dX12_spells_100 rfl (lv_at hl 2 rfl) ?_
                    refine lv_iload_n hx hb dX12_spells_101 rfl (lv_at hl 3 rfl) ?_
                    refine lv_iconst (v := 5) hx hb dX12_spells_102 (by decide) ?_
                    refine lv_iadd hx hb dX12_spells_103 ?_
                    refine ki (v := (nI (a + 5))) (nI_add a 5) ?_
                    refine va_iald hx hb hK hP 0 0 rfl rfl (i := nI (a + 5)) (vp_in_nI (n := (a + 5)) (by omega) (by omega)) dX12_spells_104 ?_
                    refine kv (v := .int (f (a + 5))) (by rw [nI_clamp (by omega)]) ?_
                    refine lv_topi (fun x_13 ex_13 => ?_)
                    refine lv_iload hx hb dX12_spells_105 (lv_at hl 8 rfl) ?_
                    refine lv_icmp_ne (tgt := 114) hx hb dX12_spells_107 (by decide) (fun c_14 => ?_) (fun c_14 => ?_)
                    · refine lv_iconst (v := 0) hx hb dX12_spells_114 (by decide) ?_
                      exact cr_iret hx hb hr hlk rfl 0 rfl (by first | exact Or.inr ((rfl))) dX12_spells_115
                    · refine lv_iconst (v := 1) hx hb dX12_spells_110 (by decide) ?_
                      refine lv_goto (tgt := 115) hx hb dX12_spells_111 (by decide) ?_
                      exact cr_iret hx hb hr hlk rfl 1 rfl (by first | exact Or.inl (rfl)) dX12_spells_115
                · have nc_11 := cv_nlt (a := n_1) (b := 4) (by omega) (by omega) c_11
                  refine lv_aload_n hx hb dX12_spells_84 rfl (lv_at hl 2 rfl) ?_
                  refine lv_iload_n hx hb dX12_spells_85 rfl (lv_at hl 3 rfl) ?_
                  refine lv_iconst (v := 4) hx hb dX12_spells_86 (by decide) ?_
                  refine lv_iadd hx hb dX12_spells_87 ?_
                  refine ki (v := (nI (a + 4))) (nI_add a 4) ?_
                  refine va_iald hx hb hK hP 0 0 rfl rfl (i := nI (a + 4)) (vp_in_nI (n := (a + 4)) (by omega) (by omega)) dX12_spells_88 ?_
                  refine kv (v := .int (f (a + 4))) (by rw [nI_clamp (by omega)]) ?_
                  refine lv_topi (fun x_15 ex_15 => ?_)
                  refine lv_iload hx hb dX12_spells_89 (lv_at hl 7 rfl) ?_
                  refine lv_icmp_ne (tgt := 114) hx hb dX12_spells_91 (by decide) (fun c_16 => ?_) (fun c_16 => ?_)
                  · refine lv_iconst (v := 0) hx hb dX12_spells_114 (by decide) ?_
                    exact cr_iret hx hb hr hlk rfl 0 rfl (by first | exact Or.inr ((rfl))) dX12_spells_115
                  · refine lv_iload hx hb dX12_spells_94 (lv_at hl 1 rfl) ?_
                    refine lv_iconst (v := 5) hx hb dX12_spells_96 (by decide) ?_
                    refine lv_icmp_lt (tgt := 110) hx hb dX12_spells_97 (by decide) (fun c_17 => ?_) (fun c_17 => ?_)
                    · have nc_17 := cv_lt (a := n_1) (b := 5) (by omega) (by omega) c_17
                      refine lv_iconst (v := 1) hx hb dX12_spells_110 (by decide) ?_
                      refine lv_goto (tgt := 115) hx hb dX12_spells_111 (by decide) ?_
                      exact cr_iret hx hb hr hlk rfl 1 rfl (by first | exact Or.inl (rfl)) dX12_spells_115
                    · have nc_17 := cv_nlt (a := n_1) (b := 5) (by omega) (by omega) c_17
                      refine lv_aload_n hx hb dX12_spells_100 rfl (lv_at hl 2 rfl) ?_
                      refine lv_iload_n hx hb dX12_spells_101 rfl (lv_at hl 3 rfl) ?_
                      refine lv_iconst (v := 5) hx hb dX12_spells_102 (by decide) ?_
                      refine lv_iadd hx hb dX12_spells_103 ?_
                      refine ki (v := (nI (a + 5))) (nI_add a 5) ?_
                      refine va_iald hx hb hK hP 0 0 rfl rfl (i := nI (a + 5)) (vp_in_nI (n := (a + 5)) (by omega) (by omega)) dX12_spells_104 ?_
                      refine kv (v := .int (f (a + 5))) (by rw [nI_clamp (by omega)]) ?_
                      refine lv_topi (fun x_18 ex_18 => ?_)
                      refine lv_iload hx hb dX12_spells_105 (lv_at hl 8 rfl) ?_
                      refine lv_icmp_ne (tgt := 114) hx hb dX12_spells_107 (by decide) (fun c_19 => ?_) (fun c_19 => ?_)
                      · refine lv_iconst (v := 0) hx hb dX12_spells_114 (by decide) ?_
                        exact cr_iret hx hb hr hlk rfl 0 rfl (by first | exact Or.inr ((rfl))) dX12_spells_115
                      · refine lv_iconst (v := 1) hx hb dX12_spells_110 (by decide) ?_
                        refine lv_goto (tgt := 115) hx hb dX12_spells_111 (by decide) ?_
                        exact cr_iret hx hb hr hlk rfl 1 rfl (by first | exact Or.inl (rfl)) dX12_spells_115
              · have nc_10 := cv_nlt (a := n_1) (b := 3) (by omega) (by omega) c_10
                refine lv_aload_n hx hb dX12_spells_68 rfl (lv_at hl 2 rfl) ?_
                refine lv_iload_n hx hb dX12_spells_69 rfl (lv_at hl 3 rfl) ?_
                refine lv_iconst (v := 3) hx hb dX12_spells_70 (by decide) ?_
                refine lv_iadd hx hb dX12_spells_71 ?_
                refine ki (v := (nI (a + 3))) (nI_add a 3) ?_
                refine va_iald hx hb hK hP 0 0 rfl rfl (i := nI (a + 3)) (vp_in_nI (n := (a + 3)) (by omega) (by omega)) dX12_spells_72 ?_
                refine kv (v := .int (f (a + 3))) (by rw [nI_clamp (by omega)]) ?_
                refine lv_topi (fun x_20 ex_20 => ?_)
                refine lv_iload hx hb dX12_spells_73 (lv_at hl 6 rfl) ?_
                refine lv_icmp_ne (tgt := 114) hx hb dX12_spells_75 (by decide) (fun c_21 => ?_) (fun c_21 => ?_)
                · refine lv_iconst (v := 0) hx hb dX12_spells_114 (by decide) ?_
                  exact cr_iret hx hb hr hlk rfl 0 rfl (by first | exact Or.inr ((rfl))) dX12_spells_115
                · refine lv_iload hx hb dX12_spells_78 (lv_at hl 1 rfl) ?_
                  refine lv_iconst (v := 4) hx hb dX12_spells_80 (by decide) ?_
                  refine lv_icmp_lt (tgt := 94) hx hb dX12_spells_81 (by decide) (fun c_22 => ?_) (fun c_22 => ?_)
                  · have nc_22 := cv_lt (a := n_1) (b := 4) (by omega) (by omega) c_22
                    refine lv_iload hx hb dX12_spells_94 (lv_at hl 1 rfl) ?_
                    refine lv_iconst (v := 5) hx hb dX12_spells_96 (by decide) ?_
                    refine lv_icmp_lt (tgt := 110) hx hb dX12_spells_97 (by decide) (fun c_23 => ?_) (fun c_23 => ?_)
                    · have nc_23 := cv_lt (a := n_1) (b := 5) (by omega) (by omega) c_23
                      refine lv_iconst (v := 1) hx hb dX12_spells_110 (by decide) ?_
                      refine lv_goto (tgt := 115) hx hb dX12_spells_111 (by decide) ?_
                      exact cr_iret hx hb hr hlk rfl 1 rfl (by first | exact Or.inl (rfl)) dX12_spells_115
                    · have nc_23 := cv_nlt (a := n_1) (b := 5) (by omega) (by omega) c_23
                      refine lv_aload_n hx hb dX12_spells_100 rfl (lv_at hl 2 rfl) ?_
                      refine lv_iload_n hx hb dX12_spells_101 rfl (lv_at hl 3 rfl) ?_
                      refine lv_iconst (v := 5) hx hb dX12_spells_102 (by decide) ?_
                      refine lv_iadd hx hb dX12_spells_103 ?_
                      refine ki (v := (nI (a + 5))) (nI_add a 5) ?_
                      refine va_iald hx hb hK hP 0 0 rfl rfl (i := nI (a + 5)) (vp_in_nI (n := (a + 5)) (by omega) (by omega)) dX12_spells_104 ?_
                      refine kv (v := .int (f (a + 5))) (by rw [nI_clamp (by omega)]) ?_
                      refine lv_topi (fun x_24 ex_24 => ?_)
                      refine lv_iload hx hb dX12_spells_105 (lv_at hl 8 rfl) ?_
                      refine lv_icmp_ne (tgt := 114) hx hb dX12_spells_107 (by decide) (fun c_25 => ?_) (fun c_25 => ?_)
                      · refine lv_iconst (v := 0) hx hb dX12_spells_114 (by decide) ?_
                        exact cr_iret hx hb hr hlk rfl 0 rfl (by first | exact Or.inr ((rfl))) dX12_spells_115
                      · refine lv_iconst (v := 1) hx hb dX12_spells_110 (by decide) ?_
                        refine lv_goto (tgt := 115) hx hb dX12_spells_111 (by decide) ?_
                        exact cr_iret hx hb hr hlk rfl 1 rfl (by first | exact Or.inl (rfl)) dX12_spells_115
                  · have nc_22 := cv_nlt (a := n_1) (b := 4) (by omega) (by omega) c_22
                    refine lv_aload_n hx hb dX12_spells_84 rfl (lv_at hl 2 rfl) ?_
                    refine lv_iload_n hx hb dX12_spells_85 rfl (lv_at hl 3 rfl) ?_
                    refine lv_iconst (v := 4) hx hb dX12_spells_86 (by decide) ?_
                    refine lv_iadd hx hb dX12_spells_87 ?_
                    refine ki (v := (nI (a + 4))) (nI_add a 4) ?_
                    refine va_iald hx hb hK hP 0 0 rfl rfl (i := nI (a + 4)) (vp_in_nI (n := (a + 4)) (by omega) (by omega)) dX12_spells_88 ?_
                    refine kv (v := .int (f (a + 4))) (by rw [nI_clamp (by omega)]) ?_
                    refine lv_topi (fun x_26 ex_26 => ?_)
                    refine lv_iload hx hb dX12_spells_89 (lv_at hl 7 rfl) ?_
                    refine lv_icmp_ne (tgt := 114) hx hb dX12_spells_91 (by decide) (fun c_27 => ?_) (fun c_27 => ?_)
                    · refine lv_iconst (v := 0) hx hb dX12_spells_114 (by decide) ?_
                      exact cr_iret hx hb hr hlk rfl 0 rfl (by first | exact Or.inr ((rfl))) dX12_spells_115
                    · refine lv_iload hx hb dX12_spells_94 (lv_at hl 1 rfl) ?_
                      refine lv_iconst (v := 5) hx hb dX12_spells_96 (by decide) ?_
                      refine lv_icmp_lt (tgt := 110) hx hb dX12_spells_97 (by decide) (fun c_28 => ?_) (fun c_28 => ?_)
                      · have nc_28 := cv_lt (a := n_1) (b := 5) (by omega) (by omega) c_28
                        refine lv_iconst (v := 1) hx hb dX12_spells_110 (by decide) ?_
                        refine lv_goto (tgt := 115) hx hb dX12_spells_111 (by decide) ?_
                        exact cr_iret hx hb hr hlk rfl 1 rfl (by first | exact Or.inl (rfl)) dX12_spells_115
                      · have nc_28 := cv_nlt (a := n_1) (b := 5) (by omega) (by omega) c_28
                        refine lv_aload_n hx hb dX12_spells_100 rfl (lv_at hl 2 rfl) ?_
                        refine lv_iload_n hx hb dX12_spells_101 rfl (lv_at hl 3 rfl) ?_
                        refine lv_iconst (v := 5) hx hb dX12_spells_102 (by decide) ?_
                        refine lv_iadd hx hb dX12_spells_103 ?_
                        refine ki (v := (nI (a + 5))) (nI_add a 5) ?_
                        refine va_iald hx hb hK hP 0 0 rfl rfl (i := nI (a + 5)) (vp_in_nI (n := (a + 5)) (by omega) (by omega)) dX12_spells_104 ?_
                        refine kv (v := .int (f (a + 5))) (by rw [nI_clamp (by omega)]) ?_
                        refine lv_topi (fun x_29 ex_29 => ?_)
                        refine lv_iload hx hb dX12_spells_105 (lv_at hl 8 rfl) ?_
                        refine lv_icmp_ne (tgt := 114) hx hb dX12_spells_107 (by decide) (fun c_30 => ?_) (fun c_30 => ?_)
                        · refine lv_iconst (v := 0) hx hb dX12_spells_114 (by decide) ?_
                          exact cr_iret hx hb hr hlk rfl 0 rfl (by first | exact Or.inr ((rfl))) dX12_spells_115
                        · refine lv_iconst (v := 1) hx hb dX12_spells_110 (by decide) ?_
                          refine lv_goto (tgt := 115) hx hb dX12_spells_111 (by decide) ?_
                          exact cr_iret hx hb hr hlk rfl 1 rfl (by first | exact Or.inl (rfl)) dX12_spells_115
            · refine lv_iconst (v := 0) hx hb dX12_spells_60 (by decide) ?_
              exact cr_iret hx hb hr hlk rfl 0 rfl (by first | exact Or.inr ((rfl))) dX12_spells_61
      · refine lv_iconst (v := 4) hx hb dX12_spells_28 (by decide) ?_
        refine lv_goto (tgt := 33) hx hb dX12_spells_29 (by decide) ?_
        refine lv_istore (lv' := [(8, .int 4), (7, .int (nI n_1)), (0, .ref q), (1, .int (nI a)), (2, .int za), (3, .int zb), (4, .int zc), (5, .int zd), (6, .int ze)]) hx hb dX12_spells_33 hl (by decide) rfl (fun ls hl => ?_)
        refine lv_iload hx hb dX12_spells_35 (lv_at hl 1 rfl) ?_
        refine lv_iload hx hb dX12_spells_37 (lv_at hl 0 rfl) ?_
        refine lv_icmp_ne (tgt := 60) hx hb dX12_spells_39 (by decide) (fun c_31 => ?_) (fun c_31 => ?_)
        · have nc_31 := cv_ne (a := n_1) (b := 4) (by omega) (by omega) c_31
          refine lv_iconst (v := 0) hx hb dX12_spells_60 (by decide) ?_
          exact cr_iret hx hb hr hlk rfl 0 rfl (by first | exact Or.inr ((rfl))) dX12_spells_61
        · have nc_31 := cv_eq (a := n_1) (b := 4) (by omega) (by omega) c_31
          refine lv_aload_n hx hb dX12_spells_42 rfl (lv_at hl 2 rfl) ?_
          refine lv_iload_n hx hb dX12_spells_43 rfl (lv_at hl 3 rfl) ?_
          refine lv_iconst (v := 1) hx hb dX12_spells_44 (by decide) ?_
          refine lv_iadd hx hb dX12_spells_45 ?_
          refine ki (v := (nI (a + 1))) (nI_add a 1) ?_
          refine va_iald hx hb hK hP 0 0 rfl rfl (i := nI (a + 1)) (vp_in_nI (n := (a + 1)) (by omega) (by omega)) dX12_spells_46 ?_
          refine kv (v := .int (f (a + 1))) (by rw [nI_clamp (by omega)]) ?_
          refine lv_topi (fun x_32 ex_32 => ?_)
          refine lv_iload_n hx hb dX12_spells_47 rfl (lv_at hl 4 rfl) ?_
          refine lv_icmp_ne (tgt := 60) hx hb dX12_spells_48 (by decide) (fun c_33 => ?_) (fun c_33 => ?_)
          · refine lv_iconst (v := 0) hx hb dX12_spells_60 (by decide) ?_
            exact cr_iret hx hb hr hlk rfl 0 rfl (by first | exact Or.inr ((rfl))) dX12_spells_61
          · refine lv_aload_n hx hb dX12_spells_51 rfl (lv_at hl 2 rfl) ?_
            refine lv_iload_n hx hb dX12_spells_52 rfl (lv_at hl 3 rfl) ?_
            refine lv_iconst (v := 2) hx hb dX12_spells_53 (by decide) ?_
            refine lv_iadd hx hb dX12_spells_54 ?_
            refine ki (v := (nI (a + 2))) (nI_add a 2) ?_
            refine va_iald hx hb hK hP 0 0 rfl rfl (i := nI (a + 2)) (vp_in_nI (n := (a + 2)) (by omega) (by omega)) dX12_spells_55 ?_
            refine kv (v := .int (f (a + 2))) (by rw [nI_clamp (by omega)]) ?_
            refine lv_topi (fun x_34 ex_34 => ?_)
            refine lv_iload_n hx hb dX12_spells_56 rfl (lv_at hl 5 rfl) ?_
            refine lv_icmp_eq (tgt := 62) hx hb dX12_spells_57 (by decide) (fun c_35 => ?_) (fun c_35 => ?_)
            · refine lv_iload hx hb dX12_spells_62 (lv_at hl 1 rfl) ?_
              refine lv_iconst (v := 3) hx hb dX12_spells_64 (by decide) ?_
              refine lv_icmp_lt (tgt := 78) hx hb dX12_spells_65 (by decide) (fun c_36 => ?_) (fun c_36 => ?_)
              · have nc_36 := cv_lt (a := n_1) (b := 3) (by omega) (by omega) c_36
                refine lv_iload hx hb dX12_spells_78 (lv_at hl 1 rfl) ?_
                refine lv_iconst (v := 4) hx hb dX12_spells_80 (by decide) ?_
                refine lv_icmp_lt (tgt := 94) hx hb dX12_spells_81 (by decide) (fun c_37 => ?_) (fun c_37 => ?_)
                · have nc_37 := cv_lt (a := n_1) (b := 4) (by omega) (by omega) c_37
                  refine lv_iload hx hb dX12_spells_94 (lv_at hl 1 rfl) ?_
                  refine lv_iconst (v := 5) hx hb dX12_spells_96 (by decide) ?_
                  refine lv_icmp_lt (tgt := 110) hx hb dX12_spells_97 (by decide) (fun c_38 => ?_) (fun c_38 => ?_)
                  · have nc_38 := cv_lt (a := n_1) (b := 5) (by omega) (by omega) c_38
                    refine lv_iconst (v := 1) hx hb dX12_spells_110 (by decide) ?_
                    refine lv_goto (tgt := 115) hx hb dX12_spells_111 (by decide) ?_
                    exact cr_iret hx hb hr hlk rfl 1 rfl (by first | exact Or.inl (rfl)) dX12_spells_115
                  · have nc_38 := cv_nlt (a := n_1) (b := 5) (by omega) (by omega) c_38
                    refine lv_aload_n hx hb dX12_spells_100 rfl (lv_at hl 2 rfl) ?_
                    refine lv_iload_n hx hb dX12_spells_101 rfl (lv_at hl 3 rfl) ?_
                    refine lv_iconst (v := 5) hx hb dX12_spells_102 (by decide) ?_
                    refine lv_iadd hx hb dX12_spells_103 ?_
                    refine ki (v := (nI (a + 5))) (nI_add a 5) ?_
                    refine va_iald hx hb hK hP 0 0 rfl rfl (i := nI (a + 5)) (vp_in_nI (n := (a + 5)) (by omega) (by omega)) dX12_spells_104 ?_
                    refine kv (v := .int (f (a + 5))) (by rw [nI_clamp (by omega)]) ?_
                    refine lv_topi (fun x_39 ex_39 => ?_)
                    refine lv_iload hx hb dX12_spells_105 (lv_at hl 8 rfl) ?_
                    refine lv_icmp_ne (tgt := 114) hx hb dX12_spells_107 (by decide) (fun c_40 => ?_) (fun c_40 => ?_)
                    · refine lv_iconst (v := 0) hx hb dX12_spells_114 (by decide) ?_
                      exact cr_iret hx hb hr hlk rfl 0 rfl (by first | exact Or.inr ((rfl))) dX12_spells_115
                    · refine lv_iconst (v := 1) hx hb dX12_spells_110 (by decide) ?_
                      refine lv_goto (tgt := 115) hx hb dX12_spells_111 (by decide) ?_
                      exact cr_iret hx hb hr hlk rfl 1 rfl (by first | exact Or.inl (rfl)) dX12_spells_115
                · have nc_37 := cv_nlt (a := n_1) (b := 4) (by omega) (by omega) c_37
                  refine lv_aload_n hx hb dX12_spells_84 rfl (lv_at hl 2 rfl) ?_
                  refine lv_iload_n hx hb dX12_spells_85 rfl (lv_at hl 3 rfl) ?_
                  refine lv_iconst (v := 4) hx hb dX12_spells_86 (by decide) ?_
                  refine lv_iadd hx hb dX12_spells_87 ?_
                  refine ki (v := (nI (a + 4))) (nI_add a 4) ?_
                  refine va_iald hx hb hK hP 0 0 rfl rfl (i := nI (a + 4)) (vp_in_nI (n := (a + 4)) (by omega) (by omega)) dX12_spells_88 ?_
                  refine kv (v := .int (f (a + 4))) (by rw [nI_clamp (by omega)]) ?_
                  refine lv_topi (fun x_41 ex_41 => ?_)
                  refine lv_iload hx hb dX12_spells_89 (lv_at hl 7 rfl) ?_
                  refine lv_icmp_ne (tgt := 114) hx hb dX12_spells_91 (by decide) (fun c_42 => ?_) (fun c_42 => ?_)
                  · refine lv_iconst (v := 0) hx hb dX12_spells_114 (by decide) ?_
                    exact cr_iret hx hb hr hlk rfl 0 rfl (by first | exact Or.inr ((rfl))) dX12_spells_115
                  · refine lv_iload hx hb dX12_spells_94 (lv_at hl 1 rfl) ?_
                    refine lv_iconst (v := 5) hx hb dX12_spells_96 (by decide) ?_
                    refine lv_icmp_lt (tgt := 110) hx hb dX12_spells_97 (by decide) (fun c_43 => ?_) (fun c_43 => ?_)
                    · have nc_43 := cv_lt (a := n_1) (b := 5) (by omega) (by omega) c_43
                      refine lv_iconst (v := 1) hx hb dX12_spells_110 (by decide) ?_
                      refine lv_goto (tgt := 115) hx hb dX12_spells_111 (by decide) ?_
                      exact cr_iret hx hb hr hlk rfl 1 rfl (by first | exact Or.inl (rfl)) dX12_spells_115
                    · have nc_43 := cv_nlt (a := n_1) (b := 5) (by omega) (by omega) c_43
                      refine lv_aload_n hx hb dX12_spells_100 rfl (lv_at hl 2 rfl) ?_
                      refine lv_iload_n hx hb dX12_spells_101 rfl (lv_at hl 3 rfl) ?_
                      refine lv_iconst (v := 5) hx hb dX12_spells_102 (by decide) ?_
                      refine lv_iadd hx hb dX12_spells_103 ?_
                      refine ki (v := (nI (a + 5))) (nI_add a 5) ?_
                      refine va_iald hx hb hK hP 0 0 rfl rfl (i := nI (a + 5)) (vp_in_nI (n := (a + 5)) (by omega) (by omega)) dX12_spells_104 ?_
                      refine kv (v := .int (f (a + 5))) (by rw [nI_clamp (by omega)]) ?_
                      refine lv_topi (fun x_44 ex_44 => ?_)
                      refine lv_iload hx hb dX12_spells_105 (lv_at hl 8 rfl) ?_
                      refine lv_icmp_ne (tgt := 114) hx hb dX12_spells_107 (by decide) (fun c_45 => ?_) (fun c_45 => ?_)
                      · refine lv_iconst (v := 0) hx hb dX12_spells_114 (by decide) ?_
                        exact cr_iret hx hb hr hlk rfl 0 rfl (by first | exact Or.inr ((rfl))) dX12_spells_115
                      · refine lv_iconst (v := 1) hx hb dX12_spells_110 (by decide) ?_
                        refine lv_goto (tgt := 115) hx hb dX12_spells_111 (by decide) ?_
                        exact cr_iret hx hb hr hlk rfl 1 rfl (by first | exact Or.inl (rfl)) dX12_spells_115
              · have nc_36 := cv_nlt (a := n_1) (b := 3) (by omega) (by omega) c_36
                refine lv_aload_n hx hb dX12_spells_68 rfl (lv_at hl 2 rfl) ?_
                refine lv_iload_n hx hb dX12_spells_69 rfl (lv_at hl 3 rfl) ?_
                refine lv_iconst (v := 3) hx hb dX12_spells_70 (by decide) ?_
                refine lv_iadd hx hb dX12_spells_71 ?_
                refine ki (v := (nI (a + 3))) (nI_add a 3) ?_
                refine va_iald hx hb hK hP 0 0 rfl rfl (i := nI (a + 3)) (vp_in_nI (n := (a + 3)) (by omega) (by omega)) dX12_spells_72 ?_
                refine kv (v := .int (f (a + 3))) (by rw [nI_clamp (by omega)]) ?_
                refine lv_topi (fun x_46 ex_46 => ?_)
                refine lv_iload hx hb dX12_spells_73 (lv_at hl 6 rfl) ?_
                refine lv_icmp_ne (tgt := 114) hx hb dX12_spells_75 (by decide) (fun c_47 => ?_) (fun c_47 => ?_)
                · refine lv_iconst (v := 0) hx hb dX12_spells_114 (by decide) ?_
                  exact cr_iret hx hb hr hlk rfl 0 rfl (by first | exact Or.inr ((rfl))) dX12_spells_115
                · refine lv_iload hx hb dX12_spells_78 (lv_at hl 1 rfl) ?_
                  refine lv_iconst (v := 4) hx hb dX12_spells_80 (by decide) ?_
                  refine lv_icmp_lt (tgt := 94) hx hb dX12_spells_81 (by decide) (fun c_48 => ?_) (fun c_48 => ?_)
                  · have nc_48 := cv_lt (a := n_1) (b := 4) (by omega) (by omega) c_48
                    refine lv_iload hx hb dX12_spells_94 (lv_at hl 1 rfl) ?_
                    refine lv_iconst (v := 5) hx hb dX12_spells_96 (by decide) ?_
                    refine lv_icmp_lt (tgt := 110) hx hb dX12_spells_97 (by decide) (fun c_49 => ?_) (fun c_49 => ?_)
                    · have nc_49 := cv_lt (a := n_1) (b := 5) (by omega) (by omega) c_49
                      refine lv_iconst (v := 1) hx hb dX12_spells_110 (by decide) ?_
                      refine lv_goto (tgt := 115) hx hb dX12_spells_111 (by decide) ?_
                      exact cr_iret hx hb hr hlk rfl 1 rfl (by first | exact Or.inl (rfl)) dX12_spells_115
                    · have nc_49 := cv_nlt (a := n_1) (b := 5) (by omega) (by omega) c_49
                      refine lv_aload_n hx hb dX12_spells_100 rfl (lv_at hl 2 rfl) ?_
                      refine lv_iload_n hx hb dX12_spells_101 rfl (lv_at hl 3 rfl) ?_
                      refine lv_iconst (v := 5) hx hb dX12_spells_102 (by decide) ?_
                      refine lv_iadd hx hb dX12_spells_103 ?_
                      refine ki (v := (nI (a + 5))) (nI_add a 5) ?_
                      refine va_iald hx hb hK hP 0 0 rfl rfl (i := nI (a + 5)) (vp_in_nI (n := (a + 5)) (by omega) (by omega)) dX12_spells_104 ?_
                      refine kv (v := .int (f (a + 5))) (by rw [nI_clamp (by omega)]) ?_
                      refine lv_topi (fun x_50 ex_50 => ?_)
                      refine lv_iload hx hb dX12_spells_105 (lv_at hl 8 rfl) ?_
                      refine lv_icmp_ne (tgt := 114) hx hb dX12_spells_107 (by decide) (fun c_51 => ?_) (fun c_51 => ?_)
                      · refine lv_iconst (v := 0) hx hb dX12_spells_114 (by decide) ?_
                        exact cr_iret hx hb hr hlk rfl 0 rfl (by first | exact Or.inr ((rfl))) dX12_spells_115
                      · refine lv_iconst (v := 1) hx hb dX12_spells_110 (by decide) ?_
                        refine lv_goto (tgt := 115) hx hb dX12_spells_111 (by decide) ?_
                        exact cr_iret hx hb hr hlk rfl 1 rfl (by first | exact Or.inl (rfl)) dX12_spells_115
                  · have nc_48 := cv_nlt (a := n_1) (b := 4) (by omega) (by omega) c_48
                    refine lv_aload_n hx hb dX12_spells_84 rfl (lv_at hl 2 rfl) ?_
                    refine lv_iload_n hx hb dX12_spells_85 rfl (lv_at hl 3 rfl) ?_
                    refine lv_iconst (v := 4) hx hb dX12_spells_86 (by decide) ?_
                    refine lv_iadd hx hb dX12_spells_87 ?_
                    refine ki (v := (nI (a + 4))) (nI_add a 4) ?_
                    refine va_iald hx hb hK hP 0 0 rfl rfl (i := nI (a + 4)) (vp_in_nI (n := (a + 4)) (by omega) (by omega)) dX12_spells_88 ?_
                    refine kv (v := .int (f (a + 4))) (by rw [nI_clamp (by omega)]) ?_
                    refine lv_topi (fun x_52 ex_52 => ?_)
                    refine lv_iload hx hb dX12_spells_89 (lv_at hl 7 rfl) ?_
                    refine lv_icmp_ne (tgt := 114) hx hb dX12_spells_91 (by decide) (fun c_53 => ?_) (fun c_53 => ?_)
                    · refine lv_iconst (v := 0) hx hb dX12_spells_114 (by decide) ?_
                      exact cr_iret hx hb hr hlk rfl 0 rfl (by first | exact Or.inr ((rfl))) dX12_spells_115
                    · refine lv_iload hx hb dX12_spells_94 (lv_at hl 1 rfl) ?_
                      refine lv_iconst (v := 5) hx hb dX12_spells_96 (by decide) ?_
                      refine lv_icmp_lt (tgt := 110) hx hb dX12_spells_97 (by decide) (fun c_54 => ?_) (fun c_54 => ?_)
                      · have nc_54 := cv_lt (a := n_1) (b := 5) (by omega) (by omega) c_54
                        refine lv_iconst (v := 1) hx hb dX12_spells_110 (by decide) ?_
                        refine lv_goto (tgt := 115) hx hb dX12_spells_111 (by decide) ?_
                        exact cr_iret hx hb hr hlk rfl 1 rfl (by first | exact Or.inl (rfl)) dX12_spells_115
                      · have nc_54 := cv_nlt (a := n_1) (b := 5) (by omega) (by omega) c_54
                        refine lv_aload_n hx hb dX12_spells_100 rfl (lv_at hl 2 rfl) ?_
                        refine lv_iload_n hx hb dX12_spells_101 rfl (lv_at hl 3 rfl) ?_
                        refine lv_iconst (v := 5) hx hb dX12_spells_102 (by decide) ?_
                        refine lv_iadd hx hb dX12_spells_103 ?_
                        refine ki (v := (nI (a + 5))) (nI_add a 5) ?_
                        refine va_iald hx hb hK hP 0 0 rfl rfl (i := nI (a + 5)) (vp_in_nI (n := (a + 5)) (by omega) (by omega)) dX12_spells_104 ?_
                        refine kv (v := .int (f (a + 5))) (by rw [nI_clamp (by omega)]) ?_
                        refine lv_topi (fun x_55 ex_55 => ?_)
                        refine lv_iload hx hb dX12_spells_105 (lv_at hl 8 rfl) ?_
                        refine lv_icmp_ne (tgt := 114) hx hb dX12_spells_107 (by decide) (fun c_56 => ?_) (fun c_56 => ?_)
                        · refine lv_iconst (v := 0) hx hb dX12_spells_114 (by decide) ?_
                          exact cr_iret hx hb hr hlk rfl 0 rfl (by first | exact Or.inr ((rfl))) dX12_spells_115
                        · refine lv_iconst (v := 1) hx hb dX12_spells_110 (by decide) ?_
                          refine lv_goto (tgt := 115) hx hb dX12_spells_111 (by decide) ?_
                          exact cr_iret hx hb hr hlk rfl 1 rfl (by first | exact Or.inl (rfl)) dX12_spells_115
            · refine lv_iconst (v := 0) hx hb dX12_spells_60 (by decide) ?_
              exact cr_iret hx hb hr hlk rfl 0 rfl (by first | exact Or.inr ((rfl))) dX12_spells_61
    · refine lv_iconst (v := 3) hx hb dX12_spells_19 (by decide) ?_
      refine lv_goto (tgt := 33) hx hb dX12_spells_20 (by decide) ?_
      refine lv_istore (lv' := [(8, .int 3), (7, .int (nI n_1)), (0, .ref q), (1, .int (nI a)), (2, .int za), (3, .int zb), (4, .int zc), (5, .int zd), (6, .int ze)]) hx hb dX12_spells_33 hl (by decide) rfl (fun ls hl => ?_)
      refine lv_iload hx hb dX12_spells_35 (lv_at hl 1 rfl) ?_
      refine lv_iload hx hb dX12_spells_37 (lv_at hl 0 rfl) ?_
      refine lv_icmp_ne (tgt := 60) hx hb dX12_spells_39 (by decide) (fun c_57 => ?_) (fun c_57 => ?_)
      · have nc_57 := cv_ne (a := n_1) (b := 3) (by omega) (by omega) c_57
        refine lv_iconst (v := 0) hx hb dX12_spells_60 (by decide) ?_
        exact cr_iret hx hb hr hlk rfl 0 rfl (by first | exact Or.inr ((rfl))) dX12_spells_61
      · have nc_57 := cv_eq (a := n_1) (b := 3) (by omega) (by omega) c_57
        refine lv_aload_n hx hb dX12_spells_42 rfl (lv_at hl 2 rfl) ?_
        refine lv_iload_n hx hb dX12_spells_43 rfl (lv_at hl 3 rfl) ?_
        refine lv_iconst (v := 1) hx hb dX12_spells_44 (by decide) ?_
        refine lv_iadd hx hb dX12_spells_45 ?_
        refine ki (v := (nI (a + 1))) (nI_add a 1) ?_
        refine va_iald hx hb hK hP 0 0 rfl rfl (i := nI (a + 1)) (vp_in_nI (n := (a + 1)) (by omega) (by omega)) dX12_spells_46 ?_
        refine kv (v := .int (f (a + 1))) (by rw [nI_clamp (by omega)]) ?_
        refine lv_topi (fun x_58 ex_58 => ?_)
        refine lv_iload_n hx hb dX12_spells_47 rfl (lv_at hl 4 rfl) ?_
        refine lv_icmp_ne (tgt := 60) hx hb dX12_spells_48 (by decide) (fun c_59 => ?_) (fun c_59 => ?_)
        · refine lv_iconst (v := 0) hx hb dX12_spells_60 (by decide) ?_
          exact cr_iret hx hb hr hlk rfl 0 rfl (by first | exact Or.inr ((rfl))) dX12_spells_61
        · refine lv_aload_n hx hb dX12_spells_51 rfl (lv_at hl 2 rfl) ?_
          refine lv_iload_n hx hb dX12_spells_52 rfl (lv_at hl 3 rfl) ?_
          refine lv_iconst (v := 2) hx hb dX12_spells_53 (by decide) ?_
          refine lv_iadd hx hb dX12_spells_54 ?_
          refine ki (v := (nI (a + 2))) (nI_add a 2) ?_
          refine va_iald hx hb hK hP 0 0 rfl rfl (i := nI (a + 2)) (vp_in_nI (n := (a + 2)) (by omega) (by omega)) dX12_spells_55 ?_
          refine kv (v := .int (f (a + 2))) (by rw [nI_clamp (by omega)]) ?_
          refine lv_topi (fun x_60 ex_60 => ?_)
          refine lv_iload_n hx hb dX12_spells_56 rfl (lv_at hl 5 rfl) ?_
          refine lv_icmp_eq (tgt := 62) hx hb dX12_spells_57 (by decide) (fun c_61 => ?_) (fun c_61 => ?_)
          · refine lv_iload hx hb dX12_spells_62 (lv_at hl 1 rfl) ?_
            refine lv_iconst (v := 3) hx hb dX12_spells_64 (by decide) ?_
            refine lv_icmp_lt (tgt := 78) hx hb dX12_spells_65 (by decide) (fun c_62 => ?_) (fun c_62 => ?_)
            · have nc_62 := cv_lt (a := n_1) (b := 3) (by omega) (by omega) c_62
              refine lv_iload hx hb dX12_spells_78 (lv_at hl 1 rfl) ?_
              refine lv_iconst (v := 4) hx hb dX12_spells_80 (by decide) ?_
              refine lv_icmp_lt (tgt := 94) hx hb dX12_spells_81 (by decide) (fun c_63 => ?_) (fun c_63 => ?_)
              · have nc_63 := cv_lt (a := n_1) (b := 4) (by omega) (by omega) c_63
                refine lv_iload hx hb dX12_spells_94 (lv_at hl 1 rfl) ?_
                refine lv_iconst (v := 5) hx hb dX12_spells_96 (by decide) ?_
                refine lv_icmp_lt (tgt := 110) hx hb dX12_spells_97 (by decide) (fun c_64 => ?_) (fun c_64 => ?_)
                · have nc_64 := cv_lt (a := n_1) (b := 5) (by omega) (by omega) c_64
                  refine lv_iconst (v := 1) hx hb dX12_spells_110 (by decide) ?_
                  refine lv_goto (tgt := 115) hx hb dX12_spells_111 (by decide) ?_
                  exact cr_iret hx hb hr hlk rfl 1 rfl (by first | exact Or.inl (rfl)) dX12_spells_115
                · have nc_64 := cv_nlt (a := n_1) (b := 5) (by omega) (by omega) c_64
                  refine lv_aload_n hx hb dX12_spells_100 rfl (lv_at hl 2 rfl) ?_
                  refine lv_iload_n hx hb dX12_spells_101 rfl (lv_at hl 3 rfl) ?_
                  refine lv_iconst (v := 5) hx hb dX12_spells_102 (by decide) ?_
                  refine lv_iadd hx hb dX12_spells_103 ?_
                  refine ki (v := (nI (a + 5))) (nI_add a 5) ?_
                  refine va_iald hx hb hK hP 0 0 rfl rfl (i := nI (a + 5)) (vp_in_nI (n := (a + 5)) (by omega) (by omega)) dX12_spells_104 ?_
                  refine kv (v := .int (f (a + 5))) (by rw [nI_clamp (by omega)]) ?_
                  refine lv_topi (fun x_65 ex_65 => ?_)
                  refine lv_iload hx hb dX12_spells_105 (lv_at hl 8 rfl) ?_
                  refine lv_icmp_ne (tgt := 114) hx hb dX12_spells_107 (by decide) (fun c_66 => ?_) (fun c_66 => ?_)
                  · refine lv_iconst (v := 0) hx hb dX12_spells_114 (by decide) ?_
                    exact cr_iret hx hb hr hlk rfl 0 rfl (by first | exact Or.inr ((rfl))) dX12_spells_115
                  · refine lv_iconst (v := 1) hx hb dX12_spells_110 (by decide) ?_
                    refine lv_goto (tgt := 115) hx hb dX12_spells_111 (by decide) ?_
                    exact cr_iret hx hb hr hlk rfl 1 rfl (by first | exact Or.inl (rfl)) dX12_spells_115
              · have nc_63 := cv_nlt (a := n_1) (b := 4) (by omega) (by omega) c_63
                refine lv_aload_n hx hb dX12_spells_84 rfl (lv_at hl 2 rfl) ?_
                refine lv_iload_n hx hb dX12_spells_85 rfl (lv_at hl 3 rfl) ?_
                refine lv_iconst (v := 4) hx hb dX12_spells_86 (by decide) ?_
                refine lv_iadd hx hb dX12_spells_87 ?_
                refine ki (v := (nI (a + 4))) (nI_add a 4) ?_
                refine va_iald hx hb hK hP 0 0 rfl rfl (i := nI (a + 4)) (vp_in_nI (n := (a + 4)) (by omega) (by omega)) dX12_spells_88 ?_
                refine kv (v := .int (f (a + 4))) (by rw [nI_clamp (by omega)]) ?_
                refine lv_topi (fun x_67 ex_67 => ?_)
                refine lv_iload hx hb dX12_spells_89 (lv_at hl 7 rfl) ?_
                refine lv_icmp_ne (tgt := 114) hx hb dX12_spells_91 (by decide) (fun c_68 => ?_) (fun c_68 => ?_)
                · refine lv_iconst (v := 0) hx hb dX12_spells_114 (by decide) ?_
                  exact cr_iret hx hb hr hlk rfl 0 rfl (by first | exact Or.inr ((rfl))) dX12_spells_115
                · refine lv_iload hx hb dX12_spells_94 (lv_at hl 1 rfl) ?_
                  refine lv_iconst (v := 5) hx hb dX12_spells_96 (by decide) ?_
                  refine lv_icmp_lt (tgt := 110) hx hb dX12_spells_97 (by decide) (fun c_69 => ?_) (fun c_69 => ?_)
                  · have nc_69 := cv_lt (a := n_1) (b := 5) (by omega) (by omega) c_69
                    refine lv_iconst (v := 1) hx hb dX12_spells_110 (by decide) ?_
                    refine lv_goto (tgt := 115) hx hb dX12_spells_111 (by decide) ?_
                    exact cr_iret hx hb hr hlk rfl 1 rfl (by first | exact Or.inl (rfl)) dX12_spells_115
                  · have nc_69 := cv_nlt (a := n_1) (b := 5) (by omega) (by omega) c_69
                    refine lv_aload_n hx hb dX12_spells_100 rfl (lv_at hl 2 rfl) ?_
                    refine lv_iload_n hx hb dX12_spells_101 rfl (lv_at hl 3 rfl) ?_
                    refine lv_iconst (v := 5) hx hb dX12_spells_102 (by decide) ?_
                    refine lv_iadd hx hb dX12_spells_103 ?_
                    refine ki (v := (nI (a + 5))) (nI_add a 5) ?_
                    refine va_iald hx hb hK hP 0 0 rfl rfl (i := nI (a + 5)) (vp_in_nI (n := (a + 5)) (by omega) (by omega)) dX12_spells_104 ?_
                    refine kv (v := .int (f (a + 5))) (by rw [nI_clamp (by omega)]) ?_
                    refine lv_topi (fun x_70 ex_70 => ?_)
                    refine lv_iload hx hb dX12_spells_105 (lv_at hl 8 rfl) ?_
                    refine lv_icmp_ne (tgt := 114) hx hb dX12_spells_107 (by decide) (fun c_71 => ?_) (fun c_71 => ?_)
                    · refine lv_iconst (v := 0) hx hb dX12_spells_114 (by decide) ?_
                      exact cr_iret hx hb hr hlk rfl 0 rfl (by first | exact Or.inr ((rfl))) dX12_spells_115
                    · refine lv_iconst (v := 1) hx hb dX12_spells_110 (by decide) ?_
                      refine lv_goto (tgt := 115) hx hb dX12_spells_111 (by decide) ?_
                      exact cr_iret hx hb hr hlk rfl 1 rfl (by first | exact Or.inl (rfl)) dX12_spells_115
            · have nc_62 := cv_nlt (a := n_1) (b := 3) (by omega) (by omega) c_62
              refine lv_aload_n hx hb dX12_spells_68 rfl (lv_at hl 2 rfl) ?_
              refine lv_iload_n hx hb dX12_spells_69 rfl (lv_at hl 3 rfl) ?_
              refine lv_iconst (v := 3) hx hb dX12_spells_70 (by decide) ?_
              refine lv_iadd hx hb dX12_spells_71 ?_
              refine ki (v := (nI (a + 3))) (nI_add a 3) ?_
              refine va_iald hx hb hK hP 0 0 rfl rfl (i := nI (a + 3)) (vp_in_nI (n := (a + 3)) (by omega) (by omega)) dX12_spells_72 ?_
              refine kv (v := .int (f (a + 3))) (by rw [nI_clamp (by omega)]) ?_
              refine lv_topi (fun x_72 ex_72 => ?_)
              refine lv_iload hx hb dX12_spells_73 (lv_at hl 6 rfl) ?_
              refine lv_icmp_ne (tgt := 114) hx hb dX12_spells_75 (by decide) (fun c_73 => ?_) (fun c_73 => ?_)
              · refine lv_iconst (v := 0) hx hb dX12_spells_114 (by decide) ?_
                exact cr_iret hx hb hr hlk rfl 0 rfl (by first | exact Or.inr ((rfl))) dX12_spells_115
              · refine lv_iload hx hb dX12_spells_78 (lv_at hl 1 rfl) ?_
                refine lv_iconst (v := 4) hx hb dX12_spells_80 (by decide) ?_
                refine lv_icmp_lt (tgt := 94) hx hb dX12_spells_81 (by decide) (fun c_74 => ?_) (fun c_74 => ?_)
                · have nc_74 := cv_lt (a := n_1) (b := 4) (by omega) (by omega) c_74
                  refine lv_iload hx hb dX12_spells_94 (lv_at hl 1 rfl) ?_
                  refine lv_iconst (v := 5) hx hb dX12_spells_96 (by decide) ?_
                  refine lv_icmp_lt (tgt := 110) hx hb dX12_spells_97 (by decide) (fun c_75 => ?_) (fun c_75 => ?_)
                  · have nc_75 := cv_lt (a := n_1) (b := 5) (by omega) (by omega) c_75
                    refine lv_iconst (v := 1) hx hb dX12_spells_110 (by decide) ?_
                    refine lv_goto (tgt := 115) hx hb dX12_spells_111 (by decide) ?_
                    exact cr_iret hx hb hr hlk rfl 1 rfl (by first | exact Or.inl (rfl)) dX12_spells_115
                  · have nc_75 := cv_nlt (a := n_1) (b := 5) (by omega) (by omega) c_75
                    refine lv_aload_n hx hb dX12_spells_100 rfl (lv_at hl 2 rfl) ?_
                    refine lv_iload_n hx hb dX12_spells_101 rfl (lv_at hl 3 rfl) ?_
                    refine lv_iconst (v := 5) hx hb dX12_spells_102 (by decide) ?_
                    refine lv_iadd hx hb dX12_spells_103 ?_
                    refine ki (v := (nI (a + 5))) (nI_add a 5) ?_
                    refine va_iald hx hb hK hP 0 0 rfl rfl (i := nI (a + 5)) (vp_in_nI (n := (a + 5)) (by omega) (by omega)) dX12_spells_104 ?_
                    refine kv (v := .int (f (a + 5))) (by rw [nI_clamp (by omega)]) ?_
                    refine lv_topi (fun x_76 ex_76 => ?_)
                    refine lv_iload hx hb dX12_spells_105 (lv_at hl 8 rfl) ?_
                    refine lv_icmp_ne (tgt := 114) hx hb dX12_spells_107 (by decide) (fun c_77 => ?_) (fun c_77 => ?_)
                    · refine lv_iconst (v := 0) hx hb dX12_spells_114 (by decide) ?_
                      exact cr_iret hx hb hr hlk rfl 0 rfl (by first | exact Or.inr ((rfl))) dX12_spells_115
                    · refine lv_iconst (v := 1) hx hb dX12_spells_110 (by decide) ?_
                      refine lv_goto (tgt := 115) hx hb dX12_spells_111 (by decide) ?_
                      exact cr_iret hx hb hr hlk rfl 1 rfl (by first | exact Or.inl (rfl)) dX12_spells_115
                · have nc_74 := cv_nlt (a := n_1) (b := 4) (by omega) (by omega) c_74
                  refine lv_aload_n hx hb dX12_spells_84 rfl (lv_at hl 2 rfl) ?_
                  refine lv_iload_n hx hb dX12_spells_85 rfl (lv_at hl 3 rfl) ?_
                  refine lv_iconst (v := 4) hx hb dX12_spells_86 (by decide) ?_
                  refine lv_iadd hx hb dX12_spells_87 ?_
                  refine ki (v := (nI (a + 4))) (nI_add a 4) ?_
                  refine va_iald hx hb hK hP 0 0 rfl rfl (i := nI (a + 4)) (vp_in_nI (n := (a + 4)) (by omega) (by omega)) dX12_spells_88 ?_
                  refine kv (v := .int (f (a + 4))) (by rw [nI_clamp (by omega)]) ?_
                  refine lv_topi (fun x_78 ex_78 => ?_)
                  refine lv_iload hx hb dX12_spells_89 (lv_at hl 7 rfl) ?_
                  refine lv_icmp_ne (tgt := 114) hx hb dX12_spells_91 (by decide) (fun c_79 => ?_) (fun c_79 => ?_)
                  · refine lv_iconst (v := 0) hx hb dX12_spells_114 (by decide) ?_
                    exact cr_iret hx hb hr hlk rfl 0 rfl (by first | exact Or.inr ((rfl))) dX12_spells_115
                  · refine lv_iload hx hb dX12_spells_94 (lv_at hl 1 rfl) ?_
                    refine lv_iconst (v := 5) hx hb dX12_spells_96 (by decide) ?_
                    refine lv_icmp_lt (tgt := 110) hx hb dX12_spells_97 (by decide) (fun c_80 => ?_) (fun c_80 => ?_)
                    · have nc_80 := cv_lt (a := n_1) (b := 5) (by omega) (by omega) c_80
                      refine lv_iconst (v := 1) hx hb dX12_spells_110 (by decide) ?_
                      refine lv_goto (tgt := 115) hx hb dX12_spells_111 (by decide) ?_
                      exact cr_iret hx hb hr hlk rfl 1 rfl (by first | exact Or.inl (rfl)) dX12_spells_115
                    · have nc_80 := cv_nlt (a := n_1) (b := 5) (by omega) (by omega) c_80
                      refine lv_aload_n hx hb dX12_spells_100 rfl (lv_at hl 2 rfl) ?_
                      refine lv_iload_n hx hb dX12_spells_101 rfl (lv_at hl 3 rfl) ?_
                      refine lv_iconst (v := 5) hx hb dX12_spells_102 (by decide) ?_
                      refine lv_iadd hx hb dX12_spells_103 ?_
                      refine ki (v := (nI (a + 5))) (nI_add a 5) ?_
                      refine va_iald hx hb hK hP 0 0 rfl rfl (i := nI (a + 5)) (vp_in_nI (n := (a + 5)) (by omega) (by omega)) dX12_spells_104 ?_
                      refine kv (v := .int (f (a + 5))) (by rw [nI_clamp (by omega)]) ?_
                      refine lv_topi (fun x_81 ex_81 => ?_)
                      refine lv_iload hx hb dX12_spells_105 (lv_at hl 8 rfl) ?_
                      refine lv_icmp_ne (tgt := 114) hx hb dX12_spells_107 (by decide) (fun c_82 => ?_) (fun c_82 => ?_)
                      · refine lv_iconst (v := 0) hx hb dX12_spells_114 (by decide) ?_
                        exact cr_iret hx hb hr hlk rfl 0 rfl (by first | exact Or.inr ((rfl))) dX12_spells_115
                      · refine lv_iconst (v := 1) hx hb dX12_spells_110 (by decide) ?_
                        refine lv_goto (tgt := 115) hx hb dX12_spells_111 (by decide) ?_
                        exact cr_iret hx hb hr hlk rfl 1 rfl (by first | exact Or.inl (rfl)) dX12_spells_115
          · refine lv_iconst (v := 0) hx hb dX12_spells_60 (by decide) ?_
            exact cr_iret hx hb hr hlk rfl 0 rfl (by first | exact Or.inr ((rfl))) dX12_spells_61
  · refine lv_iconst (v := 2) hx hb dX12_spells_10 (by decide) ?_
    refine lv_goto (tgt := 33) hx hb dX12_spells_11 (by decide) ?_
    refine lv_istore (lv' := [(8, .int 2), (7, .int (nI n_1)), (0, .ref q), (1, .int (nI a)), (2, .int za), (3, .int zb), (4, .int zc), (5, .int zd), (6, .int ze)]) hx hb dX12_spells_33 hl (by decide) rfl (fun ls hl => ?_)
    refine lv_iload hx hb dX12_spells_35 (lv_at hl 1 rfl) ?_
    refine lv_iload hx hb dX12_spells_37 (lv_at hl 0 rfl) ?_
    refine lv_icmp_ne (tgt := 60) hx hb dX12_spells_39 (by decide) (fun c_83 => ?_) (fun c_83 => ?_)
    · have nc_83 := cv_ne (a := n_1) (b := 2) (by omega) (by omega) c_83
      refine lv_iconst (v := 0) hx hb dX12_spells_60 (by decide) ?_
      exact cr_iret hx hb hr hlk rfl 0 rfl (by first | exact Or.inr ((rfl))) dX12_spells_61
    · have nc_83 := cv_eq (a := n_1) (b := 2) (by omega) (by omega) c_83
      refine lv_aload_n hx hb dX12_spells_42 rfl (lv_at hl 2 rfl) ?_
      refine lv_iload_n hx hb dX12_spells_43 rfl (lv_at hl 3 rfl) ?_
      refine lv_iconst (v := 1) hx hb dX12_spells_44 (by decide) ?_
      refine lv_iadd hx hb dX12_spells_45 ?_
      refine ki (v := (nI (a + 1))) (nI_add a 1) ?_
      refine va_iald hx hb hK hP 0 0 rfl rfl (i := nI (a + 1)) (vp_in_nI (n := (a + 1)) (by omega) (by omega)) dX12_spells_46 ?_
      refine kv (v := .int (f (a + 1))) (by rw [nI_clamp (by omega)]) ?_
      refine lv_topi (fun x_84 ex_84 => ?_)
      refine lv_iload_n hx hb dX12_spells_47 rfl (lv_at hl 4 rfl) ?_
      refine lv_icmp_ne (tgt := 60) hx hb dX12_spells_48 (by decide) (fun c_85 => ?_) (fun c_85 => ?_)
      · refine lv_iconst (v := 0) hx hb dX12_spells_60 (by decide) ?_
        exact cr_iret hx hb hr hlk rfl 0 rfl (by first | exact Or.inr ((rfl))) dX12_spells_61
      · refine lv_aload_n hx hb dX12_spells_51 rfl (lv_at hl 2 rfl) ?_
        refine lv_iload_n hx hb dX12_spells_52 rfl (lv_at hl 3 rfl) ?_
        refine lv_iconst (v := 2) hx hb dX12_spells_53 (by decide) ?_
        refine lv_iadd hx hb dX12_spells_54 ?_
        refine ki (v := (nI (a + 2))) (nI_add a 2) ?_
        refine va_iald hx hb hK hP 0 0 rfl rfl (i := nI (a + 2)) (vp_in_nI (n := (a + 2)) (by omega) (by omega)) dX12_spells_55 ?_
        refine kv (v := .int (f (a + 2))) (by rw [nI_clamp (by omega)]) ?_
        refine lv_topi (fun x_86 ex_86 => ?_)
        refine lv_iload_n hx hb dX12_spells_56 rfl (lv_at hl 5 rfl) ?_
        refine lv_icmp_eq (tgt := 62) hx hb dX12_spells_57 (by decide) (fun c_87 => ?_) (fun c_87 => ?_)
        · refine lv_iload hx hb dX12_spells_62 (lv_at hl 1 rfl) ?_
          refine lv_iconst (v := 3) hx hb dX12_spells_64 (by decide) ?_
          refine lv_icmp_lt (tgt := 78) hx hb dX12_spells_65 (by decide) (fun c_88 => ?_) (fun c_88 => ?_)
          · have nc_88 := cv_lt (a := n_1) (b := 3) (by omega) (by omega) c_88
            refine lv_iload hx hb dX12_spells_78 (lv_at hl 1 rfl) ?_
            refine lv_iconst (v := 4) hx hb dX12_spells_80 (by decide) ?_
            refine lv_icmp_lt (tgt := 94) hx hb dX12_spells_81 (by decide) (fun c_89 => ?_) (fun c_89 => ?_)
            · have nc_89 := cv_lt (a := n_1) (b := 4) (by omega) (by omega) c_89
              refine lv_iload hx hb dX12_spells_94 (lv_at hl 1 rfl) ?_
              refine lv_iconst (v := 5) hx hb dX12_spells_96 (by decide) ?_
              refine lv_icmp_lt (tgt := 110) hx hb dX12_spells_97 (by decide) (fun c_90 => ?_) (fun c_90 => ?_)
              · have nc_90 := cv_lt (a := n_1) (b := 5) (by omega) (by omega) c_90
                refine lv_iconst (v := 1) hx hb dX12_spells_110 (by decide) ?_
                refine lv_goto (tgt := 115) hx hb dX12_spells_111 (by decide) ?_
                exact cr_iret hx hb hr hlk rfl 1 rfl (by first | exact Or.inl (rfl)) dX12_spells_115
              · have nc_90 := cv_nlt (a := n_1) (b := 5) (by omega) (by omega) c_90
                refine lv_aload_n hx hb dX12_spells_100 rfl (lv_at hl 2 rfl) ?_
                refine lv_iload_n hx hb dX12_spells_101 rfl (lv_at hl 3 rfl) ?_
                refine lv_iconst (v := 5) hx hb dX12_spells_102 (by decide) ?_
                refine lv_iadd hx hb dX12_spells_103 ?_
                refine ki (v := (nI (a + 5))) (nI_add a 5) ?_
                refine va_iald hx hb hK hP 0 0 rfl rfl (i := nI (a + 5)) (vp_in_nI (n := (a + 5)) (by omega) (by omega)) dX12_spells_104 ?_
                refine kv (v := .int (f (a + 5))) (by rw [nI_clamp (by omega)]) ?_
                refine lv_topi (fun x_91 ex_91 => ?_)
                refine lv_iload hx hb dX12_spells_105 (lv_at hl 8 rfl) ?_
                refine lv_icmp_ne (tgt := 114) hx hb dX12_spells_107 (by decide) (fun c_92 => ?_) (fun c_92 => ?_)
                · refine lv_iconst (v := 0) hx hb dX12_spells_114 (by decide) ?_
                  exact cr_iret hx hb hr hlk rfl 0 rfl (by first | exact Or.inr ((rfl))) dX12_spells_115
                · refine lv_iconst (v := 1) hx hb dX12_spells_110 (by decide) ?_
                  refine lv_goto (tgt := 115) hx hb dX12_spells_111 (by decide) ?_
                  exact cr_iret hx hb hr hlk rfl 1 rfl (by first | exact Or.inl (rfl)) dX12_spells_115
            · have nc_89 := cv_nlt (a := n_1) (b := 4) (by omega) (by omega) c_89
              refine lv_aload_n hx hb dX12_spells_84 rfl (lv_at hl 2 rfl) ?_
              refine lv_iload_n hx hb dX12_spells_85 rfl (lv_at hl 3 rfl) ?_
              refine lv_iconst (v := 4) hx hb dX12_spells_86 (by decide) ?_
              refine lv_iadd hx hb dX12_spells_87 ?_
              refine ki (v := (nI (a + 4))) (nI_add a 4) ?_
              refine va_iald hx hb hK hP 0 0 rfl rfl (i := nI (a + 4)) (vp_in_nI (n := (a + 4)) (by omega) (by omega)) dX12_spells_88 ?_
              refine kv (v := .int (f (a + 4))) (by rw [nI_clamp (by omega)]) ?_
              refine lv_topi (fun x_93 ex_93 => ?_)
              refine lv_iload hx hb dX12_spells_89 (lv_at hl 7 rfl) ?_
              refine lv_icmp_ne (tgt := 114) hx hb dX12_spells_91 (by decide) (fun c_94 => ?_) (fun c_94 => ?_)
              · refine lv_iconst (v := 0) hx hb dX12_spells_114 (by decide) ?_
                exact cr_iret hx hb hr hlk rfl 0 rfl (by first | exact Or.inr ((rfl))) dX12_spells_115
              · refine lv_iload hx hb dX12_spells_94 (lv_at hl 1 rfl) ?_
                refine lv_iconst (v := 5) hx hb dX12_spells_96 (by decide) ?_
                refine lv_icmp_lt (tgt := 110) hx hb dX12_spells_97 (by decide) (fun c_95 => ?_) (fun c_95 => ?_)
                · have nc_95 := cv_lt (a := n_1) (b := 5) (by omega) (by omega) c_95
                  refine lv_iconst (v := 1) hx hb dX12_spells_110 (by decide) ?_
                  refine lv_goto (tgt := 115) hx hb dX12_spells_111 (by decide) ?_
                  exact cr_iret hx hb hr hlk rfl 1 rfl (by first | exact Or.inl (rfl)) dX12_spells_115
                · have nc_95 := cv_nlt (a := n_1) (b := 5) (by omega) (by omega) c_95
                  refine lv_aload_n hx hb dX12_spells_100 rfl (lv_at hl 2 rfl) ?_
                  refine lv_iload_n hx hb dX12_spells_101 rfl (lv_at hl 3 rfl) ?_
                  refine lv_iconst (v := 5) hx hb dX12_spells_102 (by decide) ?_
                  refine lv_iadd hx hb dX12_spells_103 ?_
                  refine ki (v := (nI (a + 5))) (nI_add a 5) ?_
                  refine va_iald hx hb hK hP 0 0 rfl rfl (i := nI (a + 5)) (vp_in_nI (n := (a + 5)) (by omega) (by omega)) dX12_spells_104 ?_
                  refine kv (v := .int (f (a + 5))) (by rw [nI_clamp (by omega)]) ?_
                  refine lv_topi (fun x_96 ex_96 => ?_)
                  refine lv_iload hx hb dX12_spells_105 (lv_at hl 8 rfl) ?_
                  refine lv_icmp_ne (tgt := 114) hx hb dX12_spells_107 (by decide) (fun c_97 => ?_) (fun c_97 => ?_)
                  · refine lv_iconst (v := 0) hx hb dX12_spells_114 (by decide) ?_
                    exact cr_iret hx hb hr hlk rfl 0 rfl (by first | exact Or.inr ((rfl))) dX12_spells_115
                  · refine lv_iconst (v := 1) hx hb dX12_spells_110 (by decide) ?_
                    refine lv_goto (tgt := 115) hx hb dX12_spells_111 (by decide) ?_
                    exact cr_iret hx hb hr hlk rfl 1 rfl (by first | exact Or.inl (rfl)) dX12_spells_115
          · have nc_88 := cv_nlt (a := n_1) (b := 3) (by omega) (by omega) c_88
            refine lv_aload_n hx hb dX12_spells_68 rfl (lv_at hl 2 rfl) ?_
            refine lv_iload_n hx hb dX12_spells_69 rfl (lv_at hl 3 rfl) ?_
            refine lv_iconst (v := 3) hx hb dX12_spells_70 (by decide) ?_
            refine lv_iadd hx hb dX12_spells_71 ?_
            refine ki (v := (nI (a + 3))) (nI_add a 3) ?_
            refine va_iald hx hb hK hP 0 0 rfl rfl (i := nI (a + 3)) (vp_in_nI (n := (a + 3)) (by omega) (by omega)) dX12_spells_72 ?_
            refine kv (v := .int (f (a + 3))) (by rw [nI_clamp (by omega)]) ?_
            refine lv_topi (fun x_98 ex_98 => ?_)
            refine lv_iload hx hb dX12_spells_73 (lv_at hl 6 rfl) ?_
            refine lv_icmp_ne (tgt := 114) hx hb dX12_spells_75 (by decide) (fun c_99 => ?_) (fun c_99 => ?_)
            · refine lv_iconst (v := 0) hx hb dX12_spells_114 (by decide) ?_
              exact cr_iret hx hb hr hlk rfl 0 rfl (by first | exact Or.inr ((rfl))) dX12_spells_115
            · refine lv_iload hx hb dX12_spells_78 (lv_at hl 1 rfl) ?_
              refine lv_iconst (v := 4) hx hb dX12_spells_80 (by decide) ?_
              refine lv_icmp_lt (tgt := 94) hx hb dX12_spells_81 (by decide) (fun c_100 => ?_) (fun c_100 => ?_)
              · have nc_100 := cv_lt (a := n_1) (b := 4) (by omega) (by omega) c_100
                refine lv_iload hx hb dX12_spells_94 (lv_at hl 1 rfl) ?_
                refine lv_iconst (v := 5) hx hb dX12_spells_96 (by decide) ?_
                refine lv_icmp_lt (tgt := 110) hx hb dX12_spells_97 (by decide) (fun c_101 => ?_) (fun c_101 => ?_)
                · have nc_101 := cv_lt (a := n_1) (b := 5) (by omega) (by omega) c_101
                  refine lv_iconst (v := 1) hx hb dX12_spells_110 (by decide) ?_
                  refine lv_goto (tgt := 115) hx hb dX12_spells_111 (by decide) ?_
                  exact cr_iret hx hb hr hlk rfl 1 rfl (by first | exact Or.inl (rfl)) dX12_spells_115
                · have nc_101 := cv_nlt (a := n_1) (b := 5) (by omega) (by omega) c_101
                  refine lv_aload_n hx hb dX12_spells_100 rfl (lv_at hl 2 rfl) ?_
                  refine lv_iload_n hx hb dX12_spells_101 rfl (lv_at hl 3 rfl) ?_
                  refine lv_iconst (v := 5) hx hb dX12_spells_102 (by decide) ?_
                  refine lv_iadd hx hb dX12_spells_103 ?_
                  refine ki (v := (nI (a + 5))) (nI_add a 5) ?_
                  refine va_iald hx hb hK hP 0 0 rfl rfl (i := nI (a + 5)) (vp_in_nI (n := (a + 5)) (by omega) (by omega)) dX12_spells_104 ?_
                  refine kv (v := .int (f (a + 5))) (by rw [nI_clamp (by omega)]) ?_
                  refine lv_topi (fun x_102 ex_102 => ?_)
                  refine lv_iload hx hb dX12_spells_105 (lv_at hl 8 rfl) ?_
                  refine lv_icmp_ne (tgt := 114) hx hb dX12_spells_107 (by decide) (fun c_103 => ?_) (fun c_103 => ?_)
                  · refine lv_iconst (v := 0) hx hb dX12_spells_114 (by decide) ?_
                    exact cr_iret hx hb hr hlk rfl 0 rfl (by first | exact Or.inr ((rfl))) dX12_spells_115
                  · refine lv_iconst (v := 1) hx hb dX12_spells_110 (by decide) ?_
                    refine lv_goto (tgt := 115) hx hb dX12_spells_111 (by decide) ?_
                    exact cr_iret hx hb hr hlk rfl 1 rfl (by first | exact Or.inl (rfl)) dX12_spells_115
              · have nc_100 := cv_nlt (a := n_1) (b := 4) (by omega) (by omega) c_100
                refine lv_aload_n hx hb dX12_spells_84 rfl (lv_at hl 2 rfl) ?_
                refine lv_iload_n hx hb dX12_spells_85 rfl (lv_at hl 3 rfl) ?_
                refine lv_iconst (v := 4) hx hb dX12_spells_86 (by decide) ?_
                refine lv_iadd hx hb dX12_spells_87 ?_
                refine ki (v := (nI (a + 4))) (nI_add a 4) ?_
                refine va_iald hx hb hK hP 0 0 rfl rfl (i := nI (a + 4)) (vp_in_nI (n := (a + 4)) (by omega) (by omega)) dX12_spells_88 ?_
                refine kv (v := .int (f (a + 4))) (by rw [nI_clamp (by omega)]) ?_
                refine lv_topi (fun x_104 ex_104 => ?_)
                refine lv_iload hx hb dX12_spells_89 (lv_at hl 7 rfl) ?_
                refine lv_icmp_ne (tgt := 114) hx hb dX12_spells_91 (by decide) (fun c_105 => ?_) (fun c_105 => ?_)
                · refine lv_iconst (v := 0) hx hb dX12_spells_114 (by decide) ?_
                  exact cr_iret hx hb hr hlk rfl 0 rfl (by first | exact Or.inr ((rfl))) dX12_spells_115
                · refine lv_iload hx hb dX12_spells_94 (lv_at hl 1 rfl) ?_
                  refine lv_iconst (v := 5) hx hb dX12_spells_96 (by decide) ?_
                  refine lv_icmp_lt (tgt := 110) hx hb dX12_spells_97 (by decide) (fun c_106 => ?_) (fun c_106 => ?_)
                  · have nc_106 := cv_lt (a := n_1) (b := 5) (by omega) (by omega) c_106
                    refine lv_iconst (v := 1) hx hb dX12_spells_110 (by decide) ?_
                    refine lv_goto (tgt := 115) hx hb dX12_spells_111 (by decide) ?_
                    exact cr_iret hx hb hr hlk rfl 1 rfl (by first | exact Or.inl (rfl)) dX12_spells_115
                  · have nc_106 := cv_nlt (a := n_1) (b := 5) (by omega) (by omega) c_106
                    refine lv_aload_n hx hb dX12_spells_100 rfl (lv_at hl 2 rfl) ?_
                    refine lv_iload_n hx hb dX12_spells_101 rfl (lv_at hl 3 rfl) ?_
                    refine lv_iconst (v := 5) hx hb dX12_spells_102 (by decide) ?_
                    refine lv_iadd hx hb dX12_spells_103 ?_
                    refine ki (v := (nI (a + 5))) (nI_add a 5) ?_
                    refine va_iald hx hb hK hP 0 0 rfl rfl (i := nI (a + 5)) (vp_in_nI (n := (a + 5)) (by omega) (by omega)) dX12_spells_104 ?_
                    refine kv (v := .int (f (a + 5))) (by rw [nI_clamp (by omega)]) ?_
                    refine lv_topi (fun x_107 ex_107 => ?_)
                    refine lv_iload hx hb dX12_spells_105 (lv_at hl 8 rfl) ?_
                    refine lv_icmp_ne (tgt := 114) hx hb dX12_spells_107 (by decide) (fun c_108 => ?_) (fun c_108 => ?_)
                    · refine lv_iconst (v := 0) hx hb dX12_spells_114 (by decide) ?_
                      exact cr_iret hx hb hr hlk rfl 0 rfl (by first | exact Or.inr ((rfl))) dX12_spells_115
                    · refine lv_iconst (v := 1) hx hb dX12_spells_110 (by decide) ?_
                      refine lv_goto (tgt := 115) hx hb dX12_spells_111 (by decide) ?_
                      exact cr_iret hx hb hr hlk rfl 1 rfl (by first | exact Or.inl (rfl)) dX12_spells_115
        · refine lv_iconst (v := 0) hx hb dX12_spells_60 (by decide) ?_
          exact cr_iret hx hb hr hlk rfl 0 rfl (by first | exact Or.inr ((rfl))) dX12_spells_61
set_option maxHeartbeats 4000000 in
set_option maxRecDepth 100000 in
theorem s_X12_isYes (l : Launch) (D : va_G) (κ : Nat → ClassId) (q : Nat) (N : Nat) (f : Nat → Int32) (a : Nat) (hN : N < 2147483648) (ha : a + 22 ≤ N) (hf : ∃ n9 : Nat, n9 ≤ 20 ∧ f a = nI n9) : Cr l yX12_isYes (wl yX12_isYes cX12_isYes 2 (some .boolean)) { frames := 1, cells := 0, slots := 0, locals := 28 } D κ [.ref q, .int (nI a)] (va_P D vwCl [(q, .inl (κ 0, N, .inl f))]) (fun r : Int32 => some (.int r)) (fun r : Int32 => (r = 1) ∨ (r = 0)) := by
  refine cr_of (by decide +kernel) (Nat.le_of_ble_eq_true rfl) ?_
  intro p e s m args below meth c ls hx hb hr hml hts hown hlk hKK hK hI hl
  have hP : va_P D vwCl [(q, .inl (κ 0, N, .inl f))] s.heap := hI
  have hFX : FX p s m args c cX12_isYes 2 RX12 := ⟨hx, hb, hml, hown, hts⟩
  have hl : lv_has ls 2 [(0, .ref q), (1, .int (nI a))] := hl
  refine lv_aload_n hx hb dX12_isYes_0 rfl (lv_at hl 0 rfl) ?_
  refine lv_iload_n hx hb dX12_isYes_1 rfl (lv_at hl 1 rfl) ?_
  refine lv_bipush (v := 121) hx hb dX12_isYes_2 (by decide) ?_
  refine lv_bipush (v := 101) hx hb dX12_isYes_4 (by decide) ?_
  refine lv_bipush (v := 115) hx hb dX12_isYes_6 (by decide) ?_
  refine lv_iconst (v := 0) hx hb dX12_isYes_8 (by decide) ?_
  refine lv_iconst (v := 0) hx hb dX12_isYes_9 (by decide) ?_
  refine cr_S (As := [.ref q, .int (nI a), .int 121, .int 101, .int 115, .int 0, .int 0]) (rest := []) hFX hKK (s_X12_spells l D κ q N f a 121 101 115 0 0 (by first | assumption | omega) (by omega) (by assumption)) 7 gS_X12_104 hdS_X12_spells rfl rfl ⟨Nat.le_of_ble_eq_true rfl, Nat.le_of_ble_eq_true rfl⟩ rfl rfl (Nat.le_of_ble_eq_true rfl) dX12_isYes_10 ⟨Nat.le_of_ble_eq_true rfl, Nat.le_of_ble_eq_true rfl⟩ hl.1 (hP.sub [0] rfl) (fun r_1 hp_2 => ?_)
  have hp_2 : (r_1 = 1) ∨ (r_1 = 0) := hp_2
  rcases hp_2 with rfl | rfl
  · refine W.eq (g2 := F0 m 13 ls [.int 1]) rfl ?_
    refine lv_if_ne (tgt := 33) hx hb dX12_isYes_13 (by decide) (fun c_3 => ?_) (fun c_3 => absurd c_3 (by decide))
    refine lv_iconst (v := 1) hx hb dX12_isYes_33 (by decide) ?_
    refine lv_goto (tgt := 38) hx hb dX12_isYes_34 (by decide) ?_
    exact cr_iret hx hb hr hlk rfl 1 rfl (by first | exact Or.inl (rfl)) dX12_isYes_38
  · refine W.eq (g2 := F0 m 13 ls [.int 0]) rfl ?_
    refine lv_if_ne (tgt := 33) hx hb dX12_isYes_13 (by decide) (fun c_4 => absurd (by decide) c_4) (fun c_4 => ?_)
    refine lv_aload_n hx hb dX12_isYes_16 rfl (lv_at hl 0 rfl) ?_
    refine lv_iload_n hx hb dX12_isYes_17 rfl (lv_at hl 1 rfl) ?_
    refine lv_bipush (v := 116) hx hb dX12_isYes_18 (by decide) ?_
    refine lv_bipush (v := 114) hx hb dX12_isYes_20 (by decide) ?_
    refine lv_bipush (v := 117) hx hb dX12_isYes_22 (by decide) ?_
    refine lv_bipush (v := 101) hx hb dX12_isYes_24 (by decide) ?_
    refine lv_iconst (v := 0) hx hb dX12_isYes_26 (by decide) ?_
    refine cr_S (As := [.ref q, .int (nI a), .int 116, .int 114, .int 117, .int 101, .int 0]) (rest := []) hFX hKK (s_X12_spells l D κ q N f a 116 114 117 101 0 (by first | assumption | omega) (by omega) (by assumption)) 7 gS_X12_104 hdS_X12_spells rfl rfl ⟨Nat.le_of_ble_eq_true rfl, Nat.le_of_ble_eq_true rfl⟩ rfl rfl (Nat.le_of_ble_eq_true rfl) dX12_isYes_27 ⟨Nat.le_of_ble_eq_true rfl, Nat.le_of_ble_eq_true rfl⟩ hl.1 (hP.sub [0] rfl) (fun r_5 hp_6 => ?_)
    have hp_6 : (r_5 = 1) ∨ (r_5 = 0) := hp_6
    rcases hp_6 with rfl | rfl
    · refine W.eq (g2 := F0 m 30 ls [.int 1]) rfl ?_
      refine lv_if_eq (tgt := 37) hx hb dX12_isYes_30 (by decide) (fun c_7 => absurd c_7 (by decide)) (fun c_7 => ?_)
      refine lv_iconst (v := 1) hx hb dX12_isYes_33 (by decide) ?_
      refine lv_goto (tgt := 38) hx hb dX12_isYes_34 (by decide) ?_
      exact cr_iret hx hb hr hlk rfl 1 rfl (by first | exact Or.inl (rfl)) dX12_isYes_38
    · refine W.eq (g2 := F0 m 30 ls [.int 0]) rfl ?_
      refine lv_if_eq (tgt := 37) hx hb dX12_isYes_30 (by decide) (fun c_8 => ?_) (fun c_8 => absurd (by decide) c_8)
      refine lv_iconst (v := 0) hx hb dX12_isYes_37 (by decide) ?_
      exact cr_iret hx hb hr hlk rfl 0 rfl (by first | exact Or.inr ((rfl))) dX12_isYes_38
set_option maxHeartbeats 4000000 in
set_option maxRecDepth 100000 in
theorem s_X12_isNo (l : Launch) (D : va_G) (κ : Nat → ClassId) (q : Nat) (N : Nat) (f : Nat → Int32) (a : Nat) (hN : N < 2147483648) (ha : a + 22 ≤ N) (hf : ∃ n9 : Nat, n9 ≤ 20 ∧ f a = nI n9) : Cr l yX12_isNo (wl yX12_isNo cX12_isNo 2 (some .boolean)) { frames := 1, cells := 0, slots := 0, locals := 28 } D κ [.ref q, .int (nI a)] (va_P D vwCl [(q, .inl (κ 0, N, .inl f))]) (fun r : Int32 => some (.int r)) (fun r : Int32 => (r = 1) ∨ (r = 0)) := by
  refine cr_of (by decide +kernel) (Nat.le_of_ble_eq_true rfl) ?_
  intro p e s m args below meth c ls hx hb hr hml hts hown hlk hKK hK hI hl
  have hP : va_P D vwCl [(q, .inl (κ 0, N, .inl f))] s.heap := hI
  have hFX : FX p s m args c cX12_isNo 2 RX12 := ⟨hx, hb, hml, hown, hts⟩
  have hl : lv_has ls 2 [(0, .ref q), (1, .int (nI a))] := hl
  refine lv_aload_n hx hb dX12_isNo_0 rfl (lv_at hl 0 rfl) ?_
  refine lv_iload_n hx hb dX12_isNo_1 rfl (lv_at hl 1 rfl) ?_
  refine lv_bipush (v := 110) hx hb dX12_isNo_2 (by decide) ?_
  refine lv_bipush (v := 111) hx hb dX12_isNo_4 (by decide) ?_
  refine lv_iconst (v := 0) hx hb dX12_isNo_6 (by decide) ?_
  refine lv_iconst (v := 0) hx hb dX12_isNo_7 (by decide) ?_
  refine lv_iconst (v := 0) hx hb dX12_isNo_8 (by decide) ?_
  refine cr_S (As := [.ref q, .int (nI a), .int 110, .int 111, .int 0, .int 0, .int 0]) (rest := []) hFX hKK (s_X12_spells l D κ q N f a 110 111 0 0 0 (by first | assumption | omega) (by omega) (by assumption)) 7 gS_X12_104 hdS_X12_spells rfl rfl ⟨Nat.le_of_ble_eq_true rfl, Nat.le_of_ble_eq_true rfl⟩ rfl rfl (Nat.le_of_ble_eq_true rfl) dX12_isNo_9 ⟨Nat.le_of_ble_eq_true rfl, Nat.le_of_ble_eq_true rfl⟩ hl.1 (hP.sub [0] rfl) (fun r_1 hp_2 => ?_)
  have hp_2 : (r_1 = 1) ∨ (r_1 = 0) := hp_2
  rcases hp_2 with rfl | rfl
  · refine W.eq (g2 := F0 m 12 ls [.int 1]) rfl ?_
    refine lv_if_ne (tgt := 33) hx hb dX12_isNo_12 (by decide) (fun c_3 => ?_) (fun c_3 => absurd c_3 (by decide))
    refine lv_iconst (v := 1) hx hb dX12_isNo_33 (by decide) ?_
    refine lv_goto (tgt := 38) hx hb dX12_isNo_34 (by decide) ?_
    exact cr_iret hx hb hr hlk rfl 1 rfl (by first | exact Or.inl (rfl)) dX12_isNo_38
  · refine W.eq (g2 := F0 m 12 ls [.int 0]) rfl ?_
    refine lv_if_ne (tgt := 33) hx hb dX12_isNo_12 (by decide) (fun c_4 => absurd (by decide) c_4) (fun c_4 => ?_)
    refine lv_aload_n hx hb dX12_isNo_15 rfl (lv_at hl 0 rfl) ?_
    refine lv_iload_n hx hb dX12_isNo_16 rfl (lv_at hl 1 rfl) ?_
    refine lv_bipush (v := 102) hx hb dX12_isNo_17 (by decide) ?_
    refine lv_bipush (v := 97) hx hb dX12_isNo_19 (by decide) ?_
    refine lv_bipush (v := 108) hx hb dX12_isNo_21 (by decide) ?_
    refine lv_bipush (v := 115) hx hb dX12_isNo_23 (by decide) ?_
    refine lv_bipush (v := 101) hx hb dX12_isNo_25 (by decide) ?_
    refine cr_S (As := [.ref q, .int (nI a), .int 102, .int 97, .int 108, .int 115, .int 101]) (rest := []) hFX hKK (s_X12_spells l D κ q N f a 102 97 108 115 101 (by first | assumption | omega) (by omega) (by assumption)) 7 gS_X12_104 hdS_X12_spells rfl rfl ⟨Nat.le_of_ble_eq_true rfl, Nat.le_of_ble_eq_true rfl⟩ rfl rfl (Nat.le_of_ble_eq_true rfl) dX12_isNo_27 ⟨Nat.le_of_ble_eq_true rfl, Nat.le_of_ble_eq_true rfl⟩ hl.1 (hP.sub [0] rfl) (fun r_5 hp_6 => ?_)
    have hp_6 : (r_5 = 1) ∨ (r_5 = 0) := hp_6
    rcases hp_6 with rfl | rfl
    · refine W.eq (g2 := F0 m 30 ls [.int 1]) rfl ?_
      refine lv_if_eq (tgt := 37) hx hb dX12_isNo_30 (by decide) (fun c_7 => absurd c_7 (by decide)) (fun c_7 => ?_)
      refine lv_iconst (v := 1) hx hb dX12_isNo_33 (by decide) ?_
      refine lv_goto (tgt := 38) hx hb dX12_isNo_34 (by decide) ?_
      exact cr_iret hx hb hr hlk rfl 1 rfl (by first | exact Or.inl (rfl)) dX12_isNo_38
    · refine W.eq (g2 := F0 m 30 ls [.int 0]) rfl ?_
      refine lv_if_eq (tgt := 37) hx hb dX12_isNo_30 (by decide) (fun c_8 => ?_) (fun c_8 => absurd (by decide) c_8)
      refine lv_iconst (v := 0) hx hb dX12_isNo_37 (by decide) ?_
      exact cr_iret hx hb hr hlk rfl 0 rfl (by first | exact Or.inr ((rfl))) dX12_isNo_38
set_option maxHeartbeats 4000000 in
set_option maxRecDepth 100000 in
theorem s_X12_two (l : Launch) (D : va_G) (κ : Nat → ClassId) (q : Nat) (N : Nat) (f : Nat → Int32) (a : Nat) (b : Nat) (hN : N < 2147483648) (ha : a + 3 + b ≤ N) : Cr l yX12_two (wl yX12_two cX12_two 3 (some .int)) { frames := 0, cells := 0, slots := 0, locals := 0 } D κ [.ref q, .int (nI a), .int (nI b)] (va_P D vwCl [(q, .inl (κ 0, N, .inl f))]) (fun r : Int32 => some (.int r)) (fun r : Int32 => True) := by
  refine cr_of (by decide +kernel) (Nat.le_of_ble_eq_true rfl) ?_
  intro p e s m args below meth c ls hx hb hr hml hts hown hlk hKK hK hI hl
  have hP : va_P D vwCl [(q, .inl (κ 0, N, .inl f))] s.heap := hI
  have hFX : FX p s m args c cX12_two 3 RX12 := ⟨hx, hb, hml, hown, hts⟩
  have hl : lv_has ls 3 [(0, .ref q), (1, .int (nI a)), (2, .int (nI b))] := hl
  refine lv_bipush (v := 10) hx hb dX12_two_0 (by decide) ?_
  refine lv_aload_n hx hb dX12_two_2 rfl (lv_at hl 0 rfl) ?_
  refine lv_iload_n hx hb dX12_two_3 rfl (lv_at hl 1 rfl) ?_
  refine lv_iconst (v := 1) hx hb dX12_two_4 (by decide) ?_
  refine lv_iadd hx hb dX12_two_5 ?_
  refine ki (v := (nI (a + 1))) (nI_add a 1) ?_
  refine lv_iload_n hx hb dX12_two_6 rfl (lv_at hl 2 rfl) ?_
  refine lv_iadd hx hb dX12_two_7 ?_
  refine ki (v := (nI (a + 1 + b))) (nI_add (a + 1) b) ?_
  refine va_iald hx hb hK hP 0 0 rfl rfl (i := nI (a + 1 + b)) (vp_in_nI (n := (a + 1 + b)) (by omega) (by omega)) dX12_two_8 ?_
  refine kv (v := .int (f (a + 1 + b))) (by rw [nI_clamp (by omega)]) ?_
  refine lv_topi (fun x_1 ex_1 => ?_)
  refine lv_bipush (v := 48) hx hb dX12_two_9 (by decide) ?_
  refine lv_isub hx hb dX12_two_11 ?_
  refine lv_topi (fun x_2 ex_2 => ?_)
  refine lv_imul hx hb dX12_two_12 ?_
  refine lv_topi (fun x_3 ex_3 => ?_)
  refine lv_aload_n hx hb dX12_two_13 rfl (lv_at hl 0 rfl) ?_
  refine lv_iload_n hx hb dX12_two_14 rfl (lv_at hl 1 rfl) ?_
  refine lv_iconst (v := 2) hx hb dX12_two_15 (by decide) ?_
  refine lv_iadd hx hb dX12_two_16 ?_
  refine ki (v := (nI (a + 2))) (nI_add a 2) ?_
  refine lv_iload_n hx hb dX12_two_17 rfl (lv_at hl 2 rfl) ?_
  refine lv_iadd hx hb dX12_two_18 ?_
  refine ki (v := (nI (a + 2 + b))) (nI_add (a + 2) b) ?_
  refine va_iald hx hb hK hP 0 0 rfl rfl (i := nI (a + 2 + b)) (vp_in_nI (n := (a + 2 + b)) (by omega) (by omega)) dX12_two_19 ?_
  refine kv (v := .int (f (a + 2 + b))) (by rw [nI_clamp (by omega)]) ?_
  refine lv_topi (fun x_4 ex_4 => ?_)
  refine lv_iadd hx hb dX12_two_20 ?_
  refine lv_topi (fun x_5 ex_5 => ?_)
  refine lv_bipush (v := 48) hx hb dX12_two_21 (by decide) ?_
  refine lv_isub hx hb dX12_two_23 ?_
  refine lv_topi (fun x_6 ex_6 => ?_)
  exact cr_iret hx hb hr hlk rfl x_6 rfl trivial dX12_two_24
set_option maxHeartbeats 4000000 in
set_option maxRecDepth 100000 in
theorem s_X12_isLeap (l : Launch) (D : va_G) (κ : Nat → ClassId) (za : Int32) : Cr l yX12_isLeap (wl yX12_isLeap cX12_isLeap 1 (some .boolean)) { frames := 0, cells := 0, slots := 0, locals := 0 } D κ [.int za] (va_P D vwCl []) (fun r : Int32 => some (.int r)) (fun r : Int32 => (r = 1) ∨ (r = 0)) := by
  refine cr_of (by decide +kernel) (Nat.le_of_ble_eq_true rfl) ?_
  intro p e s m args below meth c ls hx hb hr hml hts hown hlk hKK hK hI hl
  have hP : va_P D vwCl [] s.heap := hI
  have hFX : FX p s m args c cX12_isLeap 1 RX12 := ⟨hx, hb, hml, hown, hts⟩
  have hl : lv_has ls 1 [(0, .int za)] := hl
  refine lv_iload_n hx hb dX12_isLeap_0 rfl (lv_at hl 0 rfl) ?_
  refine lv_iconst (v := 4) hx hb dX12_isLeap_1 (by decide) ?_
  refine lv_irem hx hb dX12_isLeap_2 (by decide) ?_
  refine lv_topi (fun x_1 ex_1 => ?_)
  refine lv_if_ne (tgt := 25) hx hb dX12_isLeap_3 (by decide) (fun c_2 => ?_) (fun c_2 => ?_)
  · refine lv_iconst (v := 0) hx hb dX12_isLeap_25 (by decide) ?_
    exact cr_iret hx hb hr hlk rfl 0 rfl (by first | exact Or.inr ((rfl))) dX12_isLeap_26
  · refine lv_iload_n hx hb dX12_isLeap_6 rfl (lv_at hl 0 rfl) ?_
    refine lv_bipush (v := 100) hx hb dX12_isLeap_7 (by decide) ?_
    refine lv_irem hx hb dX12_isLeap_9 (by decide) ?_
    refine lv_topi (fun x_3 ex_3 => ?_)
    refine lv_if_ne (tgt := 21) hx hb dX12_isLeap_10 (by decide) (fun c_4 => ?_) (fun c_4 => ?_)
    · refine lv_iconst (v := 1) hx hb dX12_isLeap_21 (by decide) ?_
      refine lv_goto (tgt := 26) hx hb dX12_isLeap_22 (by decide) ?_
      exact cr_iret hx hb hr hlk rfl 1 rfl (by first | exact Or.inl (rfl)) dX12_isLeap_26
    · refine lv_iload_n hx hb dX12_isLeap_13 rfl (lv_at hl 0 rfl) ?_
      refine lv_sipush (v := 400) hx hb dX12_isLeap_14 (by decide) ?_
      refine lv_irem hx hb dX12_isLeap_17 (by decide) ?_
      refine lv_topi (fun x_5 ex_5 => ?_)
      refine lv_if_ne (tgt := 25) hx hb dX12_isLeap_18 (by decide) (fun c_6 => ?_) (fun c_6 => ?_)
      · refine lv_iconst (v := 0) hx hb dX12_isLeap_25 (by decide) ?_
        exact cr_iret hx hb hr hlk rfl 0 rfl (by first | exact Or.inr ((rfl))) dX12_isLeap_26
      · refine lv_iconst (v := 1) hx hb dX12_isLeap_21 (by decide) ?_
        refine lv_goto (tgt := 26) hx hb dX12_isLeap_22 (by decide) ?_
        exact cr_iret hx hb hr hlk rfl 1 rfl (by first | exact Or.inl (rfl)) dX12_isLeap_26
set_option maxHeartbeats 4000000 in
set_option maxRecDepth 100000 in
theorem s_X12_daysOf (l : Launch) (D : va_G) (κ : Nat → ClassId) (za : Int32) (zb : Int32) : Cr l yX12_daysOf (wl yX12_daysOf cX12_daysOf 2 (some .int)) { frames := 1, cells := 0, slots := 0, locals := 20 } D κ [.int za, .int zb] (va_P D vwCl []) (fun r : Int32 => some (.int r)) (fun r : Int32 => True) := by
  refine cr_of (by decide +kernel) (Nat.le_of_ble_eq_true rfl) ?_
  intro p e s m args below meth c ls hx hb hr hml hts hown hlk hKK hK hI hl
  have hP : va_P D vwCl [] s.heap := hI
  have hFX : FX p s m args c cX12_daysOf 2 RX12 := ⟨hx, hb, hml, hown, hts⟩
  have hl : lv_has ls 2 [(0, .int za), (1, .int zb)] := hl
  refine lv_iload_n hx hb dX12_daysOf_0 rfl (lv_at hl 1 rfl) ?_
  refine lv_iconst (v := 2) hx hb dX12_daysOf_1 (by decide) ?_
  refine lv_icmp_ne (tgt := 20) hx hb dX12_daysOf_2 (by decide) (fun c_1 => ?_) (fun c_1 => ?_)
  · refine lv_iload_n hx hb dX12_daysOf_20 rfl (lv_at hl 1 rfl) ?_
    refine lv_iconst (v := 4) hx hb dX12_daysOf_21 (by decide) ?_
    refine lv_icmp_eq (tgt := 43) hx hb dX12_daysOf_22 (by decide) (fun c_2 => ?_) (fun c_2 => ?_)
    · refine lv_bipush (v := 30) hx hb dX12_daysOf_43 (by decide) ?_
      refine lv_goto (tgt := 50) hx hb dX12_daysOf_45 (by decide) ?_
      exact cr_iret hx hb hr hlk rfl 30 rfl trivial dX12_daysOf_50
    · refine lv_iload_n hx hb dX12_daysOf_25 rfl (lv_at hl 1 rfl) ?_
      refine lv_bipush (v := 6) hx hb dX12_daysOf_26 (by decide) ?_
      refine lv_icmp_eq (tgt := 43) hx hb dX12_daysOf_28 (by decide) (fun c_3 => ?_) (fun c_3 => ?_)
      · refine lv_bipush (v := 30) hx hb dX12_daysOf_43 (by decide) ?_
        refine lv_goto (tgt := 50) hx hb dX12_daysOf_45 (by decide) ?_
        exact cr_iret hx hb hr hlk rfl 30 rfl trivial dX12_daysOf_50
      · refine lv_iload_n hx hb dX12_daysOf_31 rfl (lv_at hl 1 rfl) ?_
        refine lv_bipush (v := 9) hx hb dX12_daysOf_32 (by decide) ?_
        refine lv_icmp_eq (tgt := 43) hx hb dX12_daysOf_34 (by decide) (fun c_4 => ?_) (fun c_4 => ?_)
        · refine lv_bipush (v := 30) hx hb dX12_daysOf_43 (by decide) ?_
          refine lv_goto (tgt := 50) hx hb dX12_daysOf_45 (by decide) ?_
          exact cr_iret hx hb hr hlk rfl 30 rfl trivial dX12_daysOf_50
        · refine lv_iload_n hx hb dX12_daysOf_37 rfl (lv_at hl 1 rfl) ?_
          refine lv_bipush (v := 11) hx hb dX12_daysOf_38 (by decide) ?_
          refine lv_icmp_ne (tgt := 48) hx hb dX12_daysOf_40 (by decide) (fun c_5 => ?_) (fun c_5 => ?_)
          · refine lv_bipush (v := 31) hx hb dX12_daysOf_48 (by decide) ?_
            exact cr_iret hx hb hr hlk rfl 31 rfl trivial dX12_daysOf_50
          · refine lv_bipush (v := 30) hx hb dX12_daysOf_43 (by decide) ?_
            refine lv_goto (tgt := 50) hx hb dX12_daysOf_45 (by decide) ?_
            exact cr_iret hx hb hr hlk rfl 30 rfl trivial dX12_daysOf_50
  · refine lv_iload_n hx hb dX12_daysOf_5 rfl (lv_at hl 0 rfl) ?_
    refine cr_S (As := [.int za]) (rest := []) hFX hKK (s_X12_isLeap l D κ za) 1 gS_X12_108 hdS_X12_isLeap rfl rfl ⟨Nat.le_of_ble_eq_true rfl, Nat.le_of_ble_eq_true rfl⟩ rfl rfl (Nat.le_of_ble_eq_true rfl) dX12_daysOf_6 ⟨Nat.le_of_ble_eq_true rfl, Nat.le_of_ble_eq_true rfl⟩ hl.1 (hP.sub [] rfl) (fun r_6 hp_7 => ?_)
    have hp_7 : (r_6 = 1) ∨ (r_6 = 0) := hp_7
    rcases hp_7 with rfl | rfl
    · refine W.eq (g2 := F0 m 9 ls [.int 1]) rfl ?_
      refine lv_if_eq (tgt := 17) hx hb dX12_daysOf_9 (by decide) (fun c_8 => absurd c_8 (by decide)) (fun c_8 => ?_)
      refine lv_bipush (v := 29) hx hb dX12_daysOf_12 (by decide) ?_
      refine lv_goto (tgt := 19) hx hb dX12_daysOf_14 (by decide) ?_
      exact cr_iret hx hb hr hlk rfl 29 rfl trivial dX12_daysOf_19
    · refine W.eq (g2 := F0 m 9 ls [.int 0]) rfl ?_
      refine lv_if_eq (tgt := 17) hx hb dX12_daysOf_9 (by decide) (fun c_9 => ?_) (fun c_9 => absurd (by decide) c_9)
      refine lv_bipush (v := 28) hx hb dX12_daysOf_17 (by decide) ?_
      exact cr_iret hx hb hr hlk rfl 28 rfl trivial dX12_daysOf_19
set_option maxHeartbeats 4000000 in
set_option maxRecDepth 100000 in
theorem s_X12_isDate (l : Launch) (D : va_G) (κ : Nat → ClassId) (q : Nat) (N : Nat) (f : Nat → Int32) (a : Nat) (hN : N < 2147483648) (ha : a + 22 ≤ N) (hf : ∃ n9 : Nat, n9 ≤ 20 ∧ f a = nI n9) : Cr l yX12_isDate (wl yX12_isDate cX12_isDate 4 (some .boolean)) { frames := 3, cells := 0, slots := 0, locals := 68 } D κ [.ref q, .int (nI a)] (va_P D vwCl [(q, .inl (κ 0, N, .inl f))]) (fun r : Int32 => some (.int r)) (fun r : Int32 => (r = 1) ∨ (r = 0)) := by
  refine cr_of (by decide +kernel) (Nat.le_of_ble_eq_true rfl) ?_
  intro p e s m args below meth c ls hx hb hr hml hts hown hlk hKK hK hI hl
  have hP : va_P D vwCl [(q, .inl (κ 0, N, .inl f))] s.heap := hI
  have hFX : FX p s m args c cX12_isDate 4 RX12 := ⟨hx, hb, hml, hown, hts⟩
  have hl : lv_has ls 4 [(0, .ref q), (1, .int (nI a))] := hl
  refine lv_aload_n hx hb dX12_isDate_0 rfl (lv_at hl 0 rfl) ?_
  refine lv_iload_n hx hb dX12_isDate_1 rfl (lv_at hl 1 rfl) ?_
  refine va_iald hx hb hK hP 0 0 rfl rfl (i := nI a) (vp_in_nI (n := a) (by omega) (by omega)) dX12_isDate_2 ?_
  refine kv (v := .int (f a)) (by rw [nI_clamp (by omega)]) ?_
  obtain ⟨n_1, hn_1, en_1⟩ : ∃ n9 : Nat, n9 ≤ 20 ∧ f a = nI n9 := id (hf)
  refine kv (v := .int (nI n_1)) (congrArg Value.int en_1) ?_
  refine lv_bipush (v := 10) hx hb dX12_isDate_3 (by decide) ?_
  refine lv_icmp_ne (tgt := 39) hx hb dX12_isDate_5 (by decide) (fun c_2 => ?_) (fun c_2 => ?_)
  · have nc_2 := cv_ne (a := n_1) (b := 10) (by omega) (by omega) c_2
    refine lv_iconst (v := 0) hx hb dX12_isDate_39 (by decide) ?_
    exact cr_iret hx hb hr hlk rfl 0 rfl (by first | exact Or.inr ((rfl))) dX12_isDate_40
  · have nc_2 := cv_eq (a := n_1) (b := 10) (by omega) (by omega) c_2
    refine lv_aload_n hx hb dX12_isDate_8 rfl (lv_at hl 0 rfl) ?_
    refine lv_iload_n hx hb dX12_isDate_9 rfl (lv_at hl 1 rfl) ?_
    refine lv_iconst (v := 0) hx hb dX12_isDate_10 (by decide) ?_
    refine cr_S (As := [.ref q, .int (nI a), .int 0]) (rest := []) hFX hKK (s_X12_digitsFrom l D κ q N f a 0 (by first | assumption | omega) (by omega) (by assumption) (by omega)) 3 gS_X12_111 hdS_X12_digitsFrom rfl rfl ⟨Nat.le_of_ble_eq_true rfl, Nat.le_of_ble_eq_true rfl⟩ rfl rfl (Nat.le_of_ble_eq_true rfl) dX12_isDate_11 ⟨Nat.le_of_ble_eq_true rfl, Nat.le_of_ble_eq_true rfl⟩ hl.1 (hP.sub [0] rfl) (fun n_3 hp_4 => ?_)
    have hp_4 : n_3 = 0 ∨ 0 + n_3 ≤ 20 := hp_4
    refine W.eq (g2 := F0 m 14 ls [.int (nI n_3)]) rfl ?_
    refine lv_iconst (v := 4) hx hb dX12_isDate_14 (by decide) ?_
    refine lv_icmp_ne (tgt := 39) hx hb dX12_isDate_15 (by decide) (fun c_5 => ?_) (fun c_5 => ?_)
    · have nc_5 := cv_ne (a := n_3) (b := 4) (by omega) (by omega) c_5
      refine lv_iconst (v := 0) hx hb dX12_isDate_39 (by decide) ?_
      exact cr_iret hx hb hr hlk rfl 0 rfl (by first | exact Or.inr ((rfl))) dX12_isDate_40
    · have nc_5 := cv_eq (a := n_3) (b := 4) (by omega) (by omega) c_5
      refine lv_aload_n hx hb dX12_isDate_18 rfl (lv_at hl 0 rfl) ?_
      refine lv_iload_n hx hb dX12_isDate_19 rfl (lv_at hl 1 rfl) ?_
      refine lv_iconst (v := 5) hx hb dX12_isDate_20 (by decide) ?_
      refine cr_S (As := [.ref q, .int (nI a), .int 5]) (rest := []) hFX hKK (s_X12_digitsFrom l D κ q N f a 5 (by first | assumption | omega) (by omega) (by assumption) (by omega)) 3 gS_X12_111 hdS_X12_digitsFrom rfl rfl ⟨Nat.le_of_ble_eq_true rfl, Nat.le_of_ble_eq_true rfl⟩ rfl rfl (Nat.le_of_ble_eq_true rfl) dX12_isDate_21 ⟨Nat.le_of_ble_eq_true rfl, Nat.le_of_ble_eq_true rfl⟩ hl.1 (hP.sub [0] rfl) (fun n_6 hp_7 => ?_)
      have hp_7 : n_6 = 0 ∨ 5 + n_6 ≤ 20 := hp_7
      refine W.eq (g2 := F0 m 24 ls [.int (nI n_6)]) rfl ?_
      refine lv_iconst (v := 2) hx hb dX12_isDate_24 (by decide) ?_
      refine lv_icmp_ne (tgt := 39) hx hb dX12_isDate_25 (by decide) (fun c_8 => ?_) (fun c_8 => ?_)
      · have nc_8 := cv_ne (a := n_6) (b := 2) (by omega) (by omega) c_8
        refine lv_iconst (v := 0) hx hb dX12_isDate_39 (by decide) ?_
        exact cr_iret hx hb hr hlk rfl 0 rfl (by first | exact Or.inr ((rfl))) dX12_isDate_40
      · have nc_8 := cv_eq (a := n_6) (b := 2) (by omega) (by omega) c_8
        refine lv_aload_n hx hb dX12_isDate_28 rfl (lv_at hl 0 rfl) ?_
        refine lv_iload_n hx hb dX12_isDate_29 rfl (lv_at hl 1 rfl) ?_
        refine lv_bipush (v := 8) hx hb dX12_isDate_30 (by decide) ?_
        refine cr_S (As := [.ref q, .int (nI a), .int 8]) (rest := []) hFX hKK (s_X12_digitsFrom l D κ q N f a 8 (by first | assumption | omega) (by omega) (by assumption) (by omega)) 3 gS_X12_111 hdS_X12_digitsFrom rfl rfl ⟨Nat.le_of_ble_eq_true rfl, Nat.le_of_ble_eq_true rfl⟩ rfl rfl (Nat.le_of_ble_eq_true rfl) dX12_isDate_32 ⟨Nat.le_of_ble_eq_true rfl, Nat.le_of_ble_eq_true rfl⟩ hl.1 (hP.sub [0] rfl) (fun n_9 hp_10 => ?_)
        have hp_10 : n_9 = 0 ∨ 8 + n_9 ≤ 20 := hp_10
        refine W.eq (g2 := F0 m 35 ls [.int (nI n_9)]) rfl ?_
        refine lv_iconst (v := 2) hx hb dX12_isDate_35 (by decide) ?_
        refine lv_icmp_eq (tgt := 41) hx hb dX12_isDate_36 (by decide) (fun c_11 => ?_) (fun c_11 => ?_)
        · have nc_11 := cv_eq (a := n_9) (b := 2) (by omega) (by omega) c_11
          refine lv_aload_n hx hb dX12_isDate_41 rfl (lv_at hl 0 rfl) ?_
          refine lv_iload_n hx hb dX12_isDate_42 rfl (lv_at hl 1 rfl) ?_
          refine lv_iconst (v := 5) hx hb dX12_isDate_43 (by decide) ?_
          refine lv_iadd hx hb dX12_isDate_44 ?_
          refine ki (v := (nI (a + 5))) (nI_add a 5) ?_
          refine va_iald hx hb hK hP 0 0 rfl rfl (i := nI (a + 5)) (vp_in_nI (n := (a + 5)) (by omega) (by omega)) dX12_isDate_45 ?_
          refine kv (v := .int (f (a + 5))) (by rw [nI_clamp (by omega)]) ?_
          refine lv_topi (fun x_12 ex_12 => ?_)
          refine lv_bipush (v := 45) hx hb dX12_isDate_46 (by decide) ?_
          refine lv_icmp_ne (tgt := 62) hx hb dX12_isDate_48 (by decide) (fun c_13 => ?_) (fun c_13 => ?_)
          · refine lv_iconst (v := 0) hx hb dX12_isDate_62 (by decide) ?_
            exact cr_iret hx hb hr hlk rfl 0 rfl (by first | exact Or.inr ((rfl))) dX12_isDate_63
          · refine lv_aload_n hx hb dX12_isDate_51 rfl (lv_at hl 0 rfl) ?_
            refine lv_iload_n hx hb dX12_isDate_52 rfl (lv_at hl 1 rfl) ?_
            refine lv_bipush (v := 8) hx hb dX12_isDate_53 (by decide) ?_
            refine lv_iadd hx hb dX12_isDate_55 ?_
            refine ki (v := (nI (a + 8))) (nI_add a 8) ?_
            refine va_iald hx hb hK hP 0 0 rfl rfl (i := nI (a + 8)) (vp_in_nI (n := (a + 8)) (by omega) (by omega)) dX12_isDate_56 ?_
            refine kv (v := .int (f (a + 8))) (by rw [nI_clamp (by omega)]) ?_
            refine lv_topi (fun x_14 ex_14 => ?_)
            refine lv_bipush (v := 45) hx hb dX12_isDate_57 (by decide) ?_
            refine lv_icmp_eq (tgt := 64) hx hb dX12_isDate_59 (by decide) (fun c_15 => ?_) (fun c_15 => ?_)
            · refine lv_bipush (v := 100) hx hb dX12_isDate_64 (by decide) ?_
              refine lv_aload_n hx hb dX12_isDate_66 rfl (lv_at hl 0 rfl) ?_
              refine lv_iload_n hx hb dX12_isDate_67 rfl (lv_at hl 1 rfl) ?_
              refine lv_iconst (v := 0) hx hb dX12_isDate_68 (by decide) ?_
              refine cr_S (As := [.ref q, .int (nI a), .int 0]) (rest := [.int 100]) hFX hKK (s_X12_two l D κ q N f a 0 (by first | assumption | omega) (by omega)) 3 gS_X12_115 hdS_X12_two rfl rfl ⟨Nat.le_of_ble_eq_true rfl, Nat.le_of_ble_eq_true rfl⟩ rfl rfl (Nat.le_of_ble_eq_true rfl) dX12_isDate_69 ⟨Nat.le_of_ble_eq_true rfl, Nat.le_of_ble_eq_true rfl⟩ hl.1 (hP.sub [0] rfl) (fun r_16 hp_17 => ?_)
              refine W.eq (g2 := F0 m 72 ls [.int r_16, .int 100]) rfl ?_
              refine lv_imul hx hb dX12_isDate_72 ?_
              refine lv_topi (fun x_18 ex_18 => ?_)
              refine lv_aload_n hx hb dX12_isDate_73 rfl (lv_at hl 0 rfl) ?_
              refine lv_iload_n hx hb dX12_isDate_74 rfl (lv_at hl 1 rfl) ?_
              refine lv_iconst (v := 2) hx hb dX12_isDate_75 (by decide) ?_
              refine cr_S (As := [.ref q, .int (nI a), .int 2]) (rest := [.int x_18]) hFX hKK (s_X12_two l D κ q N f a 2 (by first | assumption | omega) (by omega)) 3 gS_X12_115 hdS_X12_two rfl rfl ⟨Nat.le_of_ble_eq_true rfl, Nat.le_of_ble_eq_true rfl⟩ rfl rfl (Nat.le_of_ble_eq_true rfl) dX12_isDate_76 ⟨Nat.le_of_ble_eq_true rfl, Nat.le_of_ble_eq_true rfl⟩ hl.1 (hP.sub [0] rfl) (fun r_19 hp_20 => ?_)
              refine W.eq (g2 := F0 m 79 ls [.int r_19, .int x_18]) rfl ?_
              refine lv_iadd hx hb dX12_isDate_79 ?_
              refine lv_topi (fun x_21 ex_21 => ?_)
              refine lv_istore_n (lv' := [(2, .int x_21), (0, .ref q), (1, .int (nI a))]) hx hb dX12_isDate_80 rfl hl (by decide) rfl (fun ls hl => ?_)
              refine lv_aload_n hx hb dX12_isDate_81 rfl (lv_at hl 1 rfl) ?_
              refine lv_iload_n hx hb dX12_isDate_82 rfl (lv_at hl 2 rfl) ?_
              refine lv_iconst (v := 5) hx hb dX12_isDate_83 (by decide) ?_
              refine cr_S (As := [.ref q, .int (nI a), .int 5]) (rest := []) hFX hKK (s_X12_two l D κ q N f a 5 (by first | assumption | omega) (by omega)) 3 gS_X12_115 hdS_X12_two rfl rfl ⟨Nat.le_of_ble_eq_true rfl, Nat.le_of_ble_eq_true rfl⟩ rfl rfl (Nat.le_of_ble_eq_true rfl) dX12_isDate_84 ⟨Nat.le_of_ble_eq_true rfl, Nat.le_of_ble_eq_true rfl⟩ hl.1 (hP.sub [0] rfl) (fun r_22 hp_23 => ?_)
              refine W.eq (g2 := F0 m 87 ls [.int r_22]) rfl ?_
              refine lv_istore_n (lv' := [(3, .int r_22), (2, .int x_21), (0, .ref q), (1, .int (nI a))]) hx hb dX12_isDate_87 rfl hl (by decide) rfl (fun ls hl => ?_)
              refine lv_iload_n hx hb dX12_isDate_88 rfl (lv_at hl 1 rfl) ?_
              refine lv_sipush (v := 1600) hx hb dX12_isDate_89 (by decide) ?_
              refine lv_icmp_lt (tgt := 132) hx hb dX12_isDate_92 (by decide) (fun c_24 => ?_) (fun c_24 => ?_)
              · refine lv_iconst (v := 0) hx hb dX12_isDate_132 (by decide) ?_
                exact cr_iret hx hb hr hlk rfl 0 rfl (by first | exact Or.inr ((rfl))) dX12_isDate_133
              · refine lv_iload_n hx hb dX12_isDate_95 rfl (lv_at hl 0 rfl) ?_
                refine lv_i2l (v := r_22.toInt64) hx hb dX12_isDate_96 rfl ?_
                refine lv_lconst (v := 1) hx hb dX12_isDate_97 (by decide) ?_
                refine lv_ldc2 hx hb hown (hts _ mw_483) dX12_isDate_98 ?_
                refine cr_S (As := [.long r_22.toInt64, .long 1, .long 12]) (rest := []) hFX hKK (s_X12_isIn l D κ r_22.toInt64 1 12) 3 gS_X12_62 hdS_X12_isIn rfl rfl ⟨Nat.le_of_ble_eq_true rfl, Nat.le_of_ble_eq_true rfl⟩ rfl rfl (Nat.le_of_ble_eq_true rfl) dX12_isDate_101 ⟨Nat.le_of_ble_eq_true rfl, Nat.le_of_ble_eq_true rfl⟩ hl.1 (hP.sub [] rfl) (fun r_25 hp_26 => ?_)
                have hp_26 : (r_25 = 1 ∧ ¬ lg_cmp r_22.toInt64 (1 : Int64) < 0 ∧ ¬ 0 < lg_cmp r_22.toInt64 (12 : Int64)) ∨ (r_25 = 0 ∧ (lg_cmp r_22.toInt64 (1 : Int64) < 0 ∨ 0 < lg_cmp r_22.toInt64 (12 : Int64))) := hp_26
                rcases hp_26 with ⟨rfl, a_27, a_28⟩ | ⟨rfl, a_29⟩
                · refine W.eq (g2 := F0 m 104 ls [.int 1]) rfl ?_
                  refine lv_if_eq (tgt := 132) hx hb dX12_isDate_104 (by decide) (fun c_30 => absurd c_30 (by decide)) (fun c_30 => ?_)
                  refine lv_aload_n hx hb dX12_isDate_107 rfl (lv_at hl 2 rfl) ?_
                  refine lv_iload_n hx hb dX12_isDate_108 rfl (lv_at hl 3 rfl) ?_
                  refine lv_bipush (v := 8) hx hb dX12_isDate_109 (by decide) ?_
                  refine cr_S (As := [.ref q, .int (nI a), .int 8]) (rest := []) hFX hKK (s_X12_two l D κ q N f a 8 (by first | assumption | omega) (by omega)) 3 gS_X12_115 hdS_X12_two rfl rfl ⟨Nat.le_of_ble_eq_true rfl, Nat.le_of_ble_eq_true rfl⟩ rfl rfl (Nat.le_of_ble_eq_true rfl) dX12_isDate_111 ⟨Nat.le_of_ble_eq_true rfl, Nat.le_of_ble_eq_true rfl⟩ hl.1 (hP.sub [0] rfl) (fun r_31 hp_32 => ?_)
                  refine W.eq (g2 := F0 m 114 ls [.int r_31]) rfl ?_
                  refine lv_i2l (v := r_31.toInt64) hx hb dX12_isDate_114 rfl ?_
                  refine lv_lconst (v := 1) hx hb dX12_isDate_115 (by decide) ?_
                  refine lv_iload_n hx hb dX12_isDate_116 rfl (lv_at hl 1 rfl) ?_
                  refine lv_iload_n hx hb dX12_isDate_117 rfl (lv_at hl 0 rfl) ?_
                  refine cr_S (As := [.int x_21, .int r_22]) (rest := [.long 1, .long r_31.toInt64]) hFX hKK (s_X12_daysOf l D κ x_21 r_22) 2 gS_X12_120 hdS_X12_daysOf rfl rfl ⟨Nat.le_of_ble_eq_true rfl, Nat.le_of_ble_eq_true rfl⟩ rfl rfl (Nat.le_of_ble_eq_true rfl) dX12_isDate_118 ⟨Nat.le_of_ble_eq_true rfl, Nat.le_of_ble_eq_true rfl⟩ hl.1 (hP.sub [] rfl) (fun r_33 hp_34 => ?_)
                  refine W.eq (g2 := F0 m 121 ls [.int r_33, .long 1, .long r_31.toInt64]) rfl ?_
                  refine lv_i2l (v := r_33.toInt64) hx hb dX12_isDate_121 rfl ?_
                  refine cr_S (As := [.long r_31.toInt64, .long 1, .long r_33.toInt64]) (rest := []) hFX hKK (s_X12_isIn l D κ r_31.toInt64 1 r_33.toInt64) 3 gS_X12_62 hdS_X12_isIn rfl rfl ⟨Nat.le_of_ble_eq_true rfl, Nat.le_of_ble_eq_true rfl⟩ rfl rfl (Nat.le_of_ble_eq_true rfl) dX12_isDate_122 ⟨Nat.le_of_ble_eq_true rfl, Nat.le_of_ble_eq_true rfl⟩ hl.1 (hP.sub [] rfl) (fun r_35 hp_36 => ?_)
                  have hp_36 : (r_35 = 1 ∧ ¬ lg_cmp r_31.toInt64 (1 : Int64) < 0 ∧ ¬ 0 < lg_cmp r_31.toInt64 r_33.toInt64) ∨ (r_35 = 0 ∧ (lg_cmp r_31.toInt64 (1 : Int64) < 0 ∨ 0 < lg_cmp r_31.toInt64 r_33.toInt64)) := hp_36
                  rcases hp_36 with ⟨rfl, a_37, a_38⟩ | ⟨rfl, a_39⟩
                  · refine W.eq (g2 := F0 m 125 ls [.int 1]) rfl ?_
                    refine lv_if_eq (tgt := 132) hx hb dX12_isDate_125 (by decide) (fun c_40 => absurd c_40 (by decide)) (fun c_40 => ?_)
                    refine lv_iconst (v := 1) hx hb dX12_isDate_128 (by decide) ?_
                    refine lv_goto (tgt := 133) hx hb dX12_isDate_129 (by decide) ?_
                    exact cr_iret hx hb hr hlk rfl 1 rfl (by first | exact Or.inl (rfl)) dX12_isDate_133
                  · refine W.eq (g2 := F0 m 125 ls [.int 0]) rfl ?_
                    refine lv_if_eq (tgt := 132) hx hb dX12_isDate_125 (by decide) (fun c_41 => ?_) (fun c_41 => absurd (by decide) c_41)
                    refine lv_iconst (v := 0) hx hb dX12_isDate_132 (by decide) ?_
                    exact cr_iret hx hb hr hlk rfl 0 rfl (by first | exact Or.inr ((rfl))) dX12_isDate_133
                · refine W.eq (g2 := F0 m 104 ls [.int 0]) rfl ?_
                  refine lv_if_eq (tgt := 132) hx hb dX12_isDate_104 (by decide) (fun c_42 => ?_) (fun c_42 => absurd (by decide) c_42)
                  refine lv_iconst (v := 0) hx hb dX12_isDate_132 (by decide) ?_
                  exact cr_iret hx hb hr hlk rfl 0 rfl (by first | exact Or.inr ((rfl))) dX12_isDate_133
            · refine lv_iconst (v := 0) hx hb dX12_isDate_62 (by decide) ?_
              exact cr_iret hx hb hr hlk rfl 0 rfl (by first | exact Or.inr ((rfl))) dX12_isDate_63
        · have nc_11 := cv_ne (a := n_9) (b := 2) (by omega) (by omega) c_11
          refine lv_iconst (v := 0) hx hb dX12_isDate_39 (by decide) ?_
          exact cr_iret hx hb hr hlk rfl 0 rfl (by first | exact Or.inr ((rfl))) dX12_isDate_40
set_option maxHeartbeats 4000000 in
set_option maxRecDepth 100000 in
theorem s_X12_typeOf (l : Launch) (D : va_G) (κ : Nat → ClassId) (q : Nat) (N : Nat) (f : Nat → Int32) (a : Nat) (hN : N < 2147483648) (ha : a + 22 ≤ N) (hf : ∃ n9 : Nat, n9 ≤ 20 ∧ f a = nI n9) : Cr l yX12_typeOf (wl yX12_typeOf cX12_typeOf 7 (some .int)) { frames := 4, cells := 0, slots := 0, locals := 91 } D κ [.ref q, .int (nI a)] (va_P D vwCl [(q, .inl (κ 0, N, .inl f))]) (fun n : Nat => some (.int (nI n))) (fun n : Nat => n ≤ 5) := by
  refine cr_of (by decide +kernel) (Nat.le_of_ble_eq_true rfl) ?_
  intro p e s m args below meth c ls hx hb hr hml hts hown hlk hKK hK hI hl
  have hP : va_P D vwCl [(q, .inl (κ 0, N, .inl f))] s.heap := hI
  have hFX : FX p s m args c cX12_typeOf 7 RX12 := ⟨hx, hb, hml, hown, hts⟩
  have hl : lv_has ls 7 [(0, .ref q), (1, .int (nI a))] := hl
  refine lv_aload_n hx hb dX12_typeOf_0 rfl (lv_at hl 0 rfl) ?_
  refine lv_iload_n hx hb dX12_typeOf_1 rfl (lv_at hl 1 rfl) ?_
  refine va_iald hx hb hK hP 0 0 rfl rfl (i := nI a) (vp_in_nI (n := a) (by omega) (by omega)) dX12_typeOf_2 ?_
  refine kv (v := .int (f a)) (by rw [nI_clamp (by omega)]) ?_
  obtain ⟨n_1, hn_1, en_1⟩ : ∃ n9 : Nat, n9 ≤ 20 ∧ f a = nI n9 := id (hf)
  refine kv (v := .int (nI n_1)) (congrArg Value.int en_1) ?_
  refine lv_istore_n (lv' := [(2, .int (nI n_1)), (0, .ref q), (1, .int (nI a))]) hx hb dX12_typeOf_3 rfl hl (by decide) rfl (fun ls hl => ?_)
  refine lv_iload_n hx hb dX12_typeOf_4 rfl (lv_at hl 0 rfl) ?_
  refine lv_if_ne (tgt := 10) hx hb dX12_typeOf_5 (by decide) (fun c_2 => ?_) (fun c_2 => ?_)
  · have nc_2 := cv_ne (a := n_1) (b := 0) (by omega) (by omega) c_2
    refine lv_aload_n hx hb dX12_typeOf_10 rfl (lv_at hl 1 rfl) ?_
    refine lv_iload_n hx hb dX12_typeOf_11 rfl (lv_at hl 2 rfl) ?_
    refine cr_S (As := [.ref q, .int (nI a)]) (rest := []) hFX hKK (s_X12_isYes l D κ q N f a (by first | assumption | omega) (by omega) (by assumption)) 2 gS_X12_123 hdS_X12_isYes rfl rfl ⟨Nat.le_of_ble_eq_true rfl, Nat.le_of_ble_eq_true rfl⟩ rfl rfl (Nat.le_of_ble_eq_true rfl) dX12_typeOf_12 ⟨Nat.le_of_ble_eq_true rfl, Nat.le_of_ble_eq_true rfl⟩ hl.1 (hP.sub [0] rfl) (fun r_3 hp_4 => ?_)
    have hp_4 : (r_3 = 1) ∨ (r_3 = 0) := hp_4
    rcases hp_4 with rfl | rfl
    · refine W.eq (g2 := F0 m 15 ls [.int 1]) rfl ?_
      refine lv_if_ne (tgt := 26) hx hb dX12_typeOf_15 (by decide) (fun c_5 => ?_) (fun c_5 => absurd c_5 (by decide))
      refine lv_iconst (v := 1) hx hb dX12_typeOf_26 (by decide) ?_
      exact cr_iret hx hb hr hlk rfl 1 rfl (by omega) dX12_typeOf_27
    · refine W.eq (g2 := F0 m 15 ls [.int 0]) rfl ?_
      refine lv_if_ne (tgt := 26) hx hb dX12_typeOf_15 (by decide) (fun c_6 => absurd (by decide) c_6) (fun c_6 => ?_)
      refine lv_aload_n hx hb dX12_typeOf_18 rfl (lv_at hl 1 rfl) ?_
      refine lv_iload_n hx hb dX12_typeOf_19 rfl (lv_at hl 2 rfl) ?_
      refine cr_S (As := [.ref q, .int (nI a)]) (rest := []) hFX hKK (s_X12_isNo l D κ q N f a (by first | assumption | omega) (by omega) (by assumption)) 2 gS_X12_127 hdS_X12_isNo rfl rfl ⟨Nat.le_of_ble_eq_true rfl, Nat.le_of_ble_eq_true rfl⟩ rfl rfl (Nat.le_of_ble_eq_true rfl) dX12_typeOf_20 ⟨Nat.le_of_ble_eq_true rfl, Nat.le_of_ble_eq_true rfl⟩ hl.1 (hP.sub [0] rfl) (fun r_7 hp_8 => ?_)
      have hp_8 : (r_7 = 1) ∨ (r_7 = 0) := hp_8
      rcases hp_8 with rfl | rfl
      · refine W.eq (g2 := F0 m 23 ls [.int 1]) rfl ?_
        refine lv_if_eq (tgt := 28) hx hb dX12_typeOf_23 (by decide) (fun c_9 => absurd c_9 (by decide)) (fun c_9 => ?_)
        refine lv_iconst (v := 1) hx hb dX12_typeOf_26 (by decide) ?_
        exact cr_iret hx hb hr hlk rfl 1 rfl (by omega) dX12_typeOf_27
      · refine W.eq (g2 := F0 m 23 ls [.int 0]) rfl ?_
        refine lv_if_eq (tgt := 28) hx hb dX12_typeOf_23 (by decide) (fun c_10 => ?_) (fun c_10 => absurd (by decide) c_10)
        refine lv_aload_n hx hb dX12_typeOf_28 rfl (lv_at hl 1 rfl) ?_
        refine lv_iload_n hx hb dX12_typeOf_29 rfl (lv_at hl 2 rfl) ?_
        refine cr_S (As := [.ref q, .int (nI a)]) (rest := []) hFX hKK (s_X12_isDate l D κ q N f a (by first | assumption | omega) (by omega) (by assumption)) 2 gS_X12_130 hdS_X12_isDate rfl rfl ⟨Nat.le_of_ble_eq_true rfl, Nat.le_of_ble_eq_true rfl⟩ rfl rfl (Nat.le_of_ble_eq_true rfl) dX12_typeOf_30 ⟨Nat.le_of_ble_eq_true rfl, Nat.le_of_ble_eq_true rfl⟩ hl.1 (hP.sub [0] rfl) (fun r_11 hp_12 => ?_)
        have hp_12 : (r_11 = 1) ∨ (r_11 = 0) := hp_12
        rcases hp_12 with rfl | rfl
        · refine W.eq (g2 := F0 m 33 ls [.int 1]) rfl ?_
          refine lv_if_eq (tgt := 38) hx hb dX12_typeOf_33 (by decide) (fun c_13 => absurd c_13 (by decide)) (fun c_13 => ?_)
          refine lv_iconst (v := 4) hx hb dX12_typeOf_36 (by decide) ?_
          exact cr_iret hx hb hr hlk rfl 4 rfl (by omega) dX12_typeOf_37
        · refine W.eq (g2 := F0 m 33 ls [.int 0]) rfl ?_
          refine lv_if_eq (tgt := 38) hx hb dX12_typeOf_33 (by decide) (fun c_14 => ?_) (fun c_14 => absurd (by decide) c_14)
          refine lv_aload_n hx hb dX12_typeOf_38 rfl (lv_at hl 1 rfl) ?_
          refine lv_iload_n hx hb dX12_typeOf_39 rfl (lv_at hl 2 rfl) ?_
          refine lv_iconst (v := 1) hx hb dX12_typeOf_40 (by decide) ?_
          refine lv_iadd hx hb dX12_typeOf_41 ?_
          refine ki (v := (nI (a + 1))) (nI_add a 1) ?_
          refine va_iald hx hb hK hP 0 0 rfl rfl (i := nI (a + 1)) (vp_in_nI (n := (a + 1)) (by omega) (by omega)) dX12_typeOf_42 ?_
          refine kv (v := .int (f (a + 1))) (by rw [nI_clamp (by omega)]) ?_
          refine lv_topi (fun x_15 ex_15 => ?_)
          refine lv_bipush (v := 45) hx hb dX12_typeOf_43 (by decide) ?_
          refine lv_icmp_ne (tgt := 52) hx hb dX12_typeOf_45 (by decide) (fun c_16 => ?_) (fun c_16 => ?_)
          · refine lv_iconst (v := 0) hx hb dX12_typeOf_52 (by decide) ?_
            refine lv_istore_n (lv' := [(3, .int 0), (2, .int (nI n_1)), (0, .ref q), (1, .int (nI a))]) hx hb dX12_typeOf_53 rfl hl (by decide) rfl (fun ls hl => ?_)
            refine lv_aload_n hx hb dX12_typeOf_54 rfl (lv_at hl 2 rfl) ?_
            refine lv_iload_n hx hb dX12_typeOf_55 rfl (lv_at hl 3 rfl) ?_
            refine lv_iload_n hx hb dX12_typeOf_56 rfl (lv_at hl 0 rfl) ?_
            refine cr_S (As := [.ref q, .int (nI a), .int 0]) (rest := []) hFX hKK (s_X12_digitsFrom l D κ q N f a 0 (by first | assumption | omega) (by omega) (by assumption) (by omega)) 3 gS_X12_111 hdS_X12_digitsFrom rfl rfl ⟨Nat.le_of_ble_eq_true rfl, Nat.le_of_ble_eq_true rfl⟩ rfl rfl (Nat.le_of_ble_eq_true rfl) dX12_typeOf_57 ⟨Nat.le_of_ble_eq_true rfl, Nat.le_of_ble_eq_true rfl⟩ hl.1 (hP.sub [0] rfl) (fun n_17 hp_18 => ?_)
            have hp_18 : n_17 = 0 ∨ 0 + n_17 ≤ 20 := hp_18
            refine W.eq (g2 := F0 m 60 ls [.int (nI n_17)]) rfl ?_
            refine lv_istore (lv' := [(4, .int (nI n_17)), (3, .int 0), (2, .int (nI n_1)), (0, .ref q), (1, .int (nI a))]) hx hb dX12_typeOf_60 hl (by decide) rfl (fun ls hl => ?_)
            refine lv_iload hx hb dX12_typeOf_62 (lv_at hl 0 rfl) ?_
            refine lv_i2l (v := (nI n_17).toInt64) hx hb dX12_typeOf_64 rfl ?_
            refine lv_lconst (v := 1) hx hb dX12_typeOf_65 (by decide) ?_
            refine lv_ldc2 hx hb hown (hts _ mw_639) dX12_typeOf_66 ?_
            refine cr_S (As := [.long ((nI n_17).toInt64), .long 1, .long 9]) (rest := []) hFX hKK (s_X12_isIn l D κ ((nI n_17).toInt64) 1 9) 3 gS_X12_62 hdS_X12_isIn rfl rfl ⟨Nat.le_of_ble_eq_true rfl, Nat.le_of_ble_eq_true rfl⟩ rfl rfl (Nat.le_of_ble_eq_true rfl) dX12_typeOf_69 ⟨Nat.le_of_ble_eq_true rfl, Nat.le_of_ble_eq_true rfl⟩ hl.1 (hP.sub [] rfl) (fun r_19 hp_20 => ?_)
            have hp_20 : (r_19 = 1 ∧ ¬ lg_cmp ((nI n_17).toInt64) (1 : Int64) < 0 ∧ ¬ 0 < lg_cmp ((nI n_17).toInt64) (9 : Int64)) ∨ (r_19 = 0 ∧ (lg_cmp ((nI n_17).toInt64) (1 : Int64) < 0 ∨ 0 < lg_cmp ((nI n_17).toInt64) (9 : Int64))) := hp_20
            rcases hp_20 with ⟨rfl, a_21, a_22⟩ | ⟨rfl, a_23⟩
            · refine W.eq (g2 := F0 m 72 ls [.int 1]) rfl ?_
              refine lv_if_eq (tgt := 93) hx hb dX12_typeOf_72 (by decide) (fun c_24 => absurd c_24 (by decide)) (fun c_24 => ?_)
              refine lv_iload hx hb dX12_typeOf_75 (lv_at hl 0 rfl) ?_
              refine lv_iconst (v := 1) hx hb dX12_typeOf_77 (by decide) ?_
              refine lv_icmp_le (tgt := 95) hx hb dX12_typeOf_78 (by decide) (fun c_25 => ?_) (fun c_25 => ?_)
              · have nc_25 := cv_le (a := n_17) (b := 1) (by omega) (by omega) c_25
                refine lv_iload_n hx hb dX12_typeOf_95 rfl (lv_at hl 1 rfl) ?_
                refine lv_iload hx hb dX12_typeOf_96 (lv_at hl 0 rfl) ?_
                refine lv_iadd hx hb dX12_typeOf_98 ?_
                refine ki (v := (nI (0 + n_17))) (nI_add 0 n_17) ?_
                refine lv_istore (lv' := [(5, .int (nI (0 + n_17))), (4, .int (nI n_17)), (3, .int 0), (2, .int (nI n_1)), (0, .ref q), (1, .int (nI a))]) hx hb dX12_typeOf_99 hl (by decide) rfl (fun ls hl => ?_)
                refine lv_iload hx hb dX12_typeOf_101 (lv_at hl 0 rfl) ?_
                refine lv_iload_n hx hb dX12_typeOf_103 rfl (lv_at hl 3 rfl) ?_
                refine lv_icmp_ne (tgt := 128) hx hb dX12_typeOf_104 (by decide) (fun c_26 => ?_) (fun c_26 => ?_)
                · have nc_26 := cv_ne (a := (0 + n_17)) (b := n_1) (by omega) (by omega) c_26
                  refine lv_aload_n hx hb dX12_typeOf_128 rfl (lv_at hl 4 rfl) ?_
                  refine lv_iload_n hx hb dX12_typeOf_129 rfl (lv_at hl 5 rfl) ?_
                  refine lv_iconst (v := 1) hx hb dX12_typeOf_130 (by decide) ?_
                  refine lv_iadd hx hb dX12_typeOf_131 ?_
                  refine ki (v := (nI (a + 1))) (nI_add a 1) ?_
                  refine lv_iload hx hb dX12_typeOf_132 (lv_at hl 0 rfl) ?_
                  refine lv_iadd hx hb dX12_typeOf_134 ?_
                  refine ki (v := (nI (a + 1 + (0 + n_17)))) (nI_add (a + 1) (0 + n_17)) ?_
                  refine va_iald hx hb hK hP 0 0 rfl rfl (i := nI (a + 1 + (0 + n_17))) (vp_in_nI (n := (a + 1 + (0 + n_17))) (by omega) (by omega)) dX12_typeOf_135 ?_
                  refine kv (v := .int (f (a + 1 + (0 + n_17)))) (by rw [nI_clamp (by omega)]) ?_
                  refine lv_topi (fun x_27 ex_27 => ?_)
                  refine lv_bipush (v := 46) hx hb dX12_typeOf_136 (by decide) ?_
                  refine lv_icmp_ne (tgt := 183) hx hb dX12_typeOf_138 (by decide) (fun c_28 => ?_) (fun c_28 => ?_)
                  · refine lv_iconst (v := 0) hx hb dX12_typeOf_183 (by decide) ?_
                    refine lv_istore (lv' := [(6, .int 0), (5, .int (nI (0 + n_17))), (4, .int (nI n_17)), (3, .int 0), (2, .int (nI n_1)), (0, .ref q), (1, .int (nI a))]) hx hb dX12_typeOf_184 hl (by decide) rfl (fun ls hl => ?_)
                    refine lv_iload hx hb dX12_typeOf_186 (lv_at hl 0 rfl) ?_
                    refine lv_if_eq (tgt := 195) hx hb dX12_typeOf_188 (by decide) (fun c_29 => ?_) (fun c_29 => absurd (by decide) c_29)
                    refine lv_iconst (v := 5) hx hb dX12_typeOf_195 (by decide) ?_
                    exact cr_iret hx hb hr hlk rfl 5 rfl (by omega) dX12_typeOf_196
                  · refine lv_aload_n hx hb dX12_typeOf_141 rfl (lv_at hl 4 rfl) ?_
                    refine lv_iload_n hx hb dX12_typeOf_142 rfl (lv_at hl 5 rfl) ?_
                    refine lv_iload hx hb dX12_typeOf_143 (lv_at hl 0 rfl) ?_
                    refine lv_iconst (v := 1) hx hb dX12_typeOf_145 (by decide) ?_
                    refine lv_iadd hx hb dX12_typeOf_146 ?_
                    refine ki (v := (nI (0 + n_17 + 1))) (nI_add (0 + n_17) 1) ?_
                    refine cr_S (As := [.ref q, .int (nI a), .int (nI (0 + n_17 + 1))]) (rest := []) hFX hKK (s_X12_digitsFrom l D κ q N f a (0 + n_17 + 1) (by first | assumption | omega) (by omega) (by assumption) (by omega)) 3 gS_X12_111 hdS_X12_digitsFrom rfl rfl ⟨Nat.le_of_ble_eq_true rfl, Nat.le_of_ble_eq_true rfl⟩ rfl rfl (Nat.le_of_ble_eq_true rfl) dX12_typeOf_147 ⟨Nat.le_of_ble_eq_true rfl, Nat.le_of_ble_eq_true rfl⟩ hl.1 (hP.sub [0] rfl) (fun n_30 hp_31 => ?_)
                    have hp_31 : n_30 = 0 ∨ (0 + n_17 + 1) + n_30 ≤ 20 := hp_31
                    refine W.eq (g2 := F0 m 150 ls [.int (nI n_30)]) rfl ?_
                    refine lv_i2l (v := (nI n_30).toInt64) hx hb dX12_typeOf_150 rfl ?_
                    refine lv_lconst (v := 1) hx hb dX12_typeOf_151 (by decide) ?_
                    refine lv_ldc2 hx hb hown (hts _ mw_554) dX12_typeOf_152 ?_
                    refine cr_S (As := [.long ((nI n_30).toInt64), .long 1, .long 4]) (rest := []) hFX hKK (s_X12_isIn l D κ ((nI n_30).toInt64) 1 4) 3 gS_X12_62 hdS_X12_isIn rfl rfl ⟨Nat.le_of_ble_eq_true rfl, Nat.le_of_ble_eq_true rfl⟩ rfl rfl (Nat.le_of_ble_eq_true rfl) dX12_typeOf_155 ⟨Nat.le_of_ble_eq_true rfl, Nat.le_of_ble_eq_true rfl⟩ hl.1 (hP.sub [] rfl) (fun r_32 hp_33 => ?_)
                    have hp_33 : (r_32 = 1 ∧ ¬ lg_cmp ((nI n_30).toInt64) (1 : Int64) < 0 ∧ ¬ 0 < lg_cmp ((nI n_30).toInt64) (4 : Int64)) ∨ (r_32 = 0 ∧ (lg_cmp ((nI n_30).toInt64) (1 : Int64) < 0 ∨ 0 < lg_cmp ((nI n_30).toInt64) (4 : Int64))) := hp_33
                    rcases hp_33 with ⟨rfl, a_34, a_35⟩ | ⟨rfl, a_36⟩
                    · refine W.eq (g2 := F0 m 158 ls [.int 1]) rfl ?_
                      refine lv_if_eq (tgt := 183) hx hb dX12_typeOf_158 (by decide) (fun c_37 => absurd c_37 (by decide)) (fun c_37 => ?_)
                      refine lv_iload hx hb dX12_typeOf_161 (lv_at hl 0 rfl) ?_
                      refine lv_iconst (v := 1) hx hb dX12_typeOf_163 (by decide) ?_
                      refine lv_iadd hx hb dX12_typeOf_164 ?_
                      refine ki (v := (nI (0 + n_17 + 1))) (nI_add (0 + n_17) 1) ?_
                      refine lv_aload_n hx hb dX12_typeOf_165 rfl (lv_at hl 4 rfl) ?_
                      refine lv_iload_n hx hb dX12_typeOf_166 rfl (lv_at hl 5 rfl) ?_
                      refine lv_iload hx hb dX12_typeOf_167 (lv_at hl 0 rfl) ?_
                      refine lv_iconst (v := 1) hx hb dX12_typeOf_169 (by decide) ?_
                      refine lv_iadd hx hb dX12_typeOf_170 ?_
                      refine ki (v := (nI (0 + n_17 + 1))) (nI_add (0 + n_17) 1) ?_
                      refine cr_S (As := [.ref q, .int (nI a), .int (nI (0 + n_17 + 1))]) (rest := [.int (nI (0 + n_17 + 1))]) hFX hKK (s_X12_digitsFrom l D κ q N f a (0 + n_17 + 1) (by first | assumption | omega) (by omega) (by assumption) (by omega)) 3 gS_X12_111 hdS_X12_digitsFrom rfl rfl ⟨Nat.le_of_ble_eq_true rfl, Nat.le_of_ble_eq_true rfl⟩ rfl rfl (Nat.le_of_ble_eq_true rfl) dX12_typeOf_171 ⟨Nat.le_of_ble_eq_true rfl, Nat.le_of_ble_eq_true rfl⟩ hl.1 (hP.sub [0] rfl) (fun n_38 hp_39 => ?_)
                      have hp_39 : n_38 = 0 ∨ (0 + n_17 + 1) + n_38 ≤ 20 := hp_39
                      refine W.eq (g2 := F0 m 174 ls [.int (nI n_38), .int (nI (0 + n_17 + 1))]) rfl ?_
                      refine lv_iadd hx hb dX12_typeOf_174 ?_
                      refine ki (v := (nI (0 + n_17 + 1 + n_38))) (nI_add (0 + n_17 + 1) n_38) ?_
                      refine lv_iload_n hx hb dX12_typeOf_175 rfl (lv_at hl 3 rfl) ?_
                      refine lv_icmp_ne (tgt := 183) hx hb dX12_typeOf_176 (by decide) (fun c_40 => ?_) (fun c_40 => ?_)
                      · have nc_40 := cv_ne (a := (0 + n_17 + 1 + n_38)) (b := n_1) (by omega) (by omega) c_40
                        refine lv_iconst (v := 0) hx hb dX12_typeOf_183 (by decide) ?_
                        refine lv_istore (lv' := [(6, .int 0), (5, .int (nI (0 + n_17))), (4, .int (nI n_17)), (3, .int 0), (2, .int (nI n_1)), (0, .ref q), (1, .int (nI a))]) hx hb dX12_typeOf_184 hl (by decide) rfl (fun ls hl => ?_)
                        refine lv_iload hx hb dX12_typeOf_186 (lv_at hl 0 rfl) ?_
                        refine lv_if_eq (tgt := 195) hx hb dX12_typeOf_188 (by decide) (fun c_41 => ?_) (fun c_41 => absurd (by decide) c_41)
                        refine lv_iconst (v := 5) hx hb dX12_typeOf_195 (by decide) ?_
                        exact cr_iret hx hb hr hlk rfl 5 rfl (by omega) dX12_typeOf_196
                      · have nc_40 := cv_eq (a := (0 + n_17 + 1 + n_38)) (b := n_1) (by omega) (by omega) c_40
                        refine lv_iconst (v := 1) hx hb dX12_typeOf_179 (by decide) ?_
                        refine lv_goto (tgt := 184) hx hb dX12_typeOf_180 (by decide) ?_
                        refine lv_istore (lv' := [(6, .int 1), (5, .int (nI (0 + n_17))), (4, .int (nI n_17)), (3, .int 0), (2, .int (nI n_1)), (0, .ref q), (1, .int (nI a))]) hx hb dX12_typeOf_184 hl (by decide) rfl (fun ls hl => ?_)
                        refine lv_iload hx hb dX12_typeOf_186 (lv_at hl 0 rfl) ?_
                        refine lv_if_eq (tgt := 195) hx hb dX12_typeOf_188 (by decide) (fun c_42 => absurd c_42 (by decide)) (fun c_42 => ?_)
                        refine lv_iconst (v := 3) hx hb dX12_typeOf_191 (by decide) ?_
                        refine lv_goto (tgt := 196) hx hb dX12_typeOf_192 (by decide) ?_
                        exact cr_iret hx hb hr hlk rfl 3 rfl (by omega) dX12_typeOf_196
                    · refine W.eq (g2 := F0 m 158 ls [.int 0]) rfl ?_
                      refine lv_if_eq (tgt := 183) hx hb dX12_typeOf_158 (by decide) (fun c_43 => ?_) (fun c_43 => absurd (by decide) c_43)
                      refine lv_iconst (v := 0) hx hb dX12_typeOf_183 (by decide) ?_
                      refine lv_istore (lv' := [(6, .int 0), (5, .int (nI (0 + n_17))), (4, .int (nI n_17)), (3, .int 0), (2, .int (nI n_1)), (0, .ref q), (1, .int (nI a))]) hx hb dX12_typeOf_184 hl (by decide) rfl (fun ls hl => ?_)
                      refine lv_iload hx hb dX12_typeOf_186 (lv_at hl 0 rfl) ?_
                      refine lv_if_eq (tgt := 195) hx hb dX12_typeOf_188 (by decide) (fun c_44 => ?_) (fun c_44 => absurd (by decide) c_44)
                      refine lv_iconst (v := 5) hx hb dX12_typeOf_195 (by decide) ?_
                      exact cr_iret hx hb hr hlk rfl 5 rfl (by omega) dX12_typeOf_196
                · have nc_26 := cv_eq (a := (0 + n_17)) (b := n_1) (by omega) (by omega) c_26
                  refine lv_iload_n hx hb dX12_typeOf_107 rfl (lv_at hl 2 rfl) ?_
                  refine lv_iconst (v := 1) hx hb dX12_typeOf_108 (by decide) ?_
                  refine lv_icmp_ne (tgt := 126) hx hb dX12_typeOf_109 (by decide) (fun c_45 => ?_) (fun c_45 => absurd c_45 (by decide))
                  refine lv_iconst (v := 2) hx hb dX12_typeOf_126 (by decide) ?_
                  exact cr_iret hx hb hr hlk rfl 2 rfl (by omega) dX12_typeOf_127
              · have nc_25 := cv_nle (a := n_17) (b := 1) (by omega) (by omega) c_25
                refine lv_aload_n hx hb dX12_typeOf_81 rfl (lv_at hl 3 rfl) ?_
                refine lv_iload_n hx hb dX12_typeOf_82 rfl (lv_at hl 4 rfl) ?_
                refine lv_iconst (v := 1) hx hb dX12_typeOf_83 (by decide) ?_
                refine lv_iadd hx hb dX12_typeOf_84 ?_
                refine ki (v := (nI (a + 1))) (nI_add a 1) ?_
                refine lv_iload_n hx hb dX12_typeOf_85 rfl (lv_at hl 1 rfl) ?_
                refine lv_iadd hx hb dX12_typeOf_86 ?_
                refine ki (v := (nI (a + 1 + 0))) (nI_add (a + 1) 0) ?_
                refine va_iald hx hb hK hP 0 0 rfl rfl (i := nI (a + 1 + 0)) (vp_in_nI (n := (a + 1 + 0)) (by omega) (by omega)) dX12_typeOf_87 ?_
                refine kv (v := .int (f (a + 1 + 0))) (by rw [nI_clamp (by omega)]) ?_
                refine lv_topi (fun x_46 ex_46 => ?_)
                refine lv_bipush (v := 48) hx hb dX12_typeOf_88 (by decide) ?_
                refine lv_icmp_ne (tgt := 95) hx hb dX12_typeOf_90 (by decide) (fun c_47 => ?_) (fun c_47 => ?_)
                · refine lv_iload_n hx hb dX12_typeOf_95 rfl (lv_at hl 1 rfl) ?_
                  refine lv_iload hx hb dX12_typeOf_96 (lv_at hl 0 rfl) ?_
                  refine lv_iadd hx hb dX12_typeOf_98 ?_
                  refine ki (v := (nI (0 + n_17))) (nI_add 0 n_17) ?_
                  refine lv_istore (lv' := [(5, .int (nI (0 + n_17))), (4, .int (nI n_17)), (3, .int 0), (2, .int (nI n_1)), (0, .ref q), (1, .int (nI a))]) hx hb dX12_typeOf_99 hl (by decide) rfl (fun ls hl => ?_)
                  refine lv_iload hx hb dX12_typeOf_101 (lv_at hl 0 rfl) ?_
                  refine lv_iload_n hx hb dX12_typeOf_103 rfl (lv_at hl 3 rfl) ?_
                  refine lv_icmp_ne (tgt := 128) hx hb dX12_typeOf_104 (by decide) (fun c_48 => ?_) (fun c_48 => ?_)
                  · have nc_48 := cv_ne (a := (0 + n_17)) (b := n_1) (by omega) (by omega) c_48
                    refine lv_aload_n hx hb dX12_typeOf_128 rfl (lv_at hl 4 rfl) ?_
                    refine lv_iload_n hx hb dX12_typeOf_129 rfl (lv_at hl 5 rfl) ?_
                    refine lv_iconst (v := 1) hx hb dX12_typeOf_130 (by decide) ?_
                    refine lv_iadd hx hb dX12_typeOf_131 ?_
                    refine ki (v := (nI (a + 1))) (nI_add a 1) ?_
                    refine lv_iload hx hb dX12_typeOf_132 (lv_at hl 0 rfl) ?_
                    refine lv_iadd hx hb dX12_typeOf_134 ?_
                    refine ki (v := (nI (a + 1 + (0 + n_17)))) (nI_add (a + 1) (0 + n_17)) ?_
                    refine va_iald hx hb hK hP 0 0 rfl rfl (i := nI (a + 1 + (0 + n_17))) (vp_in_nI (n := (a + 1 + (0 + n_17))) (by omega) (by omega)) dX12_typeOf_135 ?_
                    refine kv (v := .int (f (a + 1 + (0 + n_17)))) (by rw [nI_clamp (by omega)]) ?_
                    refine lv_topi (fun x_49 ex_49 => ?_)
                    refine lv_bipush (v := 46) hx hb dX12_typeOf_136 (by decide) ?_
                    refine lv_icmp_ne (tgt := 183) hx hb dX12_typeOf_138 (by decide) (fun c_50 => ?_) (fun c_50 => ?_)
                    · refine lv_iconst (v := 0) hx hb dX12_typeOf_183 (by decide) ?_
                      refine lv_istore (lv' := [(6, .int 0), (5, .int (nI (0 + n_17))), (4, .int (nI n_17)), (3, .int 0), (2, .int (nI n_1)), (0, .ref q), (1, .int (nI a))]) hx hb dX12_typeOf_184 hl (by decide) rfl (fun ls hl => ?_)
                      refine lv_iload hx hb dX12_typeOf_186 (lv_at hl 0 rfl) ?_
                      refine lv_if_eq (tgt := 195) hx hb dX12_typeOf_188 (by decide) (fun c_51 => ?_) (fun c_51 => absurd (by decide) c_51)
                      refine lv_iconst (v := 5) hx hb dX12_typeOf_195 (by decide) ?_
                      exact cr_iret hx hb hr hlk rfl 5 rfl (by omega) dX12_typeOf_196
                    · refine lv_aload_n hx hb dX12_typeOf_141 rfl (lv_at hl 4 rfl) ?_
                      refine lv_iload_n hx hb dX12_typeOf_142 rfl (lv_at hl 5 rfl) ?_
                      refine lv_iload hx hb dX12_typeOf_143 (lv_at hl 0 rfl) ?_
                      refine lv_iconst (v := 1) hx hb dX12_typeOf_145 (by decide) ?_
                      refine lv_iadd hx hb dX12_typeOf_146 ?_
                      refine ki (v := (nI (0 + n_17 + 1))) (nI_add (0 + n_17) 1) ?_
                      refine cr_S (As := [.ref q, .int (nI a), .int (nI (0 + n_17 + 1))]) (rest := []) hFX hKK (s_X12_digitsFrom l D κ q N f a (0 + n_17 + 1) (by first | assumption | omega) (by omega) (by assumption) (by omega)) 3 gS_X12_111 hdS_X12_digitsFrom rfl rfl ⟨Nat.le_of_ble_eq_true rfl, Nat.le_of_ble_eq_true rfl⟩ rfl rfl (Nat.le_of_ble_eq_true rfl) dX12_typeOf_147 ⟨Nat.le_of_ble_eq_true rfl, Nat.le_of_ble_eq_true rfl⟩ hl.1 (hP.sub [0] rfl) (fun n_52 hp_53 => ?_)
                      have hp_53 : n_52 = 0 ∨ (0 + n_17 + 1) + n_52 ≤ 20 := hp_53
                      refine W.eq (g2 := F0 m 150 ls [.int (nI n_52)]) rfl ?_
                      refine lv_i2l (v := (nI n_52).toInt64) hx hb dX12_typeOf_150 rfl ?_
                      refine lv_lconst (v := 1) hx hb dX12_typeOf_151 (by decide) ?_
                      refine lv_ldc2 hx hb hown (hts _ mw_554) dX12_typeOf_152 ?_
                      refine cr_S (As := [.long ((nI n_52).toInt64), .long 1, .long 4]) (rest := []) hFX hKK (s_X12_isIn l D κ ((nI n_52).toInt64) 1 4) 3 gS_X12_62 hdS_X12_isIn rfl rfl ⟨Nat.le_of_ble_eq_true rfl, Nat.le_of_ble_eq_true rfl⟩ rfl rfl (Nat.le_of_ble_eq_true rfl) dX12_typeOf_155 ⟨Nat.le_of_ble_eq_true rfl, Nat.le_of_ble_eq_true rfl⟩ hl.1 (hP.sub [] rfl) (fun r_54 hp_55 => ?_)
                      have hp_55 : (r_54 = 1 ∧ ¬ lg_cmp ((nI n_52).toInt64) (1 : Int64) < 0 ∧ ¬ 0 < lg_cmp ((nI n_52).toInt64) (4 : Int64)) ∨ (r_54 = 0 ∧ (lg_cmp ((nI n_52).toInt64) (1 : Int64) < 0 ∨ 0 < lg_cmp ((nI n_52).toInt64) (4 : Int64))) := hp_55
                      rcases hp_55 with ⟨rfl, a_56, a_57⟩ | ⟨rfl, a_58⟩
                      · refine W.eq (g2 := F0 m 158 ls [.int 1]) rfl ?_
                        refine lv_if_eq (tgt := 183) hx hb dX12_typeOf_158 (by decide) (fun c_59 => absurd c_59 (by decide)) (fun c_59 => ?_)
                        refine lv_iload hx hb dX12_typeOf_161 (lv_at hl 0 rfl) ?_
                        refine lv_iconst (v := 1) hx hb dX12_typeOf_163 (by decide) ?_
                        refine lv_iadd hx hb dX12_typeOf_164 ?_
                        refine ki (v := (nI (0 + n_17 + 1))) (nI_add (0 + n_17) 1) ?_
                        refine lv_aload_n hx hb dX12_typeOf_165 rfl (lv_at hl 4 rfl) ?_
                        refine lv_iload_n hx hb dX12_typeOf_166 rfl (lv_at hl 5 rfl) ?_
                        refine lv_iload hx hb dX12_typeOf_167 (lv_at hl 0 rfl) ?_
                        refine lv_iconst (v := 1) hx hb dX12_typeOf_169 (by decide) ?_
                        refine lv_iadd hx hb dX12_typeOf_170 ?_
                        refine ki (v := (nI (0 + n_17 + 1))) (nI_add (0 + n_17) 1) ?_
                        refine cr_S (As := [.ref q, .int (nI a), .int (nI (0 + n_17 + 1))]) (rest := [.int (nI (0 + n_17 + 1))]) hFX hKK (s_X12_digitsFrom l D κ q N f a (0 + n_17 + 1) (by first | assumption | omega) (by omega) (by assumption) (by omega)) 3 gS_X12_111 hdS_X12_digitsFrom rfl rfl ⟨Nat.le_of_ble_eq_true rfl, Nat.le_of_ble_eq_true rfl⟩ rfl rfl (Nat.le_of_ble_eq_true rfl) dX12_typeOf_171 ⟨Nat.le_of_ble_eq_true rfl, Nat.le_of_ble_eq_true rfl⟩ hl.1 (hP.sub [0] rfl) (fun n_60 hp_61 => ?_)
                        have hp_61 : n_60 = 0 ∨ (0 + n_17 + 1) + n_60 ≤ 20 := hp_61
                        refine W.eq (g2 := F0 m 174 ls [.int (nI n_60), .int (nI (0 + n_17 + 1))]) rfl ?_
                        refine lv_iadd hx hb dX12_typeOf_174 ?_
                        refine ki (v := (nI (0 + n_17 + 1 + n_60))) (nI_add (0 + n_17 + 1) n_60) ?_
                        refine lv_iload_n hx hb dX12_typeOf_175 rfl (lv_at hl 3 rfl) ?_
                        refine lv_icmp_ne (tgt := 183) hx hb dX12_typeOf_176 (by decide) (fun c_62 => ?_) (fun c_62 => ?_)
                        · have nc_62 := cv_ne (a := (0 + n_17 + 1 + n_60)) (b := n_1) (by omega) (by omega) c_62
                          refine lv_iconst (v := 0) hx hb dX12_typeOf_183 (by decide) ?_
                          refine lv_istore (lv' := [(6, .int 0), (5, .int (nI (0 + n_17))), (4, .int (nI n_17)), (3, .int 0), (2, .int (nI n_1)), (0, .ref q), (1, .int (nI a))]) hx hb dX12_typeOf_184 hl (by decide) rfl (fun ls hl => ?_)
                          refine lv_iload hx hb dX12_typeOf_186 (lv_at hl 0 rfl) ?_
                          refine lv_if_eq (tgt := 195) hx hb dX12_typeOf_188 (by decide) (fun c_63 => ?_) (fun c_63 => absurd (by decide) c_63)
                          refine lv_iconst (v := 5) hx hb dX12_typeOf_195 (by decide) ?_
                          exact cr_iret hx hb hr hlk rfl 5 rfl (by omega) dX12_typeOf_196
                        · have nc_62 := cv_eq (a := (0 + n_17 + 1 + n_60)) (b := n_1) (by omega) (by omega) c_62
                          refine lv_iconst (v := 1) hx hb dX12_typeOf_179 (by decide) ?_
                          refine lv_goto (tgt := 184) hx hb dX12_typeOf_180 (by decide) ?_
                          refine lv_istore (lv' := [(6, .int 1), (5, .int (nI (0 + n_17))), (4, .int (nI n_17)), (3, .int 0), (2, .int (nI n_1)), (0, .ref q), (1, .int (nI a))]) hx hb dX12_typeOf_184 hl (by decide) rfl (fun ls hl => ?_)
                          refine lv_iload hx hb dX12_typeOf_186 (lv_at hl 0 rfl) ?_
                          refine lv_if_eq (tgt := 195) hx hb dX12_typeOf_188 (by decide) (fun c_64 => absurd c_64 (by decide)) (fun c_64 => ?_)
                          refine lv_iconst (v := 3) hx hb dX12_typeOf_191 (by decide) ?_
                          refine lv_goto (tgt := 196) hx hb dX12_typeOf_192 (by decide) ?_
                          exact cr_iret hx hb hr hlk rfl 3 rfl (by omega) dX12_typeOf_196
                      · refine W.eq (g2 := F0 m 158 ls [.int 0]) rfl ?_
                        refine lv_if_eq (tgt := 183) hx hb dX12_typeOf_158 (by decide) (fun c_65 => ?_) (fun c_65 => absurd (by decide) c_65)
                        refine lv_iconst (v := 0) hx hb dX12_typeOf_183 (by decide) ?_
                        refine lv_istore (lv' := [(6, .int 0), (5, .int (nI (0 + n_17))), (4, .int (nI n_17)), (3, .int 0), (2, .int (nI n_1)), (0, .ref q), (1, .int (nI a))]) hx hb dX12_typeOf_184 hl (by decide) rfl (fun ls hl => ?_)
                        refine lv_iload hx hb dX12_typeOf_186 (lv_at hl 0 rfl) ?_
                        refine lv_if_eq (tgt := 195) hx hb dX12_typeOf_188 (by decide) (fun c_66 => ?_) (fun c_66 => absurd (by decide) c_66)
                        refine lv_iconst (v := 5) hx hb dX12_typeOf_195 (by decide) ?_
                        exact cr_iret hx hb hr hlk rfl 5 rfl (by omega) dX12_typeOf_196
                  · have nc_48 := cv_eq (a := (0 + n_17)) (b := n_1) (by omega) (by omega) c_48
                    refine lv_iload_n hx hb dX12_typeOf_107 rfl (lv_at hl 2 rfl) ?_
                    refine lv_iconst (v := 1) hx hb dX12_typeOf_108 (by decide) ?_
                    refine lv_icmp_ne (tgt := 126) hx hb dX12_typeOf_109 (by decide) (fun c_67 => ?_) (fun c_67 => absurd c_67 (by decide))
                    refine lv_iconst (v := 2) hx hb dX12_typeOf_126 (by decide) ?_
                    exact cr_iret hx hb hr hlk rfl 2 rfl (by omega) dX12_typeOf_127
                · refine lv_iconst (v := 5) hx hb dX12_typeOf_93 (by decide) ?_
                  exact cr_iret hx hb hr hlk rfl 5 rfl (by omega) dX12_typeOf_94
            · refine W.eq (g2 := F0 m 72 ls [.int 0]) rfl ?_
              refine lv_if_eq (tgt := 93) hx hb dX12_typeOf_72 (by decide) (fun c_68 => ?_) (fun c_68 => absurd (by decide) c_68)
              refine lv_iconst (v := 5) hx hb dX12_typeOf_93 (by decide) ?_
              exact cr_iret hx hb hr hlk rfl 5 rfl (by omega) dX12_typeOf_94
          · refine lv_iconst (v := 1) hx hb dX12_typeOf_48 (by decide) ?_
            refine lv_goto (tgt := 53) hx hb dX12_typeOf_49 (by decide) ?_
            refine lv_istore_n (lv' := [(3, .int 1), (2, .int (nI n_1)), (0, .ref q), (1, .int (nI a))]) hx hb dX12_typeOf_53 rfl hl (by decide) rfl (fun ls hl => ?_)
            refine lv_aload_n hx hb dX12_typeOf_54 rfl (lv_at hl 2 rfl) ?_
            refine lv_iload_n hx hb dX12_typeOf_55 rfl (lv_at hl 3 rfl) ?_
            refine lv_iload_n hx hb dX12_typeOf_56 rfl (lv_at hl 0 rfl) ?_
            refine cr_S (As := [.ref q, .int (nI a), .int 1]) (rest := []) hFX hKK (s_X12_digitsFrom l D κ q N f a 1 (by first | assumption | omega) (by omega) (by assumption) (by omega)) 3 gS_X12_111 hdS_X12_digitsFrom rfl rfl ⟨Nat.le_of_ble_eq_true rfl, Nat.le_of_ble_eq_true rfl⟩ rfl rfl (Nat.le_of_ble_eq_true rfl) dX12_typeOf_57 ⟨Nat.le_of_ble_eq_true rfl, Nat.le_of_ble_eq_true rfl⟩ hl.1 (hP.sub [0] rfl) (fun n_69 hp_70 => ?_)
            have hp_70 : n_69 = 0 ∨ 1 + n_69 ≤ 20 := hp_70
            refine W.eq (g2 := F0 m 60 ls [.int (nI n_69)]) rfl ?_
            refine lv_istore (lv' := [(4, .int (nI n_69)), (3, .int 1), (2, .int (nI n_1)), (0, .ref q), (1, .int (nI a))]) hx hb dX12_typeOf_60 hl (by decide) rfl (fun ls hl => ?_)
            refine lv_iload hx hb dX12_typeOf_62 (lv_at hl 0 rfl) ?_
            refine lv_i2l (v := (nI n_69).toInt64) hx hb dX12_typeOf_64 rfl ?_
            refine lv_lconst (v := 1) hx hb dX12_typeOf_65 (by decide) ?_
            refine lv_ldc2 hx hb hown (hts _ mw_639) dX12_typeOf_66 ?_
            refine cr_S (As := [.long ((nI n_69).toInt64), .long 1, .long 9]) (rest := []) hFX hKK (s_X12_isIn l D κ ((nI n_69).toInt64) 1 9) 3 gS_X12_62 hdS_X12_isIn rfl rfl ⟨Nat.le_of_ble_eq_true rfl, Nat.le_of_ble_eq_true rfl⟩ rfl rfl (Nat.le_of_ble_eq_true rfl) dX12_typeOf_69 ⟨Nat.le_of_ble_eq_true rfl, Nat.le_of_ble_eq_true rfl⟩ hl.1 (hP.sub [] rfl) (fun r_71 hp_72 => ?_)
            have hp_72 : (r_71 = 1 ∧ ¬ lg_cmp ((nI n_69).toInt64) (1 : Int64) < 0 ∧ ¬ 0 < lg_cmp ((nI n_69).toInt64) (9 : Int64)) ∨ (r_71 = 0 ∧ (lg_cmp ((nI n_69).toInt64) (1 : Int64) < 0 ∨ 0 < lg_cmp ((nI n_69).toInt64) (9 : Int64))) := hp_72
            rcases hp_72 with ⟨rfl, a_73, a_74⟩ | ⟨rfl, a_75⟩
            · refine W.eq (g2 := F0 m 72 ls [.int 1]) rfl ?_
              refine lv_if_eq (tgt := 93) hx hb dX12_typeOf_72 (by decide) (fun c_76 => absurd c_76 (by decide)) (fun c_76 => ?_)
              refine lv_iload hx hb dX12_typeOf_75 (lv_at hl 0 rfl) ?_
              refine lv_iconst (v := 1) hx hb dX12_typeOf_77 (by decide) ?_
              refine lv_icmp_le (tgt := 95) hx hb dX12_typeOf_78 (by decide) (fun c_77 => ?_) (fun c_77 => ?_)
              · have nc_77 := cv_le (a := n_69) (b := 1) (by omega) (by omega) c_77
                refine lv_iload_n hx hb dX12_typeOf_95 rfl (lv_at hl 1 rfl) ?_
                refine lv_iload hx hb dX12_typeOf_96 (lv_at hl 0 rfl) ?_
                refine lv_iadd hx hb dX12_typeOf_98 ?_
                refine ki (v := (nI (1 + n_69))) (nI_add 1 n_69) ?_
                refine lv_istore (lv' := [(5, .int (nI (1 + n_69))), (4, .int (nI n_69)), (3, .int 1), (2, .int (nI n_1)), (0, .ref q), (1, .int (nI a))]) hx hb dX12_typeOf_99 hl (by decide) rfl (fun ls hl => ?_)
                refine lv_iload hx hb dX12_typeOf_101 (lv_at hl 0 rfl) ?_
                refine lv_iload_n hx hb dX12_typeOf_103 rfl (lv_at hl 3 rfl) ?_
                refine lv_icmp_ne (tgt := 128) hx hb dX12_typeOf_104 (by decide) (fun c_78 => ?_) (fun c_78 => ?_)
                · have nc_78 := cv_ne (a := (1 + n_69)) (b := n_1) (by omega) (by omega) c_78
                  refine lv_aload_n hx hb dX12_typeOf_128 rfl (lv_at hl 4 rfl) ?_
                  refine lv_iload_n hx hb dX12_typeOf_129 rfl (lv_at hl 5 rfl) ?_
                  refine lv_iconst (v := 1) hx hb dX12_typeOf_130 (by decide) ?_
                  refine lv_iadd hx hb dX12_typeOf_131 ?_
                  refine ki (v := (nI (a + 1))) (nI_add a 1) ?_
                  refine lv_iload hx hb dX12_typeOf_132 (lv_at hl 0 rfl) ?_
                  refine lv_iadd hx hb dX12_typeOf_134 ?_
                  refine ki (v := (nI (a + 1 + (1 + n_69)))) (nI_add (a + 1) (1 + n_69)) ?_
                  refine va_iald hx hb hK hP 0 0 rfl rfl (i := nI (a + 1 + (1 + n_69))) (vp_in_nI (n := (a + 1 + (1 + n_69))) (by omega) (by omega)) dX12_typeOf_135 ?_
                  refine kv (v := .int (f (a + 1 + (1 + n_69)))) (by rw [nI_clamp (by omega)]) ?_
                  refine lv_topi (fun x_79 ex_79 => ?_)
                  refine lv_bipush (v := 46) hx hb dX12_typeOf_136 (by decide) ?_
                  refine lv_icmp_ne (tgt := 183) hx hb dX12_typeOf_138 (by decide) (fun c_80 => ?_) (fun c_80 => ?_)
                  · refine lv_iconst (v := 0) hx hb dX12_typeOf_183 (by decide) ?_
                    refine lv_istore (lv' := [(6, .int 0), (5, .int (nI (1 + n_69))), (4, .int (nI n_69)), (3, .int 1), (2, .int (nI n_1)), (0, .ref q), (1, .int (nI a))]) hx hb dX12_typeOf_184 hl (by decide) rfl (fun ls hl => ?_)
                    refine lv_iload hx hb dX12_typeOf_186 (lv_at hl 0 rfl) ?_
                    refine lv_if_eq (tgt := 195) hx hb dX12_typeOf_188 (by decide) (fun c_81 => ?_) (fun c_81 => absurd (by decide) c_81)
                    refine lv_iconst (v := 5) hx hb dX12_typeOf_195 (by decide) ?_
                    exact cr_iret hx hb hr hlk rfl 5 rfl (by omega) dX12_typeOf_196
                  · refine lv_aload_n hx hb dX12_typeOf_141 rfl (lv_at hl 4 rfl) ?_
                    refine lv_iload_n hx hb dX12_typeOf_142 rfl (lv_at hl 5 rfl) ?_
                    refine lv_iload hx hb dX12_typeOf_143 (lv_at hl 0 rfl) ?_
                    refine lv_iconst (v := 1) hx hb dX12_typeOf_145 (by decide) ?_
                    refine lv_iadd hx hb dX12_typeOf_146 ?_
                    refine ki (v := (nI (1 + n_69 + 1))) (nI_add (1 + n_69) 1) ?_
                    refine cr_S (As := [.ref q, .int (nI a), .int (nI (1 + n_69 + 1))]) (rest := []) hFX hKK (s_X12_digitsFrom l D κ q N f a (1 + n_69 + 1) (by first | assumption | omega) (by omega) (by assumption) (by omega)) 3 gS_X12_111 hdS_X12_digitsFrom rfl rfl ⟨Nat.le_of_ble_eq_true rfl, Nat.le_of_ble_eq_true rfl⟩ rfl rfl (Nat.le_of_ble_eq_true rfl) dX12_typeOf_147 ⟨Nat.le_of_ble_eq_true rfl, Nat.le_of_ble_eq_true rfl⟩ hl.1 (hP.sub [0] rfl) (fun n_82 hp_83 => ?_)
                    have hp_83 : n_82 = 0 ∨ (1 + n_69 + 1) + n_82 ≤ 20 := hp_83
                    refine W.eq (g2 := F0 m 150 ls [.int (nI n_82)]) rfl ?_
                    refine lv_i2l (v := (nI n_82).toInt64) hx hb dX12_typeOf_150 rfl ?_
                    refine lv_lconst (v := 1) hx hb dX12_typeOf_151 (by decide) ?_
                    refine lv_ldc2 hx hb hown (hts _ mw_554) dX12_typeOf_152 ?_
                    refine cr_S (As := [.long ((nI n_82).toInt64), .long 1, .long 4]) (rest := []) hFX hKK (s_X12_isIn l D κ ((nI n_82).toInt64) 1 4) 3 gS_X12_62 hdS_X12_isIn rfl rfl ⟨Nat.le_of_ble_eq_true rfl, Nat.le_of_ble_eq_true rfl⟩ rfl rfl (Nat.le_of_ble_eq_true rfl) dX12_typeOf_155 ⟨Nat.le_of_ble_eq_true rfl, Nat.le_of_ble_eq_true rfl⟩ hl.1 (hP.sub [] rfl) (fun r_84 hp_85 => ?_)
                    have hp_85 : (r_84 = 1 ∧ ¬ lg_cmp ((nI n_82).toInt64) (1 : Int64) < 0 ∧ ¬ 0 < lg_cmp ((nI n_82).toInt64) (4 : Int64)) ∨ (r_84 = 0 ∧ (lg_cmp ((nI n_82).toInt64) (1 : Int64) < 0 ∨ 0 < lg_cmp ((nI n_82).toInt64) (4 : Int64))) := hp_85
                    rcases hp_85 with ⟨rfl, a_86, a_87⟩ | ⟨rfl, a_88⟩
                    · refine W.eq (g2 := F0 m 158 ls [.int 1]) rfl ?_
                      refine lv_if_eq (tgt := 183) hx hb dX12_typeOf_158 (by decide) (fun c_89 => absurd c_89 (by decide)) (fun c_89 => ?_)
                      refine lv_iload hx hb dX12_typeOf_161 (lv_at hl 0 rfl) ?_
                      refine lv_iconst (v := 1) hx hb dX12_typeOf_163 (by decide) ?_
                      refine lv_iadd hx hb dX12_typeOf_164 ?_
                      refine ki (v := (nI (1 + n_69 + 1))) (nI_add (1 + n_69) 1) ?_
                      refine lv_aload_n hx hb dX12_typeOf_165 rfl (lv_at hl 4 rfl) ?_
                      refine lv_iload_n hx hb dX12_typeOf_166 rfl (lv_at hl 5 rfl) ?_
                      refine lv_iload hx hb dX12_typeOf_167 (lv_at hl 0 rfl) ?_
                      refine lv_iconst (v := 1) hx hb dX12_typeOf_169 (by decide) ?_
                      refine lv_iadd hx hb dX12_typeOf_170 ?_
                      refine ki (v := (nI (1 + n_69 + 1))) (nI_add (1 + n_69) 1) ?_
                      refine cr_S (As := [.ref q, .int (nI a), .int (nI (1 + n_69 + 1))]) (rest := [.int (nI (1 + n_69 + 1))]) hFX hKK (s_X12_digitsFrom l D κ q N f a (1 + n_69 + 1) (by first | assumption | omega) (by omega) (by assumption) (by omega)) 3 gS_X12_111 hdS_X12_digitsFrom rfl rfl ⟨Nat.le_of_ble_eq_true rfl, Nat.le_of_ble_eq_true rfl⟩ rfl rfl (Nat.le_of_ble_eq_true rfl) dX12_typeOf_171 ⟨Nat.le_of_ble_eq_true rfl, Nat.le_of_ble_eq_true rfl⟩ hl.1 (hP.sub [0] rfl) (fun n_90 hp_91 => ?_)
                      have hp_91 : n_90 = 0 ∨ (1 + n_69 + 1) + n_90 ≤ 20 := hp_91
                      refine W.eq (g2 := F0 m 174 ls [.int (nI n_90), .int (nI (1 + n_69 + 1))]) rfl ?_
                      refine lv_iadd hx hb dX12_typeOf_174 ?_
                      refine ki (v := (nI (1 + n_69 + 1 + n_90))) (nI_add (1 + n_69 + 1) n_90) ?_
                      refine lv_iload_n hx hb dX12_typeOf_175 rfl (lv_at hl 3 rfl) ?_
                      refine lv_icmp_ne (tgt := 183) hx hb dX12_typeOf_176 (by decide) (fun c_92 => ?_) (fun c_92 => ?_)
                      · have nc_92 := cv_ne (a := (1 + n_69 + 1 + n_90)) (b := n_1) (by omega) (by omega) c_92
                        refine lv_iconst (v := 0) hx hb dX12_typeOf_183 (by decide) ?_
                        refine lv_istore (lv' := [(6, .int 0), (5, .int (nI (1 + n_69))), (4, .int (nI n_69)), (3, .int 1), (2, .int (nI n_1)), (0, .ref q), (1, .int (nI a))]) hx hb dX12_typeOf_184 hl (by decide) rfl (fun ls hl => ?_)
                        refine lv_iload hx hb dX12_typeOf_186 (lv_at hl 0 rfl) ?_
                        refine lv_if_eq (tgt := 195) hx hb dX12_typeOf_188 (by decide) (fun c_93 => ?_) (fun c_93 => absurd (by decide) c_93)
                        refine lv_iconst (v := 5) hx hb dX12_typeOf_195 (by decide) ?_
                        exact cr_iret hx hb hr hlk rfl 5 rfl (by omega) dX12_typeOf_196
                      · have nc_92 := cv_eq (a := (1 + n_69 + 1 + n_90)) (b := n_1) (by omega) (by omega) c_92
                        refine lv_iconst (v := 1) hx hb dX12_typeOf_179 (by decide) ?_
                        refine lv_goto (tgt := 184) hx hb dX12_typeOf_180 (by decide) ?_
                        refine lv_istore (lv' := [(6, .int 1), (5, .int (nI (1 + n_69))), (4, .int (nI n_69)), (3, .int 1), (2, .int (nI n_1)), (0, .ref q), (1, .int (nI a))]) hx hb dX12_typeOf_184 hl (by decide) rfl (fun ls hl => ?_)
                        refine lv_iload hx hb dX12_typeOf_186 (lv_at hl 0 rfl) ?_
                        refine lv_if_eq (tgt := 195) hx hb dX12_typeOf_188 (by decide) (fun c_94 => absurd c_94 (by decide)) (fun c_94 => ?_)
                        refine lv_iconst (v := 3) hx hb dX12_typeOf_191 (by decide) ?_
                        refine lv_goto (tgt := 196) hx hb dX12_typeOf_192 (by decide) ?_
                        exact cr_iret hx hb hr hlk rfl 3 rfl (by omega) dX12_typeOf_196
                    · refine W.eq (g2 := F0 m 158 ls [.int 0]) rfl ?_
                      refine lv_if_eq (tgt := 183) hx hb dX12_typeOf_158 (by decide) (fun c_95 => ?_) (fun c_95 => absurd (by decide) c_95)
                      refine lv_iconst (v := 0) hx hb dX12_typeOf_183 (by decide) ?_
                      refine lv_istore (lv' := [(6, .int 0), (5, .int (nI (1 + n_69))), (4, .int (nI n_69)), (3, .int 1), (2, .int (nI n_1)), (0, .ref q), (1, .int (nI a))]) hx hb dX12_typeOf_184 hl (by decide) rfl (fun ls hl => ?_)
                      refine lv_iload hx hb dX12_typeOf_186 (lv_at hl 0 rfl) ?_
                      refine lv_if_eq (tgt := 195) hx hb dX12_typeOf_188 (by decide) (fun c_96 => ?_) (fun c_96 => absurd (by decide) c_96)
                      refine lv_iconst (v := 5) hx hb dX12_typeOf_195 (by decide) ?_
                      exact cr_iret hx hb hr hlk rfl 5 rfl (by omega) dX12_typeOf_196
                · have nc_78 := cv_eq (a := (1 + n_69)) (b := n_1) (by omega) (by omega) c_78
                  refine lv_iload_n hx hb dX12_typeOf_107 rfl (lv_at hl 2 rfl) ?_
                  refine lv_iconst (v := 1) hx hb dX12_typeOf_108 (by decide) ?_
                  refine lv_icmp_ne (tgt := 126) hx hb dX12_typeOf_109 (by decide) (fun c_97 => absurd (by decide) c_97) (fun c_97 => ?_)
                  refine lv_aload_n hx hb dX12_typeOf_112 rfl (lv_at hl 4 rfl) ?_
                  refine lv_iload_n hx hb dX12_typeOf_113 rfl (lv_at hl 5 rfl) ?_
                  refine lv_iconst (v := 2) hx hb dX12_typeOf_114 (by decide) ?_
                  refine lv_iadd hx hb dX12_typeOf_115 ?_
                  refine ki (v := (nI (a + 2))) (nI_add a 2) ?_
                  refine va_iald hx hb hK hP 0 0 rfl rfl (i := nI (a + 2)) (vp_in_nI (n := (a + 2)) (by omega) (by omega)) dX12_typeOf_116 ?_
                  refine kv (v := .int (f (a + 2))) (by rw [nI_clamp (by omega)]) ?_
                  refine lv_topi (fun x_98 ex_98 => ?_)
                  refine lv_bipush (v := 48) hx hb dX12_typeOf_117 (by decide) ?_
                  refine lv_icmp_ne (tgt := 126) hx hb dX12_typeOf_119 (by decide) (fun c_99 => ?_) (fun c_99 => ?_)
                  · refine lv_iconst (v := 2) hx hb dX12_typeOf_126 (by decide) ?_
                    exact cr_iret hx hb hr hlk rfl 2 rfl (by omega) dX12_typeOf_127
                  · refine lv_iconst (v := 5) hx hb dX12_typeOf_122 (by decide) ?_
                    refine lv_goto (tgt := 127) hx hb dX12_typeOf_123 (by decide) ?_
                    exact cr_iret hx hb hr hlk rfl 5 rfl (by omega) dX12_typeOf_127
              · have nc_77 := cv_nle (a := n_69) (b := 1) (by omega) (by omega) c_77
                refine lv_aload_n hx hb dX12_typeOf_81 rfl (lv_at hl 3 rfl) ?_
                refine lv_iload_n hx hb dX12_typeOf_82 rfl (lv_at hl 4 rfl) ?_
                refine lv_iconst (v := 1) hx hb dX12_typeOf_83 (by decide) ?_
                refine lv_iadd hx hb dX12_typeOf_84 ?_
                refine ki (v := (nI (a + 1))) (nI_add a 1) ?_
                refine lv_iload_n hx hb dX12_typeOf_85 rfl (lv_at hl 1 rfl) ?_
                refine lv_iadd hx hb dX12_typeOf_86 ?_
                refine ki (v := (nI (a + 1 + 1))) (nI_add (a + 1) 1) ?_
                refine va_iald hx hb hK hP 0 0 rfl rfl (i := nI (a + 1 + 1)) (vp_in_nI (n := (a + 1 + 1)) (by omega) (by omega)) dX12_typeOf_87 ?_
                refine kv (v := .int (f (a + 1 + 1))) (by rw [nI_clamp (by omega)]) ?_
                refine lv_topi (fun x_100 ex_100 => ?_)
                refine lv_bipush (v := 48) hx hb dX12_typeOf_88 (by decide) ?_
                refine lv_icmp_ne (tgt := 95) hx hb dX12_typeOf_90 (by decide) (fun c_101 => ?_) (fun c_101 => ?_)
                · refine lv_iload_n hx hb dX12_typeOf_95 rfl (lv_at hl 1 rfl) ?_
                  refine lv_iload hx hb dX12_typeOf_96 (lv_at hl 0 rfl) ?_
                  refine lv_iadd hx hb dX12_typeOf_98 ?_
                  refine ki (v := (nI (1 + n_69))) (nI_add 1 n_69) ?_
                  refine lv_istore (lv' := [(5, .int (nI (1 + n_69))), (4, .int (nI n_69)), (3, .int 1), (2, .int (nI n_1)), (0, .ref q), (1, .int (nI a))]) hx hb dX12_typeOf_99 hl (by decide) rfl (fun ls hl => ?_)
                  refine lv_iload hx hb dX12_typeOf_101 (lv_at hl 0 rfl) ?_
                  refine lv_iload_n hx hb dX12_typeOf_103 rfl (lv_at hl 3 rfl) ?_
                  refine lv_icmp_ne (tgt := 128) hx hb dX12_typeOf_104 (by decide) (fun c_102 => ?_) (fun c_102 => ?_)
                  · have nc_102 := cv_ne (a := (1 + n_69)) (b := n_1) (by omega) (by omega) c_102
                    refine lv_aload_n hx hb dX12_typeOf_128 rfl (lv_at hl 4 rfl) ?_
                    refine lv_iload_n hx hb dX12_typeOf_129 rfl (lv_at hl 5 rfl) ?_
                    refine lv_iconst (v := 1) hx hb dX12_typeOf_130 (by decide) ?_
                    refine lv_iadd hx hb dX12_typeOf_131 ?_
                    refine ki (v := (nI (a + 1))) (nI_add a 1) ?_
                    refine lv_iload hx hb dX12_typeOf_132 (lv_at hl 0 rfl) ?_
                    refine lv_iadd hx hb dX12_typeOf_134 ?_
                    refine ki (v := (nI (a + 1 + (1 + n_69)))) (nI_add (a + 1) (1 + n_69)) ?_
                    refine va_iald hx hb hK hP 0 0 rfl rfl (i := nI (a + 1 + (1 + n_69))) (vp_in_nI (n := (a + 1 + (1 + n_69))) (by omega) (by omega)) dX12_typeOf_135 ?_
                    refine kv (v := .int (f (a + 1 + (1 + n_69)))) (by rw [nI_clamp (by omega)]) ?_
                    refine lv_topi (fun x_103 ex_103 => ?_)
                    refine lv_bipush (v := 46) hx hb dX12_typeOf_136 (by decide) ?_
                    refine lv_icmp_ne (tgt := 183) hx hb dX12_typeOf_138 (by decide) (fun c_104 => ?_) (fun c_104 => ?_)
                    · refine lv_iconst (v := 0) hx hb dX12_typeOf_183 (by decide) ?_
                      refine lv_istore (lv' := [(6, .int 0), (5, .int (nI (1 + n_69))), (4, .int (nI n_69)), (3, .int 1), (2, .int (nI n_1)), (0, .ref q), (1, .int (nI a))]) hx hb dX12_typeOf_184 hl (by decide) rfl (fun ls hl => ?_)
                      refine lv_iload hx hb dX12_typeOf_186 (lv_at hl 0 rfl) ?_
                      refine lv_if_eq (tgt := 195) hx hb dX12_typeOf_188 (by decide) (fun c_105 => ?_) (fun c_105 => absurd (by decide) c_105)
                      refine lv_iconst (v := 5) hx hb dX12_typeOf_195 (by decide) ?_
                      exact cr_iret hx hb hr hlk rfl 5 rfl (by omega) dX12_typeOf_196
                    · refine lv_aload_n hx hb dX12_typeOf_141 rfl (lv_at hl 4 rfl) ?_
                      refine lv_iload_n hx hb dX12_typeOf_142 rfl (lv_at hl 5 rfl) ?_
                      refine lv_iload hx hb dX12_typeOf_143 (lv_at hl 0 rfl) ?_
                      refine lv_iconst (v := 1) hx hb dX12_typeOf_145 (by decide) ?_
                      refine lv_iadd hx hb dX12_typeOf_146 ?_
                      refine ki (v := (nI (1 + n_69 + 1))) (nI_add (1 + n_69) 1) ?_
                      refine cr_S (As := [.ref q, .int (nI a), .int (nI (1 + n_69 + 1))]) (rest := []) hFX hKK (s_X12_digitsFrom l D κ q N f a (1 + n_69 + 1) (by first | assumption | omega) (by omega) (by assumption) (by omega)) 3 gS_X12_111 hdS_X12_digitsFrom rfl rfl ⟨Nat.le_of_ble_eq_true rfl, Nat.le_of_ble_eq_true rfl⟩ rfl rfl (Nat.le_of_ble_eq_true rfl) dX12_typeOf_147 ⟨Nat.le_of_ble_eq_true rfl, Nat.le_of_ble_eq_true rfl⟩ hl.1 (hP.sub [0] rfl) (fun n_106 hp_107 => ?_)
                      have hp_107 : n_106 = 0 ∨ (1 + n_69 + 1) + n_106 ≤ 20 := hp_107
                      refine W.eq (g2 := F0 m 150 ls [.int (nI n_106)]) rfl ?_
                      refine lv_i2l (v := (nI n_106).toInt64) hx hb dX12_typeOf_150 rfl ?_
                      refine lv_lconst (v := 1) hx hb dX12_typeOf_151 (by decide) ?_
                      refine lv_ldc2 hx hb hown (hts _ mw_554) dX12_typeOf_152 ?_
                      refine cr_S (As := [.long ((nI n_106).toInt64), .long 1, .long 4]) (rest := []) hFX hKK (s_X12_isIn l D κ ((nI n_106).toInt64) 1 4) 3 gS_X12_62 hdS_X12_isIn rfl rfl ⟨Nat.le_of_ble_eq_true rfl, Nat.le_of_ble_eq_true rfl⟩ rfl rfl (Nat.le_of_ble_eq_true rfl) dX12_typeOf_155 ⟨Nat.le_of_ble_eq_true rfl, Nat.le_of_ble_eq_true rfl⟩ hl.1 (hP.sub [] rfl) (fun r_108 hp_109 => ?_)
                      have hp_109 : (r_108 = 1 ∧ ¬ lg_cmp ((nI n_106).toInt64) (1 : Int64) < 0 ∧ ¬ 0 < lg_cmp ((nI n_106).toInt64) (4 : Int64)) ∨ (r_108 = 0 ∧ (lg_cmp ((nI n_106).toInt64) (1 : Int64) < 0 ∨ 0 < lg_cmp ((nI n_106).toInt64) (4 : Int64))) := hp_109
                      rcases hp_109 with ⟨rfl, a_110, a_111⟩ | ⟨rfl, a_112⟩
                      · refine W.eq (g2 := F0 m 158 ls [.int 1]) rfl ?_
                        refine lv_if_eq (tgt := 183) hx hb dX12_typeOf_158 (by decide) (fun c_113 => absurd c_113 (by decide)) (fun c_113 => ?_)
                        refine lv_iload hx hb dX12_typeOf_161 (lv_at hl 0 rfl) ?_
                        refine lv_iconst (v := 1) hx hb dX12_typeOf_163 (by decide) ?_
                        refine lv_iadd hx hb dX12_typeOf_164 ?_
                        refine ki (v := (nI (1 + n_69 + 1))) (nI_add (1 + n_69) 1) ?_
                        refine lv_aload_n hx hb dX12_typeOf_165 rfl (lv_at hl 4 rfl) ?_
                        refine lv_iload_n hx hb dX12_typeOf_166 rfl (lv_at hl 5 rfl) ?_
                        refine lv_iload hx hb dX12_typeOf_167 (lv_at hl 0 rfl) ?_
                        refine lv_iconst (v := 1) hx hb dX12_typeOf_169 (by decide) ?_
                        refine lv_iadd hx hb dX12_typeOf_170 ?_
                        refine ki (v := (nI (1 + n_69 + 1))) (nI_add (1 + n_69) 1) ?_
                        refine cr_S (As := [.ref q, .int (nI a), .int (nI (1 + n_69 + 1))]) (rest := [.int (nI (1 + n_69 + 1))]) hFX hKK (s_X12_digitsFrom l D κ q N f a (1 + n_69 + 1) (by first | assumption | omega) (by omega) (by assumption) (by omega)) 3 gS_X12_111 hdS_X12_digitsFrom rfl rfl ⟨Nat.le_of_ble_eq_true rfl, Nat.le_of_ble_eq_true rfl⟩ rfl rfl (Nat.le_of_ble_eq_true rfl) dX12_typeOf_171 ⟨Nat.le_of_ble_eq_true rfl, Nat.le_of_ble_eq_true rfl⟩ hl.1 (hP.sub [0] rfl) (fun n_114 hp_115 => ?_)
                        have hp_115 : n_114 = 0 ∨ (1 + n_69 + 1) + n_114 ≤ 20 := hp_115
                        refine W.eq (g2 := F0 m 174 ls [.int (nI n_114), .int (nI (1 + n_69 + 1))]) rfl ?_
                        refine lv_iadd hx hb dX12_typeOf_174 ?_
                        refine ki (v := (nI (1 + n_69 + 1 + n_114))) (nI_add (1 + n_69 + 1) n_114) ?_
                        refine lv_iload_n hx hb dX12_typeOf_175 rfl (lv_at hl 3 rfl) ?_
                        refine lv_icmp_ne (tgt := 183) hx hb dX12_typeOf_176 (by decide) (fun c_116 => ?_) (fun c_116 => ?_)
                        · have nc_116 := cv_ne (a := (1 + n_69 + 1 + n_114)) (b := n_1) (by omega) (by omega) c_116
                          refine lv_iconst (v := 0) hx hb dX12_typeOf_183 (by decide) ?_
                          refine lv_istore (lv' := [(6, .int 0), (5, .int (nI (1 + n_69))), (4, .int (nI n_69)), (3, .int 1), (2, .int (nI n_1)), (0, .ref q), (1, .int (nI a))]) hx hb dX12_typeOf_184 hl (by decide) rfl (fun ls hl => ?_)
                          refine lv_iload hx hb dX12_typeOf_186 (lv_at hl 0 rfl) ?_
                          refine lv_if_eq (tgt := 195) hx hb dX12_typeOf_188 (by decide) (fun c_117 => ?_) (fun c_117 => absurd (by decide) c_117)
                          refine lv_iconst (v := 5) hx hb dX12_typeOf_195 (by decide) ?_
                          exact cr_iret hx hb hr hlk rfl 5 rfl (by omega) dX12_typeOf_196
                        · have nc_116 := cv_eq (a := (1 + n_69 + 1 + n_114)) (b := n_1) (by omega) (by omega) c_116
                          refine lv_iconst (v := 1) hx hb dX12_typeOf_179 (by decide) ?_
                          refine lv_goto (tgt := 184) hx hb dX12_typeOf_180 (by decide) ?_
                          refine lv_istore (lv' := [(6, .int 1), (5, .int (nI (1 + n_69))), (4, .int (nI n_69)), (3, .int 1), (2, .int (nI n_1)), (0, .ref q), (1, .int (nI a))]) hx hb dX12_typeOf_184 hl (by decide) rfl (fun ls hl => ?_)
                          refine lv_iload hx hb dX12_typeOf_186 (lv_at hl 0 rfl) ?_
                          refine lv_if_eq (tgt := 195) hx hb dX12_typeOf_188 (by decide) (fun c_118 => absurd c_118 (by decide)) (fun c_118 => ?_)
                          refine lv_iconst (v := 3) hx hb dX12_typeOf_191 (by decide) ?_
                          refine lv_goto (tgt := 196) hx hb dX12_typeOf_192 (by decide) ?_
                          exact cr_iret hx hb hr hlk rfl 3 rfl (by omega) dX12_typeOf_196
                      · refine W.eq (g2 := F0 m 158 ls [.int 0]) rfl ?_
                        refine lv_if_eq (tgt := 183) hx hb dX12_typeOf_158 (by decide) (fun c_119 => ?_) (fun c_119 => absurd (by decide) c_119)
                        refine lv_iconst (v := 0) hx hb dX12_typeOf_183 (by decide) ?_
                        refine lv_istore (lv' := [(6, .int 0), (5, .int (nI (1 + n_69))), (4, .int (nI n_69)), (3, .int 1), (2, .int (nI n_1)), (0, .ref q), (1, .int (nI a))]) hx hb dX12_typeOf_184 hl (by decide) rfl (fun ls hl => ?_)
                        refine lv_iload hx hb dX12_typeOf_186 (lv_at hl 0 rfl) ?_
                        refine lv_if_eq (tgt := 195) hx hb dX12_typeOf_188 (by decide) (fun c_120 => ?_) (fun c_120 => absurd (by decide) c_120)
                        refine lv_iconst (v := 5) hx hb dX12_typeOf_195 (by decide) ?_
                        exact cr_iret hx hb hr hlk rfl 5 rfl (by omega) dX12_typeOf_196
                  · have nc_102 := cv_eq (a := (1 + n_69)) (b := n_1) (by omega) (by omega) c_102
                    refine lv_iload_n hx hb dX12_typeOf_107 rfl (lv_at hl 2 rfl) ?_
                    refine lv_iconst (v := 1) hx hb dX12_typeOf_108 (by decide) ?_
                    refine lv_icmp_ne (tgt := 126) hx hb dX12_typeOf_109 (by decide) (fun c_121 => absurd (by decide) c_121) (fun c_121 => ?_)
                    refine lv_aload_n hx hb dX12_typeOf_112 rfl (lv_at hl 4 rfl) ?_
                    refine lv_iload_n hx hb dX12_typeOf_113 rfl (lv_at hl 5 rfl) ?_
                    refine lv_iconst (v := 2) hx hb dX12_typeOf_114 (by decide) ?_
                    refine lv_iadd hx hb dX12_typeOf_115 ?_
                    refine ki (v := (nI (a + 2))) (nI_add a 2) ?_
                    refine va_iald hx hb hK hP 0 0 rfl rfl (i := nI (a + 2)) (vp_in_nI (n := (a + 2)) (by omega) (by omega)) dX12_typeOf_116 ?_
                    refine kv (v := .int (f (a + 2))) (by rw [nI_clamp (by omega)]) ?_
                    refine lv_topi (fun x_122 ex_122 => ?_)
                    refine lv_bipush (v := 48) hx hb dX12_typeOf_117 (by decide) ?_
                    refine lv_icmp_ne (tgt := 126) hx hb dX12_typeOf_119 (by decide) (fun c_123 => ?_) (fun c_123 => ?_)
                    · refine lv_iconst (v := 2) hx hb dX12_typeOf_126 (by decide) ?_
                      exact cr_iret hx hb hr hlk rfl 2 rfl (by omega) dX12_typeOf_127
                    · refine lv_iconst (v := 5) hx hb dX12_typeOf_122 (by decide) ?_
                      refine lv_goto (tgt := 127) hx hb dX12_typeOf_123 (by decide) ?_
                      exact cr_iret hx hb hr hlk rfl 5 rfl (by omega) dX12_typeOf_127
                · refine lv_iconst (v := 5) hx hb dX12_typeOf_93 (by decide) ?_
                  exact cr_iret hx hb hr hlk rfl 5 rfl (by omega) dX12_typeOf_94
            · refine W.eq (g2 := F0 m 72 ls [.int 0]) rfl ?_
              refine lv_if_eq (tgt := 93) hx hb dX12_typeOf_72 (by decide) (fun c_124 => ?_) (fun c_124 => absurd (by decide) c_124)
              refine lv_iconst (v := 5) hx hb dX12_typeOf_93 (by decide) ?_
              exact cr_iret hx hb hr hlk rfl 5 rfl (by omega) dX12_typeOf_94
  · have nc_2 := cv_eq (a := n_1) (b := 0) (by omega) (by omega) c_2
    refine lv_iconst (v := 0) hx hb dX12_typeOf_8 (by decide) ?_
    exact cr_iret hx hb hr hlk rfl 0 rfl (by omega) dX12_typeOf_9
set_option maxHeartbeats 4000000 in
set_option maxRecDepth 100000 in
theorem s_X12_join (l : Launch) (D : va_G) (κ : Nat → ClassId) (a : Nat) (b : Nat) (ha : a ≤ 5) (hb : b ≤ 5) : Cr l yX12_join (wl yX12_join cX12_join 2 (some .int)) { frames := 1, cells := 0, slots := 0, locals := 25 } D κ [.int (nI a), .int (nI b)] (va_P D vwCl []) (fun n : Nat => some (.int (nI n))) (fun n : Nat => n ≤ 5) := by
  refine cr_of (by decide +kernel) (Nat.le_of_ble_eq_true rfl) ?_
  intro p e s m args below meth c ls hx hb hr hml hts hown hlk hKK hK hI hl
  have hP : va_P D vwCl [] s.heap := hI
  have hFX : FX p s m args c cX12_join 2 RX12 := ⟨hx, hb, hml, hown, hts⟩
  have hl : lv_has ls 2 [(0, .int (nI a)), (1, .int (nI b))] := hl
  refine lv_iload_n hx hb dX12_join_0 rfl (lv_at hl 0 rfl) ?_
  refine lv_iload_n hx hb dX12_join_1 rfl (lv_at hl 1 rfl) ?_
  refine lv_icmp_eq (tgt := 9) hx hb dX12_join_2 (by decide) (fun c_1 => ?_) (fun c_1 => ?_)
  · have nc_1 := cv_eq (a := a) (b := b) (by omega) (by omega) c_1
    refine lv_iload_n hx hb dX12_join_9 rfl (lv_at hl 0 rfl) ?_
    exact cr_iret hx hb hr hlk rfl a rfl (by omega) dX12_join_10
  · have nc_1 := cv_ne (a := a) (b := b) (by omega) (by omega) c_1
    refine lv_iload_n hx hb dX12_join_5 rfl (lv_at hl 1 rfl) ?_
    refine lv_if_ne (tgt := 11) hx hb dX12_join_6 (by decide) (fun c_2 => ?_) (fun c_2 => ?_)
    · have nc_2 := cv_ne (a := b) (b := 0) (by omega) (by omega) c_2
      refine lv_iload_n hx hb dX12_join_11 rfl (lv_at hl 0 rfl) ?_
      refine lv_if_ne (tgt := 17) hx hb dX12_join_12 (by decide) (fun c_3 => ?_) (fun c_3 => ?_)
      · have nc_3 := cv_ne (a := a) (b := 0) (by omega) (by omega) c_3
        refine lv_iload_n hx hb dX12_join_17 rfl (lv_at hl 0 rfl) ?_
        refine lv_i2l (v := (nI a).toInt64) hx hb dX12_join_18 rfl ?_
        refine lv_ldc2 hx hb hown (hts _ mw_413) dX12_join_19 ?_
        refine lv_ldc2 hx hb hown (hts _ mw_215) dX12_join_22 ?_
        refine cr_S (As := [.long ((nI a).toInt64), .long 2, .long 3]) (rest := []) hFX hKK (s_X12_isIn l D κ ((nI a).toInt64) 2 3) 3 gS_X12_62 hdS_X12_isIn rfl rfl ⟨Nat.le_of_ble_eq_true rfl, Nat.le_of_ble_eq_true rfl⟩ rfl rfl (Nat.le_of_ble_eq_true rfl) dX12_join_25 ⟨Nat.le_of_ble_eq_true rfl, Nat.le_of_ble_eq_true rfl⟩ hl.1 (hP.sub [] rfl) (fun r_4 hp_5 => ?_)
        have hp_5 : (r_4 = 1 ∧ ¬ lg_cmp ((nI a).toInt64) (2 : Int64) < 0 ∧ ¬ 0 < lg_cmp ((nI a).toInt64) (3 : Int64)) ∨ (r_4 = 0 ∧ (lg_cmp ((nI a).toInt64) (2 : Int64) < 0 ∨ 0 < lg_cmp ((nI a).toInt64) (3 : Int64))) := hp_5
        rcases hp_5 with ⟨rfl, a_6, a_7⟩ | ⟨rfl, a_8⟩
        · refine W.eq (g2 := F0 m 28 ls [.int 1]) rfl ?_
          refine lv_if_eq (tgt := 49) hx hb dX12_join_28 (by decide) (fun c_9 => absurd c_9 (by decide)) (fun c_9 => ?_)
          refine lv_iload_n hx hb dX12_join_31 rfl (lv_at hl 1 rfl) ?_
          refine lv_i2l (v := (nI b).toInt64) hx hb dX12_join_32 rfl ?_
          refine lv_ldc2 hx hb hown (hts _ mw_413) dX12_join_33 ?_
          refine lv_ldc2 hx hb hown (hts _ mw_215) dX12_join_36 ?_
          refine cr_S (As := [.long ((nI b).toInt64), .long 2, .long 3]) (rest := []) hFX hKK (s_X12_isIn l D κ ((nI b).toInt64) 2 3) 3 gS_X12_62 hdS_X12_isIn rfl rfl ⟨Nat.le_of_ble_eq_true rfl, Nat.le_of_ble_eq_true rfl⟩ rfl rfl (Nat.le_of_ble_eq_true rfl) dX12_join_39 ⟨Nat.le_of_ble_eq_true rfl, Nat.le_of_ble_eq_true rfl⟩ hl.1 (hP.sub [] rfl) (fun r_10 hp_11 => ?_)
          have hp_11 : (r_10 = 1 ∧ ¬ lg_cmp ((nI b).toInt64) (2 : Int64) < 0 ∧ ¬ 0 < lg_cmp ((nI b).toInt64) (3 : Int64)) ∨ (r_10 = 0 ∧ (lg_cmp ((nI b).toInt64) (2 : Int64) < 0 ∨ 0 < lg_cmp ((nI b).toInt64) (3 : Int64))) := hp_11
          rcases hp_11 with ⟨rfl, a_12, a_13⟩ | ⟨rfl, a_14⟩
          · refine W.eq (g2 := F0 m 42 ls [.int 1]) rfl ?_
            refine lv_if_eq (tgt := 49) hx hb dX12_join_42 (by decide) (fun c_15 => absurd c_15 (by decide)) (fun c_15 => ?_)
            refine lv_iconst (v := 3) hx hb dX12_join_45 (by decide) ?_
            refine lv_goto (tgt := 50) hx hb dX12_join_46 (by decide) ?_
            exact cr_iret hx hb hr hlk rfl 3 rfl (by omega) dX12_join_50
          · refine W.eq (g2 := F0 m 42 ls [.int 0]) rfl ?_
            refine lv_if_eq (tgt := 49) hx hb dX12_join_42 (by decide) (fun c_16 => ?_) (fun c_16 => absurd (by decide) c_16)
            refine lv_iconst (v := 5) hx hb dX12_join_49 (by decide) ?_
            exact cr_iret hx hb hr hlk rfl 5 rfl (by omega) dX12_join_50
        · refine W.eq (g2 := F0 m 28 ls [.int 0]) rfl ?_
          refine lv_if_eq (tgt := 49) hx hb dX12_join_28 (by decide) (fun c_17 => ?_) (fun c_17 => absurd (by decide) c_17)
          refine lv_iconst (v := 5) hx hb dX12_join_49 (by decide) ?_
          exact cr_iret hx hb hr hlk rfl 5 rfl (by omega) dX12_join_50
      · have nc_3 := cv_eq (a := a) (b := 0) (by omega) (by omega) c_3
        refine lv_iload_n hx hb dX12_join_15 rfl (lv_at hl 1 rfl) ?_
        exact cr_iret hx hb hr hlk rfl b rfl (by omega) dX12_join_16
    · have nc_2 := cv_eq (a := b) (b := 0) (by omega) (by omega) c_2
      refine lv_iload_n hx hb dX12_join_9 rfl (lv_at hl 0 rfl) ?_
      exact cr_iret hx hb hr hlk rfl a rfl (by omega) dX12_join_10
set_option maxHeartbeats 4000000 in
set_option maxRecDepth 100000 in
theorem s_X12_doesHold (l : Launch) (D : va_G) (κ : Nat → ClassId) (a : Nat) (b : Nat) (ha : a ≤ 5) (hb : b ≤ 5) : Cr l yX12_doesHold (wl yX12_doesHold cX12_doesHold 2 (some .boolean)) { frames := 2, cells := 0, slots := 0, locals := 46 } D κ [.int (nI a), .int (nI b)] (va_P D vwCl []) (fun r : Int32 => some (.int r)) (fun r : Int32 => (r = 1) ∨ (r = 0)) := by
  refine cr_of (by decide +kernel) (Nat.le_of_ble_eq_true rfl) ?_
  intro p e s m args below meth c ls hx hb hr hml hts hown hlk hKK hK hI hl
  have hP : va_P D vwCl [] s.heap := hI
  have hFX : FX p s m args c cX12_doesHold 2 RX12 := ⟨hx, hb, hml, hown, hts⟩
  have hl : lv_has ls 2 [(0, .int (nI a)), (1, .int (nI b))] := hl
  refine lv_iload_n hx hb dX12_doesHold_0 rfl (lv_at hl 0 rfl) ?_
  refine lv_iload_n hx hb dX12_doesHold_1 rfl (lv_at hl 1 rfl) ?_
  refine cr_S (As := [.int (nI a), .int (nI b)]) (rest := []) hFX hKK (s_X12_join l D κ a b (by omega) (by omega)) 2 gS_X12_137 hdS_X12_join rfl rfl ⟨Nat.le_of_ble_eq_true rfl, Nat.le_of_ble_eq_true rfl⟩ rfl rfl (Nat.le_of_ble_eq_true rfl) dX12_doesHold_2 ⟨Nat.le_of_ble_eq_true rfl, Nat.le_of_ble_eq_true rfl⟩ hl.1 (hP.sub [] rfl) (fun n_1 hp_2 => ?_)
  have hp_2 : n_1 ≤ 5 := hp_2
  refine W.eq (g2 := F0 m 5 ls [.int (nI n_1)]) rfl ?_
  refine lv_iload_n hx hb dX12_doesHold_5 rfl (lv_at hl 0 rfl) ?_
  refine lv_icmp_ne (tgt := 13) hx hb dX12_doesHold_6 (by decide) (fun c_3 => ?_) (fun c_3 => ?_)
  · have nc_3 := cv_ne (a := n_1) (b := a) (by omega) (by omega) c_3
    refine lv_iconst (v := 0) hx hb dX12_doesHold_13 (by decide) ?_
    exact cr_iret hx hb hr hlk rfl 0 rfl (by first | exact Or.inr ((rfl))) dX12_doesHold_14
  · have nc_3 := cv_eq (a := n_1) (b := a) (by omega) (by omega) c_3
    refine lv_iconst (v := 1) hx hb dX12_doesHold_9 (by decide) ?_
    refine lv_goto (tgt := 14) hx hb dX12_doesHold_10 (by decide) ?_
    exact cr_iret hx hb hr hlk rfl 1 rfl (by first | exact Or.inl (rfl)) dX12_doesHold_14
set_option maxHeartbeats 4000000 in
set_option maxRecDepth 100000 in
theorem s_X12_whole (l : Launch) (D : va_G) (κ : Nat → ClassId) (q : Nat) (N : Nat) (f : Nat → Int32) (a : Nat) (b : Nat) (co : Nat) (hN : N < 2147483648) (ha : a + 1 + b + co ≤ N) : Cr l yX12_whole (wl yX12_whole cX12_whole 7 (some .long)) { frames := 0, cells := 0, slots := 0, locals := 0 } D κ [.ref q, .int (nI a), .int (nI b), .int (nI co)] (va_P D vwCl [(q, .inl (κ 0, N, .inl f))]) (fun r : Int64 => some (.long r)) (fun r : Int64 => True) := by
  refine cr_of (by decide +kernel) (Nat.le_of_ble_eq_true rfl) ?_
  intro p e s m args below meth c ls hx hb hr hml hts hown hlk hKK hK hI hl
  have hP : va_P D vwCl [(q, .inl (κ 0, N, .inl f))] s.heap := hI
  have hFX : FX p s m args c cX12_whole 7 RX12 := ⟨hx, hb, hml, hown, hts⟩
  have hl : lv_has ls 7 [(0, .ref q), (1, .int (nI a)), (2, .int (nI b)), (3, .int (nI co))] := hl
  refine lv_lconst (v := 0) hx hb dX12_whole_0 (by decide) ?_
  refine lv_lstore (lv' := [(4, .long 0), (0, .ref q), (1, .int (nI a)), (2, .int (nI b)), (3, .int (nI co))]) hx hb dX12_whole_1 hl (by decide) rfl (fun ls hl => ?_)
  refine lv_iconst (v := 0) hx hb dX12_whole_3 (by decide) ?_
  refine lv_istore (lv' := [(6, .int 0), (4, .long 0), (0, .ref q), (1, .int (nI a)), (2, .int (nI b)), (3, .int (nI co))]) hx hb dX12_whole_4 hl (by decide) rfl (fun ls hl => ?_)
  refine loop_r (fun k9 ls => ∃ (k : Nat), ∃ (v : Int64), (k ≤ co) ∧ co - k = k9 ∧ lv_has ls 7 [(6, .int (nI k)), (4, .long v), (0, .ref q), (1, .int (nI a)), (2, .int (nI b)), (3, .int (nI co))]) (fun k9 ls hI6 ih6 => ?_) (co - 0) _ ⟨0, 0, (by omega), rfl, lv_sub hl [0, 1, 2, 3, 4, 5] rfl⟩
  obtain ⟨k, v, hn0, hm6, hl⟩ := hI6
  refine lv_iload hx hb dX12_whole_6 (lv_at hl 0 rfl) ?_
  refine lv_iload_n hx hb dX12_whole_8 rfl (lv_at hl 5 rfl) ?_
  refine lv_icmp_ge (tgt := 42) hx hb dX12_whole_9 (by decide) (fun c_1 => ?_) (fun c_1 => ?_)
  · have nc_1 := cv_le (a := co) (b := k) (by omega) (by omega) c_1
    refine lv_lload hx hb dX12_whole_42 (lv_at hl 1 rfl) ?_
    exact cr_lret hx hb hr hlk v rfl trivial dX12_whole_44
  · have nc_1 := cv_nle (a := co) (b := k) (by omega) (by omega) c_1
    refine lv_ldc2 hx hb hown (hts _ mw_954) dX12_whole_12 ?_
    refine lv_lload hx hb dX12_whole_15 (lv_at hl 1 rfl) ?_
    refine lv_lmul hx hb dX12_whole_17 ?_
    refine lv_topl (fun x_2 ex_2 => ?_)
    refine lv_aload_n hx hb dX12_whole_18 rfl (lv_at hl 2 rfl) ?_
    refine lv_iload_n hx hb dX12_whole_19 rfl (lv_at hl 3 rfl) ?_
    refine lv_iconst (v := 1) hx hb dX12_whole_20 (by decide) ?_
    refine lv_iadd hx hb dX12_whole_21 ?_
    refine ki (v := (nI (a + 1))) (nI_add a 1) ?_
    refine lv_iload_n hx hb dX12_whole_22 rfl (lv_at hl 4 rfl) ?_
    refine lv_iadd hx hb dX12_whole_23 ?_
    refine ki (v := (nI (a + 1 + b))) (nI_add (a + 1) b) ?_
    refine lv_iload hx hb dX12_whole_24 (lv_at hl 0 rfl) ?_
    refine lv_iadd hx hb dX12_whole_26 ?_
    refine ki (v := (nI (a + 1 + b + k))) (nI_add (a + 1 + b) k) ?_
    refine va_iald hx hb hK hP 0 0 rfl rfl (i := nI (a + 1 + b + k)) (vp_in_nI (n := (a + 1 + b + k)) (by omega) (by omega)) dX12_whole_27 ?_
    refine kv (v := .int (f (a + 1 + b + k))) (by rw [nI_clamp (by omega)]) ?_
    refine lv_topi (fun x_3 ex_3 => ?_)
    refine lv_i2l (v := x_3.toInt64) hx hb dX12_whole_28 rfl ?_
    refine lv_ladd hx hb dX12_whole_29 ?_
    refine lv_topl (fun x_4 ex_4 => ?_)
    refine lv_ldc2 hx hb hown (hts _ mw_494) dX12_whole_30 ?_
    refine lv_lsub hx hb dX12_whole_33 ?_
    refine lv_topl (fun x_5 ex_5 => ?_)
    refine lv_lstore (lv' := [(4, .long x_5), (6, .int (nI k)), (0, .ref q), (1, .int (nI a)), (2, .int (nI b)), (3, .int (nI co))]) hx hb dX12_whole_34 hl (by decide) rfl (fun ls hl => ?_)
    refine lv_iinc (v := (nI (k + 1))) (lv' := [(6, .int (nI (k + 1))), (4, .long x_5), (0, .ref q), (1, .int (nI a)), (2, .int (nI b)), (3, .int (nI co))]) hx hb dX12_whole_36 hl (k := 1) rfl (nI_i k) (by decide) rfl (fun ls hl => ?_)
    refine lv_goto (tgt := 6) hx hb dX12_whole_39 (by decide) ?_
    exact ih6 _ _ (by omega) ⟨(k + 1), x_5, (by omega), rfl, lv_sub hl [0, 1, 2, 3, 4, 5] rfl⟩
set_option maxHeartbeats 4000000 in
set_option maxRecDepth 100000 in
theorem s_X12_daysFrom (l : Launch) (D : va_G) (κ : Nat → ClassId) (za : Int32) (zb : Int32) (zc : Int32) : Cr l yX12_daysFrom (wl yX12_daysFrom cX12_daysFrom 6 (some .long)) { frames := 2, cells := 0, slots := 0, locals := 41 } D κ [.int za, .int zb, .int zc] (va_P D vwCl []) (fun r : Int64 => some (.long r)) (fun r : Int64 => True) := by
  refine cr_of (by decide +kernel) (Nat.le_of_ble_eq_true rfl) ?_
  intro p e s m args below meth c ls hx hb hr hml hts hown hlk hKK hK hI hl
  have hP : va_P D vwCl [] s.heap := hI
  have hFX : FX p s m args c cX12_daysFrom 6 RX12 := ⟨hx, hb, hml, hown, hts⟩
  have hl : lv_has ls 6 [(0, .int za), (1, .int zb), (2, .int zc)] := hl
  refine lv_lconst (v := 0) hx hb dX12_daysFrom_0 (by decide) ?_
  refine lv_lstore_n (lv' := [(3, .long 0), (0, .int za), (1, .int zb), (2, .int zc)]) hx hb dX12_daysFrom_1 rfl hl (by decide) rfl (fun ls hl => ?_)
  refine lv_sipush (v := 1600) hx hb dX12_daysFrom_2 (by decide) ?_
  refine lv_istore (lv' := [(5, .int 1600), (3, .long 0), (0, .int za), (1, .int zb), (2, .int zc)]) hx hb dX12_daysFrom_5 hl (by decide) rfl (fun ls hl => ?_)
  refine loop_r (fun k9 ls => ∃ (k : Nat), ∃ (v : Int64), (k < 2147483648) ∧ 2147483648 - k = k9 ∧ lv_has ls 6 [(5, .int (nI k)), (3, .long v), (0, .int za), (1, .int zb), (2, .int zc)]) (fun k9 ls hI7 ih7 => ?_) (2147483648 - 1600) _ ⟨1600, 0, (by omega), rfl, lv_sub hl [0, 1, 2, 3, 4] rfl⟩
  obtain ⟨k, v, hn0, hm7, hl⟩ := hI7
  refine lv_iload hx hb dX12_daysFrom_7 (lv_at hl 0 rfl) ?_
  refine lv_iload_n hx hb dX12_daysFrom_9 rfl (lv_at hl 2 rfl) ?_
  refine lv_icmp_ge (tgt := 39) hx hb dX12_daysFrom_10 (by decide) (fun c_1 => ?_) (fun c_1 => ?_)
  · refine lv_iconst (v := 1) hx hb dX12_daysFrom_39 (by decide) ?_
    refine lv_istore (lv' := [(5, .int 1), (3, .long v), (0, .int za), (1, .int zb), (2, .int zc)]) hx hb dX12_daysFrom_40 hl (by decide) rfl (fun ls hl => ?_)
    refine loop_r (fun k9 ls => ∃ (k : Nat), ∃ (v : Int64), (k < 2147483648) ∧ 2147483648 - k = k9 ∧ lv_has ls 6 [(5, .int (nI k)), (3, .long v), (0, .int za), (1, .int zb), (2, .int zc)]) (fun k9 ls hI42 ih42 => ?_) (2147483648 - 1) _ ⟨1, v, (by omega), rfl, lv_sub hl [0, 1, 2, 3, 4] rfl⟩
    obtain ⟨k, v, hn1, hm42, hl⟩ := hI42
    refine lv_iload hx hb dX12_daysFrom_42 (lv_at hl 0 rfl) ?_
    refine lv_iload_n hx hb dX12_daysFrom_44 rfl (lv_at hl 3 rfl) ?_
    refine lv_icmp_ge (tgt := 64) hx hb dX12_daysFrom_45 (by decide) (fun c_2 => ?_) (fun c_2 => ?_)
    · refine lv_lload_n hx hb dX12_daysFrom_64 rfl (lv_at hl 1 rfl) ?_
      refine lv_iload_n hx hb dX12_daysFrom_65 rfl (lv_at hl 4 rfl) ?_
      refine lv_i2l (v := zc.toInt64) hx hb dX12_daysFrom_66 rfl ?_
      refine lv_ladd hx hb dX12_daysFrom_67 ?_
      refine lv_topl (fun x_3 ex_3 => ?_)
      refine lv_lconst (v := 1) hx hb dX12_daysFrom_68 (by decide) ?_
      refine lv_lsub hx hb dX12_daysFrom_69 ?_
      refine lv_topl (fun x_4 ex_4 => ?_)
      refine lv_ldc2 hx hb hown (hts _ mw_960) dX12_daysFrom_70 ?_
      refine lv_lsub hx hb dX12_daysFrom_73 ?_
      refine lv_topl (fun x_5 ex_5 => ?_)
      exact cr_lret hx hb hr hlk x_5 rfl trivial dX12_daysFrom_74
    · refine lv_lload_n hx hb dX12_daysFrom_48 rfl (lv_at hl 1 rfl) ?_
      refine lv_iload_n hx hb dX12_daysFrom_49 rfl (lv_at hl 2 rfl) ?_
      refine lv_iload hx hb dX12_daysFrom_50 (lv_at hl 0 rfl) ?_
      refine cr_S (As := [.int za, .int (nI k)]) (rest := [.long v]) hFX hKK (s_X12_daysOf l D κ za (nI k)) 2 gS_X12_120 hdS_X12_daysOf rfl rfl ⟨Nat.le_of_ble_eq_true rfl, Nat.le_of_ble_eq_true rfl⟩ rfl rfl (Nat.le_of_ble_eq_true rfl) dX12_daysFrom_52 ⟨Nat.le_of_ble_eq_true rfl, Nat.le_of_ble_eq_true rfl⟩ hl.1 (hP.sub [] rfl) (fun r_6 hp_7 => ?_)
      refine W.eq (g2 := F0 m 55 ls [.int r_6, .long v]) rfl ?_
      refine lv_i2l (v := r_6.toInt64) hx hb dX12_daysFrom_55 rfl ?_
      refine lv_ladd hx hb dX12_daysFrom_56 ?_
      refine lv_topl (fun x_8 ex_8 => ?_)
      refine lv_lstore_n (lv' := [(3, .long x_8), (5, .int (nI k)), (0, .int za), (1, .int zb), (2, .int zc)]) hx hb dX12_daysFrom_57 rfl hl (by decide) rfl (fun ls hl => ?_)
      refine lv_iinc (v := (nI (k + 1))) (lv' := [(5, .int (nI (k + 1))), (3, .long x_8), (0, .int za), (1, .int zb), (2, .int zc)]) hx hb dX12_daysFrom_58 hl (k := 1) rfl (nI_i k) (by decide) rfl (fun ls hl => ?_)
      refine lv_goto (tgt := 42) hx hb dX12_daysFrom_61 (by decide) ?_
      exact ih42 _ _ (by omega) ⟨(k + 1), x_8, (lt_top (by first | exact c_2) (by omega)), rfl, lv_sub hl [0, 1, 2, 3, 4] rfl⟩
  · refine lv_lload_n hx hb dX12_daysFrom_13 rfl (lv_at hl 1 rfl) ?_
    refine lv_iload hx hb dX12_daysFrom_14 (lv_at hl 0 rfl) ?_
    refine cr_S (As := [.int (nI k)]) (rest := [.long v]) hFX hKK (s_X12_isLeap l D κ (nI k)) 1 gS_X12_108 hdS_X12_isLeap rfl rfl ⟨Nat.le_of_ble_eq_true rfl, Nat.le_of_ble_eq_true rfl⟩ rfl rfl (Nat.le_of_ble_eq_true rfl) dX12_daysFrom_16 ⟨Nat.le_of_ble_eq_true rfl, Nat.le_of_ble_eq_true rfl⟩ hl.1 (hP.sub [] rfl) (fun r_10 hp_11 => ?_)
    have hp_11 : (r_10 = 1) ∨ (r_10 = 0) := hp_11
    rcases hp_11 with rfl | rfl
    · refine W.eq (g2 := F0 m 19 ls [.int 1, .long v]) rfl ?_
      refine lv_if_eq (tgt := 28) hx hb dX12_daysFrom_19 (by decide) (fun c_12 => absurd c_12 (by decide)) (fun c_12 => ?_)
      refine lv_ldc2 hx hb hown (hts _ mw_958) dX12_daysFrom_22 ?_
      refine lv_goto (tgt := 31) hx hb dX12_daysFrom_25 (by decide) ?_
      refine lv_ladd hx hb dX12_daysFrom_31 ?_
      refine lv_topl (fun x_13 ex_13 => ?_)
      refine lv_lstore_n (lv' := [(3, .long x_13), (5, .int (nI k)), (0, .int za), (1, .int zb), (2, .int zc)]) hx hb dX12_daysFrom_32 rfl hl (by decide) rfl (fun ls hl => ?_)
      refine lv_iinc (v := (nI (k + 1))) (lv' := [(5, .int (nI (k + 1))), (3, .long x_13), (0, .int za), (1, .int zb), (2, .int zc)]) hx hb dX12_daysFrom_33 hl (k := 1) rfl (nI_i k) (by decide) rfl (fun ls hl => ?_)
      refine lv_goto (tgt := 7) hx hb dX12_daysFrom_36 (by decide) ?_
      exact ih7 _ _ (by omega) ⟨(k + 1), x_13, (lt_top (by first | exact c_1) (by omega)), rfl, lv_sub hl [0, 1, 2, 3, 4] rfl⟩
    · refine W.eq (g2 := F0 m 19 ls [.int 0, .long v]) rfl ?_
      refine lv_if_eq (tgt := 28) hx hb dX12_daysFrom_19 (by decide) (fun c_15 => ?_) (fun c_15 => absurd (by decide) c_15)
      refine lv_ldc2 hx hb hown (hts _ mw_959) dX12_daysFrom_28 ?_
      refine lv_ladd hx hb dX12_daysFrom_31 ?_
      refine lv_topl (fun x_16 ex_16 => ?_)
      refine lv_lstore_n (lv' := [(3, .long x_16), (5, .int (nI k)), (0, .int za), (1, .int zb), (2, .int zc)]) hx hb dX12_daysFrom_32 rfl hl (by decide) rfl (fun ls hl => ?_)
      refine lv_iinc (v := (nI (k + 1))) (lv' := [(5, .int (nI (k + 1))), (3, .long x_16), (0, .int za), (1, .int zb), (2, .int zc)]) hx hb dX12_daysFrom_33 hl (k := 1) rfl (nI_i k) (by decide) rfl (fun ls hl => ?_)
      refine lv_goto (tgt := 7) hx hb dX12_daysFrom_36 (by decide) ?_
      exact ih7 _ _ (by omega) ⟨(k + 1), x_16, (lt_top (by first | exact c_1) (by omega)), rfl, lv_sub hl [0, 1, 2, 3, 4] rfl⟩
set_option maxHeartbeats 4000000 in
set_option maxRecDepth 100000 in
theorem s_X12_fixed (l : Launch) (D : va_G) (κ : Nat → ClassId) (q : Nat) (N : Nat) (f : Nat → Int32) (a : Nat) (zs : Int32) (hN : N < 2147483648) (ha : a + 22 ≤ N) (hf : ∃ n9 : Nat, n9 ≤ 20 ∧ f a = nI n9) : Cr l yX12_fixed (wl yX12_fixed cX12_fixed 10 (some .long)) { frames := 3, cells := 0, slots := 0, locals := 68 } D κ [.ref q, .int (nI a), .int zs] (va_P D vwCl [(q, .inl (κ 0, N, .inl f))]) (fun r : Int64 => some (.long r)) (fun r : Int64 => True) := by
  refine cr_of (by decide +kernel) (Nat.le_of_ble_eq_true rfl) ?_
  intro p e s m args below meth c ls hx hb hr hml hts hown hlk hKK hK hI hl
  have hP : va_P D vwCl [(q, .inl (κ 0, N, .inl f))] s.heap := hI
  have hFX : FX p s m args c cX12_fixed 10 RX12 := ⟨hx, hb, hml, hown, hts⟩
  have hl : lv_has ls 10 [(0, .ref q), (1, .int (nI a)), (2, .int zs)] := hl
  refine lv_aload_n hx hb dX12_fixed_0 rfl (lv_at hl 0 rfl) ?_
  refine lv_iload_n hx hb dX12_fixed_1 rfl (lv_at hl 1 rfl) ?_
  refine lv_iconst (v := 1) hx hb dX12_fixed_2 (by decide) ?_
  refine lv_iadd hx hb dX12_fixed_3 ?_
  refine ki (v := (nI (a + 1))) (nI_add a 1) ?_
  refine va_iald hx hb hK hP 0 0 rfl rfl (i := nI (a + 1)) (vp_in_nI (n := (a + 1)) (by omega) (by omega)) dX12_fixed_4 ?_
  refine kv (v := .int (f (a + 1))) (by rw [nI_clamp (by omega)]) ?_
  refine lv_topi (fun x_1 ex_1 => ?_)
  refine lv_bipush (v := 45) hx hb dX12_fixed_5 (by decide) ?_
  refine lv_icmp_ne (tgt := 14) hx hb dX12_fixed_7 (by decide) (fun c_2 => ?_) (fun c_2 => ?_)
  · refine lv_iconst (v := 0) hx hb dX12_fixed_14 (by decide) ?_
    refine lv_istore_n (lv' := [(3, .int 0), (0, .ref q), (1, .int (nI a)), (2, .int zs)]) hx hb dX12_fixed_15 rfl hl (by decide) rfl (fun ls hl => ?_)
    refine lv_aload_n hx hb dX12_fixed_16 rfl (lv_at hl 1 rfl) ?_
    refine lv_iload_n hx hb dX12_fixed_17 rfl (lv_at hl 2 rfl) ?_
    refine lv_iload_n hx hb dX12_fixed_18 rfl (lv_at hl 0 rfl) ?_
    refine cr_S (As := [.ref q, .int (nI a), .int 0]) (rest := []) hFX hKK (s_X12_digitsFrom l D κ q N f a 0 (by first | assumption | omega) (by omega) (by assumption) (by omega)) 3 gS_X12_111 hdS_X12_digitsFrom rfl rfl ⟨Nat.le_of_ble_eq_true rfl, Nat.le_of_ble_eq_true rfl⟩ rfl rfl (Nat.le_of_ble_eq_true rfl) dX12_fixed_19 ⟨Nat.le_of_ble_eq_true rfl, Nat.le_of_ble_eq_true rfl⟩ hl.1 (hP.sub [0] rfl) (fun n_3 hp_4 => ?_)
    have hp_4 : n_3 = 0 ∨ 0 + n_3 ≤ 20 := hp_4
    refine W.eq (g2 := F0 m 22 ls [.int (nI n_3)]) rfl ?_
    refine lv_istore (lv' := [(4, .int (nI n_3)), (3, .int 0), (0, .ref q), (1, .int (nI a)), (2, .int zs)]) hx hb dX12_fixed_22 hl (by decide) rfl (fun ls hl => ?_)
    refine lv_aload_n hx hb dX12_fixed_24 rfl (lv_at hl 2 rfl) ?_
    refine lv_iload_n hx hb dX12_fixed_25 rfl (lv_at hl 3 rfl) ?_
    refine lv_iload_n hx hb dX12_fixed_26 rfl (lv_at hl 1 rfl) ?_
    refine lv_iload hx hb dX12_fixed_27 (lv_at hl 0 rfl) ?_
    refine cr_S (As := [.ref q, .int (nI a), .int 0, .int (nI n_3)]) (rest := []) hFX hKK (s_X12_whole l D κ q N f a 0 n_3 (by first | assumption | omega) (by omega)) 4 gS_X12_148 hdS_X12_whole rfl rfl ⟨Nat.le_of_ble_eq_true rfl, Nat.le_of_ble_eq_true rfl⟩ rfl rfl (Nat.le_of_ble_eq_true rfl) dX12_fixed_29 ⟨Nat.le_of_ble_eq_true rfl, Nat.le_of_ble_eq_true rfl⟩ hl.1 (hP.sub [0] rfl) (fun r_5 hp_6 => ?_)
    refine W.eq (g2 := F0 m 32 ls [.long r_5]) rfl ?_
    refine lv_iload_n hx hb dX12_fixed_32 rfl (lv_at hl 4 rfl) ?_
    refine lv_i2l (v := zs.toInt64) hx hb dX12_fixed_33 rfl ?_
    refine lv_lmul hx hb dX12_fixed_34 ?_
    refine lv_topl (fun x_7 ex_7 => ?_)
    refine lv_lstore (lv' := [(5, .long x_7), (4, .int (nI n_3)), (3, .int 0), (0, .ref q), (1, .int (nI a)), (2, .int zs)]) hx hb dX12_fixed_35 hl (by decide) rfl (fun ls hl => ?_)
    refine lv_iload_n hx hb dX12_fixed_37 rfl (lv_at hl 2 rfl) ?_
    refine lv_iload hx hb dX12_fixed_38 (lv_at hl 1 rfl) ?_
    refine lv_iadd hx hb dX12_fixed_40 ?_
    refine ki (v := (nI (0 + n_3))) (nI_add 0 n_3) ?_
    refine lv_iconst (v := 1) hx hb dX12_fixed_41 (by decide) ?_
    refine lv_iadd hx hb dX12_fixed_42 ?_
    refine ki (v := (nI (0 + n_3 + 1))) (nI_add (0 + n_3) 1) ?_
    refine lv_istore (lv' := [(7, .int (nI (0 + n_3 + 1))), (5, .long x_7), (4, .int (nI n_3)), (3, .int 0), (0, .ref q), (1, .int (nI a)), (2, .int zs)]) hx hb dX12_fixed_43 hl (by decide) rfl (fun ls hl => ?_)
    refine lv_iload_n hx hb dX12_fixed_45 rfl (lv_at hl 6 rfl) ?_
    refine lv_bipush (v := 10) hx hb dX12_fixed_46 (by decide) ?_
    refine lv_idiv hx hb dX12_fixed_48 (by decide) ?_
    refine lv_topi (fun x_8 ex_8 => ?_)
    refine lv_istore (lv' := [(8, .int x_8), (7, .int (nI (0 + n_3 + 1))), (5, .long x_7), (4, .int (nI n_3)), (3, .int 0), (0, .ref q), (1, .int (nI a)), (2, .int zs)]) hx hb dX12_fixed_49 hl (by decide) rfl (fun ls hl => ?_)
    refine lv_iload hx hb dX12_fixed_51 (lv_at hl 1 rfl) ?_
    refine lv_istore (lv' := [(9, .int (nI (0 + n_3 + 1))), (8, .int x_8), (7, .int (nI (0 + n_3 + 1))), (5, .long x_7), (4, .int (nI n_3)), (3, .int 0), (0, .ref q), (1, .int (nI a)), (2, .int zs)]) hx hb dX12_fixed_53 hl (by decide) rfl (fun ls hl => ?_)
    refine loop_r (fun k9 ls => ∃ (k : Nat), ∃ (v : Int64), ∃ (y : Int32), ∃ (b : Nat), ∃ (d : Nat), ∃ (t : Nat), (k ≤ 60) ∧ (b ≤ 1) ∧ 60 - k = k9 ∧ lv_has ls 10 [(9, .int (nI k)), (8, .int y), (5, .long v), (0, .ref q), (1, .int (nI a)), (3, .int (nI b))]) (fun k9 ls hI55 ih55 => ?_) (60 - (0 + n_3 + 1)) _ ⟨(0 + n_3 + 1), x_7, x_8, 0, 0, 0, (by omega), (by omega), rfl, lv_sub hl [0, 1, 3, 6, 7, 5] rfl⟩
    obtain ⟨k, v, y, b, d, t, hn0, hn1, hm55, hl⟩ := hI55
    refine lv_iload hx hb dX12_fixed_55 (lv_at hl 0 rfl) ?_
    refine lv_aload_n hx hb dX12_fixed_57 rfl (lv_at hl 3 rfl) ?_
    refine lv_iload_n hx hb dX12_fixed_58 rfl (lv_at hl 4 rfl) ?_
    refine va_iald hx hb hK hP 0 0 rfl rfl (i := nI a) (vp_in_nI (n := a) (by omega) (by omega)) dX12_fixed_59 ?_
    refine kv (v := .int (f a)) (by rw [nI_clamp (by omega)]) ?_
    obtain ⟨n_9, hn_9, en_9⟩ : ∃ n9 : Nat, n9 ≤ 20 ∧ f a = nI n9 := id (hf)
    refine kv (v := .int (nI n_9)) (congrArg Value.int en_9) ?_
    refine lv_icmp_ge (tgt := 97) hx hb dX12_fixed_60 (by decide) (fun c_10 => ?_) (fun c_10 => ?_)
    · have nc_10 := cv_le (a := n_9) (b := k) (by omega) (by omega) c_10
      refine lv_iload_n hx hb dX12_fixed_97 rfl (lv_at hl 5 rfl) ?_
      refine lv_iconst (v := 1) hx hb dX12_fixed_98 (by decide) ?_
      refine lv_icmp_ne (tgt := 108) hx hb dX12_fixed_99 (by decide) (fun c_11 => ?_) (fun c_11 => ?_)
      · have nc_11 := cv_ne (a := b) (b := 1) (by omega) (by omega) c_11
        refine lv_lload hx hb dX12_fixed_108 (lv_at hl 2 rfl) ?_
        exact cr_lret hx hb hr hlk v rfl trivial dX12_fixed_110
      · have nc_11 := cv_eq (a := b) (b := 1) (by omega) (by omega) c_11
        refine lv_lload hx hb dX12_fixed_102 (lv_at hl 2 rfl) ?_
        refine lv_lneg hx hb dX12_fixed_104 ?_
        refine lv_topl (fun x_12 ex_12 => ?_)
        refine lv_goto (tgt := 110) hx hb dX12_fixed_105 (by decide) ?_
        exact cr_lret hx hb hr hlk x_12 rfl trivial dX12_fixed_110
    · have nc_10 := cv_nle (a := n_9) (b := k) (by omega) (by omega) c_10
      refine lv_lload hx hb dX12_fixed_63 (lv_at hl 2 rfl) ?_
      refine lv_iload hx hb dX12_fixed_65 (lv_at hl 1 rfl) ?_
      refine lv_i2l (v := y.toInt64) hx hb dX12_fixed_67 rfl ?_
      refine lv_aload_n hx hb dX12_fixed_68 rfl (lv_at hl 3 rfl) ?_
      refine lv_iload_n hx hb dX12_fixed_69 rfl (lv_at hl 4 rfl) ?_
      refine lv_iconst (v := 1) hx hb dX12_fixed_70 (by decide) ?_
      refine lv_iadd hx hb dX12_fixed_71 ?_
      refine ki (v := (nI (a + 1))) (nI_add a 1) ?_
      refine lv_iload hx hb dX12_fixed_72 (lv_at hl 0 rfl) ?_
      refine lv_iadd hx hb dX12_fixed_74 ?_
      refine ki (v := (nI (a + 1 + k))) (nI_add (a + 1) k) ?_
      refine va_iald hx hb hK hP 0 0 rfl rfl (i := nI (a + 1 + k)) (vp_in_nI (n := (a + 1 + k)) (by omega) (by omega)) dX12_fixed_75 ?_
      refine kv (v := .int (f (a + 1 + k))) (by rw [nI_clamp (by omega)]) ?_
      refine lv_topi (fun x_13 ex_13 => ?_)
      refine lv_bipush (v := 48) hx hb dX12_fixed_76 (by decide) ?_
      refine lv_isub hx hb dX12_fixed_78 ?_
      refine lv_topi (fun x_14 ex_14 => ?_)
      refine lv_i2l (v := x_14.toInt64) hx hb dX12_fixed_79 rfl ?_
      refine lv_lmul hx hb dX12_fixed_80 ?_
      refine lv_topl (fun x_15 ex_15 => ?_)
      refine lv_ladd hx hb dX12_fixed_81 ?_
      refine lv_topl (fun x_16 ex_16 => ?_)
      refine lv_lstore (lv' := [(5, .long x_16), (9, .int (nI k)), (8, .int y), (0, .ref q), (1, .int (nI a)), (3, .int (nI b))]) hx hb dX12_fixed_82 hl (by decide) rfl (fun ls hl => ?_)
      refine lv_iload hx hb dX12_fixed_84 (lv_at hl 2 rfl) ?_
      refine lv_bipush (v := 10) hx hb dX12_fixed_86 (by decide) ?_
      refine lv_idiv hx hb dX12_fixed_88 (by decide) ?_
      refine lv_topi (fun x_17 ex_17 => ?_)
      refine lv_istore (lv' := [(8, .int x_17), (5, .long x_16), (9, .int (nI k)), (0, .ref q), (1, .int (nI a)), (3, .int (nI b))]) hx hb dX12_fixed_89 hl (by decide) rfl (fun ls hl => ?_)
      refine lv_iinc (v := (nI (k + 1))) (lv' := [(9, .int (nI (k + 1))), (8, .int x_17), (5, .long x_16), (0, .ref q), (1, .int (nI a)), (3, .int (nI b))]) hx hb dX12_fixed_91 hl (k := 2) rfl (nI_i k) (by decide) rfl (fun ls hl => ?_)
      refine lv_goto (tgt := 55) hx hb dX12_fixed_94 (by decide) ?_
      exact ih55 _ _ (by omega) ⟨(k + 1), x_16, x_17, b, 0, 0, (by omega), (by omega), rfl, lv_sub hl [0, 1, 2, 3, 4, 5] rfl⟩
  · refine lv_iconst (v := 1) hx hb dX12_fixed_10 (by decide) ?_
    refine lv_goto (tgt := 15) hx hb dX12_fixed_11 (by decide) ?_
    refine lv_istore_n (lv' := [(3, .int 1), (0, .ref q), (1, .int (nI a)), (2, .int zs)]) hx hb dX12_fixed_15 rfl hl (by decide) rfl (fun ls hl => ?_)
    refine lv_aload_n hx hb dX12_fixed_16 rfl (lv_at hl 1 rfl) ?_
    refine lv_iload_n hx hb dX12_fixed_17 rfl (lv_at hl 2 rfl) ?_
    refine lv_iload_n hx hb dX12_fixed_18 rfl (lv_at hl 0 rfl) ?_
    refine cr_S (As := [.ref q, .int (nI a), .int 1]) (rest := []) hFX hKK (s_X12_digitsFrom l D κ q N f a 1 (by first | assumption | omega) (by omega) (by assumption) (by omega)) 3 gS_X12_111 hdS_X12_digitsFrom rfl rfl ⟨Nat.le_of_ble_eq_true rfl, Nat.le_of_ble_eq_true rfl⟩ rfl rfl (Nat.le_of_ble_eq_true rfl) dX12_fixed_19 ⟨Nat.le_of_ble_eq_true rfl, Nat.le_of_ble_eq_true rfl⟩ hl.1 (hP.sub [0] rfl) (fun n_19 hp_20 => ?_)
    have hp_20 : n_19 = 0 ∨ 1 + n_19 ≤ 20 := hp_20
    refine W.eq (g2 := F0 m 22 ls [.int (nI n_19)]) rfl ?_
    refine lv_istore (lv' := [(4, .int (nI n_19)), (3, .int 1), (0, .ref q), (1, .int (nI a)), (2, .int zs)]) hx hb dX12_fixed_22 hl (by decide) rfl (fun ls hl => ?_)
    refine lv_aload_n hx hb dX12_fixed_24 rfl (lv_at hl 2 rfl) ?_
    refine lv_iload_n hx hb dX12_fixed_25 rfl (lv_at hl 3 rfl) ?_
    refine lv_iload_n hx hb dX12_fixed_26 rfl (lv_at hl 1 rfl) ?_
    refine lv_iload hx hb dX12_fixed_27 (lv_at hl 0 rfl) ?_
    refine cr_S (As := [.ref q, .int (nI a), .int 1, .int (nI n_19)]) (rest := []) hFX hKK (s_X12_whole l D κ q N f a 1 n_19 (by first | assumption | omega) (by omega)) 4 gS_X12_148 hdS_X12_whole rfl rfl ⟨Nat.le_of_ble_eq_true rfl, Nat.le_of_ble_eq_true rfl⟩ rfl rfl (Nat.le_of_ble_eq_true rfl) dX12_fixed_29 ⟨Nat.le_of_ble_eq_true rfl, Nat.le_of_ble_eq_true rfl⟩ hl.1 (hP.sub [0] rfl) (fun r_21 hp_22 => ?_)
    refine W.eq (g2 := F0 m 32 ls [.long r_21]) rfl ?_
    refine lv_iload_n hx hb dX12_fixed_32 rfl (lv_at hl 4 rfl) ?_
    refine lv_i2l (v := zs.toInt64) hx hb dX12_fixed_33 rfl ?_
    refine lv_lmul hx hb dX12_fixed_34 ?_
    refine lv_topl (fun x_23 ex_23 => ?_)
    refine lv_lstore (lv' := [(5, .long x_23), (4, .int (nI n_19)), (3, .int 1), (0, .ref q), (1, .int (nI a)), (2, .int zs)]) hx hb dX12_fixed_35 hl (by decide) rfl (fun ls hl => ?_)
    refine lv_iload_n hx hb dX12_fixed_37 rfl (lv_at hl 2 rfl) ?_
    refine lv_iload hx hb dX12_fixed_38 (lv_at hl 1 rfl) ?_
    refine lv_iadd hx hb dX12_fixed_40 ?_
    refine ki (v := (nI (1 + n_19))) (nI_add 1 n_19) ?_
    refine lv_iconst (v := 1) hx hb dX12_fixed_41 (by decide) ?_
    refine lv_iadd hx hb dX12_fixed_42 ?_
    refine ki (v := (nI (1 + n_19 + 1))) (nI_add (1 + n_19) 1) ?_
    refine lv_istore (lv' := [(7, .int (nI (1 + n_19 + 1))), (5, .long x_23), (4, .int (nI n_19)), (3, .int 1), (0, .ref q), (1, .int (nI a)), (2, .int zs)]) hx hb dX12_fixed_43 hl (by decide) rfl (fun ls hl => ?_)
    refine lv_iload_n hx hb dX12_fixed_45 rfl (lv_at hl 6 rfl) ?_
    refine lv_bipush (v := 10) hx hb dX12_fixed_46 (by decide) ?_
    refine lv_idiv hx hb dX12_fixed_48 (by decide) ?_
    refine lv_topi (fun x_24 ex_24 => ?_)
    refine lv_istore (lv' := [(8, .int x_24), (7, .int (nI (1 + n_19 + 1))), (5, .long x_23), (4, .int (nI n_19)), (3, .int 1), (0, .ref q), (1, .int (nI a)), (2, .int zs)]) hx hb dX12_fixed_49 hl (by decide) rfl (fun ls hl => ?_)
    refine lv_iload hx hb dX12_fixed_51 (lv_at hl 1 rfl) ?_
    refine lv_istore (lv' := [(9, .int (nI (1 + n_19 + 1))), (8, .int x_24), (7, .int (nI (1 + n_19 + 1))), (5, .long x_23), (4, .int (nI n_19)), (3, .int 1), (0, .ref q), (1, .int (nI a)), (2, .int zs)]) hx hb dX12_fixed_53 hl (by decide) rfl (fun ls hl => ?_)
    refine loop_r (fun k9 ls => ∃ (k : Nat), ∃ (v : Int64), ∃ (y : Int32), ∃ (b : Nat), ∃ (d : Nat), ∃ (t : Nat), (k ≤ 60) ∧ (b ≤ 1) ∧ 60 - k = k9 ∧ lv_has ls 10 [(9, .int (nI k)), (8, .int y), (5, .long v), (0, .ref q), (1, .int (nI a)), (3, .int (nI b))]) (fun k9 ls hI55 ih55 => ?_) (60 - (1 + n_19 + 1)) _ ⟨(1 + n_19 + 1), x_23, x_24, 1, 0, 0, (by omega), (by omega), rfl, lv_sub hl [0, 1, 3, 6, 7, 5] rfl⟩
    obtain ⟨k, v, y, b, d, t, hn0, hn1, hm55, hl⟩ := hI55
    refine lv_iload hx hb dX12_fixed_55 (lv_at hl 0 rfl) ?_
    refine lv_aload_n hx hb dX12_fixed_57 rfl (lv_at hl 3 rfl) ?_
    refine lv_iload_n hx hb dX12_fixed_58 rfl (lv_at hl 4 rfl) ?_
    refine va_iald hx hb hK hP 0 0 rfl rfl (i := nI a) (vp_in_nI (n := a) (by omega) (by omega)) dX12_fixed_59 ?_
    refine kv (v := .int (f a)) (by rw [nI_clamp (by omega)]) ?_
    obtain ⟨n_25, hn_25, en_25⟩ : ∃ n9 : Nat, n9 ≤ 20 ∧ f a = nI n9 := id (hf)
    refine kv (v := .int (nI n_25)) (congrArg Value.int en_25) ?_
    refine lv_icmp_ge (tgt := 97) hx hb dX12_fixed_60 (by decide) (fun c_26 => ?_) (fun c_26 => ?_)
    · have nc_26 := cv_le (a := n_25) (b := k) (by omega) (by omega) c_26
      refine lv_iload_n hx hb dX12_fixed_97 rfl (lv_at hl 5 rfl) ?_
      refine lv_iconst (v := 1) hx hb dX12_fixed_98 (by decide) ?_
      refine lv_icmp_ne (tgt := 108) hx hb dX12_fixed_99 (by decide) (fun c_27 => ?_) (fun c_27 => ?_)
      · have nc_27 := cv_ne (a := b) (b := 1) (by omega) (by omega) c_27
        refine lv_lload hx hb dX12_fixed_108 (lv_at hl 2 rfl) ?_
        exact cr_lret hx hb hr hlk v rfl trivial dX12_fixed_110
      · have nc_27 := cv_eq (a := b) (b := 1) (by omega) (by omega) c_27
        refine lv_lload hx hb dX12_fixed_102 (lv_at hl 2 rfl) ?_
        refine lv_lneg hx hb dX12_fixed_104 ?_
        refine lv_topl (fun x_28 ex_28 => ?_)
        refine lv_goto (tgt := 110) hx hb dX12_fixed_105 (by decide) ?_
        exact cr_lret hx hb hr hlk x_28 rfl trivial dX12_fixed_110
    · have nc_26 := cv_nle (a := n_25) (b := k) (by omega) (by omega) c_26
      refine lv_lload hx hb dX12_fixed_63 (lv_at hl 2 rfl) ?_
      refine lv_iload hx hb dX12_fixed_65 (lv_at hl 1 rfl) ?_
      refine lv_i2l (v := y.toInt64) hx hb dX12_fixed_67 rfl ?_
      refine lv_aload_n hx hb dX12_fixed_68 rfl (lv_at hl 3 rfl) ?_
      refine lv_iload_n hx hb dX12_fixed_69 rfl (lv_at hl 4 rfl) ?_
      refine lv_iconst (v := 1) hx hb dX12_fixed_70 (by decide) ?_
      refine lv_iadd hx hb dX12_fixed_71 ?_
      refine ki (v := (nI (a + 1))) (nI_add a 1) ?_
      refine lv_iload hx hb dX12_fixed_72 (lv_at hl 0 rfl) ?_
      refine lv_iadd hx hb dX12_fixed_74 ?_
      refine ki (v := (nI (a + 1 + k))) (nI_add (a + 1) k) ?_
      refine va_iald hx hb hK hP 0 0 rfl rfl (i := nI (a + 1 + k)) (vp_in_nI (n := (a + 1 + k)) (by omega) (by omega)) dX12_fixed_75 ?_
      refine kv (v := .int (f (a + 1 + k))) (by rw [nI_clamp (by omega)]) ?_
      refine lv_topi (fun x_29 ex_29 => ?_)
      refine lv_bipush (v := 48) hx hb dX12_fixed_76 (by decide) ?_
      refine lv_isub hx hb dX12_fixed_78 ?_
      refine lv_topi (fun x_30 ex_30 => ?_)
      refine lv_i2l (v := x_30.toInt64) hx hb dX12_fixed_79 rfl ?_
      refine lv_lmul hx hb dX12_fixed_80 ?_
      refine lv_topl (fun x_31 ex_31 => ?_)
      refine lv_ladd hx hb dX12_fixed_81 ?_
      refine lv_topl (fun x_32 ex_32 => ?_)
      refine lv_lstore (lv' := [(5, .long x_32), (9, .int (nI k)), (8, .int y), (0, .ref q), (1, .int (nI a)), (3, .int (nI b))]) hx hb dX12_fixed_82 hl (by decide) rfl (fun ls hl => ?_)
      refine lv_iload hx hb dX12_fixed_84 (lv_at hl 2 rfl) ?_
      refine lv_bipush (v := 10) hx hb dX12_fixed_86 (by decide) ?_
      refine lv_idiv hx hb dX12_fixed_88 (by decide) ?_
      refine lv_topi (fun x_33 ex_33 => ?_)
      refine lv_istore (lv' := [(8, .int x_33), (5, .long x_32), (9, .int (nI k)), (0, .ref q), (1, .int (nI a)), (3, .int (nI b))]) hx hb dX12_fixed_89 hl (by decide) rfl (fun ls hl => ?_)
      refine lv_iinc (v := (nI (k + 1))) (lv' := [(9, .int (nI (k + 1))), (8, .int x_33), (5, .long x_32), (0, .ref q), (1, .int (nI a)), (3, .int (nI b))]) hx hb dX12_fixed_91 hl (k := 2) rfl (nI_i k) (by decide) rfl (fun ls hl => ?_)
      refine lv_goto (tgt := 55) hx hb dX12_fixed_94 (by decide) ?_
      exact ih55 _ _ (by omega) ⟨(k + 1), x_32, x_33, b, 0, 0, (by omega), (by omega), rfl, lv_sub hl [0, 1, 2, 3, 4, 5] rfl⟩
set_option maxHeartbeats 4000000 in
set_option maxRecDepth 100000 in
theorem s_X12_valueBy (l : Launch) (D : va_G) (κ : Nat → ClassId) (q : Nat) (N : Nat) (f : Nat → Int32) (a : Nat) (zt : Int32) (hN : N < 2147483648) (ha : a + 22 ≤ N) (hf : ∃ n9 : Nat, n9 ≤ 20 ∧ f a = nI n9) : Cr l yX12_valueBy (wl yX12_valueBy cX12_valueBy 3 (some .long)) { frames := 4, cells := 0, slots := 0, locals := 97 } D κ [.ref q, .int (nI a), .int zt] (va_P D vwCl [(q, .inl (κ 0, N, .inl f))]) (fun r : Int64 => some (.long r)) (fun r : Int64 => True) := by
  refine cr_of (by decide +kernel) (Nat.le_of_ble_eq_true rfl) ?_
  intro p e s m args below meth c ls hx hb hr hml hts hown hlk hKK hK hI hl
  have hP : va_P D vwCl [(q, .inl (κ 0, N, .inl f))] s.heap := hI
  have hFX : FX p s m args c cX12_valueBy 3 RX12 := ⟨hx, hb, hml, hown, hts⟩
  have hl : lv_has ls 3 [(0, .ref q), (1, .int (nI a)), (2, .int zt)] := hl
  refine lv_iload_n hx hb dX12_valueBy_0 rfl (lv_at hl 2 rfl) ?_
  rcases Classical.em (zt.toInt < 1 ∨ 4 < zt.toInt) with c_1 | c_1
  · refine lv_tableOut (tgt := 95) hx hb dX12_valueBy_1 c_1 (by decide) ?_
    refine lv_aload_n hx hb dX12_valueBy_95 rfl (lv_at hl 0 rfl) ?_
    refine lv_iload_n hx hb dX12_valueBy_96 rfl (lv_at hl 1 rfl) ?_
    refine va_iald hx hb hK hP 0 0 rfl rfl (i := nI a) (vp_in_nI (n := a) (by omega) (by omega)) dX12_valueBy_97 ?_
    refine kv (v := .int (f a)) (by rw [nI_clamp (by omega)]) ?_
    refine lv_topi (fun x_2 ex_2 => ?_)
    refine lv_i2l (v := x_2.toInt64) hx hb dX12_valueBy_98 rfl ?_
    exact cr_lret hx hb hr hlk x_2.toInt64 rfl trivial dX12_valueBy_99
  · have e_3 : zt = 1 ∨ zt = 2 ∨ zt = 3 ∨ zt = 4 := by
      have q1 : ¬ zt.toInt < 1 := fun h => c_1 (Or.inl h)
      have q2 : ¬ 4 < zt.toInt := fun h => c_1 (Or.inr h)
      have q3 : ∀ v : Int32, zt.toInt = v.toInt → zt = v := fun v h => Int32.toInt_inj.mp h
      rcases (show zt.toInt = 1 ∨ zt.toInt = 2 ∨ zt.toInt = 3 ∨ zt.toInt = 4 by omega) with h | h | h | h
      · exact Or.inl (q3 1 (h.trans (by decide)))
      · exact Or.inr (Or.inl (q3 2 (h.trans (by decide))))
      · exact Or.inr (Or.inr (Or.inl (q3 3 (h.trans (by decide)))))
      · exact Or.inr (Or.inr (Or.inr ((q3 4 (h.trans (by decide))))))
    rcases e_3 with e_3 | e_3 | e_3 | e_3
    · refine lv_tableIn (tgt := 32) hx hb dX12_valueBy_1 (by rw [e_3]; decide) (by rw [e_3]; decide) (by rw [e_3]; rfl) (by decide) ?_
      refine lv_aload_n hx hb dX12_valueBy_32 rfl (lv_at hl 0 rfl) ?_
      refine lv_iload_n hx hb dX12_valueBy_33 rfl (lv_at hl 1 rfl) ?_
      refine cr_S (As := [.ref q, .int (nI a)]) (rest := []) hFX hKK (s_X12_isYes l D κ q N f a (by first | assumption | omega) (by omega) (by assumption)) 2 gS_X12_123 hdS_X12_isYes rfl rfl ⟨Nat.le_of_ble_eq_true rfl, Nat.le_of_ble_eq_true rfl⟩ rfl rfl (Nat.le_of_ble_eq_true rfl) dX12_valueBy_34 ⟨Nat.le_of_ble_eq_true rfl, Nat.le_of_ble_eq_true rfl⟩ hl.1 (hP.sub [0] rfl) (fun r_4 hp_5 => ?_)
      have hp_5 : (r_4 = 1) ∨ (r_4 = 0) := hp_5
      rcases hp_5 with rfl | rfl
      · refine W.eq (g2 := F0 m 37 ls [.int 1]) rfl ?_
        refine lv_if_eq (tgt := 44) hx hb dX12_valueBy_37 (by decide) (fun c_6 => absurd c_6 (by decide)) (fun c_6 => ?_)
        refine lv_lconst (v := 1) hx hb dX12_valueBy_40 (by decide) ?_
        refine lv_goto (tgt := 45) hx hb dX12_valueBy_41 (by decide) ?_
        exact cr_lret hx hb hr hlk 1 rfl trivial dX12_valueBy_45
      · refine W.eq (g2 := F0 m 37 ls [.int 0]) rfl ?_
        refine lv_if_eq (tgt := 44) hx hb dX12_valueBy_37 (by decide) (fun c_7 => ?_) (fun c_7 => absurd (by decide) c_7)
        refine lv_lconst (v := 0) hx hb dX12_valueBy_44 (by decide) ?_
        exact cr_lret hx hb hr hlk 0 rfl trivial dX12_valueBy_45
    · refine lv_tableIn (tgt := 46) hx hb dX12_valueBy_1 (by rw [e_3]; decide) (by rw [e_3]; decide) (by rw [e_3]; rfl) (by decide) ?_
      refine lv_aload_n hx hb dX12_valueBy_46 rfl (lv_at hl 0 rfl) ?_
      refine lv_iload_n hx hb dX12_valueBy_47 rfl (lv_at hl 1 rfl) ?_
      refine lv_iconst (v := 1) hx hb dX12_valueBy_48 (by decide) ?_
      refine cr_S (As := [.ref q, .int (nI a), .int 1]) (rest := []) hFX hKK (s_X12_fixed l D κ q N f a 1 (by first | assumption | omega) (by omega) (by assumption)) 3 gS_X12_152 hdS_X12_fixed rfl rfl ⟨Nat.le_of_ble_eq_true rfl, Nat.le_of_ble_eq_true rfl⟩ rfl rfl (Nat.le_of_ble_eq_true rfl) dX12_valueBy_49 ⟨Nat.le_of_ble_eq_true rfl, Nat.le_of_ble_eq_true rfl⟩ hl.1 (hP.sub [0] rfl) (fun r_8 hp_9 => ?_)
      refine W.eq (g2 := F0 m 52 ls [.long r_8]) rfl ?_
      exact cr_lret hx hb hr hlk r_8 rfl trivial dX12_valueBy_52
    · refine lv_tableIn (tgt := 53) hx hb dX12_valueBy_1 (by rw [e_3]; decide) (by rw [e_3]; decide) (by rw [e_3]; rfl) (by decide) ?_
      refine lv_aload_n hx hb dX12_valueBy_53 rfl (lv_at hl 0 rfl) ?_
      refine lv_iload_n hx hb dX12_valueBy_54 rfl (lv_at hl 1 rfl) ?_
      refine lv_sipush (v := 10000) hx hb dX12_valueBy_55 (by decide) ?_
      refine cr_S (As := [.ref q, .int (nI a), .int 10000]) (rest := []) hFX hKK (s_X12_fixed l D κ q N f a 10000 (by first | assumption | omega) (by omega) (by assumption)) 3 gS_X12_152 hdS_X12_fixed rfl rfl ⟨Nat.le_of_ble_eq_true rfl, Nat.le_of_ble_eq_true rfl⟩ rfl rfl (Nat.le_of_ble_eq_true rfl) dX12_valueBy_58 ⟨Nat.le_of_ble_eq_true rfl, Nat.le_of_ble_eq_true rfl⟩ hl.1 (hP.sub [0] rfl) (fun r_10 hp_11 => ?_)
      refine W.eq (g2 := F0 m 61 ls [.long r_10]) rfl ?_
      exact cr_lret hx hb hr hlk r_10 rfl trivial dX12_valueBy_61
    · refine lv_tableIn (tgt := 62) hx hb dX12_valueBy_1 (by rw [e_3]; decide) (by rw [e_3]; decide) (by rw [e_3]; rfl) (by decide) ?_
      refine lv_bipush (v := 100) hx hb dX12_valueBy_62 (by decide) ?_
      refine lv_aload_n hx hb dX12_valueBy_64 rfl (lv_at hl 0 rfl) ?_
      refine lv_iload_n hx hb dX12_valueBy_65 rfl (lv_at hl 1 rfl) ?_
      refine lv_iconst (v := 0) hx hb dX12_valueBy_66 (by decide) ?_
      refine cr_S (As := [.ref q, .int (nI a), .int 0]) (rest := [.int 100]) hFX hKK (s_X12_two l D κ q N f a 0 (by first | assumption | omega) (by omega)) 3 gS_X12_115 hdS_X12_two rfl rfl ⟨Nat.le_of_ble_eq_true rfl, Nat.le_of_ble_eq_true rfl⟩ rfl rfl (Nat.le_of_ble_eq_true rfl) dX12_valueBy_67 ⟨Nat.le_of_ble_eq_true rfl, Nat.le_of_ble_eq_true rfl⟩ hl.1 (hP.sub [0] rfl) (fun r_12 hp_13 => ?_)
      refine W.eq (g2 := F0 m 70 ls [.int r_12, .int 100]) rfl ?_
      refine lv_imul hx hb dX12_valueBy_70 ?_
      refine lv_topi (fun x_14 ex_14 => ?_)
      refine lv_aload_n hx hb dX12_valueBy_71 rfl (lv_at hl 0 rfl) ?_
      refine lv_iload_n hx hb dX12_valueBy_72 rfl (lv_at hl 1 rfl) ?_
      refine lv_iconst (v := 2) hx hb dX12_valueBy_73 (by decide) ?_
      refine cr_S (As := [.ref q, .int (nI a), .int 2]) (rest := [.int x_14]) hFX hKK (s_X12_two l D κ q N f a 2 (by first | assumption | omega) (by omega)) 3 gS_X12_115 hdS_X12_two rfl rfl ⟨Nat.le_of_ble_eq_true rfl, Nat.le_of_ble_eq_true rfl⟩ rfl rfl (Nat.le_of_ble_eq_true rfl) dX12_valueBy_74 ⟨Nat.le_of_ble_eq_true rfl, Nat.le_of_ble_eq_true rfl⟩ hl.1 (hP.sub [0] rfl) (fun r_15 hp_16 => ?_)
      refine W.eq (g2 := F0 m 77 ls [.int r_15, .int x_14]) rfl ?_
      refine lv_iadd hx hb dX12_valueBy_77 ?_
      refine lv_topi (fun x_17 ex_17 => ?_)
      refine lv_aload_n hx hb dX12_valueBy_78 rfl (lv_at hl 0 rfl) ?_
      refine lv_iload_n hx hb dX12_valueBy_79 rfl (lv_at hl 1 rfl) ?_
      refine lv_iconst (v := 5) hx hb dX12_valueBy_80 (by decide) ?_
      refine cr_S (As := [.ref q, .int (nI a), .int 5]) (rest := [.int x_17]) hFX hKK (s_X12_two l D κ q N f a 5 (by first | assumption | omega) (by omega)) 3 gS_X12_115 hdS_X12_two rfl rfl ⟨Nat.le_of_ble_eq_true rfl, Nat.le_of_ble_eq_true rfl⟩ rfl rfl (Nat.le_of_ble_eq_true rfl) dX12_valueBy_81 ⟨Nat.le_of_ble_eq_true rfl, Nat.le_of_ble_eq_true rfl⟩ hl.1 (hP.sub [0] rfl) (fun r_18 hp_19 => ?_)
      refine W.eq (g2 := F0 m 84 ls [.int r_18, .int x_17]) rfl ?_
      refine lv_aload_n hx hb dX12_valueBy_84 rfl (lv_at hl 0 rfl) ?_
      refine lv_iload_n hx hb dX12_valueBy_85 rfl (lv_at hl 1 rfl) ?_
      refine lv_bipush (v := 8) hx hb dX12_valueBy_86 (by decide) ?_
      refine cr_S (As := [.ref q, .int (nI a), .int 8]) (rest := [.int r_18, .int x_17]) hFX hKK (s_X12_two l D κ q N f a 8 (by first | assumption | omega) (by omega)) 3 gS_X12_115 hdS_X12_two rfl rfl ⟨Nat.le_of_ble_eq_true rfl, Nat.le_of_ble_eq_true rfl⟩ rfl rfl (Nat.le_of_ble_eq_true rfl) dX12_valueBy_88 ⟨Nat.le_of_ble_eq_true rfl, Nat.le_of_ble_eq_true rfl⟩ hl.1 (hP.sub [0] rfl) (fun r_20 hp_21 => ?_)
      refine W.eq (g2 := F0 m 91 ls [.int r_20, .int r_18, .int x_17]) rfl ?_
      refine cr_S (As := [.int x_17, .int r_18, .int r_20]) (rest := []) hFX hKK (s_X12_daysFrom l D κ x_17 r_18 r_20) 3 gS_X12_156 hdS_X12_daysFrom rfl rfl ⟨Nat.le_of_ble_eq_true rfl, Nat.le_of_ble_eq_true rfl⟩ rfl rfl (Nat.le_of_ble_eq_true rfl) dX12_valueBy_91 ⟨Nat.le_of_ble_eq_true rfl, Nat.le_of_ble_eq_true rfl⟩ hl.1 (hP.sub [] rfl) (fun r_22 hp_23 => ?_)
      refine W.eq (g2 := F0 m 94 ls [.long r_22]) rfl ?_
      exact cr_lret hx hb hr hlk r_22 rfl trivial dX12_valueBy_94
set_option maxHeartbeats 4000000 in
set_option maxRecDepth 100000 in
theorem s_X12_compareBytes (l : Launch) (D : va_G) (κ : Nat → ClassId) (q : Nat) (N : Nat) (f : Nat → Int32) (q2 : Nat) (N2 : Nat) (g : Nat → Int32) (a : Nat) (b : Nat) (la : Nat) (lb : Nat) (hN : N < 2147483648) (hN2 : N2 < 2147483648) (ha : a + 2 + min la lb ≤ N) (hb : b + 2 + min la lb ≤ N2) (hla : la ≤ 1000) (hlb : lb ≤ 1000) (hf : ∃ n9 : Nat, n9 ≤ la ∧ f a = nI n9) (hg : ∃ n9 : Nat, n9 ≤ lb ∧ g b = nI n9) : Cr l yX12_compareBytes (wl yX12_compareBytes cX12_compareBytes 7 (some .int)) { frames := 0, cells := 0, slots := 0, locals := 0 } D κ [.ref q, .int (nI a), .ref q2, .int (nI b)] (va_P D vwCl [(q, .inl (κ 0, N, .inl f)), (q2, .inl (κ 0, N2, .inl g))]) (fun n : Nat => some (.int (nI n))) (fun n : Nat => n ≤ 2) := by
  refine cr_of (by decide +kernel) (Nat.le_of_ble_eq_true rfl) ?_
  intro p e s m args below meth c ls hx hb hr hml hts hown hlk hKK hK hI hl
  have hP : va_P D vwCl [(q, .inl (κ 0, N, .inl f)), (q2, .inl (κ 0, N2, .inl g))] s.heap := hI
  have hFX : FX p s m args c cX12_compareBytes 7 RX12 := ⟨hx, hb, hml, hown, hts⟩
  have hl : lv_has ls 7 [(0, .ref q), (1, .int (nI a)), (2, .ref q2), (3, .int (nI b))] := hl
  refine lv_iconst (v := 0) hx hb dX12_compareBytes_0 (by decide) ?_
  refine lv_istore (lv' := [(4, .int 0), (0, .ref q), (1, .int (nI a)), (2, .ref q2), (3, .int (nI b))]) hx hb dX12_compareBytes_1 hl (by decide) rfl (fun ls hl => ?_)
  refine loop_r (fun k9 ls => ∃ (k : Nat), (k ≤ min la lb) ∧ min la lb - k = k9 ∧ lv_has ls 7 [(4, .int (nI k)), (0, .ref q), (1, .int (nI a)), (2, .ref q2), (3, .int (nI b))]) (fun k9 ls hI3 ih3 => ?_) (min la lb - 0) _ ⟨0, (by omega), rfl, lv_sub hl [0, 1, 2, 3, 4] rfl⟩
  obtain ⟨k, hn0, hm3, hl⟩ := hI3
  refine lv_iload hx hb dX12_compareBytes_3 (lv_at hl 0 rfl) ?_
  refine lv_aload_n hx hb dX12_compareBytes_5 rfl (lv_at hl 1 rfl) ?_
  refine lv_iload_n hx hb dX12_compareBytes_6 rfl (lv_at hl 2 rfl) ?_
  refine va_iald hx hb hK hP 0 0 rfl rfl (i := nI a) (vp_in_nI (n := a) (by omega) (by omega)) dX12_compareBytes_7 ?_
  refine kv (v := .int (f a)) (by rw [nI_clamp (by omega)]) ?_
  obtain ⟨n_1, hn_1, en_1⟩ : ∃ n9 : Nat, n9 ≤ la ∧ f a = nI n9 := id (hf)
  refine kv (v := .int (nI n_1)) (congrArg Value.int en_1) ?_
  refine lv_icmp_ge (tgt := 44) hx hb dX12_compareBytes_8 (by decide) (fun c_2 => ?_) (fun c_2 => ?_)
  · have nc_2 := cv_le (a := n_1) (b := k) (by omega) (by omega) c_2
    refine lv_iload hx hb dX12_compareBytes_44 (lv_at hl 0 rfl) ?_
    refine lv_aload_n hx hb dX12_compareBytes_46 rfl (lv_at hl 1 rfl) ?_
    refine lv_iload_n hx hb dX12_compareBytes_47 rfl (lv_at hl 2 rfl) ?_
    refine va_iald hx hb hK hP 0 0 rfl rfl (i := nI a) (vp_in_nI (n := a) (by omega) (by omega)) dX12_compareBytes_48 ?_
    refine kv (v := .int (f a)) (by rw [nI_clamp (by omega)]) ?_
    obtain ⟨n_3, hn_3, en_3⟩ : ∃ n9 : Nat, n9 ≤ la ∧ f a = nI n9 := id (hf)
    refine kv (v := .int (nI n_3)) (congrArg Value.int en_3) ?_
    refine lv_icmp_ne (tgt := 56) hx hb dX12_compareBytes_49 (by decide) (fun c_4 => ?_) (fun c_4 => ?_)
    · have nc_4 := cv_ne (a := k) (b := n_3) (by omega) (by omega) c_4
      refine lv_iconst (v := 0) hx hb dX12_compareBytes_56 (by decide) ?_
      refine lv_istore (lv' := [(5, .int 0), (4, .int (nI k)), (0, .ref q), (1, .int (nI a)), (2, .ref q2), (3, .int (nI b))]) hx hb dX12_compareBytes_57 hl (by decide) rfl (fun ls hl => ?_)
      refine lv_iload hx hb dX12_compareBytes_59 (lv_at hl 1 rfl) ?_
      refine lv_aload_n hx hb dX12_compareBytes_61 rfl (lv_at hl 4 rfl) ?_
      refine lv_iload_n hx hb dX12_compareBytes_62 rfl (lv_at hl 5 rfl) ?_
      refine va_iald hx hb hK hP 1 0 rfl rfl (i := nI b) (vp_in_nI (n := b) (by omega) (by omega)) dX12_compareBytes_63 ?_
      refine kv (v := .int (g b)) (by rw [nI_clamp (by omega)]) ?_
      obtain ⟨n_5, hn_5, en_5⟩ : ∃ n9 : Nat, n9 ≤ lb ∧ g b = nI n9 := id (hg)
      refine kv (v := .int (nI n_5)) (congrArg Value.int en_5) ?_
      refine lv_icmp_ne (tgt := 71) hx hb dX12_compareBytes_64 (by decide) (fun c_6 => ?_) (fun c_6 => ?_)
      · have nc_6 := cv_ne (a := k) (b := n_5) (by omega) (by omega) c_6
        refine lv_iconst (v := 0) hx hb dX12_compareBytes_71 (by decide) ?_
        refine lv_istore (lv' := [(6, .int 0), (5, .int 0), (4, .int (nI k)), (0, .ref q), (1, .int (nI a)), (2, .ref q2), (3, .int (nI b))]) hx hb dX12_compareBytes_72 hl (by decide) rfl (fun ls hl => ?_)
        refine lv_iload hx hb dX12_compareBytes_74 (lv_at hl 1 rfl) ?_
        refine lv_if_ne (tgt := 84) hx hb dX12_compareBytes_76 (by decide) (fun c_7 => absurd (by decide) c_7) (fun c_7 => ?_)
        refine lv_iload hx hb dX12_compareBytes_79 (lv_at hl 0 rfl) ?_
        refine lv_if_eq (tgt := 109) hx hb dX12_compareBytes_81 (by decide) (fun c_8 => ?_) (fun c_8 => absurd (by decide) c_8)
        refine lv_aload_n hx hb dX12_compareBytes_109 rfl (lv_at hl 3 rfl) ?_
        refine lv_iload_n hx hb dX12_compareBytes_110 rfl (lv_at hl 4 rfl) ?_
        refine lv_iconst (v := 1) hx hb dX12_compareBytes_111 (by decide) ?_
        refine lv_iadd hx hb dX12_compareBytes_112 ?_
        refine ki (v := (nI (a + 1))) (nI_add a 1) ?_
        refine lv_iload hx hb dX12_compareBytes_113 (lv_at hl 2 rfl) ?_
        refine lv_iadd hx hb dX12_compareBytes_115 ?_
        refine ki (v := (nI (a + 1 + k))) (nI_add (a + 1) k) ?_
        refine va_iald hx hb hK hP 0 0 rfl rfl (i := nI (a + 1 + k)) (vp_in_nI (n := (a + 1 + k)) (by omega) (by omega)) dX12_compareBytes_116 ?_
        refine kv (v := .int (f (a + 1 + k))) (by rw [nI_clamp (by omega)]) ?_
        refine lv_topi (fun x_9 ex_9 => ?_)
        refine lv_aload_n hx hb dX12_compareBytes_117 rfl (lv_at hl 5 rfl) ?_
        refine lv_iload_n hx hb dX12_compareBytes_118 rfl (lv_at hl 6 rfl) ?_
        refine lv_iconst (v := 1) hx hb dX12_compareBytes_119 (by decide) ?_
        refine lv_iadd hx hb dX12_compareBytes_120 ?_
        refine ki (v := (nI (b + 1))) (nI_add b 1) ?_
        refine lv_iload hx hb dX12_compareBytes_121 (lv_at hl 2 rfl) ?_
        refine lv_iadd hx hb dX12_compareBytes_123 ?_
        refine ki (v := (nI (b + 1 + k))) (nI_add (b + 1) k) ?_
        refine va_iald hx hb hK hP 1 0 rfl rfl (i := nI (b + 1 + k)) (vp_in_nI (n := (b + 1 + k)) (by omega) (by omega)) dX12_compareBytes_124 ?_
        refine kv (v := .int (g (b + 1 + k))) (by rw [nI_clamp (by omega)]) ?_
        refine lv_topi (fun x_10 ex_10 => ?_)
        refine lv_icmp_le (tgt := 132) hx hb dX12_compareBytes_125 (by decide) (fun c_11 => ?_) (fun c_11 => ?_)
        · refine lv_iconst (v := 2) hx hb dX12_compareBytes_132 (by decide) ?_
          exact cr_iret hx hb hr hlk rfl 2 rfl (by omega) dX12_compareBytes_133
        · refine lv_iconst (v := 1) hx hb dX12_compareBytes_128 (by decide) ?_
          refine lv_goto (tgt := 133) hx hb dX12_compareBytes_129 (by decide) ?_
          exact cr_iret hx hb hr hlk rfl 1 rfl (by omega) dX12_compareBytes_133
      · have nc_6 := cv_eq (a := k) (b := n_5) (by omega) (by omega) c_6
        refine lv_iconst (v := 1) hx hb dX12_compareBytes_67 (by decide) ?_
        refine lv_goto (tgt := 72) hx hb dX12_compareBytes_68 (by decide) ?_
        refine lv_istore (lv' := [(6, .int 1), (5, .int 0), (4, .int (nI k)), (0, .ref q), (1, .int (nI a)), (2, .ref q2), (3, .int (nI b))]) hx hb dX12_compareBytes_72 hl (by decide) rfl (fun ls hl => ?_)
        refine lv_iload hx hb dX12_compareBytes_74 (lv_at hl 1 rfl) ?_
        refine lv_if_ne (tgt := 84) hx hb dX12_compareBytes_76 (by decide) (fun c_12 => absurd (by decide) c_12) (fun c_12 => ?_)
        refine lv_iload hx hb dX12_compareBytes_79 (lv_at hl 0 rfl) ?_
        refine lv_if_eq (tgt := 109) hx hb dX12_compareBytes_81 (by decide) (fun c_13 => absurd c_13 (by decide)) (fun c_13 => ?_)
        refine lv_iload hx hb dX12_compareBytes_84 (lv_at hl 1 rfl) ?_
        refine lv_if_eq (tgt := 98) hx hb dX12_compareBytes_86 (by decide) (fun c_14 => ?_) (fun c_14 => absurd (by decide) c_14)
        refine lv_iload hx hb dX12_compareBytes_98 (lv_at hl 1 rfl) ?_
        refine lv_if_eq (tgt := 107) hx hb dX12_compareBytes_100 (by decide) (fun c_15 => ?_) (fun c_15 => absurd (by decide) c_15)
        refine lv_iconst (v := 1) hx hb dX12_compareBytes_107 (by decide) ?_
        exact cr_iret hx hb hr hlk rfl 1 rfl (by omega) dX12_compareBytes_108
    · have nc_4 := cv_eq (a := k) (b := n_3) (by omega) (by omega) c_4
      refine lv_iconst (v := 1) hx hb dX12_compareBytes_52 (by decide) ?_
      refine lv_goto (tgt := 57) hx hb dX12_compareBytes_53 (by decide) ?_
      refine lv_istore (lv' := [(5, .int 1), (4, .int (nI k)), (0, .ref q), (1, .int (nI a)), (2, .ref q2), (3, .int (nI b))]) hx hb dX12_compareBytes_57 hl (by decide) rfl (fun ls hl => ?_)
      refine lv_iload hx hb dX12_compareBytes_59 (lv_at hl 1 rfl) ?_
      refine lv_aload_n hx hb dX12_compareBytes_61 rfl (lv_at hl 4 rfl) ?_
      refine lv_iload_n hx hb dX12_compareBytes_62 rfl (lv_at hl 5 rfl) ?_
      refine va_iald hx hb hK hP 1 0 rfl rfl (i := nI b) (vp_in_nI (n := b) (by omega) (by omega)) dX12_compareBytes_63 ?_
      refine kv (v := .int (g b)) (by rw [nI_clamp (by omega)]) ?_
      obtain ⟨n_16, hn_16, en_16⟩ : ∃ n9 : Nat, n9 ≤ lb ∧ g b = nI n9 := id (hg)
      refine kv (v := .int (nI n_16)) (congrArg Value.int en_16) ?_
      refine lv_icmp_ne (tgt := 71) hx hb dX12_compareBytes_64 (by decide) (fun c_17 => ?_) (fun c_17 => ?_)
      · have nc_17 := cv_ne (a := k) (b := n_16) (by omega) (by omega) c_17
        refine lv_iconst (v := 0) hx hb dX12_compareBytes_71 (by decide) ?_
        refine lv_istore (lv' := [(6, .int 0), (5, .int 1), (4, .int (nI k)), (0, .ref q), (1, .int (nI a)), (2, .ref q2), (3, .int (nI b))]) hx hb dX12_compareBytes_72 hl (by decide) rfl (fun ls hl => ?_)
        refine lv_iload hx hb dX12_compareBytes_74 (lv_at hl 1 rfl) ?_
        refine lv_if_ne (tgt := 84) hx hb dX12_compareBytes_76 (by decide) (fun c_18 => ?_) (fun c_18 => absurd c_18 (by decide))
        refine lv_iload hx hb dX12_compareBytes_84 (lv_at hl 1 rfl) ?_
        refine lv_if_eq (tgt := 98) hx hb dX12_compareBytes_86 (by decide) (fun c_19 => absurd c_19 (by decide)) (fun c_19 => ?_)
        refine lv_iload hx hb dX12_compareBytes_89 (lv_at hl 0 rfl) ?_
        refine lv_if_eq (tgt := 98) hx hb dX12_compareBytes_91 (by decide) (fun c_20 => ?_) (fun c_20 => absurd (by decide) c_20)
        refine lv_iload hx hb dX12_compareBytes_98 (lv_at hl 1 rfl) ?_
        refine lv_if_eq (tgt := 107) hx hb dX12_compareBytes_100 (by decide) (fun c_21 => absurd c_21 (by decide)) (fun c_21 => ?_)
        refine lv_iconst (v := 2) hx hb dX12_compareBytes_103 (by decide) ?_
        refine lv_goto (tgt := 108) hx hb dX12_compareBytes_104 (by decide) ?_
        exact cr_iret hx hb hr hlk rfl 2 rfl (by omega) dX12_compareBytes_108
      · have nc_17 := cv_eq (a := k) (b := n_16) (by omega) (by omega) c_17
        refine lv_iconst (v := 1) hx hb dX12_compareBytes_67 (by decide) ?_
        refine lv_goto (tgt := 72) hx hb dX12_compareBytes_68 (by decide) ?_
        refine lv_istore (lv' := [(6, .int 1), (5, .int 1), (4, .int (nI k)), (0, .ref q), (1, .int (nI a)), (2, .ref q2), (3, .int (nI b))]) hx hb dX12_compareBytes_72 hl (by decide) rfl (fun ls hl => ?_)
        refine lv_iload hx hb dX12_compareBytes_74 (lv_at hl 1 rfl) ?_
        refine lv_if_ne (tgt := 84) hx hb dX12_compareBytes_76 (by decide) (fun c_22 => ?_) (fun c_22 => absurd c_22 (by decide))
        refine lv_iload hx hb dX12_compareBytes_84 (lv_at hl 1 rfl) ?_
        refine lv_if_eq (tgt := 98) hx hb dX12_compareBytes_86 (by decide) (fun c_23 => absurd c_23 (by decide)) (fun c_23 => ?_)
        refine lv_iload hx hb dX12_compareBytes_89 (lv_at hl 0 rfl) ?_
        refine lv_if_eq (tgt := 98) hx hb dX12_compareBytes_91 (by decide) (fun c_24 => absurd c_24 (by decide)) (fun c_24 => ?_)
        refine lv_iconst (v := 0) hx hb dX12_compareBytes_94 (by decide) ?_
        refine lv_goto (tgt := 108) hx hb dX12_compareBytes_95 (by decide) ?_
        exact cr_iret hx hb hr hlk rfl 0 rfl (by omega) dX12_compareBytes_108
  · have nc_2 := cv_nle (a := n_1) (b := k) (by omega) (by omega) c_2
    refine lv_iload hx hb dX12_compareBytes_11 (lv_at hl 0 rfl) ?_
    refine lv_aload_n hx hb dX12_compareBytes_13 rfl (lv_at hl 3 rfl) ?_
    refine lv_iload_n hx hb dX12_compareBytes_14 rfl (lv_at hl 4 rfl) ?_
    refine va_iald hx hb hK hP 1 0 rfl rfl (i := nI b) (vp_in_nI (n := b) (by omega) (by omega)) dX12_compareBytes_15 ?_
    refine kv (v := .int (g b)) (by rw [nI_clamp (by omega)]) ?_
    obtain ⟨n_25, hn_25, en_25⟩ : ∃ n9 : Nat, n9 ≤ lb ∧ g b = nI n9 := id (hg)
    refine kv (v := .int (nI n_25)) (congrArg Value.int en_25) ?_
    refine lv_icmp_ge (tgt := 44) hx hb dX12_compareBytes_16 (by decide) (fun c_26 => ?_) (fun c_26 => ?_)
    · have nc_26 := cv_le (a := n_25) (b := k) (by omega) (by omega) c_26
      refine lv_iload hx hb dX12_compareBytes_44 (lv_at hl 0 rfl) ?_
      refine lv_aload_n hx hb dX12_compareBytes_46 rfl (lv_at hl 1 rfl) ?_
      refine lv_iload_n hx hb dX12_compareBytes_47 rfl (lv_at hl 2 rfl) ?_
      refine va_iald hx hb hK hP 0 0 rfl rfl (i := nI a) (vp_in_nI (n := a) (by omega) (by omega)) dX12_compareBytes_48 ?_
      refine kv (v := .int (f a)) (by rw [nI_clamp (by omega)]) ?_
      obtain ⟨n_27, hn_27, en_27⟩ : ∃ n9 : Nat, n9 ≤ la ∧ f a = nI n9 := id (hf)
      refine kv (v := .int (nI n_27)) (congrArg Value.int en_27) ?_
      refine lv_icmp_ne (tgt := 56) hx hb dX12_compareBytes_49 (by decide) (fun c_28 => ?_) (fun c_28 => ?_)
      · have nc_28 := cv_ne (a := k) (b := n_27) (by omega) (by omega) c_28
        refine lv_iconst (v := 0) hx hb dX12_compareBytes_56 (by decide) ?_
        refine lv_istore (lv' := [(5, .int 0), (4, .int (nI k)), (0, .ref q), (1, .int (nI a)), (2, .ref q2), (3, .int (nI b))]) hx hb dX12_compareBytes_57 hl (by decide) rfl (fun ls hl => ?_)
        refine lv_iload hx hb dX12_compareBytes_59 (lv_at hl 1 rfl) ?_
        refine lv_aload_n hx hb dX12_compareBytes_61 rfl (lv_at hl 4 rfl) ?_
        refine lv_iload_n hx hb dX12_compareBytes_62 rfl (lv_at hl 5 rfl) ?_
        refine va_iald hx hb hK hP 1 0 rfl rfl (i := nI b) (vp_in_nI (n := b) (by omega) (by omega)) dX12_compareBytes_63 ?_
        refine kv (v := .int (g b)) (by rw [nI_clamp (by omega)]) ?_
        obtain ⟨n_29, hn_29, en_29⟩ : ∃ n9 : Nat, n9 ≤ lb ∧ g b = nI n9 := id (hg)
        refine kv (v := .int (nI n_29)) (congrArg Value.int en_29) ?_
        refine lv_icmp_ne (tgt := 71) hx hb dX12_compareBytes_64 (by decide) (fun c_30 => ?_) (fun c_30 => ?_)
        · have nc_30 := cv_ne (a := k) (b := n_29) (by omega) (by omega) c_30
          refine lv_iconst (v := 0) hx hb dX12_compareBytes_71 (by decide) ?_
          refine lv_istore (lv' := [(6, .int 0), (5, .int 0), (4, .int (nI k)), (0, .ref q), (1, .int (nI a)), (2, .ref q2), (3, .int (nI b))]) hx hb dX12_compareBytes_72 hl (by decide) rfl (fun ls hl => ?_)
          refine lv_iload hx hb dX12_compareBytes_74 (lv_at hl 1 rfl) ?_
          refine lv_if_ne (tgt := 84) hx hb dX12_compareBytes_76 (by decide) (fun c_31 => absurd (by decide) c_31) (fun c_31 => ?_)
          refine lv_iload hx hb dX12_compareBytes_79 (lv_at hl 0 rfl) ?_
          refine lv_if_eq (tgt := 109) hx hb dX12_compareBytes_81 (by decide) (fun c_32 => ?_) (fun c_32 => absurd (by decide) c_32)
          refine lv_aload_n hx hb dX12_compareBytes_109 rfl (lv_at hl 3 rfl) ?_
          refine lv_iload_n hx hb dX12_compareBytes_110 rfl (lv_at hl 4 rfl) ?_
          refine lv_iconst (v := 1) hx hb dX12_compareBytes_111 (by decide) ?_
          refine lv_iadd hx hb dX12_compareBytes_112 ?_
          refine ki (v := (nI (a + 1))) (nI_add a 1) ?_
          refine lv_iload hx hb dX12_compareBytes_113 (lv_at hl 2 rfl) ?_
          refine lv_iadd hx hb dX12_compareBytes_115 ?_
          refine ki (v := (nI (a + 1 + k))) (nI_add (a + 1) k) ?_
          refine va_iald hx hb hK hP 0 0 rfl rfl (i := nI (a + 1 + k)) (vp_in_nI (n := (a + 1 + k)) (by omega) (by omega)) dX12_compareBytes_116 ?_
          refine kv (v := .int (f (a + 1 + k))) (by rw [nI_clamp (by omega)]) ?_
          refine lv_topi (fun x_33 ex_33 => ?_)
          refine lv_aload_n hx hb dX12_compareBytes_117 rfl (lv_at hl 5 rfl) ?_
          refine lv_iload_n hx hb dX12_compareBytes_118 rfl (lv_at hl 6 rfl) ?_
          refine lv_iconst (v := 1) hx hb dX12_compareBytes_119 (by decide) ?_
          refine lv_iadd hx hb dX12_compareBytes_120 ?_
          refine ki (v := (nI (b + 1))) (nI_add b 1) ?_
          refine lv_iload hx hb dX12_compareBytes_121 (lv_at hl 2 rfl) ?_
          refine lv_iadd hx hb dX12_compareBytes_123 ?_
          refine ki (v := (nI (b + 1 + k))) (nI_add (b + 1) k) ?_
          refine va_iald hx hb hK hP 1 0 rfl rfl (i := nI (b + 1 + k)) (vp_in_nI (n := (b + 1 + k)) (by omega) (by omega)) dX12_compareBytes_124 ?_
          refine kv (v := .int (g (b + 1 + k))) (by rw [nI_clamp (by omega)]) ?_
          refine lv_topi (fun x_34 ex_34 => ?_)
          refine lv_icmp_le (tgt := 132) hx hb dX12_compareBytes_125 (by decide) (fun c_35 => ?_) (fun c_35 => ?_)
          · refine lv_iconst (v := 2) hx hb dX12_compareBytes_132 (by decide) ?_
            exact cr_iret hx hb hr hlk rfl 2 rfl (by omega) dX12_compareBytes_133
          · refine lv_iconst (v := 1) hx hb dX12_compareBytes_128 (by decide) ?_
            refine lv_goto (tgt := 133) hx hb dX12_compareBytes_129 (by decide) ?_
            exact cr_iret hx hb hr hlk rfl 1 rfl (by omega) dX12_compareBytes_133
        · have nc_30 := cv_eq (a := k) (b := n_29) (by omega) (by omega) c_30
          refine lv_iconst (v := 1) hx hb dX12_compareBytes_67 (by decide) ?_
          refine lv_goto (tgt := 72) hx hb dX12_compareBytes_68 (by decide) ?_
          refine lv_istore (lv' := [(6, .int 1), (5, .int 0), (4, .int (nI k)), (0, .ref q), (1, .int (nI a)), (2, .ref q2), (3, .int (nI b))]) hx hb dX12_compareBytes_72 hl (by decide) rfl (fun ls hl => ?_)
          refine lv_iload hx hb dX12_compareBytes_74 (lv_at hl 1 rfl) ?_
          refine lv_if_ne (tgt := 84) hx hb dX12_compareBytes_76 (by decide) (fun c_36 => absurd (by decide) c_36) (fun c_36 => ?_)
          refine lv_iload hx hb dX12_compareBytes_79 (lv_at hl 0 rfl) ?_
          refine lv_if_eq (tgt := 109) hx hb dX12_compareBytes_81 (by decide) (fun c_37 => absurd c_37 (by decide)) (fun c_37 => ?_)
          refine lv_iload hx hb dX12_compareBytes_84 (lv_at hl 1 rfl) ?_
          refine lv_if_eq (tgt := 98) hx hb dX12_compareBytes_86 (by decide) (fun c_38 => ?_) (fun c_38 => absurd (by decide) c_38)
          refine lv_iload hx hb dX12_compareBytes_98 (lv_at hl 1 rfl) ?_
          refine lv_if_eq (tgt := 107) hx hb dX12_compareBytes_100 (by decide) (fun c_39 => ?_) (fun c_39 => absurd (by decide) c_39)
          refine lv_iconst (v := 1) hx hb dX12_compareBytes_107 (by decide) ?_
          exact cr_iret hx hb hr hlk rfl 1 rfl (by omega) dX12_compareBytes_108
      · have nc_28 := cv_eq (a := k) (b := n_27) (by omega) (by omega) c_28
        refine lv_iconst (v := 1) hx hb dX12_compareBytes_52 (by decide) ?_
        refine lv_goto (tgt := 57) hx hb dX12_compareBytes_53 (by decide) ?_
        refine lv_istore (lv' := [(5, .int 1), (4, .int (nI k)), (0, .ref q), (1, .int (nI a)), (2, .ref q2), (3, .int (nI b))]) hx hb dX12_compareBytes_57 hl (by decide) rfl (fun ls hl => ?_)
        refine lv_iload hx hb dX12_compareBytes_59 (lv_at hl 1 rfl) ?_
        refine lv_aload_n hx hb dX12_compareBytes_61 rfl (lv_at hl 4 rfl) ?_
        refine lv_iload_n hx hb dX12_compareBytes_62 rfl (lv_at hl 5 rfl) ?_
        refine va_iald hx hb hK hP 1 0 rfl rfl (i := nI b) (vp_in_nI (n := b) (by omega) (by omega)) dX12_compareBytes_63 ?_
        refine kv (v := .int (g b)) (by rw [nI_clamp (by omega)]) ?_
        obtain ⟨n_40, hn_40, en_40⟩ : ∃ n9 : Nat, n9 ≤ lb ∧ g b = nI n9 := id (hg)
        refine kv (v := .int (nI n_40)) (congrArg Value.int en_40) ?_
        refine lv_icmp_ne (tgt := 71) hx hb dX12_compareBytes_64 (by decide) (fun c_41 => ?_) (fun c_41 => ?_)
        · have nc_41 := cv_ne (a := k) (b := n_40) (by omega) (by omega) c_41
          refine lv_iconst (v := 0) hx hb dX12_compareBytes_71 (by decide) ?_
          refine lv_istore (lv' := [(6, .int 0), (5, .int 1), (4, .int (nI k)), (0, .ref q), (1, .int (nI a)), (2, .ref q2), (3, .int (nI b))]) hx hb dX12_compareBytes_72 hl (by decide) rfl (fun ls hl => ?_)
          refine lv_iload hx hb dX12_compareBytes_74 (lv_at hl 1 rfl) ?_
          refine lv_if_ne (tgt := 84) hx hb dX12_compareBytes_76 (by decide) (fun c_42 => ?_) (fun c_42 => absurd c_42 (by decide))
          refine lv_iload hx hb dX12_compareBytes_84 (lv_at hl 1 rfl) ?_
          refine lv_if_eq (tgt := 98) hx hb dX12_compareBytes_86 (by decide) (fun c_43 => absurd c_43 (by decide)) (fun c_43 => ?_)
          refine lv_iload hx hb dX12_compareBytes_89 (lv_at hl 0 rfl) ?_
          refine lv_if_eq (tgt := 98) hx hb dX12_compareBytes_91 (by decide) (fun c_44 => ?_) (fun c_44 => absurd (by decide) c_44)
          refine lv_iload hx hb dX12_compareBytes_98 (lv_at hl 1 rfl) ?_
          refine lv_if_eq (tgt := 107) hx hb dX12_compareBytes_100 (by decide) (fun c_45 => absurd c_45 (by decide)) (fun c_45 => ?_)
          refine lv_iconst (v := 2) hx hb dX12_compareBytes_103 (by decide) ?_
          refine lv_goto (tgt := 108) hx hb dX12_compareBytes_104 (by decide) ?_
          exact cr_iret hx hb hr hlk rfl 2 rfl (by omega) dX12_compareBytes_108
        · have nc_41 := cv_eq (a := k) (b := n_40) (by omega) (by omega) c_41
          refine lv_iconst (v := 1) hx hb dX12_compareBytes_67 (by decide) ?_
          refine lv_goto (tgt := 72) hx hb dX12_compareBytes_68 (by decide) ?_
          refine lv_istore (lv' := [(6, .int 1), (5, .int 1), (4, .int (nI k)), (0, .ref q), (1, .int (nI a)), (2, .ref q2), (3, .int (nI b))]) hx hb dX12_compareBytes_72 hl (by decide) rfl (fun ls hl => ?_)
          refine lv_iload hx hb dX12_compareBytes_74 (lv_at hl 1 rfl) ?_
          refine lv_if_ne (tgt := 84) hx hb dX12_compareBytes_76 (by decide) (fun c_46 => ?_) (fun c_46 => absurd c_46 (by decide))
          refine lv_iload hx hb dX12_compareBytes_84 (lv_at hl 1 rfl) ?_
          refine lv_if_eq (tgt := 98) hx hb dX12_compareBytes_86 (by decide) (fun c_47 => absurd c_47 (by decide)) (fun c_47 => ?_)
          refine lv_iload hx hb dX12_compareBytes_89 (lv_at hl 0 rfl) ?_
          refine lv_if_eq (tgt := 98) hx hb dX12_compareBytes_91 (by decide) (fun c_48 => absurd c_48 (by decide)) (fun c_48 => ?_)
          refine lv_iconst (v := 0) hx hb dX12_compareBytes_94 (by decide) ?_
          refine lv_goto (tgt := 108) hx hb dX12_compareBytes_95 (by decide) ?_
          exact cr_iret hx hb hr hlk rfl 0 rfl (by omega) dX12_compareBytes_108
    · have nc_26 := cv_nle (a := n_25) (b := k) (by omega) (by omega) c_26
      refine lv_aload_n hx hb dX12_compareBytes_19 rfl (lv_at hl 1 rfl) ?_
      refine lv_iload_n hx hb dX12_compareBytes_20 rfl (lv_at hl 2 rfl) ?_
      refine lv_iconst (v := 1) hx hb dX12_compareBytes_21 (by decide) ?_
      refine lv_iadd hx hb dX12_compareBytes_22 ?_
      refine ki (v := (nI (a + 1))) (nI_add a 1) ?_
      refine lv_iload hx hb dX12_compareBytes_23 (lv_at hl 0 rfl) ?_
      refine lv_iadd hx hb dX12_compareBytes_25 ?_
      refine ki (v := (nI (a + 1 + k))) (nI_add (a + 1) k) ?_
      refine va_iald hx hb hK hP 0 0 rfl rfl (i := nI (a + 1 + k)) (vp_in_nI (n := (a + 1 + k)) (by omega) (by omega)) dX12_compareBytes_26 ?_
      refine kv (v := .int (f (a + 1 + k))) (by rw [nI_clamp (by omega)]) ?_
      refine lv_topi (fun x_49 ex_49 => ?_)
      refine lv_aload_n hx hb dX12_compareBytes_27 rfl (lv_at hl 3 rfl) ?_
      refine lv_iload_n hx hb dX12_compareBytes_28 rfl (lv_at hl 4 rfl) ?_
      refine lv_iconst (v := 1) hx hb dX12_compareBytes_29 (by decide) ?_
      refine lv_iadd hx hb dX12_compareBytes_30 ?_
      refine ki (v := (nI (b + 1))) (nI_add b 1) ?_
      refine lv_iload hx hb dX12_compareBytes_31 (lv_at hl 0 rfl) ?_
      refine lv_iadd hx hb dX12_compareBytes_33 ?_
      refine ki (v := (nI (b + 1 + k))) (nI_add (b + 1) k) ?_
      refine va_iald hx hb hK hP 1 0 rfl rfl (i := nI (b + 1 + k)) (vp_in_nI (n := (b + 1 + k)) (by omega) (by omega)) dX12_compareBytes_34 ?_
      refine kv (v := .int (g (b + 1 + k))) (by rw [nI_clamp (by omega)]) ?_
      refine lv_topi (fun x_50 ex_50 => ?_)
      refine lv_icmp_ne (tgt := 44) hx hb dX12_compareBytes_35 (by decide) (fun c_51 => ?_) (fun c_51 => ?_)
      · refine lv_iload hx hb dX12_compareBytes_44 (lv_at hl 0 rfl) ?_
        refine lv_aload_n hx hb dX12_compareBytes_46 rfl (lv_at hl 1 rfl) ?_
        refine lv_iload_n hx hb dX12_compareBytes_47 rfl (lv_at hl 2 rfl) ?_
        refine va_iald hx hb hK hP 0 0 rfl rfl (i := nI a) (vp_in_nI (n := a) (by omega) (by omega)) dX12_compareBytes_48 ?_
        refine kv (v := .int (f a)) (by rw [nI_clamp (by omega)]) ?_
        obtain ⟨n_52, hn_52, en_52⟩ : ∃ n9 : Nat, n9 ≤ la ∧ f a = nI n9 := id (hf)
        refine kv (v := .int (nI n_52)) (congrArg Value.int en_52) ?_
        refine lv_icmp_ne (tgt := 56) hx hb dX12_compareBytes_49 (by decide) (fun c_53 => ?_) (fun c_53 => ?_)
        · have nc_53 := cv_ne (a := k) (b := n_52) (by omega) (by omega) c_53
          refine lv_iconst (v := 0) hx hb dX12_compareBytes_56 (by decide) ?_
          refine lv_istore (lv' := [(5, .int 0), (4, .int (nI k)), (0, .ref q), (1, .int (nI a)), (2, .ref q2), (3, .int (nI b))]) hx hb dX12_compareBytes_57 hl (by decide) rfl (fun ls hl => ?_)
          refine lv_iload hx hb dX12_compareBytes_59 (lv_at hl 1 rfl) ?_
          refine lv_aload_n hx hb dX12_compareBytes_61 rfl (lv_at hl 4 rfl) ?_
          refine lv_iload_n hx hb dX12_compareBytes_62 rfl (lv_at hl 5 rfl) ?_
          refine va_iald hx hb hK hP 1 0 rfl rfl (i := nI b) (vp_in_nI (n := b) (by omega) (by omega)) dX12_compareBytes_63 ?_
          refine kv (v := .int (g b)) (by rw [nI_clamp (by omega)]) ?_
          obtain ⟨n_54, hn_54, en_54⟩ : ∃ n9 : Nat, n9 ≤ lb ∧ g b = nI n9 := id (hg)
          refine kv (v := .int (nI n_54)) (congrArg Value.int en_54) ?_
          refine lv_icmp_ne (tgt := 71) hx hb dX12_compareBytes_64 (by decide) (fun c_55 => ?_) (fun c_55 => ?_)
          · have nc_55 := cv_ne (a := k) (b := n_54) (by omega) (by omega) c_55
            refine lv_iconst (v := 0) hx hb dX12_compareBytes_71 (by decide) ?_
            refine lv_istore (lv' := [(6, .int 0), (5, .int 0), (4, .int (nI k)), (0, .ref q), (1, .int (nI a)), (2, .ref q2), (3, .int (nI b))]) hx hb dX12_compareBytes_72 hl (by decide) rfl (fun ls hl => ?_)
            refine lv_iload hx hb dX12_compareBytes_74 (lv_at hl 1 rfl) ?_
            refine lv_if_ne (tgt := 84) hx hb dX12_compareBytes_76 (by decide) (fun c_56 => absurd (by decide) c_56) (fun c_56 => ?_)
            refine lv_iload hx hb dX12_compareBytes_79 (lv_at hl 0 rfl) ?_
            refine lv_if_eq (tgt := 109) hx hb dX12_compareBytes_81 (by decide) (fun c_57 => ?_) (fun c_57 => absurd (by decide) c_57)
            refine lv_aload_n hx hb dX12_compareBytes_109 rfl (lv_at hl 3 rfl) ?_
            refine lv_iload_n hx hb dX12_compareBytes_110 rfl (lv_at hl 4 rfl) ?_
            refine lv_iconst (v := 1) hx hb dX12_compareBytes_111 (by decide) ?_
            refine lv_iadd hx hb dX12_compareBytes_112 ?_
            refine ki (v := (nI (a + 1))) (nI_add a 1) ?_
            refine lv_iload hx hb dX12_compareBytes_113 (lv_at hl 2 rfl) ?_
            refine lv_iadd hx hb dX12_compareBytes_115 ?_
            refine ki (v := (nI (a + 1 + k))) (nI_add (a + 1) k) ?_
            refine va_iald hx hb hK hP 0 0 rfl rfl (i := nI (a + 1 + k)) (vp_in_nI (n := (a + 1 + k)) (by omega) (by omega)) dX12_compareBytes_116 ?_
            refine kv (v := .int (f (a + 1 + k))) (by rw [nI_clamp (by omega)]) ?_
            refine lv_topi (fun x_58 ex_58 => ?_)
            refine lv_aload_n hx hb dX12_compareBytes_117 rfl (lv_at hl 5 rfl) ?_
            refine lv_iload_n hx hb dX12_compareBytes_118 rfl (lv_at hl 6 rfl) ?_
            refine lv_iconst (v := 1) hx hb dX12_compareBytes_119 (by decide) ?_
            refine lv_iadd hx hb dX12_compareBytes_120 ?_
            refine ki (v := (nI (b + 1))) (nI_add b 1) ?_
            refine lv_iload hx hb dX12_compareBytes_121 (lv_at hl 2 rfl) ?_
            refine lv_iadd hx hb dX12_compareBytes_123 ?_
            refine ki (v := (nI (b + 1 + k))) (nI_add (b + 1) k) ?_
            refine va_iald hx hb hK hP 1 0 rfl rfl (i := nI (b + 1 + k)) (vp_in_nI (n := (b + 1 + k)) (by omega) (by omega)) dX12_compareBytes_124 ?_
            refine kv (v := .int (g (b + 1 + k))) (by rw [nI_clamp (by omega)]) ?_
            refine lv_topi (fun x_59 ex_59 => ?_)
            refine lv_icmp_le (tgt := 132) hx hb dX12_compareBytes_125 (by decide) (fun c_60 => ?_) (fun c_60 => ?_)
            · refine lv_iconst (v := 2) hx hb dX12_compareBytes_132 (by decide) ?_
              exact cr_iret hx hb hr hlk rfl 2 rfl (by omega) dX12_compareBytes_133
            · refine lv_iconst (v := 1) hx hb dX12_compareBytes_128 (by decide) ?_
              refine lv_goto (tgt := 133) hx hb dX12_compareBytes_129 (by decide) ?_
              exact cr_iret hx hb hr hlk rfl 1 rfl (by omega) dX12_compareBytes_133
          · have nc_55 := cv_eq (a := k) (b := n_54) (by omega) (by omega) c_55
            refine lv_iconst (v := 1) hx hb dX12_compareBytes_67 (by decide) ?_
            refine lv_goto (tgt := 72) hx hb dX12_compareBytes_68 (by decide) ?_
            refine lv_istore (lv' := [(6, .int 1), (5, .int 0), (4, .int (nI k)), (0, .ref q), (1, .int (nI a)), (2, .ref q2), (3, .int (nI b))]) hx hb dX12_compareBytes_72 hl (by decide) rfl (fun ls hl => ?_)
            refine lv_iload hx hb dX12_compareBytes_74 (lv_at hl 1 rfl) ?_
            refine lv_if_ne (tgt := 84) hx hb dX12_compareBytes_76 (by decide) (fun c_61 => absurd (by decide) c_61) (fun c_61 => ?_)
            refine lv_iload hx hb dX12_compareBytes_79 (lv_at hl 0 rfl) ?_
            refine lv_if_eq (tgt := 109) hx hb dX12_compareBytes_81 (by decide) (fun c_62 => absurd c_62 (by decide)) (fun c_62 => ?_)
            refine lv_iload hx hb dX12_compareBytes_84 (lv_at hl 1 rfl) ?_
            refine lv_if_eq (tgt := 98) hx hb dX12_compareBytes_86 (by decide) (fun c_63 => ?_) (fun c_63 => absurd (by decide) c_63)
            refine lv_iload hx hb dX12_compareBytes_98 (lv_at hl 1 rfl) ?_
            refine lv_if_eq (tgt := 107) hx hb dX12_compareBytes_100 (by decide) (fun c_64 => ?_) (fun c_64 => absurd (by decide) c_64)
            refine lv_iconst (v := 1) hx hb dX12_compareBytes_107 (by decide) ?_
            exact cr_iret hx hb hr hlk rfl 1 rfl (by omega) dX12_compareBytes_108
        · have nc_53 := cv_eq (a := k) (b := n_52) (by omega) (by omega) c_53
          refine lv_iconst (v := 1) hx hb dX12_compareBytes_52 (by decide) ?_
          refine lv_goto (tgt := 57) hx hb dX12_compareBytes_53 (by decide) ?_
          refine lv_istore (lv' := [(5, .int 1), (4, .int (nI k)), (0, .ref q), (1, .int (nI a)), (2, .ref q2), (3, .int (nI b))]) hx hb dX12_compareBytes_57 hl (by decide) rfl (fun ls hl => ?_)
          refine lv_iload hx hb dX12_compareBytes_59 (lv_at hl 1 rfl) ?_
          refine lv_aload_n hx hb dX12_compareBytes_61 rfl (lv_at hl 4 rfl) ?_
          refine lv_iload_n hx hb dX12_compareBytes_62 rfl (lv_at hl 5 rfl) ?_
          refine va_iald hx hb hK hP 1 0 rfl rfl (i := nI b) (vp_in_nI (n := b) (by omega) (by omega)) dX12_compareBytes_63 ?_
          refine kv (v := .int (g b)) (by rw [nI_clamp (by omega)]) ?_
          obtain ⟨n_65, hn_65, en_65⟩ : ∃ n9 : Nat, n9 ≤ lb ∧ g b = nI n9 := id (hg)
          refine kv (v := .int (nI n_65)) (congrArg Value.int en_65) ?_
          refine lv_icmp_ne (tgt := 71) hx hb dX12_compareBytes_64 (by decide) (fun c_66 => ?_) (fun c_66 => ?_)
          · have nc_66 := cv_ne (a := k) (b := n_65) (by omega) (by omega) c_66
            refine lv_iconst (v := 0) hx hb dX12_compareBytes_71 (by decide) ?_
            refine lv_istore (lv' := [(6, .int 0), (5, .int 1), (4, .int (nI k)), (0, .ref q), (1, .int (nI a)), (2, .ref q2), (3, .int (nI b))]) hx hb dX12_compareBytes_72 hl (by decide) rfl (fun ls hl => ?_)
            refine lv_iload hx hb dX12_compareBytes_74 (lv_at hl 1 rfl) ?_
            refine lv_if_ne (tgt := 84) hx hb dX12_compareBytes_76 (by decide) (fun c_67 => ?_) (fun c_67 => absurd c_67 (by decide))
            refine lv_iload hx hb dX12_compareBytes_84 (lv_at hl 1 rfl) ?_
            refine lv_if_eq (tgt := 98) hx hb dX12_compareBytes_86 (by decide) (fun c_68 => absurd c_68 (by decide)) (fun c_68 => ?_)
            refine lv_iload hx hb dX12_compareBytes_89 (lv_at hl 0 rfl) ?_
            refine lv_if_eq (tgt := 98) hx hb dX12_compareBytes_91 (by decide) (fun c_69 => ?_) (fun c_69 => absurd (by decide) c_69)
            refine lv_iload hx hb dX12_compareBytes_98 (lv_at hl 1 rfl) ?_
            refine lv_if_eq (tgt := 107) hx hb dX12_compareBytes_100 (by decide) (fun c_70 => absurd c_70 (by decide)) (fun c_70 => ?_)
            refine lv_iconst (v := 2) hx hb dX12_compareBytes_103 (by decide) ?_
            refine lv_goto (tgt := 108) hx hb dX12_compareBytes_104 (by decide) ?_
            exact cr_iret hx hb hr hlk rfl 2 rfl (by omega) dX12_compareBytes_108
          · have nc_66 := cv_eq (a := k) (b := n_65) (by omega) (by omega) c_66
            refine lv_iconst (v := 1) hx hb dX12_compareBytes_67 (by decide) ?_
            refine lv_goto (tgt := 72) hx hb dX12_compareBytes_68 (by decide) ?_
            refine lv_istore (lv' := [(6, .int 1), (5, .int 1), (4, .int (nI k)), (0, .ref q), (1, .int (nI a)), (2, .ref q2), (3, .int (nI b))]) hx hb dX12_compareBytes_72 hl (by decide) rfl (fun ls hl => ?_)
            refine lv_iload hx hb dX12_compareBytes_74 (lv_at hl 1 rfl) ?_
            refine lv_if_ne (tgt := 84) hx hb dX12_compareBytes_76 (by decide) (fun c_71 => ?_) (fun c_71 => absurd c_71 (by decide))
            refine lv_iload hx hb dX12_compareBytes_84 (lv_at hl 1 rfl) ?_
            refine lv_if_eq (tgt := 98) hx hb dX12_compareBytes_86 (by decide) (fun c_72 => absurd c_72 (by decide)) (fun c_72 => ?_)
            refine lv_iload hx hb dX12_compareBytes_89 (lv_at hl 0 rfl) ?_
            refine lv_if_eq (tgt := 98) hx hb dX12_compareBytes_91 (by decide) (fun c_73 => absurd c_73 (by decide)) (fun c_73 => ?_)
            refine lv_iconst (v := 0) hx hb dX12_compareBytes_94 (by decide) ?_
            refine lv_goto (tgt := 108) hx hb dX12_compareBytes_95 (by decide) ?_
            exact cr_iret hx hb hr hlk rfl 0 rfl (by omega) dX12_compareBytes_108
      · refine lv_iinc (v := (nI (k + 1))) (lv' := [(4, .int (nI (k + 1))), (0, .ref q), (1, .int (nI a)), (2, .ref q2), (3, .int (nI b))]) hx hb dX12_compareBytes_38 hl (k := 0) rfl (nI_i k) (by decide) rfl (fun ls hl => ?_)
        refine lv_goto (tgt := 3) hx hb dX12_compareBytes_41 (by decide) ?_
        exact ih3 _ _ (by omega) ⟨(k + 1), (by omega), rfl, lv_sub hl [0, 1, 2, 3, 4] rfl⟩
set_option maxHeartbeats 4000000 in
set_option maxRecDepth 100000 in
theorem s_X12_areSame (l : Launch) (D : va_G) (κ : Nat → ClassId) (q : Nat) (N : Nat) (f : Nat → Int32) (q2 : Nat) (N2 : Nat) (g : Nat → Int32) (a : Nat) (b : Nat) (la : Nat) (lb : Nat) (hN : N < 2147483648) (hN2 : N2 < 2147483648) (ha : a + 2 + min la lb ≤ N) (hb : b + 2 + min la lb ≤ N2) (hla : la ≤ 1000) (hlb : lb ≤ 1000) (hf : ∃ n9 : Nat, n9 ≤ la ∧ f a = nI n9) (hg : ∃ n9 : Nat, n9 ≤ lb ∧ g b = nI n9) : Cr l yX12_areSame (wl yX12_areSame cX12_areSame 4 (some .boolean)) { frames := 1, cells := 0, slots := 0, locals := 26 } D κ [.ref q, .int (nI a), .ref q2, .int (nI b)] (va_P D vwCl [(q, .inl (κ 0, N, .inl f)), (q2, .inl (κ 0, N2, .inl g))]) (fun r : Int32 => some (.int r)) (fun r : Int32 => (r = 1) ∨ (r = 0)) := by
  refine cr_of (by decide +kernel) (Nat.le_of_ble_eq_true rfl) ?_
  intro p e s m args below meth c ls hx hb hr hml hts hown hlk hKK hK hI hl
  have hP : va_P D vwCl [(q, .inl (κ 0, N, .inl f)), (q2, .inl (κ 0, N2, .inl g))] s.heap := hI
  have hFX : FX p s m args c cX12_areSame 4 RX12 := ⟨hx, hb, hml, hown, hts⟩
  have hl : lv_has ls 4 [(0, .ref q), (1, .int (nI a)), (2, .ref q2), (3, .int (nI b))] := hl
  refine lv_aload_n hx hb dX12_areSame_0 rfl (lv_at hl 0 rfl) ?_
  refine lv_iload_n hx hb dX12_areSame_1 rfl (lv_at hl 1 rfl) ?_
  refine lv_aload_n hx hb dX12_areSame_2 rfl (lv_at hl 2 rfl) ?_
  refine lv_iload_n hx hb dX12_areSame_3 rfl (lv_at hl 3 rfl) ?_
  refine cr_S (As := [.ref q, .int (nI a), .ref q2, .int (nI b)]) (rest := []) hFX hKK (s_X12_compareBytes l D κ q N f q2 N2 g a b la lb (by first | assumption | omega) (by first | assumption | omega) (by omega) (by omega) (by omega) (by omega) (by assumption) (by assumption)) 4 gS_X12_160 hdS_X12_compareBytes rfl rfl ⟨Nat.le_of_ble_eq_true rfl, Nat.le_of_ble_eq_true rfl⟩ rfl rfl (Nat.le_of_ble_eq_true rfl) dX12_areSame_4 ⟨Nat.le_of_ble_eq_true rfl, Nat.le_of_ble_eq_true rfl⟩ hl.1 (hP.sub [0, 1] rfl) (fun n_1 hp_2 => ?_)
  have hp_2 : n_1 ≤ 2 := hp_2
  refine W.eq (g2 := F0 m 7 ls [.int (nI n_1)]) rfl ?_
  refine lv_if_ne (tgt := 14) hx hb dX12_areSame_7 (by decide) (fun c_3 => ?_) (fun c_3 => ?_)
  · have nc_3 := cv_ne (a := n_1) (b := 0) (by omega) (by omega) c_3
    refine lv_iconst (v := 0) hx hb dX12_areSame_14 (by decide) ?_
    exact cr_iret hx hb hr hlk rfl 0 rfl (by first | exact Or.inr ((rfl))) dX12_areSame_15
  · have nc_3 := cv_eq (a := n_1) (b := 0) (by omega) (by omega) c_3
    refine lv_iconst (v := 1) hx hb dX12_areSame_10 (by decide) ?_
    refine lv_goto (tgt := 15) hx hb dX12_areSame_11 (by decide) ?_
    exact cr_iret hx hb hr hlk rfl 1 rfl (by first | exact Or.inl (rfl)) dX12_areSame_15
set_option maxHeartbeats 4000000 in
set_option maxRecDepth 100000 in
theorem s_X12_compareBy (l : Launch) (D : va_G) (κ : Nat → ClassId) (q : Nat) (N : Nat) (f : Nat → Int32) (q2 : Nat) (N2 : Nat) (g : Nat → Int32) (a : Nat) (b : Nat) (zt : Int32) (hN : N < 2147483648) (hN2 : N2 < 2147483648) (ha : a + 22 ≤ N) (hb : b + 22 ≤ N2) (hf : ∃ n9 : Nat, n9 ≤ 20 ∧ f a = nI n9) (hg : ∃ n9 : Nat, n9 ≤ 20 ∧ g b = nI n9) : Cr l yX12_compareBy (wl yX12_compareBy cX12_compareBy 9 (some .int)) { frames := 5, cells := 0, slots := 0, locals := 119 } D κ [.ref q, .int (nI a), .ref q2, .int (nI b), .int zt] (va_P D vwCl [(q, .inl (κ 0, N, .inl f)), (q2, .inl (κ 0, N2, .inl g))]) (fun n : Nat => some (.int (nI n))) (fun n : Nat => n ≤ 2) := by
  refine cr_of (by decide +kernel) (Nat.le_of_ble_eq_true rfl) ?_
  intro p e s m args below meth c ls hx hb hr hml hts hown hlk hKK hK hI hl
  have hP : va_P D vwCl [(q, .inl (κ 0, N, .inl f)), (q2, .inl (κ 0, N2, .inl g))] s.heap := hI
  have hFX : FX p s m args c cX12_compareBy 9 RX12 := ⟨hx, hb, hml, hown, hts⟩
  have hl : lv_has ls 9 [(0, .ref q), (1, .int (nI a)), (2, .ref q2), (3, .int (nI b)), (4, .int zt)] := hl
  refine lv_aload_n hx hb dX12_compareBy_0 rfl (lv_at hl 0 rfl) ?_
  refine lv_iload_n hx hb dX12_compareBy_1 rfl (lv_at hl 1 rfl) ?_
  refine va_iald hx hb hK hP 0 0 rfl rfl (i := nI a) (vp_in_nI (n := a) (by omega) (by omega)) dX12_compareBy_2 ?_
  refine kv (v := .int (f a)) (by rw [nI_clamp (by omega)]) ?_
  obtain ⟨n_1, hn_1, en_1⟩ : ∃ n9 : Nat, n9 ≤ 20 ∧ f a = nI n9 := id (hf)
  refine kv (v := .int (nI n_1)) (congrArg Value.int en_1) ?_
  refine lv_if_eq (tgt := 12) hx hb dX12_compareBy_3 (by decide) (fun c_2 => ?_) (fun c_2 => ?_)
  · have nc_2 := cv_eq (a := n_1) (b := 0) (by omega) (by omega) c_2
    refine lv_aload_n hx hb dX12_compareBy_12 rfl (lv_at hl 0 rfl) ?_
    refine lv_iload_n hx hb dX12_compareBy_13 rfl (lv_at hl 1 rfl) ?_
    refine va_iald hx hb hK hP 0 0 rfl rfl (i := nI a) (vp_in_nI (n := a) (by omega) (by omega)) dX12_compareBy_14 ?_
    refine kv (v := .int (f a)) (by rw [nI_clamp (by omega)]) ?_
    obtain ⟨n_3, hn_3, en_3⟩ : ∃ n9 : Nat, n9 ≤ 20 ∧ f a = nI n9 := id (hf)
    refine kv (v := .int (nI n_3)) (congrArg Value.int en_3) ?_
    refine lv_aload_n hx hb dX12_compareBy_15 rfl (lv_at hl 2 rfl) ?_
    refine lv_iload_n hx hb dX12_compareBy_16 rfl (lv_at hl 3 rfl) ?_
    refine va_iald hx hb hK hP 1 0 rfl rfl (i := nI b) (vp_in_nI (n := b) (by omega) (by omega)) dX12_compareBy_17 ?_
    refine kv (v := .int (g b)) (by rw [nI_clamp (by omega)]) ?_
    obtain ⟨n_4, hn_4, en_4⟩ : ∃ n9 : Nat, n9 ≤ 20 ∧ g b = nI n9 := id (hg)
    refine kv (v := .int (nI n_4)) (congrArg Value.int en_4) ?_
    refine lv_icmp_ne (tgt := 25) hx hb dX12_compareBy_18 (by decide) (fun c_5 => ?_) (fun c_5 => ?_)
    · have nc_5 := cv_ne (a := n_3) (b := n_4) (by omega) (by omega) c_5
      refine lv_aload_n hx hb dX12_compareBy_25 rfl (lv_at hl 0 rfl) ?_
      refine lv_iload_n hx hb dX12_compareBy_26 rfl (lv_at hl 1 rfl) ?_
      refine va_iald hx hb hK hP 0 0 rfl rfl (i := nI a) (vp_in_nI (n := a) (by omega) (by omega)) dX12_compareBy_27 ?_
      refine kv (v := .int (f a)) (by rw [nI_clamp (by omega)]) ?_
      obtain ⟨n_6, hn_6, en_6⟩ : ∃ n9 : Nat, n9 ≤ 20 ∧ f a = nI n9 := id (hf)
      refine kv (v := .int (nI n_6)) (congrArg Value.int en_6) ?_
      refine lv_if_ne (tgt := 35) hx hb dX12_compareBy_28 (by decide) (fun c_7 => ?_) (fun c_7 => ?_)
      · have nc_7 := cv_ne (a := n_6) (b := 0) (by omega) (by omega) c_7
        refine lv_iconst (v := 1) hx hb dX12_compareBy_35 (by decide) ?_
        exact cr_iret hx hb hr hlk rfl 1 rfl (by omega) dX12_compareBy_36
      · have nc_7 := cv_eq (a := n_6) (b := 0) (by omega) (by omega) c_7
        refine lv_iconst (v := 2) hx hb dX12_compareBy_31 (by decide) ?_
        refine lv_goto (tgt := 36) hx hb dX12_compareBy_32 (by decide) ?_
        exact cr_iret hx hb hr hlk rfl 2 rfl (by omega) dX12_compareBy_36
    · have nc_5 := cv_eq (a := n_3) (b := n_4) (by omega) (by omega) c_5
      refine lv_iconst (v := 0) hx hb dX12_compareBy_21 (by decide) ?_
      refine lv_goto (tgt := 36) hx hb dX12_compareBy_22 (by decide) ?_
      exact cr_iret hx hb hr hlk rfl 0 rfl (by omega) dX12_compareBy_36
  · have nc_2 := cv_ne (a := n_1) (b := 0) (by omega) (by omega) c_2
    refine lv_aload_n hx hb dX12_compareBy_6 rfl (lv_at hl 2 rfl) ?_
    refine lv_iload_n hx hb dX12_compareBy_7 rfl (lv_at hl 3 rfl) ?_
    refine va_iald hx hb hK hP 1 0 rfl rfl (i := nI b) (vp_in_nI (n := b) (by omega) (by omega)) dX12_compareBy_8 ?_
    refine kv (v := .int (g b)) (by rw [nI_clamp (by omega)]) ?_
    obtain ⟨n_8, hn_8, en_8⟩ : ∃ n9 : Nat, n9 ≤ 20 ∧ g b = nI n9 := id (hg)
    refine kv (v := .int (nI n_8)) (congrArg Value.int en_8) ?_
    refine lv_if_ne (tgt := 37) hx hb dX12_compareBy_9 (by decide) (fun c_9 => ?_) (fun c_9 => ?_)
    · have nc_9 := cv_ne (a := n_8) (b := 0) (by omega) (by omega) c_9
      refine lv_iload hx hb dX12_compareBy_37 (lv_at hl 4 rfl) ?_
      refine lv_iconst (v := 5) hx hb dX12_compareBy_39 (by decide) ?_
      refine lv_icmp_ne (tgt := 51) hx hb dX12_compareBy_40 (by decide) (fun c_10 => ?_) (fun c_10 => ?_)
      · refine lv_aload_n hx hb dX12_compareBy_51 rfl (lv_at hl 0 rfl) ?_
        refine lv_iload_n hx hb dX12_compareBy_52 rfl (lv_at hl 1 rfl) ?_
        refine lv_iload hx hb dX12_compareBy_53 (lv_at hl 4 rfl) ?_
        refine cr_S (As := [.ref q, .int (nI a), .int zt]) (rest := []) hFX hKK (s_X12_valueBy l D κ q N f a zt (by first | assumption | omega) (by omega) (by assumption)) 3 gS_X12_164 hdS_X12_valueBy rfl rfl ⟨Nat.le_of_ble_eq_true rfl, Nat.le_of_ble_eq_true rfl⟩ rfl rfl (Nat.le_of_ble_eq_true rfl) dX12_compareBy_55 ⟨Nat.le_of_ble_eq_true rfl, Nat.le_of_ble_eq_true rfl⟩ hl.1 (hP.sub [0] rfl) (fun r_11 hp_12 => ?_)
        refine W.eq (g2 := F0 m 58 ls [.long r_11]) rfl ?_
        refine lv_lstore (lv' := [(5, .long r_11), (0, .ref q), (1, .int (nI a)), (2, .ref q2), (3, .int (nI b)), (4, .int zt)]) hx hb dX12_compareBy_58 hl (by decide) rfl (fun ls hl => ?_)
        refine lv_aload_n hx hb dX12_compareBy_60 rfl (lv_at hl 3 rfl) ?_
        refine lv_iload_n hx hb dX12_compareBy_61 rfl (lv_at hl 4 rfl) ?_
        refine lv_iload hx hb dX12_compareBy_62 (lv_at hl 5 rfl) ?_
        refine cr_S (As := [.ref q2, .int (nI b), .int zt]) (rest := []) hFX hKK (s_X12_valueBy l D κ q2 N2 g b zt (by first | assumption | omega) (by omega) (by assumption)) 3 gS_X12_164 hdS_X12_valueBy rfl rfl ⟨Nat.le_of_ble_eq_true rfl, Nat.le_of_ble_eq_true rfl⟩ rfl rfl (Nat.le_of_ble_eq_true rfl) dX12_compareBy_64 ⟨Nat.le_of_ble_eq_true rfl, Nat.le_of_ble_eq_true rfl⟩ hl.1 (hP.sub [1] rfl) (fun r_13 hp_14 => ?_)
        refine W.eq (g2 := F0 m 67 ls [.long r_13]) rfl ?_
        refine lv_lstore (lv' := [(7, .long r_13), (5, .long r_11), (0, .ref q), (1, .int (nI a)), (2, .ref q2), (3, .int (nI b)), (4, .int zt)]) hx hb dX12_compareBy_67 hl (by decide) rfl (fun ls hl => ?_)
        refine lv_lload hx hb dX12_compareBy_69 (lv_at hl 1 rfl) ?_
        refine lv_lload hx hb dX12_compareBy_71 (lv_at hl 0 rfl) ?_
        refine W.lcmp hx hb dX12_compareBy_73 ?_
        refine lv_if_ne (tgt := 81) hx hb dX12_compareBy_74 (by decide) (fun c_15 => ?_) (fun c_15 => ?_)
        · refine lv_lload hx hb dX12_compareBy_81 (lv_at hl 1 rfl) ?_
          refine lv_lload hx hb dX12_compareBy_83 (lv_at hl 0 rfl) ?_
          refine W.lcmp hx hb dX12_compareBy_85 ?_
          refine lv_if_le (tgt := 93) hx hb dX12_compareBy_86 (by decide) (fun c_16 => ?_) (fun c_16 => ?_)
          · refine lv_iconst (v := 2) hx hb dX12_compareBy_93 (by decide) ?_
            exact cr_iret hx hb hr hlk rfl 2 rfl (by omega) dX12_compareBy_94
          · refine lv_iconst (v := 1) hx hb dX12_compareBy_89 (by decide) ?_
            refine lv_goto (tgt := 94) hx hb dX12_compareBy_90 (by decide) ?_
            exact cr_iret hx hb hr hlk rfl 1 rfl (by omega) dX12_compareBy_94
        · refine lv_iconst (v := 0) hx hb dX12_compareBy_77 (by decide) ?_
          refine lv_goto (tgt := 94) hx hb dX12_compareBy_78 (by decide) ?_
          exact cr_iret hx hb hr hlk rfl 0 rfl (by omega) dX12_compareBy_94
      · refine lv_aload_n hx hb dX12_compareBy_43 rfl (lv_at hl 0 rfl) ?_
        refine lv_iload_n hx hb dX12_compareBy_44 rfl (lv_at hl 1 rfl) ?_
        refine lv_aload_n hx hb dX12_compareBy_45 rfl (lv_at hl 2 rfl) ?_
        refine lv_iload_n hx hb dX12_compareBy_46 rfl (lv_at hl 3 rfl) ?_
        refine cr_S (As := [.ref q, .int (nI a), .ref q2, .int (nI b)]) (rest := []) hFX hKK (s_X12_compareBytes l D κ q N f q2 N2 g a b 20 20 (by first | assumption | omega) (by first | assumption | omega) (by omega) (by omega) (by omega) (by omega) (by assumption) (by assumption)) 4 gS_X12_160 hdS_X12_compareBytes rfl rfl ⟨Nat.le_of_ble_eq_true rfl, Nat.le_of_ble_eq_true rfl⟩ rfl rfl (Nat.le_of_ble_eq_true rfl) dX12_compareBy_47 ⟨Nat.le_of_ble_eq_true rfl, Nat.le_of_ble_eq_true rfl⟩ hl.1 (hP.sub [0, 1] rfl) (fun n_17 hp_18 => ?_)
        have hp_18 : n_17 ≤ 2 := hp_18
        refine W.eq (g2 := F0 m 50 ls [.int (nI n_17)]) rfl ?_
        exact cr_iret hx hb hr hlk rfl n_17 rfl (by omega) dX12_compareBy_50
    · have nc_9 := cv_eq (a := n_8) (b := 0) (by omega) (by omega) c_9
      refine lv_aload_n hx hb dX12_compareBy_12 rfl (lv_at hl 0 rfl) ?_
      refine lv_iload_n hx hb dX12_compareBy_13 rfl (lv_at hl 1 rfl) ?_
      refine va_iald hx hb hK hP 0 0 rfl rfl (i := nI a) (vp_in_nI (n := a) (by omega) (by omega)) dX12_compareBy_14 ?_
      refine kv (v := .int (f a)) (by rw [nI_clamp (by omega)]) ?_
      obtain ⟨n_19, hn_19, en_19⟩ : ∃ n9 : Nat, n9 ≤ 20 ∧ f a = nI n9 := id (hf)
      refine kv (v := .int (nI n_19)) (congrArg Value.int en_19) ?_
      refine lv_aload_n hx hb dX12_compareBy_15 rfl (lv_at hl 2 rfl) ?_
      refine lv_iload_n hx hb dX12_compareBy_16 rfl (lv_at hl 3 rfl) ?_
      refine va_iald hx hb hK hP 1 0 rfl rfl (i := nI b) (vp_in_nI (n := b) (by omega) (by omega)) dX12_compareBy_17 ?_
      refine kv (v := .int (g b)) (by rw [nI_clamp (by omega)]) ?_
      obtain ⟨n_20, hn_20, en_20⟩ : ∃ n9 : Nat, n9 ≤ 20 ∧ g b = nI n9 := id (hg)
      refine kv (v := .int (nI n_20)) (congrArg Value.int en_20) ?_
      refine lv_icmp_ne (tgt := 25) hx hb dX12_compareBy_18 (by decide) (fun c_21 => ?_) (fun c_21 => ?_)
      · have nc_21 := cv_ne (a := n_19) (b := n_20) (by omega) (by omega) c_21
        refine lv_aload_n hx hb dX12_compareBy_25 rfl (lv_at hl 0 rfl) ?_
        refine lv_iload_n hx hb dX12_compareBy_26 rfl (lv_at hl 1 rfl) ?_
        refine va_iald hx hb hK hP 0 0 rfl rfl (i := nI a) (vp_in_nI (n := a) (by omega) (by omega)) dX12_compareBy_27 ?_
        refine kv (v := .int (f a)) (by rw [nI_clamp (by omega)]) ?_
        obtain ⟨n_22, hn_22, en_22⟩ : ∃ n9 : Nat, n9 ≤ 20 ∧ f a = nI n9 := id (hf)
        refine kv (v := .int (nI n_22)) (congrArg Value.int en_22) ?_
        refine lv_if_ne (tgt := 35) hx hb dX12_compareBy_28 (by decide) (fun c_23 => ?_) (fun c_23 => ?_)
        · have nc_23 := cv_ne (a := n_22) (b := 0) (by omega) (by omega) c_23
          refine lv_iconst (v := 1) hx hb dX12_compareBy_35 (by decide) ?_
          exact cr_iret hx hb hr hlk rfl 1 rfl (by omega) dX12_compareBy_36
        · have nc_23 := cv_eq (a := n_22) (b := 0) (by omega) (by omega) c_23
          refine lv_iconst (v := 2) hx hb dX12_compareBy_31 (by decide) ?_
          refine lv_goto (tgt := 36) hx hb dX12_compareBy_32 (by decide) ?_
          exact cr_iret hx hb hr hlk rfl 2 rfl (by omega) dX12_compareBy_36
      · have nc_21 := cv_eq (a := n_19) (b := n_20) (by omega) (by omega) c_21
        refine lv_iconst (v := 0) hx hb dX12_compareBy_21 (by decide) ?_
        refine lv_goto (tgt := 36) hx hb dX12_compareBy_22 (by decide) ?_
        exact cr_iret hx hb hr hlk rfl 0 rfl (by omega) dX12_compareBy_36
set_option maxHeartbeats 4000000 in
set_option maxRecDepth 100000 in
theorem s_X12_isName (l : Launch) (D : va_G) (κ : Nat → ClassId) (q : Nat) (N : Nat) (f : Nat → Int32) (a : Nat) (la : Nat) (hN : N < 2147483648) (ha : a + 1 + la ≤ N) (hla : la ≤ 1000) (hf : ∃ n9 : Nat, n9 ≤ la ∧ f a = nI n9) : Cr l yX12_isName (wl yX12_isName cX12_isName 3 (some .boolean)) { frames := 3, cells := 0, slots := 0, locals := 65 } D κ [.ref q, .int (nI a)] (va_P D vwCl [(q, .inl (κ 0, N, .inl f))]) (fun r : Int32 => some (.int r)) (fun r : Int32 => (r = 1 ∧ (∃ n9 : Nat, n9 ≤ 12 ∧ f a = nI n9)) ∨ (r = 0)) := by
  refine cr_of (by decide +kernel) (Nat.le_of_ble_eq_true rfl) ?_
  intro p e s m args below meth c ls hx hb hr hml hts hown hlk hKK hK hI hl
  have hP : va_P D vwCl [(q, .inl (κ 0, N, .inl f))] s.heap := hI
  have hFX : FX p s m args c cX12_isName 3 RX12 := ⟨hx, hb, hml, hown, hts⟩
  have hl : lv_has ls 3 [(0, .ref q), (1, .int (nI a))] := hl
  refine lv_aload_n hx hb dX12_isName_0 rfl (lv_at hl 0 rfl) ?_
  refine lv_iload_n hx hb dX12_isName_1 rfl (lv_at hl 1 rfl) ?_
  refine va_iald hx hb hK hP 0 0 rfl rfl (i := nI a) (vp_in_nI (n := a) (by omega) (by omega)) dX12_isName_2 ?_
  refine kv (v := .int (f a)) (by rw [nI_clamp (by omega)]) ?_
  obtain ⟨n_1, hn_1, en_1⟩ : ∃ n9 : Nat, n9 ≤ la ∧ f a = nI n9 := id (hf)
  refine kv (v := .int (nI n_1)) (congrArg Value.int en_1) ?_
  refine lv_i2l (v := (nI n_1).toInt64) hx hb dX12_isName_3 rfl ?_
  refine lv_lconst (v := 1) hx hb dX12_isName_4 (by decide) ?_
  refine lv_ldc2 hx hb hown (hts _ mw_483) dX12_isName_5 ?_
  refine cr_S (As := [.long ((nI n_1).toInt64), .long 1, .long 12]) (rest := []) hFX hKK (s_X12_isIn l D κ ((nI n_1).toInt64) 1 12) 3 gS_X12_62 hdS_X12_isIn rfl rfl ⟨Nat.le_of_ble_eq_true rfl, Nat.le_of_ble_eq_true rfl⟩ rfl rfl (Nat.le_of_ble_eq_true rfl) dX12_isName_8 ⟨Nat.le_of_ble_eq_true rfl, Nat.le_of_ble_eq_true rfl⟩ hl.1 (hP.sub [] rfl) (fun r_2 hp_3 => ?_)
  have hp_3 : (r_2 = 1 ∧ ¬ lg_cmp ((nI n_1).toInt64) (1 : Int64) < 0 ∧ ¬ 0 < lg_cmp ((nI n_1).toInt64) (12 : Int64)) ∨ (r_2 = 0 ∧ (lg_cmp ((nI n_1).toInt64) (1 : Int64) < 0 ∨ 0 < lg_cmp ((nI n_1).toInt64) (12 : Int64))) := hp_3
  rcases hp_3 with ⟨rfl, a_4, a_5⟩ | ⟨rfl, a_6⟩
  · refine W.eq (g2 := F0 m 11 ls [.int 1]) rfl ?_
    refine lv_if_ne (tgt := 16) hx hb dX12_isName_11 (by decide) (fun c_7 => ?_) (fun c_7 => absurd c_7 (by decide))
    refine lv_iconst (v := 0) hx hb dX12_isName_16 (by decide) ?_
    refine lv_istore_n (lv' := [(2, .int 0), (0, .ref q), (1, .int (nI a))]) hx hb dX12_isName_17 rfl hl (by decide) rfl (fun ls hl => ?_)
    refine loop_r (fun k9 ls => ∃ (k : Nat), (k ≤ la) ∧ la - k = k9 ∧ lv_has ls 3 [(2, .int (nI k)), (0, .ref q), (1, .int (nI a))]) (fun k9 ls hI18 ih18 => ?_) (la - 0) _ ⟨0, (by omega), rfl, lv_sub hl [0, 1, 2] rfl⟩
    obtain ⟨k, hn0, hm18, hl⟩ := hI18
    refine lv_iload_n hx hb dX12_isName_18 rfl (lv_at hl 0 rfl) ?_
    refine lv_aload_n hx hb dX12_isName_19 rfl (lv_at hl 1 rfl) ?_
    refine lv_iload_n hx hb dX12_isName_20 rfl (lv_at hl 2 rfl) ?_
    refine va_iald hx hb hK hP 0 0 rfl rfl (i := nI a) (vp_in_nI (n := a) (by omega) (by omega)) dX12_isName_21 ?_
    refine kv (v := .int (f a)) (by rw [nI_clamp (by omega)]) ?_
    obtain ⟨n_8, hn_8, en_8⟩ : ∃ n9 : Nat, n9 ≤ la ∧ f a = nI n9 := id (hf)
    refine kv (v := .int (nI n_8)) (congrArg Value.int en_8) ?_
    refine lv_icmp_ge (tgt := 46) hx hb dX12_isName_22 (by decide) (fun c_9 => ?_) (fun c_9 => ?_)
    · have nc_9 := cv_le (a := n_8) (b := k) (by omega) (by omega) c_9
      refine lv_iconst (v := 1) hx hb dX12_isName_46 (by decide) ?_
      exact cr_iret hx hb hr hlk rfl 1 rfl (by first | exact Or.inl (⟨rfl, (by first | assumption | exact Or.inl (by assumption) | exact Or.inr (by assumption) | exact out_ne (by assumption) (by decide) (by decide) | exact ⟨_, (by assumption), rfl⟩ | exact in_name (by assumption) (by assumption) (by assumption))⟩)) dX12_isName_47
    · have nc_9 := cv_nle (a := n_8) (b := k) (by omega) (by omega) c_9
      refine lv_aload_n hx hb dX12_isName_25 rfl (lv_at hl 1 rfl) ?_
      refine lv_iload_n hx hb dX12_isName_26 rfl (lv_at hl 2 rfl) ?_
      refine lv_iconst (v := 1) hx hb dX12_isName_27 (by decide) ?_
      refine lv_iadd hx hb dX12_isName_28 ?_
      refine ki (v := (nI (a + 1))) (nI_add a 1) ?_
      refine lv_iload_n hx hb dX12_isName_29 rfl (lv_at hl 0 rfl) ?_
      refine lv_iadd hx hb dX12_isName_30 ?_
      refine ki (v := (nI (a + 1 + k))) (nI_add (a + 1) k) ?_
      refine va_iald hx hb hK hP 0 0 rfl rfl (i := nI (a + 1 + k)) (vp_in_nI (n := (a + 1 + k)) (by omega) (by omega)) dX12_isName_31 ?_
      refine kv (v := .int (f (a + 1 + k))) (by rw [nI_clamp (by omega)]) ?_
      refine lv_topi (fun x_10 ex_10 => ?_)
      refine cr_S (As := [.int x_10]) (rest := []) hFX hKK (s_X12_isLetter l D κ x_10) 1 gS_X12_238 hdS_X12_isLetter rfl rfl ⟨Nat.le_of_ble_eq_true rfl, Nat.le_of_ble_eq_true rfl⟩ rfl rfl (Nat.le_of_ble_eq_true rfl) dX12_isName_32 ⟨Nat.le_of_ble_eq_true rfl, Nat.le_of_ble_eq_true rfl⟩ hl.1 (hP.sub [] rfl) (fun r_11 hp_12 => ?_)
      have hp_12 : (r_11 = 1) ∨ (r_11 = 0) := hp_12
      rcases hp_12 with rfl | rfl
      · refine W.eq (g2 := F0 m 35 ls [.int 1]) rfl ?_
        refine lv_if_ne (tgt := 40) hx hb dX12_isName_35 (by decide) (fun c_13 => ?_) (fun c_13 => absurd c_13 (by decide))
        refine lv_iinc (v := (nI (k + 1))) (lv' := [(2, .int (nI (k + 1))), (0, .ref q), (1, .int (nI a))]) hx hb dX12_isName_40 hl (k := 0) rfl (nI_i k) (by decide) rfl (fun ls hl => ?_)
        refine lv_goto (tgt := 18) hx hb dX12_isName_43 (by decide) ?_
        exact ih18 _ _ (by omega) ⟨(k + 1), (by omega), rfl, lv_sub hl [0, 1, 2] rfl⟩
      · refine W.eq (g2 := F0 m 35 ls [.int 0]) rfl ?_
        refine lv_if_ne (tgt := 40) hx hb dX12_isName_35 (by decide) (fun c_15 => absurd (by decide) c_15) (fun c_15 => ?_)
        refine lv_iconst (v := 0) hx hb dX12_isName_38 (by decide) ?_
        exact cr_iret hx hb hr hlk rfl 0 rfl (by first | exact Or.inr ((rfl))) dX12_isName_39
  · refine W.eq (g2 := F0 m 11 ls [.int 0]) rfl ?_
    refine lv_if_ne (tgt := 16) hx hb dX12_isName_11 (by decide) (fun c_16 => absurd (by decide) c_16) (fun c_16 => ?_)
    refine lv_iconst (v := 0) hx hb dX12_isName_14 (by decide) ?_
    exact cr_iret hx hb hr hlk rfl 0 rfl (by first | exact Or.inr ((rfl))) dX12_isName_15
