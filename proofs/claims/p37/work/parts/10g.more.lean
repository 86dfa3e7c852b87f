theorem j_skip {g : Nat → Int32} {k L n : Nat} (e : L = k) (h : (L ≤ k ∧ g 1 = nI (n + L)) ∨ (k < L ∧ g 1 = nI (n + L - 1))) : (L + 1 ≤ k ∧ g 1 = nI (n + (L + 1))) ∨ (k < L + 1 ∧ g 1 = nI (n + (L + 1) - 1)) := by
  rcases h with q | q
  · refine Or.inr ⟨by omega, ?_⟩
    rw [q.2, show n + (L + 1) - 1 = n + L by omega]
  · exact absurd q.1 (by omega)
/-- what a dialect's part may be -/
def dOk (a b : Int32) : Prop := (a = 0 ∧ (b = 44 ∨ b = 59 ∨ b = 124 ∨ b = 9)) ∨ (a = 1 ∧ (b = 34 ∨ b = 39)) ∨ (a = 2 ∧ (b = 0 ∨ b = 1)) ∨ (a = 3 ∧ (b = 0 ∨ b = 1)) ∨ (a = 4 ∧ 0 ≤ b.toInt ∧ b.toInt ≤ 3) ∨ (a = 5 ∧ (b = 0 ∨ b = 35 ∨ b = 37 ∨ b = 42))
theorem dOk_out {a b : Int32} (h : a.toInt < 0 ∨ 5 < a.toInt) : ¬ dOk a b := by
  unfold dOk
  rintro (q | q | q | q | q | q) <;> (rw [q.1] at h; revert h; decide)
theorem dOk_4 {j : Nat} (h : (j : Int) ≤ 3) : dOk 4 (nI j) := Or.inr (Or.inr (Or.inr (Or.inr (Or.inl ⟨rfl, by rw [nI_toInt (by omega)]; omega, by rw [nI_toInt (by omega)]; exact h⟩))))
theorem dOk_4n {b : Int32} (h : b.toInt < 0 ∨ 3 < b.toInt) : ¬ dOk 4 b := by
  unfold dOk
  rintro (q | q | q | q | q | q)
  · exact absurd q.1 (by decide)
  · exact absurd q.1 (by decide)
  · exact absurd q.1 (by decide)
  · exact absurd q.1 (by decide)
  · omega
  · exact absurd q.1 (by decide)
theorem dX12_doMatch_0 : decode cX12_doMatch 0 = .ok (.iload_n 1, 1) := by decide +kernel
theorem dX12_doMatch_1 : decode cX12_doMatch 1 = .ok (.iload_n 2, 1) := by decide +kernel
theorem dX12_doMatch_2 : decode cX12_doMatch 2 = .ok (.iload_n 3, 1) := by decide +kernel
theorem dX12_doMatch_3 : decode cX12_doMatch 3 = .ok (.invokestatic 167, 3) := by decide +kernel
theorem dX12_doMatch_6 : decode cX12_doMatch 6 = .ok (.istore 8, 2) := by decide +kernel
theorem dX12_doMatch_8 : decode cX12_doMatch 8 = .ok (.iload 4, 2) := by decide +kernel
theorem dX12_doMatch_10 : decode cX12_doMatch 10 = .ok (.iload 5, 2) := by decide +kernel
theorem dX12_doMatch_12 : decode cX12_doMatch 12 = .ok (.iload 6, 2) := by decide +kernel
theorem dX12_doMatch_14 : decode cX12_doMatch 14 = .ok (.invokestatic 167, 3) := by decide +kernel
theorem dX12_doMatch_17 : decode cX12_doMatch 17 = .ok (.istore 9, 2) := by decide +kernel
theorem dX12_doMatch_19 : decode cX12_doMatch 19 = .ok (.aload_n 0, 1) := by decide +kernel
theorem dX12_doMatch_20 : decode cX12_doMatch 20 = .ok (.getfield 9, 3) := by decide +kernel
theorem dX12_doMatch_23 : decode cX12_doMatch 23 = .ok (.iload 8, 2) := by decide +kernel
theorem dX12_doMatch_25 : decode cX12_doMatch 25 = .ok (.iaload, 1) := by decide +kernel
theorem dX12_doMatch_26 : decode cX12_doMatch 26 = .ok (.ifCond .le 37, 3) := by decide +kernel
theorem dX12_doMatch_63 : decode cX12_doMatch 63 = .ok (.iconst 0, 1) := by decide +kernel
theorem dX12_doMatch_64 : decode cX12_doMatch 64 = .ok (.ireturn, 1) := by decide +kernel
theorem dX12_doMatch_29 : decode cX12_doMatch 29 = .ok (.aload_n 0, 1) := by decide +kernel
theorem dX12_doMatch_30 : decode cX12_doMatch 30 = .ok (.getfield 9, 3) := by decide +kernel
theorem dX12_doMatch_33 : decode cX12_doMatch 33 = .ok (.iload 9, 2) := by decide +kernel
theorem dX12_doMatch_35 : decode cX12_doMatch 35 = .ok (.iaload, 1) := by decide +kernel
theorem dX12_doMatch_36 : decode cX12_doMatch 36 = .ok (.ifCond .le 27, 3) := by decide +kernel
theorem dX12_doMatch_39 : decode cX12_doMatch 39 = .ok (.aload_n 0, 1) := by decide +kernel
theorem dX12_doMatch_40 : decode cX12_doMatch 40 = .ok (.getfield 9, 3) := by decide +kernel
theorem dX12_doMatch_43 : decode cX12_doMatch 43 = .ok (.iload 8, 2) := by decide +kernel
theorem dX12_doMatch_45 : decode cX12_doMatch 45 = .ok (.aload_n 0, 1) := by decide +kernel
theorem dX12_doMatch_46 : decode cX12_doMatch 46 = .ok (.getfield 9, 3) := by decide +kernel
theorem dX12_doMatch_49 : decode cX12_doMatch 49 = .ok (.iload 9, 2) := by decide +kernel
theorem dX12_doMatch_51 : decode cX12_doMatch 51 = .ok (.iload 7, 2) := by decide +kernel
theorem dX12_doMatch_53 : decode cX12_doMatch 53 = .ok (.invokestatic 184, 3) := by decide +kernel
theorem dX12_doMatch_56 : decode cX12_doMatch 56 = .ok (.ifCond .ne 7, 3) := by decide +kernel
theorem dX12_doMatch_59 : decode cX12_doMatch 59 = .ok (.iconst 1, 1) := by decide +kernel
theorem dX12_doMatch_60 : decode cX12_doMatch 60 = .ok (.goto 4, 3) := by decide +kernel
theorem dX12_matches_0 : decode cX12_matches 0 = .ok (.aload_n 0, 1) := by decide +kernel
theorem dX12_matches_1 : decode cX12_matches 1 = .ok (.iload_n 1, 1) := by decide +kernel
theorem dX12_matches_2 : decode cX12_matches 2 = .ok (.iload_n 2, 1) := by decide +kernel
theorem dX12_matches_3 : decode cX12_matches 3 = .ok (.invokevirtual 312, 3) := by decide +kernel
theorem dX12_matches_6 : decode cX12_matches 6 = .ok (.ifCond .eq 13, 3) := by decide +kernel
theorem dX12_matches_9 : decode cX12_matches 9 = .ok (.aload_n 0, 1) := by decide +kernel
theorem dX12_matches_10 : decode cX12_matches 10 = .ok (.iload_n 3, 1) := by decide +kernel
theorem dX12_matches_11 : decode cX12_matches 11 = .ok (.iload 4, 2) := by decide +kernel
theorem dX12_matches_13 : decode cX12_matches 13 = .ok (.invokevirtual 312, 3) := by decide +kernel
theorem dX12_matches_16 : decode cX12_matches 16 = .ok (.ifCond .ne 5, 3) := by decide +kernel
theorem dX12_matches_21 : decode cX12_matches 21 = .ok (.aload_n 0, 1) := by decide +kernel
theorem dX12_matches_22 : decode cX12_matches 22 = .ok (.iload_n 1, 1) := by decide +kernel
theorem dX12_matches_23 : decode cX12_matches 23 = .ok (.iload_n 2, 1) := by decide +kernel
theorem dX12_matches_24 : decode cX12_matches 24 = .ok (.iload_n 3, 1) := by decide +kernel
theorem dX12_matches_25 : decode cX12_matches 25 = .ok (.iload 4, 2) := by decide +kernel
theorem dX12_matches_27 : decode cX12_matches 27 = .ok (.invokevirtual 411, 3) := by decide +kernel
theorem mw_909 : Cond.code yX12_matching cX12_matching 7 (some .int) ∈ wsL_law := lrk_38 _ (List.mem_of_getElem? (i := 21) rfl)
theorem mw_906 : Cond.methodLink RX12 411 yX12_matching ∈ wsL_law := lrk_38 _ (List.mem_of_getElem? (i := 18) rfl)
theorem mw_907 : Cond.instanceMethod yX12_matching ∈ wsL_law := lrk_38 _ (List.mem_of_getElem? (i := 19) rfl)
theorem mw_908 : Cond.selects RX12 yX12_matching yX12_matching ∈ wsL_law := lrk_38 _ (List.mem_of_getElem? (i := 20) rfl)
theorem gV_X12_411 : GoodIn wsL_law (wsV RX12 411 RX12 yX12_matching (wl yX12_matching cX12_matching 7 (some .int))) := g_V mw_906 mw_907 mw_908 mw_5 mw_909
theorem hdV_X12_matching : yX12_matching.cls = RX12 ∧ okD yX12_matching 4 := by decide +kernel
theorem dX12_matches_30 : decode cX12_matches 30 = .ok (.istore 5, 2) := by decide +kernel
theorem dX12_matches_32 : decode cX12_matches 32 = .ok (.iload 5, 2) := by decide +kernel
theorem dX12_matches_34 : decode cX12_matches 34 = .ok (.iconst (-1), 1) := by decide +kernel
theorem dX12_matches_35 : decode cX12_matches 35 = .ok (.if_icmp .ne 5, 3) := by decide +kernel
theorem dX12_matches_40 : decode cX12_matches 40 = .ok (.iconst 0, 1) := by decide +kernel
theorem dX12_matches_41 : decode cX12_matches 41 = .ok (.istore 6, 2) := by decide +kernel
theorem dX12_matches_43 : decode cX12_matches 43 = .ok (.iconst 0, 1) := by decide +kernel
theorem dX12_matches_44 : decode cX12_matches 44 = .ok (.istore 7, 2) := by decide +kernel
theorem dX12_matches_46 : decode cX12_matches 46 = .ok (.iload 7, 2) := by decide +kernel
theorem dX12_matches_48 : decode cX12_matches 48 = .ok (.aload_n 0, 1) := by decide +kernel
theorem dX12_matches_49 : decode cX12_matches 49 = .ok (.iload_n 1, 1) := by decide +kernel
theorem dX12_matches_50 : decode cX12_matches 50 = .ok (.invokevirtual 341, 3) := by decide +kernel
theorem dX12_matches_53 : decode cX12_matches 53 = .ok (.if_icmp .ge 66, 3) := by decide +kernel
theorem dX12_matches_119 : decode cX12_matches 119 = .ok (.iload 6, 2) := by decide +kernel
theorem dX12_matches_121 : decode cX12_matches 121 = .ok (.ireturn, 1) := by decide +kernel
theorem dX12_matches_56 : decode cX12_matches 56 = .ok (.iconst 0, 1) := by decide +kernel
theorem dX12_matches_57 : decode cX12_matches 57 = .ok (.istore 8, 2) := by decide +kernel
theorem dX12_matches_59 : decode cX12_matches 59 = .ok (.iload 8, 2) := by decide +kernel
theorem dX12_matches_61 : decode cX12_matches 61 = .ok (.aload_n 0, 1) := by decide +kernel
theorem dX12_matches_62 : decode cX12_matches 62 = .ok (.iload_n 3, 1) := by decide +kernel
theorem dX12_matches_63 : decode cX12_matches 63 = .ok (.invokevirtual 341, 3) := by decide +kernel
theorem dX12_matches_66 : decode cX12_matches 66 = .ok (.if_icmp .ge 47, 3) := by decide +kernel
theorem dX12_matches_113 : decode cX12_matches 113 = .ok (.iinc 7 1, 3) := by decide +kernel
theorem dX12_matches_116 : decode cX12_matches 116 = .ok (.goto (-70), 3) := by decide +kernel
theorem dX12_matches_69 : decode cX12_matches 69 = .ok (.iload 6, 2) := by decide +kernel
theorem dX12_matches_71 : decode cX12_matches 71 = .ok (.aload_n 0, 1) := by decide +kernel
theorem dX12_matches_72 : decode cX12_matches 72 = .ok (.iload_n 1, 1) := by decide +kernel
theorem dX12_matches_73 : decode cX12_matches 73 = .ok (.aload_n 0, 1) := by decide +kernel
theorem dX12_matches_74 : decode cX12_matches 74 = .ok (.iload_n 1, 1) := by decide +kernel
theorem dX12_matches_75 : decode cX12_matches 75 = .ok (.iload 7, 2) := by decide +kernel
theorem dX12_matches_77 : decode cX12_matches 77 = .ok (.invokevirtual 345, 3) := by decide +kernel
theorem dX12_matches_80 : decode cX12_matches 80 = .ok (.iload_n 2, 1) := by decide +kernel
theorem dX12_matches_81 : decode cX12_matches 81 = .ok (.iload_n 3, 1) := by decide +kernel
theorem dX12_matches_82 : decode cX12_matches 82 = .ok (.aload_n 0, 1) := by decide +kernel
theorem dX12_matches_83 : decode cX12_matches 83 = .ok (.iload_n 3, 1) := by decide +kernel
theorem dX12_matches_84 : decode cX12_matches 84 = .ok (.iload 8, 2) := by decide +kernel
theorem dX12_matches_86 : decode cX12_matches 86 = .ok (.invokevirtual 345, 3) := by decide +kernel
theorem dX12_matches_89 : decode cX12_matches 89 = .ok (.iload 4, 2) := by decide +kernel
theorem dX12_matches_91 : decode cX12_matches 91 = .ok (.iload 5, 2) := by decide +kernel
theorem dX12_matches_93 : decode cX12_matches 93 = .ok (.invokevirtual 414, 3) := by decide +kernel
theorem mw_941 : Cond.code yX12_doMatch cX12_doMatch 10 (some .boolean) ∈ wsL_law := lrk_40 _ (List.mem_of_getElem? (i := 5) rfl)
theorem mw_938 : Cond.methodLink RX12 414 yX12_doMatch ∈ wsL_law := lrk_40 _ (List.mem_of_getElem? (i := 2) rfl)
theorem mw_939 : Cond.instanceMethod yX12_doMatch ∈ wsL_law := lrk_40 _ (List.mem_of_getElem? (i := 3) rfl)
theorem mw_940 : Cond.selects RX12 yX12_doMatch yX12_doMatch ∈ wsL_law := lrk_40 _ (List.mem_of_getElem? (i := 4) rfl)
theorem gV_X12_414 : GoodIn wsL_law (wsV RX12 414 RX12 yX12_doMatch (wl yX12_doMatch cX12_doMatch 10 (some .boolean))) := g_V mw_938 mw_939 mw_940 mw_5 mw_941
theorem hdV_X12_doMatch : yX12_doMatch.cls = RX12 ∧ okD yX12_doMatch 7 := by decide +kernel
theorem dX12_matches_96 : decode cX12_matches 96 = .ok (.ifCond .eq 7, 3) := by decide +kernel
theorem dX12_matches_99 : decode cX12_matches 99 = .ok (.iconst 1, 1) := by decide +kernel
theorem dX12_matches_100 : decode cX12_matches 100 = .ok (.goto 4, 3) := by decide +kernel
theorem dX12_matches_104 : decode cX12_matches 104 = .ok (.iadd, 1) := by decide +kernel
theorem dX12_matches_105 : decode cX12_matches 105 = .ok (.istore 6, 2) := by decide +kernel
theorem dX12_matches_107 : decode cX12_matches 107 = .ok (.iinc 8 1, 3) := by decide +kernel
theorem dX12_matches_110 : decode cX12_matches 110 = .ok (.goto (-51), 3) := by decide +kernel
theorem dX12_matches_103 : decode cX12_matches 103 = .ok (.iconst 0, 1) := by decide +kernel
theorem dX12_matches_38 : decode cX12_matches 38 = .ok (.iconst (-1), 1) := by decide +kernel
theorem dX12_matches_39 : decode cX12_matches 39 = .ok (.ireturn, 1) := by decide +kernel
theorem dX12_matches_19 : decode cX12_matches 19 = .ok (.iconst (-1), 1) := by decide +kernel
theorem dX12_matches_20 : decode cX12_matches 20 = .ok (.ireturn, 1) := by decide +kernel
theorem dX12_isInDraft_0 : decode cX12_isInDraft 0 = .ok (.iconst 0, 1) := by decide +kernel
theorem dX12_isInDraft_1 : decode cX12_isInDraft 1 = .ok (.istore_n 2, 1) := by decide +kernel
theorem dX12_isInDraft_2 : decode cX12_isInDraft 2 = .ok (.iload_n 2, 1) := by decide +kernel
theorem dX12_isInDraft_3 : decode cX12_isInDraft 3 = .ok (.iload_n 1, 1) := by decide +kernel
theorem dX12_isInDraft_4 : decode cX12_isInDraft 4 = .ok (.if_icmp .ge 37, 3) := by decide +kernel
theorem dX12_isInDraft_41 : decode cX12_isInDraft 41 = .ok (.iconst 0, 1) := by decide +kernel
theorem dX12_isInDraft_42 : decode cX12_isInDraft 42 = .ok (.ireturn, 1) := by decide +kernel
theorem dX12_isInDraft_7 : decode cX12_isInDraft 7 = .ok (.aload_n 0, 1) := by decide +kernel
theorem dX12_isInDraft_8 : decode cX12_isInDraft 8 = .ok (.getfield 39, 3) := by decide +kernel
theorem dX12_isInDraft_11 : decode cX12_isInDraft 11 = .ok (.iconst 4, 1) := by decide +kernel
theorem dX12_isInDraft_12 : decode cX12_isInDraft 12 = .ok (.bipush 13, 2) := by decide +kernel
theorem dX12_isInDraft_14 : decode cX12_isInDraft 14 = .ok (.iload_n 1, 1) := by decide +kernel
theorem dX12_isInDraft_15 : decode cX12_isInDraft 15 = .ok (.imul, 1) := by decide +kernel
theorem dX12_isInDraft_16 : decode cX12_isInDraft 16 = .ok (.iadd, 1) := by decide +kernel
theorem dX12_isInDraft_17 : decode cX12_isInDraft 17 = .ok (.aload_n 0, 1) := by decide +kernel
theorem dX12_isInDraft_18 : decode cX12_isInDraft 18 = .ok (.getfield 39, 3) := by decide +kernel
theorem dX12_isInDraft_21 : decode cX12_isInDraft 21 = .ok (.iconst 4, 1) := by decide +kernel
theorem dX12_isInDraft_22 : decode cX12_isInDraft 22 = .ok (.bipush 13, 2) := by decide +kernel
theorem dX12_isInDraft_24 : decode cX12_isInDraft 24 = .ok (.iload_n 2, 1) := by decide +kernel
theorem dX12_isInDraft_25 : decode cX12_isInDraft 25 = .ok (.imul, 1) := by decide +kernel
theorem dX12_isInDraft_26 : decode cX12_isInDraft 26 = .ok (.iadd, 1) := by decide +kernel
theorem dX12_isInDraft_27 : decode cX12_isInDraft 27 = .ok (.invokestatic 244, 3) := by decide +kernel
theorem dX12_isInDraft_30 : decode cX12_isInDraft 30 = .ok (.ifCond .eq 5, 3) := by decide +kernel
theorem dX12_isInDraft_33 : decode cX12_isInDraft 33 = .ok (.iconst 1, 1) := by decide +kernel
theorem dX12_isInDraft_34 : decode cX12_isInDraft 34 = .ok (.ireturn, 1) := by decide +kernel
theorem dX12_isInDraft_35 : decode cX12_isInDraft 35 = .ok (.iinc 2 1, 3) := by decide +kernel
theorem dX12_isInDraft_38 : decode cX12_isInDraft 38 = .ok (.goto (-36), 3) := by decide +kernel
theorem dX12_addsColumn_0 : decode cX12_addsColumn 0 = .ok (.aload_n 0, 1) := by decide +kernel
theorem dX12_addsColumn_1 : decode cX12_addsColumn 1 = .ok (.getfield 39, 3) := by decide +kernel
theorem dX12_addsColumn_4 : decode cX12_addsColumn 4 = .ok (.iconst 1, 1) := by decide +kernel
theorem dX12_addsColumn_5 : decode cX12_addsColumn 5 = .ok (.iaload, 1) := by decide +kernel
theorem dX12_addsColumn_6 : decode cX12_addsColumn 6 = .ok (.istore_n 3, 1) := by decide +kernel
theorem dX12_addsColumn_7 : decode cX12_addsColumn 7 = .ok (.aload_n 0, 1) := by decide +kernel
theorem dX12_addsColumn_8 : decode cX12_addsColumn 8 = .ok (.iload_n 3, 1) := by decide +kernel
theorem dX12_addsColumn_9 : decode cX12_addsColumn 9 = .ok (.aload_n 0, 1) := by decide +kernel
theorem dX12_addsColumn_10 : decode cX12_addsColumn 10 = .ok (.getfield 9, 3) := by decide +kernel
theorem dX12_addsColumn_13 : decode cX12_addsColumn 13 = .ok (.iload_n 1, 1) := by decide +kernel
theorem dX12_addsColumn_14 : decode cX12_addsColumn 14 = .ok (.iload_n 2, 1) := by decide +kernel
theorem dX12_addsColumn_15 : decode cX12_addsColumn 15 = .ok (.invokestatic 318, 3) := by decide +kernel
theorem dX12_addsColumn_18 : decode cX12_addsColumn 18 = .ok (.invokevirtual 248, 3) := by decide +kernel
theorem dX12_addsColumn_21 : decode cX12_addsColumn 21 = .ok (.aload_n 0, 1) := by decide +kernel
theorem dX12_addsColumn_22 : decode cX12_addsColumn 22 = .ok (.iload_n 3, 1) := by decide +kernel
theorem dX12_addsColumn_23 : decode cX12_addsColumn 23 = .ok (.invokevirtual 418, 3) := by decide +kernel
theorem mw_929 : Cond.code yX12_isInDraft cX12_isInDraft 3 (some .boolean) ∈ wsL_law := lrk_39 _ (List.mem_of_getElem? (i := 17) rfl)
theorem mw_926 : Cond.methodLink RX12 418 yX12_isInDraft ∈ wsL_law := lrk_39 _ (List.mem_of_getElem? (i := 14) rfl)
theorem mw_927 : Cond.instanceMethod yX12_isInDraft ∈ wsL_law := lrk_39 _ (List.mem_of_getElem? (i := 15) rfl)
theorem mw_928 : Cond.selects RX12 yX12_isInDraft yX12_isInDraft ∈ wsL_law := lrk_39 _ (List.mem_of_getElem? (i := 16) rfl)
theorem gV_X12_418 : GoodIn wsL_law (wsV RX12 418 RX12 yX12_isInDraft (wl yX12_isInDraft cX12_isInDraft 3 (some .boolean))) := g_V mw_926 mw_927 mw_928 mw_5 mw_929
theorem hdV_X12_isInDraft : yX12_isInDraft.cls = RX12 ∧ okD yX12_isInDraft 1 := by decide +kernel
theorem dX12_addsColumn_26 : decode cX12_addsColumn 26 = .ok (.ifCond .eq 68, 3) := by decide +kernel
theorem dX12_addsColumn_29 : decode cX12_addsColumn 29 = .ok (.aload_n 0, 1) := by decide +kernel
theorem dX12_addsColumn_30 : decode cX12_addsColumn 30 = .ok (.getfield 39, 3) := by decide +kernel
theorem dX12_addsColumn_33 : decode cX12_addsColumn 33 = .ok (.iconst 4, 1) := by decide +kernel
theorem dX12_addsColumn_34 : decode cX12_addsColumn 34 = .ok (.bipush 13, 2) := by decide +kernel
theorem dX12_addsColumn_36 : decode cX12_addsColumn 36 = .ok (.iload_n 3, 1) := by decide +kernel
theorem dX12_addsColumn_37 : decode cX12_addsColumn 37 = .ok (.imul, 1) := by decide +kernel
theorem dX12_addsColumn_38 : decode cX12_addsColumn 38 = .ok (.iadd, 1) := by decide +kernel
theorem dX12_addsColumn_39 : decode cX12_addsColumn 39 = .ok (.iaload, 1) := by decide +kernel
theorem dX12_addsColumn_40 : decode cX12_addsColumn 40 = .ok (.istore 4, 2) := by decide +kernel
theorem dX12_addsColumn_42 : decode cX12_addsColumn 42 = .ok (.iload 4, 2) := by decide +kernel
theorem dX12_addsColumn_44 : decode cX12_addsColumn 44 = .ok (.bipush 12, 2) := by decide +kernel
theorem dX12_addsColumn_46 : decode cX12_addsColumn 46 = .ok (.if_icmp .ne 5, 3) := by decide +kernel
theorem dX12_addsColumn_51 : decode cX12_addsColumn 51 = .ok (.aload_n 0, 1) := by decide +kernel
theorem dX12_addsColumn_52 : decode cX12_addsColumn 52 = .ok (.getfield 39, 3) := by decide +kernel
theorem dX12_addsColumn_55 : decode cX12_addsColumn 55 = .ok (.iconst 4, 1) := by decide +kernel
theorem dX12_addsColumn_56 : decode cX12_addsColumn 56 = .ok (.bipush 13, 2) := by decide +kernel
theorem dX12_addsColumn_58 : decode cX12_addsColumn 58 = .ok (.iload_n 3, 1) := by decide +kernel
theorem dX12_addsColumn_59 : decode cX12_addsColumn 59 = .ok (.imul, 1) := by decide +kernel
theorem dX12_addsColumn_60 : decode cX12_addsColumn 60 = .ok (.iadd, 1) := by decide +kernel
theorem dX12_addsColumn_61 : decode cX12_addsColumn 61 = .ok (.iconst 1, 1) := by decide +kernel
theorem dX12_addsColumn_62 : decode cX12_addsColumn 62 = .ok (.iadd, 1) := by decide +kernel
theorem dX12_addsColumn_63 : decode cX12_addsColumn 63 = .ok (.iload 4, 2) := by decide +kernel
theorem dX12_addsColumn_65 : decode cX12_addsColumn 65 = .ok (.iadd, 1) := by decide +kernel
theorem dX12_addsColumn_66 : decode cX12_addsColumn 66 = .ok (.bipush 95, 2) := by decide +kernel
theorem dX12_addsColumn_68 : decode cX12_addsColumn 68 = .ok (.iastore, 1) := by decide +kernel
theorem dX12_addsColumn_69 : decode cX12_addsColumn 69 = .ok (.aload_n 0, 1) := by decide +kernel
theorem dX12_addsColumn_70 : decode cX12_addsColumn 70 = .ok (.getfield 39, 3) := by decide +kernel
theorem dX12_addsColumn_73 : decode cX12_addsColumn 73 = .ok (.iconst 4, 1) := by decide +kernel
theorem dX12_addsColumn_74 : decode cX12_addsColumn 74 = .ok (.bipush 13, 2) := by decide +kernel
theorem dX12_addsColumn_76 : decode cX12_addsColumn 76 = .ok (.iload_n 3, 1) := by decide +kernel
theorem dX12_addsColumn_77 : decode cX12_addsColumn 77 = .ok (.imul, 1) := by decide +kernel
theorem dX12_addsColumn_78 : decode cX12_addsColumn 78 = .ok (.iadd, 1) := by decide +kernel
theorem dX12_addsColumn_79 : decode cX12_addsColumn 79 = .ok (.dup2, 1) := by decide +kernel
theorem dX12_addsColumn_80 : decode cX12_addsColumn 80 = .ok (.iaload, 1) := by decide +kernel
theorem dX12_addsColumn_81 : decode cX12_addsColumn 81 = .ok (.iconst 1, 1) := by decide +kernel
theorem dX12_addsColumn_82 : decode cX12_addsColumn 82 = .ok (.iadd, 1) := by decide +kernel
theorem dX12_addsColumn_83 : decode cX12_addsColumn 83 = .ok (.iastore, 1) := by decide +kernel
theorem dX12_addsColumn_84 : decode cX12_addsColumn 84 = .ok (.aload_n 0, 1) := by decide +kernel
theorem dX12_addsColumn_85 : decode cX12_addsColumn 85 = .ok (.iload_n 3, 1) := by decide +kernel
theorem dX12_addsColumn_86 : decode cX12_addsColumn 86 = .ok (.invokevirtual 418, 3) := by decide +kernel
theorem dX12_addsColumn_89 : decode cX12_addsColumn 89 = .ok (.ifCond .eq 5, 3) := by decide +kernel
theorem dX12_addsColumn_92 : decode cX12_addsColumn 92 = .ok (.iconst 0, 1) := by decide +kernel
theorem dX12_addsColumn_93 : decode cX12_addsColumn 93 = .ok (.ireturn, 1) := by decide +kernel
theorem dX12_addsColumn_94 : decode cX12_addsColumn 94 = .ok (.aload_n 0, 1) := by decide +kernel
theorem dX12_addsColumn_95 : decode cX12_addsColumn 95 = .ok (.getfield 39, 3) := by decide +kernel
theorem dX12_addsColumn_98 : decode cX12_addsColumn 98 = .ok (.bipush 108, 2) := by decide +kernel
theorem dX12_addsColumn_100 : decode cX12_addsColumn 100 = .ok (.iload_n 3, 1) := by decide +kernel
theorem dX12_addsColumn_101 : decode cX12_addsColumn 101 = .ok (.iadd, 1) := by decide +kernel
theorem dX12_addsColumn_102 : decode cX12_addsColumn 102 = .ok (.aload_n 0, 1) := by decide +kernel
theorem dX12_addsColumn_103 : decode cX12_addsColumn 103 = .ok (.getfield 9, 3) := by decide +kernel
theorem dX12_addsColumn_106 : decode cX12_addsColumn 106 = .ok (.iload_n 1, 1) := by decide +kernel
theorem dX12_addsColumn_107 : decode cX12_addsColumn 107 = .ok (.bipush 108, 2) := by decide +kernel
theorem dX12_addsColumn_109 : decode cX12_addsColumn 109 = .ok (.invokestatic 66, 3) := by decide +kernel
theorem dX12_addsColumn_112 : decode cX12_addsColumn 112 = .ok (.iload_n 2, 1) := by decide +kernel
theorem dX12_addsColumn_113 : decode cX12_addsColumn 113 = .ok (.iadd, 1) := by decide +kernel
theorem dX12_addsColumn_114 : decode cX12_addsColumn 114 = .ok (.iaload, 1) := by decide +kernel
theorem dX12_addsColumn_115 : decode cX12_addsColumn 115 = .ok (.iastore, 1) := by decide +kernel
theorem dX12_addsColumn_116 : decode cX12_addsColumn 116 = .ok (.aload_n 0, 1) := by decide +kernel
theorem dX12_addsColumn_117 : decode cX12_addsColumn 117 = .ok (.getfield 39, 3) := by decide +kernel
theorem dX12_addsColumn_120 : decode cX12_addsColumn 120 = .ok (.iconst 1, 1) := by decide +kernel
theorem dX12_addsColumn_121 : decode cX12_addsColumn 121 = .ok (.dup2, 1) := by decide +kernel
theorem dX12_addsColumn_122 : decode cX12_addsColumn 122 = .ok (.iaload, 1) := by decide +kernel
theorem dX12_addsColumn_123 : decode cX12_addsColumn 123 = .ok (.iconst 1, 1) := by decide +kernel
theorem dX12_addsColumn_124 : decode cX12_addsColumn 124 = .ok (.iadd, 1) := by decide +kernel
theorem dX12_addsColumn_125 : decode cX12_addsColumn 125 = .ok (.iastore, 1) := by decide +kernel
theorem dX12_addsColumn_126 : decode cX12_addsColumn 126 = .ok (.iconst 1, 1) := by decide +kernel
theorem dX12_addsColumn_127 : decode cX12_addsColumn 127 = .ok (.ireturn, 1) := by decide +kernel
theorem dX12_addsColumn_49 : decode cX12_addsColumn 49 = .ok (.iconst 0, 1) := by decide +kernel
theorem dX12_addsColumn_50 : decode cX12_addsColumn 50 = .ok (.ireturn, 1) := by decide +kernel
theorem dX12_addsRow_0 : decode cX12_addsRow 0 = .ok (.sipush 403, 3) := by decide +kernel
theorem dX12_addsRow_3 : decode cX12_addsRow 3 = .ok (.sipush 168, 3) := by decide +kernel
theorem dX12_addsRow_6 : decode cX12_addsRow 6 = .ok (.aload_n 0, 1) := by decide +kernel
theorem dX12_addsRow_7 : decode cX12_addsRow 7 = .ok (.getfield 39, 3) := by decide +kernel
theorem dX12_addsRow_10 : decode cX12_addsRow 10 = .ok (.iconst 2, 1) := by decide +kernel
theorem dX12_addsRow_11 : decode cX12_addsRow 11 = .ok (.iaload, 1) := by decide +kernel
theorem dX12_addsRow_12 : decode cX12_addsRow 12 = .ok (.imul, 1) := by decide +kernel
theorem dX12_addsRow_13 : decode cX12_addsRow 13 = .ok (.iadd, 1) := by decide +kernel
theorem dX12_addsRow_14 : decode cX12_addsRow 14 = .ok (.istore 6, 2) := by decide +kernel
theorem dX12_addsRow_16 : decode cX12_addsRow 16 = .ok (.iconst 0, 1) := by decide +kernel
theorem dX12_addsRow_17 : decode cX12_addsRow 17 = .ok (.istore 7, 2) := by decide +kernel
theorem dX12_addsRow_19 : decode cX12_addsRow 19 = .ok (.iload 7, 2) := by decide +kernel
theorem dX12_addsRow_21 : decode cX12_addsRow 21 = .ok (.aload_n 0, 1) := by decide +kernel
theorem dX12_addsRow_22 : decode cX12_addsRow 22 = .ok (.getfield 9, 3) := by decide +kernel
theorem dX12_addsRow_25 : decode cX12_addsRow 25 = .ok (.iload_n 1, 1) := by decide +kernel
theorem dX12_addsRow_26 : decode cX12_addsRow 26 = .ok (.iconst 1, 1) := by decide +kernel
theorem dX12_addsRow_27 : decode cX12_addsRow 27 = .ok (.invokestatic 66, 3) := by decide +kernel
theorem dX12_addsRow_30 : decode cX12_addsRow 30 = .ok (.iaload, 1) := by decide +kernel
theorem dX12_addsRow_31 : decode cX12_addsRow 31 = .ok (.if_icmp .ge 53, 3) := by decide +kernel
theorem dX12_addsRow_84 : decode cX12_addsRow 84 = .ok (.iconst 0, 1) := by decide +kernel
theorem dX12_addsRow_85 : decode cX12_addsRow 85 = .ok (.istore 7, 2) := by decide +kernel
theorem dX12_addsRow_87 : decode cX12_addsRow 87 = .ok (.iload 7, 2) := by decide +kernel
theorem dX12_addsRow_89 : decode cX12_addsRow 89 = .ok (.aload_n 0, 1) := by decide +kernel
theorem dX12_addsRow_90 : decode cX12_addsRow 90 = .ok (.getfield 9, 3) := by decide +kernel
theorem dX12_addsRow_93 : decode cX12_addsRow 93 = .ok (.iload_n 3, 1) := by decide +kernel
theorem dX12_addsRow_94 : decode cX12_addsRow 94 = .ok (.iconst 1, 1) := by decide +kernel
theorem dX12_addsRow_95 : decode cX12_addsRow 95 = .ok (.invokestatic 66, 3) := by decide +kernel
theorem dX12_addsRow_98 : decode cX12_addsRow 98 = .ok (.iaload, 1) := by decide +kernel
theorem dX12_addsRow_99 : decode cX12_addsRow 99 = .ok (.if_icmp .ge 64, 3) := by decide +kernel
theorem dX12_addsRow_163 : decode cX12_addsRow 163 = .ok (.aload_n 0, 1) := by decide +kernel
theorem dX12_addsRow_164 : decode cX12_addsRow 164 = .ok (.getfield 39, 3) := by decide +kernel
theorem dX12_addsRow_167 : decode cX12_addsRow 167 = .ok (.iconst 2, 1) := by decide +kernel
theorem dX12_addsRow_168 : decode cX12_addsRow 168 = .ok (.dup2, 1) := by decide +kernel
theorem dX12_addsRow_169 : decode cX12_addsRow 169 = .ok (.iaload, 1) := by decide +kernel
theorem dX12_addsRow_170 : decode cX12_addsRow 170 = .ok (.iconst 1, 1) := by decide +kernel
theorem dX12_addsRow_171 : decode cX12_addsRow 171 = .ok (.iadd, 1) := by decide +kernel
theorem dX12_addsRow_172 : decode cX12_addsRow 172 = .ok (.iastore, 1) := by decide +kernel
theorem dX12_addsRow_173 : decode cX12_addsRow 173 = .ok (.return_, 1) := by decide +kernel
theorem dX12_addsRow_102 : decode cX12_addsRow 102 = .ok (.iload 7, 2) := by decide +kernel
theorem dX12_addsRow_104 : decode cX12_addsRow 104 = .ok (.iload 5, 2) := by decide +kernel
theorem dX12_addsRow_106 : decode cX12_addsRow 106 = .ok (.if_icmp .ne 6, 3) := by decide +kernel
theorem dX12_addsRow_112 : decode cX12_addsRow 112 = .ok (.iconst 0, 1) := by decide +kernel
theorem dX12_addsRow_113 : decode cX12_addsRow 113 = .ok (.istore 8, 2) := by decide +kernel
theorem dX12_addsRow_115 : decode cX12_addsRow 115 = .ok (.iload 8, 2) := by decide +kernel
theorem dX12_addsRow_117 : decode cX12_addsRow 117 = .ok (.bipush 21, 2) := by decide +kernel
theorem dX12_addsRow_119 : decode cX12_addsRow 119 = .ok (.if_icmp .ge 35, 3) := by decide +kernel
theorem dX12_addsRow_154 : decode cX12_addsRow 154 = .ok (.iinc 6 21, 3) := by decide +kernel
theorem dX12_addsRow_157 : decode cX12_addsRow 157 = .ok (.iinc 7 1, 3) := by decide +kernel
theorem dX12_addsRow_160 : decode cX12_addsRow 160 = .ok (.goto (-73), 3) := by decide +kernel
theorem dX12_addsRow_122 : decode cX12_addsRow 122 = .ok (.aload_n 0, 1) := by decide +kernel
theorem dX12_addsRow_123 : decode cX12_addsRow 123 = .ok (.getfield 39, 3) := by decide +kernel
theorem dX12_addsRow_126 : decode cX12_addsRow 126 = .ok (.iload 6, 2) := by decide +kernel
theorem dX12_addsRow_128 : decode cX12_addsRow 128 = .ok (.iload 8, 2) := by decide +kernel
theorem dX12_addsRow_130 : decode cX12_addsRow 130 = .ok (.iadd, 1) := by decide +kernel
theorem dX12_addsRow_131 : decode cX12_addsRow 131 = .ok (.aload_n 0, 1) := by decide +kernel
theorem dX12_addsRow_132 : decode cX12_addsRow 132 = .ok (.getfield 9, 3) := by decide +kernel
theorem dX12_addsRow_135 : decode cX12_addsRow 135 = .ok (.iload_n 3, 1) := by decide +kernel
theorem dX12_addsRow_136 : decode cX12_addsRow 136 = .ok (.iload 4, 2) := by decide +kernel
theorem dX12_addsRow_138 : decode cX12_addsRow 138 = .ok (.iload 7, 2) := by decide +kernel
theorem dX12_addsRow_140 : decode cX12_addsRow 140 = .ok (.invokestatic 167, 3) := by decide +kernel
theorem dX12_addsRow_143 : decode cX12_addsRow 143 = .ok (.iload 8, 2) := by decide +kernel
theorem dX12_addsRow_145 : decode cX12_addsRow 145 = .ok (.iadd, 1) := by decide +kernel
theorem dX12_addsRow_146 : decode cX12_addsRow 146 = .ok (.iaload, 1) := by decide +kernel
theorem dX12_addsRow_147 : decode cX12_addsRow 147 = .ok (.iastore, 1) := by decide +kernel
theorem dX12_addsRow_148 : decode cX12_addsRow 148 = .ok (.iinc 8 1, 3) := by decide +kernel
theorem dX12_addsRow_151 : decode cX12_addsRow 151 = .ok (.goto (-36), 3) := by decide +kernel
theorem dX12_addsRow_109 : decode cX12_addsRow 109 = .ok (.goto 48, 3) := by decide +kernel
theorem dX12_addsRow_34 : decode cX12_addsRow 34 = .ok (.iconst 0, 1) := by decide +kernel
theorem dX12_addsRow_35 : decode cX12_addsRow 35 = .ok (.istore 8, 2) := by decide +kernel
theorem dX12_addsRow_37 : decode cX12_addsRow 37 = .ok (.iload 8, 2) := by decide +kernel
theorem dX12_addsRow_39 : decode cX12_addsRow 39 = .ok (.bipush 21, 2) := by decide +kernel
theorem dX12_addsRow_41 : decode cX12_addsRow 41 = .ok (.if_icmp .ge 34, 3) := by decide +kernel
theorem dX12_addsRow_75 : decode cX12_addsRow 75 = .ok (.iinc 6 21, 3) := by decide +kernel
theorem dX12_addsRow_78 : decode cX12_addsRow 78 = .ok (.iinc 7 1, 3) := by decide +kernel
theorem dX12_addsRow_81 : decode cX12_addsRow 81 = .ok (.goto (-62), 3) := by decide +kernel
theorem dX12_addsRow_44 : decode cX12_addsRow 44 = .ok (.aload_n 0, 1) := by decide +kernel
theorem dX12_addsRow_45 : decode cX12_addsRow 45 = .ok (.getfield 39, 3) := by decide +kernel
theorem dX12_addsRow_48 : decode cX12_addsRow 48 = .ok (.iload 6, 2) := by decide +kernel
theorem dX12_addsRow_50 : decode cX12_addsRow 50 = .ok (.iload 8, 2) := by decide +kernel
theorem dX12_addsRow_52 : decode cX12_addsRow 52 = .ok (.iadd, 1) := by decide +kernel
theorem dX12_addsRow_53 : decode cX12_addsRow 53 = .ok (.aload_n 0, 1) := by decide +kernel
theorem dX12_addsRow_54 : decode cX12_addsRow 54 = .ok (.getfield 9, 3) := by decide +kernel
theorem dX12_addsRow_57 : decode cX12_addsRow 57 = .ok (.iload_n 1, 1) := by decide +kernel
theorem dX12_addsRow_58 : decode cX12_addsRow 58 = .ok (.iload_n 2, 1) := by decide +kernel
theorem dX12_addsRow_59 : decode cX12_addsRow 59 = .ok (.iload 7, 2) := by decide +kernel
theorem dX12_addsRow_61 : decode cX12_addsRow 61 = .ok (.invokestatic 167, 3) := by decide +kernel
theorem dX12_addsRow_64 : decode cX12_addsRow 64 = .ok (.iload 8, 2) := by decide +kernel
theorem dX12_addsRow_66 : decode cX12_addsRow 66 = .ok (.iadd, 1) := by decide +kernel
theorem dX12_addsRow_67 : decode cX12_addsRow 67 = .ok (.iaload, 1) := by decide +kernel
theorem dX12_addsRow_68 : decode cX12_addsRow 68 = .ok (.iastore, 1) := by decide +kernel
theorem dX12_addsRow_69 : decode cX12_addsRow 69 = .ok (.iinc 8 1, 3) := by decide +kernel
theorem dX12_addsRow_72 : decode cX12_addsRow 72 = .ok (.goto (-35), 3) := by decide +kernel
theorem dX12_joins_0 : decode cX12_joins 0 = .ok (.iconst 0, 1) := by decide +kernel
theorem dX12_joins_1 : decode cX12_joins 1 = .ok (.istore 6, 2) := by decide +kernel
theorem dX12_joins_3 : decode cX12_joins 3 = .ok (.iload 6, 2) := by decide +kernel
theorem dX12_joins_5 : decode cX12_joins 5 = .ok (.sipush 7123, 3) := by decide +kernel
theorem dX12_joins_8 : decode cX12_joins 8 = .ok (.if_icmp .ge 17, 3) := by decide +kernel
theorem dX12_joins_25 : decode cX12_joins 25 = .ok (.aload_n 0, 1) := by decide +kernel
theorem dX12_joins_26 : decode cX12_joins 26 = .ok (.getfield 39, 3) := by decide +kernel
theorem dX12_joins_29 : decode cX12_joins 29 = .ok (.iconst 0, 1) := by decide +kernel
theorem dX12_joins_30 : decode cX12_joins 30 = .ok (.iconst 1, 1) := by decide +kernel
theorem dX12_joins_31 : decode cX12_joins 31 = .ok (.iastore, 1) := by decide +kernel
theorem dX12_joins_32 : decode cX12_joins 32 = .ok (.aload_n 0, 1) := by decide +kernel
theorem dX12_joins_33 : decode cX12_joins 33 = .ok (.getfield 9, 3) := by decide +kernel
theorem dX12_joins_36 : decode cX12_joins 36 = .ok (.iload_n 1, 1) := by decide +kernel
theorem dX12_joins_37 : decode cX12_joins 37 = .ok (.iconst 1, 1) := by decide +kernel
theorem dX12_joins_38 : decode cX12_joins 38 = .ok (.invokestatic 66, 3) := by decide +kernel
theorem dX12_joins_41 : decode cX12_joins 41 = .ok (.iaload, 1) := by decide +kernel
theorem dX12_joins_42 : decode cX12_joins 42 = .ok (.aload_n 0, 1) := by decide +kernel
theorem dX12_joins_43 : decode cX12_joins 43 = .ok (.getfield 9, 3) := by decide +kernel
theorem dX12_joins_46 : decode cX12_joins 46 = .ok (.iload_n 3, 1) := by decide +kernel
theorem dX12_joins_47 : decode cX12_joins 47 = .ok (.iconst 1, 1) := by decide +kernel
theorem dX12_joins_48 : decode cX12_joins 48 = .ok (.invokestatic 66, 3) := by decide +kernel
theorem dX12_joins_51 : decode cX12_joins 51 = .ok (.iaload, 1) := by decide +kernel
theorem dX12_joins_52 : decode cX12_joins 52 = .ok (.iadd, 1) := by decide +kernel
theorem dX12_joins_53 : decode cX12_joins 53 = .ok (.iconst 1, 1) := by decide +kernel
theorem dX12_joins_54 : decode cX12_joins 54 = .ok (.isub, 1) := by decide +kernel
theorem dX12_joins_55 : decode cX12_joins 55 = .ok (.bipush 8, 2) := by decide +kernel
theorem dX12_joins_57 : decode cX12_joins 57 = .ok (.if_icmp .le 5, 3) := by decide +kernel
theorem dX12_joins_62 : decode cX12_joins 62 = .ok (.iconst 0, 1) := by decide +kernel
theorem dX12_joins_63 : decode cX12_joins 63 = .ok (.istore 6, 2) := by decide +kernel
theorem dX12_joins_65 : decode cX12_joins 65 = .ok (.iload 6, 2) := by decide +kernel
theorem dX12_joins_67 : decode cX12_joins 67 = .ok (.aload_n 0, 1) := by decide +kernel
theorem dX12_joins_68 : decode cX12_joins 68 = .ok (.getfield 9, 3) := by decide +kernel
theorem dX12_joins_71 : decode cX12_joins 71 = .ok (.iload_n 1, 1) := by decide +kernel
theorem dX12_joins_72 : decode cX12_joins 72 = .ok (.iconst 1, 1) := by decide +kernel
theorem dX12_joins_73 : decode cX12_joins 73 = .ok (.invokestatic 66, 3) := by decide +kernel
theorem dX12_joins_76 : decode cX12_joins 76 = .ok (.iaload, 1) := by decide +kernel
theorem dX12_joins_77 : decode cX12_joins 77 = .ok (.if_icmp .ge 21, 3) := by decide +kernel
theorem dX12_joins_98 : decode cX12_joins 98 = .ok (.iconst 0, 1) := by decide +kernel
theorem dX12_joins_99 : decode cX12_joins 99 = .ok (.istore 6, 2) := by decide +kernel
theorem dX12_joins_101 : decode cX12_joins 101 = .ok (.iload 6, 2) := by decide +kernel
theorem dX12_joins_103 : decode cX12_joins 103 = .ok (.aload_n 0, 1) := by decide +kernel
theorem dX12_joins_104 : decode cX12_joins 104 = .ok (.getfield 9, 3) := by decide +kernel
theorem dX12_joins_107 : decode cX12_joins 107 = .ok (.iload_n 3, 1) := by decide +kernel
theorem dX12_joins_108 : decode cX12_joins 108 = .ok (.iconst 1, 1) := by decide +kernel
theorem dX12_joins_109 : decode cX12_joins 109 = .ok (.invokestatic 66, 3) := by decide +kernel
theorem dX12_joins_112 : decode cX12_joins 112 = .ok (.iaload, 1) := by decide +kernel
theorem dX12_joins_113 : decode cX12_joins 113 = .ok (.if_icmp .ge 28, 3) := by decide +kernel
theorem dX12_joins_141 : decode cX12_joins 141 = .ok (.iconst 0, 1) := by decide +kernel
theorem dX12_joins_142 : decode cX12_joins 142 = .ok (.istore 6, 2) := by decide +kernel
theorem dX12_joins_144 : decode cX12_joins 144 = .ok (.iload 6, 2) := by decide +kernel
theorem dX12_joins_146 : decode cX12_joins 146 = .ok (.aload_n 0, 1) := by decide +kernel
theorem dX12_joins_147 : decode cX12_joins 147 = .ok (.iload_n 1, 1) := by decide +kernel
theorem dX12_joins_148 : decode cX12_joins 148 = .ok (.invokevirtual 341, 3) := by decide +kernel
theorem dX12_joins_151 : decode cX12_joins 151 = .ok (.if_icmp .ge 94, 3) := by decide +kernel
theorem dX12_joins_245 : decode cX12_joins 245 = .ok (.iconst 1, 1) := by decide +kernel
theorem dX12_joins_246 : decode cX12_joins 246 = .ok (.ireturn, 1) := by decide +kernel
theorem dX12_joins_154 : decode cX12_joins 154 = .ok (.iconst 0, 1) := by decide +kernel
theorem dX12_joins_155 : decode cX12_joins 155 = .ok (.istore 7, 2) := by decide +kernel
theorem dX12_joins_157 : decode cX12_joins 157 = .ok (.iload 7, 2) := by decide +kernel
theorem dX12_joins_159 : decode cX12_joins 159 = .ok (.aload_n 0, 1) := by decide +kernel
theorem dX12_joins_160 : decode cX12_joins 160 = .ok (.iload_n 3, 1) := by decide +kernel
theorem dX12_joins_161 : decode cX12_joins 161 = .ok (.invokevirtual 341, 3) := by decide +kernel
theorem dX12_joins_164 : decode cX12_joins 164 = .ok (.if_icmp .ge 75, 3) := by decide +kernel
theorem dX12_joins_239 : decode cX12_joins 239 = .ok (.iinc 6 1, 3) := by decide +kernel
theorem dX12_joins_242 : decode cX12_joins 242 = .ok (.goto (-98), 3) := by decide +kernel
theorem dX12_joins_167 : decode cX12_joins 167 = .ok (.aload_n 0, 1) := by decide +kernel
theorem dX12_joins_168 : decode cX12_joins 168 = .ok (.iload_n 1, 1) := by decide +kernel
theorem dX12_joins_169 : decode cX12_joins 169 = .ok (.aload_n 0, 1) := by decide +kernel
theorem dX12_joins_170 : decode cX12_joins 170 = .ok (.iload_n 1, 1) := by decide +kernel
theorem dX12_joins_171 : decode cX12_joins 171 = .ok (.iload 6, 2) := by decide +kernel
theorem dX12_joins_173 : decode cX12_joins 173 = .ok (.invokevirtual 345, 3) := by decide +kernel
theorem dX12_joins_176 : decode cX12_joins 176 = .ok (.iload_n 2, 1) := by decide +kernel
theorem dX12_joins_177 : decode cX12_joins 177 = .ok (.iload_n 3, 1) := by decide +kernel
theorem dX12_joins_178 : decode cX12_joins 178 = .ok (.aload_n 0, 1) := by decide +kernel
theorem dX12_joins_179 : decode cX12_joins 179 = .ok (.iload_n 3, 1) := by decide +kernel
theorem dX12_joins_180 : decode cX12_joins 180 = .ok (.iload 7, 2) := by decide +kernel
theorem dX12_joins_182 : decode cX12_joins 182 = .ok (.invokevirtual 345, 3) := by decide +kernel
theorem dX12_joins_185 : decode cX12_joins 185 = .ok (.iload 4, 2) := by decide +kernel
theorem dX12_joins_187 : decode cX12_joins 187 = .ok (.iload 5, 2) := by decide +kernel
theorem dX12_joins_189 : decode cX12_joins 189 = .ok (.invokevirtual 414, 3) := by decide +kernel
theorem dX12_joins_192 : decode cX12_joins 192 = .ok (.ifCond .ne 6, 3) := by decide +kernel
theorem dX12_joins_198 : decode cX12_joins 198 = .ok (.aload_n 0, 1) := by decide +kernel
theorem dX12_joins_199 : decode cX12_joins 199 = .ok (.getfield 39, 3) := by decide +kernel
theorem dX12_joins_202 : decode cX12_joins 202 = .ok (.iconst 2, 1) := by decide +kernel
theorem dX12_joins_203 : decode cX12_joins 203 = .ok (.iaload, 1) := by decide +kernel
theorem dX12_joins_204 : decode cX12_joins 204 = .ok (.bipush 40, 2) := by decide +kernel
theorem dX12_joins_206 : decode cX12_joins 206 = .ok (.if_icmp .ne 5, 3) := by decide +kernel
theorem dX12_joins_211 : decode cX12_joins 211 = .ok (.aload_n 0, 1) := by decide +kernel
theorem dX12_joins_212 : decode cX12_joins 212 = .ok (.iload_n 1, 1) := by decide +kernel
theorem dX12_joins_213 : decode cX12_joins 213 = .ok (.aload_n 0, 1) := by decide +kernel
theorem dX12_joins_214 : decode cX12_joins 214 = .ok (.iload_n 1, 1) := by decide +kernel
theorem dX12_joins_215 : decode cX12_joins 215 = .ok (.iload 6, 2) := by decide +kernel
theorem dX12_joins_217 : decode cX12_joins 217 = .ok (.invokevirtual 345, 3) := by decide +kernel
theorem dX12_joins_220 : decode cX12_joins 220 = .ok (.iload_n 3, 1) := by decide +kernel
theorem dX12_joins_221 : decode cX12_joins 221 = .ok (.aload_n 0, 1) := by decide +kernel
theorem dX12_joins_222 : decode cX12_joins 222 = .ok (.iload_n 3, 1) := by decide +kernel
theorem dX12_joins_223 : decode cX12_joins 223 = .ok (.iload 7, 2) := by decide +kernel
theorem dX12_joins_225 : decode cX12_joins 225 = .ok (.invokevirtual 345, 3) := by decide +kernel
theorem dX12_joins_228 : decode cX12_joins 228 = .ok (.iload 4, 2) := by decide +kernel
theorem dX12_joins_230 : decode cX12_joins 230 = .ok (.invokevirtual 424, 3) := by decide +kernel
theorem mw_964 : Cond.code yX12_addsRow cX12_addsRow 9 none ∈ wsL_law := lrk_41 _ (List.mem_of_getElem? (i := 4) rfl)
theorem mw_961 : Cond.methodLink RX12 424 yX12_addsRow ∈ wsL_law := lrk_41 _ (List.mem_of_getElem? (i := 1) rfl)
theorem mw_962 : Cond.instanceMethod yX12_addsRow ∈ wsL_law := lrk_41 _ (List.mem_of_getElem? (i := 2) rfl)
theorem mw_963 : Cond.selects RX12 yX12_addsRow yX12_addsRow ∈ wsL_law := lrk_41 _ (List.mem_of_getElem? (i := 3) rfl)
theorem gV_X12_424 : GoodIn wsL_law (wsV RX12 424 RX12 yX12_addsRow (wl yX12_addsRow cX12_addsRow 9 none)) := g_V mw_961 mw_962 mw_963 mw_5 mw_964
theorem hdV_X12_addsRow : yX12_addsRow.cls = RX12 ∧ okD yX12_addsRow 5 := by decide +kernel
theorem dX12_joins_233 : decode cX12_joins 233 = .ok (.iinc 7 1, 3) := by decide +kernel
theorem dX12_joins_236 : decode cX12_joins 236 = .ok (.goto (-79), 3) := by decide +kernel
theorem dX12_joins_209 : decode cX12_joins 209 = .ok (.iconst 0, 1) := by decide +kernel
theorem dX12_joins_210 : decode cX12_joins 210 = .ok (.ireturn, 1) := by decide +kernel
theorem dX12_joins_195 : decode cX12_joins 195 = .ok (.goto 38, 3) := by decide +kernel
theorem dX12_joins_116 : decode cX12_joins 116 = .ok (.iload 6, 2) := by decide +kernel
theorem dX12_joins_118 : decode cX12_joins 118 = .ok (.iload 4, 2) := by decide +kernel
theorem dX12_joins_120 : decode cX12_joins 120 = .ok (.if_icmp .eq 15, 3) := by decide +kernel
theorem dX12_joins_135 : decode cX12_joins 135 = .ok (.iinc 6 1, 3) := by decide +kernel
theorem dX12_joins_138 : decode cX12_joins 138 = .ok (.goto (-37), 3) := by decide +kernel
theorem dX12_joins_123 : decode cX12_joins 123 = .ok (.aload_n 0, 1) := by decide +kernel
theorem dX12_joins_124 : decode cX12_joins 124 = .ok (.iload_n 3, 1) := by decide +kernel
theorem dX12_joins_125 : decode cX12_joins 125 = .ok (.iload 6, 2) := by decide +kernel
theorem dX12_joins_127 : decode cX12_joins 127 = .ok (.invokevirtual 421, 3) := by decide +kernel
theorem mw_925 : Cond.code yX12_addsColumn cX12_addsColumn 5 (some .boolean) ∈ wsL_law := lrk_39 _ (List.mem_of_getElem? (i := 13) rfl)
theorem mw_922 : Cond.methodLink RX12 421 yX12_addsColumn ∈ wsL_law := lrk_39 _ (List.mem_of_getElem? (i := 10) rfl)
theorem mw_923 : Cond.instanceMethod yX12_addsColumn ∈ wsL_law := lrk_39 _ (List.mem_of_getElem? (i := 11) rfl)
theorem mw_924 : Cond.selects RX12 yX12_addsColumn yX12_addsColumn ∈ wsL_law := lrk_39 _ (List.mem_of_getElem? (i := 12) rfl)
theorem gV_X12_421 : GoodIn wsL_law (wsV RX12 421 RX12 yX12_addsColumn (wl yX12_addsColumn cX12_addsColumn 5 (some .boolean))) := g_V mw_922 mw_923 mw_924 mw_5 mw_925
theorem hdV_X12_addsColumn : yX12_addsColumn.cls = RX12 ∧ okD yX12_addsColumn 2 := by decide +kernel
theorem dX12_joins_130 : decode cX12_joins 130 = .ok (.ifCond .ne 5, 3) := by decide +kernel
theorem dX12_joins_133 : decode cX12_joins 133 = .ok (.iconst 0, 1) := by decide +kernel
theorem dX12_joins_134 : decode cX12_joins 134 = .ok (.ireturn, 1) := by decide +kernel
theorem dX12_joins_80 : decode cX12_joins 80 = .ok (.aload_n 0, 1) := by decide +kernel
theorem dX12_joins_81 : decode cX12_joins 81 = .ok (.iload_n 1, 1) := by decide +kernel
theorem dX12_joins_82 : decode cX12_joins 82 = .ok (.iload 6, 2) := by decide +kernel
theorem dX12_joins_84 : decode cX12_joins 84 = .ok (.invokevirtual 421, 3) := by decide +kernel
theorem dX12_joins_87 : decode cX12_joins 87 = .ok (.ifCond .ne 5, 3) := by decide +kernel
theorem dX12_joins_92 : decode cX12_joins 92 = .ok (.iinc 6 1, 3) := by decide +kernel
theorem dX12_joins_95 : decode cX12_joins 95 = .ok (.goto (-30), 3) := by decide +kernel
theorem dX12_joins_90 : decode cX12_joins 90 = .ok (.iconst 0, 1) := by decide +kernel
theorem dX12_joins_91 : decode cX12_joins 91 = .ok (.ireturn, 1) := by decide +kernel
theorem dX12_joins_60 : decode cX12_joins 60 = .ok (.iconst 0, 1) := by decide +kernel
theorem dX12_joins_61 : decode cX12_joins 61 = .ok (.ireturn, 1) := by decide +kernel
theorem dX12_joins_11 : decode cX12_joins 11 = .ok (.aload_n 0, 1) := by decide +kernel
theorem dX12_joins_12 : decode cX12_joins 12 = .ok (.getfield 39, 3) := by decide +kernel
theorem dX12_joins_15 : decode cX12_joins 15 = .ok (.iload 6, 2) := by decide +kernel
theorem dX12_joins_17 : decode cX12_joins 17 = .ok (.iconst 0, 1) := by decide +kernel
theorem dX12_joins_18 : decode cX12_joins 18 = .ok (.iastore, 1) := by decide +kernel
theorem dX12_joins_19 : decode cX12_joins 19 = .ok (.iinc 6 1, 3) := by decide +kernel
theorem dX12_joins_22 : decode cX12_joins 22 = .ok (.goto (-19), 3) := by decide +kernel
theorem dX12_joined_0 : decode cX12_joined 0 = .ok (.aload_n 0, 1) := by decide +kernel
theorem dX12_joined_1 : decode cX12_joined 1 = .ok (.iload_n 1, 1) := by decide +kernel
theorem dX12_joined_2 : decode cX12_joined 2 = .ok (.iload_n 2, 1) := by decide +kernel
theorem dX12_joined_3 : decode cX12_joined 3 = .ok (.invokevirtual 312, 3) := by decide +kernel
theorem dX12_joined_6 : decode cX12_joined 6 = .ok (.ifCond .eq 38, 3) := by decide +kernel
theorem dX12_joined_9 : decode cX12_joined 9 = .ok (.aload_n 0, 1) := by decide +kernel
theorem dX12_joined_10 : decode cX12_joined 10 = .ok (.iload_n 3, 1) := by decide +kernel
theorem dX12_joined_11 : decode cX12_joined 11 = .ok (.iload 4, 2) := by decide +kernel
theorem dX12_joined_13 : decode cX12_joined 13 = .ok (.invokevirtual 312, 3) := by decide +kernel
theorem dX12_joined_16 : decode cX12_joined 16 = .ok (.ifCond .eq 28, 3) := by decide +kernel
theorem dX12_joined_19 : decode cX12_joined 19 = .ok (.iload 5, 2) := by decide +kernel
theorem dX12_joined_21 : decode cX12_joined 21 = .ok (.i2l, 1) := by decide +kernel
theorem dX12_joined_22 : decode cX12_joined 22 = .ok (.lconst 0, 1) := by decide +kernel
theorem dX12_joined_23 : decode cX12_joined 23 = .ok (.ldc2_w 60, 3) := by decide +kernel
theorem dX12_joined_26 : decode cX12_joined 26 = .ok (.invokestatic 62, 3) := by decide +kernel
theorem dX12_joined_29 : decode cX12_joined 29 = .ok (.ifCond .eq 15, 3) := by decide +kernel
theorem dX12_joined_32 : decode cX12_joined 32 = .ok (.iload 5, 2) := by decide +kernel
theorem dX12_joined_34 : decode cX12_joined 34 = .ok (.iload_n 1, 1) := by decide +kernel
theorem dX12_joined_35 : decode cX12_joined 35 = .ok (.if_icmp .eq 9, 3) := by decide +kernel
theorem dX12_joined_44 : decode cX12_joined 44 = .ok (.iconst (-1), 1) := by decide +kernel
theorem dX12_joined_45 : decode cX12_joined 45 = .ok (.ireturn, 1) := by decide +kernel
theorem dX12_joined_38 : decode cX12_joined 38 = .ok (.iload 5, 2) := by decide +kernel
theorem dX12_joined_40 : decode cX12_joined 40 = .ok (.iload_n 3, 1) := by decide +kernel
theorem dX12_joined_41 : decode cX12_joined 41 = .ok (.if_icmp .ne 5, 3) := by decide +kernel
theorem dX12_joined_46 : decode cX12_joined 46 = .ok (.aload_n 0, 1) := by decide +kernel
theorem dX12_joined_47 : decode cX12_joined 47 = .ok (.iload_n 1, 1) := by decide +kernel
theorem dX12_joined_48 : decode cX12_joined 48 = .ok (.iload_n 2, 1) := by decide +kernel
theorem dX12_joined_49 : decode cX12_joined 49 = .ok (.iload_n 3, 1) := by decide +kernel
theorem dX12_joined_50 : decode cX12_joined 50 = .ok (.iload 4, 2) := by decide +kernel
theorem dX12_joined_52 : decode cX12_joined 52 = .ok (.invokevirtual 411, 3) := by decide +kernel
theorem dX12_joined_55 : decode cX12_joined 55 = .ok (.istore 6, 2) := by decide +kernel
theorem dX12_joined_57 : decode cX12_joined 57 = .ok (.iload 6, 2) := by decide +kernel
theorem dX12_joined_59 : decode cX12_joined 59 = .ok (.iconst (-1), 1) := by decide +kernel
theorem dX12_joined_60 : decode cX12_joined 60 = .ok (.if_icmp .eq 17, 3) := by decide +kernel
theorem dX12_joined_77 : decode cX12_joined 77 = .ok (.iconst (-1), 1) := by decide +kernel
theorem dX12_joined_78 : decode cX12_joined 78 = .ok (.ireturn, 1) := by decide +kernel
theorem dX12_joined_63 : decode cX12_joined 63 = .ok (.aload_n 0, 1) := by decide +kernel
theorem dX12_joined_64 : decode cX12_joined 64 = .ok (.iload_n 1, 1) := by decide +kernel
theorem dX12_joined_65 : decode cX12_joined 65 = .ok (.iload_n 2, 1) := by decide +kernel
theorem dX12_joined_66 : decode cX12_joined 66 = .ok (.iload_n 3, 1) := by decide +kernel
theorem dX12_joined_67 : decode cX12_joined 67 = .ok (.iload 4, 2) := by decide +kernel
theorem dX12_joined_69 : decode cX12_joined 69 = .ok (.iload 6, 2) := by decide +kernel
theorem dX12_joined_71 : decode cX12_joined 71 = .ok (.invokevirtual 428, 3) := by decide +kernel
theorem mw_921 : Cond.code yX12_joins cX12_joins 8 (some .boolean) ∈ wsL_law := lrk_39 _ (List.mem_of_getElem? (i := 9) rfl)
theorem mw_918 : Cond.methodLink RX12 428 yX12_joins ∈ wsL_law := lrk_39 _ (List.mem_of_getElem? (i := 6) rfl)
theorem mw_919 : Cond.instanceMethod yX12_joins ∈ wsL_law := lrk_39 _ (List.mem_of_getElem? (i := 7) rfl)
theorem mw_920 : Cond.selects RX12 yX12_joins yX12_joins ∈ wsL_law := lrk_39 _ (List.mem_of_getElem? (i := 8) rfl)
theorem gV_X12_428 : GoodIn wsL_law (wsV RX12 428 RX12 yX12_joins (wl yX12_joins cX12_joins 8 (some .boolean))) := g_V mw_918 mw_919 mw_920 mw_5 mw_921
theorem hdV_X12_joins : yX12_joins.cls = RX12 ∧ okD yX12_joins 5 := by decide +kernel
theorem dX12_joined_74 : decode cX12_joined 74 = .ok (.ifCond .ne 5, 3) := by decide +kernel
theorem dX12_joined_79 : decode cX12_joined 79 = .ok (.aload_n 0, 1) := by decide +kernel
theorem dX12_joined_80 : decode cX12_joined 80 = .ok (.invokevirtual 296, 3) := by decide +kernel
theorem dX12_joined_83 : decode cX12_joined 83 = .ok (.iconst 0, 1) := by decide +kernel
theorem dX12_joined_84 : decode cX12_joined 84 = .ok (.istore 7, 2) := by decide +kernel
theorem dX12_joined_86 : decode cX12_joined 86 = .ok (.iload 7, 2) := by decide +kernel
theorem dX12_joined_88 : decode cX12_joined 88 = .ok (.sipush 7123, 3) := by decide +kernel
theorem dX12_joined_91 : decode cX12_joined 91 = .ok (.if_icmp .ge 28, 3) := by decide +kernel
theorem dX12_joined_119 : decode cX12_joined 119 = .ok (.aload_n 0, 1) := by decide +kernel
theorem dX12_joined_120 : decode cX12_joined 120 = .ok (.iload 5, 2) := by decide +kernel
theorem dX12_joined_122 : decode cX12_joined 122 = .ok (.invokevirtual 77, 3) := by decide +kernel
theorem dX12_joined_125 : decode cX12_joined 125 = .ok (.aload_n 0, 1) := by decide +kernel
theorem dX12_joined_126 : decode cX12_joined 126 = .ok (.getfield 9, 3) := by decide +kernel
theorem dX12_joined_129 : decode cX12_joined 129 = .ok (.iload 5, 2) := by decide +kernel
theorem dX12_joined_131 : decode cX12_joined 131 = .ok (.iconst 2, 1) := by decide +kernel
theorem dX12_joined_132 : decode cX12_joined 132 = .ok (.invokestatic 66, 3) := by decide +kernel
theorem dX12_joined_135 : decode cX12_joined 135 = .ok (.iaload, 1) := by decide +kernel
theorem dX12_joined_136 : decode cX12_joined 136 = .ok (.ireturn, 1) := by decide +kernel
theorem dX12_joined_94 : decode cX12_joined 94 = .ok (.aload_n 0, 1) := by decide +kernel
theorem dX12_joined_95 : decode cX12_joined 95 = .ok (.getfield 9, 3) := by decide +kernel
theorem dX12_joined_98 : decode cX12_joined 98 = .ok (.iload 5, 2) := by decide +kernel
theorem dX12_joined_100 : decode cX12_joined 100 = .ok (.iload 7, 2) := by decide +kernel
theorem dX12_joined_102 : decode cX12_joined 102 = .ok (.invokestatic 66, 3) := by decide +kernel
theorem dX12_joined_105 : decode cX12_joined 105 = .ok (.aload_n 0, 1) := by decide +kernel
theorem dX12_joined_106 : decode cX12_joined 106 = .ok (.getfield 39, 3) := by decide +kernel
theorem dX12_joined_109 : decode cX12_joined 109 = .ok (.iload 7, 2) := by decide +kernel
theorem dX12_joined_111 : decode cX12_joined 111 = .ok (.iaload, 1) := by decide +kernel
theorem dX12_joined_112 : decode cX12_joined 112 = .ok (.iastore, 1) := by decide +kernel
theorem dX12_joined_113 : decode cX12_joined 113 = .ok (.iinc 7 1, 3) := by decide +kernel
theorem dX12_joined_116 : decode cX12_joined 116 = .ok (.goto (-30), 3) := by decide +kernel
theorem dX12_differ_0 : decode cX12_differ 0 = .ok (.aload_n 0, 1) := by decide +kernel
theorem dX12_differ_1 : decode cX12_differ 1 = .ok (.iload_n 1, 1) := by decide +kernel
theorem dX12_differ_2 : decode cX12_differ 2 = .ok (.invokevirtual 70, 3) := by decide +kernel
theorem dX12_differ_5 : decode cX12_differ 5 = .ok (.ifCond .eq 11, 3) := by decide +kernel
theorem dX12_differ_8 : decode cX12_differ 8 = .ok (.aload_n 0, 1) := by decide +kernel
theorem dX12_differ_9 : decode cX12_differ 9 = .ok (.iload_n 2, 1) := by decide +kernel
theorem dX12_differ_10 : decode cX12_differ 10 = .ok (.invokevirtual 70, 3) := by decide +kernel
theorem dX12_differ_13 : decode cX12_differ 13 = .ok (.ifCond .ne 5, 3) := by decide +kernel
theorem dX12_differ_18 : decode cX12_differ 18 = .ok (.iconst 0, 1) := by decide +kernel
theorem dX12_differ_19 : decode cX12_differ 19 = .ok (.istore_n 3, 1) := by decide +kernel
theorem dX12_differ_20 : decode cX12_differ 20 = .ok (.iconst 0, 1) := by decide +kernel
theorem dX12_differ_21 : decode cX12_differ 21 = .ok (.istore 4, 2) := by decide +kernel
theorem dX12_differ_23 : decode cX12_differ 23 = .ok (.iload 4, 2) := by decide +kernel
theorem dX12_differ_25 : decode cX12_differ 25 = .ok (.bipush 40, 2) := by decide +kernel
theorem dX12_differ_27 : decode cX12_differ 27 = .ok (.if_icmp .ge 129, 3) := by decide +kernel
theorem dX12_differ_156 : decode cX12_differ 156 = .ok (.iload_n 3, 1) := by decide +kernel
theorem dX12_differ_157 : decode cX12_differ 157 = .ok (.ireturn, 1) := by decide +kernel
theorem dX12_differ_30 : decode cX12_differ 30 = .ok (.iconst 0, 1) := by decide +kernel
theorem dX12_differ_31 : decode cX12_differ 31 = .ok (.istore 5, 2) := by decide +kernel
theorem dX12_differ_33 : decode cX12_differ 33 = .ok (.iload 5, 2) := by decide +kernel
theorem dX12_differ_35 : decode cX12_differ 35 = .ok (.bipush 8, 2) := by decide +kernel
theorem dX12_differ_37 : decode cX12_differ 37 = .ok (.if_icmp .ge 113, 3) := by decide +kernel
theorem dX12_differ_150 : decode cX12_differ 150 = .ok (.iinc 4 1, 3) := by decide +kernel
theorem dX12_differ_153 : decode cX12_differ 153 = .ok (.goto (-130), 3) := by decide +kernel
theorem dX12_differ_40 : decode cX12_differ 40 = .ok (.aload_n 0, 1) := by decide +kernel
theorem dX12_differ_41 : decode cX12_differ 41 = .ok (.iload_n 1, 1) := by decide +kernel
theorem dX12_differ_42 : decode cX12_differ 42 = .ok (.iload 4, 2) := by decide +kernel
theorem dX12_differ_44 : decode cX12_differ 44 = .ok (.invokevirtual 309, 3) := by decide +kernel
theorem dX12_differ_47 : decode cX12_differ 47 = .ok (.ifCond .eq 17, 3) := by decide +kernel
theorem dX12_differ_50 : decode cX12_differ 50 = .ok (.aload_n 0, 1) := by decide +kernel
theorem dX12_differ_51 : decode cX12_differ 51 = .ok (.iload_n 1, 1) := by decide +kernel
theorem dX12_differ_52 : decode cX12_differ 52 = .ok (.iload 5, 2) := by decide +kernel
theorem dX12_differ_54 : decode cX12_differ 54 = .ok (.invokevirtual 312, 3) := by decide +kernel
theorem dX12_differ_57 : decode cX12_differ 57 = .ok (.ifCond .eq 7, 3) := by decide +kernel
theorem dX12_differ_60 : decode cX12_differ 60 = .ok (.iconst 1, 1) := by decide +kernel
theorem dX12_differ_61 : decode cX12_differ 61 = .ok (.goto 4, 3) := by decide +kernel
theorem dX12_differ_65 : decode cX12_differ 65 = .ok (.istore 6, 2) := by decide +kernel
theorem dX12_differ_67 : decode cX12_differ 67 = .ok (.aload_n 0, 1) := by decide +kernel
theorem dX12_differ_68 : decode cX12_differ 68 = .ok (.iload_n 2, 1) := by decide +kernel
theorem dX12_differ_69 : decode cX12_differ 69 = .ok (.iload 4, 2) := by decide +kernel
theorem dX12_differ_71 : decode cX12_differ 71 = .ok (.invokevirtual 309, 3) := by decide +kernel
theorem dX12_differ_74 : decode cX12_differ 74 = .ok (.ifCond .eq 17, 3) := by decide +kernel
theorem dX12_differ_77 : decode cX12_differ 77 = .ok (.aload_n 0, 1) := by decide +kernel
theorem dX12_differ_78 : decode cX12_differ 78 = .ok (.iload_n 2, 1) := by decide +kernel
theorem dX12_differ_79 : decode cX12_differ 79 = .ok (.iload 5, 2) := by decide +kernel
theorem dX12_differ_81 : decode cX12_differ 81 = .ok (.invokevirtual 312, 3) := by decide +kernel
theorem dX12_differ_84 : decode cX12_differ 84 = .ok (.ifCond .eq 7, 3) := by decide +kernel
theorem dX12_differ_87 : decode cX12_differ 87 = .ok (.iconst 1, 1) := by decide +kernel
theorem dX12_differ_88 : decode cX12_differ 88 = .ok (.goto 4, 3) := by decide +kernel
theorem dX12_differ_92 : decode cX12_differ 92 = .ok (.istore 7, 2) := by decide +kernel
theorem dX12_differ_94 : decode cX12_differ 94 = .ok (.iload_n 3, 1) := by decide +kernel
theorem dX12_differ_95 : decode cX12_differ 95 = .ok (.iload 6, 2) := by decide +kernel
theorem dX12_differ_97 : decode cX12_differ 97 = .ok (.iload 7, 2) := by decide +kernel
theorem dX12_differ_99 : decode cX12_differ 99 = .ok (.if_icmp .ne 38, 3) := by decide +kernel
theorem dX12_differ_102 : decode cX12_differ 102 = .ok (.iload 6, 2) := by decide +kernel
theorem dX12_differ_104 : decode cX12_differ 104 = .ok (.ifCond .eq 37, 3) := by decide +kernel
theorem dX12_differ_107 : decode cX12_differ 107 = .ok (.aload_n 0, 1) := by decide +kernel
theorem dX12_differ_108 : decode cX12_differ 108 = .ok (.getfield 9, 3) := by decide +kernel
theorem dX12_differ_111 : decode cX12_differ 111 = .ok (.iload_n 1, 1) := by decide +kernel
theorem dX12_differ_112 : decode cX12_differ 112 = .ok (.iload 4, 2) := by decide +kernel
theorem dX12_differ_114 : decode cX12_differ 114 = .ok (.iload 5, 2) := by decide +kernel
theorem dX12_differ_116 : decode cX12_differ 116 = .ok (.invokestatic 167, 3) := by decide +kernel
theorem dX12_differ_119 : decode cX12_differ 119 = .ok (.aload_n 0, 1) := by decide +kernel
theorem dX12_differ_120 : decode cX12_differ 120 = .ok (.getfield 9, 3) := by decide +kernel
theorem dX12_differ_123 : decode cX12_differ 123 = .ok (.iload_n 2, 1) := by decide +kernel
theorem dX12_differ_124 : decode cX12_differ 124 = .ok (.iload 4, 2) := by decide +kernel
theorem dX12_differ_126 : decode cX12_differ 126 = .ok (.iload 5, 2) := by decide +kernel
theorem dX12_differ_128 : decode cX12_differ 128 = .ok (.invokestatic 167, 3) := by decide +kernel
theorem dX12_differ_131 : decode cX12_differ 131 = .ok (.invokestatic 244, 3) := by decide +kernel
theorem dX12_differ_134 : decode cX12_differ 134 = .ok (.ifCond .ne 7, 3) := by decide +kernel
theorem dX12_differ_141 : decode cX12_differ 141 = .ok (.iconst 0, 1) := by decide +kernel
theorem dX12_differ_142 : decode cX12_differ 142 = .ok (.iadd, 1) := by decide +kernel
theorem dX12_differ_143 : decode cX12_differ 143 = .ok (.istore_n 3, 1) := by decide +kernel
theorem dX12_differ_144 : decode cX12_differ 144 = .ok (.iinc 5 1, 3) := by decide +kernel
theorem dX12_differ_147 : decode cX12_differ 147 = .ok (.goto (-114), 3) := by decide +kernel
theorem dX12_differ_137 : decode cX12_differ 137 = .ok (.iconst 1, 1) := by decide +kernel
theorem dX12_differ_138 : decode cX12_differ 138 = .ok (.goto 4, 3) := by decide +kernel
theorem dX12_differ_91 : decode cX12_differ 91 = .ok (.iconst 0, 1) := by decide +kernel
theorem dX12_differ_64 : decode cX12_differ 64 = .ok (.iconst 0, 1) := by decide +kernel
theorem dX12_differ_16 : decode cX12_differ 16 = .ok (.iconst (-1), 1) := by decide +kernel
theorem dX12_differ_17 : decode cX12_differ 17 = .ok (.ireturn, 1) := by decide +kernel
theorem dX12_says_0 : decode cX12_says 0 = .ok (.aload_n 0, 1) := by decide +kernel
theorem dX12_says_1 : decode cX12_says 1 = .ok (.getfield 57, 3) := by decide +kernel
theorem mw_203 : Cond.fieldLink RX12 57 "TypedTablesModel" "line" "[I" ∈ wsL_law := lrk_9 _ (List.mem_of_getElem? (i := 11) rfl)
theorem dX12_says_4 : decode cX12_says 4 = .ok (.aload_n 0, 1) := by decide +kernel
theorem dX12_says_5 : decode cX12_says 5 = .ok (.getfield 432, 3) := by decide +kernel
theorem mw_1447 : Cond.fieldLink RX12 432 "TypedTablesModel" "lineSigns" "I" ∈ wsL_law := lrk_61 _ (List.mem_of_getElem? (i := 7) rfl)
theorem dX12_says_8 : decode cX12_says 8 = .ok (.iload_n 1, 1) := by decide +kernel
theorem dX12_says_9 : decode cX12_says 9 = .ok (.iastore, 1) := by decide +kernel
theorem dX12_says_10 : decode cX12_says 10 = .ok (.aload_n 0, 1) := by decide +kernel
theorem dX12_says_11 : decode cX12_says 11 = .ok (.dup, 1) := by decide +kernel
theorem dX12_says_12 : decode cX12_says 12 = .ok (.getfield 432, 3) := by decide +kernel
theorem dX12_says_15 : decode cX12_says 15 = .ok (.iconst 1, 1) := by decide +kernel
theorem dX12_says_16 : decode cX12_says 16 = .ok (.iadd, 1) := by decide +kernel
theorem dX12_says_17 : decode cX12_says 17 = .ok (.putfield 432, 3) := by decide +kernel
theorem dX12_says_20 : decode cX12_says 20 = .ok (.return_, 1) := by decide +kernel
theorem dX12_saysCell_0 : decode cX12_saysCell 0 = .ok (.iload_n 1, 1) := by decide +kernel
theorem dX12_saysCell_1 : decode cX12_saysCell 1 = .ok (.iload_n 2, 1) := by decide +kernel
theorem dX12_saysCell_2 : decode cX12_saysCell 2 = .ok (.iload_n 3, 1) := by decide +kernel
theorem dX12_saysCell_3 : decode cX12_saysCell 3 = .ok (.invokestatic 167, 3) := by decide +kernel
theorem dX12_saysCell_6 : decode cX12_saysCell 6 = .ok (.istore 4, 2) := by decide +kernel
theorem dX12_saysCell_8 : decode cX12_saysCell 8 = .ok (.aload_n 0, 1) := by decide +kernel
theorem dX12_saysCell_9 : decode cX12_saysCell 9 = .ok (.iload_n 1, 1) := by decide +kernel
theorem dX12_saysCell_10 : decode cX12_saysCell 10 = .ok (.iload_n 2, 1) := by decide +kernel
theorem dX12_saysCell_11 : decode cX12_saysCell 11 = .ok (.iload_n 3, 1) := by decide +kernel
theorem dX12_saysCell_12 : decode cX12_saysCell 12 = .ok (.invokevirtual 379, 3) := by decide +kernel
theorem dX12_saysCell_15 : decode cX12_saysCell 15 = .ok (.istore 5, 2) := by decide +kernel
theorem dX12_saysCell_17 : decode cX12_saysCell 17 = .ok (.iload 5, 2) := by decide +kernel
theorem dX12_saysCell_19 : decode cX12_saysCell 19 = .ok (.ifCond .eq 15, 3) := by decide +kernel
theorem dX12_saysCell_22 : decode cX12_saysCell 22 = .ok (.aload_n 0, 1) := by decide +kernel
theorem dX12_saysCell_23 : decode cX12_saysCell 23 = .ok (.aload_n 0, 1) := by decide +kernel
theorem dX12_saysCell_24 : decode cX12_saysCell 24 = .ok (.getfield 9, 3) := by decide +kernel
theorem dX12_saysCell_27 : decode cX12_saysCell 27 = .ok (.sipush 21370, 3) := by decide +kernel
theorem dX12_saysCell_30 : decode cX12_saysCell 30 = .ok (.iaload, 1) := by decide +kernel
theorem dX12_saysCell_31 : decode cX12_saysCell 31 = .ok (.invokevirtual 435, 3) := by decide +kernel
theorem mw_1452 : Cond.code yX12_says cX12_says 2 none ∈ wsL_law := lrk_61 _ (List.mem_of_getElem? (i := 12) rfl)
theorem mw_1449 : Cond.methodLink RX12 435 yX12_says ∈ wsL_law := lrk_61 _ (List.mem_of_getElem? (i := 9) rfl)
theorem mw_1450 : Cond.instanceMethod yX12_says ∈ wsL_law := lrk_61 _ (List.mem_of_getElem? (i := 10) rfl)
theorem mw_1451 : Cond.selects RX12 yX12_says yX12_says ∈ wsL_law := lrk_61 _ (List.mem_of_getElem? (i := 11) rfl)
theorem gV_X12_435 : GoodIn wsL_law (wsV RX12 435 RX12 yX12_says (wl yX12_says cX12_says 2 none)) := g_V mw_1449 mw_1450 mw_1451 mw_5 mw_1452
theorem hdV_X12_says : yX12_says.cls = RX12 ∧ okD yX12_says 1 := by decide +kernel
theorem dX12_saysCell_34 : decode cX12_saysCell 34 = .ok (.iconst 1, 1) := by decide +kernel
theorem dX12_saysCell_35 : decode cX12_saysCell 35 = .ok (.istore 6, 2) := by decide +kernel
theorem dX12_saysCell_37 : decode cX12_saysCell 37 = .ok (.iload 6, 2) := by decide +kernel
theorem dX12_saysCell_39 : decode cX12_saysCell 39 = .ok (.aload_n 0, 1) := by decide +kernel
theorem dX12_saysCell_40 : decode cX12_saysCell 40 = .ok (.getfield 9, 3) := by decide +kernel
theorem dX12_saysCell_43 : decode cX12_saysCell 43 = .ok (.iload 4, 2) := by decide +kernel
theorem dX12_saysCell_45 : decode cX12_saysCell 45 = .ok (.iaload, 1) := by decide +kernel
theorem dX12_saysCell_46 : decode cX12_saysCell 46 = .ok (.if_icmp .gt 56, 3) := by decide +kernel
theorem dX12_saysCell_102 : decode cX12_saysCell 102 = .ok (.iload 5, 2) := by decide +kernel
theorem dX12_saysCell_104 : decode cX12_saysCell 104 = .ok (.ifCond .eq 15, 3) := by decide +kernel
theorem dX12_saysCell_107 : decode cX12_saysCell 107 = .ok (.aload_n 0, 1) := by decide +kernel
theorem dX12_saysCell_108 : decode cX12_saysCell 108 = .ok (.aload_n 0, 1) := by decide +kernel
theorem dX12_saysCell_109 : decode cX12_saysCell 109 = .ok (.getfield 9, 3) := by decide +kernel
theorem dX12_saysCell_112 : decode cX12_saysCell 112 = .ok (.sipush 21370, 3) := by decide +kernel
theorem dX12_saysCell_115 : decode cX12_saysCell 115 = .ok (.iaload, 1) := by decide +kernel
theorem dX12_saysCell_116 : decode cX12_saysCell 116 = .ok (.invokevirtual 435, 3) := by decide +kernel
theorem dX12_saysCell_119 : decode cX12_saysCell 119 = .ok (.return_, 1) := by decide +kernel
theorem dX12_saysCell_49 : decode cX12_saysCell 49 = .ok (.aload_n 0, 1) := by decide +kernel
theorem dX12_saysCell_50 : decode cX12_saysCell 50 = .ok (.getfield 9, 3) := by decide +kernel
theorem dX12_saysCell_53 : decode cX12_saysCell 53 = .ok (.iload 4, 2) := by decide +kernel
theorem dX12_saysCell_55 : decode cX12_saysCell 55 = .ok (.iload 6, 2) := by decide +kernel
theorem dX12_saysCell_57 : decode cX12_saysCell 57 = .ok (.iadd, 1) := by decide +kernel
theorem dX12_saysCell_58 : decode cX12_saysCell 58 = .ok (.iaload, 1) := by decide +kernel
theorem dX12_saysCell_59 : decode cX12_saysCell 59 = .ok (.aload_n 0, 1) := by decide +kernel
theorem dX12_saysCell_60 : decode cX12_saysCell 60 = .ok (.getfield 9, 3) := by decide +kernel
theorem dX12_saysCell_63 : decode cX12_saysCell 63 = .ok (.sipush 21370, 3) := by decide +kernel
theorem dX12_saysCell_66 : decode cX12_saysCell 66 = .ok (.iaload, 1) := by decide +kernel
theorem dX12_saysCell_67 : decode cX12_saysCell 67 = .ok (.if_icmp .ne 15, 3) := by decide +kernel
theorem dX12_saysCell_82 : decode cX12_saysCell 82 = .ok (.aload_n 0, 1) := by decide +kernel
theorem dX12_saysCell_83 : decode cX12_saysCell 83 = .ok (.aload_n 0, 1) := by decide +kernel
theorem dX12_saysCell_84 : decode cX12_saysCell 84 = .ok (.getfield 9, 3) := by decide +kernel
theorem dX12_saysCell_87 : decode cX12_saysCell 87 = .ok (.iload 4, 2) := by decide +kernel
theorem dX12_saysCell_89 : decode cX12_saysCell 89 = .ok (.iload 6, 2) := by decide +kernel
theorem dX12_saysCell_91 : decode cX12_saysCell 91 = .ok (.iadd, 1) := by decide +kernel
theorem dX12_saysCell_92 : decode cX12_saysCell 92 = .ok (.iaload, 1) := by decide +kernel
theorem dX12_saysCell_93 : decode cX12_saysCell 93 = .ok (.invokevirtual 435, 3) := by decide +kernel
theorem dX12_saysCell_96 : decode cX12_saysCell 96 = .ok (.iinc 6 1, 3) := by decide +kernel
theorem dX12_saysCell_99 : decode cX12_saysCell 99 = .ok (.goto (-62), 3) := by decide +kernel
theorem dX12_saysCell_70 : decode cX12_saysCell 70 = .ok (.aload_n 0, 1) := by decide +kernel
theorem dX12_saysCell_71 : decode cX12_saysCell 71 = .ok (.aload_n 0, 1) := by decide +kernel
theorem dX12_saysCell_72 : decode cX12_saysCell 72 = .ok (.getfield 9, 3) := by decide +kernel
theorem dX12_saysCell_75 : decode cX12_saysCell 75 = .ok (.sipush 21370, 3) := by decide +kernel
theorem dX12_saysCell_78 : decode cX12_saysCell 78 = .ok (.iaload, 1) := by decide +kernel
theorem dX12_saysCell_79 : decode cX12_saysCell 79 = .ok (.invokevirtual 435, 3) := by decide +kernel
theorem dX12_endsLine_0 : decode cX12_endsLine 0 = .ok (.aload_n 0, 1) := by decide +kernel
theorem dX12_endsLine_1 : decode cX12_endsLine 1 = .ok (.bipush 10, 2) := by decide +kernel
theorem dX12_endsLine_3 : decode cX12_endsLine 3 = .ok (.invokevirtual 435, 3) := by decide +kernel
theorem dX12_endsLine_6 : decode cX12_endsLine 6 = .ok (.aload_n 0, 1) := by decide +kernel
theorem dX12_endsLine_7 : decode cX12_endsLine 7 = .ok (.aload_n 0, 1) := by decide +kernel
theorem dX12_endsLine_8 : decode cX12_endsLine 8 = .ok (.getfield 438, 3) := by decide +kernel
theorem mw_1448 : Cond.fieldLink RX12 438 "TypedTablesModel" "isFull" "Z" ∈ wsL_law := lrk_61 _ (List.mem_of_getElem? (i := 8) rfl)
theorem dX12_endsLine_11 : decode cX12_endsLine 11 = .ok (.ifCond .ne 18, 3) := by decide +kernel
theorem dX12_endsLine_29 : decode cX12_endsLine 29 = .ok (.iconst 1, 1) := by decide +kernel
theorem dX12_endsLine_30 : decode cX12_endsLine 30 = .ok (.goto 4, 3) := by decide +kernel
theorem dX12_endsLine_34 : decode cX12_endsLine 34 = .ok (.putfield 438, 3) := by decide +kernel
theorem dX12_endsLine_37 : decode cX12_endsLine 37 = .ok (.iconst 0, 1) := by decide +kernel
theorem dX12_endsLine_38 : decode cX12_endsLine 38 = .ok (.istore_n 1, 1) := by decide +kernel
theorem dX12_endsLine_39 : decode cX12_endsLine 39 = .ok (.iload_n 1, 1) := by decide +kernel
theorem dX12_endsLine_40 : decode cX12_endsLine 40 = .ok (.aload_n 0, 1) := by decide +kernel
theorem dX12_endsLine_41 : decode cX12_endsLine 41 = .ok (.getfield 432, 3) := by decide +kernel
theorem dX12_endsLine_44 : decode cX12_endsLine 44 = .ok (.if_icmp .ge 41, 3) := by decide +kernel
theorem dX12_endsLine_85 : decode cX12_endsLine 85 = .ok (.aload_n 0, 1) := by decide +kernel
theorem dX12_endsLine_86 : decode cX12_endsLine 86 = .ok (.iconst 0, 1) := by decide +kernel
theorem dX12_endsLine_87 : decode cX12_endsLine 87 = .ok (.putfield 432, 3) := by decide +kernel
theorem dX12_endsLine_90 : decode cX12_endsLine 90 = .ok (.return_, 1) := by decide +kernel
theorem dX12_endsLine_47 : decode cX12_endsLine 47 = .ok (.aload_n 0, 1) := by decide +kernel
theorem dX12_endsLine_48 : decode cX12_endsLine 48 = .ok (.getfield 438, 3) := by decide +kernel
theorem dX12_endsLine_51 : decode cX12_endsLine 51 = .ok (.ifCond .ne 34, 3) := by decide +kernel
theorem dX12_endsLine_14 : decode cX12_endsLine 14 = .ok (.aload_n 0, 1) := by decide +kernel
theorem dX12_endsLine_15 : decode cX12_endsLine 15 = .ok (.getfield 442, 3) := by decide +kernel
theorem mw_1446 : Cond.fieldLink RX12 442 "TypedTablesModel" "signs" "I" ∈ wsL_law := lrk_61 _ (List.mem_of_getElem? (i := 6) rfl)
theorem dX12_endsLine_18 : decode cX12_endsLine 18 = .ok (.aload_n 0, 1) := by decide +kernel
theorem dX12_endsLine_19 : decode cX12_endsLine 19 = .ok (.getfield 432, 3) := by decide +kernel
theorem dX12_endsLine_22 : decode cX12_endsLine 22 = .ok (.iadd, 1) := by decide +kernel
theorem dX12_endsLine_23 : decode cX12_endsLine 23 = .ok (.sipush 6000, 3) := by decide +kernel
theorem dX12_endsLine_26 : decode cX12_endsLine 26 = .ok (.if_icmp .le 7, 3) := by decide +kernel
theorem dX12_endsLine_33 : decode cX12_endsLine 33 = .ok (.iconst 0, 1) := by decide +kernel
theorem dX12_endsLine_54 : decode cX12_endsLine 54 = .ok (.aload_n 0, 1) := by decide +kernel
theorem dX12_endsLine_55 : decode cX12_endsLine 55 = .ok (.getfield 54, 3) := by decide +kernel
theorem mw_202 : Cond.fieldLink RX12 54 "TypedTablesModel" "text" "[I" ∈ wsL_law := lrk_9 _ (List.mem_of_getElem? (i := 10) rfl)
theorem dX12_endsLine_58 : decode cX12_endsLine 58 = .ok (.aload_n 0, 1) := by decide +kernel
theorem dX12_endsLine_59 : decode cX12_endsLine 59 = .ok (.getfield 442, 3) := by decide +kernel
theorem dX12_endsLine_62 : decode cX12_endsLine 62 = .ok (.aload_n 0, 1) := by decide +kernel
theorem dX12_endsLine_63 : decode cX12_endsLine 63 = .ok (.getfield 57, 3) := by decide +kernel
theorem dX12_endsLine_66 : decode cX12_endsLine 66 = .ok (.iload_n 1, 1) := by decide +kernel
theorem dX12_endsLine_67 : decode cX12_endsLine 67 = .ok (.iaload, 1) := by decide +kernel
theorem dX12_endsLine_68 : decode cX12_endsLine 68 = .ok (.iastore, 1) := by decide +kernel
theorem dX12_endsLine_69 : decode cX12_endsLine 69 = .ok (.aload_n 0, 1) := by decide +kernel
theorem dX12_endsLine_70 : decode cX12_endsLine 70 = .ok (.dup, 1) := by decide +kernel
theorem dX12_endsLine_71 : decode cX12_endsLine 71 = .ok (.getfield 442, 3) := by decide +kernel
theorem dX12_endsLine_74 : decode cX12_endsLine 74 = .ok (.iconst 1, 1) := by decide +kernel
theorem dX12_endsLine_75 : decode cX12_endsLine 75 = .ok (.iadd, 1) := by decide +kernel
theorem dX12_endsLine_76 : decode cX12_endsLine 76 = .ok (.putfield 442, 3) := by decide +kernel
theorem dX12_endsLine_79 : decode cX12_endsLine 79 = .ok (.iinc 1 1, 3) := by decide +kernel
theorem dX12_endsLine_82 : decode cX12_endsLine 82 = .ok (.goto (-43), 3) := by decide +kernel
theorem dX12_write_0 : decode cX12_write 0 = .ok (.aload_n 0, 1) := by decide +kernel
theorem dX12_write_1 : decode cX12_write 1 = .ok (.iload_n 1, 1) := by decide +kernel
theorem dX12_write_2 : decode cX12_write 2 = .ok (.invokevirtual 70, 3) := by decide +kernel
theorem dX12_write_5 : decode cX12_write 5 = .ok (.ifCond .ne 5, 3) := by decide +kernel
theorem dX12_write_10 : decode cX12_write 10 = .ok (.aload_n 0, 1) := by decide +kernel
theorem dX12_write_11 : decode cX12_write 11 = .ok (.iconst 0, 1) := by decide +kernel
theorem dX12_write_12 : decode cX12_write 12 = .ok (.putfield 442, 3) := by decide +kernel
theorem dX12_write_15 : decode cX12_write 15 = .ok (.aload_n 0, 1) := by decide +kernel
theorem dX12_write_16 : decode cX12_write 16 = .ok (.iconst 0, 1) := by decide +kernel
theorem dX12_write_17 : decode cX12_write 17 = .ok (.putfield 432, 3) := by decide +kernel
theorem dX12_write_20 : decode cX12_write 20 = .ok (.aload_n 0, 1) := by decide +kernel
theorem dX12_write_21 : decode cX12_write 21 = .ok (.iconst 0, 1) := by decide +kernel
theorem dX12_write_22 : decode cX12_write 22 = .ok (.putfield 438, 3) := by decide +kernel
theorem dX12_write_25 : decode cX12_write 25 = .ok (.aload_n 0, 1) := by decide +kernel
theorem dX12_write_26 : decode cX12_write 26 = .ok (.getfield 9, 3) := by decide +kernel
theorem dX12_write_29 : decode cX12_write 29 = .ok (.iload_n 1, 1) := by decide +kernel
theorem dX12_write_30 : decode cX12_write 30 = .ok (.iconst 1, 1) := by decide +kernel
theorem dX12_write_31 : decode cX12_write 31 = .ok (.invokestatic 66, 3) := by decide +kernel
theorem dX12_write_34 : decode cX12_write 34 = .ok (.iaload, 1) := by decide +kernel
theorem dX12_write_35 : decode cX12_write 35 = .ok (.istore_n 2, 1) := by decide +kernel
theorem dX12_write_36 : decode cX12_write 36 = .ok (.aload_n 0, 1) := by decide +kernel
theorem dX12_write_37 : decode cX12_write 37 = .ok (.getfield 9, 3) := by decide +kernel
theorem dX12_write_40 : decode cX12_write 40 = .ok (.sipush 21371, 3) := by decide +kernel
theorem dX12_write_43 : decode cX12_write 43 = .ok (.iaload, 1) := by decide +kernel
theorem dX12_write_44 : decode cX12_write 44 = .ok (.iconst 1, 1) := by decide +kernel
theorem dX12_write_45 : decode cX12_write 45 = .ok (.if_icmp .ne 77, 3) := by decide +kernel
theorem dX12_write_122 : decode cX12_write 122 = .ok (.iconst 0, 1) := by decide +kernel
theorem dX12_write_123 : decode cX12_write 123 = .ok (.istore_n 3, 1) := by decide +kernel
theorem dX12_write_124 : decode cX12_write 124 = .ok (.iload_n 3, 1) := by decide +kernel
theorem dX12_write_125 : decode cX12_write 125 = .ok (.aload_n 0, 1) := by decide +kernel
theorem dX12_write_126 : decode cX12_write 126 = .ok (.iload_n 1, 1) := by decide +kernel
theorem dX12_write_127 : decode cX12_write 127 = .ok (.invokevirtual 341, 3) := by decide +kernel
theorem dX12_write_130 : decode cX12_write 130 = .ok (.if_icmp .ge 58, 3) := by decide +kernel
theorem dX12_write_188 : decode cX12_write 188 = .ok (.aload_n 0, 1) := by decide +kernel
theorem dX12_write_189 : decode cX12_write 189 = .ok (.getfield 442, 3) := by decide +kernel
theorem dX12_write_192 : decode cX12_write 192 = .ok (.ireturn, 1) := by decide +kernel
theorem dX12_write_133 : decode cX12_write 133 = .ok (.iconst 0, 1) := by decide +kernel
theorem dX12_write_134 : decode cX12_write 134 = .ok (.istore 4, 2) := by decide +kernel
theorem dX12_write_136 : decode cX12_write 136 = .ok (.iload 4, 2) := by decide +kernel
theorem dX12_write_138 : decode cX12_write 138 = .ok (.iload_n 2, 1) := by decide +kernel
theorem dX12_write_139 : decode cX12_write 139 = .ok (.if_icmp .ge 39, 3) := by decide +kernel
theorem dX12_write_178 : decode cX12_write 178 = .ok (.aload_n 0, 1) := by decide +kernel
theorem dX12_write_179 : decode cX12_write 179 = .ok (.invokevirtual 445, 3) := by decide +kernel
theorem mw_1456 : Cond.code yX12_endsLine cX12_endsLine 2 none ∈ wsL_law := lrk_61 _ (List.mem_of_getElem? (i := 16) rfl)
theorem mw_1453 : Cond.methodLink RX12 445 yX12_endsLine ∈ wsL_law := lrk_61 _ (List.mem_of_getElem? (i := 13) rfl)
theorem mw_1454 : Cond.instanceMethod yX12_endsLine ∈ wsL_law := lrk_61 _ (List.mem_of_getElem? (i := 14) rfl)
theorem mw_1455 : Cond.selects RX12 yX12_endsLine yX12_endsLine ∈ wsL_law := lrk_61 _ (List.mem_of_getElem? (i := 15) rfl)
theorem gV_X12_445 : GoodIn wsL_law (wsV RX12 445 RX12 yX12_endsLine (wl yX12_endsLine cX12_endsLine 2 none)) := g_V mw_1453 mw_1454 mw_1455 mw_5 mw_1456
theorem hdV_X12_endsLine : yX12_endsLine.cls = RX12 ∧ okD yX12_endsLine 0 := by decide +kernel
theorem dX12_write_182 : decode cX12_write 182 = .ok (.iinc 3 1, 3) := by decide +kernel
theorem dX12_write_185 : decode cX12_write 185 = .ok (.goto (-61), 3) := by decide +kernel
theorem dX12_write_142 : decode cX12_write 142 = .ok (.iload 4, 2) := by decide +kernel
theorem dX12_write_144 : decode cX12_write 144 = .ok (.ifCond .le 15, 3) := by decide +kernel
theorem dX12_write_159 : decode cX12_write 159 = .ok (.aload_n 0, 1) := by decide +kernel
theorem dX12_write_160 : decode cX12_write 160 = .ok (.iload_n 1, 1) := by decide +kernel
theorem dX12_write_161 : decode cX12_write 161 = .ok (.aload_n 0, 1) := by decide +kernel
theorem dX12_write_162 : decode cX12_write 162 = .ok (.iload_n 1, 1) := by decide +kernel
theorem dX12_write_163 : decode cX12_write 163 = .ok (.iload_n 3, 1) := by decide +kernel
theorem dX12_write_164 : decode cX12_write 164 = .ok (.invokevirtual 345, 3) := by decide +kernel
theorem dX12_write_167 : decode cX12_write 167 = .ok (.iload 4, 2) := by decide +kernel
theorem dX12_write_169 : decode cX12_write 169 = .ok (.invokevirtual 448, 3) := by decide +kernel
theorem mw_1460 : Cond.code yX12_saysCell cX12_saysCell 7 none ∈ wsL_law := lrk_61 _ (List.mem_of_getElem? (i := 20) rfl)
theorem mw_1457 : Cond.methodLink RX12 448 yX12_saysCell ∈ wsL_law := lrk_61 _ (List.mem_of_getElem? (i := 17) rfl)
theorem mw_1458 : Cond.instanceMethod yX12_saysCell ∈ wsL_law := lrk_61 _ (List.mem_of_getElem? (i := 18) rfl)
theorem mw_1459 : Cond.selects RX12 yX12_saysCell yX12_saysCell ∈ wsL_law := lrk_61 _ (List.mem_of_getElem? (i := 19) rfl)
theorem gV_X12_448 : GoodIn wsL_law (wsV RX12 448 RX12 yX12_saysCell (wl yX12_saysCell cX12_saysCell 7 none)) := g_V mw_1457 mw_1458 mw_1459 mw_5 mw_1460
theorem hdV_X12_saysCell : yX12_saysCell.cls = RX12 ∧ okD yX12_saysCell 3 := by decide +kernel
theorem dX12_write_172 : decode cX12_write 172 = .ok (.iinc 4 1, 3) := by decide +kernel
theorem dX12_write_175 : decode cX12_write 175 = .ok (.goto (-39), 3) := by decide +kernel
theorem dX12_write_147 : decode cX12_write 147 = .ok (.aload_n 0, 1) := by decide +kernel
theorem dX12_write_148 : decode cX12_write 148 = .ok (.aload_n 0, 1) := by decide +kernel
theorem dX12_write_149 : decode cX12_write 149 = .ok (.getfield 9, 3) := by decide +kernel
theorem dX12_write_152 : decode cX12_write 152 = .ok (.sipush 21369, 3) := by decide +kernel
theorem dX12_write_155 : decode cX12_write 155 = .ok (.iaload, 1) := by decide +kernel
theorem dX12_write_156 : decode cX12_write 156 = .ok (.invokevirtual 435, 3) := by decide +kernel
theorem dX12_write_48 : decode cX12_write 48 = .ok (.iconst 0, 1) := by decide +kernel
theorem dX12_write_49 : decode cX12_write 49 = .ok (.istore_n 3, 1) := by decide +kernel
theorem dX12_write_50 : decode cX12_write 50 = .ok (.iload_n 3, 1) := by decide +kernel
theorem dX12_write_51 : decode cX12_write 51 = .ok (.iload_n 2, 1) := by decide +kernel
theorem dX12_write_52 : decode cX12_write 52 = .ok (.if_icmp .ge 66, 3) := by decide +kernel
theorem dX12_write_118 : decode cX12_write 118 = .ok (.aload_n 0, 1) := by decide +kernel
theorem dX12_write_119 : decode cX12_write 119 = .ok (.invokevirtual 445, 3) := by decide +kernel
theorem dX12_write_55 : decode cX12_write 55 = .ok (.iload_n 3, 1) := by decide +kernel
theorem dX12_write_56 : decode cX12_write 56 = .ok (.ifCond .le 15, 3) := by decide +kernel
theorem dX12_write_71 : decode cX12_write 71 = .ok (.iconst 1, 1) := by decide +kernel
theorem dX12_write_72 : decode cX12_write 72 = .ok (.istore 4, 2) := by decide +kernel
theorem dX12_write_74 : decode cX12_write 74 = .ok (.iload 4, 2) := by decide +kernel
theorem dX12_write_76 : decode cX12_write 76 = .ok (.aload_n 0, 1) := by decide +kernel
theorem dX12_write_77 : decode cX12_write 77 = .ok (.getfield 9, 3) := by decide +kernel
theorem dX12_write_80 : decode cX12_write 80 = .ok (.iload_n 1, 1) := by decide +kernel
theorem dX12_write_81 : decode cX12_write 81 = .ok (.iload_n 3, 1) := by decide +kernel
theorem dX12_write_82 : decode cX12_write 82 = .ok (.invokestatic 318, 3) := by decide +kernel
theorem dX12_write_85 : decode cX12_write 85 = .ok (.iaload, 1) := by decide +kernel
theorem dX12_write_86 : decode cX12_write 86 = .ok (.if_icmp .gt 26, 3) := by decide +kernel
theorem dX12_write_112 : decode cX12_write 112 = .ok (.iinc 3 1, 3) := by decide +kernel
theorem dX12_write_115 : decode cX12_write 115 = .ok (.goto (-65), 3) := by decide +kernel
theorem dX12_write_89 : decode cX12_write 89 = .ok (.aload_n 0, 1) := by decide +kernel
theorem dX12_write_90 : decode cX12_write 90 = .ok (.aload_n 0, 1) := by decide +kernel
theorem dX12_write_91 : decode cX12_write 91 = .ok (.getfield 9, 3) := by decide +kernel
theorem dX12_write_94 : decode cX12_write 94 = .ok (.iload_n 1, 1) := by decide +kernel
theorem dX12_write_95 : decode cX12_write 95 = .ok (.iload_n 3, 1) := by decide +kernel
theorem dX12_write_96 : decode cX12_write 96 = .ok (.invokestatic 318, 3) := by decide +kernel
theorem dX12_write_99 : decode cX12_write 99 = .ok (.iload 4, 2) := by decide +kernel
theorem dX12_write_101 : decode cX12_write 101 = .ok (.iadd, 1) := by decide +kernel
theorem dX12_write_102 : decode cX12_write 102 = .ok (.iaload, 1) := by decide +kernel
theorem dX12_write_103 : decode cX12_write 103 = .ok (.invokevirtual 435, 3) := by decide +kernel
theorem dX12_write_106 : decode cX12_write 106 = .ok (.iinc 4 1, 3) := by decide +kernel
theorem dX12_write_109 : decode cX12_write 109 = .ok (.goto (-35), 3) := by decide +kernel
theorem dX12_write_59 : decode cX12_write 59 = .ok (.aload_n 0, 1) := by decide +kernel
theorem dX12_write_60 : decode cX12_write 60 = .ok (.aload_n 0, 1) := by decide +kernel
theorem dX12_write_61 : decode cX12_write 61 = .ok (.getfield 9, 3) := by decide +kernel
theorem dX12_write_64 : decode cX12_write 64 = .ok (.sipush 21369, 3) := by decide +kernel
theorem dX12_write_67 : decode cX12_write 67 = .ok (.iaload, 1) := by decide +kernel
theorem dX12_write_68 : decode cX12_write 68 = .ok (.invokevirtual 435, 3) := by decide +kernel
theorem dX12_write_8 : decode cX12_write 8 = .ok (.iconst (-1), 1) := by decide +kernel
theorem dX12_write_9 : decode cX12_write 9 = .ok (.ireturn, 1) := by decide +kernel
theorem dX12_sign_0 : decode cX12_sign 0 = .ok (.iload_n 1, 1) := by decide +kernel
theorem dX12_sign_1 : decode cX12_sign 1 = .ok (.i2l, 1) := by decide +kernel
theorem dX12_sign_2 : decode cX12_sign 2 = .ok (.lconst 0, 1) := by decide +kernel
theorem dX12_sign_3 : decode cX12_sign 3 = .ok (.aload_n 0, 1) := by decide +kernel
theorem dX12_sign_4 : decode cX12_sign 4 = .ok (.getfield 442, 3) := by decide +kernel
theorem dX12_sign_7 : decode cX12_sign 7 = .ok (.iconst 1, 1) := by decide +kernel
theorem dX12_sign_8 : decode cX12_sign 8 = .ok (.isub, 1) := by decide +kernel
theorem dX12_sign_9 : decode cX12_sign 9 = .ok (.i2l, 1) := by decide +kernel
theorem dX12_sign_10 : decode cX12_sign 10 = .ok (.invokestatic 62, 3) := by decide +kernel
theorem dX12_sign_13 : decode cX12_sign 13 = .ok (.ifCond .eq 12, 3) := by decide +kernel
theorem dX12_sign_16 : decode cX12_sign 16 = .ok (.aload_n 0, 1) := by decide +kernel
theorem dX12_sign_17 : decode cX12_sign 17 = .ok (.getfield 54, 3) := by decide +kernel
theorem dX12_sign_20 : decode cX12_sign 20 = .ok (.iload_n 1, 1) := by decide +kernel
theorem dX12_sign_21 : decode cX12_sign 21 = .ok (.iaload, 1) := by decide +kernel
theorem dX12_sign_22 : decode cX12_sign 22 = .ok (.goto 4, 3) := by decide +kernel
theorem dX12_sign_26 : decode cX12_sign 26 = .ok (.ireturn, 1) := by decide +kernel
theorem dX12_sign_25 : decode cX12_sign 25 = .ok (.iconst (-1), 1) := by decide +kernel
theorem dX12_image_0 : decode cX12_image 0 = .ok (.iload_n 1, 1) := by decide +kernel
theorem dX12_image_1 : decode cX12_image 1 = .ok (.ifCond .ne 12, 3) := by decide +kernel
theorem dX12_image_13 : decode cX12_image 13 = .ok (.iconst 0, 1) := by decide +kernel
theorem dX12_image_14 : decode cX12_image 14 = .ok (.istore_n 2, 1) := by decide +kernel
theorem dX12_image_15 : decode cX12_image 15 = .ok (.iload_n 2, 1) := by decide +kernel
theorem dX12_image_16 : decode cX12_image 16 = .ok (.sipush 21375, 3) := by decide +kernel
theorem dX12_image_19 : decode cX12_image 19 = .ok (.if_icmp .ge 40, 3) := by decide +kernel
theorem dX12_image_59 : decode cX12_image 59 = .ok (.iload_n 1, 1) := by decide +kernel
theorem dX12_image_60 : decode cX12_image 60 = .ok (.ifCond .ne 8, 3) := by decide +kernel
theorem dX12_image_68 : decode cX12_image 68 = .ok (.aload_n 0, 1) := by decide +kernel
theorem dX12_image_69 : decode cX12_image 69 = .ok (.iconst 1, 1) := by decide +kernel
theorem dX12_image_70 : decode cX12_image 70 = .ok (.putfield 452, 3) := by decide +kernel
theorem mw_1483 : Cond.fieldLink RX12 452 "TypedTablesModel" "hasImage" "Z" ∈ wsL_law := lrk_62 _ (List.mem_of_getElem? (i := 19) rfl)
theorem dX12_image_73 : decode cX12_image 73 = .ok (.iconst 1, 1) := by decide +kernel
theorem dX12_image_74 : decode cX12_image 74 = .ok (.ireturn, 1) := by decide +kernel
theorem dX12_image_22 : decode cX12_image 22 = .ok (.iload_n 1, 1) := by decide +kernel
theorem dX12_image_23 : decode cX12_image 23 = .ok (.ifCond .eq 18, 3) := by decide +kernel
theorem dX12_image_26 : decode cX12_image 26 = .ok (.aload_n 0, 1) := by decide +kernel
theorem dX12_image_27 : decode cX12_image 27 = .ok (.getfield 13, 3) := by decide +kernel
theorem mw_188 : Cond.fieldLink RX12 13 "TypedTablesModel" "kept" "[I" ∈ wsL_law := lrk_8 _ (List.mem_of_getElem? (i := 20) rfl)
theorem dX12_image_30 : decode cX12_image 30 = .ok (.iload_n 2, 1) := by decide +kernel
theorem dX12_image_31 : decode cX12_image 31 = .ok (.aload_n 0, 1) := by decide +kernel
theorem dX12_image_32 : decode cX12_image 32 = .ok (.getfield 9, 3) := by decide +kernel
theorem dX12_image_35 : decode cX12_image 35 = .ok (.iload_n 2, 1) := by decide +kernel
theorem dX12_image_36 : decode cX12_image 36 = .ok (.iaload, 1) := by decide +kernel
theorem dX12_image_37 : decode cX12_image 37 = .ok (.iastore, 1) := by decide +kernel
theorem dX12_image_38 : decode cX12_image 38 = .ok (.goto 15, 3) := by decide +kernel
theorem dX12_image_53 : decode cX12_image 53 = .ok (.iinc 2 1, 3) := by decide +kernel
theorem dX12_image_56 : decode cX12_image 56 = .ok (.goto (-41), 3) := by decide +kernel
theorem dX12_image_4 : decode cX12_image 4 = .ok (.aload_n 0, 1) := by decide +kernel
theorem dX12_image_5 : decode cX12_image 5 = .ok (.getfield 452, 3) := by decide +kernel
theorem dX12_image_8 : decode cX12_image 8 = .ok (.ifCond .ne 5, 3) := by decide +kernel
theorem dX12_image_63 : decode cX12_image 63 = .ok (.aload_n 0, 1) := by decide +kernel
theorem dX12_image_64 : decode cX12_image 64 = .ok (.iconst 0, 1) := by decide +kernel
theorem dX12_image_65 : decode cX12_image 65 = .ok (.putfield 74, 3) := by decide +kernel
theorem dX12_image_41 : decode cX12_image 41 = .ok (.aload_n 0, 1) := by decide +kernel
theorem dX12_image_42 : decode cX12_image 42 = .ok (.getfield 9, 3) := by decide +kernel
theorem dX12_image_45 : decode cX12_image 45 = .ok (.iload_n 2, 1) := by decide +kernel
theorem dX12_image_46 : decode cX12_image 46 = .ok (.aload_n 0, 1) := by decide +kernel
theorem dX12_image_47 : decode cX12_image 47 = .ok (.getfield 13, 3) := by decide +kernel
theorem dX12_image_50 : decode cX12_image 50 = .ok (.iload_n 2, 1) := by decide +kernel
theorem dX12_image_51 : decode cX12_image 51 = .ok (.iaload, 1) := by decide +kernel
theorem dX12_image_52 : decode cX12_image 52 = .ok (.iastore, 1) := by decide +kernel
theorem dX12_image_11 : decode cX12_image 11 = .ok (.iconst 0, 1) := by decide +kernel
theorem dX12_image_12 : decode cX12_image 12 = .ok (.ireturn, 1) := by decide +kernel
theorem dX12_look_0 : decode cX12_look 0 = .ok (.iload_n 1, 1) := by decide +kernel
theorem dX12_look_1 : decode cX12_look 1 = .ok (.i2l, 1) := by decide +kernel
theorem dX12_look_2 : decode cX12_look 2 = .ok (.lconst 0, 1) := by decide +kernel
theorem dX12_look_3 : decode cX12_look 3 = .ok (.ldc2_w 325, 3) := by decide +kernel
theorem dX12_look_6 : decode cX12_look 6 = .ok (.invokestatic 62, 3) := by decide +kernel
theorem dX12_look_9 : decode cX12_look 9 = .ok (.ifCond .eq 14, 3) := by decide +kernel
theorem dX12_look_12 : decode cX12_look 12 = .ok (.aload_n 0, 1) := by decide +kernel
theorem dX12_look_13 : decode cX12_look 13 = .ok (.getfield 9, 3) := by decide +kernel
theorem dX12_look_16 : decode cX12_look 16 = .ok (.sipush 21369, 3) := by decide +kernel
theorem dX12_look_19 : decode cX12_look 19 = .ok (.iload_n 1, 1) := by decide +kernel
theorem dX12_look_20 : decode cX12_look 20 = .ok (.iadd, 1) := by decide +kernel
theorem dX12_look_21 : decode cX12_look 21 = .ok (.iaload, 1) := by decide +kernel
theorem dX12_look_22 : decode cX12_look 22 = .ok (.ireturn, 1) := by decide +kernel
theorem dX12_look_23 : decode cX12_look 23 = .ok (.iconst 0, 1) := by decide +kernel
theorem dX12_look_24 : decode cX12_look 24 = .ok (.istore_n 2, 1) := by decide +kernel
theorem dX12_look_25 : decode cX12_look 25 = .ok (.iload_n 1, 1) := by decide +kernel
theorem dX12_look_26 : decode cX12_look 26 = .ok (.tableswitch 118 6 10 #[34, 64, 69, 74, 113], 34) := by decide +kernel
theorem dX12_look_144 : decode cX12_look 144 = .ok (.iconst (-1), 1) := by decide +kernel
theorem dX12_look_145 : decode cX12_look 145 = .ok (.ireturn, 1) := by decide +kernel
theorem dX12_look_60 : decode cX12_look 60 = .ok (.iconst 0, 1) := by decide +kernel
theorem dX12_look_61 : decode cX12_look 61 = .ok (.istore_n 3, 1) := by decide +kernel
theorem dX12_look_62 : decode cX12_look 62 = .ok (.iload_n 3, 1) := by decide +kernel
theorem dX12_look_63 : decode cX12_look 63 = .ok (.iconst 3, 1) := by decide +kernel
theorem dX12_look_64 : decode cX12_look 64 = .ok (.if_icmp .ge 24, 3) := by decide +kernel
theorem dX12_look_88 : decode cX12_look 88 = .ok (.iload_n 2, 1) := by decide +kernel
theorem dX12_look_89 : decode cX12_look 89 = .ok (.ireturn, 1) := by decide +kernel
theorem dX12_look_67 : decode cX12_look 67 = .ok (.iload_n 2, 1) := by decide +kernel
theorem dX12_look_68 : decode cX12_look 68 = .ok (.aload_n 0, 1) := by decide +kernel
theorem dX12_look_69 : decode cX12_look 69 = .ok (.getfield 9, 3) := by decide +kernel
theorem dX12_look_72 : decode cX12_look 72 = .ok (.iload_n 3, 1) := by decide +kernel
theorem dX12_look_73 : decode cX12_look 73 = .ok (.iconst 0, 1) := by decide +kernel
theorem dX12_look_74 : decode cX12_look 74 = .ok (.invokestatic 66, 3) := by decide +kernel
theorem dX12_look_77 : decode cX12_look 77 = .ok (.iaload, 1) := by decide +kernel
theorem dX12_look_78 : decode cX12_look 78 = .ok (.iload_n 3, 1) := by decide +kernel
theorem dX12_look_79 : decode cX12_look 79 = .ok (.ishl, 1) := by decide +kernel
theorem dX12_look_80 : decode cX12_look 80 = .ok (.ior, 1) := by decide +kernel
theorem dX12_look_81 : decode cX12_look 81 = .ok (.istore_n 2, 1) := by decide +kernel
theorem dX12_look_82 : decode cX12_look 82 = .ok (.iinc 3 1, 3) := by decide +kernel
theorem dX12_look_85 : decode cX12_look 85 = .ok (.goto (-23), 3) := by decide +kernel
theorem dX12_look_90 : decode cX12_look 90 = .ok (.aload_n 0, 1) := by decide +kernel
theorem dX12_look_91 : decode cX12_look 91 = .ok (.getfield 74, 3) := by decide +kernel
theorem dX12_look_94 : decode cX12_look 94 = .ok (.ireturn, 1) := by decide +kernel
theorem dX12_look_95 : decode cX12_look 95 = .ok (.aload_n 0, 1) := by decide +kernel
theorem dX12_look_96 : decode cX12_look 96 = .ok (.getfield 83, 3) := by decide +kernel
theorem dX12_look_99 : decode cX12_look 99 = .ok (.ireturn, 1) := by decide +kernel
theorem dX12_look_100 : decode cX12_look 100 = .ok (.iconst 0, 1) := by decide +kernel
theorem dX12_look_101 : decode cX12_look 101 = .ok (.istore_n 3, 1) := by decide +kernel
theorem dX12_look_102 : decode cX12_look 102 = .ok (.iload_n 3, 1) := by decide +kernel
theorem dX12_look_103 : decode cX12_look 103 = .ok (.iconst 3, 1) := by decide +kernel
theorem dX12_look_104 : decode cX12_look 104 = .ok (.if_icmp .ge 33, 3) := by decide +kernel
theorem dX12_look_137 : decode cX12_look 137 = .ok (.iload_n 2, 1) := by decide +kernel
theorem dX12_look_138 : decode cX12_look 138 = .ok (.ireturn, 1) := by decide +kernel
theorem dX12_look_107 : decode cX12_look 107 = .ok (.iload_n 2, 1) := by decide +kernel
theorem dX12_look_108 : decode cX12_look 108 = .ok (.aload_n 0, 1) := by decide +kernel
theorem dX12_look_109 : decode cX12_look 109 = .ok (.getfield 9, 3) := by decide +kernel
theorem dX12_look_112 : decode cX12_look 112 = .ok (.iload_n 3, 1) := by decide +kernel
theorem dX12_look_113 : decode cX12_look 113 = .ok (.iconst 1, 1) := by decide +kernel
theorem dX12_look_114 : decode cX12_look 114 = .ok (.invokestatic 66, 3) := by decide +kernel
theorem dX12_look_117 : decode cX12_look 117 = .ok (.iaload, 1) := by decide +kernel
theorem dX12_look_118 : decode cX12_look 118 = .ok (.aload_n 0, 1) := by decide +kernel
theorem dX12_look_119 : decode cX12_look 119 = .ok (.getfield 9, 3) := by decide +kernel
theorem dX12_look_122 : decode cX12_look 122 = .ok (.iload_n 3, 1) := by decide +kernel
theorem dX12_look_123 : decode cX12_look 123 = .ok (.iconst 2, 1) := by decide +kernel
theorem dX12_look_124 : decode cX12_look 124 = .ok (.invokestatic 66, 3) := by decide +kernel
theorem dX12_look_127 : decode cX12_look 127 = .ok (.iaload, 1) := by decide +kernel
theorem dX12_look_128 : decode cX12_look 128 = .ok (.imul, 1) := by decide +kernel
theorem dX12_look_129 : decode cX12_look 129 = .ok (.iadd, 1) := by decide +kernel
theorem dX12_look_130 : decode cX12_look 130 = .ok (.istore_n 2, 1) := by decide +kernel
theorem dX12_look_131 : decode cX12_look 131 = .ok (.iinc 3 1, 3) := by decide +kernel
theorem dX12_look_134 : decode cX12_look 134 = .ok (.goto (-32), 3) := by decide +kernel
theorem dX12_look_139 : decode cX12_look 139 = .ok (.aload_n 0, 1) := by decide +kernel
theorem dX12_look_140 : decode cX12_look 140 = .ok (.getfield 283, 3) := by decide +kernel
theorem dX12_look_143 : decode cX12_look 143 = .ok (.ireturn, 1) := by decide +kernel
theorem dX12_comes_0 : decode cX12_comes 0 = .ok (.bipush 24, 2) := by decide +kernel
theorem dX12_comes_2 : decode cX12_comes 2 = .ok (.istore_n 2, 1) := by decide +kernel
theorem dX12_comes_3 : decode cX12_comes 3 = .ok (.iload_n 2, 1) := by decide +kernel
theorem dX12_comes_4 : decode cX12_comes 4 = .ok (.ifCond .lt 35, 3) := by decide +kernel
theorem dX12_comes_7 : decode cX12_comes 7 = .ok (.aload_n 0, 1) := by decide +kernel
theorem dX12_comes_8 : decode cX12_comes 8 = .ok (.getfield 20, 3) := by decide +kernel
theorem dX12_comes_11 : decode cX12_comes 11 = .ok (.aload_n 0, 1) := by decide +kernel
theorem dX12_comes_12 : decode cX12_comes 12 = .ok (.getfield 83, 3) := by decide +kernel
theorem dX12_comes_15 : decode cX12_comes 15 = .ok (.iload_n 1, 1) := by decide +kernel
theorem dX12_comes_16 : decode cX12_comes 16 = .ok (.iload_n 2, 1) := by decide +kernel
theorem dX12_comes_17 : decode cX12_comes 17 = .ok (.iushr, 1) := by decide +kernel
theorem dX12_comes_18 : decode cX12_comes 18 = .ok (.sipush 255, 3) := by decide +kernel
theorem dX12_comes_21 : decode cX12_comes 21 = .ok (.iand, 1) := by decide +kernel
theorem dX12_comes_22 : decode cX12_comes 22 = .ok (.iastore, 1) := by decide +kernel
theorem dX12_comes_23 : decode cX12_comes 23 = .ok (.aload_n 0, 1) := by decide +kernel
theorem dX12_comes_24 : decode cX12_comes 24 = .ok (.dup, 1) := by decide +kernel
theorem dX12_comes_25 : decode cX12_comes 25 = .ok (.getfield 83, 3) := by decide +kernel
theorem dX12_comes_28 : decode cX12_comes 28 = .ok (.iconst 1, 1) := by decide +kernel
theorem dX12_comes_29 : decode cX12_comes 29 = .ok (.iadd, 1) := by decide +kernel
theorem dX12_comes_30 : decode cX12_comes 30 = .ok (.putfield 83, 3) := by decide +kernel
theorem dX12_comes_33 : decode cX12_comes 33 = .ok (.iinc 2 (-8), 3) := by decide +kernel
theorem dX12_comes_36 : decode cX12_comes 36 = .ok (.goto (-33), 3) := by decide +kernel
theorem dX12_comes_39 : decode cX12_comes 39 = .ok (.return_, 1) := by decide +kernel
theorem dX12_feed_0 : decode cX12_feed 0 = .ok (.aload_n 0, 1) := by decide +kernel
theorem dX12_feed_1 : decode cX12_feed 1 = .ok (.getfield 83, 3) := by decide +kernel
theorem dX12_feed_4 : decode cX12_feed 4 = .ok (.bipush 20, 2) := by decide +kernel
theorem dX12_feed_6 : decode cX12_feed 6 = .ok (.iadd, 1) := by decide +kernel
theorem dX12_feed_7 : decode cX12_feed 7 = .ok (.sipush 800, 3) := by decide +kernel
theorem dX12_feed_10 : decode cX12_feed 10 = .ok (.if_icmp .le 5, 3) := by decide +kernel
theorem dX12_feed_15 : decode cX12_feed 15 = .ok (.aload_n 0, 1) := by decide +kernel
theorem dX12_feed_16 : decode cX12_feed 16 = .ok (.iload_n 1, 1) := by decide +kernel
theorem dX12_feed_17 : decode cX12_feed 17 = .ok (.invokevirtual 86, 3) := by decide +kernel
theorem mw_240 : Cond.code yX12_comes cX12_comes 3 none ∈ wsL_law := lrk_11 _ (List.mem_of_getElem? (i := 0) rfl)
theorem mw_237 : Cond.methodLink RX12 86 yX12_comes ∈ wsL_law := lrk_10 _ (List.mem_of_getElem? (i := 21) rfl)
theorem mw_238 : Cond.instanceMethod yX12_comes ∈ wsL_law := lrk_10 _ (List.mem_of_getElem? (i := 22) rfl)
theorem mw_239 : Cond.selects RX12 yX12_comes yX12_comes ∈ wsL_law := lrk_10 _ (List.mem_of_getElem? (i := 23) rfl)
theorem gV_X12_86 : GoodIn wsL_law (wsV RX12 86 RX12 yX12_comes (wl yX12_comes cX12_comes 3 none)) := g_V mw_237 mw_238 mw_239 mw_5 mw_240
theorem hdV_X12_comes : yX12_comes.cls = RX12 ∧ okD yX12_comes 1 := by decide +kernel
theorem dX12_feed_20 : decode cX12_feed 20 = .ok (.aload_n 0, 1) := by decide +kernel
theorem dX12_feed_21 : decode cX12_feed 21 = .ok (.iload_n 2, 1) := by decide +kernel
theorem dX12_feed_22 : decode cX12_feed 22 = .ok (.invokevirtual 86, 3) := by decide +kernel
theorem dX12_feed_25 : decode cX12_feed 25 = .ok (.aload_n 0, 1) := by decide +kernel
theorem dX12_feed_26 : decode cX12_feed 26 = .ok (.iload_n 3, 1) := by decide +kernel
theorem dX12_feed_27 : decode cX12_feed 27 = .ok (.invokevirtual 86, 3) := by decide +kernel
theorem dX12_feed_30 : decode cX12_feed 30 = .ok (.aload_n 0, 1) := by decide +kernel
theorem dX12_feed_31 : decode cX12_feed 31 = .ok (.iload 4, 2) := by decide +kernel
theorem dX12_feed_33 : decode cX12_feed 33 = .ok (.invokevirtual 86, 3) := by decide +kernel
theorem dX12_feed_36 : decode cX12_feed 36 = .ok (.aload_n 0, 1) := by decide +kernel
theorem dX12_feed_37 : decode cX12_feed 37 = .ok (.iload 5, 2) := by decide +kernel
theorem dX12_feed_39 : decode cX12_feed 39 = .ok (.invokevirtual 86, 3) := by decide +kernel
theorem dX12_feed_42 : decode cX12_feed 42 = .ok (.aload_n 0, 1) := by decide +kernel
theorem dX12_feed_43 : decode cX12_feed 43 = .ok (.getfield 83, 3) := by decide +kernel
theorem dX12_feed_46 : decode cX12_feed 46 = .ok (.ireturn, 1) := by decide +kernel
theorem dX12_feed_13 : decode cX12_feed 13 = .ok (.iconst (-1), 1) := by decide +kernel
theorem dX12_feed_14 : decode cX12_feed 14 = .ok (.ireturn, 1) := by decide +kernel
theorem dX12_end_0 : decode cX12_end 0 = .ok (.iload_n 1, 1) := by decide +kernel
theorem dX12_end_1 : decode cX12_end 1 = .ok (.i2l, 1) := by decide +kernel
theorem dX12_end_2 : decode cX12_end 2 = .ok (.lconst 0, 1) := by decide +kernel
theorem dX12_end_3 : decode cX12_end 3 = .ok (.aload_n 0, 1) := by decide +kernel
theorem dX12_end_4 : decode cX12_end 4 = .ok (.getfield 83, 3) := by decide +kernel
theorem dX12_end_7 : decode cX12_end 7 = .ok (.i2l, 1) := by decide +kernel
theorem dX12_end_8 : decode cX12_end 8 = .ok (.invokestatic 62, 3) := by decide +kernel
theorem dX12_end_11 : decode cX12_end 11 = .ok (.ifCond .ne 5, 3) := by decide +kernel
theorem dX12_end_16 : decode cX12_end 16 = .ok (.aload_n 0, 1) := by decide +kernel
theorem dX12_end_17 : decode cX12_end 17 = .ok (.iload_n 1, 1) := by decide +kernel
theorem dX12_end_18 : decode cX12_end 18 = .ok (.putfield 83, 3) := by decide +kernel
theorem dX12_end_21 : decode cX12_end 21 = .ok (.iconst 1, 1) := by decide +kernel
theorem dX12_end_22 : decode cX12_end 22 = .ok (.ireturn, 1) := by decide +kernel
theorem dX12_end_14 : decode cX12_end 14 = .ok (.iconst 0, 1) := by decide +kernel
theorem dX12_end_15 : decode cX12_end 15 = .ok (.ireturn, 1) := by decide +kernel
theorem dX12_dialect_0 : decode cX12_dialect 0 = .ok (.iload_n 1, 1) := by decide +kernel
theorem dX12_dialect_1 : decode cX12_dialect 1 = .ok (.tableswitch 155 0 5 #[39, 72, 93, 93, 111, 124], 39) := by decide +kernel
theorem dX12_dialect_156 : decode cX12_dialect 156 = .ok (.iconst 0, 1) := by decide +kernel
theorem dX12_dialect_157 : decode cX12_dialect 157 = .ok (.istore_n 3, 1) := by decide +kernel
theorem dX12_dialect_158 : decode cX12_dialect 158 = .ok (.iload_n 3, 1) := by decide +kernel
theorem dX12_dialect_159 : decode cX12_dialect 159 = .ok (.ifCond .eq 14, 3) := by decide +kernel
theorem dX12_dialect_173 : decode cX12_dialect 173 = .ok (.iload_n 3, 1) := by decide +kernel
theorem dX12_dialect_174 : decode cX12_dialect 174 = .ok (.ireturn, 1) := by decide +kernel
theorem dX12_dialect_40 : decode cX12_dialect 40 = .ok (.iload_n 2, 1) := by decide +kernel
theorem dX12_dialect_41 : decode cX12_dialect 41 = .ok (.bipush 44, 2) := by decide +kernel
theorem dX12_dialect_43 : decode cX12_dialect 43 = .ok (.if_icmp .eq 21, 3) := by decide +kernel
theorem dX12_dialect_64 : decode cX12_dialect 64 = .ok (.iconst 1, 1) := by decide +kernel
theorem dX12_dialect_65 : decode cX12_dialect 65 = .ok (.goto 4, 3) := by decide +kernel
theorem dX12_dialect_69 : decode cX12_dialect 69 = .ok (.istore_n 3, 1) := by decide +kernel
theorem dX12_dialect_70 : decode cX12_dialect 70 = .ok (.goto 88, 3) := by decide +kernel
theorem dX12_dialect_162 : decode cX12_dialect 162 = .ok (.aload_n 0, 1) := by decide +kernel
theorem dX12_dialect_163 : decode cX12_dialect 163 = .ok (.getfield 9, 3) := by decide +kernel
theorem dX12_dialect_166 : decode cX12_dialect 166 = .ok (.sipush 21369, 3) := by decide +kernel
theorem dX12_dialect_169 : decode cX12_dialect 169 = .ok (.iload_n 1, 1) := by decide +kernel
theorem dX12_dialect_170 : decode cX12_dialect 170 = .ok (.iadd, 1) := by decide +kernel
theorem dX12_dialect_171 : decode cX12_dialect 171 = .ok (.iload_n 2, 1) := by decide +kernel
theorem dX12_dialect_172 : decode cX12_dialect 172 = .ok (.iastore, 1) := by decide +kernel
theorem dX12_dialect_46 : decode cX12_dialect 46 = .ok (.iload_n 2, 1) := by decide +kernel
theorem dX12_dialect_47 : decode cX12_dialect 47 = .ok (.bipush 59, 2) := by decide +kernel
theorem dX12_dialect_49 : decode cX12_dialect 49 = .ok (.if_icmp .eq 15, 3) := by decide +kernel
theorem dX12_dialect_52 : decode cX12_dialect 52 = .ok (.iload_n 2, 1) := by decide +kernel
theorem dX12_dialect_53 : decode cX12_dialect 53 = .ok (.bipush 124, 2) := by decide +kernel
theorem dX12_dialect_55 : decode cX12_dialect 55 = .ok (.if_icmp .eq 9, 3) := by decide +kernel
theorem dX12_dialect_58 : decode cX12_dialect 58 = .ok (.iload_n 2, 1) := by decide +kernel
theorem dX12_dialect_59 : decode cX12_dialect 59 = .ok (.bipush 9, 2) := by decide +kernel
theorem dX12_dialect_61 : decode cX12_dialect 61 = .ok (.if_icmp .ne 7, 3) := by decide +kernel
theorem dX12_dialect_68 : decode cX12_dialect 68 = .ok (.iconst 0, 1) := by decide +kernel
theorem dX12_dialect_73 : decode cX12_dialect 73 = .ok (.iload_n 2, 1) := by decide +kernel
theorem dX12_dialect_74 : decode cX12_dialect 74 = .ok (.bipush 34, 2) := by decide +kernel
theorem dX12_dialect_76 : decode cX12_dialect 76 = .ok (.if_icmp .eq 9, 3) := by decide +kernel
theorem dX12_dialect_85 : decode cX12_dialect 85 = .ok (.iconst 1, 1) := by decide +kernel
theorem dX12_dialect_86 : decode cX12_dialect 86 = .ok (.goto 4, 3) := by decide +kernel
theorem dX12_dialect_90 : decode cX12_dialect 90 = .ok (.istore_n 3, 1) := by decide +kernel
theorem dX12_dialect_91 : decode cX12_dialect 91 = .ok (.goto 67, 3) := by decide +kernel
theorem dX12_dialect_79 : decode cX12_dialect 79 = .ok (.iload_n 2, 1) := by decide +kernel
theorem dX12_dialect_80 : decode cX12_dialect 80 = .ok (.bipush 39, 2) := by decide +kernel
theorem dX12_dialect_82 : decode cX12_dialect 82 = .ok (.if_icmp .ne 7, 3) := by decide +kernel
theorem dX12_dialect_89 : decode cX12_dialect 89 = .ok (.iconst 0, 1) := by decide +kernel
theorem dX12_dialect_94 : decode cX12_dialect 94 = .ok (.iload_n 2, 1) := by decide +kernel
theorem dX12_dialect_95 : decode cX12_dialect 95 = .ok (.ifCond .eq 8, 3) := by decide +kernel
theorem dX12_dialect_103 : decode cX12_dialect 103 = .ok (.iconst 1, 1) := by decide +kernel
theorem dX12_dialect_104 : decode cX12_dialect 104 = .ok (.goto 4, 3) := by decide +kernel
theorem dX12_dialect_108 : decode cX12_dialect 108 = .ok (.istore_n 3, 1) := by decide +kernel
theorem dX12_dialect_109 : decode cX12_dialect 109 = .ok (.goto 49, 3) := by decide +kernel
theorem dX12_dialect_98 : decode cX12_dialect 98 = .ok (.iload_n 2, 1) := by decide +kernel
theorem dX12_dialect_99 : decode cX12_dialect 99 = .ok (.iconst 1, 1) := by decide +kernel
theorem dX12_dialect_100 : decode cX12_dialect 100 = .ok (.if_icmp .ne 7, 3) := by decide +kernel
theorem dX12_dialect_107 : decode cX12_dialect 107 = .ok (.iconst 0, 1) := by decide +kernel
theorem dX12_dialect_112 : decode cX12_dialect 112 = .ok (.iload_n 2, 1) := by decide +kernel
theorem dX12_dialect_113 : decode cX12_dialect 113 = .ok (.i2l, 1) := by decide +kernel
theorem dX12_dialect_114 : decode cX12_dialect 114 = .ok (.lconst 0, 1) := by decide +kernel
theorem dX12_dialect_115 : decode cX12_dialect 115 = .ok (.ldc2_w 81, 3) := by decide +kernel
theorem dX12_dialect_118 : decode cX12_dialect 118 = .ok (.invokestatic 62, 3) := by decide +kernel
theorem dX12_dialect_121 : decode cX12_dialect 121 = .ok (.istore_n 3, 1) := by decide +kernel
theorem dX12_dialect_122 : decode cX12_dialect 122 = .ok (.goto 36, 3) := by decide +kernel
theorem dX12_dialect_125 : decode cX12_dialect 125 = .ok (.iload_n 2, 1) := by decide +kernel
theorem dX12_dialect_126 : decode cX12_dialect 126 = .ok (.ifCond .eq 21, 3) := by decide +kernel
theorem dX12_dialect_147 : decode cX12_dialect 147 = .ok (.iconst 1, 1) := by decide +kernel
theorem dX12_dialect_148 : decode cX12_dialect 148 = .ok (.goto 4, 3) := by decide +kernel
theorem dX12_dialect_152 : decode cX12_dialect 152 = .ok (.istore_n 3, 1) := by decide +kernel
theorem dX12_dialect_153 : decode cX12_dialect 153 = .ok (.goto 5, 3) := by decide +kernel
theorem dX12_dialect_129 : decode cX12_dialect 129 = .ok (.iload_n 2, 1) := by decide +kernel
theorem dX12_dialect_130 : decode cX12_dialect 130 = .ok (.bipush 35, 2) := by decide +kernel
theorem dX12_dialect_132 : decode cX12_dialect 132 = .ok (.if_icmp .eq 15, 3) := by decide +kernel
theorem dX12_dialect_135 : decode cX12_dialect 135 = .ok (.iload_n 2, 1) := by decide +kernel
theorem dX12_dialect_136 : decode cX12_dialect 136 = .ok (.bipush 37, 2) := by decide +kernel
theorem dX12_dialect_138 : decode cX12_dialect 138 = .ok (.if_icmp .eq 9, 3) := by decide +kernel
theorem dX12_dialect_141 : decode cX12_dialect 141 = .ok (.iload_n 2, 1) := by decide +kernel
theorem dX12_dialect_142 : decode cX12_dialect 142 = .ok (.bipush 42, 2) := by decide +kernel
theorem dX12_dialect_144 : decode cX12_dialect 144 = .ok (.if_icmp .ne 7, 3) := by decide +kernel
theorem dX12_dialect_151 : decode cX12_dialect 151 = .ok (.iconst 0, 1) := by decide +kernel
set_option maxHeartbeats 4000000 in
set_option maxRecDepth 100000 in
theorem s_X12_doMatch (l : Launch) (D : va_G) (κ : Nat → ClassId) (m0 : Nat) (a0 : Nat) (a1 : Nat) (a2 : Nat) (u3 : Nat) (f4 : Int32) (a5 : Nat) (u6 : Nat) (f7 : Int32) (f8 : Int32) (f9 : Int32) (f10 : Int32) (u11 : Nat) (u12 : Nat) (u13 : Nat) (a14 : Nat) (a15 : Nat) (a16 : Nat) (a17 : Nat) (f18 : Int32) (f19 : Int32) (a20 : Nat) (a21 : Nat) (u22 : Nat) (a23 : Nat) (a24 : Nat) (a25 : Nat) (u26 : Nat) (f27 : Int32) (a28 : Nat) (u29 : Nat) (w : Nat → Int32) (zt : Int32) (a : Nat) (b : Nat) (co : Nat) (d : Nat) (o9 : Nat) (k : Nat) (h_a0 : Pw w) (ht : a < 3) (hr9 : b < 40) (hc : co < 8) (hd : d < 3) (he : o9 < 40) (hk : k < 8) : Cr l yX12_doMatch (wl yX12_doMatch cX12_doMatch 10 (some .boolean)) { frames := 6, cells := 0, slots := 0, locals := 147 } D κ [.ref m0, .int (nI a), .int (nI b), .int (nI co), .int (nI d), .int (nI o9), .int (nI k), .int zt] (va_P D vwCl [(m0, .inr (12, [.ref a0, .ref a1, .ref a2, .int (nI u3), .int f4, .ref a5, .int (nI u6), .int f7, .int f8, .int f9, .int f10, .int (nI u11), .int (nI u12), .int (nI u13), .ref a14, .ref a15, .ref a16, .ref a17, .int f18, .int f19, .ref a20, .ref a21, .int (nI u22), .ref a23, .ref a24, .ref a25, .int (nI u26), .int f27, .ref a28, .int (nI u29)])), (a0, .inl (κ 0, 21375, .inl w))]) (fun r : Int32 => some (.int r)) (fun r : Int32 => ((r = 1) ∨ (r = 0))) := by
  refine cr_of (by decide +kernel) (Nat.le_of_ble_eq_true rfl) ?_
  intro p e s m args below meth c ls hx hb hr hml hts hown hlk hKK hK hI hl
  have hP : va_P D vwCl [(m0, .inr (12, [.ref a0, .ref a1, .ref a2, .int (nI u3), .int f4, .ref a5, .int (nI u6), .int f7, .int f8, .int f9, .int f10, .int (nI u11), .int (nI u12), .int (nI u13), .ref a14, .ref a15, .ref a16, .ref a17, .int f18, .int f19, .ref a20, .ref a21, .int (nI u22), .ref a23, .ref a24, .ref a25, .int (nI u26), .int f27, .ref a28, .int (nI u29)])), (a0, .inl (κ 0, 21375, .inl w))] s.heap := hI
  have hFX : FX p s m args c cX12_doMatch 10 RX12 := ⟨hx, hb, hml, hown, hts⟩
  have hl : lv_has ls 10 [(0, .ref m0), (1, .int (nI a)), (2, .int (nI b)), (3, .int (nI co)), (4, .int (nI d)), (5, .int (nI o9)), (6, .int (nI k)), (7, .int zt)] := hl
  refine lv_iload_n hx hb dX12_doMatch_0 rfl (lv_at hl 1 rfl) ?_
  refine lv_iload_n hx hb dX12_doMatch_1 rfl (lv_at hl 2 rfl) ?_
  refine lv_iload_n hx hb dX12_doMatch_2 rfl (lv_at hl 3 rfl) ?_
  refine cr_S (As := [.int (nI a), .int (nI b), .int (nI co)]) (rest := []) hFX hKK (s_X12_cellAt l D κ a b co) 3 gS_X12_167 hdS_X12_cellAt rfl rfl ⟨Nat.le_of_ble_eq_true rfl, Nat.le_of_ble_eq_true rfl⟩ rfl rfl (Nat.le_of_ble_eq_true rfl) dX12_doMatch_3 ⟨Nat.le_of_ble_eq_true rfl, Nat.le_of_ble_eq_true rfl⟩ hl.1 (hP.sub [] rfl) (fun _ hp_1 => ?_)
  refine W.eq (g2 := F0 m 6 ls [.int (nI (7123 * a + 403 + 21 * (8 * b + co)))]) rfl ?_
  refine lv_istore (lv' := [(8, .int (nI (7123 * a + 403 + 21 * (8 * b + co)))), (0, .ref m0), (1, .int (nI a)), (2, .int (nI b)), (3, .int (nI co)), (4, .int (nI d)), (5, .int (nI o9)), (6, .int (nI k)), (7, .int zt)]) hx hb dX12_doMatch_6 hl (by decide) rfl (fun ls hl => ?_)
  refine lv_iload hx hb dX12_doMatch_8 (lv_at hl 5 rfl) ?_
  refine lv_iload hx hb dX12_doMatch_10 (lv_at hl 6 rfl) ?_
  refine lv_iload hx hb dX12_doMatch_12 (lv_at hl 7 rfl) ?_
  refine cr_S (As := [.int (nI d), .int (nI o9), .int (nI k)]) (rest := []) hFX hKK (s_X12_cellAt l D κ d o9 k) 3 gS_X12_167 hdS_X12_cellAt rfl rfl ⟨Nat.le_of_ble_eq_true rfl, Nat.le_of_ble_eq_true rfl⟩ rfl rfl (Nat.le_of_ble_eq_true rfl) dX12_doMatch_14 ⟨Nat.le_of_ble_eq_true rfl, Nat.le_of_ble_eq_true rfl⟩ hl.1 (hP.sub [] rfl) (fun _ hp_2 => ?_)
  refine W.eq (g2 := F0 m 17 ls [.int (nI (7123 * d + 403 + 21 * (8 * o9 + k)))]) rfl ?_
  refine lv_istore (lv' := [(9, .int (nI (7123 * d + 403 + 21 * (8 * o9 + k)))), (8, .int (nI (7123 * a + 403 + 21 * (8 * b + co)))), (0, .ref m0), (1, .int (nI a)), (2, .int (nI b)), (3, .int (nI co)), (4, .int (nI d)), (5, .int (nI o9)), (6, .int (nI k)), (7, .int zt)]) hx hb dX12_doMatch_17 hl (by decide) rfl (fun ls hl => ?_)
  refine lv_aload_n hx hb dX12_doMatch_19 rfl (lv_at hl 2 rfl) ?_
  refine va_get (D := D) (ci := 12) (v := .ref a0) (C := RX12) (T := TX12) (N := 30) hx hb hts inlX12 hown hK hP 0 rfl rfl 0 (by decide) (hts _ mw_187) (fun _ h9 => h9) rfl dX12_doMatch_20 ?_
  refine lv_iload hx hb dX12_doMatch_23 (lv_at hl 1 rfl) ?_
  refine va_iald hx hb hK hP 1 0 rfl rfl (i := nI (7123 * a + 403 + 21 * (8 * b + co))) (vp_in_nI (n := (7123 * a + 403 + 21 * (8 * b + co))) (by omega) (by omega)) dX12_doMatch_25 ?_
  refine kv (v := .int (w (7123 * a + 403 + 21 * (8 * b + co)))) (by rw [nI_clamp (by omega)]) ?_
  obtain ⟨n_3, hn_3, en_3⟩ : ∃ n9 : Nat, n9 ≤ 20 ∧ w (7123 * a + 403 + 21 * (8 * b + co)) = nI n9 := id (h_a0 _ _ (mCELL (t := a) (i := (8 * b + co)) (by omega) (by omega) (by omega)))
  refine kv (v := .int (nI n_3)) (congrArg Value.int en_3) ?_
  refine lv_if_le (tgt := 63) hx hb dX12_doMatch_26 (by decide) (fun c_4 => ?_) (fun c_4 => ?_)
  · have nc_4 := cv_le (a := n_3) (b := 0) (by omega) (by omega) c_4
    refine lv_iconst (v := 0) hx hb dX12_doMatch_63 (by decide) ?_
    exact cr_iret hx hb hr hlk rfl 0 rfl (by exact Or.inr ((rfl))) dX12_doMatch_64
  · have nc_4 := cv_nle (a := n_3) (b := 0) (by omega) (by omega) c_4
    refine lv_aload_n hx hb dX12_doMatch_29 rfl (lv_at hl 2 rfl) ?_
    refine va_get (D := D) (ci := 12) (v := .ref a0) (C := RX12) (T := TX12) (N := 30) hx hb hts inlX12 hown hK hP 0 rfl rfl 0 (by decide) (hts _ mw_187) (fun _ h9 => h9) rfl dX12_doMatch_30 ?_
    refine lv_iload hx hb dX12_doMatch_33 (lv_at hl 0 rfl) ?_
    refine va_iald hx hb hK hP 1 0 rfl rfl (i := nI (7123 * d + 403 + 21 * (8 * o9 + k))) (vp_in_nI (n := (7123 * d + 403 + 21 * (8 * o9 + k))) (by omega) (by omega)) dX12_doMatch_35 ?_
    refine kv (v := .int (w (7123 * d + 403 + 21 * (8 * o9 + k)))) (by rw [nI_clamp (by omega)]) ?_
    obtain ⟨n_5, hn_5, en_5⟩ : ∃ n9 : Nat, n9 ≤ 20 ∧ w (7123 * d + 403 + 21 * (8 * o9 + k)) = nI n9 := id (h_a0 _ _ (mCELL (t := d) (i := (8 * o9 + k)) (by omega) (by omega) (by omega)))
    refine kv (v := .int (nI n_5)) (congrArg Value.int en_5) ?_
    refine lv_if_le (tgt := 63) hx hb dX12_doMatch_36 (by decide) (fun c_6 => ?_) (fun c_6 => ?_)
    · have nc_6 := cv_le (a := n_5) (b := 0) (by omega) (by omega) c_6
      refine lv_iconst (v := 0) hx hb dX12_doMatch_63 (by decide) ?_
      exact cr_iret hx hb hr hlk rfl 0 rfl (by exact Or.inr ((rfl))) dX12_doMatch_64
    · have nc_6 := cv_nle (a := n_5) (b := 0) (by omega) (by omega) c_6
      refine lv_aload_n hx hb dX12_doMatch_39 rfl (lv_at hl 2 rfl) ?_
      refine va_get (D := D) (ci := 12) (v := .ref a0) (C := RX12) (T := TX12) (N := 30) hx hb hts inlX12 hown hK hP 0 rfl rfl 0 (by decide) (hts _ mw_187) (fun _ h9 => h9) rfl dX12_doMatch_40 ?_
      refine lv_iload hx hb dX12_doMatch_43 (lv_at hl 1 rfl) ?_
      refine lv_aload_n hx hb dX12_doMatch_45 rfl (lv_at hl 2 rfl) ?_
      refine va_get (D := D) (ci := 12) (v := .ref a0) (C := RX12) (T := TX12) (N := 30) hx hb hts inlX12 hown hK hP 0 rfl rfl 0 (by decide) (hts _ mw_187) (fun _ h9 => h9) rfl dX12_doMatch_46 ?_
      refine lv_iload hx hb dX12_doMatch_49 (lv_at hl 0 rfl) ?_
      refine lv_iload hx hb dX12_doMatch_51 (lv_at hl 9 rfl) ?_
      refine cr_S (As := [.ref a0, .int (nI (7123 * a + 403 + 21 * (8 * b + co))), .ref a0, .int (nI (7123 * d + 403 + 21 * (8 * o9 + k))), .int zt]) (rest := []) hFX hKK (s_X12_compareBy l D κ a0 21375 w a0 21375 w (7123 * a + 403 + 21 * (8 * b + co)) (7123 * d + 403 + 21 * (8 * o9 + k)) zt (by first | assumption | omega) (by first | assumption | omega) (by omega) (by omega) (h_a0 _ _ (mCELL (t := a) (i := (8 * b + co)) (by omega) (by omega) (by omega))) (h_a0 _ _ (mCELL (t := d) (i := (8 * o9 + k)) (by omega) (by omega) (by omega)))) 5 gS_X12_184 hdS_X12_compareBy rfl rfl ⟨Nat.le_of_ble_eq_true rfl, Nat.le_of_ble_eq_true rfl⟩ rfl rfl (Nat.le_of_ble_eq_true rfl) dX12_doMatch_53 ⟨Nat.le_of_ble_eq_true rfl, Nat.le_of_ble_eq_true rfl⟩ hl.1 (hP.sub [1, 1] rfl) (fun n__7 hp_8 => ?_)
      replace hp_8 : n__7 ≤ 2 := hp_8
      have h_9 := hp_8
      clear hp_8
      refine W.eq (g2 := F0 m 56 ls [.int (nI n__7)]) rfl ?_
      refine lv_if_ne (tgt := 63) hx hb dX12_doMatch_56 (by decide) (fun c_10 => ?_) (fun c_10 => ?_)
      · have nc_10 := cv_ne (a := n__7) (b := 0) (by omega) (by omega) c_10
        refine lv_iconst (v := 0) hx hb dX12_doMatch_63 (by decide) ?_
        exact cr_iret hx hb hr hlk rfl 0 rfl (by exact Or.inr ((rfl))) dX12_doMatch_64
      · have nc_10 := cv_eq (a := n__7) (b := 0) (by omega) (by omega) c_10
        refine lv_iconst (v := 1) hx hb dX12_doMatch_59 (by decide) ?_
        refine lv_goto (tgt := 64) hx hb dX12_doMatch_60 (by decide) ?_
        exact cr_iret hx hb hr hlk rfl 1 rfl (by exact Or.inl (rfl)) dX12_doMatch_64
set_option maxHeartbeats 4000000 in
set_option maxRecDepth 100000 in
theorem s_X12_matches (l : Launch) (D : va_G) (κ : Nat → ClassId) (m0 : Nat) (a0 : Nat) (a1 : Nat) (a2 : Nat) (u3 : Nat) (f4 : Int32) (a5 : Nat) (u6 : Nat) (f7 : Int32) (f8 : Int32) (f9 : Int32) (f10 : Int32) (u11 : Nat) (u12 : Nat) (u13 : Nat) (a14 : Nat) (a15 : Nat) (a16 : Nat) (a17 : Nat) (f18 : Int32) (f19 : Int32) (a20 : Nat) (a21 : Nat) (u22 : Nat) (a23 : Nat) (a24 : Nat) (a25 : Nat) (u26 : Nat) (f27 : Int32) (a28 : Nat) (u29 : Nat) (w : Nat → Int32) (za : Int32) (zb : Int32) (zc : Int32) (zd : Int32) (h_a0 : Pw w) : Cr l yX12_matches (wl yX12_matches cX12_matches 9 (some .int)) { frames := 9, cells := 0, slots := 0, locals := 213 } D κ [.ref m0, .int za, .int zb, .int zc, .int zd] (va_P D vwCl [(m0, .inr (12, [.ref a0, .ref a1, .ref a2, .int (nI u3), .int f4, .ref a5, .int (nI u6), .int f7, .int f8, .int f9, .int f10, .int (nI u11), .int (nI u12), .int (nI u13), .ref a14, .ref a15, .ref a16, .ref a17, .int f18, .int f19, .ref a20, .ref a21, .int (nI u22), .ref a23, .ref a24, .ref a25, .int (nI u26), .int f27, .ref a28, .int (nI u29)])), (a0, .inl (κ 0, 21375, .inl w))]) (fun r : Int32 => some (.int r)) (fun r : Int32 => True) := by
  refine cr_of (by decide +kernel) (Nat.le_of_ble_eq_true rfl) ?_
  intro p e s m args below meth c ls hx hb hr hml hts hown hlk hKK hK hI hl
  have hP : va_P D vwCl [(m0, .inr (12, [.ref a0, .ref a1, .ref a2, .int (nI u3), .int f4, .ref a5, .int (nI u6), .int f7, .int f8, .int f9, .int f10, .int (nI u11), .int (nI u12), .int (nI u13), .ref a14, .ref a15, .ref a16, .ref a17, .int f18, .int f19, .ref a20, .ref a21, .int (nI u22), .ref a23, .ref a24, .ref a25, .int (nI u26), .int f27, .ref a28, .int (nI u29)])), (a0, .inl (κ 0, 21375, .inl w))] s.heap := hI
  have hFX : FX p s m args c cX12_matches 9 RX12 := ⟨hx, hb, hml, hown, hts⟩
  have hl : lv_has ls 9 [(0, .ref m0), (1, .int za), (2, .int zb), (3, .int zc), (4, .int zd)] := hl
  refine lv_aload_n hx hb dX12_matches_0 rfl (lv_at hl 0 rfl) ?_
  refine lv_iload_n hx hb dX12_matches_1 rfl (lv_at hl 1 rfl) ?_
  refine lv_iload_n hx hb dX12_matches_2 rfl (lv_at hl 2 rfl) ?_
  refine cr_V (As := [.int za, .int zb]) (rest := []) hFX hKK (s2_X12_isColumn l D κ m0 a0 a1 a2 u3 f4 a5 u6 f7 f8 f9 f10 u11 u12 u13 a14 a15 a16 a17 f18 f19 a20 a21 u22 a23 a24 a25 u26 f27 a28 u29 w za zb h_a0) 2 gV_X12_312 hdV_X12_isColumn rfl rfl ⟨Nat.le_of_ble_eq_true rfl, Nat.le_of_ble_eq_true rfl⟩ rfl rfl (Nat.le_of_ble_eq_true rfl) dX12_matches_3 ⟨Nat.le_of_ble_eq_true rfl, Nat.le_of_ble_eq_true rfl⟩ hl.1 hP 0 12 rfl rfl rfl (hP.sub [0, 1] rfl) (fun r__1 hp_2 => ?_)
  replace hp_2 : ((r__1 = 1 ∧ (∃ j : Nat, j < 3 ∧ za = nI j) ∧ (∃ c : Nat, (c < 8 ∧ ∀ j9 : Nat, za = nI j9 → j9 < 3 → c < nv (w (7123 * j9 + 1))) ∧ zb = nI c)) ∨ (r__1 = 0)) := hp_2
  have ha_3 := hp_2
  clear hp_2
  rcases ha_3 with ⟨rfl, ⟨j_4, hj_4, rfl⟩, ⟨c_6, ⟨hc_6, a_8⟩, rfl⟩⟩ | rfl
  · refine W.eq (g2 := F0 m 6 ls [.int 1]) rfl ?_
    refine lv_if_eq (tgt := 19) hx hb dX12_matches_6 (by decide) (fun c_9 => absurd c_9 (by decide)) (fun c_9 => ?_)
    refine lv_aload_n hx hb dX12_matches_9 rfl (lv_at hl 0 rfl) ?_
    refine lv_iload_n hx hb dX12_matches_10 rfl (lv_at hl 3 rfl) ?_
    refine lv_iload hx hb dX12_matches_11 (lv_at hl 4 rfl) ?_
    refine cr_V (As := [.int zc, .int zd]) (rest := []) hFX hKK (s2_X12_isColumn l D κ m0 a0 a1 a2 u3 f4 a5 u6 f7 f8 f9 f10 u11 u12 u13 a14 a15 a16 a17 f18 f19 a20 a21 u22 a23 a24 a25 u26 f27 a28 u29 w zc zd h_a0) 2 gV_X12_312 hdV_X12_isColumn rfl rfl ⟨Nat.le_of_ble_eq_true rfl, Nat.le_of_ble_eq_true rfl⟩ rfl rfl (Nat.le_of_ble_eq_true rfl) dX12_matches_13 ⟨Nat.le_of_ble_eq_true rfl, Nat.le_of_ble_eq_true rfl⟩ hl.1 hP 0 12 rfl rfl rfl (hP.sub [0, 1] rfl) (fun r__10 hp_11 => ?_)
    replace hp_11 : ((r__10 = 1 ∧ (∃ j : Nat, j < 3 ∧ zc = nI j) ∧ (∃ c : Nat, (c < 8 ∧ ∀ j9 : Nat, zc = nI j9 → j9 < 3 → c < nv (w (7123 * j9 + 1))) ∧ zd = nI c)) ∨ (r__10 = 0)) := hp_11
    have ha_12 := hp_11
    clear hp_11
    rcases ha_12 with ⟨rfl, ⟨j_13, hj_13, rfl⟩, ⟨c_15, ⟨hc_15, a_17⟩, rfl⟩⟩ | rfl
    · refine W.eq (g2 := F0 m 16 ls [.int 1]) rfl ?_
      refine lv_if_ne (tgt := 21) hx hb dX12_matches_16 (by decide) (fun c_18 => ?_) (fun c_18 => absurd c_18 (by decide))
      refine lv_aload_n hx hb dX12_matches_21 rfl (lv_at hl 0 rfl) ?_
      refine lv_iload_n hx hb dX12_matches_22 rfl (lv_at hl 1 rfl) ?_
      refine lv_iload_n hx hb dX12_matches_23 rfl (lv_at hl 2 rfl) ?_
      refine lv_iload_n hx hb dX12_matches_24 rfl (lv_at hl 3 rfl) ?_
      refine lv_iload hx hb dX12_matches_25 (lv_at hl 4 rfl) ?_
      refine cr_V (As := [.int (nI j_4), .int (nI c_6), .int (nI j_13), .int (nI c_15)]) (rest := []) hFX hKK (s_X12_matching l D κ m0 a0 a1 a2 u3 f4 a5 u6 f7 f8 f9 f10 u11 u12 u13 a14 a15 a16 a17 f18 f19 a20 a21 u22 a23 a24 a25 u26 f27 a28 u29 w j_4 c_6 j_13 c_15 h_a0 (by omega) (by omega) (by omega) (by omega)) 4 gV_X12_411 hdV_X12_matching rfl rfl ⟨Nat.le_of_ble_eq_true rfl, Nat.le_of_ble_eq_true rfl⟩ rfl rfl (Nat.le_of_ble_eq_true rfl) dX12_matches_27 ⟨Nat.le_of_ble_eq_true rfl, Nat.le_of_ble_eq_true rfl⟩ hl.1 hP 0 12 rfl rfl rfl (hP.sub [0, 1] rfl) (fun r__19 hp_20 => ?_)
      refine W.eq (g2 := F0 m 30 ls [.int r__19]) rfl ?_
      refine lv_istore (lv' := [(5, .int r__19), (0, .ref m0), (1, .int (nI j_4)), (2, .int (nI c_6)), (3, .int (nI j_13)), (4, .int (nI c_15))]) hx hb dX12_matches_30 hl (by decide) rfl (fun ls hl => ?_)
      refine lv_iload hx hb dX12_matches_32 (lv_at hl 0 rfl) ?_
      refine lv_iconst (v := (-1)) hx hb dX12_matches_34 (by decide) ?_
      refine lv_icmp_ne (tgt := 40) hx hb dX12_matches_35 (by decide) (fun c_21 => ?_) (fun c_21 => ?_)
      · refine lv_iconst (v := 0) hx hb dX12_matches_40 (by decide) ?_
        refine lv_istore (lv' := [(6, .int 0), (5, .int r__19), (0, .ref m0), (1, .int (nI j_4)), (2, .int (nI c_6)), (3, .int (nI j_13)), (4, .int (nI c_15))]) hx hb dX12_matches_41 hl (by decide) rfl (fun ls hl => ?_)
        refine lv_iconst (v := 0) hx hb dX12_matches_43 (by decide) ?_
        refine lv_istore (lv' := [(7, .int 0), (6, .int 0), (5, .int r__19), (0, .ref m0), (1, .int (nI j_4)), (2, .int (nI c_6)), (3, .int (nI j_13)), (4, .int (nI c_15))]) hx hb dX12_matches_44 hl (by decide) rfl (fun ls hl => ?_)
        refine loop_r (fun k9 ls => ∃ (k7_46 : Nat), ∃ (k6_46 : Int32), (k7_46 ≤ 40) ∧ 40 - k7_46 = k9 ∧ lv_has ls 9 [(7, .int (nI k7_46)), (6, .int k6_46), (5, .int r__19), (0, .ref m0), (1, .int (nI j_4)), (2, .int (nI c_6)), (3, .int (nI j_13)), (4, .int (nI c_15))]) (fun k9 ls hI46 ih46 => ?_) (40 - 0) _ ⟨0, 0, (by omega), rfl, lv_sub hl [0, 1, 2, 3, 4, 5, 6, 7] rfl⟩
        obtain ⟨k7_46, k6_46, hl46_0, hm46, hl⟩ := hI46
        refine lv_iload hx hb dX12_matches_46 (lv_at hl 0 rfl) ?_
        refine lv_aload_n hx hb dX12_matches_48 rfl (lv_at hl 3 rfl) ?_
        refine lv_iload_n hx hb dX12_matches_49 rfl (lv_at hl 4 rfl) ?_
        refine cr_V (As := [.int (nI j_4)]) (rest := [.int (nI k7_46)]) hFX hKK (s2_X12_viewMany l D κ m0 a0 a1 a2 u3 f4 a5 u6 f7 f8 f9 f10 u11 u12 u13 a14 a15 a16 a17 f18 f19 a20 a21 u22 a23 a24 a25 u26 f27 a28 u29 w j_4 h_a0 (by omega)) 1 gV_X12_341 hdV_X12_viewMany rfl rfl ⟨Nat.le_of_ble_eq_true rfl, Nat.le_of_ble_eq_true rfl⟩ rfl rfl (Nat.le_of_ble_eq_true rfl) dX12_matches_50 ⟨Nat.le_of_ble_eq_true rfl, Nat.le_of_ble_eq_true rfl⟩ hl.1 hP 0 12 rfl rfl rfl (hP.sub [0, 1] rfl) (fun n__22 hp_23 => ?_)
        replace hp_23 : n__22 ≤ 40 ∧ n__22 = vmF w j_4 := hp_23
        obtain ⟨h_24, h_25⟩ := hp_23
        refine W.eq (g2 := F0 m 53 ls [.int (nI n__22), .int (nI k7_46)]) rfl ?_
        refine lv_icmp_ge (tgt := 119) hx hb dX12_matches_53 (by decide) (fun c_26 => ?_) (fun c_26 => ?_)
        · have nc_26 := cv_le (a := n__22) (b := k7_46) (by omega) (by omega) c_26
          refine lv_iload hx hb dX12_matches_119 (lv_at hl 1 rfl) ?_
          exact cr_iret hx hb hr hlk rfl k6_46 rfl trivial dX12_matches_121
        · have nc_26 := cv_nle (a := n__22) (b := k7_46) (by omega) (by omega) c_26
          refine lv_iconst (v := 0) hx hb dX12_matches_56 (by decide) ?_
          refine lv_istore (lv' := [(8, .int 0), (7, .int (nI k7_46)), (6, .int k6_46), (5, .int r__19), (0, .ref m0), (1, .int (nI j_4)), (2, .int (nI c_6)), (3, .int (nI j_13)), (4, .int (nI c_15))]) hx hb dX12_matches_57 hl (by decide) rfl (fun ls hl => ?_)
          refine loop_r (fun k9 ls => ∃ (k8_59 : Nat), ∃ (k6_59 : Int32), (k8_59 ≤ 40) ∧ 40 - k8_59 = k9 ∧ lv_has ls 9 [(8, .int (nI k8_59)), (7, .int (nI k7_46)), (6, .int k6_59), (5, .int r__19), (0, .ref m0), (1, .int (nI j_4)), (2, .int (nI c_6)), (3, .int (nI j_13)), (4, .int (nI c_15))]) (fun k9 ls hI59 ih59 => ?_) (40 - 0) _ ⟨0, k6_46, (by omega), rfl, lv_sub hl [0, 1, 2, 3, 4, 5, 6, 7, 8] rfl⟩
          obtain ⟨k8_59, k6_59, hl59_0, hm59, hl⟩ := hI59
          refine lv_iload hx hb dX12_matches_59 (lv_at hl 0 rfl) ?_
          refine lv_aload_n hx hb dX12_matches_61 rfl (lv_at hl 4 rfl) ?_
          refine lv_iload_n hx hb dX12_matches_62 rfl (lv_at hl 7 rfl) ?_
          refine cr_V (As := [.int (nI j_13)]) (rest := [.int (nI k8_59)]) hFX hKK (s2_X12_viewMany l D κ m0 a0 a1 a2 u3 f4 a5 u6 f7 f8 f9 f10 u11 u12 u13 a14 a15 a16 a17 f18 f19 a20 a21 u22 a23 a24 a25 u26 f27 a28 u29 w j_13 h_a0 (by omega)) 1 gV_X12_341 hdV_X12_viewMany rfl rfl ⟨Nat.le_of_ble_eq_true rfl, Nat.le_of_ble_eq_true rfl⟩ rfl rfl (Nat.le_of_ble_eq_true rfl) dX12_matches_63 ⟨Nat.le_of_ble_eq_true rfl, Nat.le_of_ble_eq_true rfl⟩ hl.1 hP 0 12 rfl rfl rfl (hP.sub [0, 1] rfl) (fun n__27 hp_28 => ?_)
          replace hp_28 : n__27 ≤ 40 ∧ n__27 = vmF w j_13 := hp_28
          obtain ⟨h_29, h_30⟩ := hp_28
          refine W.eq (g2 := F0 m 66 ls [.int (nI n__27), .int (nI k8_59)]) rfl ?_
          refine lv_icmp_ge (tgt := 113) hx hb dX12_matches_66 (by decide) (fun c_31 => ?_) (fun c_31 => ?_)
          · have nc_31 := cv_le (a := n__27) (b := k8_59) (by omega) (by omega) c_31
            refine lv_iinc (v := (nI (k7_46 + 1))) (lv' := [(7, .int (nI (k7_46 + 1))), (8, .int (nI k8_59)), (6, .int k6_59), (5, .int r__19), (0, .ref m0), (1, .int (nI j_4)), (2, .int (nI c_6)), (3, .int (nI j_13)), (4, .int (nI c_15))]) hx hb dX12_matches_113 hl (k := 1) rfl (nI_i k7_46) (by decide) rfl (fun ls hl => ?_)
            refine lv_goto (tgt := 46) hx hb dX12_matches_116 (by decide) ?_
            exact ih46 _ _ (by omega) ⟨(k7_46 + 1), k6_59, (by omega), rfl, lv_sub hl [0, 2, 3, 4, 5, 6, 7, 8] rfl⟩
          · have nc_31 := cv_nle (a := n__27) (b := k8_59) (by omega) (by omega) c_31
            refine lv_iload hx hb dX12_matches_69 (lv_at hl 2 rfl) ?_
            refine lv_aload_n hx hb dX12_matches_71 rfl (lv_at hl 4 rfl) ?_
            refine lv_iload_n hx hb dX12_matches_72 rfl (lv_at hl 5 rfl) ?_
            refine lv_aload_n hx hb dX12_matches_73 rfl (lv_at hl 4 rfl) ?_
            refine lv_iload_n hx hb dX12_matches_74 rfl (lv_at hl 5 rfl) ?_
            refine lv_iload hx hb dX12_matches_75 (lv_at hl 1 rfl) ?_
            refine cr_V (As := [.int (nI j_4), .int (nI k7_46)]) (rest := [.int (nI j_4), .ref m0, .int k6_59]) hFX hKK (s2_X12_viewed l D κ m0 a0 a1 a2 u3 f4 a5 u6 f7 f8 f9 f10 u11 u12 u13 a14 a15 a16 a17 f18 f19 a20 a21 u22 a23 a24 a25 u26 f27 a28 u29 w j_4 k7_46 h_a0 (by omega) (by omega)) 2 gV_X12_345 hdV_X12_viewed rfl rfl ⟨Nat.le_of_ble_eq_true rfl, Nat.le_of_ble_eq_true rfl⟩ rfl rfl (Nat.le_of_ble_eq_true rfl) dX12_matches_77 ⟨Nat.le_of_ble_eq_true rfl, Nat.le_of_ble_eq_true rfl⟩ hl.1 hP 0 12 rfl rfl rfl (hP.sub [0, 1] rfl) (fun n__32 hp_33 => ?_)
            replace hp_33 : n__32 ≤ 39 ∧ n__32 = vwF w j_4 k7_46 := hp_33
            obtain ⟨h_34, h_35⟩ := hp_33
            refine W.eq (g2 := F0 m 80 ls [.int (nI n__32), .int (nI j_4), .ref m0, .int k6_59]) rfl ?_
            refine lv_iload_n hx hb dX12_matches_80 rfl (lv_at hl 6 rfl) ?_
            refine lv_iload_n hx hb dX12_matches_81 rfl (lv_at hl 7 rfl) ?_
            refine lv_aload_n hx hb dX12_matches_82 rfl (lv_at hl 4 rfl) ?_
            refine lv_iload_n hx hb dX12_matches_83 rfl (lv_at hl 7 rfl) ?_
            refine lv_iload hx hb dX12_matches_84 (lv_at hl 0 rfl) ?_
            refine cr_V (As := [.int (nI j_13), .int (nI k8_59)]) (rest := [.int (nI j_13), .int (nI c_6), .int (nI n__32), .int (nI j_4), .ref m0, .int k6_59]) hFX hKK (s2_X12_viewed l D κ m0 a0 a1 a2 u3 f4 a5 u6 f7 f8 f9 f10 u11 u12 u13 a14 a15 a16 a17 f18 f19 a20 a21 u22 a23 a24 a25 u26 f27 a28 u29 w j_13 k8_59 h_a0 (by omega) (by omega)) 2 gV_X12_345 hdV_X12_viewed rfl rfl ⟨Nat.le_of_ble_eq_true rfl, Nat.le_of_ble_eq_true rfl⟩ rfl rfl (Nat.le_of_ble_eq_true rfl) dX12_matches_86 ⟨Nat.le_of_ble_eq_true rfl, Nat.le_of_ble_eq_true rfl⟩ hl.1 hP 0 12 rfl rfl rfl (hP.sub [0, 1] rfl) (fun n__36 hp_37 => ?_)
            replace hp_37 : n__36 ≤ 39 ∧ n__36 = vwF w j_13 k8_59 := hp_37
            obtain ⟨h_38, h_39⟩ := hp_37
            refine W.eq (g2 := F0 m 89 ls [.int (nI n__36), .int (nI j_13), .int (nI c_6), .int (nI n__32), .int (nI j_4), .ref m0, .int k6_59]) rfl ?_
            refine lv_iload hx hb dX12_matches_89 (lv_at hl 8 rfl) ?_
            refine lv_iload hx hb dX12_matches_91 (lv_at hl 3 rfl) ?_
            refine cr_V (As := [.int (nI j_4), .int (nI n__32), .int (nI c_6), .int (nI j_13), .int (nI n__36), .int (nI c_15), .int r__19]) (rest := [.int k6_59]) hFX hKK (s_X12_doMatch l D κ m0 a0 a1 a2 u3 f4 a5 u6 f7 f8 f9 f10 u11 u12 u13 a14 a15 a16 a17 f18 f19 a20 a21 u22 a23 a24 a25 u26 f27 a28 u29 w r__19 j_4 n__32 c_6 j_13 n__36 c_15 h_a0 (by omega) (by omega) (by omega) (by omega) (by omega) (by omega)) 7 gV_X12_414 hdV_X12_doMatch rfl rfl ⟨Nat.le_of_ble_eq_true rfl, Nat.le_of_ble_eq_true rfl⟩ rfl rfl (Nat.le_of_ble_eq_true rfl) dX12_matches_93 ⟨Nat.le_of_ble_eq_true rfl, Nat.le_of_ble_eq_true rfl⟩ hl.1 hP 0 12 rfl rfl rfl (hP.sub [0, 1] rfl) (fun r__40 hp_41 => ?_)
            replace hp_41 : ((r__40 = 1) ∨ (r__40 = 0)) := hp_41
            have ha_42 := hp_41
            clear hp_41
            rcases ha_42 with rfl | rfl
            · refine W.eq (g2 := F0 m 96 ls [.int 1, .int k6_59]) rfl ?_
              refine lv_if_eq (tgt := 103) hx hb dX12_matches_96 (by decide) (fun c_43 => absurd c_43 (by decide)) (fun c_43 => ?_)
              refine lv_iconst (v := 1) hx hb dX12_matches_99 (by decide) ?_
              refine lv_goto (tgt := 104) hx hb dX12_matches_100 (by decide) ?_
              refine lv_iadd hx hb dX12_matches_104 ?_
              refine lv_topi (fun x_44 ex_44 => ?_)
              refine lv_istore (lv' := [(6, .int x_44), (8, .int (nI k8_59)), (7, .int (nI k7_46)), (5, .int r__19), (0, .ref m0), (1, .int (nI j_4)), (2, .int (nI c_6)), (3, .int (nI j_13)), (4, .int (nI c_15))]) hx hb dX12_matches_105 hl (by decide) rfl (fun ls hl => ?_)
              refine lv_iinc (v := (nI (k8_59 + 1))) (lv' := [(8, .int (nI (k8_59 + 1))), (6, .int x_44), (7, .int (nI k7_46)), (5, .int r__19), (0, .ref m0), (1, .int (nI j_4)), (2, .int (nI c_6)), (3, .int (nI j_13)), (4, .int (nI c_15))]) hx hb dX12_matches_107 hl (k := 1) rfl (nI_i k8_59) (by decide) rfl (fun ls hl => ?_)
              refine lv_goto (tgt := 59) hx hb dX12_matches_110 (by decide) ?_
              exact ih59 _ _ (by omega) ⟨(k8_59 + 1), x_44, (by omega), rfl, lv_sub hl [0, 2, 1, 3, 4, 5, 6, 7, 8] rfl⟩
            · refine W.eq (g2 := F0 m 96 ls [.int 0, .int k6_59]) rfl ?_
              refine lv_if_eq (tgt := 103) hx hb dX12_matches_96 (by decide) (fun c_45 => ?_) (fun c_45 => absurd (by decide) c_45)
              refine lv_iconst (v := 0) hx hb dX12_matches_103 (by decide) ?_
              refine lv_iadd hx hb dX12_matches_104 ?_
              refine lv_topi (fun x_46 ex_46 => ?_)
              refine lv_istore (lv' := [(6, .int x_46), (8, .int (nI k8_59)), (7, .int (nI k7_46)), (5, .int r__19), (0, .ref m0), (1, .int (nI j_4)), (2, .int (nI c_6)), (3, .int (nI j_13)), (4, .int (nI c_15))]) hx hb dX12_matches_105 hl (by decide) rfl (fun ls hl => ?_)
              refine lv_iinc (v := (nI (k8_59 + 1))) (lv' := [(8, .int (nI (k8_59 + 1))), (6, .int x_46), (7, .int (nI k7_46)), (5, .int r__19), (0, .ref m0), (1, .int (nI j_4)), (2, .int (nI c_6)), (3, .int (nI j_13)), (4, .int (nI c_15))]) hx hb dX12_matches_107 hl (k := 1) rfl (nI_i k8_59) (by decide) rfl (fun ls hl => ?_)
              refine lv_goto (tgt := 59) hx hb dX12_matches_110 (by decide) ?_
              exact ih59 _ _ (by omega) ⟨(k8_59 + 1), x_46, (by omega), rfl, lv_sub hl [0, 2, 1, 3, 4, 5, 6, 7, 8] rfl⟩
      · refine lv_iconst (v := (-1)) hx hb dX12_matches_38 (by decide) ?_
        exact cr_iret hx hb hr hlk rfl (-1) rfl trivial dX12_matches_39
    · refine W.eq (g2 := F0 m 16 ls [.int 0]) rfl ?_
      refine lv_if_ne (tgt := 21) hx hb dX12_matches_16 (by decide) (fun c_47 => absurd c_47 (by decide)) (fun c_47 => ?_)
      refine lv_iconst (v := (-1)) hx hb dX12_matches_19 (by decide) ?_
      exact cr_iret hx hb hr hlk rfl (-1) rfl trivial dX12_matches_20
  · refine W.eq (g2 := F0 m 6 ls [.int 0]) rfl ?_
    refine lv_if_eq (tgt := 19) hx hb dX12_matches_6 (by decide) (fun c_48 => ?_) (fun c_48 => absurd (by decide) c_48)
    refine lv_iconst (v := (-1)) hx hb dX12_matches_19 (by decide) ?_
    exact cr_iret hx hb hr hlk rfl (-1) rfl trivial dX12_matches_20
set_option maxHeartbeats 4000000 in
set_option maxRecDepth 100000 in
theorem s_X12_isInDraft (l : Launch) (D : va_G) (κ : Nat → ClassId) (m0 : Nat) (a0 : Nat) (a1 : Nat) (a2 : Nat) (u3 : Nat) (f4 : Int32) (a5 : Nat) (u6 : Nat) (f7 : Int32) (f8 : Int32) (f9 : Int32) (f10 : Int32) (u11 : Nat) (u12 : Nat) (u13 : Nat) (a14 : Nat) (a15 : Nat) (a16 : Nat) (a17 : Nat) (f18 : Int32) (f19 : Int32) (a20 : Nat) (a21 : Nat) (u22 : Nat) (a23 : Nat) (a24 : Nat) (a25 : Nat) (u26 : Nat) (f27 : Int32) (a28 : Nat) (u29 : Nat) (dr : Nat → Int32) (n : Nat) (h_a17 : Pd dr) (hn : n ≤ 7) : Cr l yX12_isInDraft (wl yX12_isInDraft cX12_isInDraft 3 (some .boolean)) { frames := 2, cells := 0, slots := 0, locals := 49 } D κ [.ref m0, .int (nI n)] (va_P D vwCl [(m0, .inr (12, [.ref a0, .ref a1, .ref a2, .int (nI u3), .int f4, .ref a5, .int (nI u6), .int f7, .int f8, .int f9, .int f10, .int (nI u11), .int (nI u12), .int (nI u13), .ref a14, .ref a15, .ref a16, .ref a17, .int f18, .int f19, .ref a20, .ref a21, .int (nI u22), .ref a23, .ref a24, .ref a25, .int (nI u26), .int f27, .ref a28, .int (nI u29)])), (a17, .inl (κ 0, 7123, .inl dr))]) (fun r : Int32 => some (.int r)) (fun r : Int32 => ((r = 1) ∨ (r = 0))) := by
  refine cr_of (by decide +kernel) (Nat.le_of_ble_eq_true rfl) ?_
  intro p e s m args below meth c ls hx hb hr hml hts hown hlk hKK hK hI hl
  have hP : va_P D vwCl [(m0, .inr (12, [.ref a0, .ref a1, .ref a2, .int (nI u3), .int f4, .ref a5, .int (nI u6), .int f7, .int f8, .int f9, .int f10, .int (nI u11), .int (nI u12), .int (nI u13), .ref a14, .ref a15, .ref a16, .ref a17, .int f18, .int f19, .ref a20, .ref a21, .int (nI u22), .ref a23, .ref a24, .ref a25, .int (nI u26), .int f27, .ref a28, .int (nI u29)])), (a17, .inl (κ 0, 7123, .inl dr))] s.heap := hI
  have hFX : FX p s m args c cX12_isInDraft 3 RX12 := ⟨hx, hb, hml, hown, hts⟩
  have hl : lv_has ls 3 [(0, .ref m0), (1, .int (nI n))] := hl
  refine lv_iconst (v := 0) hx hb dX12_isInDraft_0 (by decide) ?_
  refine lv_istore_n (lv' := [(2, .int 0), (0, .ref m0), (1, .int (nI n))]) hx hb dX12_isInDraft_1 rfl hl (by decide) rfl (fun ls hl => ?_)
  refine loop_r (fun k9 ls => ∃ (k2_2 : Nat), (k2_2 ≤ n) ∧ n - k2_2 = k9 ∧ lv_has ls 3 [(2, .int (nI k2_2)), (0, .ref m0), (1, .int (nI n))]) (fun k9 ls hI2 ih2 => ?_) (n - 0) _ ⟨0, (by omega), rfl, lv_sub hl [0, 1, 2] rfl⟩
  obtain ⟨k2_2, hl2_0, hm2, hl⟩ := hI2
  refine lv_iload_n hx hb dX12_isInDraft_2 rfl (lv_at hl 0 rfl) ?_
  refine lv_iload_n hx hb dX12_isInDraft_3 rfl (lv_at hl 2 rfl) ?_
  refine lv_icmp_ge (tgt := 41) hx hb dX12_isInDraft_4 (by decide) (fun c_1 => ?_) (fun c_1 => ?_)
  · have nc_1 := cv_le (a := n) (b := k2_2) (by omega) (by omega) c_1
    refine lv_iconst (v := 0) hx hb dX12_isInDraft_41 (by decide) ?_
    exact cr_iret hx hb hr hlk rfl 0 rfl (by exact Or.inr ((rfl))) dX12_isInDraft_42
  · have nc_1 := cv_nle (a := n) (b := k2_2) (by omega) (by omega) c_1
    refine lv_aload_n hx hb dX12_isInDraft_7 rfl (lv_at hl 1 rfl) ?_
    refine va_get (D := D) (ci := 12) (v := .ref a17) (C := RX12) (T := TX12) (N := 30) hx hb hts inlX12 hown hK hP 0 rfl rfl 17 (by decide) (hts _ mw_197) (fun _ h9 => h9) rfl dX12_isInDraft_8 ?_
    refine lv_iconst (v := 4) hx hb dX12_isInDraft_11 (by decide) ?_
    refine lv_bipush (v := 13) hx hb dX12_isInDraft_12 (by decide) ?_
    refine lv_iload_n hx hb dX12_isInDraft_14 rfl (lv_at hl 2 rfl) ?_
    refine lv_imul hx hb dX12_isInDraft_15 ?_
    refine ki (v := (nI (13 * n))) (pk_mul 13 n) ?_
    refine lv_iadd hx hb dX12_isInDraft_16 ?_
    refine ki (v := (nI (4 + (13 * n)))) (nI_add 4 (13 * n)) ?_
    refine lv_aload_n hx hb dX12_isInDraft_17 rfl (lv_at hl 1 rfl) ?_
    refine va_get (D := D) (ci := 12) (v := .ref a17) (C := RX12) (T := TX12) (N := 30) hx hb hts inlX12 hown hK hP 0 rfl rfl 17 (by decide) (hts _ mw_197) (fun _ h9 => h9) rfl dX12_isInDraft_18 ?_
    refine lv_iconst (v := 4) hx hb dX12_isInDraft_21 (by decide) ?_
    refine lv_bipush (v := 13) hx hb dX12_isInDraft_22 (by decide) ?_
    refine lv_iload_n hx hb dX12_isInDraft_24 rfl (lv_at hl 0 rfl) ?_
    refine lv_imul hx hb dX12_isInDraft_25 ?_
    refine ki (v := (nI (13 * k2_2))) (pk_mul 13 k2_2) ?_
    refine lv_iadd hx hb dX12_isInDraft_26 ?_
    refine ki (v := (nI (4 + (13 * k2_2)))) (nI_add 4 (13 * k2_2)) ?_
    refine cr_S (As := [.ref a17, .int (nI (4 + (13 * n))), .ref a17, .int (nI (4 + (13 * k2_2)))]) (rest := []) hFX hKK (s_X12_areSame l D κ a17 7123 dr a17 7123 dr (4 + (13 * n)) (4 + (13 * k2_2)) 12 12 (by first | assumption | omega) (by first | assumption | omega) (by omega) (by omega) (by omega) (by omega) (h_a17 _ _ (by omega) (mNAME (t := 0) (c := n) (by omega) (by omega) (by omega))) (h_a17 _ _ (by omega) (mNAME (t := 0) (c := k2_2) (by omega) (by omega) (by omega)))) 4 gS_X12_244 hdS_X12_areSame rfl rfl ⟨Nat.le_of_ble_eq_true rfl, Nat.le_of_ble_eq_true rfl⟩ rfl rfl (Nat.le_of_ble_eq_true rfl) dX12_isInDraft_27 ⟨Nat.le_of_ble_eq_true rfl, Nat.le_of_ble_eq_true rfl⟩ hl.1 (hP.sub [1, 1] rfl) (fun r__2 hp_3 => ?_)
    replace hp_3 : ((r__2 = 1) ∨ (r__2 = 0)) := hp_3
    have ha_4 := hp_3
    clear hp_3
    rcases ha_4 with rfl | rfl
    · refine W.eq (g2 := F0 m 30 ls [.int 1]) rfl ?_
      refine lv_if_eq (tgt := 35) hx hb dX12_isInDraft_30 (by decide) (fun c_5 => absurd c_5 (by decide)) (fun c_5 => ?_)
      refine lv_iconst (v := 1) hx hb dX12_isInDraft_33 (by decide) ?_
      exact cr_iret hx hb hr hlk rfl 1 rfl (by exact Or.inl (rfl)) dX12_isInDraft_34
    · refine W.eq (g2 := F0 m 30 ls [.int 0]) rfl ?_
      refine lv_if_eq (tgt := 35) hx hb dX12_isInDraft_30 (by decide) (fun c_6 => ?_) (fun c_6 => absurd (by decide) c_6)
      refine lv_iinc (v := (nI (k2_2 + 1))) (lv' := [(2, .int (nI (k2_2 + 1))), (0, .ref m0), (1, .int (nI n))]) hx hb dX12_isInDraft_35 hl (k := 0) rfl (nI_i k2_2) (by decide) rfl (fun ls hl => ?_)
      refine lv_goto (tgt := 2) hx hb dX12_isInDraft_38 (by decide) ?_
      exact ih2 _ _ (by omega) ⟨(k2_2 + 1), (by omega), rfl, lv_sub hl [0, 1, 2] rfl⟩
set_option maxHeartbeats 4000000 in
set_option maxRecDepth 100000 in
theorem s_X12_addsColumn (l : Launch) (D : va_G) (κ : Nat → ClassId) (m0 : Nat) (a0 : Nat) (a1 : Nat) (a2 : Nat) (u3 : Nat) (f4 : Int32) (a5 : Nat) (u6 : Nat) (f7 : Int32) (f8 : Int32) (f9 : Int32) (f10 : Int32) (u11 : Nat) (u12 : Nat) (u13 : Nat) (a14 : Nat) (a15 : Nat) (a16 : Nat) (a17 : Nat) (f18 : Int32) (f19 : Int32) (a20 : Nat) (a21 : Nat) (u22 : Nat) (a23 : Nat) (a24 : Nat) (a25 : Nat) (u26 : Nat) (f27 : Int32) (a28 : Nat) (u29 : Nat) (w : Nat → Int32) (dr : Nat → Int32) (a : Nat) (co : Nat) (n : Nat) (h_a0 : Pw w) (h_a17 : Pd dr) (ht : a < 3) (hc : co < 8) (hN1 : dr 1 = nI n) (hn : n ≤ 7) : Ct l yX12_addsColumn (wl yX12_addsColumn cX12_addsColumn 5 (some .boolean)) { frames := 3, cells := 0, slots := 0, locals := 71 } D κ [.ref m0, .int (nI a), .int (nI co)] [(m0, .inr (12, [.ref a0, .ref a1, .ref a2, .int (nI u3), .int f4, .ref a5, .int (nI u6), .int f7, .int f8, .int f9, .int f10, .int (nI u11), .int (nI u12), .int (nI u13), .ref a14, .ref a15, .ref a16, .ref a17, .int f18, .int f19, .ref a20, .ref a21, .int (nI u22), .ref a23, .ref a24, .ref a25, .int (nI u26), .int f27, .ref a28, .int (nI u29)])), (a0, .inl (κ 0, 21375, .inl w)), (a17, .inl (κ 0, 7123, .inl dr))] (fun _ => True) (fun u9 : Int32 × (Nat → Int32) => some (.int u9.1)) (fun u9 : Int32 × (Nat → Int32) => Pd u9.2 ∧ ((u9.1 = 1 ∧ u9.2 1 = nI (n + 1) ∧ u9.2 2 = dr 2) ∨ (u9.1 = 0))) (fun u9 : Int32 × (Nat → Int32) => [(m0, .inr (12, [.ref a0, .ref a1, .ref a2, .int (nI u3), .int f4, .ref a5, .int (nI u6), .int f7, .int f8, .int f9, .int f10, .int (nI u11), .int (nI u12), .int (nI u13), .ref a14, .ref a15, .ref a16, .ref a17, .int f18, .int f19, .ref a20, .ref a21, .int (nI u22), .ref a23, .ref a24, .ref a25, .int (nI u26), .int f27, .ref a28, .int (nI u29)])), (a0, .inl (κ 0, 21375, .inl w)), (a17, .inl (κ 0, 7123, .inl u9.2))]) (fun _ _ => True) := by
  refine ct_of (by decide +kernel) (Nat.le_of_ble_eq_true rfl) ?_
  intro p e s m args below meth c A ls hx hb hr hml hts hown hlk hin hKK hK hA hP hD hS hI hl
  have hS : va_S A s.heap s.heap [] := hS
  have hFX : FX p s m args c cX12_addsColumn 5 RX12 := ⟨hx, hb, hml, hown, hts⟩
  have hl : lv_has ls 5 [(0, .ref m0), (1, .int (nI a)), (2, .int (nI co))] := hl
  refine lv_aload_n hx hb dX12_addsColumn_0 rfl (lv_at hl 0 rfl) ?_
  refine va_get (D := D) (ci := 12) (v := .ref a17) (C := RX12) (T := TX12) (N := 30) hx hb hts inlX12 hown hK hP 0 rfl rfl 17 (by decide) (hts _ mw_197) (fun _ h9 => h9) rfl dX12_addsColumn_1 ?_
  refine lv_iconst (v := 1) hx hb dX12_addsColumn_4 (by decide) ?_
  refine va_iald hx hb hK hP 2 0 rfl rfl (i := 1) (vp_k (by decide)) dX12_addsColumn_5 ?_
  refine kv (v := .int (nI n)) (congrArg Value.int hN1) ?_
  refine lv_istore_n (lv' := [(3, .int (nI n)), (0, .ref m0), (1, .int (nI a)), (2, .int (nI co))]) hx hb dX12_addsColumn_6 rfl hl (by decide) rfl (fun ls hl => ?_)
  refine lv_aload_n hx hb dX12_addsColumn_7 rfl (lv_at hl 1 rfl) ?_
  refine lv_iload_n hx hb dX12_addsColumn_8 rfl (lv_at hl 0 rfl) ?_
  refine lv_aload_n hx hb dX12_addsColumn_9 rfl (lv_at hl 1 rfl) ?_
  refine va_get (D := D) (ci := 12) (v := .ref a0) (C := RX12) (T := TX12) (N := 30) hx hb hts inlX12 hown hK hP 0 rfl rfl 0 (by decide) (hts _ mw_187) (fun _ h9 => h9) rfl dX12_addsColumn_10 ?_
  refine lv_iload_n hx hb dX12_addsColumn_13 rfl (lv_at hl 2 rfl) ?_
  refine lv_iload_n hx hb dX12_addsColumn_14 rfl (lv_at hl 3 rfl) ?_
  refine cr_S (As := [.int (nI a), .int (nI co)]) (rest := [.ref a0, .int (nI n), .ref m0]) hFX hKK (s_X12_nameAt l D κ a co) 2 gS_X12_318 hdS_X12_nameAt rfl rfl ⟨Nat.le_of_ble_eq_true rfl, Nat.le_of_ble_eq_true rfl⟩ rfl rfl (Nat.le_of_ble_eq_true rfl) dX12_addsColumn_15 ⟨Nat.le_of_ble_eq_true rfl, Nat.le_of_ble_eq_true rfl⟩ hl.1 (hP.sub [] rfl) (fun _ hp_1 => ?_)
  refine W.eq (g2 := F0 m 18 ls [.int (nI (7123 * a + 4 + 13 * co)), .ref a0, .int (nI n), .ref m0]) rfl ?_
  refine ct_V (wr := []) (As := [.int (nI n), .ref a0, .int (nI (7123 * a + 4 + 13 * co))]) (rest := []) hFX hKK hP hD hS hA (s_X12_names l D κ m0 a0 a1 a2 u3 f4 a5 u6 f7 f8 f9 f10 u11 u12 u13 a14 a15 a16 a17 f18 f19 a20 a21 u22 a23 a24 a25 u26 f27 a28 u29 dr n a0 21375 (7123 * a + 4 + 13 * co) w h_a17 (by first | assumption | omega) (by omega) (by omega) (h_a0 _ _ (mNAME (t := a) (c := co) (by omega) (by omega) (by omega)))) 3 gV_X12_248 hdV_X12_names ⟨Nat.le_of_ble_eq_true rfl, Nat.le_of_ble_eq_true rfl⟩ rfl rfl (Nat.le_of_ble_eq_true rfl) dX12_addsColumn_18 ⟨Nat.le_of_ble_eq_true rfl, Nat.le_of_ble_eq_true rfl⟩ hl.1 [0, 2, 1] [] rfl rfl (by decide) (by decide) (by decide) 0 12 rfl rfl rfl trivial (fun g_a17__2 H locs hp_3 _ hP hD hS hz_ hk_ => ?_)
  replace hP : va_P D vwCl [(m0, .inr (12, [.ref a0, .ref a1, .ref a2, .int (nI u3), .int f4, .ref a5, .int (nI u6), .int f7, .int f8, .int f9, .int f10, .int (nI u11), .int (nI u12), .int (nI u13), .ref a14, .ref a15, .ref a16, .ref a17, .int f18, .int f19, .ref a20, .ref a21, .int (nI u22), .ref a23, .ref a24, .ref a25, .int (nI u26), .int f27, .ref a28, .int (nI u29)])), (a0, .inl (κ 0, 21375, .inl w)), (a17, .inl (κ 0, 7123, .inl g_a17__2))] H := hP.sub [0, 2, 1] rfl
  replace hD : va_D A [(m0, .inr (12, [.ref a0, .ref a1, .ref a2, .int (nI u3), .int f4, .ref a5, .int (nI u6), .int f7, .int f8, .int f9, .int f10, .int (nI u11), .int (nI u12), .int (nI u13), .ref a14, .ref a15, .ref a16, .ref a17, .int f18, .int f19, .ref a20, .ref a21, .int (nI u22), .ref a23, .ref a24, .ref a25, .int (nI u26), .int f27, .ref a28, .int (nI u29)])), (a0, .inl (κ 0, 21375, .inl w)), (a17, .inl (κ 0, 7123, .inl g_a17__2))] := hD.sub [0, 2, 1] (by decide) rfl
  replace hp_3 : Pd g_a17__2 ∧ (∀ i : Nat, i < 4 → g_a17__2 i = dr i) := hp_3
  obtain ⟨h_4, h_5⟩ := hp_3
  refine W.eq (g2 := F0 m 21 ls []) rfl ?_
  have hq : g_a17__2 1 = nI n := (h_5 1 (by decide)).trans hN1
  have hq2 : g_a17__2 2 = dr 2 := h_5 2 (by decide)
  refine lv_aload_n hx hb dX12_addsColumn_21 rfl (lv_at hl 1 rfl) ?_
  refine lv_iload_n hx hb dX12_addsColumn_22 rfl (lv_at hl 0 rfl) ?_
  refine cr_V (As := [.int (nI n)]) (rest := []) hFX hKK (s_X12_isInDraft l D κ m0 a0 a1 a2 u3 f4 a5 u6 f7 f8 f9 f10 u11 u12 u13 a14 a15 a16 a17 f18 f19 a20 a21 u22 a23 a24 a25 u26 f27 a28 u29 g_a17__2 n h_4 (by omega)) 1 gV_X12_418 hdV_X12_isInDraft rfl rfl ⟨Nat.le_of_ble_eq_true rfl, Nat.le_of_ble_eq_true rfl⟩ rfl rfl (Nat.le_of_ble_eq_true rfl) dX12_addsColumn_23 ⟨Nat.le_of_ble_eq_true rfl, Nat.le_of_ble_eq_true rfl⟩ hl.1 hP 0 12 rfl rfl rfl (hP.sub [0, 2] rfl) (fun r__6 hp_7 => ?_)
  replace hp_7 : ((r__6 = 1) ∨ (r__6 = 0)) := hp_7
  have ha_8 := hp_7
  clear hp_7
  rcases ha_8 with rfl | rfl
  · refine W.eq (g2 := F0 m 26 ls [.int 1]) rfl ?_
    refine lv_if_eq (tgt := 94) hx hb dX12_addsColumn_26 (by decide) (fun c_9 => absurd c_9 (by decide)) (fun c_9 => ?_)
    refine lv_aload_n hx hb dX12_addsColumn_29 rfl (lv_at hl 1 rfl) ?_
    refine va_get (D := D) (ci := 12) (v := .ref a17) (C := RX12) (T := TX12) (N := 30) hx hb hts inlX12 hown hK hP 0 rfl rfl 17 (by decide) (hts _ mw_197) (fun _ h9 => h9) rfl dX12_addsColumn_30 ?_
    refine lv_iconst (v := 4) hx hb dX12_addsColumn_33 (by decide) ?_
    refine lv_bipush (v := 13) hx hb dX12_addsColumn_34 (by decide) ?_
    refine lv_iload_n hx hb dX12_addsColumn_36 rfl (lv_at hl 0 rfl) ?_
    refine lv_imul hx hb dX12_addsColumn_37 ?_
    refine ki (v := (nI (13 * n))) (pk_mul 13 n) ?_
    refine lv_iadd hx hb dX12_addsColumn_38 ?_
    refine ki (v := (nI (4 + (13 * n)))) (nI_add 4 (13 * n)) ?_
    refine va_iald hx hb hK hP 2 0 rfl rfl (i := nI (4 + (13 * n))) (vp_in_nI (n := (4 + (13 * n))) (by omega) (by omega)) dX12_addsColumn_39 ?_
    refine kv (v := .int (g_a17__2 (4 + (13 * n)))) (by rw [nI_clamp (by omega)]) ?_
    obtain ⟨n_10, hn_10, en_10⟩ : ∃ n9 : Nat, n9 ≤ 12 ∧ g_a17__2 (4 + (13 * n)) = nI n9 := id (h_4 _ _ (by omega) (mNAME (t := 0) (c := n) (by omega) (by omega) (by omega)))
    refine kv (v := .int (nI n_10)) (congrArg Value.int en_10) ?_
    refine lv_istore (lv' := [(4, .int (nI n_10)), (3, .int (nI n)), (0, .ref m0), (1, .int (nI a)), (2, .int (nI co))]) hx hb dX12_addsColumn_40 hl (by decide) rfl (fun ls hl => ?_)
    refine lv_iload hx hb dX12_addsColumn_42 (lv_at hl 0 rfl) ?_
    refine lv_bipush (v := 12) hx hb dX12_addsColumn_44 (by decide) ?_
    refine lv_icmp_ne (tgt := 51) hx hb dX12_addsColumn_46 (by decide) (fun c_11 => ?_) (fun c_11 => ?_)
    · have nc_11 := cv_ne (a := n_10) (b := 12) (by omega) (by omega) c_11
      refine lv_aload_n hx hb dX12_addsColumn_51 rfl (lv_at hl 2 rfl) ?_
      refine va_get (D := D) (ci := 12) (v := .ref a17) (C := RX12) (T := TX12) (N := 30) hx hb hts inlX12 hown hK hP 0 rfl rfl 17 (by decide) (hts _ mw_197) (fun _ h9 => h9) rfl dX12_addsColumn_52 ?_
      refine lv_iconst (v := 4) hx hb dX12_addsColumn_55 (by decide) ?_
      refine lv_bipush (v := 13) hx hb dX12_addsColumn_56 (by decide) ?_
      refine lv_iload_n hx hb dX12_addsColumn_58 rfl (lv_at hl 1 rfl) ?_
      refine lv_imul hx hb dX12_addsColumn_59 ?_
      refine ki (v := (nI (13 * n))) (pk_mul 13 n) ?_
      refine lv_iadd hx hb dX12_addsColumn_60 ?_
      refine ki (v := (nI (4 + (13 * n)))) (nI_add 4 (13 * n)) ?_
      refine lv_iconst (v := 1) hx hb dX12_addsColumn_61 (by decide) ?_
      refine lv_iadd hx hb dX12_addsColumn_62 ?_
      refine ki (v := (nI (4 + (13 * n) + 1))) (nI_add (4 + (13 * n)) 1) ?_
      refine lv_iload hx hb dX12_addsColumn_63 (lv_at hl 0 rfl) ?_
      refine lv_iadd hx hb dX12_addsColumn_65 ?_
      refine ki (v := (nI (4 + (13 * n) + 1 + n_10))) (nI_add (4 + (13 * n) + 1) n_10) ?_
      refine lv_bipush (v := 95) hx hb dX12_addsColumn_66 (by decide) ?_
      refine va_iast hx hb hK hP hD hS 2 0 rfl rfl (i := nI (4 + (13 * n) + 1 + n_10)) (x := 95) (vp_in_nI (n := (4 + (13 * n) + 1 + n_10)) (by omega) (by omega)) dX12_addsColumn_68 (fun H locs hP hD hS => ?_)
      rw [nI_clamp (by omega)] at hP hD
      have hP : va_P D vwCl [(m0, .inr (12, [.ref a0, .ref a1, .ref a2, .int (nI u3), .int f4, .ref a5, .int (nI u6), .int f7, .int f8, .int f9, .int f10, .int (nI u11), .int (nI u12), .int (nI u13), .ref a14, .ref a15, .ref a16, .ref a17, .int f18, .int f19, .ref a20, .ref a21, .int (nI u22), .ref a23, .ref a24, .ref a25, .int (nI u26), .int f27, .ref a28, .int (nI u29)])), (a0, .inl (κ 0, 21375, .inl w)), (a17, .inl (κ 0, 7123, .inl (upd g_a17__2 (4 + (13 * n) + 1 + n_10) 95)))] H := hP
      have hD : va_D A [(m0, .inr (12, [.ref a0, .ref a1, .ref a2, .int (nI u3), .int f4, .ref a5, .int (nI u6), .int f7, .int f8, .int f9, .int f10, .int (nI u11), .int (nI u12), .int (nI u13), .ref a14, .ref a15, .ref a16, .ref a17, .int f18, .int f19, .ref a20, .ref a21, .int (nI u22), .ref a23, .ref a24, .ref a25, .int (nI u26), .int f27, .ref a28, .int (nI u29)])), (a0, .inl (κ 0, 21375, .inl w)), (a17, .inl (κ 0, 7123, .inl (upd g_a17__2 (4 + (13 * n) + 1 + n_10) 95)))] := hD
      have hf_13 : Pd (upd g_a17__2 (4 + (13 * n) + 1 + n_10) 95) := (PL_free h_4 (fNAME (t := 0) (c := n) (k := 1 + n_10) (by omega) (by omega) (by omega) (by omega) (by omega)))
      have hq : (upd g_a17__2 (4 + (13 * n) + 1 + n_10) 95) 1 = nI n := ((pk_un (by omega)).trans hq)
      have hq2 : (upd g_a17__2 (4 + (13 * n) + 1 + n_10) 95) 2 = dr 2 := ((pk_un (by omega)).trans hq2)
      have hq3 : (upd g_a17__2 (4 + (13 * n) + 1 + n_10) 95) (4 + (13 * n)) = nI n_10 := ((pk_un (by omega)).trans en_10)
      generalize upd g_a17__2 (4 + (13 * n) + 1 + n_10) 95 = g_12 at hP hD hf_13 hq hq2 hq3
      refine lv_aload_n hx hb dX12_addsColumn_69 rfl (lv_at hl 2 rfl) ?_
      refine va_get (D := D) (ci := 12) (v := .ref a17) (C := RX12) (T := TX12) (N := 30) hx hb hts inlX12 hown hK hP 0 rfl rfl 17 (by decide) (hts _ mw_197) (fun _ h9 => h9) rfl dX12_addsColumn_70 ?_
      refine lv_iconst (v := 4) hx hb dX12_addsColumn_73 (by decide) ?_
      refine lv_bipush (v := 13) hx hb dX12_addsColumn_74 (by decide) ?_
      refine lv_iload_n hx hb dX12_addsColumn_76 rfl (lv_at hl 1 rfl) ?_
      refine lv_imul hx hb dX12_addsColumn_77 ?_
      refine ki (v := (nI (13 * n))) (pk_mul 13 n) ?_
      refine lv_iadd hx hb dX12_addsColumn_78 ?_
      refine ki (v := (nI (4 + (13 * n)))) (nI_add 4 (13 * n)) ?_
      refine lv_dup2_11 hx hb dX12_addsColumn_79 rfl rfl ?_
      refine va_iald hx hb hK hP 2 0 rfl rfl (i := nI (4 + (13 * n))) (vp_in_nI (n := (4 + (13 * n))) (by omega) (by omega)) dX12_addsColumn_80 ?_
      refine kv (v := .int (g_12 (4 + (13 * n)))) (by rw [nI_clamp (by omega)]) ?_
      refine kv (v := .int (nI n_10)) (congrArg Value.int hq3) ?_
      refine lv_iconst (v := 1) hx hb dX12_addsColumn_81 (by decide) ?_
      refine lv_iadd hx hb dX12_addsColumn_82 ?_
      refine ki (v := (nI (n_10 + 1))) (nI_add n_10 1) ?_
      refine va_iast hx hb hK hP hD hS 2 0 rfl rfl (i := nI (4 + (13 * n))) (x := nI (n_10 + 1)) (vp_in_nI (n := (4 + (13 * n))) (by omega) (by omega)) dX12_addsColumn_83 (fun H locs hP hD hS => ?_)
      rw [nI_clamp (by omega)] at hP hD
      have hP : va_P D vwCl [(m0, .inr (12, [.ref a0, .ref a1, .ref a2, .int (nI u3), .int f4, .ref a5, .int (nI u6), .int f7, .int f8, .int f9, .int f10, .int (nI u11), .int (nI u12), .int (nI u13), .ref a14, .ref a15, .ref a16, .ref a17, .int f18, .int f19, .ref a20, .ref a21, .int (nI u22), .ref a23, .ref a24, .ref a25, .int (nI u26), .int f27, .ref a28, .int (nI u29)])), (a0, .inl (κ 0, 21375, .inl w)), (a17, .inl (κ 0, 7123, .inl (upd g_12 (4 + (13 * n)) (nI (n_10 + 1)))))] H := hP
      have hD : va_D A [(m0, .inr (12, [.ref a0, .ref a1, .ref a2, .int (nI u3), .int f4, .ref a5, .int (nI u6), .int f7, .int f8, .int f9, .int f10, .int (nI u11), .int (nI u12), .int (nI u13), .ref a14, .ref a15, .ref a16, .ref a17, .int f18, .int f19, .ref a20, .ref a21, .int (nI u22), .ref a23, .ref a24, .ref a25, .int (nI u26), .int f27, .ref a28, .int (nI u29)])), (a0, .inl (κ 0, 21375, .inl w)), (a17, .inl (κ 0, 7123, .inl (upd g_12 (4 + (13 * n)) (nI (n_10 + 1)))))] := hD
      have hf_15 : Pd (upd g_12 (4 + (13 * n)) (nI (n_10 + 1))) := (PL_upd hf_13 (mNAME (t := 0) (c := n) (by omega) (by omega) (by omega)) ⟨n_10 + 1, by omega, rfl⟩)
      have hq : (upd g_12 (4 + (13 * n)) (nI (n_10 + 1))) 1 = nI n := ((pk_un (by omega)).trans hq)
      have hq2 : (upd g_12 (4 + (13 * n)) (nI (n_10 + 1))) 2 = dr 2 := ((pk_un (by omega)).trans hq2)
      generalize upd g_12 (4 + (13 * n)) (nI (n_10 + 1)) = g_14 at hP hD hf_15 hq hq2
      refine lv_aload_n hx hb dX12_addsColumn_84 rfl (lv_at hl 2 rfl) ?_
      refine lv_iload_n hx hb dX12_addsColumn_85 rfl (lv_at hl 1 rfl) ?_
      refine cr_V (As := [.int (nI n)]) (rest := []) hFX hKK (s_X12_isInDraft l D κ m0 a0 a1 a2 u3 f4 a5 u6 f7 f8 f9 f10 u11 u12 u13 a14 a15 a16 a17 f18 f19 a20 a21 u22 a23 a24 a25 u26 f27 a28 u29 g_14 n hf_15 (by omega)) 1 gV_X12_418 hdV_X12_isInDraft rfl rfl ⟨Nat.le_of_ble_eq_true rfl, Nat.le_of_ble_eq_true rfl⟩ rfl rfl (Nat.le_of_ble_eq_true rfl) dX12_addsColumn_86 ⟨Nat.le_of_ble_eq_true rfl, Nat.le_of_ble_eq_true rfl⟩ hl.1 hP 0 12 rfl rfl rfl (hP.sub [0, 2] rfl) (fun r__16 hp_17 => ?_)
      replace hp_17 : ((r__16 = 1) ∨ (r__16 = 0)) := hp_17
      have ha_18 := hp_17
      clear hp_17
      rcases ha_18 with rfl | rfl
      · refine W.eq (g2 := F0 m 89 ls [.int 1]) rfl ?_
        refine lv_if_eq (tgt := 94) hx hb dX12_addsColumn_89 (by decide) (fun c_19 => absurd c_19 (by decide)) (fun c_19 => ?_)
        refine lv_iconst (v := 0) hx hb dX12_addsColumn_92 (by decide) ?_
        exact ct_iret hx hb hr hlk rfl hS hP hD (0, g_14) rfl ⟨(show Pd g_14 from (by first | assumption | omega | rfl | exact Or.inl (by assumption) | exact Or.inr (by assumption))), (by exact Or.inr ((rfl)))⟩ [0, 1, 2] rfl (by decide) trivial (Nat.le_of_ble_eq_true rfl) (Nat.le_of_ble_eq_true rfl) dX12_addsColumn_93
      · refine W.eq (g2 := F0 m 89 ls [.int 0]) rfl ?_
        refine lv_if_eq (tgt := 94) hx hb dX12_addsColumn_89 (by decide) (fun c_20 => ?_) (fun c_20 => absurd (by decide) c_20)
        refine lv_aload_n hx hb dX12_addsColumn_94 rfl (lv_at hl 2 rfl) ?_
        refine va_get (D := D) (ci := 12) (v := .ref a17) (C := RX12) (T := TX12) (N := 30) hx hb hts inlX12 hown hK hP 0 rfl rfl 17 (by decide) (hts _ mw_197) (fun _ h9 => h9) rfl dX12_addsColumn_95 ?_
        refine lv_bipush (v := 108) hx hb dX12_addsColumn_98 (by decide) ?_
        refine lv_iload_n hx hb dX12_addsColumn_100 rfl (lv_at hl 1 rfl) ?_
        refine lv_iadd hx hb dX12_addsColumn_101 ?_
        refine ki (v := (nI (108 + n))) (nI_add 108 n) ?_
        refine lv_aload_n hx hb dX12_addsColumn_102 rfl (lv_at hl 2 rfl) ?_
        refine va_get (D := D) (ci := 12) (v := .ref a0) (C := RX12) (T := TX12) (N := 30) hx hb hts inlX12 hown hK hP 0 rfl rfl 0 (by decide) (hts _ mw_187) (fun _ h9 => h9) rfl dX12_addsColumn_103 ?_
        refine lv_iload_n hx hb dX12_addsColumn_106 rfl (lv_at hl 3 rfl) ?_
        refine lv_bipush (v := 108) hx hb dX12_addsColumn_107 (by decide) ?_
        refine cr_S (As := [.int (nI a), .int 108]) (rest := [.ref a0, .int (nI (108 + n)), .ref a17]) hFX hKK (s_X12_at l D κ a 108) 2 gS_X12_66 hdS_X12_at rfl rfl ⟨Nat.le_of_ble_eq_true rfl, Nat.le_of_ble_eq_true rfl⟩ rfl rfl (Nat.le_of_ble_eq_true rfl) dX12_addsColumn_109 ⟨Nat.le_of_ble_eq_true rfl, Nat.le_of_ble_eq_true rfl⟩ hl.1 (hP.sub [] rfl) (fun _ hp_21 => ?_)
        refine W.eq (g2 := F0 m 112 ls [.int (nI (7123 * a + 108)), .ref a0, .int (nI (108 + n)), .ref a17]) rfl ?_
        refine lv_iload_n hx hb dX12_addsColumn_112 rfl (lv_at hl 4 rfl) ?_
        refine lv_iadd hx hb dX12_addsColumn_113 ?_
        refine ki (v := (nI (7123 * a + 108 + co))) (nI_add (7123 * a + 108) co) ?_
        refine va_iald hx hb hK hP 1 0 rfl rfl (i := nI (7123 * a + 108 + co)) (vp_in_nI (n := (7123 * a + 108 + co)) (by omega) (by omega)) dX12_addsColumn_114 ?_
        refine kv (v := .int (w (7123 * a + 108 + co))) (by rw [nI_clamp (by omega)]) ?_
        obtain ⟨n_22, hn_22, en_22⟩ : ∃ n9 : Nat, n9 ≤ 5 ∧ w (7123 * a + 108 + co) = nI n9 := id (h_a0 _ _ (mTOLD (t := a) (c := co) (by omega) (by omega) (by omega)))
        refine kv (v := .int (nI n_22)) (congrArg Value.int en_22) ?_
        refine va_iast hx hb hK hP hD hS 2 0 rfl rfl (i := nI (108 + n)) (x := nI n_22) (vp_in_nI (n := (108 + n)) (by omega) (by omega)) dX12_addsColumn_115 (fun H locs hP hD hS => ?_)
        rw [nI_clamp (by omega)] at hP hD
        have hP : va_P D vwCl [(m0, .inr (12, [.ref a0, .ref a1, .ref a2, .int (nI u3), .int f4, .ref a5, .int (nI u6), .int f7, .int f8, .int f9, .int f10, .int (nI u11), .int (nI u12), .int (nI u13), .ref a14, .ref a15, .ref a16, .ref a17, .int f18, .int f19, .ref a20, .ref a21, .int (nI u22), .ref a23, .ref a24, .ref a25, .int (nI u26), .int f27, .ref a28, .int (nI u29)])), (a0, .inl (κ 0, 21375, .inl w)), (a17, .inl (κ 0, 7123, .inl (upd g_14 (108 + n) (nI n_22))))] H := hP
        have hD : va_D A [(m0, .inr (12, [.ref a0, .ref a1, .ref a2, .int (nI u3), .int f4, .ref a5, .int (nI u6), .int f7, .int f8, .int f9, .int f10, .int (nI u11), .int (nI u12), .int (nI u13), .ref a14, .ref a15, .ref a16, .ref a17, .int f18, .int f19, .ref a20, .ref a21, .int (nI u22), .ref a23, .ref a24, .ref a25, .int (nI u26), .int f27, .ref a28, .int (nI u29)])), (a0, .inl (κ 0, 21375, .inl w)), (a17, .inl (κ 0, 7123, .inl (upd g_14 (108 + n) (nI n_22))))] := hD
        have hf_24 : Pd (upd g_14 (108 + n) (nI n_22)) := (PL_upd hf_15 (mTOLD (t := 0) (c := n) (by omega) (by omega) (by omega)) ⟨n_22, by omega, rfl⟩)
        have hq : (upd g_14 (108 + n) (nI n_22)) 1 = nI n := ((pk_un (by omega)).trans hq)
        have hq2 : (upd g_14 (108 + n) (nI n_22)) 2 = dr 2 := ((pk_un (by omega)).trans hq2)
        generalize upd g_14 (108 + n) (nI n_22) = g_23 at hP hD hf_24 hq hq2
        refine lv_aload_n hx hb dX12_addsColumn_116 rfl (lv_at hl 2 rfl) ?_
        refine va_get (D := D) (ci := 12) (v := .ref a17) (C := RX12) (T := TX12) (N := 30) hx hb hts inlX12 hown hK hP 0 rfl rfl 17 (by decide) (hts _ mw_197) (fun _ h9 => h9) rfl dX12_addsColumn_117 ?_
        refine lv_iconst (v := 1) hx hb dX12_addsColumn_120 (by decide) ?_
        refine lv_dup2_11 hx hb dX12_addsColumn_121 rfl rfl ?_
        refine va_iald hx hb hK hP 2 0 rfl rfl (i := 1) (vp_k (by decide)) dX12_addsColumn_122 ?_
        refine kv (v := .int (nI n)) (congrArg Value.int hq) ?_
        refine lv_iconst (v := 1) hx hb dX12_addsColumn_123 (by decide) ?_
        refine lv_iadd hx hb dX12_addsColumn_124 ?_
        refine ki (v := (nI (n + 1))) (nI_add n 1) ?_
        refine va_iast hx hb hK hP hD hS 2 0 rfl rfl (i := 1) (x := nI (n + 1)) (vp_k (by decide)) dX12_addsColumn_125 (fun H locs hP hD hS => ?_)
        have hP : va_P D vwCl [(m0, .inr (12, [.ref a0, .ref a1, .ref a2, .int (nI u3), .int f4, .ref a5, .int (nI u6), .int f7, .int f8, .int f9, .int f10, .int (nI u11), .int (nI u12), .int (nI u13), .ref a14, .ref a15, .ref a16, .ref a17, .int f18, .int f19, .ref a20, .ref a21, .int (nI u22), .ref a23, .ref a24, .ref a25, .int (nI u26), .int f27, .ref a28, .int (nI u29)])), (a0, .inl (κ 0, 21375, .inl w)), (a17, .inl (κ 0, 7123, .inl (upd g_23 1 (nI (n + 1)))))] H := hP
        have hD : va_D A [(m0, .inr (12, [.ref a0, .ref a1, .ref a2, .int (nI u3), .int f4, .ref a5, .int (nI u6), .int f7, .int f8, .int f9, .int f10, .int (nI u11), .int (nI u12), .int (nI u13), .ref a14, .ref a15, .ref a16, .ref a17, .int f18, .int f19, .ref a20, .ref a21, .int (nI u22), .ref a23, .ref a24, .ref a25, .int (nI u26), .int f27, .ref a28, .int (nI u29)])), (a0, .inl (κ 0, 21375, .inl w)), (a17, .inl (κ 0, 7123, .inl (upd g_23 1 (nI (n + 1)))))] := hD
        have hf_26 : Pd (upd g_23 1 (nI (n + 1))) := (PL_upd hf_24 (mN (t := 0) (by omega) (by omega)) ⟨n + 1, by omega, rfl⟩)
        have hq1 : (upd g_23 1 (nI (n + 1))) 1 = nI (n + 1) := pk_us
        have hq2 : (upd g_23 1 (nI (n + 1))) 2 = dr 2 := ((pk_un (by omega)).trans hq2)
        generalize upd g_23 1 (nI (n + 1)) = g_25 at hP hD hf_26 hq1 hq2
        refine lv_iconst (v := 1) hx hb dX12_addsColumn_126 (by decide) ?_
        exact ct_iret hx hb hr hlk rfl hS hP hD (1, g_25) rfl ⟨(show Pd g_25 from (by first | assumption | omega | rfl | exact Or.inl (by assumption) | exact Or.inr (by assumption))), (by exact Or.inl (⟨rfl, (show g_25 1 = nI (n + 1) from (by first | assumption | omega | rfl | exact Or.inl (by assumption) | exact Or.inr (by assumption))), (show g_25 2 = dr 2 from (by first | assumption | omega | rfl | exact Or.inl (by assumption) | exact Or.inr (by assumption)))⟩))⟩ [0, 1, 2] rfl (by decide) trivial (Nat.le_of_ble_eq_true rfl) (Nat.le_of_ble_eq_true rfl) dX12_addsColumn_127
    · have nc_11 := cv_eq (a := n_10) (b := 12) (by omega) (by omega) c_11
      refine lv_iconst (v := 0) hx hb dX12_addsColumn_49 (by decide) ?_
      exact ct_iret hx hb hr hlk rfl hS hP hD (0, g_a17__2) rfl ⟨(show Pd g_a17__2 from (by first | assumption | omega | rfl | exact Or.inl (by assumption) | exact Or.inr (by assumption))), (by exact Or.inr ((rfl)))⟩ [0, 1, 2] rfl (by decide) trivial (Nat.le_of_ble_eq_true rfl) (Nat.le_of_ble_eq_true rfl) dX12_addsColumn_50
  · refine W.eq (g2 := F0 m 26 ls [.int 0]) rfl ?_
    refine lv_if_eq (tgt := 94) hx hb dX12_addsColumn_26 (by decide) (fun c_27 => ?_) (fun c_27 => absurd (by decide) c_27)
    refine lv_aload_n hx hb dX12_addsColumn_94 rfl (lv_at hl 1 rfl) ?_
    refine va_get (D := D) (ci := 12) (v := .ref a17) (C := RX12) (T := TX12) (N := 30) hx hb hts inlX12 hown hK hP 0 rfl rfl 17 (by decide) (hts _ mw_197) (fun _ h9 => h9) rfl dX12_addsColumn_95 ?_
    refine lv_bipush (v := 108) hx hb dX12_addsColumn_98 (by decide) ?_
    refine lv_iload_n hx hb dX12_addsColumn_100 rfl (lv_at hl 0 rfl) ?_
    refine lv_iadd hx hb dX12_addsColumn_101 ?_
    refine ki (v := (nI (108 + n))) (nI_add 108 n) ?_
    refine lv_aload_n hx hb dX12_addsColumn_102 rfl (lv_at hl 1 rfl) ?_
    refine va_get (D := D) (ci := 12) (v := .ref a0) (C := RX12) (T := TX12) (N := 30) hx hb hts inlX12 hown hK hP 0 rfl rfl 0 (by decide) (hts _ mw_187) (fun _ h9 => h9) rfl dX12_addsColumn_103 ?_
    refine lv_iload_n hx hb dX12_addsColumn_106 rfl (lv_at hl 2 rfl) ?_
    refine lv_bipush (v := 108) hx hb dX12_addsColumn_107 (by decide) ?_
    refine cr_S (As := [.int (nI a), .int 108]) (rest := [.ref a0, .int (nI (108 + n)), .ref a17]) hFX hKK (s_X12_at l D κ a 108) 2 gS_X12_66 hdS_X12_at rfl rfl ⟨Nat.le_of_ble_eq_true rfl, Nat.le_of_ble_eq_true rfl⟩ rfl rfl (Nat.le_of_ble_eq_true rfl) dX12_addsColumn_109 ⟨Nat.le_of_ble_eq_true rfl, Nat.le_of_ble_eq_true rfl⟩ hl.1 (hP.sub [] rfl) (fun _ hp_28 => ?_)
    refine W.eq (g2 := F0 m 112 ls [.int (nI (7123 * a + 108)), .ref a0, .int (nI (108 + n)), .ref a17]) rfl ?_
    refine lv_iload_n hx hb dX12_addsColumn_112 rfl (lv_at hl 3 rfl) ?_
    refine lv_iadd hx hb dX12_addsColumn_113 ?_
    refine ki (v := (nI (7123 * a + 108 + co))) (nI_add (7123 * a + 108) co) ?_
    refine va_iald hx hb hK hP 1 0 rfl rfl (i := nI (7123 * a + 108 + co)) (vp_in_nI (n := (7123 * a + 108 + co)) (by omega) (by omega)) dX12_addsColumn_114 ?_
    refine kv (v := .int (w (7123 * a + 108 + co))) (by rw [nI_clamp (by omega)]) ?_
    obtain ⟨n_29, hn_29, en_29⟩ : ∃ n9 : Nat, n9 ≤ 5 ∧ w (7123 * a + 108 + co) = nI n9 := id (h_a0 _ _ (mTOLD (t := a) (c := co) (by omega) (by omega) (by omega)))
    refine kv (v := .int (nI n_29)) (congrArg Value.int en_29) ?_
    refine va_iast hx hb hK hP hD hS 2 0 rfl rfl (i := nI (108 + n)) (x := nI n_29) (vp_in_nI (n := (108 + n)) (by omega) (by omega)) dX12_addsColumn_115 (fun H locs hP hD hS => ?_)
    rw [nI_clamp (by omega)] at hP hD
    have hP : va_P D vwCl [(m0, .inr (12, [.ref a0, .ref a1, .ref a2, .int (nI u3), .int f4, .ref a5, .int (nI u6), .int f7, .int f8, .int f9, .int f10, .int (nI u11), .int (nI u12), .int (nI u13), .ref a14, .ref a15, .ref a16, .ref a17, .int f18, .int f19, .ref a20, .ref a21, .int (nI u22), .ref a23, .ref a24, .ref a25, .int (nI u26), .int f27, .ref a28, .int (nI u29)])), (a0, .inl (κ 0, 21375, .inl w)), (a17, .inl (κ 0, 7123, .inl (upd g_a17__2 (108 + n) (nI n_29))))] H := hP
    have hD : va_D A [(m0, .inr (12, [.ref a0, .ref a1, .ref a2, .int (nI u3), .int f4, .ref a5, .int (nI u6), .int f7, .int f8, .int f9, .int f10, .int (nI u11), .int (nI u12), .int (nI u13), .ref a14, .ref a15, .ref a16, .ref a17, .int f18, .int f19, .ref a20, .ref a21, .int (nI u22), .ref a23, .ref a24, .ref a25, .int (nI u26), .int f27, .ref a28, .int (nI u29)])), (a0, .inl (κ 0, 21375, .inl w)), (a17, .inl (κ 0, 7123, .inl (upd g_a17__2 (108 + n) (nI n_29))))] := hD
    have hf_31 : Pd (upd g_a17__2 (108 + n) (nI n_29)) := (PL_upd h_4 (mTOLD (t := 0) (c := n) (by omega) (by omega) (by omega)) ⟨n_29, by omega, rfl⟩)
    have hq : (upd g_a17__2 (108 + n) (nI n_29)) 1 = nI n := ((pk_un (by omega)).trans hq)
    have hq2 : (upd g_a17__2 (108 + n) (nI n_29)) 2 = dr 2 := ((pk_un (by omega)).trans hq2)
    generalize upd g_a17__2 (108 + n) (nI n_29) = g_30 at hP hD hf_31 hq hq2
    refine lv_aload_n hx hb dX12_addsColumn_116 rfl (lv_at hl 1 rfl) ?_
    refine va_get (D := D) (ci := 12) (v := .ref a17) (C := RX12) (T := TX12) (N := 30) hx hb hts inlX12 hown hK hP 0 rfl rfl 17 (by decide) (hts _ mw_197) (fun _ h9 => h9) rfl dX12_addsColumn_117 ?_
    refine lv_iconst (v := 1) hx hb dX12_addsColumn_120 (by decide) ?_
    refine lv_dup2_11 hx hb dX12_addsColumn_121 rfl rfl ?_
    refine va_iald hx hb hK hP 2 0 rfl rfl (i := 1) (vp_k (by decide)) dX12_addsColumn_122 ?_
    refine kv (v := .int (nI n)) (congrArg Value.int hq) ?_
    refine lv_iconst (v := 1) hx hb dX12_addsColumn_123 (by decide) ?_
    refine lv_iadd hx hb dX12_addsColumn_124 ?_
    refine ki (v := (nI (n + 1))) (nI_add n 1) ?_
    refine va_iast hx hb hK hP hD hS 2 0 rfl rfl (i := 1) (x := nI (n + 1)) (vp_k (by decide)) dX12_addsColumn_125 (fun H locs hP hD hS => ?_)
    have hP : va_P D vwCl [(m0, .inr (12, [.ref a0, .ref a1, .ref a2, .int (nI u3), .int f4, .ref a5, .int (nI u6), .int f7, .int f8, .int f9, .int f10, .int (nI u11), .int (nI u12), .int (nI u13), .ref a14, .ref a15, .ref a16, .ref a17, .int f18, .int f19, .ref a20, .ref a21, .int (nI u22), .ref a23, .ref a24, .ref a25, .int (nI u26), .int f27, .ref a28, .int (nI u29)])), (a0, .inl (κ 0, 21375, .inl w)), (a17, .inl (κ 0, 7123, .inl (upd g_30 1 (nI (n + 1)))))] H := hP
    have hD : va_D A [(m0, .inr (12, [.ref a0, .ref a1, .ref a2, .int (nI u3), .int f4, .ref a5, .int (nI u6), .int f7, .int f8, .int f9, .int f10, .int (nI u11), .int (nI u12), .int (nI u13), .ref a14, .ref a15, .ref a16, .ref a17, .int f18, .int f19, .ref a20, .ref a21, .int (nI u22), .ref a23, .ref a24, .ref a25, .int (nI u26), .int f27, .ref a28, .int (nI u29)])), (a0, .inl (κ 0, 21375, .inl w)), (a17, .inl (κ 0, 7123, .inl (upd g_30 1 (nI (n + 1)))))] := hD
    have hf_33 : Pd (upd g_30 1 (nI (n + 1))) := (PL_upd hf_31 (mN (t := 0) (by omega) (by omega)) ⟨n + 1, by omega, rfl⟩)
    have hq1 : (upd g_30 1 (nI (n + 1))) 1 = nI (n + 1) := pk_us
    have hq2 : (upd g_30 1 (nI (n + 1))) 2 = dr 2 := ((pk_un (by omega)).trans hq2)
    generalize upd g_30 1 (nI (n + 1)) = g_32 at hP hD hf_33 hq1 hq2
    refine lv_iconst (v := 1) hx hb dX12_addsColumn_126 (by decide) ?_
    exact ct_iret hx hb hr hlk rfl hS hP hD (1, g_32) rfl ⟨(show Pd g_32 from (by first | assumption | omega | rfl | exact Or.inl (by assumption) | exact Or.inr (by assumption))), (by exact Or.inl (⟨rfl, (show g_32 1 = nI (n + 1) from (by first | assumption | omega | rfl | exact Or.inl (by assumption) | exact Or.inr (by assumption))), (show g_32 2 = dr 2 from (by first | assumption | omega | rfl | exact Or.inl (by assumption) | exact Or.inr (by assumption)))⟩))⟩ [0, 1, 2] rfl (by decide) trivial (Nat.le_of_ble_eq_true rfl) (Nat.le_of_ble_eq_true rfl) dX12_addsColumn_127
set_option maxHeartbeats 4000000 in
set_option maxRecDepth 100000 in
theorem s_X12_addsRow (l : Launch) (D : va_G) (κ : Nat → ClassId) (m0 : Nat) (a0 : Nat) (a1 : Nat) (a2 : Nat) (u3 : Nat) (f4 : Int32) (a5 : Nat) (u6 : Nat) (f7 : Int32) (f8 : Int32) (f9 : Int32) (f10 : Int32) (u11 : Nat) (u12 : Nat) (u13 : Nat) (a14 : Nat) (a15 : Nat) (a16 : Nat) (a17 : Nat) (f18 : Int32) (f19 : Int32) (a20 : Nat) (a21 : Nat) (u22 : Nat) (a23 : Nat) (a24 : Nat) (a25 : Nat) (u26 : Nat) (f27 : Int32) (a28 : Nat) (u29 : Nat) (w : Nat → Int32) (dr : Nat → Int32) (a : Nat) (b : Nat) (d : Nat) (o9 : Nat) (k : Nat) (mm : Nat) (na : Nat) (nd : Nat) (h_a0 : Pw w) (h_a17 : Pd dr) (ht : a < 3) (hr9 : b < 40) (hd : d < 3) (he : o9 < 40) (hk : k < nd) (hm : dr 2 = nI mm) (hm2 : mm ≤ 39) (hna : w (7123 * a + 1) = nI na) (hnd : w (7123 * d + 1) = nI nd) (hn1 : na ≤ 8) (hn2 : nd ≤ 8) (hn3 : na + nd ≤ 9) : Ct l yX12_addsRow (wl yX12_addsRow cX12_addsRow 9 none) { frames := 1, cells := 0, slots := 0, locals := 22 } D κ [.ref m0, .int (nI a), .int (nI b), .int (nI d), .int (nI o9), .int (nI k)] [(m0, .inr (12, [.ref a0, .ref a1, .ref a2, .int (nI u3), .int f4, .ref a5, .int (nI u6), .int f7, .int f8, .int f9, .int f10, .int (nI u11), .int (nI u12), .int (nI u13), .ref a14, .ref a15, .ref a16, .ref a17, .int f18, .int f19, .ref a20, .ref a21, .int (nI u22), .ref a23, .ref a24, .ref a25, .int (nI u26), .int f27, .ref a28, .int (nI u29)])), (a0, .inl (κ 0, 21375, .inl w)), (a17, .inl (κ 0, 7123, .inl dr))] (fun _ => True) (fun g_a17 : (Nat → Int32) => none) (fun g_a17 : (Nat → Int32) => Pd g_a17 ∧ g_a17 1 = dr 1 ∧ g_a17 2 = nI (mm + 1)) (fun g_a17 : (Nat → Int32) => [(m0, .inr (12, [.ref a0, .ref a1, .ref a2, .int (nI u3), .int f4, .ref a5, .int (nI u6), .int f7, .int f8, .int f9, .int f10, .int (nI u11), .int (nI u12), .int (nI u13), .ref a14, .ref a15, .ref a16, .ref a17, .int f18, .int f19, .ref a20, .ref a21, .int (nI u22), .ref a23, .ref a24, .ref a25, .int (nI u26), .int f27, .ref a28, .int (nI u29)])), (a0, .inl (κ 0, 21375, .inl w)), (a17, .inl (κ 0, 7123, .inl g_a17))]) (fun _ _ => True) := by
  refine ct_of (by decide +kernel) (Nat.le_of_ble_eq_true rfl) ?_
  intro p e s m args below meth c A ls hx hb hr hml hts hown hlk hin hKK hK hA hP hD hS hI hl
  have hS : va_S A s.heap s.heap [] := hS
  have hFX : FX p s m args c cX12_addsRow 9 RX12 := ⟨hx, hb, hml, hown, hts⟩
  have hl : lv_has ls 9 [(0, .ref m0), (1, .int (nI a)), (2, .int (nI b)), (3, .int (nI d)), (4, .int (nI o9)), (5, .int (nI k))] := hl
  refine lv_sipush (v := 403) hx hb dX12_addsRow_0 (by decide) ?_
  refine lv_sipush (v := 168) hx hb dX12_addsRow_3 (by decide) ?_
  refine lv_aload_n hx hb dX12_addsRow_6 rfl (lv_at hl 0 rfl) ?_
  refine va_get (D := D) (ci := 12) (v := .ref a17) (C := RX12) (T := TX12) (N := 30) hx hb hts inlX12 hown hK hP 0 rfl rfl 17 (by decide) (hts _ mw_197) (fun _ h9 => h9) rfl dX12_addsRow_7 ?_
  refine lv_iconst (v := 2) hx hb dX12_addsRow_10 (by decide) ?_
  refine va_iald hx hb hK hP 2 0 rfl rfl (i := 2) (vp_k (by decide)) dX12_addsRow_11 ?_
  refine kv (v := .int (nI mm)) (congrArg Value.int hm) ?_
  refine lv_imul hx hb dX12_addsRow_12 ?_
  refine ki (v := (nI (168 * mm))) (pk_mul 168 mm) ?_
  refine lv_iadd hx hb dX12_addsRow_13 ?_
  refine ki (v := (nI (403 + (168 * mm)))) (nI_add 403 (168 * mm)) ?_
  refine lv_istore (lv' := [(6, .int (nI (403 + (168 * mm)))), (0, .ref m0), (1, .int (nI a)), (2, .int (nI b)), (3, .int (nI d)), (4, .int (nI o9)), (5, .int (nI k))]) hx hb dX12_addsRow_14 hl (by decide) rfl (fun ls hl => ?_)
  refine lv_iconst (v := 0) hx hb dX12_addsRow_16 (by decide) ?_
  refine lv_istore (lv' := [(7, .int 0), (6, .int (nI (403 + (168 * mm)))), (0, .ref m0), (1, .int (nI a)), (2, .int (nI b)), (3, .int (nI d)), (4, .int (nI o9)), (5, .int (nI k))]) hx hb dX12_addsRow_17 hl (by decide) rfl (fun ls hl => ?_)
  refine loop_dn (fun k9 H locs ls => ∃ (k7_19 : Nat), ∃ (k6_19 : Nat), ∃ (ga17_19 : Nat → Int32), (k7_19 ≤ na) ∧ (k6_19 = 403 + 168 * mm + 21 * k7_19) ∧ (ga17_19 2 = nI mm) ∧ (ga17_19 1 = dr 1) ∧ Pd ga17_19 ∧ na - k7_19 = k9 ∧ va_P D vwCl [(m0, .inr (12, [.ref a0, .ref a1, .ref a2, .int (nI u3), .int f4, .ref a5, .int (nI u6), .int f7, .int f8, .int f9, .int f10, .int (nI u11), .int (nI u12), .int (nI u13), .ref a14, .ref a15, .ref a16, .ref a17, .int f18, .int f19, .ref a20, .ref a21, .int (nI u22), .ref a23, .ref a24, .ref a25, .int (nI u26), .int f27, .ref a28, .int (nI u29)])), (a0, .inl (κ 0, 21375, .inl w)), (a17, .inl (κ 0, 7123, .inl ga17_19))] H ∧ va_D A [(m0, .inr (12, [.ref a0, .ref a1, .ref a2, .int (nI u3), .int f4, .ref a5, .int (nI u6), .int f7, .int f8, .int f9, .int f10, .int (nI u11), .int (nI u12), .int (nI u13), .ref a14, .ref a15, .ref a16, .ref a17, .int f18, .int f19, .ref a20, .ref a21, .int (nI u22), .ref a23, .ref a24, .ref a25, .int (nI u26), .int f27, .ref a28, .int (nI u29)])), (a0, .inl (κ 0, 21375, .inl w)), (a17, .inl (κ 0, 7123, .inl ga17_19))] ∧ va_S A s.heap H locs ∧ lv_has ls 9 [(7, .int (nI k7_19)), (6, .int (nI k6_19)), (0, .ref m0), (1, .int (nI a)), (2, .int (nI b)), (3, .int (nI d)), (4, .int (nI o9)), (5, .int (nI k))]) (fun k9 H locs ls hI19 ih19 => ?_) (na - 0) _ _ _ ⟨0, (403 + (168 * mm)), dr, (by omega), (by omega), hm, rfl, h_a17, rfl, hP, hD, hS, lv_sub hl [0, 1, 2, 3, 4, 5, 6, 7] rfl⟩
  obtain ⟨k7_19, k6_19, ga17_19, hl19_0, hl19_1, hl19_2, hl19_3, hg19_0, hm19, hP, hD, hS, hl⟩ := hI19
  refine lv_iload hx hb dX12_addsRow_19 (lv_at hl 0 rfl) ?_
  refine lv_aload_n hx hb dX12_addsRow_21 rfl (lv_at hl 2 rfl) ?_
  refine va_get (D := D) (ci := 12) (v := .ref a0) (C := RX12) (T := TX12) (N := 30) hx hb hts inlX12 hown hK hP 0 rfl rfl 0 (by decide) (hts _ mw_187) (fun _ h9 => h9) rfl dX12_addsRow_22 ?_
  refine lv_iload_n hx hb dX12_addsRow_25 rfl (lv_at hl 3 rfl) ?_
  refine lv_iconst (v := 1) hx hb dX12_addsRow_26 (by decide) ?_
  refine cr_S (As := [.int (nI a), .int 1]) (rest := [.ref a0, .int (nI k7_19)]) hFX hKK (s_X12_at l D κ a 1) 2 gS_X12_66 hdS_X12_at rfl rfl ⟨Nat.le_of_ble_eq_true rfl, Nat.le_of_ble_eq_true rfl⟩ rfl rfl (Nat.le_of_ble_eq_true rfl) dX12_addsRow_27 ⟨Nat.le_of_ble_eq_true rfl, Nat.le_of_ble_eq_true rfl⟩ hl.1 (hP.sub [] rfl) (fun _ hp_1 => ?_)
  refine W.eq (g2 := F0 m 30 ls [.int (nI (7123 * a + 1)), .ref a0, .int (nI k7_19)]) rfl ?_
  refine va_iald hx hb hK hP 1 0 rfl rfl (i := nI (7123 * a + 1)) (vp_in_nI (n := (7123 * a + 1)) (by omega) (by omega)) dX12_addsRow_30 ?_
  refine kv (v := .int (w (7123 * a + 1))) (by rw [nI_clamp (by omega)]) ?_
  refine kv (v := .int (nI na)) (congrArg Value.int hna) ?_
  refine lv_icmp_ge (tgt := 84) hx hb dX12_addsRow_31 (by decide) (fun c_2 => ?_) (fun c_2 => ?_)
  · have nc_2 := cv_le (a := na) (b := k7_19) (by omega) (by omega) c_2
    refine lv_iconst (v := 0) hx hb dX12_addsRow_84 (by decide) ?_
    refine lv_istore (lv' := [(7, .int 0), (6, .int (nI k6_19)), (0, .ref m0), (1, .int (nI a)), (2, .int (nI b)), (3, .int (nI d)), (4, .int (nI o9)), (5, .int (nI k))]) hx hb dX12_addsRow_85 hl (by decide) rfl (fun ls hl => ?_)
    refine loop_dn (fun k9 H locs ls => ∃ (k7_87 : Nat), ∃ (k6_87 : Nat), ∃ (ga17_87 : Nat → Int32), (k7_87 ≤ nd) ∧ ((k7_87 ≤ k ∧ k6_87 = 403 + 168 * mm + 21 * (na + k7_87)) ∨ (k < k7_87 ∧ k6_87 + 21 = 403 + 168 * mm + 21 * (na + k7_87))) ∧ (ga17_87 2 = nI mm) ∧ (ga17_87 1 = dr 1) ∧ Pd ga17_87 ∧ nd - k7_87 = k9 ∧ va_P D vwCl [(m0, .inr (12, [.ref a0, .ref a1, .ref a2, .int (nI u3), .int f4, .ref a5, .int (nI u6), .int f7, .int f8, .int f9, .int f10, .int (nI u11), .int (nI u12), .int (nI u13), .ref a14, .ref a15, .ref a16, .ref a17, .int f18, .int f19, .ref a20, .ref a21, .int (nI u22), .ref a23, .ref a24, .ref a25, .int (nI u26), .int f27, .ref a28, .int (nI u29)])), (a0, .inl (κ 0, 21375, .inl w)), (a17, .inl (κ 0, 7123, .inl ga17_87))] H ∧ va_D A [(m0, .inr (12, [.ref a0, .ref a1, .ref a2, .int (nI u3), .int f4, .ref a5, .int (nI u6), .int f7, .int f8, .int f9, .int f10, .int (nI u11), .int (nI u12), .int (nI u13), .ref a14, .ref a15, .ref a16, .ref a17, .int f18, .int f19, .ref a20, .ref a21, .int (nI u22), .ref a23, .ref a24, .ref a25, .int (nI u26), .int f27, .ref a28, .int (nI u29)])), (a0, .inl (κ 0, 21375, .inl w)), (a17, .inl (κ 0, 7123, .inl ga17_87))] ∧ va_S A s.heap H locs ∧ lv_has ls 9 [(7, .int (nI k7_87)), (6, .int (nI k6_87)), (0, .ref m0), (1, .int (nI a)), (2, .int (nI b)), (3, .int (nI d)), (4, .int (nI o9)), (5, .int (nI k))]) (fun k9 H locs ls hI87 ih87 => ?_) (nd - 0) _ _ _ ⟨0, k6_19, ga17_19, (by omega), (by omega), hl19_2, hl19_3, hg19_0, rfl, hP, hD, hS, lv_sub hl [0, 1, 2, 3, 4, 5, 6, 7] rfl⟩
    obtain ⟨k7_87, k6_87, ga17_87, hl87_0, hl87_1, hl87_2, hl87_3, hg87_0, hm87, hP, hD, hS, hl⟩ := hI87
    refine lv_iload hx hb dX12_addsRow_87 (lv_at hl 0 rfl) ?_
    refine lv_aload_n hx hb dX12_addsRow_89 rfl (lv_at hl 2 rfl) ?_
    refine va_get (D := D) (ci := 12) (v := .ref a0) (C := RX12) (T := TX12) (N := 30) hx hb hts inlX12 hown hK hP 0 rfl rfl 0 (by decide) (hts _ mw_187) (fun _ h9 => h9) rfl dX12_addsRow_90 ?_
    refine lv_iload_n hx hb dX12_addsRow_93 rfl (lv_at hl 5 rfl) ?_
    refine lv_iconst (v := 1) hx hb dX12_addsRow_94 (by decide) ?_
    refine cr_S (As := [.int (nI d), .int 1]) (rest := [.ref a0, .int (nI k7_87)]) hFX hKK (s_X12_at l D κ d 1) 2 gS_X12_66 hdS_X12_at rfl rfl ⟨Nat.le_of_ble_eq_true rfl, Nat.le_of_ble_eq_true rfl⟩ rfl rfl (Nat.le_of_ble_eq_true rfl) dX12_addsRow_95 ⟨Nat.le_of_ble_eq_true rfl, Nat.le_of_ble_eq_true rfl⟩ hl.1 (hP.sub [] rfl) (fun _ hp_3 => ?_)
    refine W.eq (g2 := F0 m 98 ls [.int (nI (7123 * d + 1)), .ref a0, .int (nI k7_87)]) rfl ?_
    refine va_iald hx hb hK hP 1 0 rfl rfl (i := nI (7123 * d + 1)) (vp_in_nI (n := (7123 * d + 1)) (by omega) (by omega)) dX12_addsRow_98 ?_
    refine kv (v := .int (w (7123 * d + 1))) (by rw [nI_clamp (by omega)]) ?_
    refine kv (v := .int (nI nd)) (congrArg Value.int hnd) ?_
    refine lv_icmp_ge (tgt := 163) hx hb dX12_addsRow_99 (by decide) (fun c_4 => ?_) (fun c_4 => ?_)
    · have nc_4 := cv_le (a := nd) (b := k7_87) (by omega) (by omega) c_4
      refine lv_aload_n hx hb dX12_addsRow_163 rfl (lv_at hl 2 rfl) ?_
      refine va_get (D := D) (ci := 12) (v := .ref a17) (C := RX12) (T := TX12) (N := 30) hx hb hts inlX12 hown hK hP 0 rfl rfl 17 (by decide) (hts _ mw_197) (fun _ h9 => h9) rfl dX12_addsRow_164 ?_
      refine lv_iconst (v := 2) hx hb dX12_addsRow_167 (by decide) ?_
      refine lv_dup2_11 hx hb dX12_addsRow_168 rfl rfl ?_
      refine va_iald hx hb hK hP 2 0 rfl rfl (i := 2) (vp_k (by decide)) dX12_addsRow_169 ?_
      refine kv (v := .int (nI mm)) (congrArg Value.int hl87_2) ?_
      refine lv_iconst (v := 1) hx hb dX12_addsRow_170 (by decide) ?_
      refine lv_iadd hx hb dX12_addsRow_171 ?_
      refine ki (v := (nI (mm + 1))) (nI_add mm 1) ?_
      refine va_iast hx hb hK hP hD hS 2 0 rfl rfl (i := 2) (x := nI (mm + 1)) (vp_k (by decide)) dX12_addsRow_172 (fun H locs hP hD hS => ?_)
      have hP : va_P D vwCl [(m0, .inr (12, [.ref a0, .ref a1, .ref a2, .int (nI u3), .int f4, .ref a5, .int (nI u6), .int f7, .int f8, .int f9, .int f10, .int (nI u11), .int (nI u12), .int (nI u13), .ref a14, .ref a15, .ref a16, .ref a17, .int f18, .int f19, .ref a20, .ref a21, .int (nI u22), .ref a23, .ref a24, .ref a25, .int (nI u26), .int f27, .ref a28, .int (nI u29)])), (a0, .inl (κ 0, 21375, .inl w)), (a17, .inl (κ 0, 7123, .inl (upd ga17_87 2 (nI (mm + 1)))))] H := hP
      have hD : va_D A [(m0, .inr (12, [.ref a0, .ref a1, .ref a2, .int (nI u3), .int f4, .ref a5, .int (nI u6), .int f7, .int f8, .int f9, .int f10, .int (nI u11), .int (nI u12), .int (nI u13), .ref a14, .ref a15, .ref a16, .ref a17, .int f18, .int f19, .ref a20, .ref a21, .int (nI u22), .ref a23, .ref a24, .ref a25, .int (nI u26), .int f27, .ref a28, .int (nI u29)])), (a0, .inl (κ 0, 21375, .inl w)), (a17, .inl (κ 0, 7123, .inl (upd ga17_87 2 (nI (mm + 1)))))] := hD
      have hf_6 : Pd (upd ga17_87 2 (nI (mm + 1))) := (PL_upd hg87_0 (mMANY (t := 0) (by omega) (by omega)) ⟨mm + 1, by omega, rfl⟩)
      have hq1 : (upd ga17_87 2 (nI (mm + 1))) 1 = dr 1 := ((pk_un (by omega)).trans hl87_3)
      have hq3 : (upd ga17_87 2 (nI (mm + 1))) 2 = nI (mm + 1) := pk_us
      generalize upd ga17_87 2 (nI (mm + 1)) = g_5 at hP hD hf_6 hq1 hq3
      exact ct_vret hx hb hr hlk hS hP hD g_5 rfl ⟨(show Pd g_5 from (by first | assumption | omega | rfl | exact Or.inl (by assumption) | exact Or.inr (by assumption))), (show g_5 1 = dr 1 from (by first | assumption | omega | rfl | exact Or.inl (by assumption) | exact Or.inr (by assumption))), (show g_5 2 = nI (mm + 1) from (by first | assumption | omega | rfl | exact Or.inl (by assumption) | exact Or.inr (by assumption)))⟩ [0, 1, 2] rfl (by decide) trivial (Nat.le_of_ble_eq_true rfl) (Nat.le_of_ble_eq_true rfl) dX12_addsRow_173
    · have nc_4 := cv_nle (a := nd) (b := k7_87) (by omega) (by omega) c_4
      refine lv_iload hx hb dX12_addsRow_102 (lv_at hl 0 rfl) ?_
      refine lv_iload hx hb dX12_addsRow_104 (lv_at hl 7 rfl) ?_
      refine lv_icmp_ne (tgt := 112) hx hb dX12_addsRow_106 (by decide) (fun c_7 => ?_) (fun c_7 => ?_)
      · have nc_7 := cv_ne (a := k7_87) (b := k) (by omega) (by omega) c_7
        refine lv_iconst (v := 0) hx hb dX12_addsRow_112 (by decide) ?_
        refine lv_istore (lv' := [(8, .int 0), (7, .int (nI k7_87)), (6, .int (nI k6_87)), (0, .ref m0), (1, .int (nI a)), (2, .int (nI b)), (3, .int (nI d)), (4, .int (nI o9)), (5, .int (nI k))]) hx hb dX12_addsRow_113 hl (by decide) rfl (fun ls hl => ?_)
        refine loop_dn (fun k9 H locs ls => ∃ (k8_115 : Nat), ∃ (ga17_115 : Nat → Int32), (k8_115 ≤ 21) ∧ (ga17_115 2 = nI mm) ∧ (ga17_115 1 = dr 1) ∧ Pd ga17_115 ∧ 21 - k8_115 = k9 ∧ va_P D vwCl [(m0, .inr (12, [.ref a0, .ref a1, .ref a2, .int (nI u3), .int f4, .ref a5, .int (nI u6), .int f7, .int f8, .int f9, .int f10, .int (nI u11), .int (nI u12), .int (nI u13), .ref a14, .ref a15, .ref a16, .ref a17, .int f18, .int f19, .ref a20, .ref a21, .int (nI u22), .ref a23, .ref a24, .ref a25, .int (nI u26), .int f27, .ref a28, .int (nI u29)])), (a0, .inl (κ 0, 21375, .inl w)), (a17, .inl (κ 0, 7123, .inl ga17_115))] H ∧ va_D A [(m0, .inr (12, [.ref a0, .ref a1, .ref a2, .int (nI u3), .int f4, .ref a5, .int (nI u6), .int f7, .int f8, .int f9, .int f10, .int (nI u11), .int (nI u12), .int (nI u13), .ref a14, .ref a15, .ref a16, .ref a17, .int f18, .int f19, .ref a20, .ref a21, .int (nI u22), .ref a23, .ref a24, .ref a25, .int (nI u26), .int f27, .ref a28, .int (nI u29)])), (a0, .inl (κ 0, 21375, .inl w)), (a17, .inl (κ 0, 7123, .inl ga17_115))] ∧ va_S A s.heap H locs ∧ lv_has ls 9 [(8, .int (nI k8_115)), (7, .int (nI k7_87)), (6, .int (nI k6_87)), (0, .ref m0), (1, .int (nI a)), (2, .int (nI b)), (3, .int (nI d)), (4, .int (nI o9)), (5, .int (nI k))]) (fun k9 H locs ls hI115 ih115 => ?_) (21 - 0) _ _ _ ⟨0, ga17_87, (by omega), hl87_2, hl87_3, hg87_0, rfl, hP, hD, hS, lv_sub hl [0, 1, 2, 3, 4, 5, 6, 7, 8] rfl⟩
        obtain ⟨k8_115, ga17_115, hl115_0, hl115_1, hl115_2, hg115_0, hm115, hP, hD, hS, hl⟩ := hI115
        refine lv_iload hx hb dX12_addsRow_115 (lv_at hl 0 rfl) ?_
        refine lv_bipush (v := 21) hx hb dX12_addsRow_117 (by decide) ?_
        refine lv_icmp_ge (tgt := 154) hx hb dX12_addsRow_119 (by decide) (fun c_8 => ?_) (fun c_8 => ?_)
        · have nc_8 := cv_le (a := 21) (b := k8_115) (by omega) (by omega) c_8
          refine lv_iinc (v := (nI (k6_87 + 21))) (lv' := [(6, .int (nI (k6_87 + 21))), (8, .int (nI k8_115)), (7, .int (nI k7_87)), (0, .ref m0), (1, .int (nI a)), (2, .int (nI b)), (3, .int (nI d)), (4, .int (nI o9)), (5, .int (nI k))]) hx hb dX12_addsRow_154 hl (k := 2) rfl (nI_add k6_87 21) (by decide) rfl (fun ls hl => ?_)
          refine lv_iinc (v := (nI (k7_87 + 1))) (lv' := [(7, .int (nI (k7_87 + 1))), (6, .int (nI (k6_87 + 21))), (8, .int (nI k8_115)), (0, .ref m0), (1, .int (nI a)), (2, .int (nI b)), (3, .int (nI d)), (4, .int (nI o9)), (5, .int (nI k))]) hx hb dX12_addsRow_157 hl (k := 2) rfl (nI_i k7_87) (by decide) rfl (fun ls hl => ?_)
          refine lv_goto (tgt := 87) hx hb dX12_addsRow_160 (by decide) ?_
          exact ih87 _ _ _ _ (by omega) ⟨(k7_87 + 1), (k6_87 + 21), ga17_115, (by omega), (by omega), hl115_1, hl115_2, hg115_0, rfl, hP, hD, hS, lv_sub hl [0, 1, 3, 4, 5, 6, 7, 8] rfl⟩
        · have nc_8 := cv_nle (a := 21) (b := k8_115) (by omega) (by omega) c_8
          refine lv_aload_n hx hb dX12_addsRow_122 rfl (lv_at hl 3 rfl) ?_
          refine va_get (D := D) (ci := 12) (v := .ref a17) (C := RX12) (T := TX12) (N := 30) hx hb hts inlX12 hown hK hP 0 rfl rfl 17 (by decide) (hts _ mw_197) (fun _ h9 => h9) rfl dX12_addsRow_123 ?_
          refine lv_iload hx hb dX12_addsRow_126 (lv_at hl 2 rfl) ?_
          refine lv_iload hx hb dX12_addsRow_128 (lv_at hl 0 rfl) ?_
          refine lv_iadd hx hb dX12_addsRow_130 ?_
          refine ki (v := (nI (k6_87 + k8_115))) (nI_add k6_87 k8_115) ?_
          refine lv_aload_n hx hb dX12_addsRow_131 rfl (lv_at hl 3 rfl) ?_
          refine va_get (D := D) (ci := 12) (v := .ref a0) (C := RX12) (T := TX12) (N := 30) hx hb hts inlX12 hown hK hP 0 rfl rfl 0 (by decide) (hts _ mw_187) (fun _ h9 => h9) rfl dX12_addsRow_132 ?_
          refine lv_iload_n hx hb dX12_addsRow_135 rfl (lv_at hl 6 rfl) ?_
          refine lv_iload hx hb dX12_addsRow_136 (lv_at hl 7 rfl) ?_
          refine lv_iload hx hb dX12_addsRow_138 (lv_at hl 1 rfl) ?_
          refine cr_S (As := [.int (nI d), .int (nI o9), .int (nI k7_87)]) (rest := [.ref a0, .int (nI (k6_87 + k8_115)), .ref a17]) hFX hKK (s_X12_cellAt l D κ d o9 k7_87) 3 gS_X12_167 hdS_X12_cellAt rfl rfl ⟨Nat.le_of_ble_eq_true rfl, Nat.le_of_ble_eq_true rfl⟩ rfl rfl (Nat.le_of_ble_eq_true rfl) dX12_addsRow_140 ⟨Nat.le_of_ble_eq_true rfl, Nat.le_of_ble_eq_true rfl⟩ hl.1 (hP.sub [] rfl) (fun _ hp_9 => ?_)
          refine W.eq (g2 := F0 m 143 ls [.int (nI (7123 * d + 403 + 21 * (8 * o9 + k7_87))), .ref a0, .int (nI (k6_87 + k8_115)), .ref a17]) rfl ?_
          refine lv_iload hx hb dX12_addsRow_143 (lv_at hl 0 rfl) ?_
          refine lv_iadd hx hb dX12_addsRow_145 ?_
          refine ki (v := (nI (7123 * d + 403 + 21 * (8 * o9 + k7_87) + k8_115))) (nI_add (7123 * d + 403 + 21 * (8 * o9 + k7_87)) k8_115) ?_
          refine va_iald hx hb hK hP 1 0 rfl rfl (i := nI (7123 * d + 403 + 21 * (8 * o9 + k7_87) + k8_115)) (vp_in_nI (n := (7123 * d + 403 + 21 * (8 * o9 + k7_87) + k8_115)) (by omega) (by omega)) dX12_addsRow_146 ?_
          refine kv (v := .int (w (7123 * d + 403 + 21 * (8 * o9 + k7_87) + k8_115))) (by rw [nI_clamp (by omega)]) ?_
          obtain ⟨x_10, ex_10⟩ : ∃ y9 : Int32, w (7123 * d + 403 + 21 * (8 * o9 + k7_87) + k8_115) = y9 := ⟨_, rfl⟩
          refine kv (v := .int x_10) (congrArg Value.int ex_10) ?_
          refine va_iast hx hb hK hP hD hS 2 0 rfl rfl (i := nI (k6_87 + k8_115)) (x := x_10) (vp_in_nI (n := (k6_87 + k8_115)) (by omega) (by omega)) dX12_addsRow_147 (fun H locs hP hD hS => ?_)
          rw [nI_clamp (by omega)] at hP hD
          have hP : va_P D vwCl [(m0, .inr (12, [.ref a0, .ref a1, .ref a2, .int (nI u3), .int f4, .ref a5, .int (nI u6), .int f7, .int f8, .int f9, .int f10, .int (nI u11), .int (nI u12), .int (nI u13), .ref a14, .ref a15, .ref a16, .ref a17, .int f18, .int f19, .ref a20, .ref a21, .int (nI u22), .ref a23, .ref a24, .ref a25, .int (nI u26), .int f27, .ref a28, .int (nI u29)])), (a0, .inl (κ 0, 21375, .inl w)), (a17, .inl (κ 0, 7123, .inl (upd ga17_115 (k6_87 + k8_115) x_10)))] H := hP
          have hD : va_D A [(m0, .inr (12, [.ref a0, .ref a1, .ref a2, .int (nI u3), .int f4, .ref a5, .int (nI u6), .int f7, .int f8, .int f9, .int f10, .int (nI u11), .int (nI u12), .int (nI u13), .ref a14, .ref a15, .ref a16, .ref a17, .int f18, .int f19, .ref a20, .ref a21, .int (nI u22), .ref a23, .ref a24, .ref a25, .int (nI u26), .int f27, .ref a28, .int (nI u29)])), (a0, .inl (κ 0, 21375, .inl w)), (a17, .inl (κ 0, 7123, .inl (upd ga17_115 (k6_87 + k8_115) x_10)))] := hD
          have hf_12 : Pd (upd ga17_115 (k6_87 + k8_115) x_10) := (PL_cell hg115_0 (i := (k6_87 - 403) / 21) (k := k8_115) (by omega) (by omega) (by omega) (head_val ex_10 (h_a0 _ _ (mCELL (t := d) (i := 8 * o9 + k7_87) (by omega) (by omega) (by omega)))))
          have hq2 : (upd ga17_115 (k6_87 + k8_115) x_10) 2 = nI mm := ((pk_un (by omega)).trans hl115_1)
          have hq1 : (upd ga17_115 (k6_87 + k8_115) x_10) 1 = dr 1 := ((pk_un (by omega)).trans hl115_2)
          generalize upd ga17_115 (k6_87 + k8_115) x_10 = g_11 at hP hD hf_12 hq2 hq1
          refine lv_iinc (v := (nI (k8_115 + 1))) (lv' := [(8, .int (nI (k8_115 + 1))), (7, .int (nI k7_87)), (6, .int (nI k6_87)), (0, .ref m0), (1, .int (nI a)), (2, .int (nI b)), (3, .int (nI d)), (4, .int (nI o9)), (5, .int (nI k))]) hx hb dX12_addsRow_148 hl (k := 0) rfl (nI_i k8_115) (by decide) rfl (fun ls hl => ?_)
          refine lv_goto (tgt := 115) hx hb dX12_addsRow_151 (by decide) ?_
          exact ih115 _ _ _ _ (by omega) ⟨(k8_115 + 1), g_11, (by omega), hq2, hq1, hf_12, rfl, hP, hD, hS, lv_sub hl [0, 1, 2, 3, 4, 5, 6, 7, 8] rfl⟩
      · have nc_7 := cv_eq (a := k7_87) (b := k) (by omega) (by omega) c_7
        refine lv_goto (tgt := 157) hx hb dX12_addsRow_109 (by decide) ?_
        refine lv_iinc (v := (nI (k7_87 + 1))) (lv' := [(7, .int (nI (k7_87 + 1))), (6, .int (nI k6_87)), (0, .ref m0), (1, .int (nI a)), (2, .int (nI b)), (3, .int (nI d)), (4, .int (nI o9)), (5, .int (nI k))]) hx hb dX12_addsRow_157 hl (k := 0) rfl (nI_i k7_87) (by decide) rfl (fun ls hl => ?_)
        refine lv_goto (tgt := 87) hx hb dX12_addsRow_160 (by decide) ?_
        exact ih87 _ _ _ _ (by omega) ⟨(k7_87 + 1), k6_87, ga17_87, (by omega), (by omega), hl87_2, hl87_3, hg87_0, rfl, hP, hD, hS, lv_sub hl [0, 1, 2, 3, 4, 5, 6, 7] rfl⟩
  · have nc_2 := cv_nle (a := na) (b := k7_19) (by omega) (by omega) c_2
    refine lv_iconst (v := 0) hx hb dX12_addsRow_34 (by decide) ?_
    refine lv_istore (lv' := [(8, .int 0), (7, .int (nI k7_19)), (6, .int (nI k6_19)), (0, .ref m0), (1, .int (nI a)), (2, .int (nI b)), (3, .int (nI d)), (4, .int (nI o9)), (5, .int (nI k))]) hx hb dX12_addsRow_35 hl (by decide) rfl (fun ls hl => ?_)
    refine loop_dn (fun k9 H locs ls => ∃ (k8_37 : Nat), ∃ (ga17_37 : Nat → Int32), (k8_37 ≤ 21) ∧ (ga17_37 2 = nI mm) ∧ (ga17_37 1 = dr 1) ∧ Pd ga17_37 ∧ 21 - k8_37 = k9 ∧ va_P D vwCl [(m0, .inr (12, [.ref a0, .ref a1, .ref a2, .int (nI u3), .int f4, .ref a5, .int (nI u6), .int f7, .int f8, .int f9, .int f10, .int (nI u11), .int (nI u12), .int (nI u13), .ref a14, .ref a15, .ref a16, .ref a17, .int f18, .int f19, .ref a20, .ref a21, .int (nI u22), .ref a23, .ref a24, .ref a25, .int (nI u26), .int f27, .ref a28, .int (nI u29)])), (a0, .inl (κ 0, 21375, .inl w)), (a17, .inl (κ 0, 7123, .inl ga17_37))] H ∧ va_D A [(m0, .inr (12, [.ref a0, .ref a1, .ref a2, .int (nI u3), .int f4, .ref a5, .int (nI u6), .int f7, .int f8, .int f9, .int f10, .int (nI u11), .int (nI u12), .int (nI u13), .ref a14, .ref a15, .ref a16, .ref a17, .int f18, .int f19, .ref a20, .ref a21, .int (nI u22), .ref a23, .ref a24, .ref a25, .int (nI u26), .int f27, .ref a28, .int (nI u29)])), (a0, .inl (κ 0, 21375, .inl w)), (a17, .inl (κ 0, 7123, .inl ga17_37))] ∧ va_S A s.heap H locs ∧ lv_has ls 9 [(8, .int (nI k8_37)), (7, .int (nI k7_19)), (6, .int (nI k6_19)), (0, .ref m0), (1, .int (nI a)), (2, .int (nI b)), (3, .int (nI d)), (4, .int (nI o9)), (5, .int (nI k))]) (fun k9 H locs ls hI37 ih37 => ?_) (21 - 0) _ _ _ ⟨0, ga17_19, (by omega), hl19_2, hl19_3, hg19_0, rfl, hP, hD, hS, lv_sub hl [0, 1, 2, 3, 4, 5, 6, 7, 8] rfl⟩
    obtain ⟨k8_37, ga17_37, hl37_0, hl37_1, hl37_2, hg37_0, hm37, hP, hD, hS, hl⟩ := hI37
    refine lv_iload hx hb dX12_addsRow_37 (lv_at hl 0 rfl) ?_
    refine lv_bipush (v := 21) hx hb dX12_addsRow_39 (by decide) ?_
    refine lv_icmp_ge (tgt := 75) hx hb dX12_addsRow_41 (by decide) (fun c_13 => ?_) (fun c_13 => ?_)
    · have nc_13 := cv_le (a := 21) (b := k8_37) (by omega) (by omega) c_13
      refine lv_iinc (v := (nI (k6_19 + 21))) (lv' := [(6, .int (nI (k6_19 + 21))), (8, .int (nI k8_37)), (7, .int (nI k7_19)), (0, .ref m0), (1, .int (nI a)), (2, .int (nI b)), (3, .int (nI d)), (4, .int (nI o9)), (5, .int (nI k))]) hx hb dX12_addsRow_75 hl (k := 2) rfl (nI_add k6_19 21) (by decide) rfl (fun ls hl => ?_)
      refine lv_iinc (v := (nI (k7_19 + 1))) (lv' := [(7, .int (nI (k7_19 + 1))), (6, .int (nI (k6_19 + 21))), (8, .int (nI k8_37)), (0, .ref m0), (1, .int (nI a)), (2, .int (nI b)), (3, .int (nI d)), (4, .int (nI o9)), (5, .int (nI k))]) hx hb dX12_addsRow_78 hl (k := 2) rfl (nI_i k7_19) (by decide) rfl (fun ls hl => ?_)
      refine lv_goto (tgt := 19) hx hb dX12_addsRow_81 (by decide) ?_
      exact ih19 _ _ _ _ (by omega) ⟨(k7_19 + 1), (k6_19 + 21), ga17_37, (by omega), (by omega), hl37_1, hl37_2, hg37_0, rfl, hP, hD, hS, lv_sub hl [0, 1, 3, 4, 5, 6, 7, 8] rfl⟩
    · have nc_13 := cv_nle (a := 21) (b := k8_37) (by omega) (by omega) c_13
      refine lv_aload_n hx hb dX12_addsRow_44 rfl (lv_at hl 3 rfl) ?_
      refine va_get (D := D) (ci := 12) (v := .ref a17) (C := RX12) (T := TX12) (N := 30) hx hb hts inlX12 hown hK hP 0 rfl rfl 17 (by decide) (hts _ mw_197) (fun _ h9 => h9) rfl dX12_addsRow_45 ?_
      refine lv_iload hx hb dX12_addsRow_48 (lv_at hl 2 rfl) ?_
      refine lv_iload hx hb dX12_addsRow_50 (lv_at hl 0 rfl) ?_
      refine lv_iadd hx hb dX12_addsRow_52 ?_
      refine ki (v := (nI (k6_19 + k8_37))) (nI_add k6_19 k8_37) ?_
      refine lv_aload_n hx hb dX12_addsRow_53 rfl (lv_at hl 3 rfl) ?_
      refine va_get (D := D) (ci := 12) (v := .ref a0) (C := RX12) (T := TX12) (N := 30) hx hb hts inlX12 hown hK hP 0 rfl rfl 0 (by decide) (hts _ mw_187) (fun _ h9 => h9) rfl dX12_addsRow_54 ?_
      refine lv_iload_n hx hb dX12_addsRow_57 rfl (lv_at hl 4 rfl) ?_
      refine lv_iload_n hx hb dX12_addsRow_58 rfl (lv_at hl 5 rfl) ?_
      refine lv_iload hx hb dX12_addsRow_59 (lv_at hl 1 rfl) ?_
      refine cr_S (As := [.int (nI a), .int (nI b), .int (nI k7_19)]) (rest := [.ref a0, .int (nI (k6_19 + k8_37)), .ref a17]) hFX hKK (s_X12_cellAt l D κ a b k7_19) 3 gS_X12_167 hdS_X12_cellAt rfl rfl ⟨Nat.le_of_ble_eq_true rfl, Nat.le_of_ble_eq_true rfl⟩ rfl rfl (Nat.le_of_ble_eq_true rfl) dX12_addsRow_61 ⟨Nat.le_of_ble_eq_true rfl, Nat.le_of_ble_eq_true rfl⟩ hl.1 (hP.sub [] rfl) (fun _ hp_14 => ?_)
      refine W.eq (g2 := F0 m 64 ls [.int (nI (7123 * a + 403 + 21 * (8 * b + k7_19))), .ref a0, .int (nI (k6_19 + k8_37)), .ref a17]) rfl ?_
      refine lv_iload hx hb dX12_addsRow_64 (lv_at hl 0 rfl) ?_
      refine lv_iadd hx hb dX12_addsRow_66 ?_
      refine ki (v := (nI (7123 * a + 403 + 21 * (8 * b + k7_19) + k8_37))) (nI_add (7123 * a + 403 + 21 * (8 * b + k7_19)) k8_37) ?_
      refine va_iald hx hb hK hP 1 0 rfl rfl (i := nI (7123 * a + 403 + 21 * (8 * b + k7_19) + k8_37)) (vp_in_nI (n := (7123 * a + 403 + 21 * (8 * b + k7_19) + k8_37)) (by omega) (by omega)) dX12_addsRow_67 ?_
      refine kv (v := .int (w (7123 * a + 403 + 21 * (8 * b + k7_19) + k8_37))) (by rw [nI_clamp (by omega)]) ?_
      obtain ⟨x_15, ex_15⟩ : ∃ y9 : Int32, w (7123 * a + 403 + 21 * (8 * b + k7_19) + k8_37) = y9 := ⟨_, rfl⟩
      refine kv (v := .int x_15) (congrArg Value.int ex_15) ?_
      refine va_iast hx hb hK hP hD hS 2 0 rfl rfl (i := nI (k6_19 + k8_37)) (x := x_15) (vp_in_nI (n := (k6_19 + k8_37)) (by omega) (by omega)) dX12_addsRow_68 (fun H locs hP hD hS => ?_)
      rw [nI_clamp (by omega)] at hP hD
      have hP : va_P D vwCl [(m0, .inr (12, [.ref a0, .ref a1, .ref a2, .int (nI u3), .int f4, .ref a5, .int (nI u6), .int f7, .int f8, .int f9, .int f10, .int (nI u11), .int (nI u12), .int (nI u13), .ref a14, .ref a15, .ref a16, .ref a17, .int f18, .int f19, .ref a20, .ref a21, .int (nI u22), .ref a23, .ref a24, .ref a25, .int (nI u26), .int f27, .ref a28, .int (nI u29)])), (a0, .inl (κ 0, 21375, .inl w)), (a17, .inl (κ 0, 7123, .inl (upd ga17_37 (k6_19 + k8_37) x_15)))] H := hP
      have hD : va_D A [(m0, .inr (12, [.ref a0, .ref a1, .ref a2, .int (nI u3), .int f4, .ref a5, .int (nI u6), .int f7, .int f8, .int f9, .int f10, .int (nI u11), .int (nI u12), .int (nI u13), .ref a14, .ref a15, .ref a16, .ref a17, .int f18, .int f19, .ref a20, .ref a21, .int (nI u22), .ref a23, .ref a24, .ref a25, .int (nI u26), .int f27, .ref a28, .int (nI u29)])), (a0, .inl (κ 0, 21375, .inl w)), (a17, .inl (κ 0, 7123, .inl (upd ga17_37 (k6_19 + k8_37) x_15)))] := hD
      have hf_17 : Pd (upd ga17_37 (k6_19 + k8_37) x_15) := (PL_cell hg37_0 (i := 8 * mm + k7_19) (k := k8_37) (by omega) (by omega) (by omega) (head_val ex_15 (h_a0 _ _ (mCELL (t := a) (i := 8 * b + k7_19) (by omega) (by omega) (by omega)))))
      have hq2 : (upd ga17_37 (k6_19 + k8_37) x_15) 2 = nI mm := ((pk_un (by omega)).trans hl37_1)
      have hq1 : (upd ga17_37 (k6_19 + k8_37) x_15) 1 = dr 1 := ((pk_un (by omega)).trans hl37_2)
      generalize upd ga17_37 (k6_19 + k8_37) x_15 = g_16 at hP hD hf_17 hq2 hq1
      refine lv_iinc (v := (nI (k8_37 + 1))) (lv' := [(8, .int (nI (k8_37 + 1))), (7, .int (nI k7_19)), (6, .int (nI k6_19)), (0, .ref m0), (1, .int (nI a)), (2, .int (nI b)), (3, .int (nI d)), (4, .int (nI o9)), (5, .int (nI k))]) hx hb dX12_addsRow_69 hl (k := 0) rfl (nI_i k8_37) (by decide) rfl (fun ls hl => ?_)
      refine lv_goto (tgt := 37) hx hb dX12_addsRow_72 (by decide) ?_
      exact ih37 _ _ _ _ (by omega) ⟨(k8_37 + 1), g_16, (by omega), hq2, hq1, hf_17, rfl, hP, hD, hS, lv_sub hl [0, 1, 2, 3, 4, 5, 6, 7, 8] rfl⟩
set_option maxHeartbeats 4000000 in
set_option maxRecDepth 100000 in
theorem s_X12_joins (l : Launch) (D : va_G) (κ : Nat → ClassId) (m0 : Nat) (a0 : Nat) (a1 : Nat) (a2 : Nat) (u3 : Nat) (f4 : Int32) (a5 : Nat) (u6 : Nat) (f7 : Int32) (f8 : Int32) (f9 : Int32) (f10 : Int32) (u11 : Nat) (u12 : Nat) (u13 : Nat) (a14 : Nat) (a15 : Nat) (a16 : Nat) (a17 : Nat) (f18 : Int32) (f19 : Int32) (a20 : Nat) (a21 : Nat) (u22 : Nat) (a23 : Nat) (a24 : Nat) (a25 : Nat) (u26 : Nat) (f27 : Int32) (a28 : Nat) (u29 : Nat) (w : Nat → Int32) (dr : Nat → Int32) (zt : Int32) (a : Nat) (co : Nat) (d : Nat) (k : Nat) (h_a0 : Pw w) (h_a17 : Pd dr) (ht : a < 3) (hc : co < 8) (hd : d < 3) (hk8 : k < 8) (hk : k < nv (w (7123 * d + 1))) : Ct l yX12_joins (wl yX12_joins cX12_joins 8 (some .boolean)) { frames := 7, cells := 0, slots := 0, locals := 176 } D κ [.ref m0, .int (nI a), .int (nI co), .int (nI d), .int (nI k), .int zt] [(m0, .inr (12, [.ref a0, .ref a1, .ref a2, .int (nI u3), .int f4, .ref a5, .int (nI u6), .int f7, .int f8, .int f9, .int f10, .int (nI u11), .int (nI u12), .int (nI u13), .ref a14, .ref a15, .ref a16, .ref a17, .int f18, .int f19, .ref a20, .ref a21, .int (nI u22), .ref a23, .ref a24, .ref a25, .int (nI u26), .int f27, .ref a28, .int (nI u29)])), (a0, .inl (κ 0, 21375, .inl w)), (a17, .inl (κ 0, 7123, .inl dr))] (fun _ => True) (fun u9 : Int32 × (Nat → Int32) => some (.int u9.1)) (fun u9 : Int32 × (Nat → Int32) => Pd u9.2 ∧ ((u9.1 = 1) ∨ (u9.1 = 0))) (fun u9 : Int32 × (Nat → Int32) => [(m0, .inr (12, [.ref a0, .ref a1, .ref a2, .int (nI u3), .int f4, .ref a5, .int (nI u6), .int f7, .int f8, .int f9, .int f10, .int (nI u11), .int (nI u12), .int (nI u13), .ref a14, .ref a15, .ref a16, .ref a17, .int f18, .int f19, .ref a20, .ref a21, .int (nI u22), .ref a23, .ref a24, .ref a25, .int (nI u26), .int f27, .ref a28, .int (nI u29)])), (a0, .inl (κ 0, 21375, .inl w)), (a17, .inl (κ 0, 7123, .inl u9.2))]) (fun _ _ => True) := by
  refine ct_of (by decide +kernel) (Nat.le_of_ble_eq_true rfl) ?_
  intro p e s m args below meth c A ls hx hb hr hml hts hown hlk hin hKK hK hA hP hD hS hI hl
  have hS : va_S A s.heap s.heap [] := hS
  have hFX : FX p s m args c cX12_joins 8 RX12 := ⟨hx, hb, hml, hown, hts⟩
  have hl : lv_has ls 8 [(0, .ref m0), (1, .int (nI a)), (2, .int (nI co)), (3, .int (nI d)), (4, .int (nI k)), (5, .int zt)] := hl
  refine lv_iconst (v := 0) hx hb dX12_joins_0 (by decide) ?_
  refine lv_istore (lv' := [(6, .int 0), (0, .ref m0), (1, .int (nI a)), (2, .int (nI co)), (3, .int (nI d)), (4, .int (nI k)), (5, .int zt)]) hx hb dX12_joins_1 hl (by decide) rfl (fun ls hl => ?_)
  refine loop_dn (fun k9 H locs ls => ∃ (k6_3 : Nat), ∃ (ga17_3 : Nat → Int32), (k6_3 ≤ 7123) ∧ (∀ i : Nat, i < k6_3 → ga17_3 i = nI 0) ∧ Pd ga17_3 ∧ 7123 - k6_3 = k9 ∧ va_P D vwCl [(m0, .inr (12, [.ref a0, .ref a1, .ref a2, .int (nI u3), .int f4, .ref a5, .int (nI u6), .int f7, .int f8, .int f9, .int f10, .int (nI u11), .int (nI u12), .int (nI u13), .ref a14, .ref a15, .ref a16, .ref a17, .int f18, .int f19, .ref a20, .ref a21, .int (nI u22), .ref a23, .ref a24, .ref a25, .int (nI u26), .int f27, .ref a28, .int (nI u29)])), (a0, .inl (κ 0, 21375, .inl w)), (a17, .inl (κ 0, 7123, .inl ga17_3))] H ∧ va_D A [(m0, .inr (12, [.ref a0, .ref a1, .ref a2, .int (nI u3), .int f4, .ref a5, .int (nI u6), .int f7, .int f8, .int f9, .int f10, .int (nI u11), .int (nI u12), .int (nI u13), .ref a14, .ref a15, .ref a16, .ref a17, .int f18, .int f19, .ref a20, .ref a21, .int (nI u22), .ref a23, .ref a24, .ref a25, .int (nI u26), .int f27, .ref a28, .int (nI u29)])), (a0, .inl (κ 0, 21375, .inl w)), (a17, .inl (κ 0, 7123, .inl ga17_3))] ∧ va_S A s.heap H locs ∧ lv_has ls 8 [(6, .int (nI k6_3)), (0, .ref m0), (1, .int (nI a)), (2, .int (nI co)), (3, .int (nI d)), (4, .int (nI k)), (5, .int zt)]) (fun k9 H locs ls hI3 ih3 => ?_) (7123 - 0) _ _ _ ⟨0, dr, (by omega), (fun i9 h9 => absurd h9 (by omega)), h_a17, rfl, hP, hD, hS, lv_sub hl [0, 1, 2, 3, 4, 5, 6] rfl⟩
  obtain ⟨k6_3, ga17_3, hl3_0, hl3_1, hg3_0, hm3, hP, hD, hS, hl⟩ := hI3
  refine lv_iload hx hb dX12_joins_3 (lv_at hl 0 rfl) ?_
  refine lv_sipush (v := 7123) hx hb dX12_joins_5 (by decide) ?_
  refine lv_icmp_ge (tgt := 25) hx hb dX12_joins_8 (by decide) (fun c_1 => ?_) (fun c_1 => ?_)
  · have nc_1 := cv_le (a := 7123) (b := k6_3) (by omega) (by omega) c_1
    refine lv_aload_n hx hb dX12_joins_25 rfl (lv_at hl 1 rfl) ?_
    refine va_get (D := D) (ci := 12) (v := .ref a17) (C := RX12) (T := TX12) (N := 30) hx hb hts inlX12 hown hK hP 0 rfl rfl 17 (by decide) (hts _ mw_197) (fun _ h9 => h9) rfl dX12_joins_26 ?_
    refine lv_iconst (v := 0) hx hb dX12_joins_29 (by decide) ?_
    refine lv_iconst (v := 1) hx hb dX12_joins_30 (by decide) ?_
    refine va_iast hx hb hK hP hD hS 2 0 rfl rfl (i := 0) (x := 1) (vp_k (by decide)) dX12_joins_31 (fun H locs hP hD hS => ?_)
    have hP : va_P D vwCl [(m0, .inr (12, [.ref a0, .ref a1, .ref a2, .int (nI u3), .int f4, .ref a5, .int (nI u6), .int f7, .int f8, .int f9, .int f10, .int (nI u11), .int (nI u12), .int (nI u13), .ref a14, .ref a15, .ref a16, .ref a17, .int f18, .int f19, .ref a20, .ref a21, .int (nI u22), .ref a23, .ref a24, .ref a25, .int (nI u26), .int f27, .ref a28, .int (nI u29)])), (a0, .inl (κ 0, 21375, .inl w)), (a17, .inl (κ 0, 7123, .inl (upd ga17_3 0 1)))] H := hP
    have hD : va_D A [(m0, .inr (12, [.ref a0, .ref a1, .ref a2, .int (nI u3), .int f4, .ref a5, .int (nI u6), .int f7, .int f8, .int f9, .int f10, .int (nI u11), .int (nI u12), .int (nI u13), .ref a14, .ref a15, .ref a16, .ref a17, .int f18, .int f19, .ref a20, .ref a21, .int (nI u22), .ref a23, .ref a24, .ref a25, .int (nI u26), .int f27, .ref a28, .int (nI u29)])), (a0, .inl (κ 0, 21375, .inl w)), (a17, .inl (κ 0, 7123, .inl (upd ga17_3 0 1)))] := hD
    have hf_3 : Pd (upd ga17_3 0 1) := (PL_free hg3_0 (fTHERE (t := 0) (by omega) (by omega)))
    have hq : (upd ga17_3 0 1) 1 = nI 0 := ((pk_un (by decide)).trans (hl3_1 1 (by omega)))
    generalize upd ga17_3 0 1 = g_2 at hP hD hf_3 hq
    refine lv_aload_n hx hb dX12_joins_32 rfl (lv_at hl 1 rfl) ?_
    refine va_get (D := D) (ci := 12) (v := .ref a0) (C := RX12) (T := TX12) (N := 30) hx hb hts inlX12 hown hK hP 0 rfl rfl 0 (by decide) (hts _ mw_187) (fun _ h9 => h9) rfl dX12_joins_33 ?_
    refine lv_iload_n hx hb dX12_joins_36 rfl (lv_at hl 2 rfl) ?_
    refine lv_iconst (v := 1) hx hb dX12_joins_37 (by decide) ?_
    refine cr_S (As := [.int (nI a), .int 1]) (rest := [.ref a0]) hFX hKK (s_X12_at l D κ a 1) 2 gS_X12_66 hdS_X12_at rfl rfl ⟨Nat.le_of_ble_eq_true rfl, Nat.le_of_ble_eq_true rfl⟩ rfl rfl (Nat.le_of_ble_eq_true rfl) dX12_joins_38 ⟨Nat.le_of_ble_eq_true rfl, Nat.le_of_ble_eq_true rfl⟩ hl.1 (hP.sub [] rfl) (fun _ hp_4 => ?_)
    refine W.eq (g2 := F0 m 41 ls [.int (nI (7123 * a + 1)), .ref a0]) rfl ?_
    refine va_iald hx hb hK hP 1 0 rfl rfl (i := nI (7123 * a + 1)) (vp_in_nI (n := (7123 * a + 1)) (by omega) (by omega)) dX12_joins_41 ?_
    refine kv (v := .int (w (7123 * a + 1))) (by rw [nI_clamp (by omega)]) ?_
    obtain ⟨n_5, hn_5, en_5⟩ : ∃ n9 : Nat, n9 ≤ 8 ∧ w (7123 * a + 1) = nI n9 := id (h_a0 _ _ (mN (t := a) (by omega) (by omega)))
    refine kv (v := .int (nI n_5)) (congrArg Value.int en_5) ?_
    refine lv_aload_n hx hb dX12_joins_42 rfl (lv_at hl 1 rfl) ?_
    refine va_get (D := D) (ci := 12) (v := .ref a0) (C := RX12) (T := TX12) (N := 30) hx hb hts inlX12 hown hK hP 0 rfl rfl 0 (by decide) (hts _ mw_187) (fun _ h9 => h9) rfl dX12_joins_43 ?_
    refine lv_iload_n hx hb dX12_joins_46 rfl (lv_at hl 4 rfl) ?_
    refine lv_iconst (v := 1) hx hb dX12_joins_47 (by decide) ?_
    refine cr_S (As := [.int (nI d), .int 1]) (rest := [.ref a0, .int (nI n_5)]) hFX hKK (s_X12_at l D κ d 1) 2 gS_X12_66 hdS_X12_at rfl rfl ⟨Nat.le_of_ble_eq_true rfl, Nat.le_of_ble_eq_true rfl⟩ rfl rfl (Nat.le_of_ble_eq_true rfl) dX12_joins_48 ⟨Nat.le_of_ble_eq_true rfl, Nat.le_of_ble_eq_true rfl⟩ hl.1 (hP.sub [] rfl) (fun _ hp_6 => ?_)
    refine W.eq (g2 := F0 m 51 ls [.int (nI (7123 * d + 1)), .ref a0, .int (nI n_5)]) rfl ?_
    refine va_iald hx hb hK hP 1 0 rfl rfl (i := nI (7123 * d + 1)) (vp_in_nI (n := (7123 * d + 1)) (by omega) (by omega)) dX12_joins_51 ?_
    refine kv (v := .int (w (7123 * d + 1))) (by rw [nI_clamp (by omega)]) ?_
    obtain ⟨n_7, hn_7, en_7⟩ : ∃ n9 : Nat, n9 ≤ 8 ∧ w (7123 * d + 1) = nI n9 := id (h_a0 _ _ (mN (t := d) (by omega) (by omega)))
    refine kv (v := .int (nI n_7)) (congrArg Value.int en_7) ?_
    have hkn : k < n_7 := cn_of hk en_7 (by omega)
    refine lv_iadd hx hb dX12_joins_52 ?_
    refine ki (v := (nI (n_5 + n_7))) (nI_add n_5 n_7) ?_
    refine lv_iconst (v := 1) hx hb dX12_joins_53 (by decide) ?_
    refine lv_isub hx hb dX12_joins_54 ?_
    refine ki (v := (zI (((n_5 + n_7 : Nat) : Int) - 1))) (z_sub (nI_z _) (by decide)) ?_
    refine lv_bipush (v := 8) hx hb dX12_joins_55 (by decide) ?_
    refine lv_icmp_le (tgt := 62) hx hb dX12_joins_57 (by decide) (fun c_8 => ?_) (fun c_8 => ?_)
    · have nc_8 := cz_le (a := (((n_5 + n_7 : Nat) : Int) - 1)) (b := (8 : Int)) (zI_toInt (by omega)) (by decide) c_8
      refine lv_iconst (v := 0) hx hb dX12_joins_62 (by decide) ?_
      refine lv_istore (lv' := [(6, .int 0), (0, .ref m0), (1, .int (nI a)), (2, .int (nI co)), (3, .int (nI d)), (4, .int (nI k)), (5, .int zt)]) hx hb dX12_joins_63 hl (by decide) rfl (fun ls hl => ?_)
      refine loop_dn (fun k9 H locs ls => ∃ (k6_65 : Nat), ∃ (ga17_65 : Nat → Int32), (k6_65 ≤ n_5) ∧ (ga17_65 1 = nI k6_65) ∧ Pd ga17_65 ∧ n_5 - k6_65 = k9 ∧ va_P D vwCl [(m0, .inr (12, [.ref a0, .ref a1, .ref a2, .int (nI u3), .int f4, .ref a5, .int (nI u6), .int f7, .int f8, .int f9, .int f10, .int (nI u11), .int (nI u12), .int (nI u13), .ref a14, .ref a15, .ref a16, .ref a17, .int f18, .int f19, .ref a20, .ref a21, .int (nI u22), .ref a23, .ref a24, .ref a25, .int (nI u26), .int f27, .ref a28, .int (nI u29)])), (a0, .inl (κ 0, 21375, .inl w)), (a17, .inl (κ 0, 7123, .inl ga17_65))] H ∧ va_D A [(m0, .inr (12, [.ref a0, .ref a1, .ref a2, .int (nI u3), .int f4, .ref a5, .int (nI u6), .int f7, .int f8, .int f9, .int f10, .int (nI u11), .int (nI u12), .int (nI u13), .ref a14, .ref a15, .ref a16, .ref a17, .int f18, .int f19, .ref a20, .ref a21, .int (nI u22), .ref a23, .ref a24, .ref a25, .int (nI u26), .int f27, .ref a28, .int (nI u29)])), (a0, .inl (κ 0, 21375, .inl w)), (a17, .inl (κ 0, 7123, .inl ga17_65))] ∧ va_S A s.heap H locs ∧ lv_has ls 8 [(6, .int (nI k6_65)), (0, .ref m0), (1, .int (nI a)), (2, .int (nI co)), (3, .int (nI d)), (4, .int (nI k)), (5, .int zt)]) (fun k9 H locs ls hI65 ih65 => ?_) (n_5 - 0) _ _ _ ⟨0, g_2, (by omega), hq, hf_3, rfl, hP, hD, hS, lv_sub hl [0, 1, 2, 3, 4, 5, 6] rfl⟩
      obtain ⟨k6_65, ga17_65, hl65_0, hl65_1, hg65_0, hm65, hP, hD, hS, hl⟩ := hI65
      refine lv_iload hx hb dX12_joins_65 (lv_at hl 0 rfl) ?_
      refine lv_aload_n hx hb dX12_joins_67 rfl (lv_at hl 1 rfl) ?_
      refine va_get (D := D) (ci := 12) (v := .ref a0) (C := RX12) (T := TX12) (N := 30) hx hb hts inlX12 hown hK hP 0 rfl rfl 0 (by decide) (hts _ mw_187) (fun _ h9 => h9) rfl dX12_joins_68 ?_
      refine lv_iload_n hx hb dX12_joins_71 rfl (lv_at hl 2 rfl) ?_
      refine lv_iconst (v := 1) hx hb dX12_joins_72 (by decide) ?_
      refine cr_S (As := [.int (nI a), .int 1]) (rest := [.ref a0, .int (nI k6_65)]) hFX hKK (s_X12_at l D κ a 1) 2 gS_X12_66 hdS_X12_at rfl rfl ⟨Nat.le_of_ble_eq_true rfl, Nat.le_of_ble_eq_true rfl⟩ rfl rfl (Nat.le_of_ble_eq_true rfl) dX12_joins_73 ⟨Nat.le_of_ble_eq_true rfl, Nat.le_of_ble_eq_true rfl⟩ hl.1 (hP.sub [] rfl) (fun _ hp_9 => ?_)
      refine W.eq (g2 := F0 m 76 ls [.int (nI (7123 * a + 1)), .ref a0, .int (nI k6_65)]) rfl ?_
      refine va_iald hx hb hK hP 1 0 rfl rfl (i := nI (7123 * a + 1)) (vp_in_nI (n := (7123 * a + 1)) (by omega) (by omega)) dX12_joins_76 ?_
      refine kv (v := .int (nI n_5)) (by rw [nI_clamp (by omega), show w (7123 * a + 1) = (nI n_5) from en_5]) ?_
      refine lv_icmp_ge (tgt := 98) hx hb dX12_joins_77 (by decide) (fun c_10 => ?_) (fun c_10 => ?_)
      · have nc_10 := cv_le (a := n_5) (b := k6_65) (by omega) (by omega) c_10
        refine lv_iconst (v := 0) hx hb dX12_joins_98 (by decide) ?_
        refine lv_istore (lv' := [(6, .int 0), (0, .ref m0), (1, .int (nI a)), (2, .int (nI co)), (3, .int (nI d)), (4, .int (nI k)), (5, .int zt)]) hx hb dX12_joins_99 hl (by decide) rfl (fun ls hl => ?_)
        refine loop_dn (fun k9 H locs ls => ∃ (k6_101 : Nat), ∃ (ga17_101 : Nat → Int32), (k6_101 ≤ n_7) ∧ ((k6_101 ≤ k ∧ ga17_101 1 = nI (n_5 + k6_101)) ∨ (k < k6_101 ∧ ga17_101 1 = nI (n_5 + k6_101 - 1))) ∧ Pd ga17_101 ∧ n_7 - k6_101 = k9 ∧ va_P D vwCl [(m0, .inr (12, [.ref a0, .ref a1, .ref a2, .int (nI u3), .int f4, .ref a5, .int (nI u6), .int f7, .int f8, .int f9, .int f10, .int (nI u11), .int (nI u12), .int (nI u13), .ref a14, .ref a15, .ref a16, .ref a17, .int f18, .int f19, .ref a20, .ref a21, .int (nI u22), .ref a23, .ref a24, .ref a25, .int (nI u26), .int f27, .ref a28, .int (nI u29)])), (a0, .inl (κ 0, 21375, .inl w)), (a17, .inl (κ 0, 7123, .inl ga17_101))] H ∧ va_D A [(m0, .inr (12, [.ref a0, .ref a1, .ref a2, .int (nI u3), .int f4, .ref a5, .int (nI u6), .int f7, .int f8, .int f9, .int f10, .int (nI u11), .int (nI u12), .int (nI u13), .ref a14, .ref a15, .ref a16, .ref a17, .int f18, .int f19, .ref a20, .ref a21, .int (nI u22), .ref a23, .ref a24, .ref a25, .int (nI u26), .int f27, .ref a28, .int (nI u29)])), (a0, .inl (κ 0, 21375, .inl w)), (a17, .inl (κ 0, 7123, .inl ga17_101))] ∧ va_S A s.heap H locs ∧ lv_has ls 8 [(6, .int (nI k6_101)), (0, .ref m0), (1, .int (nI a)), (2, .int (nI co)), (3, .int (nI d)), (4, .int (nI k)), (5, .int zt)]) (fun k9 H locs ls hI101 ih101 => ?_) (n_7 - 0) _ _ _ ⟨0, ga17_65, (by omega), (Or.inl ⟨by omega, by rw [hl65_1]; first | done | (congr 1; omega)⟩), hg65_0, rfl, hP, hD, hS, lv_sub hl [0, 1, 2, 3, 4, 5, 6] rfl⟩
        obtain ⟨k6_101, ga17_101, hl101_0, hl101_1, hg101_0, hm101, hP, hD, hS, hl⟩ := hI101
        refine lv_iload hx hb dX12_joins_101 (lv_at hl 0 rfl) ?_
        refine lv_aload_n hx hb dX12_joins_103 rfl (lv_at hl 1 rfl) ?_
        refine va_get (D := D) (ci := 12) (v := .ref a0) (C := RX12) (T := TX12) (N := 30) hx hb hts inlX12 hown hK hP 0 rfl rfl 0 (by decide) (hts _ mw_187) (fun _ h9 => h9) rfl dX12_joins_104 ?_
        refine lv_iload_n hx hb dX12_joins_107 rfl (lv_at hl 4 rfl) ?_
        refine lv_iconst (v := 1) hx hb dX12_joins_108 (by decide) ?_
        refine cr_S (As := [.int (nI d), .int 1]) (rest := [.ref a0, .int (nI k6_101)]) hFX hKK (s_X12_at l D κ d 1) 2 gS_X12_66 hdS_X12_at rfl rfl ⟨Nat.le_of_ble_eq_true rfl, Nat.le_of_ble_eq_true rfl⟩ rfl rfl (Nat.le_of_ble_eq_true rfl) dX12_joins_109 ⟨Nat.le_of_ble_eq_true rfl, Nat.le_of_ble_eq_true rfl⟩ hl.1 (hP.sub [] rfl) (fun _ hp_11 => ?_)
        refine W.eq (g2 := F0 m 112 ls [.int (nI (7123 * d + 1)), .ref a0, .int (nI k6_101)]) rfl ?_
        refine va_iald hx hb hK hP 1 0 rfl rfl (i := nI (7123 * d + 1)) (vp_in_nI (n := (7123 * d + 1)) (by omega) (by omega)) dX12_joins_112 ?_
        refine kv (v := .int (nI n_7)) (by rw [nI_clamp (by omega), show w (7123 * d + 1) = (nI n_7) from en_7]) ?_
        refine lv_icmp_ge (tgt := 141) hx hb dX12_joins_113 (by decide) (fun c_12 => ?_) (fun c_12 => ?_)
        · have nc_12 := cv_le (a := n_7) (b := k6_101) (by omega) (by omega) c_12
          refine lv_iconst (v := 0) hx hb dX12_joins_141 (by decide) ?_
          refine lv_istore (lv' := [(6, .int 0), (0, .ref m0), (1, .int (nI a)), (2, .int (nI co)), (3, .int (nI d)), (4, .int (nI k)), (5, .int zt)]) hx hb dX12_joins_142 hl (by decide) rfl (fun ls hl => ?_)
          refine loop_dn (fun k9 H locs ls => ∃ (k6_144 : Nat), ∃ (ga17_144 : Nat → Int32), (k6_144 ≤ 40) ∧ Pd ga17_144 ∧ 40 - k6_144 = k9 ∧ va_P D vwCl [(m0, .inr (12, [.ref a0, .ref a1, .ref a2, .int (nI u3), .int f4, .ref a5, .int (nI u6), .int f7, .int f8, .int f9, .int f10, .int (nI u11), .int (nI u12), .int (nI u13), .ref a14, .ref a15, .ref a16, .ref a17, .int f18, .int f19, .ref a20, .ref a21, .int (nI u22), .ref a23, .ref a24, .ref a25, .int (nI u26), .int f27, .ref a28, .int (nI u29)])), (a0, .inl (κ 0, 21375, .inl w)), (a17, .inl (κ 0, 7123, .inl ga17_144))] H ∧ va_D A [(m0, .inr (12, [.ref a0, .ref a1, .ref a2, .int (nI u3), .int f4, .ref a5, .int (nI u6), .int f7, .int f8, .int f9, .int f10, .int (nI u11), .int (nI u12), .int (nI u13), .ref a14, .ref a15, .ref a16, .ref a17, .int f18, .int f19, .ref a20, .ref a21, .int (nI u22), .ref a23, .ref a24, .ref a25, .int (nI u26), .int f27, .ref a28, .int (nI u29)])), (a0, .inl (κ 0, 21375, .inl w)), (a17, .inl (κ 0, 7123, .inl ga17_144))] ∧ va_S A s.heap H locs ∧ lv_has ls 8 [(6, .int (nI k6_144)), (0, .ref m0), (1, .int (nI a)), (2, .int (nI co)), (3, .int (nI d)), (4, .int (nI k)), (5, .int zt)]) (fun k9 H locs ls hI144 ih144 => ?_) (40 - 0) _ _ _ ⟨0, ga17_101, (by omega), hg101_0, rfl, hP, hD, hS, lv_sub hl [0, 1, 2, 3, 4, 5, 6] rfl⟩
          obtain ⟨k6_144, ga17_144, hl144_0, hg144_0, hm144, hP, hD, hS, hl⟩ := hI144
          refine lv_iload hx hb dX12_joins_144 (lv_at hl 0 rfl) ?_
          refine lv_aload_n hx hb dX12_joins_146 rfl (lv_at hl 1 rfl) ?_
          refine lv_iload_n hx hb dX12_joins_147 rfl (lv_at hl 2 rfl) ?_
          refine cr_V (As := [.int (nI a)]) (rest := [.int (nI k6_144)]) hFX hKK (s2_X12_viewMany l D κ m0 a0 a1 a2 u3 f4 a5 u6 f7 f8 f9 f10 u11 u12 u13 a14 a15 a16 a17 f18 f19 a20 a21 u22 a23 a24 a25 u26 f27 a28 u29 w a h_a0 (by omega)) 1 gV_X12_341 hdV_X12_viewMany rfl rfl ⟨Nat.le_of_ble_eq_true rfl, Nat.le_of_ble_eq_true rfl⟩ rfl rfl (Nat.le_of_ble_eq_true rfl) dX12_joins_148 ⟨Nat.le_of_ble_eq_true rfl, Nat.le_of_ble_eq_true rfl⟩ hl.1 hP 0 12 rfl rfl rfl (hP.sub [0, 1] rfl) (fun n__13 hp_14 => ?_)
          replace hp_14 : n__13 ≤ 40 ∧ n__13 = vmF w a := hp_14
          obtain ⟨h_15, h_16⟩ := hp_14
          refine W.eq (g2 := F0 m 151 ls [.int (nI n__13), .int (nI k6_144)]) rfl ?_
          refine lv_icmp_ge (tgt := 245) hx hb dX12_joins_151 (by decide) (fun c_17 => ?_) (fun c_17 => ?_)
          · have nc_17 := cv_le (a := n__13) (b := k6_144) (by omega) (by omega) c_17
            refine lv_iconst (v := 1) hx hb dX12_joins_245 (by decide) ?_
            exact ct_iret hx hb hr hlk rfl hS hP hD (1, ga17_144) rfl ⟨(show Pd ga17_144 from (by first | assumption | omega | rfl | exact Or.inl (by assumption) | exact Or.inr (by assumption))), (by exact Or.inl (rfl))⟩ [0, 1, 2] rfl (by decide) trivial (Nat.le_of_ble_eq_true rfl) (Nat.le_of_ble_eq_true rfl) dX12_joins_246
          · have nc_17 := cv_nle (a := n__13) (b := k6_144) (by omega) (by omega) c_17
            refine lv_iconst (v := 0) hx hb dX12_joins_154 (by decide) ?_
            refine lv_istore (lv' := [(7, .int 0), (6, .int (nI k6_144)), (0, .ref m0), (1, .int (nI a)), (2, .int (nI co)), (3, .int (nI d)), (4, .int (nI k)), (5, .int zt)]) hx hb dX12_joins_155 hl (by decide) rfl (fun ls hl => ?_)
            refine loop_dn (fun k9 H locs ls => ∃ (k7_157 : Nat), ∃ (ga17_157 : Nat → Int32), (k7_157 ≤ 40) ∧ Pd ga17_157 ∧ 40 - k7_157 = k9 ∧ va_P D vwCl [(m0, .inr (12, [.ref a0, .ref a1, .ref a2, .int (nI u3), .int f4, .ref a5, .int (nI u6), .int f7, .int f8, .int f9, .int f10, .int (nI u11), .int (nI u12), .int (nI u13), .ref a14, .ref a15, .ref a16, .ref a17, .int f18, .int f19, .ref a20, .ref a21, .int (nI u22), .ref a23, .ref a24, .ref a25, .int (nI u26), .int f27, .ref a28, .int (nI u29)])), (a0, .inl (κ 0, 21375, .inl w)), (a17, .inl (κ 0, 7123, .inl ga17_157))] H ∧ va_D A [(m0, .inr (12, [.ref a0, .ref a1, .ref a2, .int (nI u3), .int f4, .ref a5, .int (nI u6), .int f7, .int f8, .int f9, .int f10, .int (nI u11), .int (nI u12), .int (nI u13), .ref a14, .ref a15, .ref a16, .ref a17, .int f18, .int f19, .ref a20, .ref a21, .int (nI u22), .ref a23, .ref a24, .ref a25, .int (nI u26), .int f27, .ref a28, .int (nI u29)])), (a0, .inl (κ 0, 21375, .inl w)), (a17, .inl (κ 0, 7123, .inl ga17_157))] ∧ va_S A s.heap H locs ∧ lv_has ls 8 [(7, .int (nI k7_157)), (6, .int (nI k6_144)), (0, .ref m0), (1, .int (nI a)), (2, .int (nI co)), (3, .int (nI d)), (4, .int (nI k)), (5, .int zt)]) (fun k9 H locs ls hI157 ih157 => ?_) (40 - 0) _ _ _ ⟨0, ga17_144, (by omega), hg144_0, rfl, hP, hD, hS, lv_sub hl [0, 1, 2, 3, 4, 5, 6, 7] rfl⟩
            obtain ⟨k7_157, ga17_157, hl157_0, hg157_0, hm157, hP, hD, hS, hl⟩ := hI157
            refine lv_iload hx hb dX12_joins_157 (lv_at hl 0 rfl) ?_
            refine lv_aload_n hx hb dX12_joins_159 rfl (lv_at hl 2 rfl) ?_
            refine lv_iload_n hx hb dX12_joins_160 rfl (lv_at hl 5 rfl) ?_
            refine cr_V (As := [.int (nI d)]) (rest := [.int (nI k7_157)]) hFX hKK (s2_X12_viewMany l D κ m0 a0 a1 a2 u3 f4 a5 u6 f7 f8 f9 f10 u11 u12 u13 a14 a15 a16 a17 f18 f19 a20 a21 u22 a23 a24 a25 u26 f27 a28 u29 w d h_a0 (by omega)) 1 gV_X12_341 hdV_X12_viewMany rfl rfl ⟨Nat.le_of_ble_eq_true rfl, Nat.le_of_ble_eq_true rfl⟩ rfl rfl (Nat.le_of_ble_eq_true rfl) dX12_joins_161 ⟨Nat.le_of_ble_eq_true rfl, Nat.le_of_ble_eq_true rfl⟩ hl.1 hP 0 12 rfl rfl rfl (hP.sub [0, 1] rfl) (fun n__18 hp_19 => ?_)
            replace hp_19 : n__18 ≤ 40 ∧ n__18 = vmF w d := hp_19
            obtain ⟨h_20, h_21⟩ := hp_19
            refine W.eq (g2 := F0 m 164 ls [.int (nI n__18), .int (nI k7_157)]) rfl ?_
            refine lv_icmp_ge (tgt := 239) hx hb dX12_joins_164 (by decide) (fun c_22 => ?_) (fun c_22 => ?_)
            · have nc_22 := cv_le (a := n__18) (b := k7_157) (by omega) (by omega) c_22
              refine lv_iinc (v := (nI (k6_144 + 1))) (lv' := [(6, .int (nI (k6_144 + 1))), (7, .int (nI k7_157)), (0, .ref m0), (1, .int (nI a)), (2, .int (nI co)), (3, .int (nI d)), (4, .int (nI k)), (5, .int zt)]) hx hb dX12_joins_239 hl (k := 1) rfl (nI_i k6_144) (by decide) rfl (fun ls hl => ?_)
              refine lv_goto (tgt := 144) hx hb dX12_joins_242 (by decide) ?_
              exact ih144 _ _ _ _ (by omega) ⟨(k6_144 + 1), ga17_157, (by omega), hg157_0, rfl, hP, hD, hS, lv_sub hl [0, 2, 3, 4, 5, 6, 7] rfl⟩
            · have nc_22 := cv_nle (a := n__18) (b := k7_157) (by omega) (by omega) c_22
              refine lv_aload_n hx hb dX12_joins_167 rfl (lv_at hl 2 rfl) ?_
              refine lv_iload_n hx hb dX12_joins_168 rfl (lv_at hl 3 rfl) ?_
              refine lv_aload_n hx hb dX12_joins_169 rfl (lv_at hl 2 rfl) ?_
              refine lv_iload_n hx hb dX12_joins_170 rfl (lv_at hl 3 rfl) ?_
              refine lv_iload hx hb dX12_joins_171 (lv_at hl 1 rfl) ?_
              refine cr_V (As := [.int (nI a), .int (nI k6_144)]) (rest := [.int (nI a), .ref m0]) hFX hKK (s2_X12_viewed l D κ m0 a0 a1 a2 u3 f4 a5 u6 f7 f8 f9 f10 u11 u12 u13 a14 a15 a16 a17 f18 f19 a20 a21 u22 a23 a24 a25 u26 f27 a28 u29 w a k6_144 h_a0 (by omega) (by omega)) 2 gV_X12_345 hdV_X12_viewed rfl rfl ⟨Nat.le_of_ble_eq_true rfl, Nat.le_of_ble_eq_true rfl⟩ rfl rfl (Nat.le_of_ble_eq_true rfl) dX12_joins_173 ⟨Nat.le_of_ble_eq_true rfl, Nat.le_of_ble_eq_true rfl⟩ hl.1 hP 0 12 rfl rfl rfl (hP.sub [0, 1] rfl) (fun n__23 hp_24 => ?_)
              replace hp_24 : n__23 ≤ 39 ∧ n__23 = vwF w a k6_144 := hp_24
              obtain ⟨h_25, h_26⟩ := hp_24
              refine W.eq (g2 := F0 m 176 ls [.int (nI n__23), .int (nI a), .ref m0]) rfl ?_
              refine lv_iload_n hx hb dX12_joins_176 rfl (lv_at hl 4 rfl) ?_
              refine lv_iload_n hx hb dX12_joins_177 rfl (lv_at hl 5 rfl) ?_
              refine lv_aload_n hx hb dX12_joins_178 rfl (lv_at hl 2 rfl) ?_
              refine lv_iload_n hx hb dX12_joins_179 rfl (lv_at hl 5 rfl) ?_
              refine lv_iload hx hb dX12_joins_180 (lv_at hl 0 rfl) ?_
              refine cr_V (As := [.int (nI d), .int (nI k7_157)]) (rest := [.int (nI d), .int (nI co), .int (nI n__23), .int (nI a), .ref m0]) hFX hKK (s2_X12_viewed l D κ m0 a0 a1 a2 u3 f4 a5 u6 f7 f8 f9 f10 u11 u12 u13 a14 a15 a16 a17 f18 f19 a20 a21 u22 a23 a24 a25 u26 f27 a28 u29 w d k7_157 h_a0 (by omega) (by omega)) 2 gV_X12_345 hdV_X12_viewed rfl rfl ⟨Nat.le_of_ble_eq_true rfl, Nat.le_of_ble_eq_true rfl⟩ rfl rfl (Nat.le_of_ble_eq_true rfl) dX12_joins_182 ⟨Nat.le_of_ble_eq_true rfl, Nat.le_of_ble_eq_true rfl⟩ hl.1 hP 0 12 rfl rfl rfl (hP.sub [0, 1] rfl) (fun n__27 hp_28 => ?_)
              replace hp_28 : n__27 ≤ 39 ∧ n__27 = vwF w d k7_157 := hp_28
              obtain ⟨h_29, h_30⟩ := hp_28
              refine W.eq (g2 := F0 m 185 ls [.int (nI n__27), .int (nI d), .int (nI co), .int (nI n__23), .int (nI a), .ref m0]) rfl ?_
              refine lv_iload hx hb dX12_joins_185 (lv_at hl 6 rfl) ?_
              refine lv_iload hx hb dX12_joins_187 (lv_at hl 7 rfl) ?_
              refine cr_V (As := [.int (nI a), .int (nI n__23), .int (nI co), .int (nI d), .int (nI n__27), .int (nI k), .int zt]) (rest := []) hFX hKK (s_X12_doMatch l D κ m0 a0 a1 a2 u3 f4 a5 u6 f7 f8 f9 f10 u11 u12 u13 a14 a15 a16 a17 f18 f19 a20 a21 u22 a23 a24 a25 u26 f27 a28 u29 w zt a n__23 co d n__27 k h_a0 (by omega) (by omega) (by omega) (by omega) (by omega) (by omega)) 7 gV_X12_414 hdV_X12_doMatch rfl rfl ⟨Nat.le_of_ble_eq_true rfl, Nat.le_of_ble_eq_true rfl⟩ rfl rfl (Nat.le_of_ble_eq_true rfl) dX12_joins_189 ⟨Nat.le_of_ble_eq_true rfl, Nat.le_of_ble_eq_true rfl⟩ hl.1 hP 0 12 rfl rfl rfl (hP.sub [0, 1] rfl) (fun r__31 hp_32 => ?_)
              replace hp_32 : ((r__31 = 1) ∨ (r__31 = 0)) := hp_32
              have ha_33 := hp_32
              clear hp_32
              rcases ha_33 with rfl | rfl
              · refine W.eq (g2 := F0 m 192 ls [.int 1]) rfl ?_
                refine lv_if_ne (tgt := 198) hx hb dX12_joins_192 (by decide) (fun c_34 => ?_) (fun c_34 => absurd c_34 (by decide))
                refine lv_aload_n hx hb dX12_joins_198 rfl (lv_at hl 2 rfl) ?_
                refine va_get (D := D) (ci := 12) (v := .ref a17) (C := RX12) (T := TX12) (N := 30) hx hb hts inlX12 hown hK hP 0 rfl rfl 17 (by decide) (hts _ mw_197) (fun _ h9 => h9) rfl dX12_joins_199 ?_
                refine lv_iconst (v := 2) hx hb dX12_joins_202 (by decide) ?_
                refine va_iald hx hb hK hP 2 0 rfl rfl (i := 2) (vp_k (by decide)) dX12_joins_203 ?_
                obtain ⟨n_35, hn_35, en_35⟩ : ∃ n9 : Nat, n9 ≤ 40 ∧ ga17_157 2 = nI n9 := id (hg157_0 _ _ (by omega) (mMANY (t := 0) (by omega) (by omega)))
                refine kv (v := .int (nI n_35)) (congrArg Value.int en_35) ?_
                refine lv_bipush (v := 40) hx hb dX12_joins_204 (by decide) ?_
                refine lv_icmp_ne (tgt := 211) hx hb dX12_joins_206 (by decide) (fun c_36 => ?_) (fun c_36 => ?_)
                · have nc_36 := cv_ne (a := n_35) (b := 40) (by omega) (by omega) c_36
                  refine lv_aload_n hx hb dX12_joins_211 rfl (lv_at hl 2 rfl) ?_
                  refine lv_iload_n hx hb dX12_joins_212 rfl (lv_at hl 3 rfl) ?_
                  refine lv_aload_n hx hb dX12_joins_213 rfl (lv_at hl 2 rfl) ?_
                  refine lv_iload_n hx hb dX12_joins_214 rfl (lv_at hl 3 rfl) ?_
                  refine lv_iload hx hb dX12_joins_215 (lv_at hl 1 rfl) ?_
                  refine cr_V (As := [.int (nI a), .int (nI k6_144)]) (rest := [.int (nI a), .ref m0]) hFX hKK (s2_X12_viewed l D κ m0 a0 a1 a2 u3 f4 a5 u6 f7 f8 f9 f10 u11 u12 u13 a14 a15 a16 a17 f18 f19 a20 a21 u22 a23 a24 a25 u26 f27 a28 u29 w a k6_144 h_a0 (by omega) (by omega)) 2 gV_X12_345 hdV_X12_viewed rfl rfl ⟨Nat.le_of_ble_eq_true rfl, Nat.le_of_ble_eq_true rfl⟩ rfl rfl (Nat.le_of_ble_eq_true rfl) dX12_joins_217 ⟨Nat.le_of_ble_eq_true rfl, Nat.le_of_ble_eq_true rfl⟩ hl.1 hP 0 12 rfl rfl rfl (hP.sub [0, 1] rfl) (fun n__37 hp_38 => ?_)
                  replace hp_38 : n__37 ≤ 39 ∧ n__37 = vwF w a k6_144 := hp_38
                  obtain ⟨h_39, h_40⟩ := hp_38
                  refine W.eq (g2 := F0 m 220 ls [.int (nI n__37), .int (nI a), .ref m0]) rfl ?_
                  refine lv_iload_n hx hb dX12_joins_220 rfl (lv_at hl 5 rfl) ?_
                  refine lv_aload_n hx hb dX12_joins_221 rfl (lv_at hl 2 rfl) ?_
                  refine lv_iload_n hx hb dX12_joins_222 rfl (lv_at hl 5 rfl) ?_
                  refine lv_iload hx hb dX12_joins_223 (lv_at hl 0 rfl) ?_
                  refine cr_V (As := [.int (nI d), .int (nI k7_157)]) (rest := [.int (nI d), .int (nI n__37), .int (nI a), .ref m0]) hFX hKK (s2_X12_viewed l D κ m0 a0 a1 a2 u3 f4 a5 u6 f7 f8 f9 f10 u11 u12 u13 a14 a15 a16 a17 f18 f19 a20 a21 u22 a23 a24 a25 u26 f27 a28 u29 w d k7_157 h_a0 (by omega) (by omega)) 2 gV_X12_345 hdV_X12_viewed rfl rfl ⟨Nat.le_of_ble_eq_true rfl, Nat.le_of_ble_eq_true rfl⟩ rfl rfl (Nat.le_of_ble_eq_true rfl) dX12_joins_225 ⟨Nat.le_of_ble_eq_true rfl, Nat.le_of_ble_eq_true rfl⟩ hl.1 hP 0 12 rfl rfl rfl (hP.sub [0, 1] rfl) (fun n__41 hp_42 => ?_)
                  replace hp_42 : n__41 ≤ 39 ∧ n__41 = vwF w d k7_157 := hp_42
                  obtain ⟨h_43, h_44⟩ := hp_42
                  refine W.eq (g2 := F0 m 228 ls [.int (nI n__41), .int (nI d), .int (nI n__37), .int (nI a), .ref m0]) rfl ?_
                  refine lv_iload hx hb dX12_joins_228 (lv_at hl 6 rfl) ?_
                  refine ct_V (wr := []) (As := [.int (nI a), .int (nI n__37), .int (nI d), .int (nI n__41), .int (nI k)]) (rest := []) hFX hKK hP hD hS hA (s_X12_addsRow l D κ m0 a0 a1 a2 u3 f4 a5 u6 f7 f8 f9 f10 u11 u12 u13 a14 a15 a16 a17 f18 f19 a20 a21 u22 a23 a24 a25 u26 f27 a28 u29 w ga17_157 a n__37 d n__41 k n_35 n_5 n_7 h_a0 hg157_0 (by omega) (by omega) (by omega) (by omega) (by omega) (by assumption) (by omega) (by assumption) (by assumption) (by omega) (by omega) (by omega)) 5 gV_X12_424 hdV_X12_addsRow ⟨Nat.le_of_ble_eq_true rfl, Nat.le_of_ble_eq_true rfl⟩ rfl rfl (Nat.le_of_ble_eq_true rfl) dX12_joins_230 ⟨Nat.le_of_ble_eq_true rfl, Nat.le_of_ble_eq_true rfl⟩ hl.1 [0, 1, 2] [] rfl rfl (by decide) (by decide) (by decide) 0 12 rfl rfl rfl trivial (fun g_a17__45 H locs hp_46 _ hP hD hS hz_ hk_ => ?_)
                  replace hP : va_P D vwCl [(m0, .inr (12, [.ref a0, .ref a1, .ref a2, .int (nI u3), .int f4, .ref a5, .int (nI u6), .int f7, .int f8, .int f9, .int f10, .int (nI u11), .int (nI u12), .int (nI u13), .ref a14, .ref a15, .ref a16, .ref a17, .int f18, .int f19, .ref a20, .ref a21, .int (nI u22), .ref a23, .ref a24, .ref a25, .int (nI u26), .int f27, .ref a28, .int (nI u29)])), (a0, .inl (κ 0, 21375, .inl w)), (a17, .inl (κ 0, 7123, .inl g_a17__45))] H := hP
                  replace hD : va_D A [(m0, .inr (12, [.ref a0, .ref a1, .ref a2, .int (nI u3), .int f4, .ref a5, .int (nI u6), .int f7, .int f8, .int f9, .int f10, .int (nI u11), .int (nI u12), .int (nI u13), .ref a14, .ref a15, .ref a16, .ref a17, .int f18, .int f19, .ref a20, .ref a21, .int (nI u22), .ref a23, .ref a24, .ref a25, .int (nI u26), .int f27, .ref a28, .int (nI u29)])), (a0, .inl (κ 0, 21375, .inl w)), (a17, .inl (κ 0, 7123, .inl g_a17__45))] := hD
                  replace hp_46 : Pd g_a17__45 ∧ g_a17__45 1 = ga17_157 1 ∧ g_a17__45 2 = nI (n_35 + 1) := hp_46
                  obtain ⟨h_47, h_48, h_49⟩ := hp_46
                  refine W.eq (g2 := F0 m 233 ls []) rfl ?_
                  refine lv_iinc (v := (nI (k7_157 + 1))) (lv' := [(7, .int (nI (k7_157 + 1))), (6, .int (nI k6_144)), (0, .ref m0), (1, .int (nI a)), (2, .int (nI co)), (3, .int (nI d)), (4, .int (nI k)), (5, .int zt)]) hx hb dX12_joins_233 hl (k := 0) rfl (nI_i k7_157) (by decide) rfl (fun ls hl => ?_)
                  refine lv_goto (tgt := 157) hx hb dX12_joins_236 (by decide) ?_
                  exact ih157 _ _ _ _ (by omega) ⟨(k7_157 + 1), g_a17__45, (by omega), h_47, rfl, hP, hD, hS, lv_sub hl [0, 1, 2, 3, 4, 5, 6, 7] rfl⟩
                · have nc_36 := cv_eq (a := n_35) (b := 40) (by omega) (by omega) c_36
                  refine lv_iconst (v := 0) hx hb dX12_joins_209 (by decide) ?_
                  exact ct_iret hx hb hr hlk rfl hS hP hD (0, ga17_157) rfl ⟨(show Pd ga17_157 from (by first | assumption | omega | rfl | exact Or.inl (by assumption) | exact Or.inr (by assumption))), (by exact Or.inr ((rfl)))⟩ [0, 1, 2] rfl (by decide) trivial (Nat.le_of_ble_eq_true rfl) (Nat.le_of_ble_eq_true rfl) dX12_joins_210
              · refine W.eq (g2 := F0 m 192 ls [.int 0]) rfl ?_
                refine lv_if_ne (tgt := 198) hx hb dX12_joins_192 (by decide) (fun c_50 => absurd c_50 (by decide)) (fun c_50 => ?_)
                refine lv_goto (tgt := 233) hx hb dX12_joins_195 (by decide) ?_
                refine lv_iinc (v := (nI (k7_157 + 1))) (lv' := [(7, .int (nI (k7_157 + 1))), (6, .int (nI k6_144)), (0, .ref m0), (1, .int (nI a)), (2, .int (nI co)), (3, .int (nI d)), (4, .int (nI k)), (5, .int zt)]) hx hb dX12_joins_233 hl (k := 0) rfl (nI_i k7_157) (by decide) rfl (fun ls hl => ?_)
                refine lv_goto (tgt := 157) hx hb dX12_joins_236 (by decide) ?_
                exact ih157 _ _ _ _ (by omega) ⟨(k7_157 + 1), ga17_157, (by omega), hg157_0, rfl, hP, hD, hS, lv_sub hl [0, 1, 2, 3, 4, 5, 6, 7] rfl⟩
        · have nc_12 := cv_nle (a := n_7) (b := k6_101) (by omega) (by omega) c_12
          refine lv_iload hx hb dX12_joins_116 (lv_at hl 0 rfl) ?_
          refine lv_iload hx hb dX12_joins_118 (lv_at hl 5 rfl) ?_
          refine lv_icmp_eq (tgt := 135) hx hb dX12_joins_120 (by decide) (fun c_51 => ?_) (fun c_51 => ?_)
          · have nc_51 := cv_eq (a := k6_101) (b := k) (by omega) (by omega) c_51
            refine lv_iinc (v := (nI (k6_101 + 1))) (lv' := [(6, .int (nI (k6_101 + 1))), (0, .ref m0), (1, .int (nI a)), (2, .int (nI co)), (3, .int (nI d)), (4, .int (nI k)), (5, .int zt)]) hx hb dX12_joins_135 hl (k := 0) rfl (nI_i k6_101) (by decide) rfl (fun ls hl => ?_)
            refine lv_goto (tgt := 101) hx hb dX12_joins_138 (by decide) ?_
            exact ih101 _ _ _ _ (by omega) ⟨(k6_101 + 1), ga17_101, (by omega), (j_skip (by assumption) hl101_1), hg101_0, rfl, hP, hD, hS, lv_sub hl [0, 1, 2, 3, 4, 5, 6] rfl⟩
          · have nc_51 := cv_ne (a := k6_101) (b := k) (by omega) (by omega) c_51
            obtain ⟨n9, hn7, hn9, hg9⟩ : ∃ n9 : Nat, n9 ≤ 7 ∧ ((k6_101 < k ∧ n9 = n_5 + k6_101) ∨ (k < k6_101 ∧ n9 + 1 = n_5 + k6_101)) ∧ ga17_101 1 = nI n9 := by
              rcases hl101_1 with q9 | q9
              · exact ⟨n_5 + k6_101, by omega, Or.inl ⟨by omega, rfl⟩, q9.2⟩
              · exact ⟨n_5 + k6_101 - 1, by omega, Or.inr ⟨by omega, by omega⟩, q9.2⟩
            refine lv_aload_n hx hb dX12_joins_123 rfl (lv_at hl 1 rfl) ?_
            refine lv_iload_n hx hb dX12_joins_124 rfl (lv_at hl 4 rfl) ?_
            refine lv_iload hx hb dX12_joins_125 (lv_at hl 0 rfl) ?_
            refine ct_V (wr := []) (As := [.int (nI d), .int (nI k6_101)]) (rest := []) hFX hKK hP hD hS hA (s_X12_addsColumn l D κ m0 a0 a1 a2 u3 f4 a5 u6 f7 f8 f9 f10 u11 u12 u13 a14 a15 a16 a17 f18 f19 a20 a21 u22 a23 a24 a25 u26 f27 a28 u29 w ga17_101 d k6_101 n9 h_a0 hg101_0 (by omega) (by omega) (by assumption) (by omega)) 2 gV_X12_421 hdV_X12_addsColumn ⟨Nat.le_of_ble_eq_true rfl, Nat.le_of_ble_eq_true rfl⟩ rfl rfl (Nat.le_of_ble_eq_true rfl) dX12_joins_127 ⟨Nat.le_of_ble_eq_true rfl, Nat.le_of_ble_eq_true rfl⟩ hl.1 [0, 1, 2] [] rfl rfl (by decide) (by decide) (by decide) 0 12 rfl rfl rfl trivial (fun u_54 H locs hp_55 _ hP hD hS hz_ hk_ => ?_)
            obtain ⟨r__52, g_a17__53⟩ := u_54
            replace hP : va_P D vwCl [(m0, .inr (12, [.ref a0, .ref a1, .ref a2, .int (nI u3), .int f4, .ref a5, .int (nI u6), .int f7, .int f8, .int f9, .int f10, .int (nI u11), .int (nI u12), .int (nI u13), .ref a14, .ref a15, .ref a16, .ref a17, .int f18, .int f19, .ref a20, .ref a21, .int (nI u22), .ref a23, .ref a24, .ref a25, .int (nI u26), .int f27, .ref a28, .int (nI u29)])), (a0, .inl (κ 0, 21375, .inl w)), (a17, .inl (κ 0, 7123, .inl g_a17__53))] H := hP
            replace hD : va_D A [(m0, .inr (12, [.ref a0, .ref a1, .ref a2, .int (nI u3), .int f4, .ref a5, .int (nI u6), .int f7, .int f8, .int f9, .int f10, .int (nI u11), .int (nI u12), .int (nI u13), .ref a14, .ref a15, .ref a16, .ref a17, .int f18, .int f19, .ref a20, .ref a21, .int (nI u22), .ref a23, .ref a24, .ref a25, .int (nI u26), .int f27, .ref a28, .int (nI u29)])), (a0, .inl (κ 0, 21375, .inl w)), (a17, .inl (κ 0, 7123, .inl g_a17__53))] := hD
            replace hp_55 : Pd g_a17__53 ∧ ((r__52 = 1 ∧ g_a17__53 1 = nI (n9 + 1) ∧ g_a17__53 2 = ga17_101 2) ∨ (r__52 = 0)) := hp_55
            obtain ⟨h_56, ha_57⟩ := hp_55
            rcases ha_57 with ⟨rfl, a_58, a_59⟩ | rfl
            · refine W.eq (g2 := F0 m 130 ls [.int 1]) rfl ?_
              refine lv_if_ne (tgt := 135) hx hb dX12_joins_130 (by decide) (fun c_60 => ?_) (fun c_60 => absurd c_60 (by decide))
              refine lv_iinc (v := (nI (k6_101 + 1))) (lv' := [(6, .int (nI (k6_101 + 1))), (0, .ref m0), (1, .int (nI a)), (2, .int (nI co)), (3, .int (nI d)), (4, .int (nI k)), (5, .int zt)]) hx hb dX12_joins_135 hl (k := 0) rfl (nI_i k6_101) (by decide) rfl (fun ls hl => ?_)
              refine lv_goto (tgt := 101) hx hb dX12_joins_138 (by decide) ?_
              exact ih101 _ _ _ _ (by omega) ⟨(k6_101 + 1), g_a17__53, (by omega), (by rcases hn9 with q9 | q9 <;> first | exact Or.inl ⟨by omega, by rw [a_58]; first | done | (congr 1; omega)⟩ | exact Or.inr ⟨by omega, by rw [a_58]; first | done | (congr 1; omega)⟩), h_56, rfl, hP, hD, hS, lv_sub hl [0, 1, 2, 3, 4, 5, 6] rfl⟩
            · refine W.eq (g2 := F0 m 130 ls [.int 0]) rfl ?_
              refine lv_if_ne (tgt := 135) hx hb dX12_joins_130 (by decide) (fun c_61 => absurd c_61 (by decide)) (fun c_61 => ?_)
              refine lv_iconst (v := 0) hx hb dX12_joins_133 (by decide) ?_
              exact ct_iret hx hb hr hlk rfl hS hP hD (0, g_a17__53) rfl ⟨(show Pd g_a17__53 from (by first | assumption | omega | rfl | exact Or.inl (by assumption) | exact Or.inr (by assumption))), (by exact Or.inr ((rfl)))⟩ [0, 1, 2] rfl (by decide) trivial (Nat.le_of_ble_eq_true rfl) (Nat.le_of_ble_eq_true rfl) dX12_joins_134
      · have nc_10 := cv_nle (a := n_5) (b := k6_65) (by omega) (by omega) c_10
        refine lv_aload_n hx hb dX12_joins_80 rfl (lv_at hl 1 rfl) ?_
        refine lv_iload_n hx hb dX12_joins_81 rfl (lv_at hl 2 rfl) ?_
        refine lv_iload hx hb dX12_joins_82 (lv_at hl 0 rfl) ?_
        refine ct_V (wr := []) (As := [.int (nI a), .int (nI k6_65)]) (rest := []) hFX hKK hP hD hS hA (s_X12_addsColumn l D κ m0 a0 a1 a2 u3 f4 a5 u6 f7 f8 f9 f10 u11 u12 u13 a14 a15 a16 a17 f18 f19 a20 a21 u22 a23 a24 a25 u26 f27 a28 u29 w ga17_65 a k6_65 k6_65 h_a0 hg65_0 (by omega) (by omega) (by assumption) (by omega)) 2 gV_X12_421 hdV_X12_addsColumn ⟨Nat.le_of_ble_eq_true rfl, Nat.le_of_ble_eq_true rfl⟩ rfl rfl (Nat.le_of_ble_eq_true rfl) dX12_joins_84 ⟨Nat.le_of_ble_eq_true rfl, Nat.le_of_ble_eq_true rfl⟩ hl.1 [0, 1, 2] [] rfl rfl (by decide) (by decide) (by decide) 0 12 rfl rfl rfl trivial (fun u_64 H locs hp_65 _ hP hD hS hz_ hk_ => ?_)
        obtain ⟨r__62, g_a17__63⟩ := u_64
        replace hP : va_P D vwCl [(m0, .inr (12, [.ref a0, .ref a1, .ref a2, .int (nI u3), .int f4, .ref a5, .int (nI u6), .int f7, .int f8, .int f9, .int f10, .int (nI u11), .int (nI u12), .int (nI u13), .ref a14, .ref a15, .ref a16, .ref a17, .int f18, .int f19, .ref a20, .ref a21, .int (nI u22), .ref a23, .ref a24, .ref a25, .int (nI u26), .int f27, .ref a28, .int (nI u29)])), (a0, .inl (κ 0, 21375, .inl w)), (a17, .inl (κ 0, 7123, .inl g_a17__63))] H := hP
        replace hD : va_D A [(m0, .inr (12, [.ref a0, .ref a1, .ref a2, .int (nI u3), .int f4, .ref a5, .int (nI u6), .int f7, .int f8, .int f9, .int f10, .int (nI u11), .int (nI u12), .int (nI u13), .ref a14, .ref a15, .ref a16, .ref a17, .int f18, .int f19, .ref a20, .ref a21, .int (nI u22), .ref a23, .ref a24, .ref a25, .int (nI u26), .int f27, .ref a28, .int (nI u29)])), (a0, .inl (κ 0, 21375, .inl w)), (a17, .inl (κ 0, 7123, .inl g_a17__63))] := hD
        replace hp_65 : Pd g_a17__63 ∧ ((r__62 = 1 ∧ g_a17__63 1 = nI (k6_65 + 1) ∧ g_a17__63 2 = ga17_65 2) ∨ (r__62 = 0)) := hp_65
        obtain ⟨h_66, ha_67⟩ := hp_65
        rcases ha_67 with ⟨rfl, a_68, a_69⟩ | rfl
        · refine W.eq (g2 := F0 m 87 ls [.int 1]) rfl ?_
          refine lv_if_ne (tgt := 92) hx hb dX12_joins_87 (by decide) (fun c_70 => ?_) (fun c_70 => absurd c_70 (by decide))
          refine lv_iinc (v := (nI (k6_65 + 1))) (lv' := [(6, .int (nI (k6_65 + 1))), (0, .ref m0), (1, .int (nI a)), (2, .int (nI co)), (3, .int (nI d)), (4, .int (nI k)), (5, .int zt)]) hx hb dX12_joins_92 hl (k := 0) rfl (nI_i k6_65) (by decide) rfl (fun ls hl => ?_)
          refine lv_goto (tgt := 65) hx hb dX12_joins_95 (by decide) ?_
          exact ih65 _ _ _ _ (by omega) ⟨(k6_65 + 1), g_a17__63, (by omega), a_68, h_66, rfl, hP, hD, hS, lv_sub hl [0, 1, 2, 3, 4, 5, 6] rfl⟩
        · refine W.eq (g2 := F0 m 87 ls [.int 0]) rfl ?_
          refine lv_if_ne (tgt := 92) hx hb dX12_joins_87 (by decide) (fun c_71 => absurd c_71 (by decide)) (fun c_71 => ?_)
          refine lv_iconst (v := 0) hx hb dX12_joins_90 (by decide) ?_
          exact ct_iret hx hb hr hlk rfl hS hP hD (0, g_a17__63) rfl ⟨(show Pd g_a17__63 from (by first | assumption | omega | rfl | exact Or.inl (by assumption) | exact Or.inr (by assumption))), (by exact Or.inr ((rfl)))⟩ [0, 1, 2] rfl (by decide) trivial (Nat.le_of_ble_eq_true rfl) (Nat.le_of_ble_eq_true rfl) dX12_joins_91
    · have nc_8 := cz_nle (a := (((n_5 + n_7 : Nat) : Int) - 1)) (b := (8 : Int)) (zI_toInt (by omega)) (by decide) c_8
      refine lv_iconst (v := 0) hx hb dX12_joins_60 (by decide) ?_
      exact ct_iret hx hb hr hlk rfl hS hP hD (0, g_2) rfl ⟨(show Pd g_2 from (by first | assumption | omega | rfl | exact Or.inl (by assumption) | exact Or.inr (by assumption))), (by exact Or.inr ((rfl)))⟩ [0, 1, 2] rfl (by decide) trivial (Nat.le_of_ble_eq_true rfl) (Nat.le_of_ble_eq_true rfl) dX12_joins_61
  · have nc_1 := cv_nle (a := 7123) (b := k6_3) (by omega) (by omega) c_1
    refine lv_aload_n hx hb dX12_joins_11 rfl (lv_at hl 1 rfl) ?_
    refine va_get (D := D) (ci := 12) (v := .ref a17) (C := RX12) (T := TX12) (N := 30) hx hb hts inlX12 hown hK hP 0 rfl rfl 17 (by decide) (hts _ mw_197) (fun _ h9 => h9) rfl dX12_joins_12 ?_
    refine lv_iload hx hb dX12_joins_15 (lv_at hl 0 rfl) ?_
    refine lv_iconst (v := 0) hx hb dX12_joins_17 (by decide) ?_
    refine va_iast hx hb hK hP hD hS 2 0 rfl rfl (i := nI k6_3) (x := 0) (vp_in_nI (n := k6_3) (by omega) (by omega)) dX12_joins_18 (fun H locs hP hD hS => ?_)
    rw [nI_clamp (by omega)] at hP hD
    have hP : va_P D vwCl [(m0, .inr (12, [.ref a0, .ref a1, .ref a2, .int (nI u3), .int f4, .ref a5, .int (nI u6), .int f7, .int f8, .int f9, .int f10, .int (nI u11), .int (nI u12), .int (nI u13), .ref a14, .ref a15, .ref a16, .ref a17, .int f18, .int f19, .ref a20, .ref a21, .int (nI u22), .ref a23, .ref a24, .ref a25, .int (nI u26), .int f27, .ref a28, .int (nI u29)])), (a0, .inl (κ 0, 21375, .inl w)), (a17, .inl (κ 0, 7123, .inl (upd ga17_3 k6_3 0)))] H := hP
    have hD : va_D A [(m0, .inr (12, [.ref a0, .ref a1, .ref a2, .int (nI u3), .int f4, .ref a5, .int (nI u6), .int f7, .int f8, .int f9, .int f10, .int (nI u11), .int (nI u12), .int (nI u13), .ref a14, .ref a15, .ref a16, .ref a17, .int f18, .int f19, .ref a20, .ref a21, .int (nI u22), .ref a23, .ref a24, .ref a25, .int (nI u26), .int f27, .ref a28, .int (nI u29)])), (a0, .inl (κ 0, 21375, .inl w)), (a17, .inl (κ 0, 7123, .inl (upd ga17_3 k6_3 0)))] := hD
    have hf_73 : Pd (upd ga17_3 k6_3 0) := (PL_put hg3_0 (fun _ _ => ⟨0, Nat.zero_le _, rfl⟩))
    have hq : ∀ i : Nat, i < k6_3 + 1 → (upd ga17_3 k6_3 0) i = nI 0 := (fun i9 h9 => z_ext h9 hl3_1)
    generalize upd ga17_3 k6_3 0 = g_72 at hP hD hf_73 hq
    refine lv_iinc (v := (nI (k6_3 + 1))) (lv' := [(6, .int (nI (k6_3 + 1))), (0, .ref m0), (1, .int (nI a)), (2, .int (nI co)), (3, .int (nI d)), (4, .int (nI k)), (5, .int zt)]) hx hb dX12_joins_19 hl (k := 0) rfl (nI_i k6_3) (by decide) rfl (fun ls hl => ?_)
    refine lv_goto (tgt := 3) hx hb dX12_joins_22 (by decide) ?_
    exact ih3 _ _ _ _ (by omega) ⟨(k6_3 + 1), g_72, (by omega), hq, hf_73, rfl, hP, hD, hS, lv_sub hl [0, 1, 2, 3, 4, 5, 6] rfl⟩
set_option maxHeartbeats 4000000 in
set_option maxRecDepth 100000 in
theorem s_X12_joined (l : Launch) (D : va_G) (κ : Nat → ClassId) (m0 : Nat) (a0 : Nat) (a1 : Nat) (a2 : Nat) (u3 : Nat) (f4 : Int32) (a5 : Nat) (u6 : Nat) (f7 : Int32) (f8 : Int32) (f9 : Int32) (f10 : Int32) (u11 : Nat) (u12 : Nat) (u13 : Nat) (a14 : Nat) (a15 : Nat) (a16 : Nat) (a17 : Nat) (f18 : Int32) (f19 : Int32) (a20 : Nat) (a21 : Nat) (u22 : Nat) (a23 : Nat) (a24 : Nat) (a25 : Nat) (u26 : Nat) (f27 : Int32) (a28 : Nat) (u29 : Nat) (w : Nat → Int32) (un : Nat → Int32) (dr : Nat → Int32) (za : Int32) (zb : Int32) (zc : Int32) (zd : Int32) (ze : Int32) (h3 : u3 ≤ 6) (h_a0 : Pw w) (h_a2 : Pu un) (h_a17 : Pd dr) : Ct l yX12_joined (wl yX12_joined cX12_joined 8 (some .int)) { frames := 9, cells := 0, slots := 0, locals := 213 } D κ [.ref m0, .int za, .int zb, .int zc, .int zd, .int ze] [(m0, .inr (12, [.ref a0, .ref a1, .ref a2, .int (nI u3), .int f4, .ref a5, .int (nI u6), .int f7, .int f8, .int f9, .int f10, .int (nI u11), .int (nI u12), .int (nI u13), .ref a14, .ref a15, .ref a16, .ref a17, .int f18, .int f19, .ref a20, .ref a21, .int (nI u22), .ref a23, .ref a24, .ref a25, .int (nI u26), .int f27, .ref a28, .int (nI u29)])), (a0, .inl (κ 0, 21375, .inl w)), (a2, .inl (κ 0, 128214, .inl un)), (a17, .inl (κ 0, 7123, .inl dr))] (fun _ => True) (fun u9 : Int32 × Nat × (Nat → Int32) × (Nat → Int32) × (Nat → Int32) => some (.int u9.1)) (fun u9 : Int32 × Nat × (Nat → Int32) × (Nat → Int32) × (Nat → Int32) => u9.2.1 ≤ 6 ∧ Pw u9.2.2.1 ∧ Pu u9.2.2.2.1 ∧ Pd u9.2.2.2.2) (fun u9 : Int32 × Nat × (Nat → Int32) × (Nat → Int32) × (Nat → Int32) => [(m0, .inr (12, [.ref a0, .ref a1, .ref a2, .int (nI u9.2.1), .int f4, .ref a5, .int (nI u6), .int f7, .int f8, .int f9, .int f10, .int (nI u11), .int (nI u12), .int (nI u13), .ref a14, .ref a15, .ref a16, .ref a17, .int f18, .int f19, .ref a20, .ref a21, .int (nI u22), .ref a23, .ref a24, .ref a25, .int (nI u26), .int f27, .ref a28, .int (nI u29)])), (a0, .inl (κ 0, 21375, .inl u9.2.2.1)), (a2, .inl (κ 0, 128214, .inl u9.2.2.2.1)), (a17, .inl (κ 0, 7123, .inl u9.2.2.2.2))]) (fun _ _ => True) := by
  refine ct_of (by decide +kernel) (Nat.le_of_ble_eq_true rfl) ?_
  intro p e s m args below meth c A ls hx hb hr hml hts hown hlk hin hKK hK hA hP hD hS hI hl
  have hS : va_S A s.heap s.heap [] := hS
  have hFX : FX p s m args c cX12_joined 8 RX12 := ⟨hx, hb, hml, hown, hts⟩
  have hl : lv_has ls 8 [(0, .ref m0), (1, .int za), (2, .int zb), (3, .int zc), (4, .int zd), (5, .int ze)] := hl
  refine lv_aload_n hx hb dX12_joined_0 rfl (lv_at hl 0 rfl) ?_
  refine lv_iload_n hx hb dX12_joined_1 rfl (lv_at hl 1 rfl) ?_
  refine lv_iload_n hx hb dX12_joined_2 rfl (lv_at hl 2 rfl) ?_
  refine cr_V (As := [.int za, .int zb]) (rest := []) hFX hKK (s2_X12_isColumn l D κ m0 a0 a1 a2 u3 f4 a5 u6 f7 f8 f9 f10 u11 u12 u13 a14 a15 a16 a17 f18 f19 a20 a21 u22 a23 a24 a25 u26 f27 a28 u29 w za zb h_a0) 2 gV_X12_312 hdV_X12_isColumn rfl rfl ⟨Nat.le_of_ble_eq_true rfl, Nat.le_of_ble_eq_true rfl⟩ rfl rfl (Nat.le_of_ble_eq_true rfl) dX12_joined_3 ⟨Nat.le_of_ble_eq_true rfl, Nat.le_of_ble_eq_true rfl⟩ hl.1 hP 0 12 rfl rfl rfl (hP.sub [0, 1] rfl) (fun r__1 hp_2 => ?_)
  replace hp_2 : ((r__1 = 1 ∧ (∃ j : Nat, j < 3 ∧ za = nI j) ∧ (∃ c : Nat, (c < 8 ∧ ∀ j9 : Nat, za = nI j9 → j9 < 3 → c < nv (w (7123 * j9 + 1))) ∧ zb = nI c)) ∨ (r__1 = 0)) := hp_2
  have ha_3 := hp_2
  clear hp_2
  rcases ha_3 with ⟨rfl, ⟨j_4, hj_4, rfl⟩, ⟨c_6, ⟨hc_6, a_8⟩, rfl⟩⟩ | rfl
  · refine W.eq (g2 := F0 m 6 ls [.int 1]) rfl ?_
    refine lv_if_eq (tgt := 44) hx hb dX12_joined_6 (by decide) (fun c_9 => absurd c_9 (by decide)) (fun c_9 => ?_)
    refine lv_aload_n hx hb dX12_joined_9 rfl (lv_at hl 0 rfl) ?_
    refine lv_iload_n hx hb dX12_joined_10 rfl (lv_at hl 3 rfl) ?_
    refine lv_iload hx hb dX12_joined_11 (lv_at hl 4 rfl) ?_
    refine cr_V (As := [.int zc, .int zd]) (rest := []) hFX hKK (s2_X12_isColumn l D κ m0 a0 a1 a2 u3 f4 a5 u6 f7 f8 f9 f10 u11 u12 u13 a14 a15 a16 a17 f18 f19 a20 a21 u22 a23 a24 a25 u26 f27 a28 u29 w zc zd h_a0) 2 gV_X12_312 hdV_X12_isColumn rfl rfl ⟨Nat.le_of_ble_eq_true rfl, Nat.le_of_ble_eq_true rfl⟩ rfl rfl (Nat.le_of_ble_eq_true rfl) dX12_joined_13 ⟨Nat.le_of_ble_eq_true rfl, Nat.le_of_ble_eq_true rfl⟩ hl.1 hP 0 12 rfl rfl rfl (hP.sub [0, 1] rfl) (fun r__10 hp_11 => ?_)
    replace hp_11 : ((r__10 = 1 ∧ (∃ j : Nat, j < 3 ∧ zc = nI j) ∧ (∃ c : Nat, (c < 8 ∧ ∀ j9 : Nat, zc = nI j9 → j9 < 3 → c < nv (w (7123 * j9 + 1))) ∧ zd = nI c)) ∨ (r__10 = 0)) := hp_11
    have ha_12 := hp_11
    clear hp_11
    rcases ha_12 with ⟨rfl, ⟨j_13, hj_13, rfl⟩, ⟨c_15, ⟨hc_15, a_17⟩, rfl⟩⟩ | rfl
    · refine W.eq (g2 := F0 m 16 ls [.int 1]) rfl ?_
      refine lv_if_eq (tgt := 44) hx hb dX12_joined_16 (by decide) (fun c_18 => absurd c_18 (by decide)) (fun c_18 => ?_)
      refine lv_iload hx hb dX12_joined_19 (lv_at hl 5 rfl) ?_
      refine lv_i2l (v := ze.toInt64) hx hb dX12_joined_21 rfl ?_
      refine lv_lconst (v := 0) hx hb dX12_joined_22 (by decide) ?_
      refine lv_ldc2 hx hb hown (hts _ mw_413) dX12_joined_23 ?_
      refine cr_S (As := [.long ze.toInt64, .long 0, .long 2]) (rest := []) hFX hKK (s_X12_isIn l D κ ze.toInt64 0 2) 3 gS_X12_62 hdS_X12_isIn rfl rfl ⟨Nat.le_of_ble_eq_true rfl, Nat.le_of_ble_eq_true rfl⟩ rfl rfl (Nat.le_of_ble_eq_true rfl) dX12_joined_26 ⟨Nat.le_of_ble_eq_true rfl, Nat.le_of_ble_eq_true rfl⟩ hl.1 (hP.sub [] rfl) (fun r__19 hp_20 => ?_)
      replace hp_20 : ((r__19 = 1 ∧ ¬ lg_cmp ze.toInt64 (0 : Int64) < 0 ∧ ¬ 0 < lg_cmp ze.toInt64 (2 : Int64)) ∨ (r__19 = 0 ∧ (lg_cmp ze.toInt64 (0 : Int64) < 0 ∨ 0 < lg_cmp ze.toInt64 (2 : Int64)))) := hp_20
      have ha_21 := hp_20
      clear hp_20
      rcases ha_21 with ⟨rfl, a_22, a_23⟩ | ⟨rfl, a_24⟩
      · refine W.eq (g2 := F0 m 29 ls [.int 1]) rfl ?_
        have hin_25 : (0 : Int) ≤ ze.toInt ∧ ze.toInt ≤ (2 : Int) := l_in (l_of rfl) (by decide) (by decide) a_22 a_23
        obtain ⟨j_26, hj_26, rfl⟩ : ∃ j9 : Nat, (j9 : Int) ≤ (2 : Int) ∧ ze = nI j9 := i_nat (by omega) (by omega)
        refine lv_if_eq (tgt := 44) hx hb dX12_joined_29 (by decide) (fun c_27 => absurd c_27 (by decide)) (fun c_27 => ?_)
        refine lv_iload hx hb dX12_joined_32 (lv_at hl 5 rfl) ?_
        refine lv_iload_n hx hb dX12_joined_34 rfl (lv_at hl 1 rfl) ?_
        refine lv_icmp_eq (tgt := 44) hx hb dX12_joined_35 (by decide) (fun c_28 => ?_) (fun c_28 => ?_)
        · have nc_28 := cv_eq (a := j_26) (b := j_4) (by omega) (by omega) c_28
          refine lv_iconst (v := (-1)) hx hb dX12_joined_44 (by decide) ?_
          exact ct_iret hx hb hr hlk rfl hS hP hD ((-1), u3, w, un, dr) rfl ⟨(show u3 ≤ 6 from (by first | assumption | omega | rfl | exact Or.inl (by assumption) | exact Or.inr (by assumption))), (show Pw w from (by first | assumption | omega | rfl | exact Or.inl (by assumption) | exact Or.inr (by assumption))), (show Pu un from (by first | assumption | omega | rfl | exact Or.inl (by assumption) | exact Or.inr (by assumption))), (show Pd dr from (by first | assumption | omega | rfl | exact Or.inl (by assumption) | exact Or.inr (by assumption)))⟩ [0, 1, 2, 3] rfl (by decide) trivial (Nat.le_of_ble_eq_true rfl) (Nat.le_of_ble_eq_true rfl) dX12_joined_45
        · have nc_28 := cv_ne (a := j_26) (b := j_4) (by omega) (by omega) c_28
          refine lv_iload hx hb dX12_joined_38 (lv_at hl 5 rfl) ?_
          refine lv_iload_n hx hb dX12_joined_40 rfl (lv_at hl 3 rfl) ?_
          refine lv_icmp_ne (tgt := 46) hx hb dX12_joined_41 (by decide) (fun c_29 => ?_) (fun c_29 => ?_)
          · have nc_29 := cv_ne (a := j_26) (b := j_13) (by omega) (by omega) c_29
            refine lv_aload_n hx hb dX12_joined_46 rfl (lv_at hl 0 rfl) ?_
            refine lv_iload_n hx hb dX12_joined_47 rfl (lv_at hl 1 rfl) ?_
            refine lv_iload_n hx hb dX12_joined_48 rfl (lv_at hl 2 rfl) ?_
            refine lv_iload_n hx hb dX12_joined_49 rfl (lv_at hl 3 rfl) ?_
            refine lv_iload hx hb dX12_joined_50 (lv_at hl 4 rfl) ?_
            refine cr_V (As := [.int (nI j_4), .int (nI c_6), .int (nI j_13), .int (nI c_15)]) (rest := []) hFX hKK (s_X12_matching l D κ m0 a0 a1 a2 u3 f4 a5 u6 f7 f8 f9 f10 u11 u12 u13 a14 a15 a16 a17 f18 f19 a20 a21 u22 a23 a24 a25 u26 f27 a28 u29 w j_4 c_6 j_13 c_15 h_a0 (by omega) (by omega) (by omega) (by omega)) 4 gV_X12_411 hdV_X12_matching rfl rfl ⟨Nat.le_of_ble_eq_true rfl, Nat.le_of_ble_eq_true rfl⟩ rfl rfl (Nat.le_of_ble_eq_true rfl) dX12_joined_52 ⟨Nat.le_of_ble_eq_true rfl, Nat.le_of_ble_eq_true rfl⟩ hl.1 hP 0 12 rfl rfl rfl (hP.sub [0, 1] rfl) (fun r__30 hp_31 => ?_)
            refine W.eq (g2 := F0 m 55 ls [.int r__30]) rfl ?_
            refine lv_istore (lv' := [(6, .int r__30), (0, .ref m0), (1, .int (nI j_4)), (2, .int (nI c_6)), (3, .int (nI j_13)), (4, .int (nI c_15)), (5, .int (nI j_26))]) hx hb dX12_joined_55 hl (by decide) rfl (fun ls hl => ?_)
            refine lv_iload hx hb dX12_joined_57 (lv_at hl 0 rfl) ?_
            refine lv_iconst (v := (-1)) hx hb dX12_joined_59 (by decide) ?_
            refine lv_icmp_eq (tgt := 77) hx hb dX12_joined_60 (by decide) (fun c_32 => ?_) (fun c_32 => ?_)
            · refine lv_iconst (v := (-1)) hx hb dX12_joined_77 (by decide) ?_
              exact ct_iret hx hb hr hlk rfl hS hP hD ((-1), u3, w, un, dr) rfl ⟨(show u3 ≤ 6 from (by first | assumption | omega | rfl | exact Or.inl (by assumption) | exact Or.inr (by assumption))), (show Pw w from (by first | assumption | omega | rfl | exact Or.inl (by assumption) | exact Or.inr (by assumption))), (show Pu un from (by first | assumption | omega | rfl | exact Or.inl (by assumption) | exact Or.inr (by assumption))), (show Pd dr from (by first | assumption | omega | rfl | exact Or.inl (by assumption) | exact Or.inr (by assumption)))⟩ [0, 1, 2, 3] rfl (by decide) trivial (Nat.le_of_ble_eq_true rfl) (Nat.le_of_ble_eq_true rfl) dX12_joined_78
            · refine lv_aload_n hx hb dX12_joined_63 rfl (lv_at hl 1 rfl) ?_
              refine lv_iload_n hx hb dX12_joined_64 rfl (lv_at hl 2 rfl) ?_
              refine lv_iload_n hx hb dX12_joined_65 rfl (lv_at hl 3 rfl) ?_
              refine lv_iload_n hx hb dX12_joined_66 rfl (lv_at hl 4 rfl) ?_
              refine lv_iload hx hb dX12_joined_67 (lv_at hl 5 rfl) ?_
              refine lv_iload hx hb dX12_joined_69 (lv_at hl 0 rfl) ?_
              refine ct_V (wr := [(a2, .inl (κ 0, 128214, .inl un))]) (As := [.int (nI j_4), .int (nI c_6), .int (nI j_13), .int (nI c_15), .int r__30]) (rest := []) hFX hKK hP hD hS hA (s_X12_joins l D κ m0 a0 a1 a2 u3 f4 a5 u6 f7 f8 f9 f10 u11 u12 u13 a14 a15 a16 a17 f18 f19 a20 a21 u22 a23 a24 a25 u26 f27 a28 u29 w dr r__30 j_4 c_6 j_13 c_15 h_a0 h_a17 (by omega) (by omega) (by omega) (by omega) (a_17 _ rfl (by omega))) 5 gV_X12_428 hdV_X12_joins ⟨Nat.le_of_ble_eq_true rfl, Nat.le_of_ble_eq_true rfl⟩ rfl rfl (Nat.le_of_ble_eq_true rfl) dX12_joined_71 ⟨Nat.le_of_ble_eq_true rfl, Nat.le_of_ble_eq_true rfl⟩ hl.1 [0, 1, 3] [2] rfl rfl (by decide) (by decide) (by decide) 0 12 rfl rfl rfl trivial (fun u_35 H locs hp_36 _ hP hD hS hz_ hk_ => ?_)
              obtain ⟨r__33, g_a17__34⟩ := u_35
              replace hP : va_P D vwCl [(m0, .inr (12, [.ref a0, .ref a1, .ref a2, .int (nI u3), .int f4, .ref a5, .int (nI u6), .int f7, .int f8, .int f9, .int f10, .int (nI u11), .int (nI u12), .int (nI u13), .ref a14, .ref a15, .ref a16, .ref a17, .int f18, .int f19, .ref a20, .ref a21, .int (nI u22), .ref a23, .ref a24, .ref a25, .int (nI u26), .int f27, .ref a28, .int (nI u29)])), (a0, .inl (κ 0, 21375, .inl w)), (a2, .inl (κ 0, 128214, .inl un)), (a17, .inl (κ 0, 7123, .inl g_a17__34))] H := hP.sub [1, 2, 0, 3] rfl
              replace hD : va_D A [(m0, .inr (12, [.ref a0, .ref a1, .ref a2, .int (nI u3), .int f4, .ref a5, .int (nI u6), .int f7, .int f8, .int f9, .int f10, .int (nI u11), .int (nI u12), .int (nI u13), .ref a14, .ref a15, .ref a16, .ref a17, .int f18, .int f19, .ref a20, .ref a21, .int (nI u22), .ref a23, .ref a24, .ref a25, .int (nI u26), .int f27, .ref a28, .int (nI u29)])), (a0, .inl (κ 0, 21375, .inl w)), (a2, .inl (κ 0, 128214, .inl un)), (a17, .inl (κ 0, 7123, .inl g_a17__34))] := hD.sub [1, 2, 0, 3] (by decide) rfl
              replace hp_36 : Pd g_a17__34 ∧ ((r__33 = 1) ∨ (r__33 = 0)) := hp_36
              obtain ⟨h_37, ha_38⟩ := hp_36
              rcases ha_38 with rfl | rfl
              · refine W.eq (g2 := F0 m 74 ls [.int 1]) rfl ?_
                refine lv_if_ne (tgt := 79) hx hb dX12_joined_74 (by decide) (fun c_39 => ?_) (fun c_39 => absurd c_39 (by decide))
                refine lv_aload_n hx hb dX12_joined_79 rfl (lv_at hl 1 rfl) ?_
                refine ct_V (wr := [(a17, .inl (κ 0, 7123, .inl g_a17__34))]) (As := []) (rest := []) hFX hKK hP hD hS hA (s_X12_remembers l D κ m0 a0 a1 a2 u3 f4 a5 u6 f7 f8 f9 f10 u11 u12 u13 a14 a15 a16 a17 f18 f19 a20 a21 u22 a23 a24 a25 u26 f27 a28 u29 w un (by omega) h_a0 h_a2) 0 gV_X12_296 hdV_X12_remembers ⟨Nat.le_of_ble_eq_true rfl, Nat.le_of_ble_eq_true rfl⟩ rfl rfl (Nat.le_of_ble_eq_true rfl) dX12_joined_80 ⟨Nat.le_of_ble_eq_true rfl, Nat.le_of_ble_eq_true rfl⟩ hl.1 [0, 1, 2] [3] rfl rfl (by decide) (by decide) (by decide) 0 12 rfl rfl rfl trivial (fun u_42 H locs hp_43 _ hP hD hS hz_ hk_ => ?_)
                obtain ⟨y3__40, g_a2__41⟩ := u_42
                replace hP : va_P D vwCl [(m0, .inr (12, [.ref a0, .ref a1, .ref a2, .int (nI y3__40), .int f4, .ref a5, .int (nI u6), .int f7, .int f8, .int f9, .int f10, .int (nI u11), .int (nI u12), .int (nI u13), .ref a14, .ref a15, .ref a16, .ref a17, .int f18, .int f19, .ref a20, .ref a21, .int (nI u22), .ref a23, .ref a24, .ref a25, .int (nI u26), .int f27, .ref a28, .int (nI u29)])), (a0, .inl (κ 0, 21375, .inl w)), (a2, .inl (κ 0, 128214, .inl g_a2__41)), (a17, .inl (κ 0, 7123, .inl g_a17__34))] H := hP.sub [1, 2, 3, 0] rfl
                replace hD : va_D A [(m0, .inr (12, [.ref a0, .ref a1, .ref a2, .int (nI y3__40), .int f4, .ref a5, .int (nI u6), .int f7, .int f8, .int f9, .int f10, .int (nI u11), .int (nI u12), .int (nI u13), .ref a14, .ref a15, .ref a16, .ref a17, .int f18, .int f19, .ref a20, .ref a21, .int (nI u22), .ref a23, .ref a24, .ref a25, .int (nI u26), .int f27, .ref a28, .int (nI u29)])), (a0, .inl (κ 0, 21375, .inl w)), (a2, .inl (κ 0, 128214, .inl g_a2__41)), (a17, .inl (κ 0, 7123, .inl g_a17__34))] := hD.sub [1, 2, 3, 0] (by decide) rfl
                replace hp_43 : y3__40 ≤ 6 ∧ Pu g_a2__41 := hp_43
                obtain ⟨h_44, h_45⟩ := hp_43
                refine W.eq (g2 := F0 m 83 ls []) rfl ?_
                refine lv_iconst (v := 0) hx hb dX12_joined_83 (by decide) ?_
                refine lv_istore (lv' := [(7, .int 0), (6, .int r__30), (0, .ref m0), (1, .int (nI j_4)), (2, .int (nI c_6)), (3, .int (nI j_13)), (4, .int (nI c_15)), (5, .int (nI j_26))]) hx hb dX12_joined_84 hl (by decide) rfl (fun ls hl => ?_)
                refine loop_dn (fun k9 H locs ls => ∃ (k7_86 : Nat), ∃ (ga0_86 : Nat → Int32), (k7_86 ≤ 7123) ∧ Pw ga0_86 ∧ 7123 - k7_86 = k9 ∧ va_P D vwCl [(m0, .inr (12, [.ref a0, .ref a1, .ref a2, .int (nI y3__40), .int f4, .ref a5, .int (nI u6), .int f7, .int f8, .int f9, .int f10, .int (nI u11), .int (nI u12), .int (nI u13), .ref a14, .ref a15, .ref a16, .ref a17, .int f18, .int f19, .ref a20, .ref a21, .int (nI u22), .ref a23, .ref a24, .ref a25, .int (nI u26), .int f27, .ref a28, .int (nI u29)])), (a0, .inl (κ 0, 21375, .inl ga0_86)), (a2, .inl (κ 0, 128214, .inl g_a2__41)), (a17, .inl (κ 0, 7123, .inl g_a17__34))] H ∧ va_D A [(m0, .inr (12, [.ref a0, .ref a1, .ref a2, .int (nI y3__40), .int f4, .ref a5, .int (nI u6), .int f7, .int f8, .int f9, .int f10, .int (nI u11), .int (nI u12), .int (nI u13), .ref a14, .ref a15, .ref a16, .ref a17, .int f18, .int f19, .ref a20, .ref a21, .int (nI u22), .ref a23, .ref a24, .ref a25, .int (nI u26), .int f27, .ref a28, .int (nI u29)])), (a0, .inl (κ 0, 21375, .inl ga0_86)), (a2, .inl (κ 0, 128214, .inl g_a2__41)), (a17, .inl (κ 0, 7123, .inl g_a17__34))] ∧ va_S A s.heap H locs ∧ lv_has ls 8 [(7, .int (nI k7_86)), (6, .int r__30), (0, .ref m0), (1, .int (nI j_4)), (2, .int (nI c_6)), (3, .int (nI j_13)), (4, .int (nI c_15)), (5, .int (nI j_26))]) (fun k9 H locs ls hI86 ih86 => ?_) (7123 - 0) _ _ _ ⟨0, w, (by omega), h_a0, rfl, hP, hD, hS, lv_sub hl [0, 1, 2, 3, 4, 5, 6, 7] rfl⟩
                obtain ⟨k7_86, ga0_86, hl86_0, hg86_0, hm86, hP, hD, hS, hl⟩ := hI86
                refine lv_iload hx hb dX12_joined_86 (lv_at hl 0 rfl) ?_
                refine lv_sipush (v := 7123) hx hb dX12_joined_88 (by decide) ?_
                refine lv_icmp_ge (tgt := 119) hx hb dX12_joined_91 (by decide) (fun c_46 => ?_) (fun c_46 => ?_)
                · have nc_46 := cv_le (a := 7123) (b := k7_86) (by omega) (by omega) c_46
                  refine lv_aload_n hx hb dX12_joined_119 rfl (lv_at hl 2 rfl) ?_
                  refine lv_iload hx hb dX12_joined_120 (lv_at hl 7 rfl) ?_
                  refine ct_V (wr := [(a2, .inl (κ 0, 128214, .inl g_a2__41)), (a17, .inl (κ 0, 7123, .inl g_a17__34))]) (As := [.int (nI j_26)]) (rest := []) hFX hKK hP hD hS hA (s_X12_viewsOff l D κ m0 a0 a1 a2 y3__40 f4 a5 u6 f7 f8 f9 f10 u11 u12 u13 a14 a15 a16 a17 f18 f19 a20 a21 u22 a23 a24 a25 u26 f27 a28 u29 ga0_86 j_26 hg86_0 (by omega)) 1 gV_X12_77 hdV_X12_viewsOff ⟨Nat.le_of_ble_eq_true rfl, Nat.le_of_ble_eq_true rfl⟩ rfl rfl (Nat.le_of_ble_eq_true rfl) dX12_joined_122 ⟨Nat.le_of_ble_eq_true rfl, Nat.le_of_ble_eq_true rfl⟩ hl.1 [0, 1] [2, 3] rfl rfl (by decide) (by decide) (by decide) 0 12 rfl rfl rfl trivial (fun g_a0__47 H locs hp_48 _ hP hD hS hz_ hk_ => ?_)
                  replace hP : va_P D vwCl [(m0, .inr (12, [.ref a0, .ref a1, .ref a2, .int (nI y3__40), .int f4, .ref a5, .int (nI u6), .int f7, .int f8, .int f9, .int f10, .int (nI u11), .int (nI u12), .int (nI u13), .ref a14, .ref a15, .ref a16, .ref a17, .int f18, .int f19, .ref a20, .ref a21, .int (nI u22), .ref a23, .ref a24, .ref a25, .int (nI u26), .int f27, .ref a28, .int (nI u29)])), (a0, .inl (κ 0, 21375, .inl g_a0__47)), (a2, .inl (κ 0, 128214, .inl g_a2__41)), (a17, .inl (κ 0, 7123, .inl g_a17__34))] H := hP.sub [2, 3, 0, 1] rfl
                  replace hD : va_D A [(m0, .inr (12, [.ref a0, .ref a1, .ref a2, .int (nI y3__40), .int f4, .ref a5, .int (nI u6), .int f7, .int f8, .int f9, .int f10, .int (nI u11), .int (nI u12), .int (nI u13), .ref a14, .ref a15, .ref a16, .ref a17, .int f18, .int f19, .ref a20, .ref a21, .int (nI u22), .ref a23, .ref a24, .ref a25, .int (nI u26), .int f27, .ref a28, .int (nI u29)])), (a0, .inl (κ 0, 21375, .inl g_a0__47)), (a2, .inl (κ 0, 128214, .inl g_a2__41)), (a17, .inl (κ 0, 7123, .inl g_a17__34))] := hD.sub [2, 3, 0, 1] (by decide) rfl
                  replace hp_48 : Pw g_a0__47 := hp_48
                  have h_49 := hp_48
                  clear hp_48
                  refine W.eq (g2 := F0 m 125 ls []) rfl ?_
                  refine lv_aload_n hx hb dX12_joined_125 rfl (lv_at hl 2 rfl) ?_
                  refine va_get (D := D) (ci := 12) (v := .ref a0) (C := RX12) (T := TX12) (N := 30) hx hb hts inlX12 hown hK hP 0 rfl rfl 0 (by decide) (hts _ mw_187) (fun _ h9 => h9) rfl dX12_joined_126 ?_
                  refine lv_iload hx hb dX12_joined_129 (lv_at hl 7 rfl) ?_
                  refine lv_iconst (v := 2) hx hb dX12_joined_131 (by decide) ?_
                  refine cr_S (As := [.int (nI j_26), .int 2]) (rest := [.ref a0]) hFX hKK (s_X12_at l D κ j_26 2) 2 gS_X12_66 hdS_X12_at rfl rfl ⟨Nat.le_of_ble_eq_true rfl, Nat.le_of_ble_eq_true rfl⟩ rfl rfl (Nat.le_of_ble_eq_true rfl) dX12_joined_132 ⟨Nat.le_of_ble_eq_true rfl, Nat.le_of_ble_eq_true rfl⟩ hl.1 (hP.sub [] rfl) (fun _ hp_50 => ?_)
                  refine W.eq (g2 := F0 m 135 ls [.int (nI (7123 * j_26 + 2)), .ref a0]) rfl ?_
                  refine va_iald hx hb hK hP 1 0 rfl rfl (i := nI (7123 * j_26 + 2)) (vp_in_nI (n := (7123 * j_26 + 2)) (by omega) (by omega)) dX12_joined_135 ?_
                  refine kv (v := .int (g_a0__47 (7123 * j_26 + 2))) (by rw [nI_clamp (by omega)]) ?_
                  obtain ⟨n_51, hn_51, en_51⟩ : ∃ n9 : Nat, n9 ≤ 40 ∧ g_a0__47 (7123 * j_26 + 2) = nI n9 := id (h_49 _ _ (mMANY (t := j_26) (by omega) (by omega)))
                  refine kv (v := .int (nI n_51)) (congrArg Value.int en_51) ?_
                  exact ct_iret hx hb hr hlk rfl hS hP hD (nI n_51, y3__40, g_a0__47, g_a2__41, g_a17__34) rfl ⟨(show y3__40 ≤ 6 from (by first | assumption | omega | rfl | exact Or.inl (by assumption) | exact Or.inr (by assumption))), (show Pw g_a0__47 from (by first | assumption | omega | rfl | exact Or.inl (by assumption) | exact Or.inr (by assumption))), (show Pu g_a2__41 from (by first | assumption | omega | rfl | exact Or.inl (by assumption) | exact Or.inr (by assumption))), (show Pd g_a17__34 from (by first | assumption | omega | rfl | exact Or.inl (by assumption) | exact Or.inr (by assumption)))⟩ [0, 1, 2, 3] rfl (by decide) trivial (Nat.le_of_ble_eq_true rfl) (Nat.le_of_ble_eq_true rfl) dX12_joined_136
                · have nc_46 := cv_nle (a := 7123) (b := k7_86) (by omega) (by omega) c_46
                  refine lv_aload_n hx hb dX12_joined_94 rfl (lv_at hl 2 rfl) ?_
                  refine va_get (D := D) (ci := 12) (v := .ref a0) (C := RX12) (T := TX12) (N := 30) hx hb hts inlX12 hown hK hP 0 rfl rfl 0 (by decide) (hts _ mw_187) (fun _ h9 => h9) rfl dX12_joined_95 ?_
                  refine lv_iload hx hb dX12_joined_98 (lv_at hl 7 rfl) ?_
                  refine lv_iload hx hb dX12_joined_100 (lv_at hl 0 rfl) ?_
                  refine cr_S (As := [.int (nI j_26), .int (nI k7_86)]) (rest := [.ref a0]) hFX hKK (s_X12_at l D κ j_26 k7_86) 2 gS_X12_66 hdS_X12_at rfl rfl ⟨Nat.le_of_ble_eq_true rfl, Nat.le_of_ble_eq_true rfl⟩ rfl rfl (Nat.le_of_ble_eq_true rfl) dX12_joined_102 ⟨Nat.le_of_ble_eq_true rfl, Nat.le_of_ble_eq_true rfl⟩ hl.1 (hP.sub [] rfl) (fun _ hp_52 => ?_)
                  refine W.eq (g2 := F0 m 105 ls [.int (nI (7123 * j_26 + k7_86)), .ref a0]) rfl ?_
                  refine lv_aload_n hx hb dX12_joined_105 rfl (lv_at hl 2 rfl) ?_
                  refine va_get (D := D) (ci := 12) (v := .ref a17) (C := RX12) (T := TX12) (N := 30) hx hb hts inlX12 hown hK hP 0 rfl rfl 17 (by decide) (hts _ mw_197) (fun _ h9 => h9) rfl dX12_joined_106 ?_
                  refine lv_iload hx hb dX12_joined_109 (lv_at hl 0 rfl) ?_
                  refine va_iald hx hb hK hP 3 0 rfl rfl (i := nI k7_86) (vp_in_nI (n := k7_86) (by omega) (by omega)) dX12_joined_111 ?_
                  refine kv (v := .int (g_a17__34 k7_86)) (by rw [nI_clamp (by omega)]) ?_
                  obtain ⟨x_53, ex_53⟩ : ∃ y9 : Int32, g_a17__34 k7_86 = y9 := ⟨_, rfl⟩
                  refine kv (v := .int x_53) (congrArg Value.int ex_53) ?_
                  refine va_iast hx hb hK hP hD hS 1 0 rfl rfl (i := nI (7123 * j_26 + k7_86)) (x := x_53) (vp_in_nI (n := (7123 * j_26 + k7_86)) (by omega) (by omega)) dX12_joined_112 (fun H locs hP hD hS => ?_)
                  rw [nI_clamp (by omega)] at hP hD
                  have hP : va_P D vwCl [(m0, .inr (12, [.ref a0, .ref a1, .ref a2, .int (nI y3__40), .int f4, .ref a5, .int (nI u6), .int f7, .int f8, .int f9, .int f10, .int (nI u11), .int (nI u12), .int (nI u13), .ref a14, .ref a15, .ref a16, .ref a17, .int f18, .int f19, .ref a20, .ref a21, .int (nI u22), .ref a23, .ref a24, .ref a25, .int (nI u26), .int f27, .ref a28, .int (nI u29)])), (a0, .inl (κ 0, 21375, .inl (upd ga0_86 (7123 * j_26 + k7_86) x_53))), (a2, .inl (κ 0, 128214, .inl g_a2__41)), (a17, .inl (κ 0, 7123, .inl g_a17__34))] H := hP
                  have hD : va_D A [(m0, .inr (12, [.ref a0, .ref a1, .ref a2, .int (nI y3__40), .int f4, .ref a5, .int (nI u6), .int f7, .int f8, .int f9, .int f10, .int (nI u11), .int (nI u12), .int (nI u13), .ref a14, .ref a15, .ref a16, .ref a17, .int f18, .int f19, .ref a20, .ref a21, .int (nI u22), .ref a23, .ref a24, .ref a25, .int (nI u26), .int f27, .ref a28, .int (nI u29)])), (a0, .inl (κ 0, 21375, .inl (upd ga0_86 (7123 * j_26 + k7_86) x_53))), (a2, .inl (κ 0, 128214, .inl g_a2__41)), (a17, .inl (κ 0, 7123, .inl g_a17__34))] := hD
                  have hf_55 : Pw (upd ga0_86 (7123 * j_26 + k7_86) x_53) := (Pw_draftE hg86_0 h_37 ex_53 (t := j_26) (by omega) (by omega))
                  generalize upd ga0_86 (7123 * j_26 + k7_86) x_53 = g_54 at hP hD hf_55
                  refine lv_iinc (v := (nI (k7_86 + 1))) (lv' := [(7, .int (nI (k7_86 + 1))), (6, .int r__30), (0, .ref m0), (1, .int (nI j_4)), (2, .int (nI c_6)), (3, .int (nI j_13)), (4, .int (nI c_15)), (5, .int (nI j_26))]) hx hb dX12_joined_113 hl (k := 0) rfl (nI_i k7_86) (by decide) rfl (fun ls hl => ?_)
                  refine lv_goto (tgt := 86) hx hb dX12_joined_116 (by decide) ?_
                  exact ih86 _ _ _ _ (by omega) ⟨(k7_86 + 1), g_54, (by omega), hf_55, rfl, hP, hD, hS, lv_sub hl [0, 1, 2, 3, 4, 5, 6, 7] rfl⟩
              · refine W.eq (g2 := F0 m 74 ls [.int 0]) rfl ?_
                refine lv_if_ne (tgt := 79) hx hb dX12_joined_74 (by decide) (fun c_56 => absurd c_56 (by decide)) (fun c_56 => ?_)
                refine lv_iconst (v := (-1)) hx hb dX12_joined_77 (by decide) ?_
                exact ct_iret hx hb hr hlk rfl hS hP hD ((-1), u3, w, un, g_a17__34) rfl ⟨(show u3 ≤ 6 from (by first | assumption | omega | rfl | exact Or.inl (by assumption) | exact Or.inr (by assumption))), (show Pw w from (by first | assumption | omega | rfl | exact Or.inl (by assumption) | exact Or.inr (by assumption))), (show Pu un from (by first | assumption | omega | rfl | exact Or.inl (by assumption) | exact Or.inr (by assumption))), (show Pd g_a17__34 from (by first | assumption | omega | rfl | exact Or.inl (by assumption) | exact Or.inr (by assumption)))⟩ [0, 1, 2, 3] rfl (by decide) trivial (Nat.le_of_ble_eq_true rfl) (Nat.le_of_ble_eq_true rfl) dX12_joined_78
          · have nc_29 := cv_eq (a := j_26) (b := j_13) (by omega) (by omega) c_29
            refine lv_iconst (v := (-1)) hx hb dX12_joined_44 (by decide) ?_
            exact ct_iret hx hb hr hlk rfl hS hP hD ((-1), u3, w, un, dr) rfl ⟨(show u3 ≤ 6 from (by first | assumption | omega | rfl | exact Or.inl (by assumption) | exact Or.inr (by assumption))), (show Pw w from (by first | assumption | omega | rfl | exact Or.inl (by assumption) | exact Or.inr (by assumption))), (show Pu un from (by first | assumption | omega | rfl | exact Or.inl (by assumption) | exact Or.inr (by assumption))), (show Pd dr from (by first | assumption | omega | rfl | exact Or.inl (by assumption) | exact Or.inr (by assumption)))⟩ [0, 1, 2, 3] rfl (by decide) trivial (Nat.le_of_ble_eq_true rfl) (Nat.le_of_ble_eq_true rfl) dX12_joined_45
      · refine W.eq (g2 := F0 m 29 ls [.int 0]) rfl ?_
        have hin_57 : ze.toInt < (0 : Int) ∨ (2 : Int) < ze.toInt := l_out (l_of rfl) (by decide) (by decide) a_24
        refine lv_if_eq (tgt := 44) hx hb dX12_joined_29 (by decide) (fun c_58 => ?_) (fun c_58 => absurd (by decide) c_58)
        refine lv_iconst (v := (-1)) hx hb dX12_joined_44 (by decide) ?_
        exact ct_iret hx hb hr hlk rfl hS hP hD ((-1), u3, w, un, dr) rfl ⟨(show u3 ≤ 6 from (by first | assumption | omega | rfl | exact Or.inl (by assumption) | exact Or.inr (by assumption))), (show Pw w from (by first | assumption | omega | rfl | exact Or.inl (by assumption) | exact Or.inr (by assumption))), (show Pu un from (by first | assumption | omega | rfl | exact Or.inl (by assumption) | exact Or.inr (by assumption))), (show Pd dr from (by first | assumption | omega | rfl | exact Or.inl (by assumption) | exact Or.inr (by assumption)))⟩ [0, 1, 2, 3] rfl (by decide) trivial (Nat.le_of_ble_eq_true rfl) (Nat.le_of_ble_eq_true rfl) dX12_joined_45
    · refine W.eq (g2 := F0 m 16 ls [.int 0]) rfl ?_
      refine lv_if_eq (tgt := 44) hx hb dX12_joined_16 (by decide) (fun c_59 => ?_) (fun c_59 => absurd (by decide) c_59)
      refine lv_iconst (v := (-1)) hx hb dX12_joined_44 (by decide) ?_
      exact ct_iret hx hb hr hlk rfl hS hP hD ((-1), u3, w, un, dr) rfl ⟨(show u3 ≤ 6 from (by first | assumption | omega | rfl | exact Or.inl (by assumption) | exact Or.inr (by assumption))), (show Pw w from (by first | assumption | omega | rfl | exact Or.inl (by assumption) | exact Or.inr (by assumption))), (show Pu un from (by first | assumption | omega | rfl | exact Or.inl (by assumption) | exact Or.inr (by assumption))), (show Pd dr from (by first | assumption | omega | rfl | exact Or.inl (by assumption) | exact Or.inr (by assumption)))⟩ [0, 1, 2, 3] rfl (by decide) trivial (Nat.le_of_ble_eq_true rfl) (Nat.le_of_ble_eq_true rfl) dX12_joined_45
  · refine W.eq (g2 := F0 m 6 ls [.int 0]) rfl ?_
    refine lv_if_eq (tgt := 44) hx hb dX12_joined_6 (by decide) (fun c_60 => ?_) (fun c_60 => absurd (by decide) c_60)
    refine lv_iconst (v := (-1)) hx hb dX12_joined_44 (by decide) ?_
    exact ct_iret hx hb hr hlk rfl hS hP hD ((-1), u3, w, un, dr) rfl ⟨(show u3 ≤ 6 from (by first | assumption | omega | rfl | exact Or.inl (by assumption) | exact Or.inr (by assumption))), (show Pw w from (by first | assumption | omega | rfl | exact Or.inl (by assumption) | exact Or.inr (by assumption))), (show Pu un from (by first | assumption | omega | rfl | exact Or.inl (by assumption) | exact Or.inr (by assumption))), (show Pd dr from (by first | assumption | omega | rfl | exact Or.inl (by assumption) | exact Or.inr (by assumption)))⟩ [0, 1, 2, 3] rfl (by decide) trivial (Nat.le_of_ble_eq_true rfl) (Nat.le_of_ble_eq_true rfl) dX12_joined_45
set_option maxHeartbeats 4000000 in
set_option maxRecDepth 100000 in
theorem s_X12_differ (l : Launch) (D : va_G) (κ : Nat → ClassId) (m0 : Nat) (a0 : Nat) (a1 : Nat) (a2 : Nat) (u3 : Nat) (f4 : Int32) (a5 : Nat) (u6 : Nat) (f7 : Int32) (f8 : Int32) (f9 : Int32) (f10 : Int32) (u11 : Nat) (u12 : Nat) (u13 : Nat) (a14 : Nat) (a15 : Nat) (a16 : Nat) (a17 : Nat) (f18 : Int32) (f19 : Int32) (a20 : Nat) (a21 : Nat) (u22 : Nat) (a23 : Nat) (a24 : Nat) (a25 : Nat) (u26 : Nat) (f27 : Int32) (a28 : Nat) (u29 : Nat) (w : Nat → Int32) (za : Int32) (zb : Int32) (h_a0 : Pw w) : Cr l yX12_differ (wl yX12_differ cX12_differ 8 (some .int)) { frames := 3, cells := 0, slots := 0, locals := 68 } D κ [.ref m0, .int za, .int zb] (va_P D vwCl [(m0, .inr (12, [.ref a0, .ref a1, .ref a2, .int (nI u3), .int f4, .ref a5, .int (nI u6), .int f7, .int f8, .int f9, .int f10, .int (nI u11), .int (nI u12), .int (nI u13), .ref a14, .ref a15, .ref a16, .ref a17, .int f18, .int f19, .ref a20, .ref a21, .int (nI u22), .ref a23, .ref a24, .ref a25, .int (nI u26), .int f27, .ref a28, .int (nI u29)])), (a0, .inl (κ 0, 21375, .inl w))]) (fun r : Int32 => some (.int r)) (fun r : Int32 => True) := by
  refine cr_of (by decide +kernel) (Nat.le_of_ble_eq_true rfl) ?_
  intro p e s m args below meth c ls hx hb hr hml hts hown hlk hKK hK hI hl
  have hP : va_P D vwCl [(m0, .inr (12, [.ref a0, .ref a1, .ref a2, .int (nI u3), .int f4, .ref a5, .int (nI u6), .int f7, .int f8, .int f9, .int f10, .int (nI u11), .int (nI u12), .int (nI u13), .ref a14, .ref a15, .ref a16, .ref a17, .int f18, .int f19, .ref a20, .ref a21, .int (nI u22), .ref a23, .ref a24, .ref a25, .int (nI u26), .int f27, .ref a28, .int (nI u29)])), (a0, .inl (κ 0, 21375, .inl w))] s.heap := hI
  have hFX : FX p s m args c cX12_differ 8 RX12 := ⟨hx, hb, hml, hown, hts⟩
  have hl : lv_has ls 8 [(0, .ref m0), (1, .int za), (2, .int zb)] := hl
  refine lv_aload_n hx hb dX12_differ_0 rfl (lv_at hl 0 rfl) ?_
  refine lv_iload_n hx hb dX12_differ_1 rfl (lv_at hl 1 rfl) ?_
  refine cr_V (As := [.int za]) (rest := []) hFX hKK (s_X12_isTable l D κ m0 a0 a1 a2 u3 f4 a5 u6 f7 f8 f9 f10 u11 u12 u13 a14 a15 a16 a17 f18 f19 a20 a21 u22 a23 a24 a25 u26 f27 a28 u29 w za h_a0) 1 gV_X12_70 hdV_X12_isTable rfl rfl ⟨Nat.le_of_ble_eq_true rfl, Nat.le_of_ble_eq_true rfl⟩ rfl rfl (Nat.le_of_ble_eq_true rfl) dX12_differ_2 ⟨Nat.le_of_ble_eq_true rfl, Nat.le_of_ble_eq_true rfl⟩ hl.1 hP 0 12 rfl rfl rfl (hP.sub [0, 1] rfl) (fun r__1 hp_2 => ?_)
  replace hp_2 : ((r__1 = 1 ∧ (∃ j : Nat, j < 3 ∧ za = nI j)) ∨ (r__1 = 0)) := hp_2
  have ha_3 := hp_2
  clear hp_2
  rcases ha_3 with ⟨rfl, ⟨j_4, hj_4, rfl⟩⟩ | rfl
  · refine W.eq (g2 := F0 m 5 ls [.int 1]) rfl ?_
    refine lv_if_eq (tgt := 16) hx hb dX12_differ_5 (by decide) (fun c_6 => absurd c_6 (by decide)) (fun c_6 => ?_)
    refine lv_aload_n hx hb dX12_differ_8 rfl (lv_at hl 0 rfl) ?_
    refine lv_iload_n hx hb dX12_differ_9 rfl (lv_at hl 2 rfl) ?_
    refine cr_V (As := [.int zb]) (rest := []) hFX hKK (s_X12_isTable l D κ m0 a0 a1 a2 u3 f4 a5 u6 f7 f8 f9 f10 u11 u12 u13 a14 a15 a16 a17 f18 f19 a20 a21 u22 a23 a24 a25 u26 f27 a28 u29 w zb h_a0) 1 gV_X12_70 hdV_X12_isTable rfl rfl ⟨Nat.le_of_ble_eq_true rfl, Nat.le_of_ble_eq_true rfl⟩ rfl rfl (Nat.le_of_ble_eq_true rfl) dX12_differ_10 ⟨Nat.le_of_ble_eq_true rfl, Nat.le_of_ble_eq_true rfl⟩ hl.1 hP 0 12 rfl rfl rfl (hP.sub [0, 1] rfl) (fun r__7 hp_8 => ?_)
    replace hp_8 : ((r__7 = 1 ∧ (∃ j : Nat, j < 3 ∧ zb = nI j)) ∨ (r__7 = 0)) := hp_8
    have ha_9 := hp_8
    clear hp_8
    rcases ha_9 with ⟨rfl, ⟨j_10, hj_10, rfl⟩⟩ | rfl
    · refine W.eq (g2 := F0 m 13 ls [.int 1]) rfl ?_
      refine lv_if_ne (tgt := 18) hx hb dX12_differ_13 (by decide) (fun c_12 => ?_) (fun c_12 => absurd c_12 (by decide))
      refine lv_iconst (v := 0) hx hb dX12_differ_18 (by decide) ?_
      refine lv_istore_n (lv' := [(3, .int 0), (0, .ref m0), (1, .int (nI j_4)), (2, .int (nI j_10))]) hx hb dX12_differ_19 rfl hl (by decide) rfl (fun ls hl => ?_)
      refine lv_iconst (v := 0) hx hb dX12_differ_20 (by decide) ?_
      refine lv_istore (lv' := [(4, .int 0), (3, .int 0), (0, .ref m0), (1, .int (nI j_4)), (2, .int (nI j_10))]) hx hb dX12_differ_21 hl (by decide) rfl (fun ls hl => ?_)
      refine loop_r (fun k9 ls => ∃ (k4_23 : Nat), ∃ (k3_23 : Int32), (k4_23 ≤ 40) ∧ 40 - k4_23 = k9 ∧ lv_has ls 8 [(4, .int (nI k4_23)), (3, .int k3_23), (0, .ref m0), (1, .int (nI j_4)), (2, .int (nI j_10))]) (fun k9 ls hI23 ih23 => ?_) (40 - 0) _ ⟨0, 0, (by omega), rfl, lv_sub hl [0, 1, 2, 3, 4] rfl⟩
      obtain ⟨k4_23, k3_23, hl23_0, hm23, hl⟩ := hI23
      refine lv_iload hx hb dX12_differ_23 (lv_at hl 0 rfl) ?_
      refine lv_bipush (v := 40) hx hb dX12_differ_25 (by decide) ?_
      refine lv_icmp_ge (tgt := 156) hx hb dX12_differ_27 (by decide) (fun c_13 => ?_) (fun c_13 => ?_)
      · have nc_13 := cv_le (a := 40) (b := k4_23) (by omega) (by omega) c_13
        refine lv_iload_n hx hb dX12_differ_156 rfl (lv_at hl 1 rfl) ?_
        exact cr_iret hx hb hr hlk rfl k3_23 rfl trivial dX12_differ_157
      · have nc_13 := cv_nle (a := 40) (b := k4_23) (by omega) (by omega) c_13
        refine lv_iconst (v := 0) hx hb dX12_differ_30 (by decide) ?_
        refine lv_istore (lv' := [(5, .int 0), (4, .int (nI k4_23)), (3, .int k3_23), (0, .ref m0), (1, .int (nI j_4)), (2, .int (nI j_10))]) hx hb dX12_differ_31 hl (by decide) rfl (fun ls hl => ?_)
        refine loop_r (fun k9 ls => ∃ (k5_33 : Nat), ∃ (k3_33 : Int32), (k5_33 ≤ 8) ∧ 8 - k5_33 = k9 ∧ lv_has ls 8 [(5, .int (nI k5_33)), (4, .int (nI k4_23)), (3, .int k3_33), (0, .ref m0), (1, .int (nI j_4)), (2, .int (nI j_10))]) (fun k9 ls hI33 ih33 => ?_) (8 - 0) _ ⟨0, k3_23, (by omega), rfl, lv_sub hl [0, 1, 2, 3, 4, 5] rfl⟩
        obtain ⟨k5_33, k3_33, hl33_0, hm33, hl⟩ := hI33
        refine lv_iload hx hb dX12_differ_33 (lv_at hl 0 rfl) ?_
        refine lv_bipush (v := 8) hx hb dX12_differ_35 (by decide) ?_
        refine lv_icmp_ge (tgt := 150) hx hb dX12_differ_37 (by decide) (fun c_14 => ?_) (fun c_14 => ?_)
        · have nc_14 := cv_le (a := 8) (b := k5_33) (by omega) (by omega) c_14
          refine lv_iinc (v := (nI (k4_23 + 1))) (lv' := [(4, .int (nI (k4_23 + 1))), (5, .int (nI k5_33)), (3, .int k3_33), (0, .ref m0), (1, .int (nI j_4)), (2, .int (nI j_10))]) hx hb dX12_differ_150 hl (k := 1) rfl (nI_i k4_23) (by decide) rfl (fun ls hl => ?_)
          refine lv_goto (tgt := 23) hx hb dX12_differ_153 (by decide) ?_
          exact ih23 _ _ (by omega) ⟨(k4_23 + 1), k3_33, (by omega), rfl, lv_sub hl [0, 2, 3, 4, 5] rfl⟩
        · have nc_14 := cv_nle (a := 8) (b := k5_33) (by omega) (by omega) c_14
          refine lv_aload_n hx hb dX12_differ_40 rfl (lv_at hl 3 rfl) ?_
          refine lv_iload_n hx hb dX12_differ_41 rfl (lv_at hl 4 rfl) ?_
          refine lv_iload hx hb dX12_differ_42 (lv_at hl 1 rfl) ?_
          refine cr_V (As := [.int (nI j_4), .int (nI k4_23)]) (rest := []) hFX hKK (s2_X12_isRow l D κ m0 a0 a1 a2 u3 f4 a5 u6 f7 f8 f9 f10 u11 u12 u13 a14 a15 a16 a17 f18 f19 a20 a21 u22 a23 a24 a25 u26 f27 a28 u29 w (nI j_4) (nI k4_23) h_a0) 2 gV_X12_309 hdV_X12_isRow rfl rfl ⟨Nat.le_of_ble_eq_true rfl, Nat.le_of_ble_eq_true rfl⟩ rfl rfl (Nat.le_of_ble_eq_true rfl) dX12_differ_44 ⟨Nat.le_of_ble_eq_true rfl, Nat.le_of_ble_eq_true rfl⟩ hl.1 hP 0 12 rfl rfl rfl (hP.sub [0, 1] rfl) (fun r__15 hp_16 => ?_)
          replace hp_16 : ((r__15 = 1 ∧ (∃ j : Nat, j < 3 ∧ (nI j_4) = nI j) ∧ (∃ rr : Nat, (rr < 40 ∧ ∀ j9 : Nat, (nI j_4) = nI j9 → j9 < 3 → rr < nv (w (7123 * j9 + 2))) ∧ (nI k4_23) = nI rr)) ∨ (r__15 = 0)) := hp_16
          have ha_17 := hp_16
          clear hp_16
          rcases ha_17 with ⟨rfl, ⟨j_18, hj_18, e_19⟩, ⟨rr_20, ⟨hrr_20, a_22⟩, e_21⟩⟩ | rfl
          · refine W.eq (g2 := F0 m 47 ls [.int 1]) rfl ?_
            refine lv_if_eq (tgt := 64) hx hb dX12_differ_47 (by decide) (fun c_23 => absurd c_23 (by decide)) (fun c_23 => ?_)
            refine lv_aload_n hx hb dX12_differ_50 rfl (lv_at hl 3 rfl) ?_
            refine lv_iload_n hx hb dX12_differ_51 rfl (lv_at hl 4 rfl) ?_
            refine lv_iload hx hb dX12_differ_52 (lv_at hl 0 rfl) ?_
            refine cr_V (As := [.int (nI j_4), .int (nI k5_33)]) (rest := []) hFX hKK (s2_X12_isColumn l D κ m0 a0 a1 a2 u3 f4 a5 u6 f7 f8 f9 f10 u11 u12 u13 a14 a15 a16 a17 f18 f19 a20 a21 u22 a23 a24 a25 u26 f27 a28 u29 w (nI j_4) (nI k5_33) h_a0) 2 gV_X12_312 hdV_X12_isColumn rfl rfl ⟨Nat.le_of_ble_eq_true rfl, Nat.le_of_ble_eq_true rfl⟩ rfl rfl (Nat.le_of_ble_eq_true rfl) dX12_differ_54 ⟨Nat.le_of_ble_eq_true rfl, Nat.le_of_ble_eq_true rfl⟩ hl.1 hP 0 12 rfl rfl rfl (hP.sub [0, 1] rfl) (fun r__24 hp_25 => ?_)
            replace hp_25 : ((r__24 = 1 ∧ (∃ j : Nat, j < 3 ∧ (nI j_4) = nI j) ∧ (∃ c : Nat, (c < 8 ∧ ∀ j9 : Nat, (nI j_4) = nI j9 → j9 < 3 → c < nv (w (7123 * j9 + 1))) ∧ (nI k5_33) = nI c)) ∨ (r__24 = 0)) := hp_25
            have ha_26 := hp_25
            clear hp_25
            rcases ha_26 with ⟨rfl, ⟨j_27, hj_27, e_28⟩, ⟨c_29, ⟨hc_29, a_31⟩, e_30⟩⟩ | rfl
            · refine W.eq (g2 := F0 m 57 ls [.int 1]) rfl ?_
              refine lv_if_eq (tgt := 64) hx hb dX12_differ_57 (by decide) (fun c_32 => absurd c_32 (by decide)) (fun c_32 => ?_)
              refine lv_iconst (v := 1) hx hb dX12_differ_60 (by decide) ?_
              refine lv_goto (tgt := 65) hx hb dX12_differ_61 (by decide) ?_
              refine lv_istore (lv' := [(6, .int 1), (5, .int (nI k5_33)), (4, .int (nI k4_23)), (3, .int k3_33), (0, .ref m0), (1, .int (nI j_4)), (2, .int (nI j_10))]) hx hb dX12_differ_65 hl (by decide) rfl (fun ls hl => ?_)
              refine lv_aload_n hx hb dX12_differ_67 rfl (lv_at hl 4 rfl) ?_
              refine lv_iload_n hx hb dX12_differ_68 rfl (lv_at hl 6 rfl) ?_
              refine lv_iload hx hb dX12_differ_69 (lv_at hl 2 rfl) ?_
              refine cr_V (As := [.int (nI j_10), .int (nI k4_23)]) (rest := []) hFX hKK (s2_X12_isRow l D κ m0 a0 a1 a2 u3 f4 a5 u6 f7 f8 f9 f10 u11 u12 u13 a14 a15 a16 a17 f18 f19 a20 a21 u22 a23 a24 a25 u26 f27 a28 u29 w (nI j_10) (nI k4_23) h_a0) 2 gV_X12_309 hdV_X12_isRow rfl rfl ⟨Nat.le_of_ble_eq_true rfl, Nat.le_of_ble_eq_true rfl⟩ rfl rfl (Nat.le_of_ble_eq_true rfl) dX12_differ_71 ⟨Nat.le_of_ble_eq_true rfl, Nat.le_of_ble_eq_true rfl⟩ hl.1 hP 0 12 rfl rfl rfl (hP.sub [0, 1] rfl) (fun r__33 hp_34 => ?_)
              replace hp_34 : ((r__33 = 1 ∧ (∃ j : Nat, j < 3 ∧ (nI j_10) = nI j) ∧ (∃ rr : Nat, (rr < 40 ∧ ∀ j9 : Nat, (nI j_10) = nI j9 → j9 < 3 → rr < nv (w (7123 * j9 + 2))) ∧ (nI k4_23) = nI rr)) ∨ (r__33 = 0)) := hp_34
              have ha_35 := hp_34
              clear hp_34
              rcases ha_35 with ⟨rfl, ⟨j_36, hj_36, e_37⟩, ⟨rr_38, ⟨hrr_38, a_40⟩, e_39⟩⟩ | rfl
              · refine W.eq (g2 := F0 m 74 ls [.int 1]) rfl ?_
                refine lv_if_eq (tgt := 91) hx hb dX12_differ_74 (by decide) (fun c_41 => absurd c_41 (by decide)) (fun c_41 => ?_)
                refine lv_aload_n hx hb dX12_differ_77 rfl (lv_at hl 4 rfl) ?_
                refine lv_iload_n hx hb dX12_differ_78 rfl (lv_at hl 6 rfl) ?_
                refine lv_iload hx hb dX12_differ_79 (lv_at hl 1 rfl) ?_
                refine cr_V (As := [.int (nI j_10), .int (nI k5_33)]) (rest := []) hFX hKK (s2_X12_isColumn l D κ m0 a0 a1 a2 u3 f4 a5 u6 f7 f8 f9 f10 u11 u12 u13 a14 a15 a16 a17 f18 f19 a20 a21 u22 a23 a24 a25 u26 f27 a28 u29 w (nI j_10) (nI k5_33) h_a0) 2 gV_X12_312 hdV_X12_isColumn rfl rfl ⟨Nat.le_of_ble_eq_true rfl, Nat.le_of_ble_eq_true rfl⟩ rfl rfl (Nat.le_of_ble_eq_true rfl) dX12_differ_81 ⟨Nat.le_of_ble_eq_true rfl, Nat.le_of_ble_eq_true rfl⟩ hl.1 hP 0 12 rfl rfl rfl (hP.sub [0, 1] rfl) (fun r__42 hp_43 => ?_)
                replace hp_43 : ((r__42 = 1 ∧ (∃ j : Nat, j < 3 ∧ (nI j_10) = nI j) ∧ (∃ c : Nat, (c < 8 ∧ ∀ j9 : Nat, (nI j_10) = nI j9 → j9 < 3 → c < nv (w (7123 * j9 + 1))) ∧ (nI k5_33) = nI c)) ∨ (r__42 = 0)) := hp_43
                have ha_44 := hp_43
                clear hp_43
                rcases ha_44 with ⟨rfl, ⟨j_45, hj_45, e_46⟩, ⟨c_47, ⟨hc_47, a_49⟩, e_48⟩⟩ | rfl
                · refine W.eq (g2 := F0 m 84 ls [.int 1]) rfl ?_
                  refine lv_if_eq (tgt := 91) hx hb dX12_differ_84 (by decide) (fun c_50 => absurd c_50 (by decide)) (fun c_50 => ?_)
                  refine lv_iconst (v := 1) hx hb dX12_differ_87 (by decide) ?_
                  refine lv_goto (tgt := 92) hx hb dX12_differ_88 (by decide) ?_
                  refine lv_istore (lv' := [(7, .int 1), (6, .int 1), (5, .int (nI k5_33)), (4, .int (nI k4_23)), (3, .int k3_33), (0, .ref m0), (1, .int (nI j_4)), (2, .int (nI j_10))]) hx hb dX12_differ_92 hl (by decide) rfl (fun ls hl => ?_)
                  refine lv_iload_n hx hb dX12_differ_94 rfl (lv_at hl 4 rfl) ?_
                  refine lv_iload hx hb dX12_differ_95 (lv_at hl 1 rfl) ?_
                  refine lv_iload hx hb dX12_differ_97 (lv_at hl 0 rfl) ?_
                  refine lv_icmp_ne (tgt := 137) hx hb dX12_differ_99 (by decide) (fun c_51 => absurd c_51 (by decide)) (fun c_51 => ?_)
                  refine lv_iload hx hb dX12_differ_102 (lv_at hl 1 rfl) ?_
                  refine lv_if_eq (tgt := 141) hx hb dX12_differ_104 (by decide) (fun c_52 => absurd c_52 (by decide)) (fun c_52 => ?_)
                  refine lv_aload_n hx hb dX12_differ_107 rfl (lv_at hl 5 rfl) ?_
                  refine va_get (D := D) (ci := 12) (v := .ref a0) (C := RX12) (T := TX12) (N := 30) hx hb hts inlX12 hown hK hP 0 rfl rfl 0 (by decide) (hts _ mw_187) (fun _ h9 => h9) rfl dX12_differ_108 ?_
                  refine lv_iload_n hx hb dX12_differ_111 rfl (lv_at hl 6 rfl) ?_
                  refine lv_iload hx hb dX12_differ_112 (lv_at hl 3 rfl) ?_
                  refine lv_iload hx hb dX12_differ_114 (lv_at hl 2 rfl) ?_
                  refine cr_S (As := [.int (nI j_4), .int (nI k4_23), .int (nI k5_33)]) (rest := [.ref a0, .int k3_33]) hFX hKK (s_X12_cellAt l D κ j_4 k4_23 k5_33) 3 gS_X12_167 hdS_X12_cellAt rfl rfl ⟨Nat.le_of_ble_eq_true rfl, Nat.le_of_ble_eq_true rfl⟩ rfl rfl (Nat.le_of_ble_eq_true rfl) dX12_differ_116 ⟨Nat.le_of_ble_eq_true rfl, Nat.le_of_ble_eq_true rfl⟩ hl.1 (hP.sub [] rfl) (fun _ hp_53 => ?_)
                  refine W.eq (g2 := F0 m 119 ls [.int (nI (7123 * j_4 + 403 + 21 * (8 * k4_23 + k5_33))), .ref a0, .int k3_33]) rfl ?_
                  refine lv_aload_n hx hb dX12_differ_119 rfl (lv_at hl 5 rfl) ?_
                  refine va_get (D := D) (ci := 12) (v := .ref a0) (C := RX12) (T := TX12) (N := 30) hx hb hts inlX12 hown hK hP 0 rfl rfl 0 (by decide) (hts _ mw_187) (fun _ h9 => h9) rfl dX12_differ_120 ?_
                  refine lv_iload_n hx hb dX12_differ_123 rfl (lv_at hl 7 rfl) ?_
                  refine lv_iload hx hb dX12_differ_124 (lv_at hl 3 rfl) ?_
                  refine lv_iload hx hb dX12_differ_126 (lv_at hl 2 rfl) ?_
                  refine cr_S (As := [.int (nI j_10), .int (nI k4_23), .int (nI k5_33)]) (rest := [.ref a0, .int (nI (7123 * j_4 + 403 + 21 * (8 * k4_23 + k5_33))), .ref a0, .int k3_33]) hFX hKK (s_X12_cellAt l D κ j_10 k4_23 k5_33) 3 gS_X12_167 hdS_X12_cellAt rfl rfl ⟨Nat.le_of_ble_eq_true rfl, Nat.le_of_ble_eq_true rfl⟩ rfl rfl (Nat.le_of_ble_eq_true rfl) dX12_differ_128 ⟨Nat.le_of_ble_eq_true rfl, Nat.le_of_ble_eq_true rfl⟩ hl.1 (hP.sub [] rfl) (fun _ hp_54 => ?_)
                  refine W.eq (g2 := F0 m 131 ls [.int (nI (7123 * j_10 + 403 + 21 * (8 * k4_23 + k5_33))), .ref a0, .int (nI (7123 * j_4 + 403 + 21 * (8 * k4_23 + k5_33))), .ref a0, .int k3_33]) rfl ?_
                  refine cr_S (As := [.ref a0, .int (nI (7123 * j_4 + 403 + 21 * (8 * k4_23 + k5_33))), .ref a0, .int (nI (7123 * j_10 + 403 + 21 * (8 * k4_23 + k5_33)))]) (rest := [.int k3_33]) hFX hKK (s_X12_areSame l D κ a0 21375 w a0 21375 w (7123 * j_4 + 403 + 21 * (8 * k4_23 + k5_33)) (7123 * j_10 + 403 + 21 * (8 * k4_23 + k5_33)) 20 20 (by first | assumption | omega) (by first | assumption | omega) (by omega) (by omega) (by omega) (by omega) (h_a0 _ _ (mCELL (t := j_4) (i := (8 * k4_23 + k5_33)) (by omega) (by omega) (by omega))) (h_a0 _ _ (mCELL (t := j_10) (i := (8 * k4_23 + k5_33)) (by omega) (by omega) (by omega)))) 4 gS_X12_244 hdS_X12_areSame rfl rfl ⟨Nat.le_of_ble_eq_true rfl, Nat.le_of_ble_eq_true rfl⟩ rfl rfl (Nat.le_of_ble_eq_true rfl) dX12_differ_131 ⟨Nat.le_of_ble_eq_true rfl, Nat.le_of_ble_eq_true rfl⟩ hl.1 (hP.sub [1, 1] rfl) (fun r__55 hp_56 => ?_)
                  replace hp_56 : ((r__55 = 1) ∨ (r__55 = 0)) := hp_56
                  have ha_57 := hp_56
                  clear hp_56
                  rcases ha_57 with rfl | rfl
                  · refine W.eq (g2 := F0 m 134 ls [.int 1, .int k3_33]) rfl ?_
                    refine lv_if_ne (tgt := 141) hx hb dX12_differ_134 (by decide) (fun c_58 => ?_) (fun c_58 => absurd c_58 (by decide))
                    refine lv_iconst (v := 0) hx hb dX12_differ_141 (by decide) ?_
                    refine lv_iadd hx hb dX12_differ_142 ?_
                    refine lv_topi (fun x_59 ex_59 => ?_)
                    refine lv_istore_n (lv' := [(3, .int x_59), (7, .int 1), (6, .int 1), (5, .int (nI k5_33)), (4, .int (nI k4_23)), (0, .ref m0), (1, .int (nI j_4)), (2, .int (nI j_10))]) hx hb dX12_differ_143 rfl hl (by decide) rfl (fun ls hl => ?_)
                    refine lv_iinc (v := (nI (k5_33 + 1))) (lv' := [(5, .int (nI (k5_33 + 1))), (3, .int x_59), (7, .int 1), (6, .int 1), (4, .int (nI k4_23)), (0, .ref m0), (1, .int (nI j_4)), (2, .int (nI j_10))]) hx hb dX12_differ_144 hl (k := 3) rfl (nI_i k5_33) (by decide) rfl (fun ls hl => ?_)
                    refine lv_goto (tgt := 33) hx hb dX12_differ_147 (by decide) ?_
                    exact ih33 _ _ (by omega) ⟨(k5_33 + 1), x_59, (by omega), rfl, lv_sub hl [0, 4, 1, 5, 6, 7] rfl⟩
                  · refine W.eq (g2 := F0 m 134 ls [.int 0, .int k3_33]) rfl ?_
                    refine lv_if_ne (tgt := 141) hx hb dX12_differ_134 (by decide) (fun c_60 => absurd c_60 (by decide)) (fun c_60 => ?_)
                    refine lv_iconst (v := 1) hx hb dX12_differ_137 (by decide) ?_
                    refine lv_goto (tgt := 142) hx hb dX12_differ_138 (by decide) ?_
                    refine lv_iadd hx hb dX12_differ_142 ?_
                    refine lv_topi (fun x_61 ex_61 => ?_)
                    refine lv_istore_n (lv' := [(3, .int x_61), (7, .int 1), (6, .int 1), (5, .int (nI k5_33)), (4, .int (nI k4_23)), (0, .ref m0), (1, .int (nI j_4)), (2, .int (nI j_10))]) hx hb dX12_differ_143 rfl hl (by decide) rfl (fun ls hl => ?_)
                    refine lv_iinc (v := (nI (k5_33 + 1))) (lv' := [(5, .int (nI (k5_33 + 1))), (3, .int x_61), (7, .int 1), (6, .int 1), (4, .int (nI k4_23)), (0, .ref m0), (1, .int (nI j_4)), (2, .int (nI j_10))]) hx hb dX12_differ_144 hl (k := 3) rfl (nI_i k5_33) (by decide) rfl (fun ls hl => ?_)
                    refine lv_goto (tgt := 33) hx hb dX12_differ_147 (by decide) ?_
                    exact ih33 _ _ (by omega) ⟨(k5_33 + 1), x_61, (by omega), rfl, lv_sub hl [0, 4, 1, 5, 6, 7] rfl⟩
                · refine W.eq (g2 := F0 m 84 ls [.int 0]) rfl ?_
                  refine lv_if_eq (tgt := 91) hx hb dX12_differ_84 (by decide) (fun c_62 => ?_) (fun c_62 => absurd (by decide) c_62)
                  refine lv_iconst (v := 0) hx hb dX12_differ_91 (by decide) ?_
                  refine lv_istore (lv' := [(7, .int 0), (6, .int 1), (5, .int (nI k5_33)), (4, .int (nI k4_23)), (3, .int k3_33), (0, .ref m0), (1, .int (nI j_4)), (2, .int (nI j_10))]) hx hb dX12_differ_92 hl (by decide) rfl (fun ls hl => ?_)
                  refine lv_iload_n hx hb dX12_differ_94 rfl (lv_at hl 4 rfl) ?_
                  refine lv_iload hx hb dX12_differ_95 (lv_at hl 1 rfl) ?_
                  refine lv_iload hx hb dX12_differ_97 (lv_at hl 0 rfl) ?_
                  refine lv_icmp_ne (tgt := 137) hx hb dX12_differ_99 (by decide) (fun c_63 => ?_) (fun c_63 => absurd c_63 (by decide))
                  refine lv_iconst (v := 1) hx hb dX12_differ_137 (by decide) ?_
                  refine lv_goto (tgt := 142) hx hb dX12_differ_138 (by decide) ?_
                  refine lv_iadd hx hb dX12_differ_142 ?_
                  refine lv_topi (fun x_64 ex_64 => ?_)
                  refine lv_istore_n (lv' := [(3, .int x_64), (7, .int 0), (6, .int 1), (5, .int (nI k5_33)), (4, .int (nI k4_23)), (0, .ref m0), (1, .int (nI j_4)), (2, .int (nI j_10))]) hx hb dX12_differ_143 rfl hl (by decide) rfl (fun ls hl => ?_)
                  refine lv_iinc (v := (nI (k5_33 + 1))) (lv' := [(5, .int (nI (k5_33 + 1))), (3, .int x_64), (7, .int 0), (6, .int 1), (4, .int (nI k4_23)), (0, .ref m0), (1, .int (nI j_4)), (2, .int (nI j_10))]) hx hb dX12_differ_144 hl (k := 3) rfl (nI_i k5_33) (by decide) rfl (fun ls hl => ?_)
                  refine lv_goto (tgt := 33) hx hb dX12_differ_147 (by decide) ?_
                  exact ih33 _ _ (by omega) ⟨(k5_33 + 1), x_64, (by omega), rfl, lv_sub hl [0, 4, 1, 5, 6, 7] rfl⟩
              · refine W.eq (g2 := F0 m 74 ls [.int 0]) rfl ?_
                refine lv_if_eq (tgt := 91) hx hb dX12_differ_74 (by decide) (fun c_65 => ?_) (fun c_65 => absurd (by decide) c_65)
                refine lv_iconst (v := 0) hx hb dX12_differ_91 (by decide) ?_
                refine lv_istore (lv' := [(7, .int 0), (6, .int 1), (5, .int (nI k5_33)), (4, .int (nI k4_23)), (3, .int k3_33), (0, .ref m0), (1, .int (nI j_4)), (2, .int (nI j_10))]) hx hb dX12_differ_92 hl (by decide) rfl (fun ls hl => ?_)
                refine lv_iload_n hx hb dX12_differ_94 rfl (lv_at hl 4 rfl) ?_
                refine lv_iload hx hb dX12_differ_95 (lv_at hl 1 rfl) ?_
                refine lv_iload hx hb dX12_differ_97 (lv_at hl 0 rfl) ?_
                refine lv_icmp_ne (tgt := 137) hx hb dX12_differ_99 (by decide) (fun c_66 => ?_) (fun c_66 => absurd c_66 (by decide))
                refine lv_iconst (v := 1) hx hb dX12_differ_137 (by decide) ?_
                refine lv_goto (tgt := 142) hx hb dX12_differ_138 (by decide) ?_
                refine lv_iadd hx hb dX12_differ_142 ?_
                refine lv_topi (fun x_67 ex_67 => ?_)
                refine lv_istore_n (lv' := [(3, .int x_67), (7, .int 0), (6, .int 1), (5, .int (nI k5_33)), (4, .int (nI k4_23)), (0, .ref m0), (1, .int (nI j_4)), (2, .int (nI j_10))]) hx hb dX12_differ_143 rfl hl (by decide) rfl (fun ls hl => ?_)
                refine lv_iinc (v := (nI (k5_33 + 1))) (lv' := [(5, .int (nI (k5_33 + 1))), (3, .int x_67), (7, .int 0), (6, .int 1), (4, .int (nI k4_23)), (0, .ref m0), (1, .int (nI j_4)), (2, .int (nI j_10))]) hx hb dX12_differ_144 hl (k := 3) rfl (nI_i k5_33) (by decide) rfl (fun ls hl => ?_)
                refine lv_goto (tgt := 33) hx hb dX12_differ_147 (by decide) ?_
                exact ih33 _ _ (by omega) ⟨(k5_33 + 1), x_67, (by omega), rfl, lv_sub hl [0, 4, 1, 5, 6, 7] rfl⟩
            · refine W.eq (g2 := F0 m 57 ls [.int 0]) rfl ?_
              refine lv_if_eq (tgt := 64) hx hb dX12_differ_57 (by decide) (fun c_68 => ?_) (fun c_68 => absurd (by decide) c_68)
              refine lv_iconst (v := 0) hx hb dX12_differ_64 (by decide) ?_
              refine lv_istore (lv' := [(6, .int 0), (5, .int (nI k5_33)), (4, .int (nI k4_23)), (3, .int k3_33), (0, .ref m0), (1, .int (nI j_4)), (2, .int (nI j_10))]) hx hb dX12_differ_65 hl (by decide) rfl (fun ls hl => ?_)
              refine lv_aload_n hx hb dX12_differ_67 rfl (lv_at hl 4 rfl) ?_
              refine lv_iload_n hx hb dX12_differ_68 rfl (lv_at hl 6 rfl) ?_
              refine lv_iload hx hb dX12_differ_69 (lv_at hl 2 rfl) ?_
              refine cr_V (As := [.int (nI j_10), .int (nI k4_23)]) (rest := []) hFX hKK (s2_X12_isRow l D κ m0 a0 a1 a2 u3 f4 a5 u6 f7 f8 f9 f10 u11 u12 u13 a14 a15 a16 a17 f18 f19 a20 a21 u22 a23 a24 a25 u26 f27 a28 u29 w (nI j_10) (nI k4_23) h_a0) 2 gV_X12_309 hdV_X12_isRow rfl rfl ⟨Nat.le_of_ble_eq_true rfl, Nat.le_of_ble_eq_true rfl⟩ rfl rfl (Nat.le_of_ble_eq_true rfl) dX12_differ_71 ⟨Nat.le_of_ble_eq_true rfl, Nat.le_of_ble_eq_true rfl⟩ hl.1 hP 0 12 rfl rfl rfl (hP.sub [0, 1] rfl) (fun r__69 hp_70 => ?_)
              replace hp_70 : ((r__69 = 1 ∧ (∃ j : Nat, j < 3 ∧ (nI j_10) = nI j) ∧ (∃ rr : Nat, (rr < 40 ∧ ∀ j9 : Nat, (nI j_10) = nI j9 → j9 < 3 → rr < nv (w (7123 * j9 + 2))) ∧ (nI k4_23) = nI rr)) ∨ (r__69 = 0)) := hp_70
              have ha_71 := hp_70
              clear hp_70
              rcases ha_71 with ⟨rfl, ⟨j_72, hj_72, e_73⟩, ⟨rr_74, ⟨hrr_74, a_76⟩, e_75⟩⟩ | rfl
              · refine W.eq (g2 := F0 m 74 ls [.int 1]) rfl ?_
                refine lv_if_eq (tgt := 91) hx hb dX12_differ_74 (by decide) (fun c_77 => absurd c_77 (by decide)) (fun c_77 => ?_)
                refine lv_aload_n hx hb dX12_differ_77 rfl (lv_at hl 4 rfl) ?_
                refine lv_iload_n hx hb dX12_differ_78 rfl (lv_at hl 6 rfl) ?_
                refine lv_iload hx hb dX12_differ_79 (lv_at hl 1 rfl) ?_
                refine cr_V (As := [.int (nI j_10), .int (nI k5_33)]) (rest := []) hFX hKK (s2_X12_isColumn l D κ m0 a0 a1 a2 u3 f4 a5 u6 f7 f8 f9 f10 u11 u12 u13 a14 a15 a16 a17 f18 f19 a20 a21 u22 a23 a24 a25 u26 f27 a28 u29 w (nI j_10) (nI k5_33) h_a0) 2 gV_X12_312 hdV_X12_isColumn rfl rfl ⟨Nat.le_of_ble_eq_true rfl, Nat.le_of_ble_eq_true rfl⟩ rfl rfl (Nat.le_of_ble_eq_true rfl) dX12_differ_81 ⟨Nat.le_of_ble_eq_true rfl, Nat.le_of_ble_eq_true rfl⟩ hl.1 hP 0 12 rfl rfl rfl (hP.sub [0, 1] rfl) (fun r__78 hp_79 => ?_)
                replace hp_79 : ((r__78 = 1 ∧ (∃ j : Nat, j < 3 ∧ (nI j_10) = nI j) ∧ (∃ c : Nat, (c < 8 ∧ ∀ j9 : Nat, (nI j_10) = nI j9 → j9 < 3 → c < nv (w (7123 * j9 + 1))) ∧ (nI k5_33) = nI c)) ∨ (r__78 = 0)) := hp_79
                have ha_80 := hp_79
                clear hp_79
                rcases ha_80 with ⟨rfl, ⟨j_81, hj_81, e_82⟩, ⟨c_83, ⟨hc_83, a_85⟩, e_84⟩⟩ | rfl
                · refine W.eq (g2 := F0 m 84 ls [.int 1]) rfl ?_
                  refine lv_if_eq (tgt := 91) hx hb dX12_differ_84 (by decide) (fun c_86 => absurd c_86 (by decide)) (fun c_86 => ?_)
                  refine lv_iconst (v := 1) hx hb dX12_differ_87 (by decide) ?_
                  refine lv_goto (tgt := 92) hx hb dX12_differ_88 (by decide) ?_
                  refine lv_istore (lv' := [(7, .int 1), (6, .int 0), (5, .int (nI k5_33)), (4, .int (nI k4_23)), (3, .int k3_33), (0, .ref m0), (1, .int (nI j_4)), (2, .int (nI j_10))]) hx hb dX12_differ_92 hl (by decide) rfl (fun ls hl => ?_)
                  refine lv_iload_n hx hb dX12_differ_94 rfl (lv_at hl 4 rfl) ?_
                  refine lv_iload hx hb dX12_differ_95 (lv_at hl 1 rfl) ?_
                  refine lv_iload hx hb dX12_differ_97 (lv_at hl 0 rfl) ?_
                  refine lv_icmp_ne (tgt := 137) hx hb dX12_differ_99 (by decide) (fun c_87 => ?_) (fun c_87 => absurd c_87 (by decide))
                  refine lv_iconst (v := 1) hx hb dX12_differ_137 (by decide) ?_
                  refine lv_goto (tgt := 142) hx hb dX12_differ_138 (by decide) ?_
                  refine lv_iadd hx hb dX12_differ_142 ?_
                  refine lv_topi (fun x_88 ex_88 => ?_)
                  refine lv_istore_n (lv' := [(3, .int x_88), (7, .int 1), (6, .int 0), (5, .int (nI k5_33)), (4, .int (nI k4_23)), (0, .ref m0), (1, .int (nI j_4)), (2, .int (nI j_10))]) hx hb dX12_differ_143 rfl hl (by decide) rfl (fun ls hl => ?_)
                  refine lv_iinc (v := (nI (k5_33 + 1))) (lv' := [(5, .int (nI (k5_33 + 1))), (3, .int x_88), (7, .int 1), (6, .int 0), (4, .int (nI k4_23)), (0, .ref m0), (1, .int (nI j_4)), (2, .int (nI j_10))]) hx hb dX12_differ_144 hl (k := 3) rfl (nI_i k5_33) (by decide) rfl (fun ls hl => ?_)
                  refine lv_goto (tgt := 33) hx hb dX12_differ_147 (by decide) ?_
                  exact ih33 _ _ (by omega) ⟨(k5_33 + 1), x_88, (by omega), rfl, lv_sub hl [0, 4, 1, 5, 6, 7] rfl⟩
                · refine W.eq (g2 := F0 m 84 ls [.int 0]) rfl ?_
                  refine lv_if_eq (tgt := 91) hx hb dX12_differ_84 (by decide) (fun c_89 => ?_) (fun c_89 => absurd (by decide) c_89)
                  refine lv_iconst (v := 0) hx hb dX12_differ_91 (by decide) ?_
                  refine lv_istore (lv' := [(7, .int 0), (6, .int 0), (5, .int (nI k5_33)), (4, .int (nI k4_23)), (3, .int k3_33), (0, .ref m0), (1, .int (nI j_4)), (2, .int (nI j_10))]) hx hb dX12_differ_92 hl (by decide) rfl (fun ls hl => ?_)
                  refine lv_iload_n hx hb dX12_differ_94 rfl (lv_at hl 4 rfl) ?_
                  refine lv_iload hx hb dX12_differ_95 (lv_at hl 1 rfl) ?_
                  refine lv_iload hx hb dX12_differ_97 (lv_at hl 0 rfl) ?_
                  refine lv_icmp_ne (tgt := 137) hx hb dX12_differ_99 (by decide) (fun c_90 => absurd c_90 (by decide)) (fun c_90 => ?_)
                  refine lv_iload hx hb dX12_differ_102 (lv_at hl 1 rfl) ?_
                  refine lv_if_eq (tgt := 141) hx hb dX12_differ_104 (by decide) (fun c_91 => ?_) (fun c_91 => absurd (by decide) c_91)
                  refine lv_iconst (v := 0) hx hb dX12_differ_141 (by decide) ?_
                  refine lv_iadd hx hb dX12_differ_142 ?_
                  refine lv_topi (fun x_92 ex_92 => ?_)
                  refine lv_istore_n (lv' := [(3, .int x_92), (7, .int 0), (6, .int 0), (5, .int (nI k5_33)), (4, .int (nI k4_23)), (0, .ref m0), (1, .int (nI j_4)), (2, .int (nI j_10))]) hx hb dX12_differ_143 rfl hl (by decide) rfl (fun ls hl => ?_)
                  refine lv_iinc (v := (nI (k5_33 + 1))) (lv' := [(5, .int (nI (k5_33 + 1))), (3, .int x_92), (7, .int 0), (6, .int 0), (4, .int (nI k4_23)), (0, .ref m0), (1, .int (nI j_4)), (2, .int (nI j_10))]) hx hb dX12_differ_144 hl (k := 3) rfl (nI_i k5_33) (by decide) rfl (fun ls hl => ?_)
                  refine lv_goto (tgt := 33) hx hb dX12_differ_147 (by decide) ?_
                  exact ih33 _ _ (by omega) ⟨(k5_33 + 1), x_92, (by omega), rfl, lv_sub hl [0, 4, 1, 5, 6, 7] rfl⟩
              · refine W.eq (g2 := F0 m 74 ls [.int 0]) rfl ?_
                refine lv_if_eq (tgt := 91) hx hb dX12_differ_74 (by decide) (fun c_93 => ?_) (fun c_93 => absurd (by decide) c_93)
                refine lv_iconst (v := 0) hx hb dX12_differ_91 (by decide) ?_
                refine lv_istore (lv' := [(7, .int 0), (6, .int 0), (5, .int (nI k5_33)), (4, .int (nI k4_23)), (3, .int k3_33), (0, .ref m0), (1, .int (nI j_4)), (2, .int (nI j_10))]) hx hb dX12_differ_92 hl (by decide) rfl (fun ls hl => ?_)
                refine lv_iload_n hx hb dX12_differ_94 rfl (lv_at hl 4 rfl) ?_
                refine lv_iload hx hb dX12_differ_95 (lv_at hl 1 rfl) ?_
                refine lv_iload hx hb dX12_differ_97 (lv_at hl 0 rfl) ?_
                refine lv_icmp_ne (tgt := 137) hx hb dX12_differ_99 (by decide) (fun c_94 => absurd c_94 (by decide)) (fun c_94 => ?_)
                refine lv_iload hx hb dX12_differ_102 (lv_at hl 1 rfl) ?_
                refine lv_if_eq (tgt := 141) hx hb dX12_differ_104 (by decide) (fun c_95 => ?_) (fun c_95 => absurd (by decide) c_95)
                refine lv_iconst (v := 0) hx hb dX12_differ_141 (by decide) ?_
                refine lv_iadd hx hb dX12_differ_142 ?_
                refine lv_topi (fun x_96 ex_96 => ?_)
                refine lv_istore_n (lv' := [(3, .int x_96), (7, .int 0), (6, .int 0), (5, .int (nI k5_33)), (4, .int (nI k4_23)), (0, .ref m0), (1, .int (nI j_4)), (2, .int (nI j_10))]) hx hb dX12_differ_143 rfl hl (by decide) rfl (fun ls hl => ?_)
                refine lv_iinc (v := (nI (k5_33 + 1))) (lv' := [(5, .int (nI (k5_33 + 1))), (3, .int x_96), (7, .int 0), (6, .int 0), (4, .int (nI k4_23)), (0, .ref m0), (1, .int (nI j_4)), (2, .int (nI j_10))]) hx hb dX12_differ_144 hl (k := 3) rfl (nI_i k5_33) (by decide) rfl (fun ls hl => ?_)
                refine lv_goto (tgt := 33) hx hb dX12_differ_147 (by decide) ?_
                exact ih33 _ _ (by omega) ⟨(k5_33 + 1), x_96, (by omega), rfl, lv_sub hl [0, 4, 1, 5, 6, 7] rfl⟩
          · refine W.eq (g2 := F0 m 47 ls [.int 0]) rfl ?_
            refine lv_if_eq (tgt := 64) hx hb dX12_differ_47 (by decide) (fun c_97 => ?_) (fun c_97 => absurd (by decide) c_97)
            refine lv_iconst (v := 0) hx hb dX12_differ_64 (by decide) ?_
            refine lv_istore (lv' := [(6, .int 0), (5, .int (nI k5_33)), (4, .int (nI k4_23)), (3, .int k3_33), (0, .ref m0), (1, .int (nI j_4)), (2, .int (nI j_10))]) hx hb dX12_differ_65 hl (by decide) rfl (fun ls hl => ?_)
            refine lv_aload_n hx hb dX12_differ_67 rfl (lv_at hl 4 rfl) ?_
            refine lv_iload_n hx hb dX12_differ_68 rfl (lv_at hl 6 rfl) ?_
            refine lv_iload hx hb dX12_differ_69 (lv_at hl 2 rfl) ?_
            refine cr_V (As := [.int (nI j_10), .int (nI k4_23)]) (rest := []) hFX hKK (s2_X12_isRow l D κ m0 a0 a1 a2 u3 f4 a5 u6 f7 f8 f9 f10 u11 u12 u13 a14 a15 a16 a17 f18 f19 a20 a21 u22 a23 a24 a25 u26 f27 a28 u29 w (nI j_10) (nI k4_23) h_a0) 2 gV_X12_309 hdV_X12_isRow rfl rfl ⟨Nat.le_of_ble_eq_true rfl, Nat.le_of_ble_eq_true rfl⟩ rfl rfl (Nat.le_of_ble_eq_true rfl) dX12_differ_71 ⟨Nat.le_of_ble_eq_true rfl, Nat.le_of_ble_eq_true rfl⟩ hl.1 hP 0 12 rfl rfl rfl (hP.sub [0, 1] rfl) (fun r__98 hp_99 => ?_)
            replace hp_99 : ((r__98 = 1 ∧ (∃ j : Nat, j < 3 ∧ (nI j_10) = nI j) ∧ (∃ rr : Nat, (rr < 40 ∧ ∀ j9 : Nat, (nI j_10) = nI j9 → j9 < 3 → rr < nv (w (7123 * j9 + 2))) ∧ (nI k4_23) = nI rr)) ∨ (r__98 = 0)) := hp_99
            have ha_100 := hp_99
            clear hp_99
            rcases ha_100 with ⟨rfl, ⟨j_101, hj_101, e_102⟩, ⟨rr_103, ⟨hrr_103, a_105⟩, e_104⟩⟩ | rfl
            · refine W.eq (g2 := F0 m 74 ls [.int 1]) rfl ?_
              refine lv_if_eq (tgt := 91) hx hb dX12_differ_74 (by decide) (fun c_106 => absurd c_106 (by decide)) (fun c_106 => ?_)
              refine lv_aload_n hx hb dX12_differ_77 rfl (lv_at hl 4 rfl) ?_
              refine lv_iload_n hx hb dX12_differ_78 rfl (lv_at hl 6 rfl) ?_
              refine lv_iload hx hb dX12_differ_79 (lv_at hl 1 rfl) ?_
              refine cr_V (As := [.int (nI j_10), .int (nI k5_33)]) (rest := []) hFX hKK (s2_X12_isColumn l D κ m0 a0 a1 a2 u3 f4 a5 u6 f7 f8 f9 f10 u11 u12 u13 a14 a15 a16 a17 f18 f19 a20 a21 u22 a23 a24 a25 u26 f27 a28 u29 w (nI j_10) (nI k5_33) h_a0) 2 gV_X12_312 hdV_X12_isColumn rfl rfl ⟨Nat.le_of_ble_eq_true rfl, Nat.le_of_ble_eq_true rfl⟩ rfl rfl (Nat.le_of_ble_eq_true rfl) dX12_differ_81 ⟨Nat.le_of_ble_eq_true rfl, Nat.le_of_ble_eq_true rfl⟩ hl.1 hP 0 12 rfl rfl rfl (hP.sub [0, 1] rfl) (fun r__107 hp_108 => ?_)
              replace hp_108 : ((r__107 = 1 ∧ (∃ j : Nat, j < 3 ∧ (nI j_10) = nI j) ∧ (∃ c : Nat, (c < 8 ∧ ∀ j9 : Nat, (nI j_10) = nI j9 → j9 < 3 → c < nv (w (7123 * j9 + 1))) ∧ (nI k5_33) = nI c)) ∨ (r__107 = 0)) := hp_108
              have ha_109 := hp_108
              clear hp_108
              rcases ha_109 with ⟨rfl, ⟨j_110, hj_110, e_111⟩, ⟨c_112, ⟨hc_112, a_114⟩, e_113⟩⟩ | rfl
              · refine W.eq (g2 := F0 m 84 ls [.int 1]) rfl ?_
                refine lv_if_eq (tgt := 91) hx hb dX12_differ_84 (by decide) (fun c_115 => absurd c_115 (by decide)) (fun c_115 => ?_)
                refine lv_iconst (v := 1) hx hb dX12_differ_87 (by decide) ?_
                refine lv_goto (tgt := 92) hx hb dX12_differ_88 (by decide) ?_
                refine lv_istore (lv' := [(7, .int 1), (6, .int 0), (5, .int (nI k5_33)), (4, .int (nI k4_23)), (3, .int k3_33), (0, .ref m0), (1, .int (nI j_4)), (2, .int (nI j_10))]) hx hb dX12_differ_92 hl (by decide) rfl (fun ls hl => ?_)
                refine lv_iload_n hx hb dX12_differ_94 rfl (lv_at hl 4 rfl) ?_
                refine lv_iload hx hb dX12_differ_95 (lv_at hl 1 rfl) ?_
                refine lv_iload hx hb dX12_differ_97 (lv_at hl 0 rfl) ?_
                refine lv_icmp_ne (tgt := 137) hx hb dX12_differ_99 (by decide) (fun c_116 => ?_) (fun c_116 => absurd c_116 (by decide))
                refine lv_iconst (v := 1) hx hb dX12_differ_137 (by decide) ?_
                refine lv_goto (tgt := 142) hx hb dX12_differ_138 (by decide) ?_
                refine lv_iadd hx hb dX12_differ_142 ?_
                refine lv_topi (fun x_117 ex_117 => ?_)
                refine lv_istore_n (lv' := [(3, .int x_117), (7, .int 1), (6, .int 0), (5, .int (nI k5_33)), (4, .int (nI k4_23)), (0, .ref m0), (1, .int (nI j_4)), (2, .int (nI j_10))]) hx hb dX12_differ_143 rfl hl (by decide) rfl (fun ls hl => ?_)
                refine lv_iinc (v := (nI (k5_33 + 1))) (lv' := [(5, .int (nI (k5_33 + 1))), (3, .int x_117), (7, .int 1), (6, .int 0), (4, .int (nI k4_23)), (0, .ref m0), (1, .int (nI j_4)), (2, .int (nI j_10))]) hx hb dX12_differ_144 hl (k := 3) rfl (nI_i k5_33) (by decide) rfl (fun ls hl => ?_)
                refine lv_goto (tgt := 33) hx hb dX12_differ_147 (by decide) ?_
                exact ih33 _ _ (by omega) ⟨(k5_33 + 1), x_117, (by omega), rfl, lv_sub hl [0, 4, 1, 5, 6, 7] rfl⟩
              · refine W.eq (g2 := F0 m 84 ls [.int 0]) rfl ?_
                refine lv_if_eq (tgt := 91) hx hb dX12_differ_84 (by decide) (fun c_118 => ?_) (fun c_118 => absurd (by decide) c_118)
                refine lv_iconst (v := 0) hx hb dX12_differ_91 (by decide) ?_
                refine lv_istore (lv' := [(7, .int 0), (6, .int 0), (5, .int (nI k5_33)), (4, .int (nI k4_23)), (3, .int k3_33), (0, .ref m0), (1, .int (nI j_4)), (2, .int (nI j_10))]) hx hb dX12_differ_92 hl (by decide) rfl (fun ls hl => ?_)
                refine lv_iload_n hx hb dX12_differ_94 rfl (lv_at hl 4 rfl) ?_
                refine lv_iload hx hb dX12_differ_95 (lv_at hl 1 rfl) ?_
                refine lv_iload hx hb dX12_differ_97 (lv_at hl 0 rfl) ?_
                refine lv_icmp_ne (tgt := 137) hx hb dX12_differ_99 (by decide) (fun c_119 => absurd c_119 (by decide)) (fun c_119 => ?_)
                refine lv_iload hx hb dX12_differ_102 (lv_at hl 1 rfl) ?_
                refine lv_if_eq (tgt := 141) hx hb dX12_differ_104 (by decide) (fun c_120 => ?_) (fun c_120 => absurd (by decide) c_120)
                refine lv_iconst (v := 0) hx hb dX12_differ_141 (by decide) ?_
                refine lv_iadd hx hb dX12_differ_142 ?_
                refine lv_topi (fun x_121 ex_121 => ?_)
                refine lv_istore_n (lv' := [(3, .int x_121), (7, .int 0), (6, .int 0), (5, .int (nI k5_33)), (4, .int (nI k4_23)), (0, .ref m0), (1, .int (nI j_4)), (2, .int (nI j_10))]) hx hb dX12_differ_143 rfl hl (by decide) rfl (fun ls hl => ?_)
                refine lv_iinc (v := (nI (k5_33 + 1))) (lv' := [(5, .int (nI (k5_33 + 1))), (3, .int x_121), (7, .int 0), (6, .int 0), (4, .int (nI k4_23)), (0, .ref m0), (1, .int (nI j_4)), (2, .int (nI j_10))]) hx hb dX12_differ_144 hl (k := 3) rfl (nI_i k5_33) (by decide) rfl (fun ls hl => ?_)
                refine lv_goto (tgt := 33) hx hb dX12_differ_147 (by decide) ?_
                exact ih33 _ _ (by omega) ⟨(k5_33 + 1), x_121, (by omega), rfl, lv_sub hl [0, 4, 1, 5, 6, 7] rfl⟩
            · refine W.eq (g2 := F0 m 74 ls [.int 0]) rfl ?_
              refine lv_if_eq (tgt := 91) hx hb dX12_differ_74 (by decide) (fun c_122 => ?_) (fun c_122 => absurd (by decide) c_122)
              refine lv_iconst (v := 0) hx hb dX12_differ_91 (by decide) ?_
              refine lv_istore (lv' := [(7, .int 0), (6, .int 0), (5, .int (nI k5_33)), (4, .int (nI k4_23)), (3, .int k3_33), (0, .ref m0), (1, .int (nI j_4)), (2, .int (nI j_10))]) hx hb dX12_differ_92 hl (by decide) rfl (fun ls hl => ?_)
              refine lv_iload_n hx hb dX12_differ_94 rfl (lv_at hl 4 rfl) ?_
              refine lv_iload hx hb dX12_differ_95 (lv_at hl 1 rfl) ?_
              refine lv_iload hx hb dX12_differ_97 (lv_at hl 0 rfl) ?_
              refine lv_icmp_ne (tgt := 137) hx hb dX12_differ_99 (by decide) (fun c_123 => absurd c_123 (by decide)) (fun c_123 => ?_)
              refine lv_iload hx hb dX12_differ_102 (lv_at hl 1 rfl) ?_
              refine lv_if_eq (tgt := 141) hx hb dX12_differ_104 (by decide) (fun c_124 => ?_) (fun c_124 => absurd (by decide) c_124)
              refine lv_iconst (v := 0) hx hb dX12_differ_141 (by decide) ?_
              refine lv_iadd hx hb dX12_differ_142 ?_
              refine lv_topi (fun x_125 ex_125 => ?_)
              refine lv_istore_n (lv' := [(3, .int x_125), (7, .int 0), (6, .int 0), (5, .int (nI k5_33)), (4, .int (nI k4_23)), (0, .ref m0), (1, .int (nI j_4)), (2, .int (nI j_10))]) hx hb dX12_differ_143 rfl hl (by decide) rfl (fun ls hl => ?_)
              refine lv_iinc (v := (nI (k5_33 + 1))) (lv' := [(5, .int (nI (k5_33 + 1))), (3, .int x_125), (7, .int 0), (6, .int 0), (4, .int (nI k4_23)), (0, .ref m0), (1, .int (nI j_4)), (2, .int (nI j_10))]) hx hb dX12_differ_144 hl (k := 3) rfl (nI_i k5_33) (by decide) rfl (fun ls hl => ?_)
              refine lv_goto (tgt := 33) hx hb dX12_differ_147 (by decide) ?_
              exact ih33 _ _ (by omega) ⟨(k5_33 + 1), x_125, (by omega), rfl, lv_sub hl [0, 4, 1, 5, 6, 7] rfl⟩
    · refine W.eq (g2 := F0 m 13 ls [.int 0]) rfl ?_
      refine lv_if_ne (tgt := 18) hx hb dX12_differ_13 (by decide) (fun c_126 => absurd c_126 (by decide)) (fun c_126 => ?_)
      refine lv_iconst (v := (-1)) hx hb dX12_differ_16 (by decide) ?_
      exact cr_iret hx hb hr hlk rfl (-1) rfl trivial dX12_differ_17
  · refine W.eq (g2 := F0 m 5 ls [.int 0]) rfl ?_
    refine lv_if_eq (tgt := 16) hx hb dX12_differ_5 (by decide) (fun c_127 => ?_) (fun c_127 => absurd (by decide) c_127)
    refine lv_iconst (v := (-1)) hx hb dX12_differ_16 (by decide) ?_
    exact cr_iret hx hb hr hlk rfl (-1) rfl trivial dX12_differ_17
set_option maxHeartbeats 4000000 in
set_option maxRecDepth 100000 in
theorem s_X12_says (l : Launch) (D : va_G) (κ : Nat → ClassId) (m0 : Nat) (a0 : Nat) (a1 : Nat) (a2 : Nat) (u3 : Nat) (f4 : Int32) (a5 : Nat) (u6 : Nat) (f7 : Int32) (f8 : Int32) (f9 : Int32) (f10 : Int32) (u11 : Nat) (u12 : Nat) (u13 : Nat) (a14 : Nat) (a15 : Nat) (a16 : Nat) (a17 : Nat) (f18 : Int32) (f19 : Int32) (a20 : Nat) (a21 : Nat) (u22 : Nat) (a23 : Nat) (a24 : Nat) (a25 : Nat) (u26 : Nat) (f27 : Int32) (a28 : Nat) (u29 : Nat) (li : Nat → Int32) (zb : Int32) (h29 : u29 ≤ 399) : Ct l yX12_says (wl yX12_says cX12_says 2 none) { frames := 0, cells := 0, slots := 0, locals := 0 } D κ [.ref m0, .int zb] [(m0, .inr (12, [.ref a0, .ref a1, .ref a2, .int (nI u3), .int f4, .ref a5, .int (nI u6), .int f7, .int f8, .int f9, .int f10, .int (nI u11), .int (nI u12), .int (nI u13), .ref a14, .ref a15, .ref a16, .ref a17, .int f18, .int f19, .ref a20, .ref a21, .int (nI u22), .ref a23, .ref a24, .ref a25, .int (nI u26), .int f27, .ref a28, .int (nI u29)])), (a28, .inl (κ 0, 400, .inl li))] (fun _ => True) (fun g_a28 : (Nat → Int32) => none) (fun g_a28 : (Nat → Int32) => True) (fun g_a28 : (Nat → Int32) => [(m0, .inr (12, [.ref a0, .ref a1, .ref a2, .int (nI u3), .int f4, .ref a5, .int (nI u6), .int f7, .int f8, .int f9, .int f10, .int (nI u11), .int (nI u12), .int (nI u13), .ref a14, .ref a15, .ref a16, .ref a17, .int f18, .int f19, .ref a20, .ref a21, .int (nI u22), .ref a23, .ref a24, .ref a25, .int (nI u26), .int f27, .ref a28, .int (nI (u29 + 1))])), (a28, .inl (κ 0, 400, .inl g_a28))]) (fun _ _ => True) := by
  refine ct_of (by decide +kernel) (Nat.le_of_ble_eq_true rfl) ?_
  intro p e s m args below meth c A ls hx hb hr hml hts hown hlk hin hKK hK hA hP hD hS hI hl
  have hS : va_S A s.heap s.heap [] := hS
  have hFX : FX p s m args c cX12_says 2 RX12 := ⟨hx, hb, hml, hown, hts⟩
  have hl : lv_has ls 2 [(0, .ref m0), (1, .int zb)] := hl
  refine lv_aload_n hx hb dX12_says_0 rfl (lv_at hl 0 rfl) ?_
  refine va_get (D := D) (ci := 12) (v := .ref a28) (C := RX12) (T := TX12) (N := 30) hx hb hts inlX12 hown hK hP 0 rfl rfl 28 (by decide) (hts _ mw_203) (fun _ h9 => h9) rfl dX12_says_1 ?_
  refine lv_aload_n hx hb dX12_says_4 rfl (lv_at hl 0 rfl) ?_
  refine va_get (D := D) (ci := 12) (v := .int (nI u29)) (C := RX12) (T := TX12) (N := 30) hx hb hts inlX12 hown hK hP 0 rfl rfl 29 (by decide) (hts _ mw_1447) (fun _ h9 => h9) rfl dX12_says_5 ?_
  refine lv_iload_n hx hb dX12_says_8 rfl (lv_at hl 1 rfl) ?_
  refine va_iast hx hb hK hP hD hS 1 0 rfl rfl (i := nI u29) (x := zb) (vp_in_nI (n := u29) (by omega) (by omega)) dX12_says_9 (fun H locs hP hD hS => ?_)
  rw [nI_clamp (by omega)] at hP hD
  have hP : va_P D vwCl [(m0, .inr (12, [.ref a0, .ref a1, .ref a2, .int (nI u3), .int f4, .ref a5, .int (nI u6), .int f7, .int f8, .int f9, .int f10, .int (nI u11), .int (nI u12), .int (nI u13), .ref a14, .ref a15, .ref a16, .ref a17, .int f18, .int f19, .ref a20, .ref a21, .int (nI u22), .ref a23, .ref a24, .ref a25, .int (nI u26), .int f27, .ref a28, .int (nI u29)])), (a28, .inl (κ 0, 400, .inl (upd li u29 zb)))] H := hP
  have hD : va_D A [(m0, .inr (12, [.ref a0, .ref a1, .ref a2, .int (nI u3), .int f4, .ref a5, .int (nI u6), .int f7, .int f8, .int f9, .int f10, .int (nI u11), .int (nI u12), .int (nI u13), .ref a14, .ref a15, .ref a16, .ref a17, .int f18, .int f19, .ref a20, .ref a21, .int (nI u22), .ref a23, .ref a24, .ref a25, .int (nI u26), .int f27, .ref a28, .int (nI u29)])), (a28, .inl (κ 0, 400, .inl (upd li u29 zb)))] := hD
  generalize upd li u29 zb = g_1 at hP hD 
  refine lv_aload_n hx hb dX12_says_10 rfl (lv_at hl 0 rfl) ?_
  refine lv_dup hx hb dX12_says_11 rfl ?_
  refine va_get (D := D) (ci := 12) (v := .int (nI u29)) (C := RX12) (T := TX12) (N := 30) hx hb hts inlX12 hown hK hP 0 rfl rfl 29 (by decide) (hts _ mw_1447) (fun _ h9 => h9) rfl dX12_says_12 ?_
  refine lv_iconst (v := 1) hx hb dX12_says_15 (by decide) ?_
  refine lv_iadd hx hb dX12_says_16 ?_
  refine ki (v := (nI (u29 + 1))) (nI_add u29 1) ?_
  refine va_put (D := D) (ci := 12) (v := .int (nI (u29 + 1))) (ty := tyX12 29) (C := RX12) (T := TX12) (N := 30) hx hb hts inlX12 tyX12 tyX12_ok nmX12 hown hK hP hD hS 0 rfl rfl 29 (by decide) (hts _ mw_1447) (fun _ h9 => h9) rfl (tyX12_ok 29 (by decide)) rfl rfl (Nat.le_of_ble_eq_true rfl) dX12_says_17 (fun H locs hP hD hS => ?_)
  have hP : va_P D vwCl [(m0, .inr (12, [.ref a0, .ref a1, .ref a2, .int (nI u3), .int f4, .ref a5, .int (nI u6), .int f7, .int f8, .int f9, .int f10, .int (nI u11), .int (nI u12), .int (nI u13), .ref a14, .ref a15, .ref a16, .ref a17, .int f18, .int f19, .ref a20, .ref a21, .int (nI u22), .ref a23, .ref a24, .ref a25, .int (nI u26), .int f27, .ref a28, .int (nI (u29 + 1))])), (a28, .inl (κ 0, 400, .inl g_1))] H := hP
  have hD : va_D A [(m0, .inr (12, [.ref a0, .ref a1, .ref a2, .int (nI u3), .int f4, .ref a5, .int (nI u6), .int f7, .int f8, .int f9, .int f10, .int (nI u11), .int (nI u12), .int (nI u13), .ref a14, .ref a15, .ref a16, .ref a17, .int f18, .int f19, .ref a20, .ref a21, .int (nI u22), .ref a23, .ref a24, .ref a25, .int (nI u26), .int f27, .ref a28, .int (nI (u29 + 1))])), (a28, .inl (κ 0, 400, .inl g_1))] := hD
  exact ct_vret hx hb hr hlk hS hP hD g_1 rfl trivial [0, 1] rfl (by decide) trivial (Nat.le_of_ble_eq_true rfl) (Nat.le_of_ble_eq_true rfl) dX12_says_20
set_option maxHeartbeats 4000000 in
set_option maxRecDepth 100000 in
theorem s_X12_saysCell (l : Launch) (D : va_G) (κ : Nat → ClassId) (m0 : Nat) (a0 : Nat) (a1 : Nat) (a2 : Nat) (u3 : Nat) (f4 : Int32) (a5 : Nat) (u6 : Nat) (f7 : Int32) (f8 : Int32) (f9 : Int32) (f10 : Int32) (u11 : Nat) (u12 : Nat) (u13 : Nat) (a14 : Nat) (a15 : Nat) (a16 : Nat) (a17 : Nat) (f18 : Int32) (f19 : Int32) (a20 : Nat) (a21 : Nat) (u22 : Nat) (a23 : Nat) (a24 : Nat) (a25 : Nat) (u26 : Nat) (f27 : Int32) (a28 : Nat) (u29 : Nat) (w : Nat → Int32) (li : Nat → Int32) (a : Nat) (b : Nat) (co : Nat) (h_a0 : Pw w) (ht : a < 3) (hr9 : b < 40) (hc : co < 8) (h29 : u29 ≤ 350) : Ct l yX12_saysCell (wl yX12_saysCell cX12_saysCell 7 none) { frames := 2, cells := 0, slots := 0, locals := 48 } D κ [.ref m0, .int (nI a), .int (nI b), .int (nI co)] [(m0, .inr (12, [.ref a0, .ref a1, .ref a2, .int (nI u3), .int f4, .ref a5, .int (nI u6), .int f7, .int f8, .int f9, .int f10, .int (nI u11), .int (nI u12), .int (nI u13), .ref a14, .ref a15, .ref a16, .ref a17, .int f18, .int f19, .ref a20, .ref a21, .int (nI u22), .ref a23, .ref a24, .ref a25, .int (nI u26), .int f27, .ref a28, .int (nI u29)])), (a0, .inl (κ 0, 21375, .inl w)), (a28, .inl (κ 0, 400, .inl li))] (fun _ => True) (fun u9 : Nat × (Nat → Int32) => none) (fun u9 : Nat × (Nat → Int32) => u9.1 ≤ u29 + 42) (fun u9 : Nat × (Nat → Int32) => [(m0, .inr (12, [.ref a0, .ref a1, .ref a2, .int (nI u3), .int f4, .ref a5, .int (nI u6), .int f7, .int f8, .int f9, .int f10, .int (nI u11), .int (nI u12), .int (nI u13), .ref a14, .ref a15, .ref a16, .ref a17, .int f18, .int f19, .ref a20, .ref a21, .int (nI u22), .ref a23, .ref a24, .ref a25, .int (nI u26), .int f27, .ref a28, .int (nI u9.1)])), (a0, .inl (κ 0, 21375, .inl w)), (a28, .inl (κ 0, 400, .inl u9.2))]) (fun _ _ => True) := by
  refine ct_of (by decide +kernel) (Nat.le_of_ble_eq_true rfl) ?_
  intro p e s m args below meth c A ls hx hb hr hml hts hown hlk hin hKK hK hA hP hD hS hI hl
  have hS : va_S A s.heap s.heap [] := hS
  have hFX : FX p s m args c cX12_saysCell 7 RX12 := ⟨hx, hb, hml, hown, hts⟩
  have hl : lv_has ls 7 [(0, .ref m0), (1, .int (nI a)), (2, .int (nI b)), (3, .int (nI co))] := hl
  refine lv_iload_n hx hb dX12_saysCell_0 rfl (lv_at hl 1 rfl) ?_
  refine lv_iload_n hx hb dX12_saysCell_1 rfl (lv_at hl 2 rfl) ?_
  refine lv_iload_n hx hb dX12_saysCell_2 rfl (lv_at hl 3 rfl) ?_
  refine cr_S (As := [.int (nI a), .int (nI b), .int (nI co)]) (rest := []) hFX hKK (s_X12_cellAt l D κ a b co) 3 gS_X12_167 hdS_X12_cellAt rfl rfl ⟨Nat.le_of_ble_eq_true rfl, Nat.le_of_ble_eq_true rfl⟩ rfl rfl (Nat.le_of_ble_eq_true rfl) dX12_saysCell_3 ⟨Nat.le_of_ble_eq_true rfl, Nat.le_of_ble_eq_true rfl⟩ hl.1 (hP.sub [] rfl) (fun _ hp_1 => ?_)
  refine W.eq (g2 := F0 m 6 ls [.int (nI (7123 * a + 403 + 21 * (8 * b + co)))]) rfl ?_
  refine lv_istore (lv' := [(4, .int (nI (7123 * a + 403 + 21 * (8 * b + co)))), (0, .ref m0), (1, .int (nI a)), (2, .int (nI b)), (3, .int (nI co))]) hx hb dX12_saysCell_6 hl (by decide) rfl (fun ls hl => ?_)
  refine lv_aload_n hx hb dX12_saysCell_8 rfl (lv_at hl 1 rfl) ?_
  refine lv_iload_n hx hb dX12_saysCell_9 rfl (lv_at hl 2 rfl) ?_
  refine lv_iload_n hx hb dX12_saysCell_10 rfl (lv_at hl 3 rfl) ?_
  refine lv_iload_n hx hb dX12_saysCell_11 rfl (lv_at hl 4 rfl) ?_
  refine cr_V (As := [.int (nI a), .int (nI b), .int (nI co)]) (rest := []) hFX hKK (s_X12_isQuoted l D κ m0 a0 a1 a2 u3 f4 a5 u6 f7 f8 f9 f10 u11 u12 u13 a14 a15 a16 a17 f18 f19 a20 a21 u22 a23 a24 a25 u26 f27 a28 u29 w a b co h_a0 (by omega) (by omega) (by omega)) 3 gV_X12_379 hdV_X12_isQuoted rfl rfl ⟨Nat.le_of_ble_eq_true rfl, Nat.le_of_ble_eq_true rfl⟩ rfl rfl (Nat.le_of_ble_eq_true rfl) dX12_saysCell_12 ⟨Nat.le_of_ble_eq_true rfl, Nat.le_of_ble_eq_true rfl⟩ hl.1 hP 0 12 rfl rfl rfl (hP.sub [0, 1] rfl) (fun r__2 hp_3 => ?_)
  replace hp_3 : ((r__2 = 1) ∨ (r__2 = 0)) := hp_3
  have ha_4 := hp_3
  clear hp_3
  rcases ha_4 with rfl | rfl
  · refine W.eq (g2 := F0 m 15 ls [.int 1]) rfl ?_
    refine lv_istore (lv' := [(5, .int 1), (4, .int (nI (7123 * a + 403 + 21 * (8 * b + co)))), (0, .ref m0), (1, .int (nI a)), (2, .int (nI b)), (3, .int (nI co))]) hx hb dX12_saysCell_15 hl (by decide) rfl (fun ls hl => ?_)
    refine lv_iload hx hb dX12_saysCell_17 (lv_at hl 0 rfl) ?_
    refine lv_if_eq (tgt := 34) hx hb dX12_saysCell_19 (by decide) (fun c_5 => absurd c_5 (by decide)) (fun c_5 => ?_)
    refine lv_aload_n hx hb dX12_saysCell_22 rfl (lv_at hl 2 rfl) ?_
    refine lv_aload_n hx hb dX12_saysCell_23 rfl (lv_at hl 2 rfl) ?_
    refine va_get (D := D) (ci := 12) (v := .ref a0) (C := RX12) (T := TX12) (N := 30) hx hb hts inlX12 hown hK hP 0 rfl rfl 0 (by decide) (hts _ mw_187) (fun _ h9 => h9) rfl dX12_saysCell_24 ?_
    refine lv_sipush (v := 21370) hx hb dX12_saysCell_27 (by decide) ?_
    refine va_iald hx hb hK hP 1 0 rfl rfl (i := 21370) (vp_k (by decide)) dX12_saysCell_30 ?_
    obtain ⟨x_6, ex_6⟩ : ∃ y9 : Int32, w 21370 = y9 := ⟨_, rfl⟩
    refine kv (v := .int x_6) (congrArg Value.int ex_6) ?_
    refine ct_V (wr := [(a0, .inl (κ 0, 21375, .inl w))]) (As := [.int x_6]) (rest := []) hFX hKK hP hD hS hA (s_X12_says l D κ m0 a0 a1 a2 u3 f4 a5 u6 f7 f8 f9 f10 u11 u12 u13 a14 a15 a16 a17 f18 f19 a20 a21 u22 a23 a24 a25 u26 f27 a28 u29 li x_6 (by omega)) 1 gV_X12_435 hdV_X12_says ⟨Nat.le_of_ble_eq_true rfl, Nat.le_of_ble_eq_true rfl⟩ rfl rfl (Nat.le_of_ble_eq_true rfl) dX12_saysCell_31 ⟨Nat.le_of_ble_eq_true rfl, Nat.le_of_ble_eq_true rfl⟩ hl.1 [0, 2] [1] rfl rfl (by decide) (by decide) (by decide) 0 12 rfl rfl rfl trivial (fun g_a28__7 H locs hp_8 _ hP hD hS hz_ hk_ => ?_)
    replace hP : va_P D vwCl [(m0, .inr (12, [.ref a0, .ref a1, .ref a2, .int (nI u3), .int f4, .ref a5, .int (nI u6), .int f7, .int f8, .int f9, .int f10, .int (nI u11), .int (nI u12), .int (nI u13), .ref a14, .ref a15, .ref a16, .ref a17, .int f18, .int f19, .ref a20, .ref a21, .int (nI u22), .ref a23, .ref a24, .ref a25, .int (nI u26), .int f27, .ref a28, .int (nI (u29 + 1))])), (a0, .inl (κ 0, 21375, .inl w)), (a28, .inl (κ 0, 400, .inl g_a28__7))] H := hP.sub [1, 0, 2] rfl
    replace hD : va_D A [(m0, .inr (12, [.ref a0, .ref a1, .ref a2, .int (nI u3), .int f4, .ref a5, .int (nI u6), .int f7, .int f8, .int f9, .int f10, .int (nI u11), .int (nI u12), .int (nI u13), .ref a14, .ref a15, .ref a16, .ref a17, .int f18, .int f19, .ref a20, .ref a21, .int (nI u22), .ref a23, .ref a24, .ref a25, .int (nI u26), .int f27, .ref a28, .int (nI (u29 + 1))])), (a0, .inl (κ 0, 21375, .inl w)), (a28, .inl (κ 0, 400, .inl g_a28__7))] := hD.sub [1, 0, 2] (by decide) rfl
    refine W.eq (g2 := F0 m 34 ls []) rfl ?_
    refine lv_iconst (v := 1) hx hb dX12_saysCell_34 (by decide) ?_
    refine lv_istore (lv' := [(6, .int 1), (5, .int 1), (4, .int (nI (7123 * a + 403 + 21 * (8 * b + co)))), (0, .ref m0), (1, .int (nI a)), (2, .int (nI b)), (3, .int (nI co))]) hx hb dX12_saysCell_35 hl (by decide) rfl (fun ls hl => ?_)
    refine loop_dn (fun k9 H locs ls => ∃ (k6_37 : Nat), ∃ (v29_37 : Nat), ∃ (ga28_37 : Nat → Int32), (1 ≤ k6_37) ∧ (k6_37 ≤ 21) ∧ (v29_37 + 2 ≤ (u29 + 1) + 2 * k6_37) ∧ 21 - k6_37 = k9 ∧ va_P D vwCl [(m0, .inr (12, [.ref a0, .ref a1, .ref a2, .int (nI u3), .int f4, .ref a5, .int (nI u6), .int f7, .int f8, .int f9, .int f10, .int (nI u11), .int (nI u12), .int (nI u13), .ref a14, .ref a15, .ref a16, .ref a17, .int f18, .int f19, .ref a20, .ref a21, .int (nI u22), .ref a23, .ref a24, .ref a25, .int (nI u26), .int f27, .ref a28, .int (nI v29_37)])), (a0, .inl (κ 0, 21375, .inl w)), (a28, .inl (κ 0, 400, .inl ga28_37))] H ∧ va_D A [(m0, .inr (12, [.ref a0, .ref a1, .ref a2, .int (nI u3), .int f4, .ref a5, .int (nI u6), .int f7, .int f8, .int f9, .int f10, .int (nI u11), .int (nI u12), .int (nI u13), .ref a14, .ref a15, .ref a16, .ref a17, .int f18, .int f19, .ref a20, .ref a21, .int (nI u22), .ref a23, .ref a24, .ref a25, .int (nI u26), .int f27, .ref a28, .int (nI v29_37)])), (a0, .inl (κ 0, 21375, .inl w)), (a28, .inl (κ 0, 400, .inl ga28_37))] ∧ va_S A s.heap H locs ∧ lv_has ls 7 [(6, .int (nI k6_37)), (5, .int 1), (4, .int (nI (7123 * a + 403 + 21 * (8 * b + co)))), (0, .ref m0), (1, .int (nI a)), (2, .int (nI b)), (3, .int (nI co))]) (fun k9 H locs ls hI37 ih37 => ?_) (21 - 1) _ _ _ ⟨1, (u29 + 1), g_a28__7, (by omega), (by omega), (by omega), rfl, hP, hD, hS, lv_sub hl [0, 1, 2, 3, 4, 5, 6] rfl⟩
    obtain ⟨k6_37, v29_37, ga28_37, hl37_0, hl37_1, hl37_2, hm37, hP, hD, hS, hl⟩ := hI37
    refine lv_iload hx hb dX12_saysCell_37 (lv_at hl 0 rfl) ?_
    refine lv_aload_n hx hb dX12_saysCell_39 rfl (lv_at hl 3 rfl) ?_
    refine va_get (D := D) (ci := 12) (v := .ref a0) (C := RX12) (T := TX12) (N := 30) hx hb hts inlX12 hown hK hP 0 rfl rfl 0 (by decide) (hts _ mw_187) (fun _ h9 => h9) rfl dX12_saysCell_40 ?_
    refine lv_iload hx hb dX12_saysCell_43 (lv_at hl 2 rfl) ?_
    refine va_iald hx hb hK hP 1 0 rfl rfl (i := nI (7123 * a + 403 + 21 * (8 * b + co))) (vp_in_nI (n := (7123 * a + 403 + 21 * (8 * b + co))) (by omega) (by omega)) dX12_saysCell_45 ?_
    refine kv (v := .int (w (7123 * a + 403 + 21 * (8 * b + co)))) (by rw [nI_clamp (by omega)]) ?_
    obtain ⟨n_9, hn_9, en_9⟩ : ∃ n9 : Nat, n9 ≤ 20 ∧ w (7123 * a + 403 + 21 * (8 * b + co)) = nI n9 := id (h_a0 _ _ (mCELL (t := a) (i := (8 * b + co)) (by omega) (by omega) (by omega)))
    refine kv (v := .int (nI n_9)) (congrArg Value.int en_9) ?_
    refine lv_icmp_gt (tgt := 102) hx hb dX12_saysCell_46 (by decide) (fun c_10 => ?_) (fun c_10 => ?_)
    · have nc_10 := cv_lt (a := n_9) (b := k6_37) (by omega) (by omega) c_10
      refine lv_iload hx hb dX12_saysCell_102 (lv_at hl 1 rfl) ?_
      refine lv_if_eq (tgt := 119) hx hb dX12_saysCell_104 (by decide) (fun c_11 => absurd c_11 (by decide)) (fun c_11 => ?_)
      refine lv_aload_n hx hb dX12_saysCell_107 rfl (lv_at hl 3 rfl) ?_
      refine lv_aload_n hx hb dX12_saysCell_108 rfl (lv_at hl 3 rfl) ?_
      refine va_get (D := D) (ci := 12) (v := .ref a0) (C := RX12) (T := TX12) (N := 30) hx hb hts inlX12 hown hK hP 0 rfl rfl 0 (by decide) (hts _ mw_187) (fun _ h9 => h9) rfl dX12_saysCell_109 ?_
      refine lv_sipush (v := 21370) hx hb dX12_saysCell_112 (by decide) ?_
      refine va_iald hx hb hK hP 1 0 rfl rfl (i := 21370) (vp_k (by decide)) dX12_saysCell_115 ?_
      refine kv (v := .int x_6) (congrArg Value.int (ex_6)) ?_
      refine ct_V (wr := [(a0, .inl (κ 0, 21375, .inl w))]) (As := [.int x_6]) (rest := []) hFX hKK hP hD hS hA (s_X12_says l D κ m0 a0 a1 a2 u3 f4 a5 u6 f7 f8 f9 f10 u11 u12 u13 a14 a15 a16 a17 f18 f19 a20 a21 u22 a23 a24 a25 u26 f27 a28 v29_37 ga28_37 x_6 (by omega)) 1 gV_X12_435 hdV_X12_says ⟨Nat.le_of_ble_eq_true rfl, Nat.le_of_ble_eq_true rfl⟩ rfl rfl (Nat.le_of_ble_eq_true rfl) dX12_saysCell_116 ⟨Nat.le_of_ble_eq_true rfl, Nat.le_of_ble_eq_true rfl⟩ hl.1 [0, 2] [1] rfl rfl (by decide) (by decide) (by decide) 0 12 rfl rfl rfl trivial (fun g_a28__12 H locs hp_13 _ hP hD hS hz_ hk_ => ?_)
      replace hP : va_P D vwCl [(m0, .inr (12, [.ref a0, .ref a1, .ref a2, .int (nI u3), .int f4, .ref a5, .int (nI u6), .int f7, .int f8, .int f9, .int f10, .int (nI u11), .int (nI u12), .int (nI u13), .ref a14, .ref a15, .ref a16, .ref a17, .int f18, .int f19, .ref a20, .ref a21, .int (nI u22), .ref a23, .ref a24, .ref a25, .int (nI u26), .int f27, .ref a28, .int (nI (v29_37 + 1))])), (a0, .inl (κ 0, 21375, .inl w)), (a28, .inl (κ 0, 400, .inl g_a28__12))] H := hP.sub [1, 0, 2] rfl
      replace hD : va_D A [(m0, .inr (12, [.ref a0, .ref a1, .ref a2, .int (nI u3), .int f4, .ref a5, .int (nI u6), .int f7, .int f8, .int f9, .int f10, .int (nI u11), .int (nI u12), .int (nI u13), .ref a14, .ref a15, .ref a16, .ref a17, .int f18, .int f19, .ref a20, .ref a21, .int (nI u22), .ref a23, .ref a24, .ref a25, .int (nI u26), .int f27, .ref a28, .int (nI (v29_37 + 1))])), (a0, .inl (κ 0, 21375, .inl w)), (a28, .inl (κ 0, 400, .inl g_a28__12))] := hD.sub [1, 0, 2] (by decide) rfl
      refine W.eq (g2 := F0 m 119 ls []) rfl ?_
      exact ct_vret hx hb hr hlk hS hP hD (v29_37 + 1, g_a28__12) rfl (show (v29_37 + 1) ≤ u29 + 42 from (by first | assumption | omega | rfl | exact Or.inl (by assumption) | exact Or.inr (by assumption))) [0, 1, 2] rfl (by decide) trivial (Nat.le_of_ble_eq_true rfl) (Nat.le_of_ble_eq_true rfl) dX12_saysCell_119
    · have nc_10 := cv_nlt (a := n_9) (b := k6_37) (by omega) (by omega) c_10
      refine lv_aload_n hx hb dX12_saysCell_49 rfl (lv_at hl 3 rfl) ?_
      refine va_get (D := D) (ci := 12) (v := .ref a0) (C := RX12) (T := TX12) (N := 30) hx hb hts inlX12 hown hK hP 0 rfl rfl 0 (by decide) (hts _ mw_187) (fun _ h9 => h9) rfl dX12_saysCell_50 ?_
      refine lv_iload hx hb dX12_saysCell_53 (lv_at hl 2 rfl) ?_
      refine lv_iload hx hb dX12_saysCell_55 (lv_at hl 0 rfl) ?_
      refine lv_iadd hx hb dX12_saysCell_57 ?_
      refine ki (v := (nI (7123 * a + 403 + 21 * (8 * b + co) + k6_37))) (nI_add (7123 * a + 403 + 21 * (8 * b + co)) k6_37) ?_
      refine va_iald hx hb hK hP 1 0 rfl rfl (i := nI (7123 * a + 403 + 21 * (8 * b + co) + k6_37)) (vp_in_nI (n := (7123 * a + 403 + 21 * (8 * b + co) + k6_37)) (by omega) (by omega)) dX12_saysCell_58 ?_
      refine kv (v := .int (w (7123 * a + 403 + 21 * (8 * b + co) + k6_37))) (by rw [nI_clamp (by omega)]) ?_
      obtain ⟨x_14, ex_14⟩ : ∃ y9 : Int32, w (7123 * a + 403 + 21 * (8 * b + co) + k6_37) = y9 := ⟨_, rfl⟩
      refine kv (v := .int x_14) (congrArg Value.int ex_14) ?_
      refine lv_aload_n hx hb dX12_saysCell_59 rfl (lv_at hl 3 rfl) ?_
      refine va_get (D := D) (ci := 12) (v := .ref a0) (C := RX12) (T := TX12) (N := 30) hx hb hts inlX12 hown hK hP 0 rfl rfl 0 (by decide) (hts _ mw_187) (fun _ h9 => h9) rfl dX12_saysCell_60 ?_
      refine lv_sipush (v := 21370) hx hb dX12_saysCell_63 (by decide) ?_
      refine va_iald hx hb hK hP 1 0 rfl rfl (i := 21370) (vp_k (by decide)) dX12_saysCell_66 ?_
      refine kv (v := .int x_6) (congrArg Value.int (ex_6)) ?_
      refine lv_icmp_ne (tgt := 82) hx hb dX12_saysCell_67 (by decide) (fun c_15 => ?_) (fun c_15 => ?_)
      · refine lv_aload_n hx hb dX12_saysCell_82 rfl (lv_at hl 3 rfl) ?_
        refine lv_aload_n hx hb dX12_saysCell_83 rfl (lv_at hl 3 rfl) ?_
        refine va_get (D := D) (ci := 12) (v := .ref a0) (C := RX12) (T := TX12) (N := 30) hx hb hts inlX12 hown hK hP 0 rfl rfl 0 (by decide) (hts _ mw_187) (fun _ h9 => h9) rfl dX12_saysCell_84 ?_
        refine lv_iload hx hb dX12_saysCell_87 (lv_at hl 2 rfl) ?_
        refine lv_iload hx hb dX12_saysCell_89 (lv_at hl 0 rfl) ?_
        refine lv_iadd hx hb dX12_saysCell_91 ?_
        refine ki (v := (nI (7123 * a + 403 + 21 * (8 * b + co) + k6_37))) (nI_add (7123 * a + 403 + 21 * (8 * b + co)) k6_37) ?_
        refine va_iald hx hb hK hP 1 0 rfl rfl (i := nI (7123 * a + 403 + 21 * (8 * b + co) + k6_37)) (vp_in_nI (n := (7123 * a + 403 + 21 * (8 * b + co) + k6_37)) (by omega) (by omega)) dX12_saysCell_92 ?_
        refine kv (v := .int x_14) (by rw [nI_clamp (by omega), show w (7123 * a + 403 + 21 * (8 * b + co) + k6_37) = x_14 from ex_14]) ?_
        refine ct_V (wr := [(a0, .inl (κ 0, 21375, .inl w))]) (As := [.int x_14]) (rest := []) hFX hKK hP hD hS hA (s_X12_says l D κ m0 a0 a1 a2 u3 f4 a5 u6 f7 f8 f9 f10 u11 u12 u13 a14 a15 a16 a17 f18 f19 a20 a21 u22 a23 a24 a25 u26 f27 a28 v29_37 ga28_37 x_14 (by omega)) 1 gV_X12_435 hdV_X12_says ⟨Nat.le_of_ble_eq_true rfl, Nat.le_of_ble_eq_true rfl⟩ rfl rfl (Nat.le_of_ble_eq_true rfl) dX12_saysCell_93 ⟨Nat.le_of_ble_eq_true rfl, Nat.le_of_ble_eq_true rfl⟩ hl.1 [0, 2] [1] rfl rfl (by decide) (by decide) (by decide) 0 12 rfl rfl rfl trivial (fun g_a28__16 H locs hp_17 _ hP hD hS hz_ hk_ => ?_)
        replace hP : va_P D vwCl [(m0, .inr (12, [.ref a0, .ref a1, .ref a2, .int (nI u3), .int f4, .ref a5, .int (nI u6), .int f7, .int f8, .int f9, .int f10, .int (nI u11), .int (nI u12), .int (nI u13), .ref a14, .ref a15, .ref a16, .ref a17, .int f18, .int f19, .ref a20, .ref a21, .int (nI u22), .ref a23, .ref a24, .ref a25, .int (nI u26), .int f27, .ref a28, .int (nI (v29_37 + 1))])), (a0, .inl (κ 0, 21375, .inl w)), (a28, .inl (κ 0, 400, .inl g_a28__16))] H := hP.sub [1, 0, 2] rfl
        replace hD : va_D A [(m0, .inr (12, [.ref a0, .ref a1, .ref a2, .int (nI u3), .int f4, .ref a5, .int (nI u6), .int f7, .int f8, .int f9, .int f10, .int (nI u11), .int (nI u12), .int (nI u13), .ref a14, .ref a15, .ref a16, .ref a17, .int f18, .int f19, .ref a20, .ref a21, .int (nI u22), .ref a23, .ref a24, .ref a25, .int (nI u26), .int f27, .ref a28, .int (nI (v29_37 + 1))])), (a0, .inl (κ 0, 21375, .inl w)), (a28, .inl (κ 0, 400, .inl g_a28__16))] := hD.sub [1, 0, 2] (by decide) rfl
        refine W.eq (g2 := F0 m 96 ls []) rfl ?_
        refine lv_iinc (v := (nI (k6_37 + 1))) (lv' := [(6, .int (nI (k6_37 + 1))), (5, .int 1), (4, .int (nI (7123 * a + 403 + 21 * (8 * b + co)))), (0, .ref m0), (1, .int (nI a)), (2, .int (nI b)), (3, .int (nI co))]) hx hb dX12_saysCell_96 hl (k := 0) rfl (nI_i k6_37) (by decide) rfl (fun ls hl => ?_)
        refine lv_goto (tgt := 37) hx hb dX12_saysCell_99 (by decide) ?_
        exact ih37 _ _ _ _ (by omega) ⟨(k6_37 + 1), (v29_37 + 1), g_a28__16, (by omega), (by omega), (by omega), rfl, hP, hD, hS, lv_sub hl [0, 1, 2, 3, 4, 5, 6] rfl⟩
      · refine lv_aload_n hx hb dX12_saysCell_70 rfl (lv_at hl 3 rfl) ?_
        refine lv_aload_n hx hb dX12_saysCell_71 rfl (lv_at hl 3 rfl) ?_
        refine va_get (D := D) (ci := 12) (v := .ref a0) (C := RX12) (T := TX12) (N := 30) hx hb hts inlX12 hown hK hP 0 rfl rfl 0 (by decide) (hts _ mw_187) (fun _ h9 => h9) rfl dX12_saysCell_72 ?_
        refine lv_sipush (v := 21370) hx hb dX12_saysCell_75 (by decide) ?_
        refine va_iald hx hb hK hP 1 0 rfl rfl (i := 21370) (vp_k (by decide)) dX12_saysCell_78 ?_
        refine kv (v := .int x_6) (congrArg Value.int (ex_6)) ?_
        refine ct_V (wr := [(a0, .inl (κ 0, 21375, .inl w))]) (As := [.int x_6]) (rest := []) hFX hKK hP hD hS hA (s_X12_says l D κ m0 a0 a1 a2 u3 f4 a5 u6 f7 f8 f9 f10 u11 u12 u13 a14 a15 a16 a17 f18 f19 a20 a21 u22 a23 a24 a25 u26 f27 a28 v29_37 ga28_37 x_6 (by omega)) 1 gV_X12_435 hdV_X12_says ⟨Nat.le_of_ble_eq_true rfl, Nat.le_of_ble_eq_true rfl⟩ rfl rfl (Nat.le_of_ble_eq_true rfl) dX12_saysCell_79 ⟨Nat.le_of_ble_eq_true rfl, Nat.le_of_ble_eq_true rfl⟩ hl.1 [0, 2] [1] rfl rfl (by decide) (by decide) (by decide) 0 12 rfl rfl rfl trivial (fun g_a28__18 H locs hp_19 _ hP hD hS hz_ hk_ => ?_)
        replace hP : va_P D vwCl [(m0, .inr (12, [.ref a0, .ref a1, .ref a2, .int (nI u3), .int f4, .ref a5, .int (nI u6), .int f7, .int f8, .int f9, .int f10, .int (nI u11), .int (nI u12), .int (nI u13), .ref a14, .ref a15, .ref a16, .ref a17, .int f18, .int f19, .ref a20, .ref a21, .int (nI u22), .ref a23, .ref a24, .ref a25, .int (nI u26), .int f27, .ref a28, .int (nI (v29_37 + 1))])), (a0, .inl (κ 0, 21375, .inl w)), (a28, .inl (κ 0, 400, .inl g_a28__18))] H := hP.sub [1, 0, 2] rfl
        replace hD : va_D A [(m0, .inr (12, [.ref a0, .ref a1, .ref a2, .int (nI u3), .int f4, .ref a5, .int (nI u6), .int f7, .int f8, .int f9, .int f10, .int (nI u11), .int (nI u12), .int (nI u13), .ref a14, .ref a15, .ref a16, .ref a17, .int f18, .int f19, .ref a20, .ref a21, .int (nI u22), .ref a23, .ref a24, .ref a25, .int (nI u26), .int f27, .ref a28, .int (nI (v29_37 + 1))])), (a0, .inl (κ 0, 21375, .inl w)), (a28, .inl (κ 0, 400, .inl g_a28__18))] := hD.sub [1, 0, 2] (by decide) rfl
        refine W.eq (g2 := F0 m 82 ls []) rfl ?_
        refine lv_aload_n hx hb dX12_saysCell_82 rfl (lv_at hl 3 rfl) ?_
        refine lv_aload_n hx hb dX12_saysCell_83 rfl (lv_at hl 3 rfl) ?_
        refine va_get (D := D) (ci := 12) (v := .ref a0) (C := RX12) (T := TX12) (N := 30) hx hb hts inlX12 hown hK hP 0 rfl rfl 0 (by decide) (hts _ mw_187) (fun _ h9 => h9) rfl dX12_saysCell_84 ?_
        refine lv_iload hx hb dX12_saysCell_87 (lv_at hl 2 rfl) ?_
        refine lv_iload hx hb dX12_saysCell_89 (lv_at hl 0 rfl) ?_
        refine lv_iadd hx hb dX12_saysCell_91 ?_
        refine ki (v := (nI (7123 * a + 403 + 21 * (8 * b + co) + k6_37))) (nI_add (7123 * a + 403 + 21 * (8 * b + co)) k6_37) ?_
        refine va_iald hx hb hK hP 1 0 rfl rfl (i := nI (7123 * a + 403 + 21 * (8 * b + co) + k6_37)) (vp_in_nI (n := (7123 * a + 403 + 21 * (8 * b + co) + k6_37)) (by omega) (by omega)) dX12_saysCell_92 ?_
        refine kv (v := .int x_14) (by rw [nI_clamp (by omega), show w (7123 * a + 403 + 21 * (8 * b + co) + k6_37) = x_14 from ex_14]) ?_
        refine ct_V (wr := [(a0, .inl (κ 0, 21375, .inl w))]) (As := [.int x_14]) (rest := []) hFX hKK hP hD hS hA (s_X12_says l D κ m0 a0 a1 a2 u3 f4 a5 u6 f7 f8 f9 f10 u11 u12 u13 a14 a15 a16 a17 f18 f19 a20 a21 u22 a23 a24 a25 u26 f27 a28 (v29_37 + 1) g_a28__18 x_14 (by omega)) 1 gV_X12_435 hdV_X12_says ⟨Nat.le_of_ble_eq_true rfl, Nat.le_of_ble_eq_true rfl⟩ rfl rfl (Nat.le_of_ble_eq_true rfl) dX12_saysCell_93 ⟨Nat.le_of_ble_eq_true rfl, Nat.le_of_ble_eq_true rfl⟩ hl.1 [0, 2] [1] rfl rfl (by decide) (by decide) (by decide) 0 12 rfl rfl rfl trivial (fun g_a28__20 H locs hp_21 _ hP hD hS hz_ hk_ => ?_)
        replace hP : va_P D vwCl [(m0, .inr (12, [.ref a0, .ref a1, .ref a2, .int (nI u3), .int f4, .ref a5, .int (nI u6), .int f7, .int f8, .int f9, .int f10, .int (nI u11), .int (nI u12), .int (nI u13), .ref a14, .ref a15, .ref a16, .ref a17, .int f18, .int f19, .ref a20, .ref a21, .int (nI u22), .ref a23, .ref a24, .ref a25, .int (nI u26), .int f27, .ref a28, .int (nI ((v29_37 + 1) + 1))])), (a0, .inl (κ 0, 21375, .inl w)), (a28, .inl (κ 0, 400, .inl g_a28__20))] H := hP.sub [1, 0, 2] rfl
        replace hD : va_D A [(m0, .inr (12, [.ref a0, .ref a1, .ref a2, .int (nI u3), .int f4, .ref a5, .int (nI u6), .int f7, .int f8, .int f9, .int f10, .int (nI u11), .int (nI u12), .int (nI u13), .ref a14, .ref a15, .ref a16, .ref a17, .int f18, .int f19, .ref a20, .ref a21, .int (nI u22), .ref a23, .ref a24, .ref a25, .int (nI u26), .int f27, .ref a28, .int (nI ((v29_37 + 1) + 1))])), (a0, .inl (κ 0, 21375, .inl w)), (a28, .inl (κ 0, 400, .inl g_a28__20))] := hD.sub [1, 0, 2] (by decide) rfl
        refine W.eq (g2 := F0 m 96 ls []) rfl ?_
        refine lv_iinc (v := (nI (k6_37 + 1))) (lv' := [(6, .int (nI (k6_37 + 1))), (5, .int 1), (4, .int (nI (7123 * a + 403 + 21 * (8 * b + co)))), (0, .ref m0), (1, .int (nI a)), (2, .int (nI b)), (3, .int (nI co))]) hx hb dX12_saysCell_96 hl (k := 0) rfl (nI_i k6_37) (by decide) rfl (fun ls hl => ?_)
        refine lv_goto (tgt := 37) hx hb dX12_saysCell_99 (by decide) ?_
        exact ih37 _ _ _ _ (by omega) ⟨(k6_37 + 1), ((v29_37 + 1) + 1), g_a28__20, (by omega), (by omega), (by omega), rfl, hP, hD, hS, lv_sub hl [0, 1, 2, 3, 4, 5, 6] rfl⟩
  · refine W.eq (g2 := F0 m 15 ls [.int 0]) rfl ?_
    refine lv_istore (lv' := [(5, .int 0), (4, .int (nI (7123 * a + 403 + 21 * (8 * b + co)))), (0, .ref m0), (1, .int (nI a)), (2, .int (nI b)), (3, .int (nI co))]) hx hb dX12_saysCell_15 hl (by decide) rfl (fun ls hl => ?_)
    refine lv_iload hx hb dX12_saysCell_17 (lv_at hl 0 rfl) ?_
    refine lv_if_eq (tgt := 34) hx hb dX12_saysCell_19 (by decide) (fun c_22 => ?_) (fun c_22 => absurd (by decide) c_22)
    refine lv_iconst (v := 1) hx hb dX12_saysCell_34 (by decide) ?_
    refine lv_istore (lv' := [(6, .int 1), (5, .int 0), (4, .int (nI (7123 * a + 403 + 21 * (8 * b + co)))), (0, .ref m0), (1, .int (nI a)), (2, .int (nI b)), (3, .int (nI co))]) hx hb dX12_saysCell_35 hl (by decide) rfl (fun ls hl => ?_)
    refine loop_dn (fun k9 H locs ls => ∃ (k6_37 : Nat), ∃ (v29_37 : Nat), ∃ (ga28_37 : Nat → Int32), (1 ≤ k6_37) ∧ (k6_37 ≤ 21) ∧ (v29_37 + 2 ≤ u29 + 2 * k6_37) ∧ 21 - k6_37 = k9 ∧ va_P D vwCl [(m0, .inr (12, [.ref a0, .ref a1, .ref a2, .int (nI u3), .int f4, .ref a5, .int (nI u6), .int f7, .int f8, .int f9, .int f10, .int (nI u11), .int (nI u12), .int (nI u13), .ref a14, .ref a15, .ref a16, .ref a17, .int f18, .int f19, .ref a20, .ref a21, .int (nI u22), .ref a23, .ref a24, .ref a25, .int (nI u26), .int f27, .ref a28, .int (nI v29_37)])), (a0, .inl (κ 0, 21375, .inl w)), (a28, .inl (κ 0, 400, .inl ga28_37))] H ∧ va_D A [(m0, .inr (12, [.ref a0, .ref a1, .ref a2, .int (nI u3), .int f4, .ref a5, .int (nI u6), .int f7, .int f8, .int f9, .int f10, .int (nI u11), .int (nI u12), .int (nI u13), .ref a14, .ref a15, .ref a16, .ref a17, .int f18, .int f19, .ref a20, .ref a21, .int (nI u22), .ref a23, .ref a24, .ref a25, .int (nI u26), .int f27, .ref a28, .int (nI v29_37)])), (a0, .inl (κ 0, 21375, .inl w)), (a28, .inl (κ 0, 400, .inl ga28_37))] ∧ va_S A s.heap H locs ∧ lv_has ls 7 [(6, .int (nI k6_37)), (5, .int 0), (4, .int (nI (7123 * a + 403 + 21 * (8 * b + co)))), (0, .ref m0), (1, .int (nI a)), (2, .int (nI b)), (3, .int (nI co))]) (fun k9 H locs ls hI37 ih37 => ?_) (21 - 1) _ _ _ ⟨1, u29, li, (by omega), (by omega), (by omega), rfl, hP, hD, hS, lv_sub hl [0, 1, 2, 3, 4, 5, 6] rfl⟩
    obtain ⟨k6_37, v29_37, ga28_37, hl37_0, hl37_1, hl37_2, hm37, hP, hD, hS, hl⟩ := hI37
    refine lv_iload hx hb dX12_saysCell_37 (lv_at hl 0 rfl) ?_
    refine lv_aload_n hx hb dX12_saysCell_39 rfl (lv_at hl 3 rfl) ?_
    refine va_get (D := D) (ci := 12) (v := .ref a0) (C := RX12) (T := TX12) (N := 30) hx hb hts inlX12 hown hK hP 0 rfl rfl 0 (by decide) (hts _ mw_187) (fun _ h9 => h9) rfl dX12_saysCell_40 ?_
    refine lv_iload hx hb dX12_saysCell_43 (lv_at hl 2 rfl) ?_
    refine va_iald hx hb hK hP 1 0 rfl rfl (i := nI (7123 * a + 403 + 21 * (8 * b + co))) (vp_in_nI (n := (7123 * a + 403 + 21 * (8 * b + co))) (by omega) (by omega)) dX12_saysCell_45 ?_
    refine kv (v := .int (w (7123 * a + 403 + 21 * (8 * b + co)))) (by rw [nI_clamp (by omega)]) ?_
    obtain ⟨n_23, hn_23, en_23⟩ : ∃ n9 : Nat, n9 ≤ 20 ∧ w (7123 * a + 403 + 21 * (8 * b + co)) = nI n9 := id (h_a0 _ _ (mCELL (t := a) (i := (8 * b + co)) (by omega) (by omega) (by omega)))
    refine kv (v := .int (nI n_23)) (congrArg Value.int en_23) ?_
    refine lv_icmp_gt (tgt := 102) hx hb dX12_saysCell_46 (by decide) (fun c_24 => ?_) (fun c_24 => ?_)
    · have nc_24 := cv_lt (a := n_23) (b := k6_37) (by omega) (by omega) c_24
      refine lv_iload hx hb dX12_saysCell_102 (lv_at hl 1 rfl) ?_
      refine lv_if_eq (tgt := 119) hx hb dX12_saysCell_104 (by decide) (fun c_25 => ?_) (fun c_25 => absurd (by decide) c_25)
      exact ct_vret hx hb hr hlk hS hP hD (v29_37, ga28_37) rfl (show v29_37 ≤ u29 + 42 from (by first | assumption | omega | rfl | exact Or.inl (by assumption) | exact Or.inr (by assumption))) [0, 1, 2] rfl (by decide) trivial (Nat.le_of_ble_eq_true rfl) (Nat.le_of_ble_eq_true rfl) dX12_saysCell_119
    · have nc_24 := cv_nlt (a := n_23) (b := k6_37) (by omega) (by omega) c_24
      refine lv_aload_n hx hb dX12_saysCell_49 rfl (lv_at hl 3 rfl) ?_
      refine va_get (D := D) (ci := 12) (v := .ref a0) (C := RX12) (T := TX12) (N := 30) hx hb hts inlX12 hown hK hP 0 rfl rfl 0 (by decide) (hts _ mw_187) (fun _ h9 => h9) rfl dX12_saysCell_50 ?_
      refine lv_iload hx hb dX12_saysCell_53 (lv_at hl 2 rfl) ?_
      refine lv_iload hx hb dX12_saysCell_55 (lv_at hl 0 rfl) ?_
      refine lv_iadd hx hb dX12_saysCell_57 ?_
      refine ki (v := (nI (7123 * a + 403 + 21 * (8 * b + co) + k6_37))) (nI_add (7123 * a + 403 + 21 * (8 * b + co)) k6_37) ?_
      refine va_iald hx hb hK hP 1 0 rfl rfl (i := nI (7123 * a + 403 + 21 * (8 * b + co) + k6_37)) (vp_in_nI (n := (7123 * a + 403 + 21 * (8 * b + co) + k6_37)) (by omega) (by omega)) dX12_saysCell_58 ?_
      refine kv (v := .int (w (7123 * a + 403 + 21 * (8 * b + co) + k6_37))) (by rw [nI_clamp (by omega)]) ?_
      obtain ⟨x_26, ex_26⟩ : ∃ y9 : Int32, w (7123 * a + 403 + 21 * (8 * b + co) + k6_37) = y9 := ⟨_, rfl⟩
      refine kv (v := .int x_26) (congrArg Value.int ex_26) ?_
      refine lv_aload_n hx hb dX12_saysCell_59 rfl (lv_at hl 3 rfl) ?_
      refine va_get (D := D) (ci := 12) (v := .ref a0) (C := RX12) (T := TX12) (N := 30) hx hb hts inlX12 hown hK hP 0 rfl rfl 0 (by decide) (hts _ mw_187) (fun _ h9 => h9) rfl dX12_saysCell_60 ?_
      refine lv_sipush (v := 21370) hx hb dX12_saysCell_63 (by decide) ?_
      refine va_iald hx hb hK hP 1 0 rfl rfl (i := 21370) (vp_k (by decide)) dX12_saysCell_66 ?_
      obtain ⟨x_27, ex_27⟩ : ∃ y9 : Int32, w 21370 = y9 := ⟨_, rfl⟩
      refine kv (v := .int x_27) (congrArg Value.int ex_27) ?_
      refine lv_icmp_ne (tgt := 82) hx hb dX12_saysCell_67 (by decide) (fun c_28 => ?_) (fun c_28 => ?_)
      · refine lv_aload_n hx hb dX12_saysCell_82 rfl (lv_at hl 3 rfl) ?_
        refine lv_aload_n hx hb dX12_saysCell_83 rfl (lv_at hl 3 rfl) ?_
        refine va_get (D := D) (ci := 12) (v := .ref a0) (C := RX12) (T := TX12) (N := 30) hx hb hts inlX12 hown hK hP 0 rfl rfl 0 (by decide) (hts _ mw_187) (fun _ h9 => h9) rfl dX12_saysCell_84 ?_
        refine lv_iload hx hb dX12_saysCell_87 (lv_at hl 2 rfl) ?_
        refine lv_iload hx hb dX12_saysCell_89 (lv_at hl 0 rfl) ?_
        refine lv_iadd hx hb dX12_saysCell_91 ?_
        refine ki (v := (nI (7123 * a + 403 + 21 * (8 * b + co) + k6_37))) (nI_add (7123 * a + 403 + 21 * (8 * b + co)) k6_37) ?_
        refine va_iald hx hb hK hP 1 0 rfl rfl (i := nI (7123 * a + 403 + 21 * (8 * b + co) + k6_37)) (vp_in_nI (n := (7123 * a + 403 + 21 * (8 * b + co) + k6_37)) (by omega) (by omega)) dX12_saysCell_92 ?_
        refine kv (v := .int x_26) (by rw [nI_clamp (by omega), show w (7123 * a + 403 + 21 * (8 * b + co) + k6_37) = x_26 from ex_26]) ?_
        refine ct_V (wr := [(a0, .inl (κ 0, 21375, .inl w))]) (As := [.int x_26]) (rest := []) hFX hKK hP hD hS hA (s_X12_says l D κ m0 a0 a1 a2 u3 f4 a5 u6 f7 f8 f9 f10 u11 u12 u13 a14 a15 a16 a17 f18 f19 a20 a21 u22 a23 a24 a25 u26 f27 a28 v29_37 ga28_37 x_26 (by omega)) 1 gV_X12_435 hdV_X12_says ⟨Nat.le_of_ble_eq_true rfl, Nat.le_of_ble_eq_true rfl⟩ rfl rfl (Nat.le_of_ble_eq_true rfl) dX12_saysCell_93 ⟨Nat.le_of_ble_eq_true rfl, Nat.le_of_ble_eq_true rfl⟩ hl.1 [0, 2] [1] rfl rfl (by decide) (by decide) (by decide) 0 12 rfl rfl rfl trivial (fun g_a28__29 H locs hp_30 _ hP hD hS hz_ hk_ => ?_)
        replace hP : va_P D vwCl [(m0, .inr (12, [.ref a0, .ref a1, .ref a2, .int (nI u3), .int f4, .ref a5, .int (nI u6), .int f7, .int f8, .int f9, .int f10, .int (nI u11), .int (nI u12), .int (nI u13), .ref a14, .ref a15, .ref a16, .ref a17, .int f18, .int f19, .ref a20, .ref a21, .int (nI u22), .ref a23, .ref a24, .ref a25, .int (nI u26), .int f27, .ref a28, .int (nI (v29_37 + 1))])), (a0, .inl (κ 0, 21375, .inl w)), (a28, .inl (κ 0, 400, .inl g_a28__29))] H := hP.sub [1, 0, 2] rfl
        replace hD : va_D A [(m0, .inr (12, [.ref a0, .ref a1, .ref a2, .int (nI u3), .int f4, .ref a5, .int (nI u6), .int f7, .int f8, .int f9, .int f10, .int (nI u11), .int (nI u12), .int (nI u13), .ref a14, .ref a15, .ref a16, .ref a17, .int f18, .int f19, .ref a20, .ref a21, .int (nI u22), .ref a23, .ref a24, .ref a25, .int (nI u26), .int f27, .ref a28, .int (nI (v29_37 + 1))])), (a0, .inl (κ 0, 21375, .inl w)), (a28, .inl (κ 0, 400, .inl g_a28__29))] := hD.sub [1, 0, 2] (by decide) rfl
        refine W.eq (g2 := F0 m 96 ls []) rfl ?_
        refine lv_iinc (v := (nI (k6_37 + 1))) (lv' := [(6, .int (nI (k6_37 + 1))), (5, .int 0), (4, .int (nI (7123 * a + 403 + 21 * (8 * b + co)))), (0, .ref m0), (1, .int (nI a)), (2, .int (nI b)), (3, .int (nI co))]) hx hb dX12_saysCell_96 hl (k := 0) rfl (nI_i k6_37) (by decide) rfl (fun ls hl => ?_)
        refine lv_goto (tgt := 37) hx hb dX12_saysCell_99 (by decide) ?_
        exact ih37 _ _ _ _ (by omega) ⟨(k6_37 + 1), (v29_37 + 1), g_a28__29, (by omega), (by omega), (by omega), rfl, hP, hD, hS, lv_sub hl [0, 1, 2, 3, 4, 5, 6] rfl⟩
      · refine lv_aload_n hx hb dX12_saysCell_70 rfl (lv_at hl 3 rfl) ?_
        refine lv_aload_n hx hb dX12_saysCell_71 rfl (lv_at hl 3 rfl) ?_
        refine va_get (D := D) (ci := 12) (v := .ref a0) (C := RX12) (T := TX12) (N := 30) hx hb hts inlX12 hown hK hP 0 rfl rfl 0 (by decide) (hts _ mw_187) (fun _ h9 => h9) rfl dX12_saysCell_72 ?_
        refine lv_sipush (v := 21370) hx hb dX12_saysCell_75 (by decide) ?_
        refine va_iald hx hb hK hP 1 0 rfl rfl (i := 21370) (vp_k (by decide)) dX12_saysCell_78 ?_
        refine kv (v := .int x_27) (congrArg Value.int (ex_27)) ?_
        refine ct_V (wr := [(a0, .inl (κ 0, 21375, .inl w))]) (As := [.int x_27]) (rest := []) hFX hKK hP hD hS hA (s_X12_says l D κ m0 a0 a1 a2 u3 f4 a5 u6 f7 f8 f9 f10 u11 u12 u13 a14 a15 a16 a17 f18 f19 a20 a21 u22 a23 a24 a25 u26 f27 a28 v29_37 ga28_37 x_27 (by omega)) 1 gV_X12_435 hdV_X12_says ⟨Nat.le_of_ble_eq_true rfl, Nat.le_of_ble_eq_true rfl⟩ rfl rfl (Nat.le_of_ble_eq_true rfl) dX12_saysCell_79 ⟨Nat.le_of_ble_eq_true rfl, Nat.le_of_ble_eq_true rfl⟩ hl.1 [0, 2] [1] rfl rfl (by decide) (by decide) (by decide) 0 12 rfl rfl rfl trivial (fun g_a28__31 H locs hp_32 _ hP hD hS hz_ hk_ => ?_)
        replace hP : va_P D vwCl [(m0, .inr (12, [.ref a0, .ref a1, .ref a2, .int (nI u3), .int f4, .ref a5, .int (nI u6), .int f7, .int f8, .int f9, .int f10, .int (nI u11), .int (nI u12), .int (nI u13), .ref a14, .ref a15, .ref a16, .ref a17, .int f18, .int f19, .ref a20, .ref a21, .int (nI u22), .ref a23, .ref a24, .ref a25, .int (nI u26), .int f27, .ref a28, .int (nI (v29_37 + 1))])), (a0, .inl (κ 0, 21375, .inl w)), (a28, .inl (κ 0, 400, .inl g_a28__31))] H := hP.sub [1, 0, 2] rfl
        replace hD : va_D A [(m0, .inr (12, [.ref a0, .ref a1, .ref a2, .int (nI u3), .int f4, .ref a5, .int (nI u6), .int f7, .int f8, .int f9, .int f10, .int (nI u11), .int (nI u12), .int (nI u13), .ref a14, .ref a15, .ref a16, .ref a17, .int f18, .int f19, .ref a20, .ref a21, .int (nI u22), .ref a23, .ref a24, .ref a25, .int (nI u26), .int f27, .ref a28, .int (nI (v29_37 + 1))])), (a0, .inl (κ 0, 21375, .inl w)), (a28, .inl (κ 0, 400, .inl g_a28__31))] := hD.sub [1, 0, 2] (by decide) rfl
        refine W.eq (g2 := F0 m 82 ls []) rfl ?_
        refine lv_aload_n hx hb dX12_saysCell_82 rfl (lv_at hl 3 rfl) ?_
        refine lv_aload_n hx hb dX12_saysCell_83 rfl (lv_at hl 3 rfl) ?_
        refine va_get (D := D) (ci := 12) (v := .ref a0) (C := RX12) (T := TX12) (N := 30) hx hb hts inlX12 hown hK hP 0 rfl rfl 0 (by decide) (hts _ mw_187) (fun _ h9 => h9) rfl dX12_saysCell_84 ?_
        refine lv_iload hx hb dX12_saysCell_87 (lv_at hl 2 rfl) ?_
        refine lv_iload hx hb dX12_saysCell_89 (lv_at hl 0 rfl) ?_
        refine lv_iadd hx hb dX12_saysCell_91 ?_
        refine ki (v := (nI (7123 * a + 403 + 21 * (8 * b + co) + k6_37))) (nI_add (7123 * a + 403 + 21 * (8 * b + co)) k6_37) ?_
        refine va_iald hx hb hK hP 1 0 rfl rfl (i := nI (7123 * a + 403 + 21 * (8 * b + co) + k6_37)) (vp_in_nI (n := (7123 * a + 403 + 21 * (8 * b + co) + k6_37)) (by omega) (by omega)) dX12_saysCell_92 ?_
        refine kv (v := .int x_26) (by rw [nI_clamp (by omega), show w (7123 * a + 403 + 21 * (8 * b + co) + k6_37) = x_26 from ex_26]) ?_
        refine ct_V (wr := [(a0, .inl (κ 0, 21375, .inl w))]) (As := [.int x_26]) (rest := []) hFX hKK hP hD hS hA (s_X12_says l D κ m0 a0 a1 a2 u3 f4 a5 u6 f7 f8 f9 f10 u11 u12 u13 a14 a15 a16 a17 f18 f19 a20 a21 u22 a23 a24 a25 u26 f27 a28 (v29_37 + 1) g_a28__31 x_26 (by omega)) 1 gV_X12_435 hdV_X12_says ⟨Nat.le_of_ble_eq_true rfl, Nat.le_of_ble_eq_true rfl⟩ rfl rfl (Nat.le_of_ble_eq_true rfl) dX12_saysCell_93 ⟨Nat.le_of_ble_eq_true rfl, Nat.le_of_ble_eq_true rfl⟩ hl.1 [0, 2] [1] rfl rfl (by decide) (by decide) (by decide) 0 12 rfl rfl rfl trivial (fun g_a28__33 H locs hp_34 _ hP hD hS hz_ hk_ => ?_)
        replace hP : va_P D vwCl [(m0, .inr (12, [.ref a0, .ref a1, .ref a2, .int (nI u3), .int f4, .ref a5, .int (nI u6), .int f7, .int f8, .int f9, .int f10, .int (nI u11), .int (nI u12), .int (nI u13), .ref a14, .ref a15, .ref a16, .ref a17, .int f18, .int f19, .ref a20, .ref a21, .int (nI u22), .ref a23, .ref a24, .ref a25, .int (nI u26), .int f27, .ref a28, .int (nI ((v29_37 + 1) + 1))])), (a0, .inl (κ 0, 21375, .inl w)), (a28, .inl (κ 0, 400, .inl g_a28__33))] H := hP.sub [1, 0, 2] rfl
        replace hD : va_D A [(m0, .inr (12, [.ref a0, .ref a1, .ref a2, .int (nI u3), .int f4, .ref a5, .int (nI u6), .int f7, .int f8, .int f9, .int f10, .int (nI u11), .int (nI u12), .int (nI u13), .ref a14, .ref a15, .ref a16, .ref a17, .int f18, .int f19, .ref a20, .ref a21, .int (nI u22), .ref a23, .ref a24, .ref a25, .int (nI u26), .int f27, .ref a28, .int (nI ((v29_37 + 1) + 1))])), (a0, .inl (κ 0, 21375, .inl w)), (a28, .inl (κ 0, 400, .inl g_a28__33))] := hD.sub [1, 0, 2] (by decide) rfl
        refine W.eq (g2 := F0 m 96 ls []) rfl ?_
        refine lv_iinc (v := (nI (k6_37 + 1))) (lv' := [(6, .int (nI (k6_37 + 1))), (5, .int 0), (4, .int (nI (7123 * a + 403 + 21 * (8 * b + co)))), (0, .ref m0), (1, .int (nI a)), (2, .int (nI b)), (3, .int (nI co))]) hx hb dX12_saysCell_96 hl (k := 0) rfl (nI_i k6_37) (by decide) rfl (fun ls hl => ?_)
        refine lv_goto (tgt := 37) hx hb dX12_saysCell_99 (by decide) ?_
        exact ih37 _ _ _ _ (by omega) ⟨(k6_37 + 1), ((v29_37 + 1) + 1), g_a28__33, (by omega), (by omega), (by omega), rfl, hP, hD, hS, lv_sub hl [0, 1, 2, 3, 4, 5, 6] rfl⟩
set_option maxHeartbeats 4000000 in
set_option maxRecDepth 100000 in
theorem s_X12_endsLine (l : Launch) (D : va_G) (κ : Nat → ClassId) (m0 : Nat) (a0 : Nat) (a1 : Nat) (a2 : Nat) (u3 : Nat) (f4 : Int32) (a5 : Nat) (u6 : Nat) (f7 : Int32) (f8 : Int32) (f9 : Int32) (f10 : Int32) (u11 : Nat) (u12 : Nat) (u13 : Nat) (a14 : Nat) (a15 : Nat) (a16 : Nat) (a17 : Nat) (f18 : Int32) (f19 : Int32) (a20 : Nat) (a21 : Nat) (u22 : Nat) (a23 : Nat) (a24 : Nat) (a25 : Nat) (u26 : Nat) (f27 : Int32) (a28 : Nat) (u29 : Nat) (tx : Nat → Int32) (li : Nat → Int32) (h26 : u26 ≤ 6000) (h29 : u29 ≤ 398) : Ct l yX12_endsLine (wl yX12_endsLine cX12_endsLine 2 none) { frames := 1, cells := 0, slots := 0, locals := 21 } D κ [.ref m0] [(m0, .inr (12, [.ref a0, .ref a1, .ref a2, .int (nI u3), .int f4, .ref a5, .int (nI u6), .int f7, .int f8, .int f9, .int f10, .int (nI u11), .int (nI u12), .int (nI u13), .ref a14, .ref a15, .ref a16, .ref a17, .int f18, .int f19, .ref a20, .ref a21, .int (nI u22), .ref a23, .ref a24, .ref a25, .int (nI u26), .int f27, .ref a28, .int (nI u29)])), (a25, .inl (κ 0, 6000, .inl tx)), (a28, .inl (κ 0, 400, .inl li))] (fun _ => True) (fun u9 : Nat × Int32 × (Nat → Int32) × (Nat → Int32) => none) (fun u9 : Nat × Int32 × (Nat → Int32) × (Nat → Int32) => u9.1 ≤ 6000) (fun u9 : Nat × Int32 × (Nat → Int32) × (Nat → Int32) => [(m0, .inr (12, [.ref a0, .ref a1, .ref a2, .int (nI u3), .int f4, .ref a5, .int (nI u6), .int f7, .int f8, .int f9, .int f10, .int (nI u11), .int (nI u12), .int (nI u13), .ref a14, .ref a15, .ref a16, .ref a17, .int f18, .int f19, .ref a20, .ref a21, .int (nI u22), .ref a23, .ref a24, .ref a25, .int (nI u9.1), .int u9.2.1, .ref a28, .int 0])), (a25, .inl (κ 0, 6000, .inl u9.2.2.1)), (a28, .inl (κ 0, 400, .inl u9.2.2.2))]) (fun _ _ => True) := by
  refine ct_of (by decide +kernel) (Nat.le_of_ble_eq_true rfl) ?_
  intro p e s m args below meth c A ls hx hb hr hml hts hown hlk hin hKK hK hA hP hD hS hI hl
  have hS : va_S A s.heap s.heap [] := hS
  have hFX : FX p s m args c cX12_endsLine 2 RX12 := ⟨hx, hb, hml, hown, hts⟩
  have hl : lv_has ls 2 [(0, .ref m0)] := hl
  refine lv_aload_n hx hb dX12_endsLine_0 rfl (lv_at hl 0 rfl) ?_
  refine lv_bipush (v := 10) hx hb dX12_endsLine_1 (by decide) ?_
  refine ct_V (wr := [(a25, .inl (κ 0, 6000, .inl tx))]) (As := [.int 10]) (rest := []) hFX hKK hP hD hS hA (s_X12_says l D κ m0 a0 a1 a2 u3 f4 a5 u6 f7 f8 f9 f10 u11 u12 u13 a14 a15 a16 a17 f18 f19 a20 a21 u22 a23 a24 a25 u26 f27 a28 u29 li 10 (by omega)) 1 gV_X12_435 hdV_X12_says ⟨Nat.le_of_ble_eq_true rfl, Nat.le_of_ble_eq_true rfl⟩ rfl rfl (Nat.le_of_ble_eq_true rfl) dX12_endsLine_3 ⟨Nat.le_of_ble_eq_true rfl, Nat.le_of_ble_eq_true rfl⟩ hl.1 [0, 2] [1] rfl rfl (by decide) (by decide) (by decide) 0 12 rfl rfl rfl trivial (fun g_a28__1 H locs hp_2 _ hP hD hS hz_ hk_ => ?_)
  replace hP : va_P D vwCl [(m0, .inr (12, [.ref a0, .ref a1, .ref a2, .int (nI u3), .int f4, .ref a5, .int (nI u6), .int f7, .int f8, .int f9, .int f10, .int (nI u11), .int (nI u12), .int (nI u13), .ref a14, .ref a15, .ref a16, .ref a17, .int f18, .int f19, .ref a20, .ref a21, .int (nI u22), .ref a23, .ref a24, .ref a25, .int (nI u26), .int f27, .ref a28, .int (nI (u29 + 1))])), (a25, .inl (κ 0, 6000, .inl tx)), (a28, .inl (κ 0, 400, .inl g_a28__1))] H := hP.sub [1, 0, 2] rfl
  replace hD : va_D A [(m0, .inr (12, [.ref a0, .ref a1, .ref a2, .int (nI u3), .int f4, .ref a5, .int (nI u6), .int f7, .int f8, .int f9, .int f10, .int (nI u11), .int (nI u12), .int (nI u13), .ref a14, .ref a15, .ref a16, .ref a17, .int f18, .int f19, .ref a20, .ref a21, .int (nI u22), .ref a23, .ref a24, .ref a25, .int (nI u26), .int f27, .ref a28, .int (nI (u29 + 1))])), (a25, .inl (κ 0, 6000, .inl tx)), (a28, .inl (κ 0, 400, .inl g_a28__1))] := hD.sub [1, 0, 2] (by decide) rfl
  refine W.eq (g2 := F0 m 6 ls []) rfl ?_
  refine lv_aload_n hx hb dX12_endsLine_6 rfl (lv_at hl 0 rfl) ?_
  refine lv_aload_n hx hb dX12_endsLine_7 rfl (lv_at hl 0 rfl) ?_
  refine va_get (D := D) (ci := 12) (v := .int f27) (C := RX12) (T := TX12) (N := 30) hx hb hts inlX12 hown hK hP 0 rfl rfl 27 (by decide) (hts _ mw_1448) (fun _ h9 => h9) rfl dX12_endsLine_8 ?_
  refine lv_if_ne (tgt := 29) hx hb dX12_endsLine_11 (by decide) (fun c_3 => ?_) (fun c_3 => ?_)
  · refine lv_iconst (v := 1) hx hb dX12_endsLine_29 (by decide) ?_
    refine lv_goto (tgt := 34) hx hb dX12_endsLine_30 (by decide) ?_
    refine va_put (D := D) (ci := 12) (v := .int 1) (ty := tyX12 27) (C := RX12) (T := TX12) (N := 30) hx hb hts inlX12 tyX12 tyX12_ok nmX12 hown hK hP hD hS 0 rfl rfl 27 (by decide) (hts _ mw_1448) (fun _ h9 => h9) rfl (tyX12_ok 27 (by decide)) rfl rfl (Nat.le_of_ble_eq_true rfl) dX12_endsLine_34 (fun H locs hP hD hS => ?_)
    have hP : va_P D vwCl [(m0, .inr (12, [.ref a0, .ref a1, .ref a2, .int (nI u3), .int f4, .ref a5, .int (nI u6), .int f7, .int f8, .int f9, .int f10, .int (nI u11), .int (nI u12), .int (nI u13), .ref a14, .ref a15, .ref a16, .ref a17, .int f18, .int f19, .ref a20, .ref a21, .int (nI u22), .ref a23, .ref a24, .ref a25, .int (nI u26), .int 1, .ref a28, .int (nI (u29 + 1))])), (a25, .inl (κ 0, 6000, .inl tx)), (a28, .inl (κ 0, 400, .inl g_a28__1))] H := hP
    have hD : va_D A [(m0, .inr (12, [.ref a0, .ref a1, .ref a2, .int (nI u3), .int f4, .ref a5, .int (nI u6), .int f7, .int f8, .int f9, .int f10, .int (nI u11), .int (nI u12), .int (nI u13), .ref a14, .ref a15, .ref a16, .ref a17, .int f18, .int f19, .ref a20, .ref a21, .int (nI u22), .ref a23, .ref a24, .ref a25, .int (nI u26), .int 1, .ref a28, .int (nI (u29 + 1))])), (a25, .inl (κ 0, 6000, .inl tx)), (a28, .inl (κ 0, 400, .inl g_a28__1))] := hD
    refine lv_iconst (v := 0) hx hb dX12_endsLine_37 (by decide) ?_
    refine lv_istore_n (lv' := [(1, .int 0), (0, .ref m0)]) hx hb dX12_endsLine_38 rfl hl (by decide) rfl (fun ls hl => ?_)
    refine loop_dn (fun k9 H locs ls => ∃ (k1_39 : Nat), ∃ (v26_39 : Nat), ∃ (ga25_39 : Nat → Int32), (k1_39 ≤ u29 + 1) ∧ (v26_39 = u26 + k1_39) ∧ (v26_39 ≤ 6000) ∧ u29 + 1 - k1_39 = k9 ∧ va_P D vwCl [(m0, .inr (12, [.ref a0, .ref a1, .ref a2, .int (nI u3), .int f4, .ref a5, .int (nI u6), .int f7, .int f8, .int f9, .int f10, .int (nI u11), .int (nI u12), .int (nI u13), .ref a14, .ref a15, .ref a16, .ref a17, .int f18, .int f19, .ref a20, .ref a21, .int (nI u22), .ref a23, .ref a24, .ref a25, .int (nI v26_39), .int 1, .ref a28, .int (nI (u29 + 1))])), (a25, .inl (κ 0, 6000, .inl ga25_39)), (a28, .inl (κ 0, 400, .inl g_a28__1))] H ∧ va_D A [(m0, .inr (12, [.ref a0, .ref a1, .ref a2, .int (nI u3), .int f4, .ref a5, .int (nI u6), .int f7, .int f8, .int f9, .int f10, .int (nI u11), .int (nI u12), .int (nI u13), .ref a14, .ref a15, .ref a16, .ref a17, .int f18, .int f19, .ref a20, .ref a21, .int (nI u22), .ref a23, .ref a24, .ref a25, .int (nI v26_39), .int 1, .ref a28, .int (nI (u29 + 1))])), (a25, .inl (κ 0, 6000, .inl ga25_39)), (a28, .inl (κ 0, 400, .inl g_a28__1))] ∧ va_S A s.heap H locs ∧ lv_has ls 2 [(1, .int (nI k1_39)), (0, .ref m0)]) (fun k9 H locs ls hI39 ih39 => ?_) (u29 + 1 - 0) _ _ _ ⟨0, u26, tx, (by omega), (by omega), (by omega), rfl, hP, hD, hS, lv_sub hl [0, 1] rfl⟩
    obtain ⟨k1_39, v26_39, ga25_39, hl39_0, hl39_1, hl39_2, hm39, hP, hD, hS, hl⟩ := hI39
    refine lv_iload_n hx hb dX12_endsLine_39 rfl (lv_at hl 0 rfl) ?_
    refine lv_aload_n hx hb dX12_endsLine_40 rfl (lv_at hl 1 rfl) ?_
    refine va_get (D := D) (ci := 12) (v := .int (nI (u29 + 1))) (C := RX12) (T := TX12) (N := 30) hx hb hts inlX12 hown hK hP 0 rfl rfl 29 (by decide) (hts _ mw_1447) (fun _ h9 => h9) rfl dX12_endsLine_41 ?_
    refine lv_icmp_ge (tgt := 85) hx hb dX12_endsLine_44 (by decide) (fun c_4 => ?_) (fun c_4 => ?_)
    · have nc_4 := cv_le (a := (u29 + 1)) (b := k1_39) (by omega) (by omega) c_4
      refine lv_aload_n hx hb dX12_endsLine_85 rfl (lv_at hl 1 rfl) ?_
      refine lv_iconst (v := 0) hx hb dX12_endsLine_86 (by decide) ?_
      refine va_put (D := D) (ci := 12) (v := .int 0) (ty := tyX12 29) (C := RX12) (T := TX12) (N := 30) hx hb hts inlX12 tyX12 tyX12_ok nmX12 hown hK hP hD hS 0 rfl rfl 29 (by decide) (hts _ mw_1447) (fun _ h9 => h9) rfl (tyX12_ok 29 (by decide)) rfl rfl (Nat.le_of_ble_eq_true rfl) dX12_endsLine_87 (fun H locs hP hD hS => ?_)
      have hP : va_P D vwCl [(m0, .inr (12, [.ref a0, .ref a1, .ref a2, .int (nI u3), .int f4, .ref a5, .int (nI u6), .int f7, .int f8, .int f9, .int f10, .int (nI u11), .int (nI u12), .int (nI u13), .ref a14, .ref a15, .ref a16, .ref a17, .int f18, .int f19, .ref a20, .ref a21, .int (nI u22), .ref a23, .ref a24, .ref a25, .int (nI v26_39), .int 1, .ref a28, .int 0])), (a25, .inl (κ 0, 6000, .inl ga25_39)), (a28, .inl (κ 0, 400, .inl g_a28__1))] H := hP
      have hD : va_D A [(m0, .inr (12, [.ref a0, .ref a1, .ref a2, .int (nI u3), .int f4, .ref a5, .int (nI u6), .int f7, .int f8, .int f9, .int f10, .int (nI u11), .int (nI u12), .int (nI u13), .ref a14, .ref a15, .ref a16, .ref a17, .int f18, .int f19, .ref a20, .ref a21, .int (nI u22), .ref a23, .ref a24, .ref a25, .int (nI v26_39), .int 1, .ref a28, .int 0])), (a25, .inl (κ 0, 6000, .inl ga25_39)), (a28, .inl (κ 0, 400, .inl g_a28__1))] := hD
      exact ct_vret hx hb hr hlk hS hP hD (v26_39, 1, ga25_39, g_a28__1) rfl (show v26_39 ≤ 6000 from (by first | assumption | omega | rfl | exact Or.inl (by assumption) | exact Or.inr (by assumption))) [0, 1, 2] rfl (by decide) trivial (Nat.le_of_ble_eq_true rfl) (Nat.le_of_ble_eq_true rfl) dX12_endsLine_90
    · have nc_4 := cv_nle (a := (u29 + 1)) (b := k1_39) (by omega) (by omega) c_4
      refine lv_aload_n hx hb dX12_endsLine_47 rfl (lv_at hl 1 rfl) ?_
      refine va_get (D := D) (ci := 12) (v := .int 1) (C := RX12) (T := TX12) (N := 30) hx hb hts inlX12 hown hK hP 0 rfl rfl 27 (by decide) (hts _ mw_1448) (fun _ h9 => h9) rfl dX12_endsLine_48 ?_
      refine lv_if_ne (tgt := 85) hx hb dX12_endsLine_51 (by decide) (fun c_5 => ?_) (fun c_5 => absurd c_5 (by decide))
      refine lv_aload_n hx hb dX12_endsLine_85 rfl (lv_at hl 1 rfl) ?_
      refine lv_iconst (v := 0) hx hb dX12_endsLine_86 (by decide) ?_
      refine va_put (D := D) (ci := 12) (v := .int 0) (ty := tyX12 29) (C := RX12) (T := TX12) (N := 30) hx hb hts inlX12 tyX12 tyX12_ok nmX12 hown hK hP hD hS 0 rfl rfl 29 (by decide) (hts _ mw_1447) (fun _ h9 => h9) rfl (tyX12_ok 29 (by decide)) rfl rfl (Nat.le_of_ble_eq_true rfl) dX12_endsLine_87 (fun H locs hP hD hS => ?_)
      have hP : va_P D vwCl [(m0, .inr (12, [.ref a0, .ref a1, .ref a2, .int (nI u3), .int f4, .ref a5, .int (nI u6), .int f7, .int f8, .int f9, .int f10, .int (nI u11), .int (nI u12), .int (nI u13), .ref a14, .ref a15, .ref a16, .ref a17, .int f18, .int f19, .ref a20, .ref a21, .int (nI u22), .ref a23, .ref a24, .ref a25, .int (nI v26_39), .int 1, .ref a28, .int 0])), (a25, .inl (κ 0, 6000, .inl ga25_39)), (a28, .inl (κ 0, 400, .inl g_a28__1))] H := hP
      have hD : va_D A [(m0, .inr (12, [.ref a0, .ref a1, .ref a2, .int (nI u3), .int f4, .ref a5, .int (nI u6), .int f7, .int f8, .int f9, .int f10, .int (nI u11), .int (nI u12), .int (nI u13), .ref a14, .ref a15, .ref a16, .ref a17, .int f18, .int f19, .ref a20, .ref a21, .int (nI u22), .ref a23, .ref a24, .ref a25, .int (nI v26_39), .int 1, .ref a28, .int 0])), (a25, .inl (κ 0, 6000, .inl ga25_39)), (a28, .inl (κ 0, 400, .inl g_a28__1))] := hD
      exact ct_vret hx hb hr hlk hS hP hD (v26_39, 1, ga25_39, g_a28__1) rfl (show v26_39 ≤ 6000 from (by first | assumption | omega | rfl | exact Or.inl (by assumption) | exact Or.inr (by assumption))) [0, 1, 2] rfl (by decide) trivial (Nat.le_of_ble_eq_true rfl) (Nat.le_of_ble_eq_true rfl) dX12_endsLine_90
  · refine lv_aload_n hx hb dX12_endsLine_14 rfl (lv_at hl 0 rfl) ?_
    refine va_get (D := D) (ci := 12) (v := .int (nI u26)) (C := RX12) (T := TX12) (N := 30) hx hb hts inlX12 hown hK hP 0 rfl rfl 26 (by decide) (hts _ mw_1446) (fun _ h9 => h9) rfl dX12_endsLine_15 ?_
    refine lv_aload_n hx hb dX12_endsLine_18 rfl (lv_at hl 0 rfl) ?_
    refine va_get (D := D) (ci := 12) (v := .int (nI (u29 + 1))) (C := RX12) (T := TX12) (N := 30) hx hb hts inlX12 hown hK hP 0 rfl rfl 29 (by decide) (hts _ mw_1447) (fun _ h9 => h9) rfl dX12_endsLine_19 ?_
    refine lv_iadd hx hb dX12_endsLine_22 ?_
    refine ki (v := (nI (u26 + (u29 + 1)))) (nI_add u26 (u29 + 1)) ?_
    refine lv_sipush (v := 6000) hx hb dX12_endsLine_23 (by decide) ?_
    refine lv_icmp_le (tgt := 33) hx hb dX12_endsLine_26 (by decide) (fun c_6 => ?_) (fun c_6 => ?_)
    · have nc_6 := cv_le (a := (u26 + (u29 + 1))) (b := 6000) (by omega) (by omega) c_6
      refine lv_iconst (v := 0) hx hb dX12_endsLine_33 (by decide) ?_
      refine va_put (D := D) (ci := 12) (v := .int 0) (ty := tyX12 27) (C := RX12) (T := TX12) (N := 30) hx hb hts inlX12 tyX12 tyX12_ok nmX12 hown hK hP hD hS 0 rfl rfl 27 (by decide) (hts _ mw_1448) (fun _ h9 => h9) rfl (tyX12_ok 27 (by decide)) rfl rfl (Nat.le_of_ble_eq_true rfl) dX12_endsLine_34 (fun H locs hP hD hS => ?_)
      have hP : va_P D vwCl [(m0, .inr (12, [.ref a0, .ref a1, .ref a2, .int (nI u3), .int f4, .ref a5, .int (nI u6), .int f7, .int f8, .int f9, .int f10, .int (nI u11), .int (nI u12), .int (nI u13), .ref a14, .ref a15, .ref a16, .ref a17, .int f18, .int f19, .ref a20, .ref a21, .int (nI u22), .ref a23, .ref a24, .ref a25, .int (nI u26), .int 0, .ref a28, .int (nI (u29 + 1))])), (a25, .inl (κ 0, 6000, .inl tx)), (a28, .inl (κ 0, 400, .inl g_a28__1))] H := hP
      have hD : va_D A [(m0, .inr (12, [.ref a0, .ref a1, .ref a2, .int (nI u3), .int f4, .ref a5, .int (nI u6), .int f7, .int f8, .int f9, .int f10, .int (nI u11), .int (nI u12), .int (nI u13), .ref a14, .ref a15, .ref a16, .ref a17, .int f18, .int f19, .ref a20, .ref a21, .int (nI u22), .ref a23, .ref a24, .ref a25, .int (nI u26), .int 0, .ref a28, .int (nI (u29 + 1))])), (a25, .inl (κ 0, 6000, .inl tx)), (a28, .inl (κ 0, 400, .inl g_a28__1))] := hD
      refine lv_iconst (v := 0) hx hb dX12_endsLine_37 (by decide) ?_
      refine lv_istore_n (lv' := [(1, .int 0), (0, .ref m0)]) hx hb dX12_endsLine_38 rfl hl (by decide) rfl (fun ls hl => ?_)
      refine loop_dn (fun k9 H locs ls => ∃ (k1_39 : Nat), ∃ (v26_39 : Nat), ∃ (ga25_39 : Nat → Int32), (k1_39 ≤ u29 + 1) ∧ (v26_39 = u26 + k1_39) ∧ (v26_39 ≤ 6000) ∧ u29 + 1 - k1_39 = k9 ∧ va_P D vwCl [(m0, .inr (12, [.ref a0, .ref a1, .ref a2, .int (nI u3), .int f4, .ref a5, .int (nI u6), .int f7, .int f8, .int f9, .int f10, .int (nI u11), .int (nI u12), .int (nI u13), .ref a14, .ref a15, .ref a16, .ref a17, .int f18, .int f19, .ref a20, .ref a21, .int (nI u22), .ref a23, .ref a24, .ref a25, .int (nI v26_39), .int 0, .ref a28, .int (nI (u29 + 1))])), (a25, .inl (κ 0, 6000, .inl ga25_39)), (a28, .inl (κ 0, 400, .inl g_a28__1))] H ∧ va_D A [(m0, .inr (12, [.ref a0, .ref a1, .ref a2, .int (nI u3), .int f4, .ref a5, .int (nI u6), .int f7, .int f8, .int f9, .int f10, .int (nI u11), .int (nI u12), .int (nI u13), .ref a14, .ref a15, .ref a16, .ref a17, .int f18, .int f19, .ref a20, .ref a21, .int (nI u22), .ref a23, .ref a24, .ref a25, .int (nI v26_39), .int 0, .ref a28, .int (nI (u29 + 1))])), (a25, .inl (κ 0, 6000, .inl ga25_39)), (a28, .inl (κ 0, 400, .inl g_a28__1))] ∧ va_S A s.heap H locs ∧ lv_has ls 2 [(1, .int (nI k1_39)), (0, .ref m0)]) (fun k9 H locs ls hI39 ih39 => ?_) (u29 + 1 - 0) _ _ _ ⟨0, u26, tx, (by omega), (by omega), (by omega), rfl, hP, hD, hS, lv_sub hl [0, 1] rfl⟩
      obtain ⟨k1_39, v26_39, ga25_39, hl39_0, hl39_1, hl39_2, hm39, hP, hD, hS, hl⟩ := hI39
      refine lv_iload_n hx hb dX12_endsLine_39 rfl (lv_at hl 0 rfl) ?_
      refine lv_aload_n hx hb dX12_endsLine_40 rfl (lv_at hl 1 rfl) ?_
      refine va_get (D := D) (ci := 12) (v := .int (nI (u29 + 1))) (C := RX12) (T := TX12) (N := 30) hx hb hts inlX12 hown hK hP 0 rfl rfl 29 (by decide) (hts _ mw_1447) (fun _ h9 => h9) rfl dX12_endsLine_41 ?_
      refine lv_icmp_ge (tgt := 85) hx hb dX12_endsLine_44 (by decide) (fun c_7 => ?_) (fun c_7 => ?_)
      · have nc_7 := cv_le (a := (u29 + 1)) (b := k1_39) (by omega) (by omega) c_7
        refine lv_aload_n hx hb dX12_endsLine_85 rfl (lv_at hl 1 rfl) ?_
        refine lv_iconst (v := 0) hx hb dX12_endsLine_86 (by decide) ?_
        refine va_put (D := D) (ci := 12) (v := .int 0) (ty := tyX12 29) (C := RX12) (T := TX12) (N := 30) hx hb hts inlX12 tyX12 tyX12_ok nmX12 hown hK hP hD hS 0 rfl rfl 29 (by decide) (hts _ mw_1447) (fun _ h9 => h9) rfl (tyX12_ok 29 (by decide)) rfl rfl (Nat.le_of_ble_eq_true rfl) dX12_endsLine_87 (fun H locs hP hD hS => ?_)
        have hP : va_P D vwCl [(m0, .inr (12, [.ref a0, .ref a1, .ref a2, .int (nI u3), .int f4, .ref a5, .int (nI u6), .int f7, .int f8, .int f9, .int f10, .int (nI u11), .int (nI u12), .int (nI u13), .ref a14, .ref a15, .ref a16, .ref a17, .int f18, .int f19, .ref a20, .ref a21, .int (nI u22), .ref a23, .ref a24, .ref a25, .int (nI v26_39), .int 0, .ref a28, .int 0])), (a25, .inl (κ 0, 6000, .inl ga25_39)), (a28, .inl (κ 0, 400, .inl g_a28__1))] H := hP
        have hD : va_D A [(m0, .inr (12, [.ref a0, .ref a1, .ref a2, .int (nI u3), .int f4, .ref a5, .int (nI u6), .int f7, .int f8, .int f9, .int f10, .int (nI u11), .int (nI u12), .int (nI u13), .ref a14, .ref a15, .ref a16, .ref a17, .int f18, .int f19, .ref a20, .ref a21, .int (nI u22), .ref a23, .ref a24, .ref a25, .int (nI v26_39), .int 0, .ref a28, .int 0])), (a25, .inl (κ 0, 6000, .inl ga25_39)), (a28, .inl (κ 0, 400, .inl g_a28__1))] := hD
        exact ct_vret hx hb hr hlk hS hP hD (v26_39, 0, ga25_39, g_a28__1) rfl (show v26_39 ≤ 6000 from (by first | assumption | omega | rfl | exact Or.inl (by assumption) | exact Or.inr (by assumption))) [0, 1, 2] rfl (by decide) trivial (Nat.le_of_ble_eq_true rfl) (Nat.le_of_ble_eq_true rfl) dX12_endsLine_90
      · have nc_7 := cv_nle (a := (u29 + 1)) (b := k1_39) (by omega) (by omega) c_7
        refine lv_aload_n hx hb dX12_endsLine_47 rfl (lv_at hl 1 rfl) ?_
        refine va_get (D := D) (ci := 12) (v := .int 0) (C := RX12) (T := TX12) (N := 30) hx hb hts inlX12 hown hK hP 0 rfl rfl 27 (by decide) (hts _ mw_1448) (fun _ h9 => h9) rfl dX12_endsLine_48 ?_
        refine lv_if_ne (tgt := 85) hx hb dX12_endsLine_51 (by decide) (fun c_8 => absurd c_8 (by decide)) (fun c_8 => ?_)
        refine lv_aload_n hx hb dX12_endsLine_54 rfl (lv_at hl 1 rfl) ?_
        refine va_get (D := D) (ci := 12) (v := .ref a25) (C := RX12) (T := TX12) (N := 30) hx hb hts inlX12 hown hK hP 0 rfl rfl 25 (by decide) (hts _ mw_202) (fun _ h9 => h9) rfl dX12_endsLine_55 ?_
        refine lv_aload_n hx hb dX12_endsLine_58 rfl (lv_at hl 1 rfl) ?_
        refine va_get (D := D) (ci := 12) (v := .int (nI v26_39)) (C := RX12) (T := TX12) (N := 30) hx hb hts inlX12 hown hK hP 0 rfl rfl 26 (by decide) (hts _ mw_1446) (fun _ h9 => h9) rfl dX12_endsLine_59 ?_
        refine lv_aload_n hx hb dX12_endsLine_62 rfl (lv_at hl 1 rfl) ?_
        refine va_get (D := D) (ci := 12) (v := .ref a28) (C := RX12) (T := TX12) (N := 30) hx hb hts inlX12 hown hK hP 0 rfl rfl 28 (by decide) (hts _ mw_203) (fun _ h9 => h9) rfl dX12_endsLine_63 ?_
        refine lv_iload_n hx hb dX12_endsLine_66 rfl (lv_at hl 0 rfl) ?_
        refine va_iald hx hb hK hP 2 0 rfl rfl (i := nI k1_39) (vp_in_nI (n := k1_39) (by omega) (by omega)) dX12_endsLine_67 ?_
        refine kv (v := .int (g_a28__1 k1_39)) (by rw [nI_clamp (by omega)]) ?_
        obtain ⟨x_9, ex_9⟩ : ∃ y9 : Int32, g_a28__1 k1_39 = y9 := ⟨_, rfl⟩
        refine kv (v := .int x_9) (congrArg Value.int ex_9) ?_
        refine va_iast hx hb hK hP hD hS 1 0 rfl rfl (i := nI v26_39) (x := x_9) (vp_in_nI (n := v26_39) (by omega) (by omega)) dX12_endsLine_68 (fun H locs hP hD hS => ?_)
        rw [nI_clamp (by omega)] at hP hD
        have hP : va_P D vwCl [(m0, .inr (12, [.ref a0, .ref a1, .ref a2, .int (nI u3), .int f4, .ref a5, .int (nI u6), .int f7, .int f8, .int f9, .int f10, .int (nI u11), .int (nI u12), .int (nI u13), .ref a14, .ref a15, .ref a16, .ref a17, .int f18, .int f19, .ref a20, .ref a21, .int (nI u22), .ref a23, .ref a24, .ref a25, .int (nI v26_39), .int 0, .ref a28, .int (nI (u29 + 1))])), (a25, .inl (κ 0, 6000, .inl (upd ga25_39 v26_39 x_9))), (a28, .inl (κ 0, 400, .inl g_a28__1))] H := hP
        have hD : va_D A [(m0, .inr (12, [.ref a0, .ref a1, .ref a2, .int (nI u3), .int f4, .ref a5, .int (nI u6), .int f7, .int f8, .int f9, .int f10, .int (nI u11), .int (nI u12), .int (nI u13), .ref a14, .ref a15, .ref a16, .ref a17, .int f18, .int f19, .ref a20, .ref a21, .int (nI u22), .ref a23, .ref a24, .ref a25, .int (nI v26_39), .int 0, .ref a28, .int (nI (u29 + 1))])), (a25, .inl (κ 0, 6000, .inl (upd ga25_39 v26_39 x_9))), (a28, .inl (κ 0, 400, .inl g_a28__1))] := hD
        generalize upd ga25_39 v26_39 x_9 = g_10 at hP hD 
        refine lv_aload_n hx hb dX12_endsLine_69 rfl (lv_at hl 1 rfl) ?_
        refine lv_dup hx hb dX12_endsLine_70 rfl ?_
        refine va_get (D := D) (ci := 12) (v := .int (nI v26_39)) (C := RX12) (T := TX12) (N := 30) hx hb hts inlX12 hown hK hP 0 rfl rfl 26 (by decide) (hts _ mw_1446) (fun _ h9 => h9) rfl dX12_endsLine_71 ?_
        refine lv_iconst (v := 1) hx hb dX12_endsLine_74 (by decide) ?_
        refine lv_iadd hx hb dX12_endsLine_75 ?_
        refine ki (v := (nI (v26_39 + 1))) (nI_add v26_39 1) ?_
        refine va_put (D := D) (ci := 12) (v := .int (nI (v26_39 + 1))) (ty := tyX12 26) (C := RX12) (T := TX12) (N := 30) hx hb hts inlX12 tyX12 tyX12_ok nmX12 hown hK hP hD hS 0 rfl rfl 26 (by decide) (hts _ mw_1446) (fun _ h9 => h9) rfl (tyX12_ok 26 (by decide)) rfl rfl (Nat.le_of_ble_eq_true rfl) dX12_endsLine_76 (fun H locs hP hD hS => ?_)
        have hP : va_P D vwCl [(m0, .inr (12, [.ref a0, .ref a1, .ref a2, .int (nI u3), .int f4, .ref a5, .int (nI u6), .int f7, .int f8, .int f9, .int f10, .int (nI u11), .int (nI u12), .int (nI u13), .ref a14, .ref a15, .ref a16, .ref a17, .int f18, .int f19, .ref a20, .ref a21, .int (nI u22), .ref a23, .ref a24, .ref a25, .int (nI (v26_39 + 1)), .int 0, .ref a28, .int (nI (u29 + 1))])), (a25, .inl (κ 0, 6000, .inl g_10)), (a28, .inl (κ 0, 400, .inl g_a28__1))] H := hP
        have hD : va_D A [(m0, .inr (12, [.ref a0, .ref a1, .ref a2, .int (nI u3), .int f4, .ref a5, .int (nI u6), .int f7, .int f8, .int f9, .int f10, .int (nI u11), .int (nI u12), .int (nI u13), .ref a14, .ref a15, .ref a16, .ref a17, .int f18, .int f19, .ref a20, .ref a21, .int (nI u22), .ref a23, .ref a24, .ref a25, .int (nI (v26_39 + 1)), .int 0, .ref a28, .int (nI (u29 + 1))])), (a25, .inl (κ 0, 6000, .inl g_10)), (a28, .inl (κ 0, 400, .inl g_a28__1))] := hD
        refine lv_iinc (v := (nI (k1_39 + 1))) (lv' := [(1, .int (nI (k1_39 + 1))), (0, .ref m0)]) hx hb dX12_endsLine_79 hl (k := 0) rfl (nI_i k1_39) (by decide) rfl (fun ls hl => ?_)
        refine lv_goto (tgt := 39) hx hb dX12_endsLine_82 (by decide) ?_
        exact ih39 _ _ _ _ (by omega) ⟨(k1_39 + 1), (v26_39 + 1), g_10, (by omega), (by omega), (by omega), rfl, hP, hD, hS, lv_sub hl [0, 1] rfl⟩
    · have nc_6 := cv_nle (a := (u26 + (u29 + 1))) (b := 6000) (by omega) (by omega) c_6
      refine lv_iconst (v := 1) hx hb dX12_endsLine_29 (by decide) ?_
      refine lv_goto (tgt := 34) hx hb dX12_endsLine_30 (by decide) ?_
      refine va_put (D := D) (ci := 12) (v := .int 1) (ty := tyX12 27) (C := RX12) (T := TX12) (N := 30) hx hb hts inlX12 tyX12 tyX12_ok nmX12 hown hK hP hD hS 0 rfl rfl 27 (by decide) (hts _ mw_1448) (fun _ h9 => h9) rfl (tyX12_ok 27 (by decide)) rfl rfl (Nat.le_of_ble_eq_true rfl) dX12_endsLine_34 (fun H locs hP hD hS => ?_)
      have hP : va_P D vwCl [(m0, .inr (12, [.ref a0, .ref a1, .ref a2, .int (nI u3), .int f4, .ref a5, .int (nI u6), .int f7, .int f8, .int f9, .int f10, .int (nI u11), .int (nI u12), .int (nI u13), .ref a14, .ref a15, .ref a16, .ref a17, .int f18, .int f19, .ref a20, .ref a21, .int (nI u22), .ref a23, .ref a24, .ref a25, .int (nI u26), .int 1, .ref a28, .int (nI (u29 + 1))])), (a25, .inl (κ 0, 6000, .inl tx)), (a28, .inl (κ 0, 400, .inl g_a28__1))] H := hP
      have hD : va_D A [(m0, .inr (12, [.ref a0, .ref a1, .ref a2, .int (nI u3), .int f4, .ref a5, .int (nI u6), .int f7, .int f8, .int f9, .int f10, .int (nI u11), .int (nI u12), .int (nI u13), .ref a14, .ref a15, .ref a16, .ref a17, .int f18, .int f19, .ref a20, .ref a21, .int (nI u22), .ref a23, .ref a24, .ref a25, .int (nI u26), .int 1, .ref a28, .int (nI (u29 + 1))])), (a25, .inl (κ 0, 6000, .inl tx)), (a28, .inl (κ 0, 400, .inl g_a28__1))] := hD
      refine lv_iconst (v := 0) hx hb dX12_endsLine_37 (by decide) ?_
      refine lv_istore_n (lv' := [(1, .int 0), (0, .ref m0)]) hx hb dX12_endsLine_38 rfl hl (by decide) rfl (fun ls hl => ?_)
      refine loop_dn (fun k9 H locs ls => ∃ (k1_39 : Nat), ∃ (v26_39 : Nat), ∃ (ga25_39 : Nat → Int32), (k1_39 ≤ u29 + 1) ∧ (v26_39 = u26 + k1_39) ∧ (v26_39 ≤ 6000) ∧ u29 + 1 - k1_39 = k9 ∧ va_P D vwCl [(m0, .inr (12, [.ref a0, .ref a1, .ref a2, .int (nI u3), .int f4, .ref a5, .int (nI u6), .int f7, .int f8, .int f9, .int f10, .int (nI u11), .int (nI u12), .int (nI u13), .ref a14, .ref a15, .ref a16, .ref a17, .int f18, .int f19, .ref a20, .ref a21, .int (nI u22), .ref a23, .ref a24, .ref a25, .int (nI v26_39), .int 1, .ref a28, .int (nI (u29 + 1))])), (a25, .inl (κ 0, 6000, .inl ga25_39)), (a28, .inl (κ 0, 400, .inl g_a28__1))] H ∧ va_D A [(m0, .inr (12, [.ref a0, .ref a1, .ref a2, .int (nI u3), .int f4, .ref a5, .int (nI u6), .int f7, .int f8, .int f9, .int f10, .int (nI u11), .int (nI u12), .int (nI u13), .ref a14, .ref a15, .ref a16, .ref a17, .int f18, .int f19, .ref a20, .ref a21, .int (nI u22), .ref a23, .ref a24, .ref a25, .int (nI v26_39), .int 1, .ref a28, .int (nI (u29 + 1))])), (a25, .inl (κ 0, 6000, .inl ga25_39)), (a28, .inl (κ 0, 400, .inl g_a28__1))] ∧ va_S A s.heap H locs ∧ lv_has ls 2 [(1, .int (nI k1_39)), (0, .ref m0)]) (fun k9 H locs ls hI39 ih39 => ?_) (u29 + 1 - 0) _ _ _ ⟨0, u26, tx, (by omega), (by omega), (by omega), rfl, hP, hD, hS, lv_sub hl [0, 1] rfl⟩
      obtain ⟨k1_39, v26_39, ga25_39, hl39_0, hl39_1, hl39_2, hm39, hP, hD, hS, hl⟩ := hI39
      refine lv_iload_n hx hb dX12_endsLine_39 rfl (lv_at hl 0 rfl) ?_
      refine lv_aload_n hx hb dX12_endsLine_40 rfl (lv_at hl 1 rfl) ?_
      refine va_get (D := D) (ci := 12) (v := .int (nI (u29 + 1))) (C := RX12) (T := TX12) (N := 30) hx hb hts inlX12 hown hK hP 0 rfl rfl 29 (by decide) (hts _ mw_1447) (fun _ h9 => h9) rfl dX12_endsLine_41 ?_
      refine lv_icmp_ge (tgt := 85) hx hb dX12_endsLine_44 (by decide) (fun c_11 => ?_) (fun c_11 => ?_)
      · have nc_11 := cv_le (a := (u29 + 1)) (b := k1_39) (by omega) (by omega) c_11
        refine lv_aload_n hx hb dX12_endsLine_85 rfl (lv_at hl 1 rfl) ?_
        refine lv_iconst (v := 0) hx hb dX12_endsLine_86 (by decide) ?_
        refine va_put (D := D) (ci := 12) (v := .int 0) (ty := tyX12 29) (C := RX12) (T := TX12) (N := 30) hx hb hts inlX12 tyX12 tyX12_ok nmX12 hown hK hP hD hS 0 rfl rfl 29 (by decide) (hts _ mw_1447) (fun _ h9 => h9) rfl (tyX12_ok 29 (by decide)) rfl rfl (Nat.le_of_ble_eq_true rfl) dX12_endsLine_87 (fun H locs hP hD hS => ?_)
        have hP : va_P D vwCl [(m0, .inr (12, [.ref a0, .ref a1, .ref a2, .int (nI u3), .int f4, .ref a5, .int (nI u6), .int f7, .int f8, .int f9, .int f10, .int (nI u11), .int (nI u12), .int (nI u13), .ref a14, .ref a15, .ref a16, .ref a17, .int f18, .int f19, .ref a20, .ref a21, .int (nI u22), .ref a23, .ref a24, .ref a25, .int (nI v26_39), .int 1, .ref a28, .int 0])), (a25, .inl (κ 0, 6000, .inl ga25_39)), (a28, .inl (κ 0, 400, .inl g_a28__1))] H := hP
        have hD : va_D A [(m0, .inr (12, [.ref a0, .ref a1, .ref a2, .int (nI u3), .int f4, .ref a5, .int (nI u6), .int f7, .int f8, .int f9, .int f10, .int (nI u11), .int (nI u12), .int (nI u13), .ref a14, .ref a15, .ref a16, .ref a17, .int f18, .int f19, .ref a20, .ref a21, .int (nI u22), .ref a23, .ref a24, .ref a25, .int (nI v26_39), .int 1, .ref a28, .int 0])), (a25, .inl (κ 0, 6000, .inl ga25_39)), (a28, .inl (κ 0, 400, .inl g_a28__1))] := hD
        exact ct_vret hx hb hr hlk hS hP hD (v26_39, 1, ga25_39, g_a28__1) rfl (show v26_39 ≤ 6000 from (by first | assumption | omega | rfl | exact Or.inl (by assumption) | exact Or.inr (by assumption))) [0, 1, 2] rfl (by decide) trivial (Nat.le_of_ble_eq_true rfl) (Nat.le_of_ble_eq_true rfl) dX12_endsLine_90
      · have nc_11 := cv_nle (a := (u29 + 1)) (b := k1_39) (by omega) (by omega) c_11
        refine lv_aload_n hx hb dX12_endsLine_47 rfl (lv_at hl 1 rfl) ?_
        refine va_get (D := D) (ci := 12) (v := .int 1) (C := RX12) (T := TX12) (N := 30) hx hb hts inlX12 hown hK hP 0 rfl rfl 27 (by decide) (hts _ mw_1448) (fun _ h9 => h9) rfl dX12_endsLine_48 ?_
        refine lv_if_ne (tgt := 85) hx hb dX12_endsLine_51 (by decide) (fun c_12 => ?_) (fun c_12 => absurd c_12 (by decide))
        refine lv_aload_n hx hb dX12_endsLine_85 rfl (lv_at hl 1 rfl) ?_
        refine lv_iconst (v := 0) hx hb dX12_endsLine_86 (by decide) ?_
        refine va_put (D := D) (ci := 12) (v := .int 0) (ty := tyX12 29) (C := RX12) (T := TX12) (N := 30) hx hb hts inlX12 tyX12 tyX12_ok nmX12 hown hK hP hD hS 0 rfl rfl 29 (by decide) (hts _ mw_1447) (fun _ h9 => h9) rfl (tyX12_ok 29 (by decide)) rfl rfl (Nat.le_of_ble_eq_true rfl) dX12_endsLine_87 (fun H locs hP hD hS => ?_)
        have hP : va_P D vwCl [(m0, .inr (12, [.ref a0, .ref a1, .ref a2, .int (nI u3), .int f4, .ref a5, .int (nI u6), .int f7, .int f8, .int f9, .int f10, .int (nI u11), .int (nI u12), .int (nI u13), .ref a14, .ref a15, .ref a16, .ref a17, .int f18, .int f19, .ref a20, .ref a21, .int (nI u22), .ref a23, .ref a24, .ref a25, .int (nI v26_39), .int 1, .ref a28, .int 0])), (a25, .inl (κ 0, 6000, .inl ga25_39)), (a28, .inl (κ 0, 400, .inl g_a28__1))] H := hP
        have hD : va_D A [(m0, .inr (12, [.ref a0, .ref a1, .ref a2, .int (nI u3), .int f4, .ref a5, .int (nI u6), .int f7, .int f8, .int f9, .int f10, .int (nI u11), .int (nI u12), .int (nI u13), .ref a14, .ref a15, .ref a16, .ref a17, .int f18, .int f19, .ref a20, .ref a21, .int (nI u22), .ref a23, .ref a24, .ref a25, .int (nI v26_39), .int 1, .ref a28, .int 0])), (a25, .inl (κ 0, 6000, .inl ga25_39)), (a28, .inl (κ 0, 400, .inl g_a28__1))] := hD
        exact ct_vret hx hb hr hlk hS hP hD (v26_39, 1, ga25_39, g_a28__1) rfl (show v26_39 ≤ 6000 from (by first | assumption | omega | rfl | exact Or.inl (by assumption) | exact Or.inr (by assumption))) [0, 1, 2] rfl (by decide) trivial (Nat.le_of_ble_eq_true rfl) (Nat.le_of_ble_eq_true rfl) dX12_endsLine_90
set_option maxHeartbeats 4000000 in
set_option maxRecDepth 100000 in
theorem s_X12_write (l : Launch) (D : va_G) (κ : Nat → ClassId) (m0 : Nat) (a0 : Nat) (a1 : Nat) (a2 : Nat) (u3 : Nat) (f4 : Int32) (a5 : Nat) (u6 : Nat) (f7 : Int32) (f8 : Int32) (f9 : Int32) (f10 : Int32) (u11 : Nat) (u12 : Nat) (u13 : Nat) (a14 : Nat) (a15 : Nat) (a16 : Nat) (a17 : Nat) (f18 : Int32) (f19 : Int32) (a20 : Nat) (a21 : Nat) (u22 : Nat) (a23 : Nat) (a24 : Nat) (a25 : Nat) (u26 : Nat) (f27 : Int32) (a28 : Nat) (u29 : Nat) (w : Nat → Int32) (tx : Nat → Int32) (li : Nat → Int32) (za : Int32) (h26 : u26 ≤ 6000) (h_a0 : Pw w) (h29 : u29 = 0) : Ct l yX12_write (wl yX12_write cX12_write 5 (some .int)) { frames := 3, cells := 0, slots := 0, locals := 74 } D κ [.ref m0, .int za] [(m0, .inr (12, [.ref a0, .ref a1, .ref a2, .int (nI u3), .int f4, .ref a5, .int (nI u6), .int f7, .int f8, .int f9, .int f10, .int (nI u11), .int (nI u12), .int (nI u13), .ref a14, .ref a15, .ref a16, .ref a17, .int f18, .int f19, .ref a20, .ref a21, .int (nI u22), .ref a23, .ref a24, .ref a25, .int (nI u26), .int f27, .ref a28, .int (nI u29)])), (a0, .inl (κ 0, 21375, .inl w)), (a25, .inl (κ 0, 6000, .inl tx)), (a28, .inl (κ 0, 400, .inl li))] (fun _ => True) (fun u9 : Int32 × Nat × Int32 × Nat × (Nat → Int32) × (Nat → Int32) => some (.int u9.1)) (fun u9 : Int32 × Nat × Int32 × Nat × (Nat → Int32) × (Nat → Int32) => u9.2.1 ≤ 6000 ∧ u9.2.2.2.1 = 0) (fun u9 : Int32 × Nat × Int32 × Nat × (Nat → Int32) × (Nat → Int32) => [(m0, .inr (12, [.ref a0, .ref a1, .ref a2, .int (nI u3), .int f4, .ref a5, .int (nI u6), .int f7, .int f8, .int f9, .int f10, .int (nI u11), .int (nI u12), .int (nI u13), .ref a14, .ref a15, .ref a16, .ref a17, .int f18, .int f19, .ref a20, .ref a21, .int (nI u22), .ref a23, .ref a24, .ref a25, .int (nI u9.2.1), .int u9.2.2.1, .ref a28, .int (nI u9.2.2.2.1)])), (a0, .inl (κ 0, 21375, .inl w)), (a25, .inl (κ 0, 6000, .inl u9.2.2.2.2.1)), (a28, .inl (κ 0, 400, .inl u9.2.2.2.2.2))]) (fun _ _ => True) := by
  refine ct_of (by decide +kernel) (Nat.le_of_ble_eq_true rfl) ?_
  intro p e s m args below meth c A ls hx hb hr hml hts hown hlk hin hKK hK hA hP hD hS hI hl
  have hS : va_S A s.heap s.heap [] := hS
  have hFX : FX p s m args c cX12_write 5 RX12 := ⟨hx, hb, hml, hown, hts⟩
  have hl : lv_has ls 5 [(0, .ref m0), (1, .int za)] := hl
  refine lv_aload_n hx hb dX12_write_0 rfl (lv_at hl 0 rfl) ?_
  refine lv_iload_n hx hb dX12_write_1 rfl (lv_at hl 1 rfl) ?_
  refine cr_V (As := [.int za]) (rest := []) hFX hKK (s_X12_isTable l D κ m0 a0 a1 a2 u3 f4 a5 u6 f7 f8 f9 f10 u11 u12 u13 a14 a15 a16 a17 f18 f19 a20 a21 u22 a23 a24 a25 u26 f27 a28 u29 w za h_a0) 1 gV_X12_70 hdV_X12_isTable rfl rfl ⟨Nat.le_of_ble_eq_true rfl, Nat.le_of_ble_eq_true rfl⟩ rfl rfl (Nat.le_of_ble_eq_true rfl) dX12_write_2 ⟨Nat.le_of_ble_eq_true rfl, Nat.le_of_ble_eq_true rfl⟩ hl.1 hP 0 12 rfl rfl rfl (hP.sub [0, 1] rfl) (fun r__1 hp_2 => ?_)
  replace hp_2 : ((r__1 = 1 ∧ (∃ j : Nat, j < 3 ∧ za = nI j)) ∨ (r__1 = 0)) := hp_2
  have ha_3 := hp_2
  clear hp_2
  rcases ha_3 with ⟨rfl, ⟨j_4, hj_4, rfl⟩⟩ | rfl
  · refine W.eq (g2 := F0 m 5 ls [.int 1]) rfl ?_
    refine lv_if_ne (tgt := 10) hx hb dX12_write_5 (by decide) (fun c_6 => ?_) (fun c_6 => absurd c_6 (by decide))
    refine lv_aload_n hx hb dX12_write_10 rfl (lv_at hl 0 rfl) ?_
    refine lv_iconst (v := 0) hx hb dX12_write_11 (by decide) ?_
    refine va_put (D := D) (ci := 12) (v := .int 0) (ty := tyX12 26) (C := RX12) (T := TX12) (N := 30) hx hb hts inlX12 tyX12 tyX12_ok nmX12 hown hK hP hD hS 0 rfl rfl 26 (by decide) (hts _ mw_1446) (fun _ h9 => h9) rfl (tyX12_ok 26 (by decide)) rfl rfl (Nat.le_of_ble_eq_true rfl) dX12_write_12 (fun H locs hP hD hS => ?_)
    have hP : va_P D vwCl [(m0, .inr (12, [.ref a0, .ref a1, .ref a2, .int (nI u3), .int f4, .ref a5, .int (nI u6), .int f7, .int f8, .int f9, .int f10, .int (nI u11), .int (nI u12), .int (nI u13), .ref a14, .ref a15, .ref a16, .ref a17, .int f18, .int f19, .ref a20, .ref a21, .int (nI u22), .ref a23, .ref a24, .ref a25, .int 0, .int f27, .ref a28, .int (nI u29)])), (a0, .inl (κ 0, 21375, .inl w)), (a25, .inl (κ 0, 6000, .inl tx)), (a28, .inl (κ 0, 400, .inl li))] H := hP
    have hD : va_D A [(m0, .inr (12, [.ref a0, .ref a1, .ref a2, .int (nI u3), .int f4, .ref a5, .int (nI u6), .int f7, .int f8, .int f9, .int f10, .int (nI u11), .int (nI u12), .int (nI u13), .ref a14, .ref a15, .ref a16, .ref a17, .int f18, .int f19, .ref a20, .ref a21, .int (nI u22), .ref a23, .ref a24, .ref a25, .int 0, .int f27, .ref a28, .int (nI u29)])), (a0, .inl (κ 0, 21375, .inl w)), (a25, .inl (κ 0, 6000, .inl tx)), (a28, .inl (κ 0, 400, .inl li))] := hD
    refine lv_aload_n hx hb dX12_write_15 rfl (lv_at hl 0 rfl) ?_
    refine lv_iconst (v := 0) hx hb dX12_write_16 (by decide) ?_
    refine va_put (D := D) (ci := 12) (v := .int 0) (ty := tyX12 29) (C := RX12) (T := TX12) (N := 30) hx hb hts inlX12 tyX12 tyX12_ok nmX12 hown hK hP hD hS 0 rfl rfl 29 (by decide) (hts _ mw_1447) (fun _ h9 => h9) rfl (tyX12_ok 29 (by decide)) rfl rfl (Nat.le_of_ble_eq_true rfl) dX12_write_17 (fun H locs hP hD hS => ?_)
    have hP : va_P D vwCl [(m0, .inr (12, [.ref a0, .ref a1, .ref a2, .int (nI u3), .int f4, .ref a5, .int (nI u6), .int f7, .int f8, .int f9, .int f10, .int (nI u11), .int (nI u12), .int (nI u13), .ref a14, .ref a15, .ref a16, .ref a17, .int f18, .int f19, .ref a20, .ref a21, .int (nI u22), .ref a23, .ref a24, .ref a25, .int 0, .int f27, .ref a28, .int 0])), (a0, .inl (κ 0, 21375, .inl w)), (a25, .inl (κ 0, 6000, .inl tx)), (a28, .inl (κ 0, 400, .inl li))] H := hP
    have hD : va_D A [(m0, .inr (12, [.ref a0, .ref a1, .ref a2, .int (nI u3), .int f4, .ref a5, .int (nI u6), .int f7, .int f8, .int f9, .int f10, .int (nI u11), .int (nI u12), .int (nI u13), .ref a14, .ref a15, .ref a16, .ref a17, .int f18, .int f19, .ref a20, .ref a21, .int (nI u22), .ref a23, .ref a24, .ref a25, .int 0, .int f27, .ref a28, .int 0])), (a0, .inl (κ 0, 21375, .inl w)), (a25, .inl (κ 0, 6000, .inl tx)), (a28, .inl (κ 0, 400, .inl li))] := hD
    refine lv_aload_n hx hb dX12_write_20 rfl (lv_at hl 0 rfl) ?_
    refine lv_iconst (v := 0) hx hb dX12_write_21 (by decide) ?_
    refine va_put (D := D) (ci := 12) (v := .int 0) (ty := tyX12 27) (C := RX12) (T := TX12) (N := 30) hx hb hts inlX12 tyX12 tyX12_ok nmX12 hown hK hP hD hS 0 rfl rfl 27 (by decide) (hts _ mw_1448) (fun _ h9 => h9) rfl (tyX12_ok 27 (by decide)) rfl rfl (Nat.le_of_ble_eq_true rfl) dX12_write_22 (fun H locs hP hD hS => ?_)
    have hP : va_P D vwCl [(m0, .inr (12, [.ref a0, .ref a1, .ref a2, .int (nI u3), .int f4, .ref a5, .int (nI u6), .int f7, .int f8, .int f9, .int f10, .int (nI u11), .int (nI u12), .int (nI u13), .ref a14, .ref a15, .ref a16, .ref a17, .int f18, .int f19, .ref a20, .ref a21, .int (nI u22), .ref a23, .ref a24, .ref a25, .int 0, .int 0, .ref a28, .int 0])), (a0, .inl (κ 0, 21375, .inl w)), (a25, .inl (κ 0, 6000, .inl tx)), (a28, .inl (κ 0, 400, .inl li))] H := hP
    have hD : va_D A [(m0, .inr (12, [.ref a0, .ref a1, .ref a2, .int (nI u3), .int f4, .ref a5, .int (nI u6), .int f7, .int f8, .int f9, .int f10, .int (nI u11), .int (nI u12), .int (nI u13), .ref a14, .ref a15, .ref a16, .ref a17, .int f18, .int f19, .ref a20, .ref a21, .int (nI u22), .ref a23, .ref a24, .ref a25, .int 0, .int 0, .ref a28, .int 0])), (a0, .inl (κ 0, 21375, .inl w)), (a25, .inl (κ 0, 6000, .inl tx)), (a28, .inl (κ 0, 400, .inl li))] := hD
    refine lv_aload_n hx hb dX12_write_25 rfl (lv_at hl 0 rfl) ?_
    refine va_get (D := D) (ci := 12) (v := .ref a0) (C := RX12) (T := TX12) (N := 30) hx hb hts inlX12 hown hK hP 0 rfl rfl 0 (by decide) (hts _ mw_187) (fun _ h9 => h9) rfl dX12_write_26 ?_
    refine lv_iload_n hx hb dX12_write_29 rfl (lv_at hl 1 rfl) ?_
    refine lv_iconst (v := 1) hx hb dX12_write_30 (by decide) ?_
    refine cr_S (As := [.int (nI j_4), .int 1]) (rest := [.ref a0]) hFX hKK (s_X12_at l D κ j_4 1) 2 gS_X12_66 hdS_X12_at rfl rfl ⟨Nat.le_of_ble_eq_true rfl, Nat.le_of_ble_eq_true rfl⟩ rfl rfl (Nat.le_of_ble_eq_true rfl) dX12_write_31 ⟨Nat.le_of_ble_eq_true rfl, Nat.le_of_ble_eq_true rfl⟩ hl.1 (hP.sub [] rfl) (fun _ hp_7 => ?_)
    refine W.eq (g2 := F0 m 34 ls [.int (nI (7123 * j_4 + 1)), .ref a0]) rfl ?_
    refine va_iald hx hb hK hP 1 0 rfl rfl (i := nI (7123 * j_4 + 1)) (vp_in_nI (n := (7123 * j_4 + 1)) (by omega) (by omega)) dX12_write_34 ?_
    refine kv (v := .int (w (7123 * j_4 + 1))) (by rw [nI_clamp (by omega)]) ?_
    obtain ⟨n_8, hn_8, en_8⟩ : ∃ n9 : Nat, n9 ≤ 8 ∧ w (7123 * j_4 + 1) = nI n9 := id (h_a0 _ _ (mN (t := j_4) (by omega) (by omega)))
    refine kv (v := .int (nI n_8)) (congrArg Value.int en_8) ?_
    refine lv_istore_n (lv' := [(2, .int (nI n_8)), (0, .ref m0), (1, .int (nI j_4))]) hx hb dX12_write_35 rfl hl (by decide) rfl (fun ls hl => ?_)
    refine lv_aload_n hx hb dX12_write_36 rfl (lv_at hl 1 rfl) ?_
    refine va_get (D := D) (ci := 12) (v := .ref a0) (C := RX12) (T := TX12) (N := 30) hx hb hts inlX12 hown hK hP 0 rfl rfl 0 (by decide) (hts _ mw_187) (fun _ h9 => h9) rfl dX12_write_37 ?_
    refine lv_sipush (v := 21371) hx hb dX12_write_40 (by decide) ?_
    refine va_iald hx hb hK hP 1 0 rfl rfl (i := 21371) (vp_k (by decide)) dX12_write_43 ?_
    obtain ⟨x_9, ex_9⟩ : ∃ y9 : Int32, w 21371 = y9 := ⟨_, rfl⟩
    refine kv (v := .int x_9) (congrArg Value.int ex_9) ?_
    refine lv_iconst (v := 1) hx hb dX12_write_44 (by decide) ?_
    refine lv_icmp_ne (tgt := 122) hx hb dX12_write_45 (by decide) (fun c_10 => ?_) (fun c_10 => ?_)
    · refine lv_iconst (v := 0) hx hb dX12_write_122 (by decide) ?_
      refine lv_istore_n (lv' := [(3, .int 0), (2, .int (nI n_8)), (0, .ref m0), (1, .int (nI j_4))]) hx hb dX12_write_123 rfl hl (by decide) rfl (fun ls hl => ?_)
      refine loop_dn (fun k9 H locs ls => ∃ (k3_124 : Nat), ∃ (v26_124 : Nat), ∃ (v27_124 : Int32), ∃ (v29_124 : Nat), ∃ (ga25_124 : Nat → Int32), ∃ (ga28_124 : Nat → Int32), (k3_124 ≤ 40) ∧ (v26_124 ≤ 6000) ∧ (v29_124 = 0) ∧ 40 - k3_124 = k9 ∧ va_P D vwCl [(m0, .inr (12, [.ref a0, .ref a1, .ref a2, .int (nI u3), .int f4, .ref a5, .int (nI u6), .int f7, .int f8, .int f9, .int f10, .int (nI u11), .int (nI u12), .int (nI u13), .ref a14, .ref a15, .ref a16, .ref a17, .int f18, .int f19, .ref a20, .ref a21, .int (nI u22), .ref a23, .ref a24, .ref a25, .int (nI v26_124), .int v27_124, .ref a28, .int (nI v29_124)])), (a0, .inl (κ 0, 21375, .inl w)), (a25, .inl (κ 0, 6000, .inl ga25_124)), (a28, .inl (κ 0, 400, .inl ga28_124))] H ∧ va_D A [(m0, .inr (12, [.ref a0, .ref a1, .ref a2, .int (nI u3), .int f4, .ref a5, .int (nI u6), .int f7, .int f8, .int f9, .int f10, .int (nI u11), .int (nI u12), .int (nI u13), .ref a14, .ref a15, .ref a16, .ref a17, .int f18, .int f19, .ref a20, .ref a21, .int (nI u22), .ref a23, .ref a24, .ref a25, .int (nI v26_124), .int v27_124, .ref a28, .int (nI v29_124)])), (a0, .inl (κ 0, 21375, .inl w)), (a25, .inl (κ 0, 6000, .inl ga25_124)), (a28, .inl (κ 0, 400, .inl ga28_124))] ∧ va_S A s.heap H locs ∧ lv_has ls 5 [(3, .int (nI k3_124)), (2, .int (nI n_8)), (0, .ref m0), (1, .int (nI j_4))]) (fun k9 H locs ls hI124 ih124 => ?_) (40 - 0) _ _ _ ⟨0, 0, 0, 0, tx, li, (by omega), (by omega), (by omega), rfl, hP, hD, hS, lv_sub hl [0, 1, 2, 3] rfl⟩
      obtain ⟨k3_124, v26_124, v27_124, v29_124, ga25_124, ga28_124, hl124_0, hl124_1, hl124_2, hm124, hP, hD, hS, hl⟩ := hI124
      refine lv_iload_n hx hb dX12_write_124 rfl (lv_at hl 0 rfl) ?_
      refine lv_aload_n hx hb dX12_write_125 rfl (lv_at hl 2 rfl) ?_
      refine lv_iload_n hx hb dX12_write_126 rfl (lv_at hl 3 rfl) ?_
      refine cr_V (As := [.int (nI j_4)]) (rest := [.int (nI k3_124)]) hFX hKK (s2_X12_viewMany l D κ m0 a0 a1 a2 u3 f4 a5 u6 f7 f8 f9 f10 u11 u12 u13 a14 a15 a16 a17 f18 f19 a20 a21 u22 a23 a24 a25 v26_124 v27_124 a28 v29_124 w j_4 h_a0 (by omega)) 1 gV_X12_341 hdV_X12_viewMany rfl rfl ⟨Nat.le_of_ble_eq_true rfl, Nat.le_of_ble_eq_true rfl⟩ rfl rfl (Nat.le_of_ble_eq_true rfl) dX12_write_127 ⟨Nat.le_of_ble_eq_true rfl, Nat.le_of_ble_eq_true rfl⟩ hl.1 hP 0 12 rfl rfl rfl (hP.sub [0, 1] rfl) (fun n__11 hp_12 => ?_)
      replace hp_12 : n__11 ≤ 40 ∧ n__11 = vmF w j_4 := hp_12
      obtain ⟨h_13, h_14⟩ := hp_12
      refine W.eq (g2 := F0 m 130 ls [.int (nI n__11), .int (nI k3_124)]) rfl ?_
      refine lv_icmp_ge (tgt := 188) hx hb dX12_write_130 (by decide) (fun c_15 => ?_) (fun c_15 => ?_)
      · have nc_15 := cv_le (a := n__11) (b := k3_124) (by omega) (by omega) c_15
        refine lv_aload_n hx hb dX12_write_188 rfl (lv_at hl 2 rfl) ?_
        refine va_get (D := D) (ci := 12) (v := .int (nI v26_124)) (C := RX12) (T := TX12) (N := 30) hx hb hts inlX12 hown hK hP 0 rfl rfl 26 (by decide) (hts _ mw_1446) (fun _ h9 => h9) rfl dX12_write_189 ?_
        exact ct_iret hx hb hr hlk rfl hS hP hD (nI v26_124, v26_124, v27_124, v29_124, ga25_124, ga28_124) rfl ⟨(show v26_124 ≤ 6000 from (by first | assumption | omega | rfl | exact Or.inl (by assumption) | exact Or.inr (by assumption))), (show v29_124 = 0 from (by first | assumption | omega | rfl | exact Or.inl (by assumption) | exact Or.inr (by assumption)))⟩ [0, 1, 2, 3] rfl (by decide) trivial (Nat.le_of_ble_eq_true rfl) (Nat.le_of_ble_eq_true rfl) dX12_write_192
      · have nc_15 := cv_nle (a := n__11) (b := k3_124) (by omega) (by omega) c_15
        refine lv_iconst (v := 0) hx hb dX12_write_133 (by decide) ?_
        refine lv_istore (lv' := [(4, .int 0), (3, .int (nI k3_124)), (2, .int (nI n_8)), (0, .ref m0), (1, .int (nI j_4))]) hx hb dX12_write_134 hl (by decide) rfl (fun ls hl => ?_)
        refine loop_dn (fun k9 H locs ls => ∃ (k4_136 : Nat), ∃ (v29_136 : Nat), ∃ (ga28_136 : Nat → Int32), (k4_136 ≤ 8) ∧ (v29_136 ≤ 43 * k4_136) ∧ 8 - k4_136 = k9 ∧ va_P D vwCl [(m0, .inr (12, [.ref a0, .ref a1, .ref a2, .int (nI u3), .int f4, .ref a5, .int (nI u6), .int f7, .int f8, .int f9, .int f10, .int (nI u11), .int (nI u12), .int (nI u13), .ref a14, .ref a15, .ref a16, .ref a17, .int f18, .int f19, .ref a20, .ref a21, .int (nI u22), .ref a23, .ref a24, .ref a25, .int (nI v26_124), .int v27_124, .ref a28, .int (nI v29_136)])), (a0, .inl (κ 0, 21375, .inl w)), (a25, .inl (κ 0, 6000, .inl ga25_124)), (a28, .inl (κ 0, 400, .inl ga28_136))] H ∧ va_D A [(m0, .inr (12, [.ref a0, .ref a1, .ref a2, .int (nI u3), .int f4, .ref a5, .int (nI u6), .int f7, .int f8, .int f9, .int f10, .int (nI u11), .int (nI u12), .int (nI u13), .ref a14, .ref a15, .ref a16, .ref a17, .int f18, .int f19, .ref a20, .ref a21, .int (nI u22), .ref a23, .ref a24, .ref a25, .int (nI v26_124), .int v27_124, .ref a28, .int (nI v29_136)])), (a0, .inl (κ 0, 21375, .inl w)), (a25, .inl (κ 0, 6000, .inl ga25_124)), (a28, .inl (κ 0, 400, .inl ga28_136))] ∧ va_S A s.heap H locs ∧ lv_has ls 5 [(4, .int (nI k4_136)), (3, .int (nI k3_124)), (2, .int (nI n_8)), (0, .ref m0), (1, .int (nI j_4))]) (fun k9 H locs ls hI136 ih136 => ?_) (8 - 0) _ _ _ ⟨0, v29_124, ga28_124, (by omega), (by omega), rfl, hP, hD, hS, lv_sub hl [0, 1, 2, 3, 4] rfl⟩
        obtain ⟨k4_136, v29_136, ga28_136, hl136_0, hl136_1, hm136, hP, hD, hS, hl⟩ := hI136
        refine lv_iload hx hb dX12_write_136 (lv_at hl 0 rfl) ?_
        refine lv_iload_n hx hb dX12_write_138 rfl (lv_at hl 2 rfl) ?_
        refine lv_icmp_ge (tgt := 178) hx hb dX12_write_139 (by decide) (fun c_16 => ?_) (fun c_16 => ?_)
        · have nc_16 := cv_le (a := n_8) (b := k4_136) (by omega) (by omega) c_16
          refine lv_aload_n hx hb dX12_write_178 rfl (lv_at hl 3 rfl) ?_
          refine ct_V (wr := [(a0, .inl (κ 0, 21375, .inl w))]) (As := []) (rest := []) hFX hKK hP hD hS hA (s_X12_endsLine l D κ m0 a0 a1 a2 u3 f4 a5 u6 f7 f8 f9 f10 u11 u12 u13 a14 a15 a16 a17 f18 f19 a20 a21 u22 a23 a24 a25 v26_124 v27_124 a28 v29_136 ga25_124 ga28_136 (by omega) (by omega)) 0 gV_X12_445 hdV_X12_endsLine ⟨Nat.le_of_ble_eq_true rfl, Nat.le_of_ble_eq_true rfl⟩ rfl rfl (Nat.le_of_ble_eq_true rfl) dX12_write_179 ⟨Nat.le_of_ble_eq_true rfl, Nat.le_of_ble_eq_true rfl⟩ hl.1 [0, 2, 3] [1] rfl rfl (by decide) (by decide) (by decide) 0 12 rfl rfl rfl trivial (fun u_21 H locs hp_22 _ hP hD hS hz_ hk_ => ?_)
          obtain ⟨y26__17, y27__18, g_a25__19, g_a28__20⟩ := u_21
          replace hP : va_P D vwCl [(m0, .inr (12, [.ref a0, .ref a1, .ref a2, .int (nI u3), .int f4, .ref a5, .int (nI u6), .int f7, .int f8, .int f9, .int f10, .int (nI u11), .int (nI u12), .int (nI u13), .ref a14, .ref a15, .ref a16, .ref a17, .int f18, .int f19, .ref a20, .ref a21, .int (nI u22), .ref a23, .ref a24, .ref a25, .int (nI y26__17), .int y27__18, .ref a28, .int 0])), (a0, .inl (κ 0, 21375, .inl w)), (a25, .inl (κ 0, 6000, .inl g_a25__19)), (a28, .inl (κ 0, 400, .inl g_a28__20))] H := hP.sub [1, 0, 2, 3] rfl
          replace hD : va_D A [(m0, .inr (12, [.ref a0, .ref a1, .ref a2, .int (nI u3), .int f4, .ref a5, .int (nI u6), .int f7, .int f8, .int f9, .int f10, .int (nI u11), .int (nI u12), .int (nI u13), .ref a14, .ref a15, .ref a16, .ref a17, .int f18, .int f19, .ref a20, .ref a21, .int (nI u22), .ref a23, .ref a24, .ref a25, .int (nI y26__17), .int y27__18, .ref a28, .int 0])), (a0, .inl (κ 0, 21375, .inl w)), (a25, .inl (κ 0, 6000, .inl g_a25__19)), (a28, .inl (κ 0, 400, .inl g_a28__20))] := hD.sub [1, 0, 2, 3] (by decide) rfl
          replace hp_22 : y26__17 ≤ 6000 := hp_22
          have h_23 := hp_22
          clear hp_22
          refine W.eq (g2 := F0 m 182 ls []) rfl ?_
          refine lv_iinc (v := (nI (k3_124 + 1))) (lv' := [(3, .int (nI (k3_124 + 1))), (4, .int (nI k4_136)), (2, .int (nI n_8)), (0, .ref m0), (1, .int (nI j_4))]) hx hb dX12_write_182 hl (k := 1) rfl (nI_i k3_124) (by decide) rfl (fun ls hl => ?_)
          refine lv_goto (tgt := 124) hx hb dX12_write_185 (by decide) ?_
          exact ih124 _ _ _ _ (by omega) ⟨(k3_124 + 1), y26__17, y27__18, 0, g_a25__19, g_a28__20, (by omega), (by omega), (by omega), rfl, hP, hD, hS, lv_sub hl [0, 2, 3, 4] rfl⟩
        · have nc_16 := cv_nle (a := n_8) (b := k4_136) (by omega) (by omega) c_16
          refine lv_iload hx hb dX12_write_142 (lv_at hl 0 rfl) ?_
          refine lv_if_le (tgt := 159) hx hb dX12_write_144 (by decide) (fun c_24 => ?_) (fun c_24 => ?_)
          · have nc_24 := cv_le (a := k4_136) (b := 0) (by omega) (by omega) c_24
            refine lv_aload_n hx hb dX12_write_159 rfl (lv_at hl 3 rfl) ?_
            refine lv_iload_n hx hb dX12_write_160 rfl (lv_at hl 4 rfl) ?_
            refine lv_aload_n hx hb dX12_write_161 rfl (lv_at hl 3 rfl) ?_
            refine lv_iload_n hx hb dX12_write_162 rfl (lv_at hl 4 rfl) ?_
            refine lv_iload_n hx hb dX12_write_163 rfl (lv_at hl 1 rfl) ?_
            refine cr_V (As := [.int (nI j_4), .int (nI k3_124)]) (rest := [.int (nI j_4), .ref m0]) hFX hKK (s2_X12_viewed l D κ m0 a0 a1 a2 u3 f4 a5 u6 f7 f8 f9 f10 u11 u12 u13 a14 a15 a16 a17 f18 f19 a20 a21 u22 a23 a24 a25 v26_124 v27_124 a28 v29_136 w j_4 k3_124 h_a0 (by omega) (by omega)) 2 gV_X12_345 hdV_X12_viewed rfl rfl ⟨Nat.le_of_ble_eq_true rfl, Nat.le_of_ble_eq_true rfl⟩ rfl rfl (Nat.le_of_ble_eq_true rfl) dX12_write_164 ⟨Nat.le_of_ble_eq_true rfl, Nat.le_of_ble_eq_true rfl⟩ hl.1 hP 0 12 rfl rfl rfl (hP.sub [0, 1] rfl) (fun n__25 hp_26 => ?_)
            replace hp_26 : n__25 ≤ 39 ∧ n__25 = vwF w j_4 k3_124 := hp_26
            obtain ⟨h_27, h_28⟩ := hp_26
            refine W.eq (g2 := F0 m 167 ls [.int (nI n__25), .int (nI j_4), .ref m0]) rfl ?_
            refine lv_iload hx hb dX12_write_167 (lv_at hl 0 rfl) ?_
            refine ct_V (wr := [(a25, .inl (κ 0, 6000, .inl ga25_124))]) (As := [.int (nI j_4), .int (nI n__25), .int (nI k4_136)]) (rest := []) hFX hKK hP hD hS hA (s_X12_saysCell l D κ m0 a0 a1 a2 u3 f4 a5 u6 f7 f8 f9 f10 u11 u12 u13 a14 a15 a16 a17 f18 f19 a20 a21 u22 a23 a24 a25 v26_124 v27_124 a28 v29_136 w ga28_136 j_4 n__25 k4_136 h_a0 (by omega) (by omega) (by omega) (by omega)) 3 gV_X12_448 hdV_X12_saysCell ⟨Nat.le_of_ble_eq_true rfl, Nat.le_of_ble_eq_true rfl⟩ rfl rfl (Nat.le_of_ble_eq_true rfl) dX12_write_169 ⟨Nat.le_of_ble_eq_true rfl, Nat.le_of_ble_eq_true rfl⟩ hl.1 [0, 1, 3] [2] rfl rfl (by decide) (by decide) (by decide) 0 12 rfl rfl rfl trivial (fun u_31 H locs hp_32 _ hP hD hS hz_ hk_ => ?_)
            obtain ⟨y29__29, g_a28__30⟩ := u_31
            replace hP : va_P D vwCl [(m0, .inr (12, [.ref a0, .ref a1, .ref a2, .int (nI u3), .int f4, .ref a5, .int (nI u6), .int f7, .int f8, .int f9, .int f10, .int (nI u11), .int (nI u12), .int (nI u13), .ref a14, .ref a15, .ref a16, .ref a17, .int f18, .int f19, .ref a20, .ref a21, .int (nI u22), .ref a23, .ref a24, .ref a25, .int (nI v26_124), .int v27_124, .ref a28, .int (nI y29__29)])), (a0, .inl (κ 0, 21375, .inl w)), (a25, .inl (κ 0, 6000, .inl ga25_124)), (a28, .inl (κ 0, 400, .inl g_a28__30))] H := hP.sub [1, 2, 0, 3] rfl
            replace hD : va_D A [(m0, .inr (12, [.ref a0, .ref a1, .ref a2, .int (nI u3), .int f4, .ref a5, .int (nI u6), .int f7, .int f8, .int f9, .int f10, .int (nI u11), .int (nI u12), .int (nI u13), .ref a14, .ref a15, .ref a16, .ref a17, .int f18, .int f19, .ref a20, .ref a21, .int (nI u22), .ref a23, .ref a24, .ref a25, .int (nI v26_124), .int v27_124, .ref a28, .int (nI y29__29)])), (a0, .inl (κ 0, 21375, .inl w)), (a25, .inl (κ 0, 6000, .inl ga25_124)), (a28, .inl (κ 0, 400, .inl g_a28__30))] := hD.sub [1, 2, 0, 3] (by decide) rfl
            replace hp_32 : y29__29 ≤ v29_136 + 42 := hp_32
            have h_33 := hp_32
            clear hp_32
            refine W.eq (g2 := F0 m 172 ls []) rfl ?_
            refine lv_iinc (v := (nI (k4_136 + 1))) (lv' := [(4, .int (nI (k4_136 + 1))), (3, .int (nI k3_124)), (2, .int (nI n_8)), (0, .ref m0), (1, .int (nI j_4))]) hx hb dX12_write_172 hl (k := 0) rfl (nI_i k4_136) (by decide) rfl (fun ls hl => ?_)
            refine lv_goto (tgt := 136) hx hb dX12_write_175 (by decide) ?_
            exact ih136 _ _ _ _ (by omega) ⟨(k4_136 + 1), y29__29, g_a28__30, (by omega), (by omega), rfl, hP, hD, hS, lv_sub hl [0, 1, 2, 3, 4] rfl⟩
          · have nc_24 := cv_nle (a := k4_136) (b := 0) (by omega) (by omega) c_24
            refine lv_aload_n hx hb dX12_write_147 rfl (lv_at hl 3 rfl) ?_
            refine lv_aload_n hx hb dX12_write_148 rfl (lv_at hl 3 rfl) ?_
            refine va_get (D := D) (ci := 12) (v := .ref a0) (C := RX12) (T := TX12) (N := 30) hx hb hts inlX12 hown hK hP 0 rfl rfl 0 (by decide) (hts _ mw_187) (fun _ h9 => h9) rfl dX12_write_149 ?_
            refine lv_sipush (v := 21369) hx hb dX12_write_152 (by decide) ?_
            refine va_iald hx hb hK hP 1 0 rfl rfl (i := 21369) (vp_k (by decide)) dX12_write_155 ?_
            obtain ⟨x_34, ex_34⟩ : ∃ y9 : Int32, w 21369 = y9 := ⟨_, rfl⟩
            refine kv (v := .int x_34) (congrArg Value.int ex_34) ?_
            refine ct_V (wr := [(a0, .inl (κ 0, 21375, .inl w)), (a25, .inl (κ 0, 6000, .inl ga25_124))]) (As := [.int x_34]) (rest := []) hFX hKK hP hD hS hA (s_X12_says l D κ m0 a0 a1 a2 u3 f4 a5 u6 f7 f8 f9 f10 u11 u12 u13 a14 a15 a16 a17 f18 f19 a20 a21 u22 a23 a24 a25 v26_124 v27_124 a28 v29_136 ga28_136 x_34 (by omega)) 1 gV_X12_435 hdV_X12_says ⟨Nat.le_of_ble_eq_true rfl, Nat.le_of_ble_eq_true rfl⟩ rfl rfl (Nat.le_of_ble_eq_true rfl) dX12_write_156 ⟨Nat.le_of_ble_eq_true rfl, Nat.le_of_ble_eq_true rfl⟩ hl.1 [0, 3] [1, 2] rfl rfl (by decide) (by decide) (by decide) 0 12 rfl rfl rfl trivial (fun g_a28__35 H locs hp_36 _ hP hD hS hz_ hk_ => ?_)
            replace hP : va_P D vwCl [(m0, .inr (12, [.ref a0, .ref a1, .ref a2, .int (nI u3), .int f4, .ref a5, .int (nI u6), .int f7, .int f8, .int f9, .int f10, .int (nI u11), .int (nI u12), .int (nI u13), .ref a14, .ref a15, .ref a16, .ref a17, .int f18, .int f19, .ref a20, .ref a21, .int (nI u22), .ref a23, .ref a24, .ref a25, .int (nI v26_124), .int v27_124, .ref a28, .int (nI (v29_136 + 1))])), (a0, .inl (κ 0, 21375, .inl w)), (a25, .inl (κ 0, 6000, .inl ga25_124)), (a28, .inl (κ 0, 400, .inl g_a28__35))] H := hP.sub [2, 0, 1, 3] rfl
            replace hD : va_D A [(m0, .inr (12, [.ref a0, .ref a1, .ref a2, .int (nI u3), .int f4, .ref a5, .int (nI u6), .int f7, .int f8, .int f9, .int f10, .int (nI u11), .int (nI u12), .int (nI u13), .ref a14, .ref a15, .ref a16, .ref a17, .int f18, .int f19, .ref a20, .ref a21, .int (nI u22), .ref a23, .ref a24, .ref a25, .int (nI v26_124), .int v27_124, .ref a28, .int (nI (v29_136 + 1))])), (a0, .inl (κ 0, 21375, .inl w)), (a25, .inl (κ 0, 6000, .inl ga25_124)), (a28, .inl (κ 0, 400, .inl g_a28__35))] := hD.sub [2, 0, 1, 3] (by decide) rfl
            refine W.eq (g2 := F0 m 159 ls []) rfl ?_
            refine lv_aload_n hx hb dX12_write_159 rfl (lv_at hl 3 rfl) ?_
            refine lv_iload_n hx hb dX12_write_160 rfl (lv_at hl 4 rfl) ?_
            refine lv_aload_n hx hb dX12_write_161 rfl (lv_at hl 3 rfl) ?_
            refine lv_iload_n hx hb dX12_write_162 rfl (lv_at hl 4 rfl) ?_
            refine lv_iload_n hx hb dX12_write_163 rfl (lv_at hl 1 rfl) ?_
            refine cr_V (As := [.int (nI j_4), .int (nI k3_124)]) (rest := [.int (nI j_4), .ref m0]) hFX hKK (s2_X12_viewed l D κ m0 a0 a1 a2 u3 f4 a5 u6 f7 f8 f9 f10 u11 u12 u13 a14 a15 a16 a17 f18 f19 a20 a21 u22 a23 a24 a25 v26_124 v27_124 a28 (v29_136 + 1) w j_4 k3_124 h_a0 (by omega) (by omega)) 2 gV_X12_345 hdV_X12_viewed rfl rfl ⟨Nat.le_of_ble_eq_true rfl, Nat.le_of_ble_eq_true rfl⟩ rfl rfl (Nat.le_of_ble_eq_true rfl) dX12_write_164 ⟨Nat.le_of_ble_eq_true rfl, Nat.le_of_ble_eq_true rfl⟩ hl.1 hP 0 12 rfl rfl rfl (hP.sub [0, 1] rfl) (fun n__37 hp_38 => ?_)
            replace hp_38 : n__37 ≤ 39 ∧ n__37 = vwF w j_4 k3_124 := hp_38
            obtain ⟨h_39, h_40⟩ := hp_38
            refine W.eq (g2 := F0 m 167 ls [.int (nI n__37), .int (nI j_4), .ref m0]) rfl ?_
            refine lv_iload hx hb dX12_write_167 (lv_at hl 0 rfl) ?_
            refine ct_V (wr := [(a25, .inl (κ 0, 6000, .inl ga25_124))]) (As := [.int (nI j_4), .int (nI n__37), .int (nI k4_136)]) (rest := []) hFX hKK hP hD hS hA (s_X12_saysCell l D κ m0 a0 a1 a2 u3 f4 a5 u6 f7 f8 f9 f10 u11 u12 u13 a14 a15 a16 a17 f18 f19 a20 a21 u22 a23 a24 a25 v26_124 v27_124 a28 (v29_136 + 1) w g_a28__35 j_4 n__37 k4_136 h_a0 (by omega) (by omega) (by omega) (by omega)) 3 gV_X12_448 hdV_X12_saysCell ⟨Nat.le_of_ble_eq_true rfl, Nat.le_of_ble_eq_true rfl⟩ rfl rfl (Nat.le_of_ble_eq_true rfl) dX12_write_169 ⟨Nat.le_of_ble_eq_true rfl, Nat.le_of_ble_eq_true rfl⟩ hl.1 [0, 1, 3] [2] rfl rfl (by decide) (by decide) (by decide) 0 12 rfl rfl rfl trivial (fun u_43 H locs hp_44 _ hP hD hS hz_ hk_ => ?_)
            obtain ⟨y29__41, g_a28__42⟩ := u_43
            replace hP : va_P D vwCl [(m0, .inr (12, [.ref a0, .ref a1, .ref a2, .int (nI u3), .int f4, .ref a5, .int (nI u6), .int f7, .int f8, .int f9, .int f10, .int (nI u11), .int (nI u12), .int (nI u13), .ref a14, .ref a15, .ref a16, .ref a17, .int f18, .int f19, .ref a20, .ref a21, .int (nI u22), .ref a23, .ref a24, .ref a25, .int (nI v26_124), .int v27_124, .ref a28, .int (nI y29__41)])), (a0, .inl (κ 0, 21375, .inl w)), (a25, .inl (κ 0, 6000, .inl ga25_124)), (a28, .inl (κ 0, 400, .inl g_a28__42))] H := hP.sub [1, 2, 0, 3] rfl
            replace hD : va_D A [(m0, .inr (12, [.ref a0, .ref a1, .ref a2, .int (nI u3), .int f4, .ref a5, .int (nI u6), .int f7, .int f8, .int f9, .int f10, .int (nI u11), .int (nI u12), .int (nI u13), .ref a14, .ref a15, .ref a16, .ref a17, .int f18, .int f19, .ref a20, .ref a21, .int (nI u22), .ref a23, .ref a24, .ref a25, .int (nI v26_124), .int v27_124, .ref a28, .int (nI y29__41)])), (a0, .inl (κ 0, 21375, .inl w)), (a25, .inl (κ 0, 6000, .inl ga25_124)), (a28, .inl (κ 0, 400, .inl g_a28__42))] := hD.sub [1, 2, 0, 3] (by decide) rfl
            replace hp_44 : y29__41 ≤ (v29_136 + 1) + 42 := hp_44
            have h_45 := hp_44
            clear hp_44
            refine W.eq (g2 := F0 m 172 ls []) rfl ?_
            refine lv_iinc (v := (nI (k4_136 + 1))) (lv' := [(4, .int (nI (k4_136 + 1))), (3, .int (nI k3_124)), (2, .int (nI n_8)), (0, .ref m0), (1, .int (nI j_4))]) hx hb dX12_write_172 hl (k := 0) rfl (nI_i k4_136) (by decide) rfl (fun ls hl => ?_)
            refine lv_goto (tgt := 136) hx hb dX12_write_175 (by decide) ?_
            exact ih136 _ _ _ _ (by omega) ⟨(k4_136 + 1), y29__41, g_a28__42, (by omega), (by omega), rfl, hP, hD, hS, lv_sub hl [0, 1, 2, 3, 4] rfl⟩
    · refine lv_iconst (v := 0) hx hb dX12_write_48 (by decide) ?_
      refine lv_istore_n (lv' := [(3, .int 0), (2, .int (nI n_8)), (0, .ref m0), (1, .int (nI j_4))]) hx hb dX12_write_49 rfl hl (by decide) rfl (fun ls hl => ?_)
      refine loop_dn (fun k9 H locs ls => ∃ (k3_50 : Nat), ∃ (v29_50 : Nat), ∃ (ga28_50 : Nat → Int32), (k3_50 ≤ 8) ∧ (v29_50 ≤ 13 * k3_50) ∧ 8 - k3_50 = k9 ∧ va_P D vwCl [(m0, .inr (12, [.ref a0, .ref a1, .ref a2, .int (nI u3), .int f4, .ref a5, .int (nI u6), .int f7, .int f8, .int f9, .int f10, .int (nI u11), .int (nI u12), .int (nI u13), .ref a14, .ref a15, .ref a16, .ref a17, .int f18, .int f19, .ref a20, .ref a21, .int (nI u22), .ref a23, .ref a24, .ref a25, .int 0, .int 0, .ref a28, .int (nI v29_50)])), (a0, .inl (κ 0, 21375, .inl w)), (a25, .inl (κ 0, 6000, .inl tx)), (a28, .inl (κ 0, 400, .inl ga28_50))] H ∧ va_D A [(m0, .inr (12, [.ref a0, .ref a1, .ref a2, .int (nI u3), .int f4, .ref a5, .int (nI u6), .int f7, .int f8, .int f9, .int f10, .int (nI u11), .int (nI u12), .int (nI u13), .ref a14, .ref a15, .ref a16, .ref a17, .int f18, .int f19, .ref a20, .ref a21, .int (nI u22), .ref a23, .ref a24, .ref a25, .int 0, .int 0, .ref a28, .int (nI v29_50)])), (a0, .inl (κ 0, 21375, .inl w)), (a25, .inl (κ 0, 6000, .inl tx)), (a28, .inl (κ 0, 400, .inl ga28_50))] ∧ va_S A s.heap H locs ∧ lv_has ls 5 [(3, .int (nI k3_50)), (2, .int (nI n_8)), (0, .ref m0), (1, .int (nI j_4))]) (fun k9 H locs ls hI50 ih50 => ?_) (8 - 0) _ _ _ ⟨0, 0, li, (by omega), (by omega), rfl, hP, hD, hS, lv_sub hl [0, 1, 2, 3] rfl⟩
      obtain ⟨k3_50, v29_50, ga28_50, hl50_0, hl50_1, hm50, hP, hD, hS, hl⟩ := hI50
      refine lv_iload_n hx hb dX12_write_50 rfl (lv_at hl 0 rfl) ?_
      refine lv_iload_n hx hb dX12_write_51 rfl (lv_at hl 1 rfl) ?_
      refine lv_icmp_ge (tgt := 118) hx hb dX12_write_52 (by decide) (fun c_46 => ?_) (fun c_46 => ?_)
      · have nc_46 := cv_le (a := n_8) (b := k3_50) (by omega) (by omega) c_46
        refine lv_aload_n hx hb dX12_write_118 rfl (lv_at hl 2 rfl) ?_
        refine ct_V (wr := [(a0, .inl (κ 0, 21375, .inl w))]) (As := []) (rest := []) hFX hKK hP hD hS hA (s_X12_endsLine l D κ m0 a0 a1 a2 u3 f4 a5 u6 f7 f8 f9 f10 u11 u12 u13 a14 a15 a16 a17 f18 f19 a20 a21 u22 a23 a24 a25 0 0 a28 v29_50 tx ga28_50 (by omega) (by omega)) 0 gV_X12_445 hdV_X12_endsLine ⟨Nat.le_of_ble_eq_true rfl, Nat.le_of_ble_eq_true rfl⟩ rfl rfl (Nat.le_of_ble_eq_true rfl) dX12_write_119 ⟨Nat.le_of_ble_eq_true rfl, Nat.le_of_ble_eq_true rfl⟩ hl.1 [0, 2, 3] [1] rfl rfl (by decide) (by decide) (by decide) 0 12 rfl rfl rfl trivial (fun u_51 H locs hp_52 _ hP hD hS hz_ hk_ => ?_)
        obtain ⟨y26__47, y27__48, g_a25__49, g_a28__50⟩ := u_51
        replace hP : va_P D vwCl [(m0, .inr (12, [.ref a0, .ref a1, .ref a2, .int (nI u3), .int f4, .ref a5, .int (nI u6), .int f7, .int f8, .int f9, .int f10, .int (nI u11), .int (nI u12), .int (nI u13), .ref a14, .ref a15, .ref a16, .ref a17, .int f18, .int f19, .ref a20, .ref a21, .int (nI u22), .ref a23, .ref a24, .ref a25, .int (nI y26__47), .int y27__48, .ref a28, .int 0])), (a0, .inl (κ 0, 21375, .inl w)), (a25, .inl (κ 0, 6000, .inl g_a25__49)), (a28, .inl (κ 0, 400, .inl g_a28__50))] H := hP.sub [1, 0, 2, 3] rfl
        replace hD : va_D A [(m0, .inr (12, [.ref a0, .ref a1, .ref a2, .int (nI u3), .int f4, .ref a5, .int (nI u6), .int f7, .int f8, .int f9, .int f10, .int (nI u11), .int (nI u12), .int (nI u13), .ref a14, .ref a15, .ref a16, .ref a17, .int f18, .int f19, .ref a20, .ref a21, .int (nI u22), .ref a23, .ref a24, .ref a25, .int (nI y26__47), .int y27__48, .ref a28, .int 0])), (a0, .inl (κ 0, 21375, .inl w)), (a25, .inl (κ 0, 6000, .inl g_a25__49)), (a28, .inl (κ 0, 400, .inl g_a28__50))] := hD.sub [1, 0, 2, 3] (by decide) rfl
        replace hp_52 : y26__47 ≤ 6000 := hp_52
        have h_53 := hp_52
        clear hp_52
        refine W.eq (g2 := F0 m 122 ls []) rfl ?_
        refine lv_iconst (v := 0) hx hb dX12_write_122 (by decide) ?_
        refine lv_istore_n (lv' := [(3, .int 0), (2, .int (nI n_8)), (0, .ref m0), (1, .int (nI j_4))]) hx hb dX12_write_123 rfl hl (by decide) rfl (fun ls hl => ?_)
        refine loop_dn (fun k9 H locs ls => ∃ (k3_124 : Nat), ∃ (v26_124 : Nat), ∃ (v27_124 : Int32), ∃ (v29_124 : Nat), ∃ (ga25_124 : Nat → Int32), ∃ (ga28_124 : Nat → Int32), (k3_124 ≤ 40) ∧ (v26_124 ≤ 6000) ∧ (v29_124 = 0) ∧ 40 - k3_124 = k9 ∧ va_P D vwCl [(m0, .inr (12, [.ref a0, .ref a1, .ref a2, .int (nI u3), .int f4, .ref a5, .int (nI u6), .int f7, .int f8, .int f9, .int f10, .int (nI u11), .int (nI u12), .int (nI u13), .ref a14, .ref a15, .ref a16, .ref a17, .int f18, .int f19, .ref a20, .ref a21, .int (nI u22), .ref a23, .ref a24, .ref a25, .int (nI v26_124), .int v27_124, .ref a28, .int (nI v29_124)])), (a0, .inl (κ 0, 21375, .inl w)), (a25, .inl (κ 0, 6000, .inl ga25_124)), (a28, .inl (κ 0, 400, .inl ga28_124))] H ∧ va_D A [(m0, .inr (12, [.ref a0, .ref a1, .ref a2, .int (nI u3), .int f4, .ref a5, .int (nI u6), .int f7, .int f8, .int f9, .int f10, .int (nI u11), .int (nI u12), .int (nI u13), .ref a14, .ref a15, .ref a16, .ref a17, .int f18, .int f19, .ref a20, .ref a21, .int (nI u22), .ref a23, .ref a24, .ref a25, .int (nI v26_124), .int v27_124, .ref a28, .int (nI v29_124)])), (a0, .inl (κ 0, 21375, .inl w)), (a25, .inl (κ 0, 6000, .inl ga25_124)), (a28, .inl (κ 0, 400, .inl ga28_124))] ∧ va_S A s.heap H locs ∧ lv_has ls 5 [(3, .int (nI k3_124)), (2, .int (nI n_8)), (0, .ref m0), (1, .int (nI j_4))]) (fun k9 H locs ls hI124 ih124 => ?_) (40 - 0) _ _ _ ⟨0, y26__47, y27__48, 0, g_a25__49, g_a28__50, (by omega), (by omega), (by omega), rfl, hP, hD, hS, lv_sub hl [0, 1, 2, 3] rfl⟩
        obtain ⟨k3_124, v26_124, v27_124, v29_124, ga25_124, ga28_124, hl124_0, hl124_1, hl124_2, hm124, hP, hD, hS, hl⟩ := hI124
        refine lv_iload_n hx hb dX12_write_124 rfl (lv_at hl 0 rfl) ?_
        refine lv_aload_n hx hb dX12_write_125 rfl (lv_at hl 2 rfl) ?_
        refine lv_iload_n hx hb dX12_write_126 rfl (lv_at hl 3 rfl) ?_
        refine cr_V (As := [.int (nI j_4)]) (rest := [.int (nI k3_124)]) hFX hKK (s2_X12_viewMany l D κ m0 a0 a1 a2 u3 f4 a5 u6 f7 f8 f9 f10 u11 u12 u13 a14 a15 a16 a17 f18 f19 a20 a21 u22 a23 a24 a25 v26_124 v27_124 a28 v29_124 w j_4 h_a0 (by omega)) 1 gV_X12_341 hdV_X12_viewMany rfl rfl ⟨Nat.le_of_ble_eq_true rfl, Nat.le_of_ble_eq_true rfl⟩ rfl rfl (Nat.le_of_ble_eq_true rfl) dX12_write_127 ⟨Nat.le_of_ble_eq_true rfl, Nat.le_of_ble_eq_true rfl⟩ hl.1 hP 0 12 rfl rfl rfl (hP.sub [0, 1] rfl) (fun n__54 hp_55 => ?_)
        replace hp_55 : n__54 ≤ 40 ∧ n__54 = vmF w j_4 := hp_55
        obtain ⟨h_56, h_57⟩ := hp_55
        refine W.eq (g2 := F0 m 130 ls [.int (nI n__54), .int (nI k3_124)]) rfl ?_
        refine lv_icmp_ge (tgt := 188) hx hb dX12_write_130 (by decide) (fun c_58 => ?_) (fun c_58 => ?_)
        · have nc_58 := cv_le (a := n__54) (b := k3_124) (by omega) (by omega) c_58
          refine lv_aload_n hx hb dX12_write_188 rfl (lv_at hl 2 rfl) ?_
          refine va_get (D := D) (ci := 12) (v := .int (nI v26_124)) (C := RX12) (T := TX12) (N := 30) hx hb hts inlX12 hown hK hP 0 rfl rfl 26 (by decide) (hts _ mw_1446) (fun _ h9 => h9) rfl dX12_write_189 ?_
          exact ct_iret hx hb hr hlk rfl hS hP hD (nI v26_124, v26_124, v27_124, v29_124, ga25_124, ga28_124) rfl ⟨(show v26_124 ≤ 6000 from (by first | assumption | omega | rfl | exact Or.inl (by assumption) | exact Or.inr (by assumption))), (show v29_124 = 0 from (by first | assumption | omega | rfl | exact Or.inl (by assumption) | exact Or.inr (by assumption)))⟩ [0, 1, 2, 3] rfl (by decide) trivial (Nat.le_of_ble_eq_true rfl) (Nat.le_of_ble_eq_true rfl) dX12_write_192
        · have nc_58 := cv_nle (a := n__54) (b := k3_124) (by omega) (by omega) c_58
          refine lv_iconst (v := 0) hx hb dX12_write_133 (by decide) ?_
          refine lv_istore (lv' := [(4, .int 0), (3, .int (nI k3_124)), (2, .int (nI n_8)), (0, .ref m0), (1, .int (nI j_4))]) hx hb dX12_write_134 hl (by decide) rfl (fun ls hl => ?_)
          refine loop_dn (fun k9 H locs ls => ∃ (k4_136 : Nat), ∃ (v29_136 : Nat), ∃ (ga28_136 : Nat → Int32), (k4_136 ≤ 8) ∧ (v29_136 ≤ 43 * k4_136) ∧ 8 - k4_136 = k9 ∧ va_P D vwCl [(m0, .inr (12, [.ref a0, .ref a1, .ref a2, .int (nI u3), .int f4, .ref a5, .int (nI u6), .int f7, .int f8, .int f9, .int f10, .int (nI u11), .int (nI u12), .int (nI u13), .ref a14, .ref a15, .ref a16, .ref a17, .int f18, .int f19, .ref a20, .ref a21, .int (nI u22), .ref a23, .ref a24, .ref a25, .int (nI v26_124), .int v27_124, .ref a28, .int (nI v29_136)])), (a0, .inl (κ 0, 21375, .inl w)), (a25, .inl (κ 0, 6000, .inl ga25_124)), (a28, .inl (κ 0, 400, .inl ga28_136))] H ∧ va_D A [(m0, .inr (12, [.ref a0, .ref a1, .ref a2, .int (nI u3), .int f4, .ref a5, .int (nI u6), .int f7, .int f8, .int f9, .int f10, .int (nI u11), .int (nI u12), .int (nI u13), .ref a14, .ref a15, .ref a16, .ref a17, .int f18, .int f19, .ref a20, .ref a21, .int (nI u22), .ref a23, .ref a24, .ref a25, .int (nI v26_124), .int v27_124, .ref a28, .int (nI v29_136)])), (a0, .inl (κ 0, 21375, .inl w)), (a25, .inl (κ 0, 6000, .inl ga25_124)), (a28, .inl (κ 0, 400, .inl ga28_136))] ∧ va_S A s.heap H locs ∧ lv_has ls 5 [(4, .int (nI k4_136)), (3, .int (nI k3_124)), (2, .int (nI n_8)), (0, .ref m0), (1, .int (nI j_4))]) (fun k9 H locs ls hI136 ih136 => ?_) (8 - 0) _ _ _ ⟨0, v29_124, ga28_124, (by omega), (by omega), rfl, hP, hD, hS, lv_sub hl [0, 1, 2, 3, 4] rfl⟩
          obtain ⟨k4_136, v29_136, ga28_136, hl136_0, hl136_1, hm136, hP, hD, hS, hl⟩ := hI136
          refine lv_iload hx hb dX12_write_136 (lv_at hl 0 rfl) ?_
          refine lv_iload_n hx hb dX12_write_138 rfl (lv_at hl 2 rfl) ?_
          refine lv_icmp_ge (tgt := 178) hx hb dX12_write_139 (by decide) (fun c_59 => ?_) (fun c_59 => ?_)
          · have nc_59 := cv_le (a := n_8) (b := k4_136) (by omega) (by omega) c_59
            refine lv_aload_n hx hb dX12_write_178 rfl (lv_at hl 3 rfl) ?_
            refine ct_V (wr := [(a0, .inl (κ 0, 21375, .inl w))]) (As := []) (rest := []) hFX hKK hP hD hS hA (s_X12_endsLine l D κ m0 a0 a1 a2 u3 f4 a5 u6 f7 f8 f9 f10 u11 u12 u13 a14 a15 a16 a17 f18 f19 a20 a21 u22 a23 a24 a25 v26_124 v27_124 a28 v29_136 ga25_124 ga28_136 (by omega) (by omega)) 0 gV_X12_445 hdV_X12_endsLine ⟨Nat.le_of_ble_eq_true rfl, Nat.le_of_ble_eq_true rfl⟩ rfl rfl (Nat.le_of_ble_eq_true rfl) dX12_write_179 ⟨Nat.le_of_ble_eq_true rfl, Nat.le_of_ble_eq_true rfl⟩ hl.1 [0, 2, 3] [1] rfl rfl (by decide) (by decide) (by decide) 0 12 rfl rfl rfl trivial (fun u_64 H locs hp_65 _ hP hD hS hz_ hk_ => ?_)
            obtain ⟨y26__60, y27__61, g_a25__62, g_a28__63⟩ := u_64
            replace hP : va_P D vwCl [(m0, .inr (12, [.ref a0, .ref a1, .ref a2, .int (nI u3), .int f4, .ref a5, .int (nI u6), .int f7, .int f8, .int f9, .int f10, .int (nI u11), .int (nI u12), .int (nI u13), .ref a14, .ref a15, .ref a16, .ref a17, .int f18, .int f19, .ref a20, .ref a21, .int (nI u22), .ref a23, .ref a24, .ref a25, .int (nI y26__60), .int y27__61, .ref a28, .int 0])), (a0, .inl (κ 0, 21375, .inl w)), (a25, .inl (κ 0, 6000, .inl g_a25__62)), (a28, .inl (κ 0, 400, .inl g_a28__63))] H := hP.sub [1, 0, 2, 3] rfl
            replace hD : va_D A [(m0, .inr (12, [.ref a0, .ref a1, .ref a2, .int (nI u3), .int f4, .ref a5, .int (nI u6), .int f7, .int f8, .int f9, .int f10, .int (nI u11), .int (nI u12), .int (nI u13), .ref a14, .ref a15, .ref a16, .ref a17, .int f18, .int f19, .ref a20, .ref a21, .int (nI u22), .ref a23, .ref a24, .ref a25, .int (nI y26__60), .int y27__61, .ref a28, .int 0])), (a0, .inl (κ 0, 21375, .inl w)), (a25, .inl (κ 0, 6000, .inl g_a25__62)), (a28, .inl (κ 0, 400, .inl g_a28__63))] := hD.sub [1, 0, 2, 3] (by decide) rfl
            replace hp_65 : y26__60 ≤ 6000 := hp_65
            have h_66 := hp_65
            clear hp_65
            refine W.eq (g2 := F0 m 182 ls []) rfl ?_
            refine lv_iinc (v := (nI (k3_124 + 1))) (lv' := [(3, .int (nI (k3_124 + 1))), (4, .int (nI k4_136)), (2, .int (nI n_8)), (0, .ref m0), (1, .int (nI j_4))]) hx hb dX12_write_182 hl (k := 1) rfl (nI_i k3_124) (by decide) rfl (fun ls hl => ?_)
            refine lv_goto (tgt := 124) hx hb dX12_write_185 (by decide) ?_
            exact ih124 _ _ _ _ (by omega) ⟨(k3_124 + 1), y26__60, y27__61, 0, g_a25__62, g_a28__63, (by omega), (by omega), (by omega), rfl, hP, hD, hS, lv_sub hl [0, 2, 3, 4] rfl⟩
          · have nc_59 := cv_nle (a := n_8) (b := k4_136) (by omega) (by omega) c_59
            refine lv_iload hx hb dX12_write_142 (lv_at hl 0 rfl) ?_
            refine lv_if_le (tgt := 159) hx hb dX12_write_144 (by decide) (fun c_67 => ?_) (fun c_67 => ?_)
            · have nc_67 := cv_le (a := k4_136) (b := 0) (by omega) (by omega) c_67
              refine lv_aload_n hx hb dX12_write_159 rfl (lv_at hl 3 rfl) ?_
              refine lv_iload_n hx hb dX12_write_160 rfl (lv_at hl 4 rfl) ?_
              refine lv_aload_n hx hb dX12_write_161 rfl (lv_at hl 3 rfl) ?_
              refine lv_iload_n hx hb dX12_write_162 rfl (lv_at hl 4 rfl) ?_
              refine lv_iload_n hx hb dX12_write_163 rfl (lv_at hl 1 rfl) ?_
              refine cr_V (As := [.int (nI j_4), .int (nI k3_124)]) (rest := [.int (nI j_4), .ref m0]) hFX hKK (s2_X12_viewed l D κ m0 a0 a1 a2 u3 f4 a5 u6 f7 f8 f9 f10 u11 u12 u13 a14 a15 a16 a17 f18 f19 a20 a21 u22 a23 a24 a25 v26_124 v27_124 a28 v29_136 w j_4 k3_124 h_a0 (by omega) (by omega)) 2 gV_X12_345 hdV_X12_viewed rfl rfl ⟨Nat.le_of_ble_eq_true rfl, Nat.le_of_ble_eq_true rfl⟩ rfl rfl (Nat.le_of_ble_eq_true rfl) dX12_write_164 ⟨Nat.le_of_ble_eq_true rfl, Nat.le_of_ble_eq_true rfl⟩ hl.1 hP 0 12 rfl rfl rfl (hP.sub [0, 1] rfl) (fun n__68 hp_69 => ?_)
              replace hp_69 : n__68 ≤ 39 ∧ n__68 = vwF w j_4 k3_124 := hp_69
              obtain ⟨h_70, h_71⟩ := hp_69
              refine W.eq (g2 := F0 m 167 ls [.int (nI n__68), .int (nI j_4), .ref m0]) rfl ?_
              refine lv_iload hx hb dX12_write_167 (lv_at hl 0 rfl) ?_
              refine ct_V (wr := [(a25, .inl (κ 0, 6000, .inl ga25_124))]) (As := [.int (nI j_4), .int (nI n__68), .int (nI k4_136)]) (rest := []) hFX hKK hP hD hS hA (s_X12_saysCell l D κ m0 a0 a1 a2 u3 f4 a5 u6 f7 f8 f9 f10 u11 u12 u13 a14 a15 a16 a17 f18 f19 a20 a21 u22 a23 a24 a25 v26_124 v27_124 a28 v29_136 w ga28_136 j_4 n__68 k4_136 h_a0 (by omega) (by omega) (by omega) (by omega)) 3 gV_X12_448 hdV_X12_saysCell ⟨Nat.le_of_ble_eq_true rfl, Nat.le_of_ble_eq_true rfl⟩ rfl rfl (Nat.le_of_ble_eq_true rfl) dX12_write_169 ⟨Nat.le_of_ble_eq_true rfl, Nat.le_of_ble_eq_true rfl⟩ hl.1 [0, 1, 3] [2] rfl rfl (by decide) (by decide) (by decide) 0 12 rfl rfl rfl trivial (fun u_74 H locs hp_75 _ hP hD hS hz_ hk_ => ?_)
              obtain ⟨y29__72, g_a28__73⟩ := u_74
              replace hP : va_P D vwCl [(m0, .inr (12, [.ref a0, .ref a1, .ref a2, .int (nI u3), .int f4, .ref a5, .int (nI u6), .int f7, .int f8, .int f9, .int f10, .int (nI u11), .int (nI u12), .int (nI u13), .ref a14, .ref a15, .ref a16, .ref a17, .int f18, .int f19, .ref a20, .ref a21, .int (nI u22), .ref a23, .ref a24, .ref a25, .int (nI v26_124), .int v27_124, .ref a28, .int (nI y29__72)])), (a0, .inl (κ 0, 21375, .inl w)), (a25, .inl (κ 0, 6000, .inl ga25_124)), (a28, .inl (κ 0, 400, .inl g_a28__73))] H := hP.sub [1, 2, 0, 3] rfl
              replace hD : va_D A [(m0, .inr (12, [.ref a0, .ref a1, .ref a2, .int (nI u3), .int f4, .ref a5, .int (nI u6), .int f7, .int f8, .int f9, .int f10, .int (nI u11), .int (nI u12), .int (nI u13), .ref a14, .ref a15, .ref a16, .ref a17, .int f18, .int f19, .ref a20, .ref a21, .int (nI u22), .ref a23, .ref a24, .ref a25, .int (nI v26_124), .int v27_124, .ref a28, .int (nI y29__72)])), (a0, .inl (κ 0, 21375, .inl w)), (a25, .inl (κ 0, 6000, .inl ga25_124)), (a28, .inl (κ 0, 400, .inl g_a28__73))] := hD.sub [1, 2, 0, 3] (by decide) rfl
              replace hp_75 : y29__72 ≤ v29_136 + 42 := hp_75
              have h_76 := hp_75
              clear hp_75
              refine W.eq (g2 := F0 m 172 ls []) rfl ?_
              refine lv_iinc (v := (nI (k4_136 + 1))) (lv' := [(4, .int (nI (k4_136 + 1))), (3, .int (nI k3_124)), (2, .int (nI n_8)), (0, .ref m0), (1, .int (nI j_4))]) hx hb dX12_write_172 hl (k := 0) rfl (nI_i k4_136) (by decide) rfl (fun ls hl => ?_)
              refine lv_goto (tgt := 136) hx hb dX12_write_175 (by decide) ?_
              exact ih136 _ _ _ _ (by omega) ⟨(k4_136 + 1), y29__72, g_a28__73, (by omega), (by omega), rfl, hP, hD, hS, lv_sub hl [0, 1, 2, 3, 4] rfl⟩
            · have nc_67 := cv_nle (a := k4_136) (b := 0) (by omega) (by omega) c_67
              refine lv_aload_n hx hb dX12_write_147 rfl (lv_at hl 3 rfl) ?_
              refine lv_aload_n hx hb dX12_write_148 rfl (lv_at hl 3 rfl) ?_
              refine va_get (D := D) (ci := 12) (v := .ref a0) (C := RX12) (T := TX12) (N := 30) hx hb hts inlX12 hown hK hP 0 rfl rfl 0 (by decide) (hts _ mw_187) (fun _ h9 => h9) rfl dX12_write_149 ?_
              refine lv_sipush (v := 21369) hx hb dX12_write_152 (by decide) ?_
              refine va_iald hx hb hK hP 1 0 rfl rfl (i := 21369) (vp_k (by decide)) dX12_write_155 ?_
              obtain ⟨x_77, ex_77⟩ : ∃ y9 : Int32, w 21369 = y9 := ⟨_, rfl⟩
              refine kv (v := .int x_77) (congrArg Value.int ex_77) ?_
              refine ct_V (wr := [(a0, .inl (κ 0, 21375, .inl w)), (a25, .inl (κ 0, 6000, .inl ga25_124))]) (As := [.int x_77]) (rest := []) hFX hKK hP hD hS hA (s_X12_says l D κ m0 a0 a1 a2 u3 f4 a5 u6 f7 f8 f9 f10 u11 u12 u13 a14 a15 a16 a17 f18 f19 a20 a21 u22 a23 a24 a25 v26_124 v27_124 a28 v29_136 ga28_136 x_77 (by omega)) 1 gV_X12_435 hdV_X12_says ⟨Nat.le_of_ble_eq_true rfl, Nat.le_of_ble_eq_true rfl⟩ rfl rfl (Nat.le_of_ble_eq_true rfl) dX12_write_156 ⟨Nat.le_of_ble_eq_true rfl, Nat.le_of_ble_eq_true rfl⟩ hl.1 [0, 3] [1, 2] rfl rfl (by decide) (by decide) (by decide) 0 12 rfl rfl rfl trivial (fun g_a28__78 H locs hp_79 _ hP hD hS hz_ hk_ => ?_)
              replace hP : va_P D vwCl [(m0, .inr (12, [.ref a0, .ref a1, .ref a2, .int (nI u3), .int f4, .ref a5, .int (nI u6), .int f7, .int f8, .int f9, .int f10, .int (nI u11), .int (nI u12), .int (nI u13), .ref a14, .ref a15, .ref a16, .ref a17, .int f18, .int f19, .ref a20, .ref a21, .int (nI u22), .ref a23, .ref a24, .ref a25, .int (nI v26_124), .int v27_124, .ref a28, .int (nI (v29_136 + 1))])), (a0, .inl (κ 0, 21375, .inl w)), (a25, .inl (κ 0, 6000, .inl ga25_124)), (a28, .inl (κ 0, 400, .inl g_a28__78))] H := hP.sub [2, 0, 1, 3] rfl
              replace hD : va_D A [(m0, .inr (12, [.ref a0, .ref a1, .ref a2, .int (nI u3), .int f4, .ref a5, .int (nI u6), .int f7, .int f8, .int f9, .int f10, .int (nI u11), .int (nI u12), .int (nI u13), .ref a14, .ref a15, .ref a16, .ref a17, .int f18, .int f19, .ref a20, .ref a21, .int (nI u22), .ref a23, .ref a24, .ref a25, .int (nI v26_124), .int v27_124, .ref a28, .int (nI (v29_136 + 1))])), (a0, .inl (κ 0, 21375, .inl w)), (a25, .inl (κ 0, 6000, .inl ga25_124)), (a28, .inl (κ 0, 400, .inl g_a28__78))] := hD.sub [2, 0, 1, 3] (by decide) rfl
              refine W.eq (g2 := F0 m 159 ls []) rfl ?_
              refine lv_aload_n hx hb dX12_write_159 rfl (lv_at hl 3 rfl) ?_
              refine lv_iload_n hx hb dX12_write_160 rfl (lv_at hl 4 rfl) ?_
              refine lv_aload_n hx hb dX12_write_161 rfl (lv_at hl 3 rfl) ?_
              refine lv_iload_n hx hb dX12_write_162 rfl (lv_at hl 4 rfl) ?_
              refine lv_iload_n hx hb dX12_write_163 rfl (lv_at hl 1 rfl) ?_
              refine cr_V (As := [.int (nI j_4), .int (nI k3_124)]) (rest := [.int (nI j_4), .ref m0]) hFX hKK (s2_X12_viewed l D κ m0 a0 a1 a2 u3 f4 a5 u6 f7 f8 f9 f10 u11 u12 u13 a14 a15 a16 a17 f18 f19 a20 a21 u22 a23 a24 a25 v26_124 v27_124 a28 (v29_136 + 1) w j_4 k3_124 h_a0 (by omega) (by omega)) 2 gV_X12_345 hdV_X12_viewed rfl rfl ⟨Nat.le_of_ble_eq_true rfl, Nat.le_of_ble_eq_true rfl⟩ rfl rfl (Nat.le_of_ble_eq_true rfl) dX12_write_164 ⟨Nat.le_of_ble_eq_true rfl, Nat.le_of_ble_eq_true rfl⟩ hl.1 hP 0 12 rfl rfl rfl (hP.sub [0, 1] rfl) (fun n__80 hp_81 => ?_)
              replace hp_81 : n__80 ≤ 39 ∧ n__80 = vwF w j_4 k3_124 := hp_81
              obtain ⟨h_82, h_83⟩ := hp_81
              refine W.eq (g2 := F0 m 167 ls [.int (nI n__80), .int (nI j_4), .ref m0]) rfl ?_
              refine lv_iload hx hb dX12_write_167 (lv_at hl 0 rfl) ?_
              refine ct_V (wr := [(a25, .inl (κ 0, 6000, .inl ga25_124))]) (As := [.int (nI j_4), .int (nI n__80), .int (nI k4_136)]) (rest := []) hFX hKK hP hD hS hA (s_X12_saysCell l D κ m0 a0 a1 a2 u3 f4 a5 u6 f7 f8 f9 f10 u11 u12 u13 a14 a15 a16 a17 f18 f19 a20 a21 u22 a23 a24 a25 v26_124 v27_124 a28 (v29_136 + 1) w g_a28__78 j_4 n__80 k4_136 h_a0 (by omega) (by omega) (by omega) (by omega)) 3 gV_X12_448 hdV_X12_saysCell ⟨Nat.le_of_ble_eq_true rfl, Nat.le_of_ble_eq_true rfl⟩ rfl rfl (Nat.le_of_ble_eq_true rfl) dX12_write_169 ⟨Nat.le_of_ble_eq_true rfl, Nat.le_of_ble_eq_true rfl⟩ hl.1 [0, 1, 3] [2] rfl rfl (by decide) (by decide) (by decide) 0 12 rfl rfl rfl trivial (fun u_86 H locs hp_87 _ hP hD hS hz_ hk_ => ?_)
              obtain ⟨y29__84, g_a28__85⟩ := u_86
              replace hP : va_P D vwCl [(m0, .inr (12, [.ref a0, .ref a1, .ref a2, .int (nI u3), .int f4, .ref a5, .int (nI u6), .int f7, .int f8, .int f9, .int f10, .int (nI u11), .int (nI u12), .int (nI u13), .ref a14, .ref a15, .ref a16, .ref a17, .int f18, .int f19, .ref a20, .ref a21, .int (nI u22), .ref a23, .ref a24, .ref a25, .int (nI v26_124), .int v27_124, .ref a28, .int (nI y29__84)])), (a0, .inl (κ 0, 21375, .inl w)), (a25, .inl (κ 0, 6000, .inl ga25_124)), (a28, .inl (κ 0, 400, .inl g_a28__85))] H := hP.sub [1, 2, 0, 3] rfl
              replace hD : va_D A [(m0, .inr (12, [.ref a0, .ref a1, .ref a2, .int (nI u3), .int f4, .ref a5, .int (nI u6), .int f7, .int f8, .int f9, .int f10, .int (nI u11), .int (nI u12), .int (nI u13), .ref a14, .ref a15, .ref a16, .ref a17, .int f18, .int f19, .ref a20, .ref a21, .int (nI u22), .ref a23, .ref a24, .ref a25, .int (nI v26_124), .int v27_124, .ref a28, .int (nI y29__84)])), (a0, .inl (κ 0, 21375, .inl w)), (a25, .inl (κ 0, 6000, .inl ga25_124)), (a28, .inl (κ 0, 400, .inl g_a28__85))] := hD.sub [1, 2, 0, 3] (by decide) rfl
              replace hp_87 : y29__84 ≤ (v29_136 + 1) + 42 := hp_87
              have h_88 := hp_87
              clear hp_87
              refine W.eq (g2 := F0 m 172 ls []) rfl ?_
              refine lv_iinc (v := (nI (k4_136 + 1))) (lv' := [(4, .int (nI (k4_136 + 1))), (3, .int (nI k3_124)), (2, .int (nI n_8)), (0, .ref m0), (1, .int (nI j_4))]) hx hb dX12_write_172 hl (k := 0) rfl (nI_i k4_136) (by decide) rfl (fun ls hl => ?_)
              refine lv_goto (tgt := 136) hx hb dX12_write_175 (by decide) ?_
              exact ih136 _ _ _ _ (by omega) ⟨(k4_136 + 1), y29__84, g_a28__85, (by omega), (by omega), rfl, hP, hD, hS, lv_sub hl [0, 1, 2, 3, 4] rfl⟩
      · have nc_46 := cv_nle (a := n_8) (b := k3_50) (by omega) (by omega) c_46
        refine lv_iload_n hx hb dX12_write_55 rfl (lv_at hl 0 rfl) ?_
        refine lv_if_le (tgt := 71) hx hb dX12_write_56 (by decide) (fun c_89 => ?_) (fun c_89 => ?_)
        · have nc_89 := cv_le (a := k3_50) (b := 0) (by omega) (by omega) c_89
          refine lv_iconst (v := 1) hx hb dX12_write_71 (by decide) ?_
          refine lv_istore (lv' := [(4, .int 1), (3, .int (nI k3_50)), (2, .int (nI n_8)), (0, .ref m0), (1, .int (nI j_4))]) hx hb dX12_write_72 hl (by decide) rfl (fun ls hl => ?_)
          refine loop_dn (fun k9 H locs ls => ∃ (k4_74 : Nat), ∃ (v29_74 : Nat), ∃ (ga28_74 : Nat → Int32), (1 ≤ k4_74) ∧ (k4_74 ≤ 13) ∧ (v29_74 + 1 ≤ v29_50 + k4_74) ∧ 13 - k4_74 = k9 ∧ va_P D vwCl [(m0, .inr (12, [.ref a0, .ref a1, .ref a2, .int (nI u3), .int f4, .ref a5, .int (nI u6), .int f7, .int f8, .int f9, .int f10, .int (nI u11), .int (nI u12), .int (nI u13), .ref a14, .ref a15, .ref a16, .ref a17, .int f18, .int f19, .ref a20, .ref a21, .int (nI u22), .ref a23, .ref a24, .ref a25, .int 0, .int 0, .ref a28, .int (nI v29_74)])), (a0, .inl (κ 0, 21375, .inl w)), (a25, .inl (κ 0, 6000, .inl tx)), (a28, .inl (κ 0, 400, .inl ga28_74))] H ∧ va_D A [(m0, .inr (12, [.ref a0, .ref a1, .ref a2, .int (nI u3), .int f4, .ref a5, .int (nI u6), .int f7, .int f8, .int f9, .int f10, .int (nI u11), .int (nI u12), .int (nI u13), .ref a14, .ref a15, .ref a16, .ref a17, .int f18, .int f19, .ref a20, .ref a21, .int (nI u22), .ref a23, .ref a24, .ref a25, .int 0, .int 0, .ref a28, .int (nI v29_74)])), (a0, .inl (κ 0, 21375, .inl w)), (a25, .inl (κ 0, 6000, .inl tx)), (a28, .inl (κ 0, 400, .inl ga28_74))] ∧ va_S A s.heap H locs ∧ lv_has ls 5 [(4, .int (nI k4_74)), (3, .int (nI k3_50)), (2, .int (nI n_8)), (0, .ref m0), (1, .int (nI j_4))]) (fun k9 H locs ls hI74 ih74 => ?_) (13 - 1) _ _ _ ⟨1, v29_50, ga28_50, (by omega), (by omega), (by omega), rfl, hP, hD, hS, lv_sub hl [0, 1, 2, 3, 4] rfl⟩
          obtain ⟨k4_74, v29_74, ga28_74, hl74_0, hl74_1, hl74_2, hm74, hP, hD, hS, hl⟩ := hI74
          refine lv_iload hx hb dX12_write_74 (lv_at hl 0 rfl) ?_
          refine lv_aload_n hx hb dX12_write_76 rfl (lv_at hl 3 rfl) ?_
          refine va_get (D := D) (ci := 12) (v := .ref a0) (C := RX12) (T := TX12) (N := 30) hx hb hts inlX12 hown hK hP 0 rfl rfl 0 (by decide) (hts _ mw_187) (fun _ h9 => h9) rfl dX12_write_77 ?_
          refine lv_iload_n hx hb dX12_write_80 rfl (lv_at hl 4 rfl) ?_
          refine lv_iload_n hx hb dX12_write_81 rfl (lv_at hl 1 rfl) ?_
          refine cr_S (As := [.int (nI j_4), .int (nI k3_50)]) (rest := [.ref a0, .int (nI k4_74)]) hFX hKK (s_X12_nameAt l D κ j_4 k3_50) 2 gS_X12_318 hdS_X12_nameAt rfl rfl ⟨Nat.le_of_ble_eq_true rfl, Nat.le_of_ble_eq_true rfl⟩ rfl rfl (Nat.le_of_ble_eq_true rfl) dX12_write_82 ⟨Nat.le_of_ble_eq_true rfl, Nat.le_of_ble_eq_true rfl⟩ hl.1 (hP.sub [] rfl) (fun _ hp_90 => ?_)
          refine W.eq (g2 := F0 m 85 ls [.int (nI (7123 * j_4 + 4 + 13 * k3_50)), .ref a0, .int (nI k4_74)]) rfl ?_
          refine va_iald hx hb hK hP 1 0 rfl rfl (i := nI (7123 * j_4 + 4 + 13 * k3_50)) (vp_in_nI (n := (7123 * j_4 + 4 + 13 * k3_50)) (by omega) (by omega)) dX12_write_85 ?_
          refine kv (v := .int (w (7123 * j_4 + 4 + 13 * k3_50))) (by rw [nI_clamp (by omega)]) ?_
          obtain ⟨n_91, hn_91, en_91⟩ : ∃ n9 : Nat, n9 ≤ 12 ∧ w (7123 * j_4 + 4 + 13 * k3_50) = nI n9 := id (h_a0 _ _ (mNAME (t := j_4) (c := k3_50) (by omega) (by omega) (by omega)))
          refine kv (v := .int (nI n_91)) (congrArg Value.int en_91) ?_
          refine lv_icmp_gt (tgt := 112) hx hb dX12_write_86 (by decide) (fun c_92 => ?_) (fun c_92 => ?_)
          · have nc_92 := cv_lt (a := n_91) (b := k4_74) (by omega) (by omega) c_92
            refine lv_iinc (v := (nI (k3_50 + 1))) (lv' := [(3, .int (nI (k3_50 + 1))), (4, .int (nI k4_74)), (2, .int (nI n_8)), (0, .ref m0), (1, .int (nI j_4))]) hx hb dX12_write_112 hl (k := 1) rfl (nI_i k3_50) (by decide) rfl (fun ls hl => ?_)
            refine lv_goto (tgt := 50) hx hb dX12_write_115 (by decide) ?_
            exact ih50 _ _ _ _ (by omega) ⟨(k3_50 + 1), v29_74, ga28_74, (by omega), (by omega), rfl, hP, hD, hS, lv_sub hl [0, 2, 3, 4] rfl⟩
          · have nc_92 := cv_nlt (a := n_91) (b := k4_74) (by omega) (by omega) c_92
            refine lv_aload_n hx hb dX12_write_89 rfl (lv_at hl 3 rfl) ?_
            refine lv_aload_n hx hb dX12_write_90 rfl (lv_at hl 3 rfl) ?_
            refine va_get (D := D) (ci := 12) (v := .ref a0) (C := RX12) (T := TX12) (N := 30) hx hb hts inlX12 hown hK hP 0 rfl rfl 0 (by decide) (hts _ mw_187) (fun _ h9 => h9) rfl dX12_write_91 ?_
            refine lv_iload_n hx hb dX12_write_94 rfl (lv_at hl 4 rfl) ?_
            refine lv_iload_n hx hb dX12_write_95 rfl (lv_at hl 1 rfl) ?_
            refine cr_S (As := [.int (nI j_4), .int (nI k3_50)]) (rest := [.ref a0, .ref m0]) hFX hKK (s_X12_nameAt l D κ j_4 k3_50) 2 gS_X12_318 hdS_X12_nameAt rfl rfl ⟨Nat.le_of_ble_eq_true rfl, Nat.le_of_ble_eq_true rfl⟩ rfl rfl (Nat.le_of_ble_eq_true rfl) dX12_write_96 ⟨Nat.le_of_ble_eq_true rfl, Nat.le_of_ble_eq_true rfl⟩ hl.1 (hP.sub [] rfl) (fun _ hp_93 => ?_)
            refine W.eq (g2 := F0 m 99 ls [.int (nI (7123 * j_4 + 4 + 13 * k3_50)), .ref a0, .ref m0]) rfl ?_
            refine lv_iload hx hb dX12_write_99 (lv_at hl 0 rfl) ?_
            refine lv_iadd hx hb dX12_write_101 ?_
            refine ki (v := (nI (7123 * j_4 + 4 + 13 * k3_50 + k4_74))) (nI_add (7123 * j_4 + 4 + 13 * k3_50) k4_74) ?_
            refine va_iald hx hb hK hP 1 0 rfl rfl (i := nI (7123 * j_4 + 4 + 13 * k3_50 + k4_74)) (vp_in_nI (n := (7123 * j_4 + 4 + 13 * k3_50 + k4_74)) (by omega) (by omega)) dX12_write_102 ?_
            refine kv (v := .int (w (7123 * j_4 + 4 + 13 * k3_50 + k4_74))) (by rw [nI_clamp (by omega)]) ?_
            obtain ⟨x_94, ex_94⟩ : ∃ y9 : Int32, w (7123 * j_4 + 4 + 13 * k3_50 + k4_74) = y9 := ⟨_, rfl⟩
            refine kv (v := .int x_94) (congrArg Value.int ex_94) ?_
            refine ct_V (wr := [(a0, .inl (κ 0, 21375, .inl w)), (a25, .inl (κ 0, 6000, .inl tx))]) (As := [.int x_94]) (rest := []) hFX hKK hP hD hS hA (s_X12_says l D κ m0 a0 a1 a2 u3 f4 a5 u6 f7 f8 f9 f10 u11 u12 u13 a14 a15 a16 a17 f18 f19 a20 a21 u22 a23 a24 a25 0 0 a28 v29_74 ga28_74 x_94 (by omega)) 1 gV_X12_435 hdV_X12_says ⟨Nat.le_of_ble_eq_true rfl, Nat.le_of_ble_eq_true rfl⟩ rfl rfl (Nat.le_of_ble_eq_true rfl) dX12_write_103 ⟨Nat.le_of_ble_eq_true rfl, Nat.le_of_ble_eq_true rfl⟩ hl.1 [0, 3] [1, 2] rfl rfl (by decide) (by decide) (by decide) 0 12 rfl rfl rfl trivial (fun g_a28__95 H locs hp_96 _ hP hD hS hz_ hk_ => ?_)
            replace hP : va_P D vwCl [(m0, .inr (12, [.ref a0, .ref a1, .ref a2, .int (nI u3), .int f4, .ref a5, .int (nI u6), .int f7, .int f8, .int f9, .int f10, .int (nI u11), .int (nI u12), .int (nI u13), .ref a14, .ref a15, .ref a16, .ref a17, .int f18, .int f19, .ref a20, .ref a21, .int (nI u22), .ref a23, .ref a24, .ref a25, .int (nI 0), .int 0, .ref a28, .int (nI (v29_74 + 1))])), (a0, .inl (κ 0, 21375, .inl w)), (a25, .inl (κ 0, 6000, .inl tx)), (a28, .inl (κ 0, 400, .inl g_a28__95))] H := hP.sub [2, 0, 1, 3] rfl
            replace hD : va_D A [(m0, .inr (12, [.ref a0, .ref a1, .ref a2, .int (nI u3), .int f4, .ref a5, .int (nI u6), .int f7, .int f8, .int f9, .int f10, .int (nI u11), .int (nI u12), .int (nI u13), .ref a14, .ref a15, .ref a16, .ref a17, .int f18, .int f19, .ref a20, .ref a21, .int (nI u22), .ref a23, .ref a24, .ref a25, .int (nI 0), .int 0, .ref a28, .int (nI (v29_74 + 1))])), (a0, .inl (κ 0, 21375, .inl w)), (a25, .inl (κ 0, 6000, .inl tx)), (a28, .inl (κ 0, 400, .inl g_a28__95))] := hD.sub [2, 0, 1, 3] (by decide) rfl
            refine W.eq (g2 := F0 m 106 ls []) rfl ?_
            refine lv_iinc (v := (nI (k4_74 + 1))) (lv' := [(4, .int (nI (k4_74 + 1))), (3, .int (nI k3_50)), (2, .int (nI n_8)), (0, .ref m0), (1, .int (nI j_4))]) hx hb dX12_write_106 hl (k := 0) rfl (nI_i k4_74) (by decide) rfl (fun ls hl => ?_)
            refine lv_goto (tgt := 74) hx hb dX12_write_109 (by decide) ?_
            exact ih74 _ _ _ _ (by omega) ⟨(k4_74 + 1), (v29_74 + 1), g_a28__95, (by omega), (by omega), (by omega), rfl, hP, hD, hS, lv_sub hl [0, 1, 2, 3, 4] rfl⟩
        · have nc_89 := cv_nle (a := k3_50) (b := 0) (by omega) (by omega) c_89
          refine lv_aload_n hx hb dX12_write_59 rfl (lv_at hl 2 rfl) ?_
          refine lv_aload_n hx hb dX12_write_60 rfl (lv_at hl 2 rfl) ?_
          refine va_get (D := D) (ci := 12) (v := .ref a0) (C := RX12) (T := TX12) (N := 30) hx hb hts inlX12 hown hK hP 0 rfl rfl 0 (by decide) (hts _ mw_187) (fun _ h9 => h9) rfl dX12_write_61 ?_
          refine lv_sipush (v := 21369) hx hb dX12_write_64 (by decide) ?_
          refine va_iald hx hb hK hP 1 0 rfl rfl (i := 21369) (vp_k (by decide)) dX12_write_67 ?_
          obtain ⟨x_97, ex_97⟩ : ∃ y9 : Int32, w 21369 = y9 := ⟨_, rfl⟩
          refine kv (v := .int x_97) (congrArg Value.int ex_97) ?_
          refine ct_V (wr := [(a0, .inl (κ 0, 21375, .inl w)), (a25, .inl (κ 0, 6000, .inl tx))]) (As := [.int x_97]) (rest := []) hFX hKK hP hD hS hA (s_X12_says l D κ m0 a0 a1 a2 u3 f4 a5 u6 f7 f8 f9 f10 u11 u12 u13 a14 a15 a16 a17 f18 f19 a20 a21 u22 a23 a24 a25 0 0 a28 v29_50 ga28_50 x_97 (by omega)) 1 gV_X12_435 hdV_X12_says ⟨Nat.le_of_ble_eq_true rfl, Nat.le_of_ble_eq_true rfl⟩ rfl rfl (Nat.le_of_ble_eq_true rfl) dX12_write_68 ⟨Nat.le_of_ble_eq_true rfl, Nat.le_of_ble_eq_true rfl⟩ hl.1 [0, 3] [1, 2] rfl rfl (by decide) (by decide) (by decide) 0 12 rfl rfl rfl trivial (fun g_a28__98 H locs hp_99 _ hP hD hS hz_ hk_ => ?_)
          replace hP : va_P D vwCl [(m0, .inr (12, [.ref a0, .ref a1, .ref a2, .int (nI u3), .int f4, .ref a5, .int (nI u6), .int f7, .int f8, .int f9, .int f10, .int (nI u11), .int (nI u12), .int (nI u13), .ref a14, .ref a15, .ref a16, .ref a17, .int f18, .int f19, .ref a20, .ref a21, .int (nI u22), .ref a23, .ref a24, .ref a25, .int (nI 0), .int 0, .ref a28, .int (nI (v29_50 + 1))])), (a0, .inl (κ 0, 21375, .inl w)), (a25, .inl (κ 0, 6000, .inl tx)), (a28, .inl (κ 0, 400, .inl g_a28__98))] H := hP.sub [2, 0, 1, 3] rfl
          replace hD : va_D A [(m0, .inr (12, [.ref a0, .ref a1, .ref a2, .int (nI u3), .int f4, .ref a5, .int (nI u6), .int f7, .int f8, .int f9, .int f10, .int (nI u11), .int (nI u12), .int (nI u13), .ref a14, .ref a15, .ref a16, .ref a17, .int f18, .int f19, .ref a20, .ref a21, .int (nI u22), .ref a23, .ref a24, .ref a25, .int (nI 0), .int 0, .ref a28, .int (nI (v29_50 + 1))])), (a0, .inl (κ 0, 21375, .inl w)), (a25, .inl (κ 0, 6000, .inl tx)), (a28, .inl (κ 0, 400, .inl g_a28__98))] := hD.sub [2, 0, 1, 3] (by decide) rfl
          refine W.eq (g2 := F0 m 71 ls []) rfl ?_
          refine lv_iconst (v := 1) hx hb dX12_write_71 (by decide) ?_
          refine lv_istore (lv' := [(4, .int 1), (3, .int (nI k3_50)), (2, .int (nI n_8)), (0, .ref m0), (1, .int (nI j_4))]) hx hb dX12_write_72 hl (by decide) rfl (fun ls hl => ?_)
          refine loop_dn (fun k9 H locs ls => ∃ (k4_74 : Nat), ∃ (v29_74 : Nat), ∃ (ga28_74 : Nat → Int32), (1 ≤ k4_74) ∧ (k4_74 ≤ 13) ∧ (v29_74 + 1 ≤ (v29_50 + 1) + k4_74) ∧ 13 - k4_74 = k9 ∧ va_P D vwCl [(m0, .inr (12, [.ref a0, .ref a1, .ref a2, .int (nI u3), .int f4, .ref a5, .int (nI u6), .int f7, .int f8, .int f9, .int f10, .int (nI u11), .int (nI u12), .int (nI u13), .ref a14, .ref a15, .ref a16, .ref a17, .int f18, .int f19, .ref a20, .ref a21, .int (nI u22), .ref a23, .ref a24, .ref a25, .int (nI 0), .int 0, .ref a28, .int (nI v29_74)])), (a0, .inl (κ 0, 21375, .inl w)), (a25, .inl (κ 0, 6000, .inl tx)), (a28, .inl (κ 0, 400, .inl ga28_74))] H ∧ va_D A [(m0, .inr (12, [.ref a0, .ref a1, .ref a2, .int (nI u3), .int f4, .ref a5, .int (nI u6), .int f7, .int f8, .int f9, .int f10, .int (nI u11), .int (nI u12), .int (nI u13), .ref a14, .ref a15, .ref a16, .ref a17, .int f18, .int f19, .ref a20, .ref a21, .int (nI u22), .ref a23, .ref a24, .ref a25, .int (nI 0), .int 0, .ref a28, .int (nI v29_74)])), (a0, .inl (κ 0, 21375, .inl w)), (a25, .inl (κ 0, 6000, .inl tx)), (a28, .inl (κ 0, 400, .inl ga28_74))] ∧ va_S A s.heap H locs ∧ lv_has ls 5 [(4, .int (nI k4_74)), (3, .int (nI k3_50)), (2, .int (nI n_8)), (0, .ref m0), (1, .int (nI j_4))]) (fun k9 H locs ls hI74 ih74 => ?_) (13 - 1) _ _ _ ⟨1, (v29_50 + 1), g_a28__98, (by omega), (by omega), (by omega), rfl, hP, hD, hS, lv_sub hl [0, 1, 2, 3, 4] rfl⟩
          obtain ⟨k4_74, v29_74, ga28_74, hl74_0, hl74_1, hl74_2, hm74, hP, hD, hS, hl⟩ := hI74
          refine lv_iload hx hb dX12_write_74 (lv_at hl 0 rfl) ?_
          refine lv_aload_n hx hb dX12_write_76 rfl (lv_at hl 3 rfl) ?_
          refine va_get (D := D) (ci := 12) (v := .ref a0) (C := RX12) (T := TX12) (N := 30) hx hb hts inlX12 hown hK hP 0 rfl rfl 0 (by decide) (hts _ mw_187) (fun _ h9 => h9) rfl dX12_write_77 ?_
          refine lv_iload_n hx hb dX12_write_80 rfl (lv_at hl 4 rfl) ?_
          refine lv_iload_n hx hb dX12_write_81 rfl (lv_at hl 1 rfl) ?_
          refine cr_S (As := [.int (nI j_4), .int (nI k3_50)]) (rest := [.ref a0, .int (nI k4_74)]) hFX hKK (s_X12_nameAt l D κ j_4 k3_50) 2 gS_X12_318 hdS_X12_nameAt rfl rfl ⟨Nat.le_of_ble_eq_true rfl, Nat.le_of_ble_eq_true rfl⟩ rfl rfl (Nat.le_of_ble_eq_true rfl) dX12_write_82 ⟨Nat.le_of_ble_eq_true rfl, Nat.le_of_ble_eq_true rfl⟩ hl.1 (hP.sub [] rfl) (fun _ hp_100 => ?_)
          refine W.eq (g2 := F0 m 85 ls [.int (nI (7123 * j_4 + 4 + 13 * k3_50)), .ref a0, .int (nI k4_74)]) rfl ?_
          refine va_iald hx hb hK hP 1 0 rfl rfl (i := nI (7123 * j_4 + 4 + 13 * k3_50)) (vp_in_nI (n := (7123 * j_4 + 4 + 13 * k3_50)) (by omega) (by omega)) dX12_write_85 ?_
          refine kv (v := .int (w (7123 * j_4 + 4 + 13 * k3_50))) (by rw [nI_clamp (by omega)]) ?_
          obtain ⟨n_101, hn_101, en_101⟩ : ∃ n9 : Nat, n9 ≤ 12 ∧ w (7123 * j_4 + 4 + 13 * k3_50) = nI n9 := id (h_a0 _ _ (mNAME (t := j_4) (c := k3_50) (by omega) (by omega) (by omega)))
          refine kv (v := .int (nI n_101)) (congrArg Value.int en_101) ?_
          refine lv_icmp_gt (tgt := 112) hx hb dX12_write_86 (by decide) (fun c_102 => ?_) (fun c_102 => ?_)
          · have nc_102 := cv_lt (a := n_101) (b := k4_74) (by omega) (by omega) c_102
            refine lv_iinc (v := (nI (k3_50 + 1))) (lv' := [(3, .int (nI (k3_50 + 1))), (4, .int (nI k4_74)), (2, .int (nI n_8)), (0, .ref m0), (1, .int (nI j_4))]) hx hb dX12_write_112 hl (k := 1) rfl (nI_i k3_50) (by decide) rfl (fun ls hl => ?_)
            refine lv_goto (tgt := 50) hx hb dX12_write_115 (by decide) ?_
            exact ih50 _ _ _ _ (by omega) ⟨(k3_50 + 1), v29_74, ga28_74, (by omega), (by omega), rfl, hP, hD, hS, lv_sub hl [0, 2, 3, 4] rfl⟩
          · have nc_102 := cv_nlt (a := n_101) (b := k4_74) (by omega) (by omega) c_102
            refine lv_aload_n hx hb dX12_write_89 rfl (lv_at hl 3 rfl) ?_
            refine lv_aload_n hx hb dX12_write_90 rfl (lv_at hl 3 rfl) ?_
            refine va_get (D := D) (ci := 12) (v := .ref a0) (C := RX12) (T := TX12) (N := 30) hx hb hts inlX12 hown hK hP 0 rfl rfl 0 (by decide) (hts _ mw_187) (fun _ h9 => h9) rfl dX12_write_91 ?_
            refine lv_iload_n hx hb dX12_write_94 rfl (lv_at hl 4 rfl) ?_
            refine lv_iload_n hx hb dX12_write_95 rfl (lv_at hl 1 rfl) ?_
            refine cr_S (As := [.int (nI j_4), .int (nI k3_50)]) (rest := [.ref a0, .ref m0]) hFX hKK (s_X12_nameAt l D κ j_4 k3_50) 2 gS_X12_318 hdS_X12_nameAt rfl rfl ⟨Nat.le_of_ble_eq_true rfl, Nat.le_of_ble_eq_true rfl⟩ rfl rfl (Nat.le_of_ble_eq_true rfl) dX12_write_96 ⟨Nat.le_of_ble_eq_true rfl, Nat.le_of_ble_eq_true rfl⟩ hl.1 (hP.sub [] rfl) (fun _ hp_103 => ?_)
            refine W.eq (g2 := F0 m 99 ls [.int (nI (7123 * j_4 + 4 + 13 * k3_50)), .ref a0, .ref m0]) rfl ?_
            refine lv_iload hx hb dX12_write_99 (lv_at hl 0 rfl) ?_
            refine lv_iadd hx hb dX12_write_101 ?_
            refine ki (v := (nI (7123 * j_4 + 4 + 13 * k3_50 + k4_74))) (nI_add (7123 * j_4 + 4 + 13 * k3_50) k4_74) ?_
            refine va_iald hx hb hK hP 1 0 rfl rfl (i := nI (7123 * j_4 + 4 + 13 * k3_50 + k4_74)) (vp_in_nI (n := (7123 * j_4 + 4 + 13 * k3_50 + k4_74)) (by omega) (by omega)) dX12_write_102 ?_
            refine kv (v := .int (w (7123 * j_4 + 4 + 13 * k3_50 + k4_74))) (by rw [nI_clamp (by omega)]) ?_
            obtain ⟨x_104, ex_104⟩ : ∃ y9 : Int32, w (7123 * j_4 + 4 + 13 * k3_50 + k4_74) = y9 := ⟨_, rfl⟩
            refine kv (v := .int x_104) (congrArg Value.int ex_104) ?_
            refine ct_V (wr := [(a0, .inl (κ 0, 21375, .inl w)), (a25, .inl (κ 0, 6000, .inl tx))]) (As := [.int x_104]) (rest := []) hFX hKK hP hD hS hA (s_X12_says l D κ m0 a0 a1 a2 u3 f4 a5 u6 f7 f8 f9 f10 u11 u12 u13 a14 a15 a16 a17 f18 f19 a20 a21 u22 a23 a24 a25 0 0 a28 v29_74 ga28_74 x_104 (by omega)) 1 gV_X12_435 hdV_X12_says ⟨Nat.le_of_ble_eq_true rfl, Nat.le_of_ble_eq_true rfl⟩ rfl rfl (Nat.le_of_ble_eq_true rfl) dX12_write_103 ⟨Nat.le_of_ble_eq_true rfl, Nat.le_of_ble_eq_true rfl⟩ hl.1 [0, 3] [1, 2] rfl rfl (by decide) (by decide) (by decide) 0 12 rfl rfl rfl trivial (fun g_a28__105 H locs hp_106 _ hP hD hS hz_ hk_ => ?_)
            replace hP : va_P D vwCl [(m0, .inr (12, [.ref a0, .ref a1, .ref a2, .int (nI u3), .int f4, .ref a5, .int (nI u6), .int f7, .int f8, .int f9, .int f10, .int (nI u11), .int (nI u12), .int (nI u13), .ref a14, .ref a15, .ref a16, .ref a17, .int f18, .int f19, .ref a20, .ref a21, .int (nI u22), .ref a23, .ref a24, .ref a25, .int (nI 0), .int 0, .ref a28, .int (nI (v29_74 + 1))])), (a0, .inl (κ 0, 21375, .inl w)), (a25, .inl (κ 0, 6000, .inl tx)), (a28, .inl (κ 0, 400, .inl g_a28__105))] H := hP.sub [2, 0, 1, 3] rfl
            replace hD : va_D A [(m0, .inr (12, [.ref a0, .ref a1, .ref a2, .int (nI u3), .int f4, .ref a5, .int (nI u6), .int f7, .int f8, .int f9, .int f10, .int (nI u11), .int (nI u12), .int (nI u13), .ref a14, .ref a15, .ref a16, .ref a17, .int f18, .int f19, .ref a20, .ref a21, .int (nI u22), .ref a23, .ref a24, .ref a25, .int (nI 0), .int 0, .ref a28, .int (nI (v29_74 + 1))])), (a0, .inl (κ 0, 21375, .inl w)), (a25, .inl (κ 0, 6000, .inl tx)), (a28, .inl (κ 0, 400, .inl g_a28__105))] := hD.sub [2, 0, 1, 3] (by decide) rfl
            refine W.eq (g2 := F0 m 106 ls []) rfl ?_
            refine lv_iinc (v := (nI (k4_74 + 1))) (lv' := [(4, .int (nI (k4_74 + 1))), (3, .int (nI k3_50)), (2, .int (nI n_8)), (0, .ref m0), (1, .int (nI j_4))]) hx hb dX12_write_106 hl (k := 0) rfl (nI_i k4_74) (by decide) rfl (fun ls hl => ?_)
            refine lv_goto (tgt := 74) hx hb dX12_write_109 (by decide) ?_
            exact ih74 _ _ _ _ (by omega) ⟨(k4_74 + 1), (v29_74 + 1), g_a28__105, (by omega), (by omega), (by omega), rfl, hP, hD, hS, lv_sub hl [0, 1, 2, 3, 4] rfl⟩
  · refine W.eq (g2 := F0 m 5 ls [.int 0]) rfl ?_
    refine lv_if_ne (tgt := 10) hx hb dX12_write_5 (by decide) (fun c_107 => absurd c_107 (by decide)) (fun c_107 => ?_)
    refine lv_iconst (v := (-1)) hx hb dX12_write_8 (by decide) ?_
    exact ct_iret hx hb hr hlk rfl hS hP hD ((-1), u26, f27, u29, tx, li) rfl ⟨(show u26 ≤ 6000 from (by first | assumption | omega | rfl | exact Or.inl (by assumption) | exact Or.inr (by assumption))), (show u29 = 0 from (by first | assumption | omega | rfl | exact Or.inl (by assumption) | exact Or.inr (by assumption)))⟩ [0, 1, 2, 3] rfl (by decide) trivial (Nat.le_of_ble_eq_true rfl) (Nat.le_of_ble_eq_true rfl) dX12_write_9
set_option maxHeartbeats 4000000 in
set_option maxRecDepth 100000 in
theorem s_X12_sign (l : Launch) (D : va_G) (κ : Nat → ClassId) (m0 : Nat) (a0 : Nat) (a1 : Nat) (a2 : Nat) (u3 : Nat) (f4 : Int32) (a5 : Nat) (u6 : Nat) (f7 : Int32) (f8 : Int32) (f9 : Int32) (f10 : Int32) (u11 : Nat) (u12 : Nat) (u13 : Nat) (a14 : Nat) (a15 : Nat) (a16 : Nat) (a17 : Nat) (f18 : Int32) (f19 : Int32) (a20 : Nat) (a21 : Nat) (u22 : Nat) (a23 : Nat) (a24 : Nat) (a25 : Nat) (u26 : Nat) (f27 : Int32) (a28 : Nat) (u29 : Nat) (tx : Nat → Int32) (za : Int32) (h26 : u26 ≤ 6000) : Cr l yX12_sign (wl yX12_sign cX12_sign 2 (some .int)) { frames := 1, cells := 0, slots := 0, locals := 25 } D κ [.ref m0, .int za] (va_P D vwCl [(m0, .inr (12, [.ref a0, .ref a1, .ref a2, .int (nI u3), .int f4, .ref a5, .int (nI u6), .int f7, .int f8, .int f9, .int f10, .int (nI u11), .int (nI u12), .int (nI u13), .ref a14, .ref a15, .ref a16, .ref a17, .int f18, .int f19, .ref a20, .ref a21, .int (nI u22), .ref a23, .ref a24, .ref a25, .int (nI u26), .int f27, .ref a28, .int (nI u29)])), (a25, .inl (κ 0, 6000, .inl tx))]) (fun r : Int32 => some (.int r)) (fun r : Int32 => True) := by
  refine cr_of (by decide +kernel) (Nat.le_of_ble_eq_true rfl) ?_
  intro p e s m args below meth c ls hx hb hr hml hts hown hlk hKK hK hI hl
  have hP : va_P D vwCl [(m0, .inr (12, [.ref a0, .ref a1, .ref a2, .int (nI u3), .int f4, .ref a5, .int (nI u6), .int f7, .int f8, .int f9, .int f10, .int (nI u11), .int (nI u12), .int (nI u13), .ref a14, .ref a15, .ref a16, .ref a17, .int f18, .int f19, .ref a20, .ref a21, .int (nI u22), .ref a23, .ref a24, .ref a25, .int (nI u26), .int f27, .ref a28, .int (nI u29)])), (a25, .inl (κ 0, 6000, .inl tx))] s.heap := hI
  have hFX : FX p s m args c cX12_sign 2 RX12 := ⟨hx, hb, hml, hown, hts⟩
  have hl : lv_has ls 2 [(0, .ref m0), (1, .int za)] := hl
  refine lv_iload_n hx hb dX12_sign_0 rfl (lv_at hl 1 rfl) ?_
  refine lv_i2l (v := za.toInt64) hx hb dX12_sign_1 rfl ?_
  refine lv_lconst (v := 0) hx hb dX12_sign_2 (by decide) ?_
  refine lv_aload_n hx hb dX12_sign_3 rfl (lv_at hl 0 rfl) ?_
  refine va_get (D := D) (ci := 12) (v := .int (nI u26)) (C := RX12) (T := TX12) (N := 30) hx hb hts inlX12 hown hK hP 0 rfl rfl 26 (by decide) (hts _ mw_1446) (fun _ h9 => h9) rfl dX12_sign_4 ?_
  refine lv_iconst (v := 1) hx hb dX12_sign_7 (by decide) ?_
  refine lv_isub hx hb dX12_sign_8 ?_
  refine ki (v := (zI (((u26 : Nat) : Int) - 1))) (z_sub (nI_z _) (by decide)) ?_
  refine lv_i2l (v := (zI (((u26 : Nat) : Int) - 1)).toInt64) hx hb dX12_sign_9 rfl ?_
  refine cr_S (As := [.long za.toInt64, .long 0, .long ((zI (((u26 : Nat) : Int) - 1)).toInt64)]) (rest := []) hFX hKK (s_X12_isIn l D κ za.toInt64 0 ((zI (((u26 : Nat) : Int) - 1)).toInt64)) 3 gS_X12_62 hdS_X12_isIn rfl rfl ⟨Nat.le_of_ble_eq_true rfl, Nat.le_of_ble_eq_true rfl⟩ rfl rfl (Nat.le_of_ble_eq_true rfl) dX12_sign_10 ⟨Nat.le_of_ble_eq_true rfl, Nat.le_of_ble_eq_true rfl⟩ hl.1 (hP.sub [] rfl) (fun r__1 hp_2 => ?_)
  replace hp_2 : ((r__1 = 1 ∧ ¬ lg_cmp za.toInt64 (0 : Int64) < 0 ∧ ¬ 0 < lg_cmp za.toInt64 ((zI (((u26 : Nat) : Int) - 1)).toInt64)) ∨ (r__1 = 0 ∧ (lg_cmp za.toInt64 (0 : Int64) < 0 ∨ 0 < lg_cmp za.toInt64 ((zI (((u26 : Nat) : Int) - 1)).toInt64)))) := hp_2
  have ha_3 := hp_2
  clear hp_2
  rcases ha_3 with ⟨rfl, a_4, a_5⟩ | ⟨rfl, a_6⟩
  · refine W.eq (g2 := F0 m 13 ls [.int 1]) rfl ?_
    have hin_7 : (0 : Int) ≤ za.toInt ∧ za.toInt ≤ (((u26 : Nat) : Int) - 1) := l_in (l_of rfl) (by decide) (l_of (zI_toInt (by omega))) a_4 a_5
    obtain ⟨j_8, hj_8, rfl⟩ : ∃ j9 : Nat, (j9 : Int) ≤ (((u26 : Nat) : Int) - 1) ∧ za = nI j9 := i_nat (by omega) (by omega)
    refine lv_if_eq (tgt := 25) hx hb dX12_sign_13 (by decide) (fun c_9 => absurd c_9 (by decide)) (fun c_9 => ?_)
    refine lv_aload_n hx hb dX12_sign_16 rfl (lv_at hl 0 rfl) ?_
    refine va_get (D := D) (ci := 12) (v := .ref a25) (C := RX12) (T := TX12) (N := 30) hx hb hts inlX12 hown hK hP 0 rfl rfl 25 (by decide) (hts _ mw_202) (fun _ h9 => h9) rfl dX12_sign_17 ?_
    refine lv_iload_n hx hb dX12_sign_20 rfl (lv_at hl 1 rfl) ?_
    refine va_iald hx hb hK hP 1 0 rfl rfl (i := nI j_8) (vp_in_nI (n := j_8) (by omega) (by omega)) dX12_sign_21 ?_
    refine kv (v := .int (tx j_8)) (by rw [nI_clamp (by omega)]) ?_
    obtain ⟨x_10, ex_10⟩ : ∃ y9 : Int32, tx j_8 = y9 := ⟨_, rfl⟩
    refine kv (v := .int x_10) (congrArg Value.int ex_10) ?_
    refine lv_goto (tgt := 26) hx hb dX12_sign_22 (by decide) ?_
    exact cr_iret hx hb hr hlk rfl x_10 rfl trivial dX12_sign_26
  · refine W.eq (g2 := F0 m 13 ls [.int 0]) rfl ?_
    have hin_11 : za.toInt < (0 : Int) ∨ (((u26 : Nat) : Int) - 1) < za.toInt := l_out (l_of rfl) (by decide) (l_of (zI_toInt (by omega))) a_6
    refine lv_if_eq (tgt := 25) hx hb dX12_sign_13 (by decide) (fun c_12 => ?_) (fun c_12 => absurd (by decide) c_12)
    refine lv_iconst (v := (-1)) hx hb dX12_sign_25 (by decide) ?_
    exact cr_iret hx hb hr hlk rfl (-1) rfl trivial dX12_sign_26
set_option maxHeartbeats 4000000 in
set_option maxRecDepth 100000 in
theorem s_X12_image (l : Launch) (D : va_G) (κ : Nat → ClassId) (m0 : Nat) (a0 : Nat) (a1 : Nat) (a2 : Nat) (u3 : Nat) (f4 : Int32) (a5 : Nat) (u6 : Nat) (f7 : Int32) (f8 : Int32) (f9 : Int32) (f10 : Int32) (u11 : Nat) (u12 : Nat) (u13 : Nat) (a14 : Nat) (a15 : Nat) (a16 : Nat) (a17 : Nat) (f18 : Int32) (f19 : Int32) (a20 : Nat) (a21 : Nat) (u22 : Nat) (a23 : Nat) (a24 : Nat) (a25 : Nat) (u26 : Nat) (f27 : Int32) (a28 : Nat) (u29 : Nat) (w : Nat → Int32) (kp : Nat → Int32) (za : Int32) (h3 : u3 ≤ 6) (h_a0 : Pw w) (h_a1 : Pw kp) : Ct l yX12_image (wl yX12_image cX12_image 3 (some .boolean)) { frames := 0, cells := 0, slots := 0, locals := 0 } D κ [.ref m0, .int za] [(m0, .inr (12, [.ref a0, .ref a1, .ref a2, .int (nI u3), .int f4, .ref a5, .int (nI u6), .int f7, .int f8, .int f9, .int f10, .int (nI u11), .int (nI u12), .int (nI u13), .ref a14, .ref a15, .ref a16, .ref a17, .int f18, .int f19, .ref a20, .ref a21, .int (nI u22), .ref a23, .ref a24, .ref a25, .int (nI u26), .int f27, .ref a28, .int (nI u29)])), (a0, .inl (κ 0, 21375, .inl w)), (a1, .inl (κ 0, 21375, .inl kp))] (fun _ => True) (fun u9 : Int32 × Nat × Int32 × (Nat → Int32) × (Nat → Int32) => some (.int u9.1)) (fun u9 : Int32 × Nat × Int32 × (Nat → Int32) × (Nat → Int32) => u9.2.1 ≤ 6 ∧ Pw u9.2.2.2.1 ∧ Pw u9.2.2.2.2 ∧ ((u9.1 = 1 ∧ u9.2.2.1 = 1 ∧ (za ≠ 0 ∨ f4 ≠ 0)) ∨ (u9.1 = 0 ∧ u9.2.2.1 = f4 ∧ za = 0 ∧ f4 = 0))) (fun u9 : Int32 × Nat × Int32 × (Nat → Int32) × (Nat → Int32) => [(m0, .inr (12, [.ref a0, .ref a1, .ref a2, .int (nI u9.2.1), .int u9.2.2.1, .ref a5, .int (nI u6), .int f7, .int f8, .int f9, .int f10, .int (nI u11), .int (nI u12), .int (nI u13), .ref a14, .ref a15, .ref a16, .ref a17, .int f18, .int f19, .ref a20, .ref a21, .int (nI u22), .ref a23, .ref a24, .ref a25, .int (nI u26), .int f27, .ref a28, .int (nI u29)])), (a0, .inl (κ 0, 21375, .inl u9.2.2.2.1)), (a1, .inl (κ 0, 21375, .inl u9.2.2.2.2))]) (fun _ _ => True) := by
  refine ct_of (by decide +kernel) (Nat.le_of_ble_eq_true rfl) ?_
  intro p e s m args below meth c A ls hx hb hr hml hts hown hlk hin hKK hK hA hP hD hS hI hl
  have hS : va_S A s.heap s.heap [] := hS
  have hFX : FX p s m args c cX12_image 3 RX12 := ⟨hx, hb, hml, hown, hts⟩
  have hl : lv_has ls 3 [(0, .ref m0), (1, .int za)] := hl
  refine lv_iload_n hx hb dX12_image_0 rfl (lv_at hl 1 rfl) ?_
  refine lv_if_ne (tgt := 13) hx hb dX12_image_1 (by decide) (fun c_1 => ?_) (fun c_1 => ?_)
  · refine lv_iconst (v := 0) hx hb dX12_image_13 (by decide) ?_
    refine lv_istore_n (lv' := [(2, .int 0), (0, .ref m0), (1, .int za)]) hx hb dX12_image_14 rfl hl (by decide) rfl (fun ls hl => ?_)
    refine loop_dn (fun k9 H locs ls => ∃ (k2_15 : Nat), ∃ (ga0_15 : Nat → Int32), ∃ (ga1_15 : Nat → Int32), (k2_15 ≤ 21375) ∧ Pw ga0_15 ∧ Pw ga1_15 ∧ 21375 - k2_15 = k9 ∧ va_P D vwCl [(m0, .inr (12, [.ref a0, .ref a1, .ref a2, .int (nI u3), .int f4, .ref a5, .int (nI u6), .int f7, .int f8, .int f9, .int f10, .int (nI u11), .int (nI u12), .int (nI u13), .ref a14, .ref a15, .ref a16, .ref a17, .int f18, .int f19, .ref a20, .ref a21, .int (nI u22), .ref a23, .ref a24, .ref a25, .int (nI u26), .int f27, .ref a28, .int (nI u29)])), (a0, .inl (κ 0, 21375, .inl ga0_15)), (a1, .inl (κ 0, 21375, .inl ga1_15))] H ∧ va_D A [(m0, .inr (12, [.ref a0, .ref a1, .ref a2, .int (nI u3), .int f4, .ref a5, .int (nI u6), .int f7, .int f8, .int f9, .int f10, .int (nI u11), .int (nI u12), .int (nI u13), .ref a14, .ref a15, .ref a16, .ref a17, .int f18, .int f19, .ref a20, .ref a21, .int (nI u22), .ref a23, .ref a24, .ref a25, .int (nI u26), .int f27, .ref a28, .int (nI u29)])), (a0, .inl (κ 0, 21375, .inl ga0_15)), (a1, .inl (κ 0, 21375, .inl ga1_15))] ∧ va_S A s.heap H locs ∧ lv_has ls 3 [(2, .int (nI k2_15)), (0, .ref m0), (1, .int za)]) (fun k9 H locs ls hI15 ih15 => ?_) (21375 - 0) _ _ _ ⟨0, w, kp, (by omega), h_a0, h_a1, rfl, hP, hD, hS, lv_sub hl [0, 1, 2] rfl⟩
    obtain ⟨k2_15, ga0_15, ga1_15, hl15_0, hg15_0, hg15_1, hm15, hP, hD, hS, hl⟩ := hI15
    refine lv_iload_n hx hb dX12_image_15 rfl (lv_at hl 0 rfl) ?_
    refine lv_sipush (v := 21375) hx hb dX12_image_16 (by decide) ?_
    refine lv_icmp_ge (tgt := 59) hx hb dX12_image_19 (by decide) (fun c_2 => ?_) (fun c_2 => ?_)
    · have nc_2 := cv_le (a := 21375) (b := k2_15) (by omega) (by omega) c_2
      refine lv_iload_n hx hb dX12_image_59 rfl (lv_at hl 2 rfl) ?_
      refine lv_if_ne (tgt := 68) hx hb dX12_image_60 (by decide) (fun c_3 => ?_) (fun c_3 => absurd c_3 c_1)
      refine lv_aload_n hx hb dX12_image_68 rfl (lv_at hl 1 rfl) ?_
      refine lv_iconst (v := 1) hx hb dX12_image_69 (by decide) ?_
      refine va_put (D := D) (ci := 12) (v := .int 1) (ty := tyX12 4) (C := RX12) (T := TX12) (N := 30) hx hb hts inlX12 tyX12 tyX12_ok nmX12 hown hK hP hD hS 0 rfl rfl 4 (by decide) (hts _ mw_1483) (fun _ h9 => h9) rfl (tyX12_ok 4 (by decide)) rfl rfl (Nat.le_of_ble_eq_true rfl) dX12_image_70 (fun H locs hP hD hS => ?_)
      have hP : va_P D vwCl [(m0, .inr (12, [.ref a0, .ref a1, .ref a2, .int (nI u3), .int 1, .ref a5, .int (nI u6), .int f7, .int f8, .int f9, .int f10, .int (nI u11), .int (nI u12), .int (nI u13), .ref a14, .ref a15, .ref a16, .ref a17, .int f18, .int f19, .ref a20, .ref a21, .int (nI u22), .ref a23, .ref a24, .ref a25, .int (nI u26), .int f27, .ref a28, .int (nI u29)])), (a0, .inl (κ 0, 21375, .inl ga0_15)), (a1, .inl (κ 0, 21375, .inl ga1_15))] H := hP
      have hD : va_D A [(m0, .inr (12, [.ref a0, .ref a1, .ref a2, .int (nI u3), .int 1, .ref a5, .int (nI u6), .int f7, .int f8, .int f9, .int f10, .int (nI u11), .int (nI u12), .int (nI u13), .ref a14, .ref a15, .ref a16, .ref a17, .int f18, .int f19, .ref a20, .ref a21, .int (nI u22), .ref a23, .ref a24, .ref a25, .int (nI u26), .int f27, .ref a28, .int (nI u29)])), (a0, .inl (κ 0, 21375, .inl ga0_15)), (a1, .inl (κ 0, 21375, .inl ga1_15))] := hD
      refine lv_iconst (v := 1) hx hb dX12_image_73 (by decide) ?_
      exact ct_iret hx hb hr hlk rfl hS hP hD (1, u3, 1, ga0_15, ga1_15) rfl ⟨(show u3 ≤ 6 from (by first | assumption | omega | rfl | exact Or.inl (by assumption) | exact Or.inr (by assumption))), (show Pw ga0_15 from (by first | assumption | omega | rfl | exact Or.inl (by assumption) | exact Or.inr (by assumption))), (show Pw ga1_15 from (by first | assumption | omega | rfl | exact Or.inl (by assumption) | exact Or.inr (by assumption))), (by exact Or.inl (⟨rfl, (show (1 : Int32) = 1 from (by first | assumption | omega | rfl | exact Or.inl (by assumption) | exact Or.inr (by assumption))), (show za ≠ 0 ∨ f4 ≠ 0 from (by first | assumption | omega | rfl | exact Or.inl (by assumption) | exact Or.inr (by assumption)))⟩))⟩ [0, 1, 2] rfl (by decide) trivial (Nat.le_of_ble_eq_true rfl) (Nat.le_of_ble_eq_true rfl) dX12_image_74
    · have nc_2 := cv_nle (a := 21375) (b := k2_15) (by omega) (by omega) c_2
      refine lv_iload_n hx hb dX12_image_22 rfl (lv_at hl 2 rfl) ?_
      refine lv_if_eq (tgt := 41) hx hb dX12_image_23 (by decide) (fun c_4 => absurd c_4 c_1) (fun c_4 => ?_)
      refine lv_aload_n hx hb dX12_image_26 rfl (lv_at hl 1 rfl) ?_
      refine va_get (D := D) (ci := 12) (v := .ref a1) (C := RX12) (T := TX12) (N := 30) hx hb hts inlX12 hown hK hP 0 rfl rfl 1 (by decide) (hts _ mw_188) (fun _ h9 => h9) rfl dX12_image_27 ?_
      refine lv_iload_n hx hb dX12_image_30 rfl (lv_at hl 0 rfl) ?_
      refine lv_aload_n hx hb dX12_image_31 rfl (lv_at hl 1 rfl) ?_
      refine va_get (D := D) (ci := 12) (v := .ref a0) (C := RX12) (T := TX12) (N := 30) hx hb hts inlX12 hown hK hP 0 rfl rfl 0 (by decide) (hts _ mw_187) (fun _ h9 => h9) rfl dX12_image_32 ?_
      refine lv_iload_n hx hb dX12_image_35 rfl (lv_at hl 0 rfl) ?_
      refine va_iald hx hb hK hP 1 0 rfl rfl (i := nI k2_15) (vp_in_nI (n := k2_15) (by omega) (by omega)) dX12_image_36 ?_
      refine kv (v := .int (ga0_15 k2_15)) (by rw [nI_clamp (by omega)]) ?_
      obtain ⟨x_5, ex_5⟩ : ∃ y9 : Int32, ga0_15 k2_15 = y9 := ⟨_, rfl⟩
      refine kv (v := .int x_5) (congrArg Value.int ex_5) ?_
      refine va_iast hx hb hK hP hD hS 2 0 rfl rfl (i := nI k2_15) (x := x_5) (vp_in_nI (n := k2_15) (by omega) (by omega)) dX12_image_37 (fun H locs hP hD hS => ?_)
      rw [nI_clamp (by omega)] at hP hD
      have hP : va_P D vwCl [(m0, .inr (12, [.ref a0, .ref a1, .ref a2, .int (nI u3), .int f4, .ref a5, .int (nI u6), .int f7, .int f8, .int f9, .int f10, .int (nI u11), .int (nI u12), .int (nI u13), .ref a14, .ref a15, .ref a16, .ref a17, .int f18, .int f19, .ref a20, .ref a21, .int (nI u22), .ref a23, .ref a24, .ref a25, .int (nI u26), .int f27, .ref a28, .int (nI u29)])), (a0, .inl (κ 0, 21375, .inl ga0_15)), (a1, .inl (κ 0, 21375, .inl (upd ga1_15 k2_15 x_5)))] H := hP
      have hD : va_D A [(m0, .inr (12, [.ref a0, .ref a1, .ref a2, .int (nI u3), .int f4, .ref a5, .int (nI u6), .int f7, .int f8, .int f9, .int f10, .int (nI u11), .int (nI u12), .int (nI u13), .ref a14, .ref a15, .ref a16, .ref a17, .int f18, .int f19, .ref a20, .ref a21, .int (nI u22), .ref a23, .ref a24, .ref a25, .int (nI u26), .int f27, .ref a28, .int (nI u29)])), (a0, .inl (κ 0, 21375, .inl ga0_15)), (a1, .inl (κ 0, 21375, .inl (upd ga1_15 k2_15 x_5)))] := hD
      have hf_7 : Pw (upd ga1_15 k2_15 x_5) := (Pw_copyE hg15_1 hg15_0 ex_5)
      generalize upd ga1_15 k2_15 x_5 = g_6 at hP hD hf_7
      refine lv_goto (tgt := 53) hx hb dX12_image_38 (by decide) ?_
      refine lv_iinc (v := (nI (k2_15 + 1))) (lv' := [(2, .int (nI (k2_15 + 1))), (0, .ref m0), (1, .int za)]) hx hb dX12_image_53 hl (k := 0) rfl (nI_i k2_15) (by decide) rfl (fun ls hl => ?_)
      refine lv_goto (tgt := 15) hx hb dX12_image_56 (by decide) ?_
      exact ih15 _ _ _ _ (by omega) ⟨(k2_15 + 1), ga0_15, g_6, (by omega), hg15_0, hf_7, rfl, hP, hD, hS, lv_sub hl [0, 1, 2] rfl⟩
  · refine lv_aload_n hx hb dX12_image_4 rfl (lv_at hl 0 rfl) ?_
    refine va_get (D := D) (ci := 12) (v := .int f4) (C := RX12) (T := TX12) (N := 30) hx hb hts inlX12 hown hK hP 0 rfl rfl 4 (by decide) (hts _ mw_1483) (fun _ h9 => h9) rfl dX12_image_5 ?_
    refine lv_if_ne (tgt := 13) hx hb dX12_image_8 (by decide) (fun c_8 => ?_) (fun c_8 => ?_)
    · refine lv_iconst (v := 0) hx hb dX12_image_13 (by decide) ?_
      refine lv_istore_n (lv' := [(2, .int 0), (0, .ref m0), (1, .int za)]) hx hb dX12_image_14 rfl hl (by decide) rfl (fun ls hl => ?_)
      refine loop_dn (fun k9 H locs ls => ∃ (k2_15 : Nat), ∃ (ga0_15 : Nat → Int32), ∃ (ga1_15 : Nat → Int32), (k2_15 ≤ 21375) ∧ Pw ga0_15 ∧ Pw ga1_15 ∧ 21375 - k2_15 = k9 ∧ va_P D vwCl [(m0, .inr (12, [.ref a0, .ref a1, .ref a2, .int (nI u3), .int f4, .ref a5, .int (nI u6), .int f7, .int f8, .int f9, .int f10, .int (nI u11), .int (nI u12), .int (nI u13), .ref a14, .ref a15, .ref a16, .ref a17, .int f18, .int f19, .ref a20, .ref a21, .int (nI u22), .ref a23, .ref a24, .ref a25, .int (nI u26), .int f27, .ref a28, .int (nI u29)])), (a0, .inl (κ 0, 21375, .inl ga0_15)), (a1, .inl (κ 0, 21375, .inl ga1_15))] H ∧ va_D A [(m0, .inr (12, [.ref a0, .ref a1, .ref a2, .int (nI u3), .int f4, .ref a5, .int (nI u6), .int f7, .int f8, .int f9, .int f10, .int (nI u11), .int (nI u12), .int (nI u13), .ref a14, .ref a15, .ref a16, .ref a17, .int f18, .int f19, .ref a20, .ref a21, .int (nI u22), .ref a23, .ref a24, .ref a25, .int (nI u26), .int f27, .ref a28, .int (nI u29)])), (a0, .inl (κ 0, 21375, .inl ga0_15)), (a1, .inl (κ 0, 21375, .inl ga1_15))] ∧ va_S A s.heap H locs ∧ lv_has ls 3 [(2, .int (nI k2_15)), (0, .ref m0), (1, .int za)]) (fun k9 H locs ls hI15 ih15 => ?_) (21375 - 0) _ _ _ ⟨0, w, kp, (by omega), h_a0, h_a1, rfl, hP, hD, hS, lv_sub hl [0, 1, 2] rfl⟩
      obtain ⟨k2_15, ga0_15, ga1_15, hl15_0, hg15_0, hg15_1, hm15, hP, hD, hS, hl⟩ := hI15
      refine lv_iload_n hx hb dX12_image_15 rfl (lv_at hl 0 rfl) ?_
      refine lv_sipush (v := 21375) hx hb dX12_image_16 (by decide) ?_
      refine lv_icmp_ge (tgt := 59) hx hb dX12_image_19 (by decide) (fun c_9 => ?_) (fun c_9 => ?_)
      · have nc_9 := cv_le (a := 21375) (b := k2_15) (by omega) (by omega) c_9
        refine lv_iload_n hx hb dX12_image_59 rfl (lv_at hl 2 rfl) ?_
        refine lv_if_ne (tgt := 68) hx hb dX12_image_60 (by decide) (fun c_10 => absurd c_1 c_10) (fun c_10 => ?_)
        refine lv_aload_n hx hb dX12_image_63 rfl (lv_at hl 1 rfl) ?_
        refine lv_iconst (v := 0) hx hb dX12_image_64 (by decide) ?_
        refine va_put (D := D) (ci := 12) (v := .int 0) (ty := tyX12 3) (C := RX12) (T := TX12) (N := 30) hx hb hts inlX12 tyX12 tyX12_ok nmX12 hown hK hP hD hS 0 rfl rfl 3 (by decide) (hts _ mw_533) (fun _ h9 => h9) rfl (tyX12_ok 3 (by decide)) rfl rfl (Nat.le_of_ble_eq_true rfl) dX12_image_65 (fun H locs hP hD hS => ?_)
        have hP : va_P D vwCl [(m0, .inr (12, [.ref a0, .ref a1, .ref a2, .int 0, .int f4, .ref a5, .int (nI u6), .int f7, .int f8, .int f9, .int f10, .int (nI u11), .int (nI u12), .int (nI u13), .ref a14, .ref a15, .ref a16, .ref a17, .int f18, .int f19, .ref a20, .ref a21, .int (nI u22), .ref a23, .ref a24, .ref a25, .int (nI u26), .int f27, .ref a28, .int (nI u29)])), (a0, .inl (κ 0, 21375, .inl ga0_15)), (a1, .inl (κ 0, 21375, .inl ga1_15))] H := hP
        have hD : va_D A [(m0, .inr (12, [.ref a0, .ref a1, .ref a2, .int 0, .int f4, .ref a5, .int (nI u6), .int f7, .int f8, .int f9, .int f10, .int (nI u11), .int (nI u12), .int (nI u13), .ref a14, .ref a15, .ref a16, .ref a17, .int f18, .int f19, .ref a20, .ref a21, .int (nI u22), .ref a23, .ref a24, .ref a25, .int (nI u26), .int f27, .ref a28, .int (nI u29)])), (a0, .inl (κ 0, 21375, .inl ga0_15)), (a1, .inl (κ 0, 21375, .inl ga1_15))] := hD
        refine lv_aload_n hx hb dX12_image_68 rfl (lv_at hl 1 rfl) ?_
        refine lv_iconst (v := 1) hx hb dX12_image_69 (by decide) ?_
        refine va_put (D := D) (ci := 12) (v := .int 1) (ty := tyX12 4) (C := RX12) (T := TX12) (N := 30) hx hb hts inlX12 tyX12 tyX12_ok nmX12 hown hK hP hD hS 0 rfl rfl 4 (by decide) (hts _ mw_1483) (fun _ h9 => h9) rfl (tyX12_ok 4 (by decide)) rfl rfl (Nat.le_of_ble_eq_true rfl) dX12_image_70 (fun H locs hP hD hS => ?_)
        have hP : va_P D vwCl [(m0, .inr (12, [.ref a0, .ref a1, .ref a2, .int 0, .int 1, .ref a5, .int (nI u6), .int f7, .int f8, .int f9, .int f10, .int (nI u11), .int (nI u12), .int (nI u13), .ref a14, .ref a15, .ref a16, .ref a17, .int f18, .int f19, .ref a20, .ref a21, .int (nI u22), .ref a23, .ref a24, .ref a25, .int (nI u26), .int f27, .ref a28, .int (nI u29)])), (a0, .inl (κ 0, 21375, .inl ga0_15)), (a1, .inl (κ 0, 21375, .inl ga1_15))] H := hP
        have hD : va_D A [(m0, .inr (12, [.ref a0, .ref a1, .ref a2, .int 0, .int 1, .ref a5, .int (nI u6), .int f7, .int f8, .int f9, .int f10, .int (nI u11), .int (nI u12), .int (nI u13), .ref a14, .ref a15, .ref a16, .ref a17, .int f18, .int f19, .ref a20, .ref a21, .int (nI u22), .ref a23, .ref a24, .ref a25, .int (nI u26), .int f27, .ref a28, .int (nI u29)])), (a0, .inl (κ 0, 21375, .inl ga0_15)), (a1, .inl (κ 0, 21375, .inl ga1_15))] := hD
        refine lv_iconst (v := 1) hx hb dX12_image_73 (by decide) ?_
        exact ct_iret hx hb hr hlk rfl hS hP hD (1, 0, 1, ga0_15, ga1_15) rfl ⟨(show 0 ≤ 6 from (by first | assumption | omega | rfl | exact Or.inl (by assumption) | exact Or.inr (by assumption))), (show Pw ga0_15 from (by first | assumption | omega | rfl | exact Or.inl (by assumption) | exact Or.inr (by assumption))), (show Pw ga1_15 from (by first | assumption | omega | rfl | exact Or.inl (by assumption) | exact Or.inr (by assumption))), (by exact Or.inl (⟨rfl, (show (1 : Int32) = 1 from (by first | assumption | omega | rfl | exact Or.inl (by assumption) | exact Or.inr (by assumption))), (show za ≠ 0 ∨ f4 ≠ 0 from (by first | assumption | omega | rfl | exact Or.inl (by assumption) | exact Or.inr (by assumption)))⟩))⟩ [0, 1, 2] rfl (by decide) trivial (Nat.le_of_ble_eq_true rfl) (Nat.le_of_ble_eq_true rfl) dX12_image_74
      · have nc_9 := cv_nle (a := 21375) (b := k2_15) (by omega) (by omega) c_9
        refine lv_iload_n hx hb dX12_image_22 rfl (lv_at hl 2 rfl) ?_
        refine lv_if_eq (tgt := 41) hx hb dX12_image_23 (by decide) (fun c_11 => ?_) (fun c_11 => absurd c_1 c_11)
        refine lv_aload_n hx hb dX12_image_41 rfl (lv_at hl 1 rfl) ?_
        refine va_get (D := D) (ci := 12) (v := .ref a0) (C := RX12) (T := TX12) (N := 30) hx hb hts inlX12 hown hK hP 0 rfl rfl 0 (by decide) (hts _ mw_187) (fun _ h9 => h9) rfl dX12_image_42 ?_
        refine lv_iload_n hx hb dX12_image_45 rfl (lv_at hl 0 rfl) ?_
        refine lv_aload_n hx hb dX12_image_46 rfl (lv_at hl 1 rfl) ?_
        refine va_get (D := D) (ci := 12) (v := .ref a1) (C := RX12) (T := TX12) (N := 30) hx hb hts inlX12 hown hK hP 0 rfl rfl 1 (by decide) (hts _ mw_188) (fun _ h9 => h9) rfl dX12_image_47 ?_
        refine lv_iload_n hx hb dX12_image_50 rfl (lv_at hl 0 rfl) ?_
        refine va_iald hx hb hK hP 2 0 rfl rfl (i := nI k2_15) (vp_in_nI (n := k2_15) (by omega) (by omega)) dX12_image_51 ?_
        refine kv (v := .int (ga1_15 k2_15)) (by rw [nI_clamp (by omega)]) ?_
        obtain ⟨x_12, ex_12⟩ : ∃ y9 : Int32, ga1_15 k2_15 = y9 := ⟨_, rfl⟩
        refine kv (v := .int x_12) (congrArg Value.int ex_12) ?_
        refine va_iast hx hb hK hP hD hS 1 0 rfl rfl (i := nI k2_15) (x := x_12) (vp_in_nI (n := k2_15) (by omega) (by omega)) dX12_image_52 (fun H locs hP hD hS => ?_)
        rw [nI_clamp (by omega)] at hP hD
        have hP : va_P D vwCl [(m0, .inr (12, [.ref a0, .ref a1, .ref a2, .int (nI u3), .int f4, .ref a5, .int (nI u6), .int f7, .int f8, .int f9, .int f10, .int (nI u11), .int (nI u12), .int (nI u13), .ref a14, .ref a15, .ref a16, .ref a17, .int f18, .int f19, .ref a20, .ref a21, .int (nI u22), .ref a23, .ref a24, .ref a25, .int (nI u26), .int f27, .ref a28, .int (nI u29)])), (a0, .inl (κ 0, 21375, .inl (upd ga0_15 k2_15 x_12))), (a1, .inl (κ 0, 21375, .inl ga1_15))] H := hP
        have hD : va_D A [(m0, .inr (12, [.ref a0, .ref a1, .ref a2, .int (nI u3), .int f4, .ref a5, .int (nI u6), .int f7, .int f8, .int f9, .int f10, .int (nI u11), .int (nI u12), .int (nI u13), .ref a14, .ref a15, .ref a16, .ref a17, .int f18, .int f19, .ref a20, .ref a21, .int (nI u22), .ref a23, .ref a24, .ref a25, .int (nI u26), .int f27, .ref a28, .int (nI u29)])), (a0, .inl (κ 0, 21375, .inl (upd ga0_15 k2_15 x_12))), (a1, .inl (κ 0, 21375, .inl ga1_15))] := hD
        have hf_14 : Pw (upd ga0_15 k2_15 x_12) := (Pw_copyE hg15_0 hg15_1 ex_12)
        generalize upd ga0_15 k2_15 x_12 = g_13 at hP hD hf_14
        refine lv_iinc (v := (nI (k2_15 + 1))) (lv' := [(2, .int (nI (k2_15 + 1))), (0, .ref m0), (1, .int za)]) hx hb dX12_image_53 hl (k := 0) rfl (nI_i k2_15) (by decide) rfl (fun ls hl => ?_)
        refine lv_goto (tgt := 15) hx hb dX12_image_56 (by decide) ?_
        exact ih15 _ _ _ _ (by omega) ⟨(k2_15 + 1), g_13, ga1_15, (by omega), hf_14, hg15_1, rfl, hP, hD, hS, lv_sub hl [0, 1, 2] rfl⟩
    · refine lv_iconst (v := 0) hx hb dX12_image_11 (by decide) ?_
      exact ct_iret hx hb hr hlk rfl hS hP hD (0, u3, f4, w, kp) rfl ⟨(show u3 ≤ 6 from (by first | assumption | omega | rfl | exact Or.inl (by assumption) | exact Or.inr (by assumption))), (show Pw w from (by first | assumption | omega | rfl | exact Or.inl (by assumption) | exact Or.inr (by assumption))), (show Pw kp from (by first | assumption | omega | rfl | exact Or.inl (by assumption) | exact Or.inr (by assumption))), (by exact Or.inr ((⟨rfl, (show f4 = f4 from (by first | assumption | omega | rfl | exact Or.inl (by assumption) | exact Or.inr (by assumption))), (show za = 0 from (by first | assumption | omega | rfl | exact Or.inl (by assumption) | exact Or.inr (by assumption))), (show f4 = 0 from (by first | assumption | omega | rfl | exact Or.inl (by assumption) | exact Or.inr (by assumption)))⟩)))⟩ [0, 1, 2] rfl (by decide) trivial (Nat.le_of_ble_eq_true rfl) (Nat.le_of_ble_eq_true rfl) dX12_image_12
set_option maxHeartbeats 4000000 in
set_option maxRecDepth 100000 in
theorem s_X12_look (l : Launch) (D : va_G) (κ : Nat → ClassId) (m0 : Nat) (a0 : Nat) (a1 : Nat) (a2 : Nat) (u3 : Nat) (f4 : Int32) (a5 : Nat) (u6 : Nat) (f7 : Int32) (f8 : Int32) (f9 : Int32) (f10 : Int32) (u11 : Nat) (u12 : Nat) (u13 : Nat) (a14 : Nat) (a15 : Nat) (a16 : Nat) (a17 : Nat) (f18 : Int32) (f19 : Int32) (a20 : Nat) (a21 : Nat) (u22 : Nat) (a23 : Nat) (a24 : Nat) (a25 : Nat) (u26 : Nat) (f27 : Int32) (a28 : Nat) (u29 : Nat) (w : Nat → Int32) (za : Int32) (h_a0 : Pw w) : Cr l yX12_look (wl yX12_look cX12_look 4 (some .int)) { frames := 1, cells := 0, slots := 0, locals := 25 } D κ [.ref m0, .int za] (va_P D vwCl [(m0, .inr (12, [.ref a0, .ref a1, .ref a2, .int (nI u3), .int f4, .ref a5, .int (nI u6), .int f7, .int f8, .int f9, .int f10, .int (nI u11), .int (nI u12), .int (nI u13), .ref a14, .ref a15, .ref a16, .ref a17, .int f18, .int f19, .ref a20, .ref a21, .int (nI u22), .ref a23, .ref a24, .ref a25, .int (nI u26), .int f27, .ref a28, .int (nI u29)])), (a0, .inl (κ 0, 21375, .inl w))]) (fun r : Int32 => some (.int r)) (fun r : Int32 => True) := by
  refine cr_of (by decide +kernel) (Nat.le_of_ble_eq_true rfl) ?_
  intro p e s m args below meth c ls hx hb hr hml hts hown hlk hKK hK hI hl
  have hP : va_P D vwCl [(m0, .inr (12, [.ref a0, .ref a1, .ref a2, .int (nI u3), .int f4, .ref a5, .int (nI u6), .int f7, .int f8, .int f9, .int f10, .int (nI u11), .int (nI u12), .int (nI u13), .ref a14, .ref a15, .ref a16, .ref a17, .int f18, .int f19, .ref a20, .ref a21, .int (nI u22), .ref a23, .ref a24, .ref a25, .int (nI u26), .int f27, .ref a28, .int (nI u29)])), (a0, .inl (κ 0, 21375, .inl w))] s.heap := hI
  have hFX : FX p s m args c cX12_look 4 RX12 := ⟨hx, hb, hml, hown, hts⟩
  have hl : lv_has ls 4 [(0, .ref m0), (1, .int za)] := hl
  refine lv_iload_n hx hb dX12_look_0 rfl (lv_at hl 1 rfl) ?_
  refine lv_i2l (v := za.toInt64) hx hb dX12_look_1 rfl ?_
  refine lv_lconst (v := 0) hx hb dX12_look_2 (by decide) ?_
  refine lv_ldc2 hx hb hown (hts _ mw_772) dX12_look_3 ?_
  refine cr_S (As := [.long za.toInt64, .long 0, .long 5]) (rest := []) hFX hKK (s_X12_isIn l D κ za.toInt64 0 5) 3 gS_X12_62 hdS_X12_isIn rfl rfl ⟨Nat.le_of_ble_eq_true rfl, Nat.le_of_ble_eq_true rfl⟩ rfl rfl (Nat.le_of_ble_eq_true rfl) dX12_look_6 ⟨Nat.le_of_ble_eq_true rfl, Nat.le_of_ble_eq_true rfl⟩ hl.1 (hP.sub [] rfl) (fun r__1 hp_2 => ?_)
  replace hp_2 : ((r__1 = 1 ∧ ¬ lg_cmp za.toInt64 (0 : Int64) < 0 ∧ ¬ 0 < lg_cmp za.toInt64 (5 : Int64)) ∨ (r__1 = 0 ∧ (lg_cmp za.toInt64 (0 : Int64) < 0 ∨ 0 < lg_cmp za.toInt64 (5 : Int64)))) := hp_2
  have ha_3 := hp_2
  clear hp_2
  rcases ha_3 with ⟨rfl, a_4, a_5⟩ | ⟨rfl, a_6⟩
  · refine W.eq (g2 := F0 m 9 ls [.int 1]) rfl ?_
    have hin_7 : (0 : Int) ≤ za.toInt ∧ za.toInt ≤ (5 : Int) := l_in (l_of rfl) (by decide) (by decide) a_4 a_5
    obtain ⟨j_8, hj_8, rfl⟩ : ∃ j9 : Nat, (j9 : Int) ≤ (5 : Int) ∧ za = nI j9 := i_nat (by omega) (by omega)
    refine lv_if_eq (tgt := 23) hx hb dX12_look_9 (by decide) (fun c_9 => absurd c_9 (by decide)) (fun c_9 => ?_)
    refine lv_aload_n hx hb dX12_look_12 rfl (lv_at hl 0 rfl) ?_
    refine va_get (D := D) (ci := 12) (v := .ref a0) (C := RX12) (T := TX12) (N := 30) hx hb hts inlX12 hown hK hP 0 rfl rfl 0 (by decide) (hts _ mw_187) (fun _ h9 => h9) rfl dX12_look_13 ?_
    refine lv_sipush (v := 21369) hx hb dX12_look_16 (by decide) ?_
    refine lv_iload_n hx hb dX12_look_19 rfl (lv_at hl 1 rfl) ?_
    refine lv_iadd hx hb dX12_look_20 ?_
    refine ki (v := (nI (21369 + j_8))) (nI_add 21369 j_8) ?_
    refine va_iald hx hb hK hP 1 0 rfl rfl (i := nI (21369 + j_8)) (vp_in_nI (n := (21369 + j_8)) (by omega) (by omega)) dX12_look_21 ?_
    refine kv (v := .int (w (21369 + j_8))) (by rw [nI_clamp (by omega)]) ?_
    obtain ⟨x_10, ex_10⟩ : ∃ y9 : Int32, w (21369 + j_8) = y9 := ⟨_, rfl⟩
    refine kv (v := .int x_10) (congrArg Value.int ex_10) ?_
    exact cr_iret hx hb hr hlk rfl x_10 rfl trivial dX12_look_22
  · refine W.eq (g2 := F0 m 9 ls [.int 0]) rfl ?_
    have hin_11 : za.toInt < (0 : Int) ∨ (5 : Int) < za.toInt := l_out (l_of rfl) (by decide) (by decide) a_6
    refine lv_if_eq (tgt := 23) hx hb dX12_look_9 (by decide) (fun c_12 => ?_) (fun c_12 => absurd (by decide) c_12)
    refine lv_iconst (v := 0) hx hb dX12_look_23 (by decide) ?_
    refine lv_istore_n (lv' := [(2, .int 0), (0, .ref m0), (1, .int za)]) hx hb dX12_look_24 rfl hl (by decide) rfl (fun ls hl => ?_)
    refine lv_iload_n hx hb dX12_look_25 rfl (lv_at hl 2 rfl) ?_
    rcases Classical.em (za.toInt < 6 ∨ 10 < za.toInt) with c_13 | c_13
    · refine lv_tableOut (tgt := 144) hx hb dX12_look_26 c_13 (by decide) ?_
      refine lv_iconst (v := (-1)) hx hb dX12_look_144 (by decide) ?_
      exact cr_iret hx hb hr hlk rfl (-1) rfl trivial dX12_look_145
    · have e_14 : za = 6 ∨ za = 7 ∨ za = 8 ∨ za = 9 ∨ za = 10 := by
        have q1 : ¬ za.toInt < 6 := fun h => c_13 (Or.inl h)
        have q2 : ¬ 10 < za.toInt := fun h => c_13 (Or.inr h)
        have q3 : ∀ v : Int32, za.toInt = v.toInt → za = v := fun v h => Int32.toInt_inj.mp h
        rcases (show za.toInt = 6 ∨ za.toInt = 7 ∨ za.toInt = 8 ∨ za.toInt = 9 ∨ za.toInt = 10 by omega) with h | h | h | h | h
        · exact Or.inl (q3 6 (h.trans (by decide)))
        · exact Or.inr (Or.inl (q3 7 (h.trans (by decide))))
        · exact Or.inr (Or.inr (Or.inl (q3 8 (h.trans (by decide)))))
        · exact Or.inr (Or.inr (Or.inr (Or.inl (q3 9 (h.trans (by decide))))))
        · exact Or.inr (Or.inr (Or.inr (Or.inr ((q3 10 (h.trans (by decide)))))))
      clear c_13
      rcases e_14 with rfl | rfl | rfl | rfl | rfl
      · refine lv_tableIn (tgt := 60) hx hb dX12_look_26 (by decide) (by decide) rfl (by decide) ?_
        refine lv_iconst (v := 0) hx hb dX12_look_60 (by decide) ?_
        refine lv_istore_n (lv' := [(3, .int 0), (2, .int 0), (0, .ref m0), (1, .int 6)]) hx hb dX12_look_61 rfl hl (by decide) rfl (fun ls hl => ?_)
        refine loop_r (fun k9 ls => ∃ (k3_62 : Nat), ∃ (k2_62 : Int32), (k3_62 ≤ 3) ∧ 3 - k3_62 = k9 ∧ lv_has ls 4 [(3, .int (nI k3_62)), (2, .int k2_62), (0, .ref m0), (1, .int 6)]) (fun k9 ls hI62 ih62 => ?_) (3 - 0) _ ⟨0, 0, (by omega), rfl, lv_sub hl [0, 1, 2, 3] rfl⟩
        obtain ⟨k3_62, k2_62, hl62_0, hm62, hl⟩ := hI62
        refine lv_iload_n hx hb dX12_look_62 rfl (lv_at hl 0 rfl) ?_
        refine lv_iconst (v := 3) hx hb dX12_look_63 (by decide) ?_
        refine lv_icmp_ge (tgt := 88) hx hb dX12_look_64 (by decide) (fun c_15 => ?_) (fun c_15 => ?_)
        · have nc_15 := cv_le (a := 3) (b := k3_62) (by omega) (by omega) c_15
          refine lv_iload_n hx hb dX12_look_88 rfl (lv_at hl 1 rfl) ?_
          exact cr_iret hx hb hr hlk rfl k2_62 rfl trivial dX12_look_89
        · have nc_15 := cv_nle (a := 3) (b := k3_62) (by omega) (by omega) c_15
          refine lv_iload_n hx hb dX12_look_67 rfl (lv_at hl 1 rfl) ?_
          refine lv_aload_n hx hb dX12_look_68 rfl (lv_at hl 2 rfl) ?_
          refine va_get (D := D) (ci := 12) (v := .ref a0) (C := RX12) (T := TX12) (N := 30) hx hb hts inlX12 hown hK hP 0 rfl rfl 0 (by decide) (hts _ mw_187) (fun _ h9 => h9) rfl dX12_look_69 ?_
          refine lv_iload_n hx hb dX12_look_72 rfl (lv_at hl 0 rfl) ?_
          refine lv_iconst (v := 0) hx hb dX12_look_73 (by decide) ?_
          refine cr_S (As := [.int (nI k3_62), .int 0]) (rest := [.ref a0, .int k2_62]) hFX hKK (s_X12_at l D κ k3_62 0) 2 gS_X12_66 hdS_X12_at rfl rfl ⟨Nat.le_of_ble_eq_true rfl, Nat.le_of_ble_eq_true rfl⟩ rfl rfl (Nat.le_of_ble_eq_true rfl) dX12_look_74 ⟨Nat.le_of_ble_eq_true rfl, Nat.le_of_ble_eq_true rfl⟩ hl.1 (hP.sub [] rfl) (fun _ hp_16 => ?_)
          refine W.eq (g2 := F0 m 77 ls [.int (nI (7123 * k3_62 + 0)), .ref a0, .int k2_62]) rfl ?_
          refine va_iald hx hb hK hP 1 0 rfl rfl (i := nI (7123 * k3_62 + 0)) (vp_in_nI (n := (7123 * k3_62 + 0)) (by omega) (by omega)) dX12_look_77 ?_
          refine kv (v := .int (w (7123 * k3_62 + 0))) (by rw [nI_clamp (by omega)]) ?_
          obtain ⟨x_17, ex_17⟩ : ∃ y9 : Int32, w (7123 * k3_62 + 0) = y9 := ⟨_, rfl⟩
          refine kv (v := .int x_17) (congrArg Value.int ex_17) ?_
          refine lv_iload_n hx hb dX12_look_78 rfl (lv_at hl 0 rfl) ?_
          refine lv_ishl hx hb dX12_look_79 ?_
          refine lv_topi (fun x_18 ex_18 => ?_)
          refine lv_ior hx hb dX12_look_80 ?_
          refine lv_topi (fun x_19 ex_19 => ?_)
          refine lv_istore_n (lv' := [(2, .int x_19), (3, .int (nI k3_62)), (0, .ref m0), (1, .int 6)]) hx hb dX12_look_81 rfl hl (by decide) rfl (fun ls hl => ?_)
          refine lv_iinc (v := (nI (k3_62 + 1))) (lv' := [(3, .int (nI (k3_62 + 1))), (2, .int x_19), (0, .ref m0), (1, .int 6)]) hx hb dX12_look_82 hl (k := 1) rfl (nI_i k3_62) (by decide) rfl (fun ls hl => ?_)
          refine lv_goto (tgt := 62) hx hb dX12_look_85 (by decide) ?_
          exact ih62 _ _ (by omega) ⟨(k3_62 + 1), x_19, (by omega), rfl, lv_sub hl [0, 1, 2, 3] rfl⟩
      · refine lv_tableIn (tgt := 90) hx hb dX12_look_26 (by decide) (by decide) rfl (by decide) ?_
        refine lv_aload_n hx hb dX12_look_90 rfl (lv_at hl 1 rfl) ?_
        refine va_get (D := D) (ci := 12) (v := .int (nI u3)) (C := RX12) (T := TX12) (N := 30) hx hb hts inlX12 hown hK hP 0 rfl rfl 3 (by decide) (hts _ mw_533) (fun _ h9 => h9) rfl dX12_look_91 ?_
        exact cr_iret hx hb hr hlk rfl (nI u3) rfl trivial dX12_look_94
      · refine lv_tableIn (tgt := 95) hx hb dX12_look_26 (by decide) (by decide) rfl (by decide) ?_
        refine lv_aload_n hx hb dX12_look_95 rfl (lv_at hl 1 rfl) ?_
        refine va_get (D := D) (ci := 12) (v := .int (nI u6)) (C := RX12) (T := TX12) (N := 30) hx hb hts inlX12 hown hK hP 0 rfl rfl 6 (by decide) (hts _ mw_236) (fun _ h9 => h9) rfl dX12_look_96 ?_
        exact cr_iret hx hb hr hlk rfl (nI u6) rfl trivial dX12_look_99
      · refine lv_tableIn (tgt := 100) hx hb dX12_look_26 (by decide) (by decide) rfl (by decide) ?_
        refine lv_iconst (v := 0) hx hb dX12_look_100 (by decide) ?_
        refine lv_istore_n (lv' := [(3, .int 0), (2, .int 0), (0, .ref m0), (1, .int 9)]) hx hb dX12_look_101 rfl hl (by decide) rfl (fun ls hl => ?_)
        refine loop_r (fun k9 ls => ∃ (k3_102 : Nat), ∃ (k2_102 : Int32), (k3_102 ≤ 3) ∧ 3 - k3_102 = k9 ∧ lv_has ls 4 [(3, .int (nI k3_102)), (2, .int k2_102), (0, .ref m0), (1, .int 9)]) (fun k9 ls hI102 ih102 => ?_) (3 - 0) _ ⟨0, 0, (by omega), rfl, lv_sub hl [0, 1, 2, 3] rfl⟩
        obtain ⟨k3_102, k2_102, hl102_0, hm102, hl⟩ := hI102
        refine lv_iload_n hx hb dX12_look_102 rfl (lv_at hl 0 rfl) ?_
        refine lv_iconst (v := 3) hx hb dX12_look_103 (by decide) ?_
        refine lv_icmp_ge (tgt := 137) hx hb dX12_look_104 (by decide) (fun c_20 => ?_) (fun c_20 => ?_)
        · have nc_20 := cv_le (a := 3) (b := k3_102) (by omega) (by omega) c_20
          refine lv_iload_n hx hb dX12_look_137 rfl (lv_at hl 1 rfl) ?_
          exact cr_iret hx hb hr hlk rfl k2_102 rfl trivial dX12_look_138
        · have nc_20 := cv_nle (a := 3) (b := k3_102) (by omega) (by omega) c_20
          refine lv_iload_n hx hb dX12_look_107 rfl (lv_at hl 1 rfl) ?_
          refine lv_aload_n hx hb dX12_look_108 rfl (lv_at hl 2 rfl) ?_
          refine va_get (D := D) (ci := 12) (v := .ref a0) (C := RX12) (T := TX12) (N := 30) hx hb hts inlX12 hown hK hP 0 rfl rfl 0 (by decide) (hts _ mw_187) (fun _ h9 => h9) rfl dX12_look_109 ?_
          refine lv_iload_n hx hb dX12_look_112 rfl (lv_at hl 0 rfl) ?_
          refine lv_iconst (v := 1) hx hb dX12_look_113 (by decide) ?_
          refine cr_S (As := [.int (nI k3_102), .int 1]) (rest := [.ref a0, .int k2_102]) hFX hKK (s_X12_at l D κ k3_102 1) 2 gS_X12_66 hdS_X12_at rfl rfl ⟨Nat.le_of_ble_eq_true rfl, Nat.le_of_ble_eq_true rfl⟩ rfl rfl (Nat.le_of_ble_eq_true rfl) dX12_look_114 ⟨Nat.le_of_ble_eq_true rfl, Nat.le_of_ble_eq_true rfl⟩ hl.1 (hP.sub [] rfl) (fun _ hp_21 => ?_)
          refine W.eq (g2 := F0 m 117 ls [.int (nI (7123 * k3_102 + 1)), .ref a0, .int k2_102]) rfl ?_
          refine va_iald hx hb hK hP 1 0 rfl rfl (i := nI (7123 * k3_102 + 1)) (vp_in_nI (n := (7123 * k3_102 + 1)) (by omega) (by omega)) dX12_look_117 ?_
          refine kv (v := .int (w (7123 * k3_102 + 1))) (by rw [nI_clamp (by omega)]) ?_
          obtain ⟨n_22, hn_22, en_22⟩ : ∃ n9 : Nat, n9 ≤ 8 ∧ w (7123 * k3_102 + 1) = nI n9 := id (h_a0 _ _ (mN (t := k3_102) (by omega) (by omega)))
          refine kv (v := .int (nI n_22)) (congrArg Value.int en_22) ?_
          refine lv_aload_n hx hb dX12_look_118 rfl (lv_at hl 2 rfl) ?_
          refine va_get (D := D) (ci := 12) (v := .ref a0) (C := RX12) (T := TX12) (N := 30) hx hb hts inlX12 hown hK hP 0 rfl rfl 0 (by decide) (hts _ mw_187) (fun _ h9 => h9) rfl dX12_look_119 ?_
          refine lv_iload_n hx hb dX12_look_122 rfl (lv_at hl 0 rfl) ?_
          refine lv_iconst (v := 2) hx hb dX12_look_123 (by decide) ?_
          refine cr_S (As := [.int (nI k3_102), .int 2]) (rest := [.ref a0, .int (nI n_22), .int k2_102]) hFX hKK (s_X12_at l D κ k3_102 2) 2 gS_X12_66 hdS_X12_at rfl rfl ⟨Nat.le_of_ble_eq_true rfl, Nat.le_of_ble_eq_true rfl⟩ rfl rfl (Nat.le_of_ble_eq_true rfl) dX12_look_124 ⟨Nat.le_of_ble_eq_true rfl, Nat.le_of_ble_eq_true rfl⟩ hl.1 (hP.sub [] rfl) (fun _ hp_23 => ?_)
          refine W.eq (g2 := F0 m 127 ls [.int (nI (7123 * k3_102 + 2)), .ref a0, .int (nI n_22), .int k2_102]) rfl ?_
          refine va_iald hx hb hK hP 1 0 rfl rfl (i := nI (7123 * k3_102 + 2)) (vp_in_nI (n := (7123 * k3_102 + 2)) (by omega) (by omega)) dX12_look_127 ?_
          refine kv (v := .int (w (7123 * k3_102 + 2))) (by rw [nI_clamp (by omega)]) ?_
          obtain ⟨n_24, hn_24, en_24⟩ : ∃ n9 : Nat, n9 ≤ 40 ∧ w (7123 * k3_102 + 2) = nI n9 := id (h_a0 _ _ (mMANY (t := k3_102) (by omega) (by omega)))
          refine kv (v := .int (nI n_24)) (congrArg Value.int en_24) ?_
          refine lv_imul hx hb dX12_look_128 ?_
          refine ki (v := (nI (n_22 * n_24))) (pk_mul n_22 n_24) ?_
          refine lv_iadd hx hb dX12_look_129 ?_
          refine lv_topi (fun x_25 ex_25 => ?_)
          refine lv_istore_n (lv' := [(2, .int x_25), (3, .int (nI k3_102)), (0, .ref m0), (1, .int 9)]) hx hb dX12_look_130 rfl hl (by decide) rfl (fun ls hl => ?_)
          refine lv_iinc (v := (nI (k3_102 + 1))) (lv' := [(3, .int (nI (k3_102 + 1))), (2, .int x_25), (0, .ref m0), (1, .int 9)]) hx hb dX12_look_131 hl (k := 1) rfl (nI_i k3_102) (by decide) rfl (fun ls hl => ?_)
          refine lv_goto (tgt := 102) hx hb dX12_look_134 (by decide) ?_
          exact ih102 _ _ (by omega) ⟨(k3_102 + 1), x_25, (by omega), rfl, lv_sub hl [0, 1, 2, 3] rfl⟩
      · refine lv_tableIn (tgt := 139) hx hb dX12_look_26 (by decide) (by decide) rfl (by decide) ?_
        refine lv_aload_n hx hb dX12_look_139 rfl (lv_at hl 1 rfl) ?_
        refine va_get (D := D) (ci := 12) (v := .int f10) (C := RX12) (T := TX12) (N := 30) hx hb hts inlX12 hown hK hP 0 rfl rfl 10 (by decide) (hts _ mw_528) (fun _ h9 => h9) rfl dX12_look_140 ?_
        exact cr_iret hx hb hr hlk rfl f10 rfl trivial dX12_look_143
set_option maxHeartbeats 4000000 in
set_option maxRecDepth 100000 in
theorem s_X12_comes (l : Launch) (D : va_G) (κ : Nat → ClassId) (m0 : Nat) (a0 : Nat) (a1 : Nat) (a2 : Nat) (u3 : Nat) (f4 : Int32) (a5 : Nat) (u6 : Nat) (f7 : Int32) (f8 : Int32) (f9 : Int32) (f10 : Int32) (u11 : Nat) (u12 : Nat) (u13 : Nat) (a14 : Nat) (a15 : Nat) (a16 : Nat) (a17 : Nat) (f18 : Int32) (f19 : Int32) (a20 : Nat) (a21 : Nat) (u22 : Nat) (a23 : Nat) (a24 : Nat) (a25 : Nat) (u26 : Nat) (f27 : Int32) (a28 : Nat) (u29 : Nat) (tp : Nat → Int32) (za : Int32) (h6 : u6 ≤ 796) : Ct l yX12_comes (wl yX12_comes cX12_comes 3 none) { frames := 0, cells := 0, slots := 0, locals := 0 } D κ [.ref m0, .int za] [(m0, .inr (12, [.ref a0, .ref a1, .ref a2, .int (nI u3), .int f4, .ref a5, .int (nI u6), .int f7, .int f8, .int f9, .int f10, .int (nI u11), .int (nI u12), .int (nI u13), .ref a14, .ref a15, .ref a16, .ref a17, .int f18, .int f19, .ref a20, .ref a21, .int (nI u22), .ref a23, .ref a24, .ref a25, .int (nI u26), .int f27, .ref a28, .int (nI u29)])), (a5, .inl (κ 0, 800, .inl tp))] (fun _ => True) (fun g_a5 : (Nat → Int32) => none) (fun g_a5 : (Nat → Int32) => True) (fun g_a5 : (Nat → Int32) => [(m0, .inr (12, [.ref a0, .ref a1, .ref a2, .int (nI u3), .int f4, .ref a5, .int (nI (u6 + 4)), .int f7, .int f8, .int f9, .int f10, .int (nI u11), .int (nI u12), .int (nI u13), .ref a14, .ref a15, .ref a16, .ref a17, .int f18, .int f19, .ref a20, .ref a21, .int (nI u22), .ref a23, .ref a24, .ref a25, .int (nI u26), .int f27, .ref a28, .int (nI u29)])), (a5, .inl (κ 0, 800, .inl g_a5))]) (fun _ _ => True) := by
  refine ct_of (by decide +kernel) (Nat.le_of_ble_eq_true rfl) ?_
  intro p e s m args below meth c A ls hx hb hr hml hts hown hlk hin hKK hK hA hP hD hS hI hl
  have hS : va_S A s.heap s.heap [] := hS
  have hFX : FX p s m args c cX12_comes 3 RX12 := ⟨hx, hb, hml, hown, hts⟩
  have hl : lv_has ls 3 [(0, .ref m0), (1, .int za)] := hl
  refine lv_bipush (v := 24) hx hb dX12_comes_0 (by decide) ?_
  refine lv_istore_n (lv' := [(2, .int 24), (0, .ref m0), (1, .int za)]) hx hb dX12_comes_2 rfl hl (by decide) rfl (fun ls hl => ?_)
  refine lv_iload_n hx hb dX12_comes_3 rfl (lv_at hl 0 rfl) ?_
  refine lv_if_lt (tgt := 39) hx hb dX12_comes_4 (by decide) (fun c_1 => absurd c_1 (by decide)) (fun c_1 => ?_)
  refine lv_aload_n hx hb dX12_comes_7 rfl (lv_at hl 1 rfl) ?_
  refine va_get (D := D) (ci := 12) (v := .ref a5) (C := RX12) (T := TX12) (N := 30) hx hb hts inlX12 hown hK hP 0 rfl rfl 5 (by decide) (hts _ mw_191) (fun _ h9 => h9) rfl dX12_comes_8 ?_
  refine lv_aload_n hx hb dX12_comes_11 rfl (lv_at hl 1 rfl) ?_
  refine va_get (D := D) (ci := 12) (v := .int (nI u6)) (C := RX12) (T := TX12) (N := 30) hx hb hts inlX12 hown hK hP 0 rfl rfl 6 (by decide) (hts _ mw_236) (fun _ h9 => h9) rfl dX12_comes_12 ?_
  refine lv_iload_n hx hb dX12_comes_15 rfl (lv_at hl 2 rfl) ?_
  refine lv_iload_n hx hb dX12_comes_16 rfl (lv_at hl 0 rfl) ?_
  obtain ⟨x_2, ex_2⟩ : ∃ v9 : Int32, (za.toUInt32 >>> (Int32.toUInt32 24 &&& Int32.toUInt32 31)).toInt32 = v9 := ⟨_, rfl⟩
  refine lv_iushr (v := x_2) hx hb dX12_comes_17 ex_2 ?_
  refine lv_sipush (v := 255) hx hb dX12_comes_18 (by decide) ?_
  refine lv_iand hx hb dX12_comes_21 ?_
  refine lv_topi (fun x_3 ex_3 => ?_)
  refine va_iast hx hb hK hP hD hS 1 0 rfl rfl (i := nI u6) (x := x_3) (vp_in_nI (n := u6) (by omega) (by omega)) dX12_comes_22 (fun H locs hP hD hS => ?_)
  rw [nI_clamp (by omega)] at hP hD
  have hP : va_P D vwCl [(m0, .inr (12, [.ref a0, .ref a1, .ref a2, .int (nI u3), .int f4, .ref a5, .int (nI u6), .int f7, .int f8, .int f9, .int f10, .int (nI u11), .int (nI u12), .int (nI u13), .ref a14, .ref a15, .ref a16, .ref a17, .int f18, .int f19, .ref a20, .ref a21, .int (nI u22), .ref a23, .ref a24, .ref a25, .int (nI u26), .int f27, .ref a28, .int (nI u29)])), (a5, .inl (κ 0, 800, .inl (upd tp u6 x_3)))] H := hP
  have hD : va_D A [(m0, .inr (12, [.ref a0, .ref a1, .ref a2, .int (nI u3), .int f4, .ref a5, .int (nI u6), .int f7, .int f8, .int f9, .int f10, .int (nI u11), .int (nI u12), .int (nI u13), .ref a14, .ref a15, .ref a16, .ref a17, .int f18, .int f19, .ref a20, .ref a21, .int (nI u22), .ref a23, .ref a24, .ref a25, .int (nI u26), .int f27, .ref a28, .int (nI u29)])), (a5, .inl (κ 0, 800, .inl (upd tp u6 x_3)))] := hD
  generalize upd tp u6 x_3 = g_4 at hP hD 
  refine lv_aload_n hx hb dX12_comes_23 rfl (lv_at hl 1 rfl) ?_
  refine lv_dup hx hb dX12_comes_24 rfl ?_
  refine va_get (D := D) (ci := 12) (v := .int (nI u6)) (C := RX12) (T := TX12) (N := 30) hx hb hts inlX12 hown hK hP 0 rfl rfl 6 (by decide) (hts _ mw_236) (fun _ h9 => h9) rfl dX12_comes_25 ?_
  refine lv_iconst (v := 1) hx hb dX12_comes_28 (by decide) ?_
  refine lv_iadd hx hb dX12_comes_29 ?_
  refine ki (v := (nI (u6 + 1))) (nI_add u6 1) ?_
  refine va_put (D := D) (ci := 12) (v := .int (nI (u6 + 1))) (ty := tyX12 6) (C := RX12) (T := TX12) (N := 30) hx hb hts inlX12 tyX12 tyX12_ok nmX12 hown hK hP hD hS 0 rfl rfl 6 (by decide) (hts _ mw_236) (fun _ h9 => h9) rfl (tyX12_ok 6 (by decide)) rfl rfl (Nat.le_of_ble_eq_true rfl) dX12_comes_30 (fun H locs hP hD hS => ?_)
  have hP : va_P D vwCl [(m0, .inr (12, [.ref a0, .ref a1, .ref a2, .int (nI u3), .int f4, .ref a5, .int (nI (u6 + 1)), .int f7, .int f8, .int f9, .int f10, .int (nI u11), .int (nI u12), .int (nI u13), .ref a14, .ref a15, .ref a16, .ref a17, .int f18, .int f19, .ref a20, .ref a21, .int (nI u22), .ref a23, .ref a24, .ref a25, .int (nI u26), .int f27, .ref a28, .int (nI u29)])), (a5, .inl (κ 0, 800, .inl g_4))] H := hP
  have hD : va_D A [(m0, .inr (12, [.ref a0, .ref a1, .ref a2, .int (nI u3), .int f4, .ref a5, .int (nI (u6 + 1)), .int f7, .int f8, .int f9, .int f10, .int (nI u11), .int (nI u12), .int (nI u13), .ref a14, .ref a15, .ref a16, .ref a17, .int f18, .int f19, .ref a20, .ref a21, .int (nI u22), .ref a23, .ref a24, .ref a25, .int (nI u26), .int f27, .ref a28, .int (nI u29)])), (a5, .inl (κ 0, 800, .inl g_4))] := hD
  refine lv_iinc (v := 16) (lv' := [(2, .int 16), (0, .ref m0), (1, .int za)]) hx hb dX12_comes_33 hl (k := 0) rfl (by decide) (by decide) rfl (fun ls hl => ?_)
  refine lv_goto (tgt := 3) hx hb dX12_comes_36 (by decide) ?_
  refine lv_iload_n hx hb dX12_comes_3 rfl (lv_at hl 0 rfl) ?_
  refine lv_if_lt (tgt := 39) hx hb dX12_comes_4 (by decide) (fun c_5 => absurd c_5 (by decide)) (fun c_5 => ?_)
  refine lv_aload_n hx hb dX12_comes_7 rfl (lv_at hl 1 rfl) ?_
  refine va_get (D := D) (ci := 12) (v := .ref a5) (C := RX12) (T := TX12) (N := 30) hx hb hts inlX12 hown hK hP 0 rfl rfl 5 (by decide) (hts _ mw_191) (fun _ h9 => h9) rfl dX12_comes_8 ?_
  refine lv_aload_n hx hb dX12_comes_11 rfl (lv_at hl 1 rfl) ?_
  refine va_get (D := D) (ci := 12) (v := .int (nI (u6 + 1))) (C := RX12) (T := TX12) (N := 30) hx hb hts inlX12 hown hK hP 0 rfl rfl 6 (by decide) (hts _ mw_236) (fun _ h9 => h9) rfl dX12_comes_12 ?_
  refine lv_iload_n hx hb dX12_comes_15 rfl (lv_at hl 2 rfl) ?_
  refine lv_iload_n hx hb dX12_comes_16 rfl (lv_at hl 0 rfl) ?_
  obtain ⟨x_6, ex_6⟩ : ∃ v9 : Int32, (za.toUInt32 >>> (Int32.toUInt32 16 &&& Int32.toUInt32 31)).toInt32 = v9 := ⟨_, rfl⟩
  refine lv_iushr (v := x_6) hx hb dX12_comes_17 ex_6 ?_
  refine lv_sipush (v := 255) hx hb dX12_comes_18 (by decide) ?_
  refine lv_iand hx hb dX12_comes_21 ?_
  refine lv_topi (fun x_7 ex_7 => ?_)
  refine va_iast hx hb hK hP hD hS 1 0 rfl rfl (i := nI (u6 + 1)) (x := x_7) (vp_in_nI (n := (u6 + 1)) (by omega) (by omega)) dX12_comes_22 (fun H locs hP hD hS => ?_)
  rw [nI_clamp (by omega)] at hP hD
  have hP : va_P D vwCl [(m0, .inr (12, [.ref a0, .ref a1, .ref a2, .int (nI u3), .int f4, .ref a5, .int (nI (u6 + 1)), .int f7, .int f8, .int f9, .int f10, .int (nI u11), .int (nI u12), .int (nI u13), .ref a14, .ref a15, .ref a16, .ref a17, .int f18, .int f19, .ref a20, .ref a21, .int (nI u22), .ref a23, .ref a24, .ref a25, .int (nI u26), .int f27, .ref a28, .int (nI u29)])), (a5, .inl (κ 0, 800, .inl (upd g_4 (u6 + 1) x_7)))] H := hP
  have hD : va_D A [(m0, .inr (12, [.ref a0, .ref a1, .ref a2, .int (nI u3), .int f4, .ref a5, .int (nI (u6 + 1)), .int f7, .int f8, .int f9, .int f10, .int (nI u11), .int (nI u12), .int (nI u13), .ref a14, .ref a15, .ref a16, .ref a17, .int f18, .int f19, .ref a20, .ref a21, .int (nI u22), .ref a23, .ref a24, .ref a25, .int (nI u26), .int f27, .ref a28, .int (nI u29)])), (a5, .inl (κ 0, 800, .inl (upd g_4 (u6 + 1) x_7)))] := hD
  generalize upd g_4 (u6 + 1) x_7 = g_8 at hP hD 
  refine lv_aload_n hx hb dX12_comes_23 rfl (lv_at hl 1 rfl) ?_
  refine lv_dup hx hb dX12_comes_24 rfl ?_
  refine va_get (D := D) (ci := 12) (v := .int (nI (u6 + 1))) (C := RX12) (T := TX12) (N := 30) hx hb hts inlX12 hown hK hP 0 rfl rfl 6 (by decide) (hts _ mw_236) (fun _ h9 => h9) rfl dX12_comes_25 ?_
  refine lv_iconst (v := 1) hx hb dX12_comes_28 (by decide) ?_
  refine lv_iadd hx hb dX12_comes_29 ?_
  refine ki (v := (nI (u6 + 1 + 1))) (nI_add (u6 + 1) 1) ?_
  refine va_put (D := D) (ci := 12) (v := .int (nI (u6 + 1 + 1))) (ty := tyX12 6) (C := RX12) (T := TX12) (N := 30) hx hb hts inlX12 tyX12 tyX12_ok nmX12 hown hK hP hD hS 0 rfl rfl 6 (by decide) (hts _ mw_236) (fun _ h9 => h9) rfl (tyX12_ok 6 (by decide)) rfl rfl (Nat.le_of_ble_eq_true rfl) dX12_comes_30 (fun H locs hP hD hS => ?_)
  have hP : va_P D vwCl [(m0, .inr (12, [.ref a0, .ref a1, .ref a2, .int (nI u3), .int f4, .ref a5, .int (nI (u6 + 1 + 1)), .int f7, .int f8, .int f9, .int f10, .int (nI u11), .int (nI u12), .int (nI u13), .ref a14, .ref a15, .ref a16, .ref a17, .int f18, .int f19, .ref a20, .ref a21, .int (nI u22), .ref a23, .ref a24, .ref a25, .int (nI u26), .int f27, .ref a28, .int (nI u29)])), (a5, .inl (κ 0, 800, .inl g_8))] H := hP
  have hD : va_D A [(m0, .inr (12, [.ref a0, .ref a1, .ref a2, .int (nI u3), .int f4, .ref a5, .int (nI (u6 + 1 + 1)), .int f7, .int f8, .int f9, .int f10, .int (nI u11), .int (nI u12), .int (nI u13), .ref a14, .ref a15, .ref a16, .ref a17, .int f18, .int f19, .ref a20, .ref a21, .int (nI u22), .ref a23, .ref a24, .ref a25, .int (nI u26), .int f27, .ref a28, .int (nI u29)])), (a5, .inl (κ 0, 800, .inl g_8))] := hD
  refine lv_iinc (v := 8) (lv' := [(2, .int 8), (0, .ref m0), (1, .int za)]) hx hb dX12_comes_33 hl (k := 0) rfl (by decide) (by decide) rfl (fun ls hl => ?_)
  refine lv_goto (tgt := 3) hx hb dX12_comes_36 (by decide) ?_
  refine lv_iload_n hx hb dX12_comes_3 rfl (lv_at hl 0 rfl) ?_
  refine lv_if_lt (tgt := 39) hx hb dX12_comes_4 (by decide) (fun c_9 => absurd c_9 (by decide)) (fun c_9 => ?_)
  refine lv_aload_n hx hb dX12_comes_7 rfl (lv_at hl 1 rfl) ?_
  refine va_get (D := D) (ci := 12) (v := .ref a5) (C := RX12) (T := TX12) (N := 30) hx hb hts inlX12 hown hK hP 0 rfl rfl 5 (by decide) (hts _ mw_191) (fun _ h9 => h9) rfl dX12_comes_8 ?_
  refine lv_aload_n hx hb dX12_comes_11 rfl (lv_at hl 1 rfl) ?_
  refine va_get (D := D) (ci := 12) (v := .int (nI (u6 + 1 + 1))) (C := RX12) (T := TX12) (N := 30) hx hb hts inlX12 hown hK hP 0 rfl rfl 6 (by decide) (hts _ mw_236) (fun _ h9 => h9) rfl dX12_comes_12 ?_
  refine lv_iload_n hx hb dX12_comes_15 rfl (lv_at hl 2 rfl) ?_
  refine lv_iload_n hx hb dX12_comes_16 rfl (lv_at hl 0 rfl) ?_
  obtain ⟨x_10, ex_10⟩ : ∃ v9 : Int32, (za.toUInt32 >>> (Int32.toUInt32 8 &&& Int32.toUInt32 31)).toInt32 = v9 := ⟨_, rfl⟩
  refine lv_iushr (v := x_10) hx hb dX12_comes_17 ex_10 ?_
  refine lv_sipush (v := 255) hx hb dX12_comes_18 (by decide) ?_
  refine lv_iand hx hb dX12_comes_21 ?_
  refine lv_topi (fun x_11 ex_11 => ?_)
  refine va_iast hx hb hK hP hD hS 1 0 rfl rfl (i := nI (u6 + 1 + 1)) (x := x_11) (vp_in_nI (n := (u6 + 1 + 1)) (by omega) (by omega)) dX12_comes_22 (fun H locs hP hD hS => ?_)
  rw [nI_clamp (by omega)] at hP hD
  have hP : va_P D vwCl [(m0, .inr (12, [.ref a0, .ref a1, .ref a2, .int (nI u3), .int f4, .ref a5, .int (nI (u6 + 1 + 1)), .int f7, .int f8, .int f9, .int f10, .int (nI u11), .int (nI u12), .int (nI u13), .ref a14, .ref a15, .ref a16, .ref a17, .int f18, .int f19, .ref a20, .ref a21, .int (nI u22), .ref a23, .ref a24, .ref a25, .int (nI u26), .int f27, .ref a28, .int (nI u29)])), (a5, .inl (κ 0, 800, .inl (upd g_8 (u6 + 1 + 1) x_11)))] H := hP
  have hD : va_D A [(m0, .inr (12, [.ref a0, .ref a1, .ref a2, .int (nI u3), .int f4, .ref a5, .int (nI (u6 + 1 + 1)), .int f7, .int f8, .int f9, .int f10, .int (nI u11), .int (nI u12), .int (nI u13), .ref a14, .ref a15, .ref a16, .ref a17, .int f18, .int f19, .ref a20, .ref a21, .int (nI u22), .ref a23, .ref a24, .ref a25, .int (nI u26), .int f27, .ref a28, .int (nI u29)])), (a5, .inl (κ 0, 800, .inl (upd g_8 (u6 + 1 + 1) x_11)))] := hD
  generalize upd g_8 (u6 + 1 + 1) x_11 = g_12 at hP hD 
  refine lv_aload_n hx hb dX12_comes_23 rfl (lv_at hl 1 rfl) ?_
  refine lv_dup hx hb dX12_comes_24 rfl ?_
  refine va_get (D := D) (ci := 12) (v := .int (nI (u6 + 1 + 1))) (C := RX12) (T := TX12) (N := 30) hx hb hts inlX12 hown hK hP 0 rfl rfl 6 (by decide) (hts _ mw_236) (fun _ h9 => h9) rfl dX12_comes_25 ?_
  refine lv_iconst (v := 1) hx hb dX12_comes_28 (by decide) ?_
  refine lv_iadd hx hb dX12_comes_29 ?_
  refine ki (v := (nI (u6 + 1 + 1 + 1))) (nI_add (u6 + 1 + 1) 1) ?_
  refine va_put (D := D) (ci := 12) (v := .int (nI (u6 + 1 + 1 + 1))) (ty := tyX12 6) (C := RX12) (T := TX12) (N := 30) hx hb hts inlX12 tyX12 tyX12_ok nmX12 hown hK hP hD hS 0 rfl rfl 6 (by decide) (hts _ mw_236) (fun _ h9 => h9) rfl (tyX12_ok 6 (by decide)) rfl rfl (Nat.le_of_ble_eq_true rfl) dX12_comes_30 (fun H locs hP hD hS => ?_)
  have hP : va_P D vwCl [(m0, .inr (12, [.ref a0, .ref a1, .ref a2, .int (nI u3), .int f4, .ref a5, .int (nI (u6 + 1 + 1 + 1)), .int f7, .int f8, .int f9, .int f10, .int (nI u11), .int (nI u12), .int (nI u13), .ref a14, .ref a15, .ref a16, .ref a17, .int f18, .int f19, .ref a20, .ref a21, .int (nI u22), .ref a23, .ref a24, .ref a25, .int (nI u26), .int f27, .ref a28, .int (nI u29)])), (a5, .inl (κ 0, 800, .inl g_12))] H := hP
  have hD : va_D A [(m0, .inr (12, [.ref a0, .ref a1, .ref a2, .int (nI u3), .int f4, .ref a5, .int (nI (u6 + 1 + 1 + 1)), .int f7, .int f8, .int f9, .int f10, .int (nI u11), .int (nI u12), .int (nI u13), .ref a14, .ref a15, .ref a16, .ref a17, .int f18, .int f19, .ref a20, .ref a21, .int (nI u22), .ref a23, .ref a24, .ref a25, .int (nI u26), .int f27, .ref a28, .int (nI u29)])), (a5, .inl (κ 0, 800, .inl g_12))] := hD
  refine lv_iinc (v := 0) (lv' := [(2, .int 0), (0, .ref m0), (1, .int za)]) hx hb dX12_comes_33 hl (k := 0) rfl (by decide) (by decide) rfl (fun ls hl => ?_)
  refine lv_goto (tgt := 3) hx hb dX12_comes_36 (by decide) ?_
  refine lv_iload_n hx hb dX12_comes_3 rfl (lv_at hl 0 rfl) ?_
  refine lv_if_lt (tgt := 39) hx hb dX12_comes_4 (by decide) (fun c_13 => absurd c_13 (by decide)) (fun c_13 => ?_)
  refine lv_aload_n hx hb dX12_comes_7 rfl (lv_at hl 1 rfl) ?_
  refine va_get (D := D) (ci := 12) (v := .ref a5) (C := RX12) (T := TX12) (N := 30) hx hb hts inlX12 hown hK hP 0 rfl rfl 5 (by decide) (hts _ mw_191) (fun _ h9 => h9) rfl dX12_comes_8 ?_
  refine lv_aload_n hx hb dX12_comes_11 rfl (lv_at hl 1 rfl) ?_
  refine va_get (D := D) (ci := 12) (v := .int (nI (u6 + 1 + 1 + 1))) (C := RX12) (T := TX12) (N := 30) hx hb hts inlX12 hown hK hP 0 rfl rfl 6 (by decide) (hts _ mw_236) (fun _ h9 => h9) rfl dX12_comes_12 ?_
  refine lv_iload_n hx hb dX12_comes_15 rfl (lv_at hl 2 rfl) ?_
  refine lv_iload_n hx hb dX12_comes_16 rfl (lv_at hl 0 rfl) ?_
  obtain ⟨x_14, ex_14⟩ : ∃ v9 : Int32, (za.toUInt32 >>> (Int32.toUInt32 0 &&& Int32.toUInt32 31)).toInt32 = v9 := ⟨_, rfl⟩
  refine lv_iushr (v := x_14) hx hb dX12_comes_17 ex_14 ?_
  refine lv_sipush (v := 255) hx hb dX12_comes_18 (by decide) ?_
  refine lv_iand hx hb dX12_comes_21 ?_
  refine lv_topi (fun x_15 ex_15 => ?_)
  refine va_iast hx hb hK hP hD hS 1 0 rfl rfl (i := nI (u6 + 1 + 1 + 1)) (x := x_15) (vp_in_nI (n := (u6 + 1 + 1 + 1)) (by omega) (by omega)) dX12_comes_22 (fun H locs hP hD hS => ?_)
  rw [nI_clamp (by omega)] at hP hD
  have hP : va_P D vwCl [(m0, .inr (12, [.ref a0, .ref a1, .ref a2, .int (nI u3), .int f4, .ref a5, .int (nI (u6 + 1 + 1 + 1)), .int f7, .int f8, .int f9, .int f10, .int (nI u11), .int (nI u12), .int (nI u13), .ref a14, .ref a15, .ref a16, .ref a17, .int f18, .int f19, .ref a20, .ref a21, .int (nI u22), .ref a23, .ref a24, .ref a25, .int (nI u26), .int f27, .ref a28, .int (nI u29)])), (a5, .inl (κ 0, 800, .inl (upd g_12 (u6 + 1 + 1 + 1) x_15)))] H := hP
  have hD : va_D A [(m0, .inr (12, [.ref a0, .ref a1, .ref a2, .int (nI u3), .int f4, .ref a5, .int (nI (u6 + 1 + 1 + 1)), .int f7, .int f8, .int f9, .int f10, .int (nI u11), .int (nI u12), .int (nI u13), .ref a14, .ref a15, .ref a16, .ref a17, .int f18, .int f19, .ref a20, .ref a21, .int (nI u22), .ref a23, .ref a24, .ref a25, .int (nI u26), .int f27, .ref a28, .int (nI u29)])), (a5, .inl (κ 0, 800, .inl (upd g_12 (u6 + 1 + 1 + 1) x_15)))] := hD
  generalize upd g_12 (u6 + 1 + 1 + 1) x_15 = g_16 at hP hD 
  refine lv_aload_n hx hb dX12_comes_23 rfl (lv_at hl 1 rfl) ?_
  refine lv_dup hx hb dX12_comes_24 rfl ?_
  refine va_get (D := D) (ci := 12) (v := .int (nI (u6 + 1 + 1 + 1))) (C := RX12) (T := TX12) (N := 30) hx hb hts inlX12 hown hK hP 0 rfl rfl 6 (by decide) (hts _ mw_236) (fun _ h9 => h9) rfl dX12_comes_25 ?_
  refine lv_iconst (v := 1) hx hb dX12_comes_28 (by decide) ?_
  refine lv_iadd hx hb dX12_comes_29 ?_
  refine ki (v := (nI (u6 + 1 + 1 + 1 + 1))) (nI_add (u6 + 1 + 1 + 1) 1) ?_
  refine va_put (D := D) (ci := 12) (v := .int (nI (u6 + 1 + 1 + 1 + 1))) (ty := tyX12 6) (C := RX12) (T := TX12) (N := 30) hx hb hts inlX12 tyX12 tyX12_ok nmX12 hown hK hP hD hS 0 rfl rfl 6 (by decide) (hts _ mw_236) (fun _ h9 => h9) rfl (tyX12_ok 6 (by decide)) rfl rfl (Nat.le_of_ble_eq_true rfl) dX12_comes_30 (fun H locs hP hD hS => ?_)
  have hP : va_P D vwCl [(m0, .inr (12, [.ref a0, .ref a1, .ref a2, .int (nI u3), .int f4, .ref a5, .int (nI (u6 + 1 + 1 + 1 + 1)), .int f7, .int f8, .int f9, .int f10, .int (nI u11), .int (nI u12), .int (nI u13), .ref a14, .ref a15, .ref a16, .ref a17, .int f18, .int f19, .ref a20, .ref a21, .int (nI u22), .ref a23, .ref a24, .ref a25, .int (nI u26), .int f27, .ref a28, .int (nI u29)])), (a5, .inl (κ 0, 800, .inl g_16))] H := hP
  have hD : va_D A [(m0, .inr (12, [.ref a0, .ref a1, .ref a2, .int (nI u3), .int f4, .ref a5, .int (nI (u6 + 1 + 1 + 1 + 1)), .int f7, .int f8, .int f9, .int f10, .int (nI u11), .int (nI u12), .int (nI u13), .ref a14, .ref a15, .ref a16, .ref a17, .int f18, .int f19, .ref a20, .ref a21, .int (nI u22), .ref a23, .ref a24, .ref a25, .int (nI u26), .int f27, .ref a28, .int (nI u29)])), (a5, .inl (κ 0, 800, .inl g_16))] := hD
  refine lv_iinc (v := (-8)) (lv' := [(2, .int (-8)), (0, .ref m0), (1, .int za)]) hx hb dX12_comes_33 hl (k := 0) rfl (by decide) (by decide) rfl (fun ls hl => ?_)
  refine lv_goto (tgt := 3) hx hb dX12_comes_36 (by decide) ?_
  refine lv_iload_n hx hb dX12_comes_3 rfl (lv_at hl 0 rfl) ?_
  refine lv_if_lt (tgt := 39) hx hb dX12_comes_4 (by decide) (fun c_17 => ?_) (fun c_17 => absurd (by decide) c_17)
  exact ct_vret hx hb hr hlk hS hP hD g_16 rfl trivial [0, 1] rfl (by decide) trivial (Nat.le_of_ble_eq_true rfl) (Nat.le_of_ble_eq_true rfl) dX12_comes_39
set_option maxHeartbeats 4000000 in
set_option maxRecDepth 100000 in
theorem s_X12_feed (l : Launch) (D : va_G) (κ : Nat → ClassId) (m0 : Nat) (a0 : Nat) (a1 : Nat) (a2 : Nat) (u3 : Nat) (f4 : Int32) (a5 : Nat) (u6 : Nat) (f7 : Int32) (f8 : Int32) (f9 : Int32) (f10 : Int32) (u11 : Nat) (u12 : Nat) (u13 : Nat) (a14 : Nat) (a15 : Nat) (a16 : Nat) (a17 : Nat) (f18 : Int32) (f19 : Int32) (a20 : Nat) (a21 : Nat) (u22 : Nat) (a23 : Nat) (a24 : Nat) (a25 : Nat) (u26 : Nat) (f27 : Int32) (a28 : Nat) (u29 : Nat) (tp : Nat → Int32) (za : Int32) (zb : Int32) (zc : Int32) (zd : Int32) (ze : Int32) (h6 : u6 ≤ 800) : Ct l yX12_feed (wl yX12_feed cX12_feed 6 (some .int)) { frames := 1, cells := 0, slots := 0, locals := 22 } D κ [.ref m0, .int za, .int zb, .int zc, .int zd, .int ze] [(m0, .inr (12, [.ref a0, .ref a1, .ref a2, .int (nI u3), .int f4, .ref a5, .int (nI u6), .int f7, .int f8, .int f9, .int f10, .int (nI u11), .int (nI u12), .int (nI u13), .ref a14, .ref a15, .ref a16, .ref a17, .int f18, .int f19, .ref a20, .ref a21, .int (nI u22), .ref a23, .ref a24, .ref a25, .int (nI u26), .int f27, .ref a28, .int (nI u29)])), (a5, .inl (κ 0, 800, .inl tp))] (fun _ => True) (fun u9 : Int32 × Nat × (Nat → Int32) => some (.int u9.1)) (fun u9 : Int32 × Nat × (Nat → Int32) => u9.2.1 ≤ 800 ∧ ((u6 ≤ 780 ∧ u9.1 = nI (u6 + 20) ∧ u9.2.1 = u6 + 20) ∨ (780 < u6 ∧ u9.1 = -1 ∧ u9.2.1 = u6))) (fun u9 : Int32 × Nat × (Nat → Int32) => [(m0, .inr (12, [.ref a0, .ref a1, .ref a2, .int (nI u3), .int f4, .ref a5, .int (nI u9.2.1), .int f7, .int f8, .int f9, .int f10, .int (nI u11), .int (nI u12), .int (nI u13), .ref a14, .ref a15, .ref a16, .ref a17, .int f18, .int f19, .ref a20, .ref a21, .int (nI u22), .ref a23, .ref a24, .ref a25, .int (nI u26), .int f27, .ref a28, .int (nI u29)])), (a5, .inl (κ 0, 800, .inl u9.2.2))]) (fun _ _ => True) := by
  refine ct_of (by decide +kernel) (Nat.le_of_ble_eq_true rfl) ?_
  intro p e s m args below meth c A ls hx hb hr hml hts hown hlk hin hKK hK hA hP hD hS hI hl
  have hS : va_S A s.heap s.heap [] := hS
  have hFX : FX p s m args c cX12_feed 6 RX12 := ⟨hx, hb, hml, hown, hts⟩
  have hl : lv_has ls 6 [(0, .ref m0), (1, .int za), (2, .int zb), (3, .int zc), (4, .int zd), (5, .int ze)] := hl
  refine lv_aload_n hx hb dX12_feed_0 rfl (lv_at hl 0 rfl) ?_
  refine va_get (D := D) (ci := 12) (v := .int (nI u6)) (C := RX12) (T := TX12) (N := 30) hx hb hts inlX12 hown hK hP 0 rfl rfl 6 (by decide) (hts _ mw_236) (fun _ h9 => h9) rfl dX12_feed_1 ?_
  refine lv_bipush (v := 20) hx hb dX12_feed_4 (by decide) ?_
  refine lv_iadd hx hb dX12_feed_6 ?_
  refine ki (v := (nI (u6 + 20))) (nI_add u6 20) ?_
  refine lv_sipush (v := 800) hx hb dX12_feed_7 (by decide) ?_
  refine lv_icmp_le (tgt := 15) hx hb dX12_feed_10 (by decide) (fun c_1 => ?_) (fun c_1 => ?_)
  · have nc_1 := cv_le (a := (u6 + 20)) (b := 800) (by omega) (by omega) c_1
    refine lv_aload_n hx hb dX12_feed_15 rfl (lv_at hl 0 rfl) ?_
    refine lv_iload_n hx hb dX12_feed_16 rfl (lv_at hl 1 rfl) ?_
    refine ct_V (wr := []) (As := [.int za]) (rest := []) hFX hKK hP hD hS hA (s_X12_comes l D κ m0 a0 a1 a2 u3 f4 a5 u6 f7 f8 f9 f10 u11 u12 u13 a14 a15 a16 a17 f18 f19 a20 a21 u22 a23 a24 a25 u26 f27 a28 u29 tp za (by omega)) 1 gV_X12_86 hdV_X12_comes ⟨Nat.le_of_ble_eq_true rfl, Nat.le_of_ble_eq_true rfl⟩ rfl rfl (Nat.le_of_ble_eq_true rfl) dX12_feed_17 ⟨Nat.le_of_ble_eq_true rfl, Nat.le_of_ble_eq_true rfl⟩ hl.1 [0, 1] [] rfl rfl (by decide) (by decide) (by decide) 0 12 rfl rfl rfl trivial (fun g_a5__2 H locs hp_3 _ hP hD hS hz_ hk_ => ?_)
    replace hP : va_P D vwCl [(m0, .inr (12, [.ref a0, .ref a1, .ref a2, .int (nI u3), .int f4, .ref a5, .int (nI (u6 + 4)), .int f7, .int f8, .int f9, .int f10, .int (nI u11), .int (nI u12), .int (nI u13), .ref a14, .ref a15, .ref a16, .ref a17, .int f18, .int f19, .ref a20, .ref a21, .int (nI u22), .ref a23, .ref a24, .ref a25, .int (nI u26), .int f27, .ref a28, .int (nI u29)])), (a5, .inl (κ 0, 800, .inl g_a5__2))] H := hP
    replace hD : va_D A [(m0, .inr (12, [.ref a0, .ref a1, .ref a2, .int (nI u3), .int f4, .ref a5, .int (nI (u6 + 4)), .int f7, .int f8, .int f9, .int f10, .int (nI u11), .int (nI u12), .int (nI u13), .ref a14, .ref a15, .ref a16, .ref a17, .int f18, .int f19, .ref a20, .ref a21, .int (nI u22), .ref a23, .ref a24, .ref a25, .int (nI u26), .int f27, .ref a28, .int (nI u29)])), (a5, .inl (κ 0, 800, .inl g_a5__2))] := hD
    refine W.eq (g2 := F0 m 20 ls []) rfl ?_
    refine lv_aload_n hx hb dX12_feed_20 rfl (lv_at hl 0 rfl) ?_
    refine lv_iload_n hx hb dX12_feed_21 rfl (lv_at hl 2 rfl) ?_
    refine ct_V (wr := []) (As := [.int zb]) (rest := []) hFX hKK hP hD hS hA (s_X12_comes l D κ m0 a0 a1 a2 u3 f4 a5 (u6 + 4) f7 f8 f9 f10 u11 u12 u13 a14 a15 a16 a17 f18 f19 a20 a21 u22 a23 a24 a25 u26 f27 a28 u29 g_a5__2 zb (by omega)) 1 gV_X12_86 hdV_X12_comes ⟨Nat.le_of_ble_eq_true rfl, Nat.le_of_ble_eq_true rfl⟩ rfl rfl (Nat.le_of_ble_eq_true rfl) dX12_feed_22 ⟨Nat.le_of_ble_eq_true rfl, Nat.le_of_ble_eq_true rfl⟩ hl.1 [0, 1] [] rfl rfl (by decide) (by decide) (by decide) 0 12 rfl rfl rfl trivial (fun g_a5__4 H locs hp_5 _ hP hD hS hz_ hk_ => ?_)
    replace hP : va_P D vwCl [(m0, .inr (12, [.ref a0, .ref a1, .ref a2, .int (nI u3), .int f4, .ref a5, .int (nI ((u6 + 4) + 4)), .int f7, .int f8, .int f9, .int f10, .int (nI u11), .int (nI u12), .int (nI u13), .ref a14, .ref a15, .ref a16, .ref a17, .int f18, .int f19, .ref a20, .ref a21, .int (nI u22), .ref a23, .ref a24, .ref a25, .int (nI u26), .int f27, .ref a28, .int (nI u29)])), (a5, .inl (κ 0, 800, .inl g_a5__4))] H := hP
    replace hD : va_D A [(m0, .inr (12, [.ref a0, .ref a1, .ref a2, .int (nI u3), .int f4, .ref a5, .int (nI ((u6 + 4) + 4)), .int f7, .int f8, .int f9, .int f10, .int (nI u11), .int (nI u12), .int (nI u13), .ref a14, .ref a15, .ref a16, .ref a17, .int f18, .int f19, .ref a20, .ref a21, .int (nI u22), .ref a23, .ref a24, .ref a25, .int (nI u26), .int f27, .ref a28, .int (nI u29)])), (a5, .inl (κ 0, 800, .inl g_a5__4))] := hD
    refine W.eq (g2 := F0 m 25 ls []) rfl ?_
    refine lv_aload_n hx hb dX12_feed_25 rfl (lv_at hl 0 rfl) ?_
    refine lv_iload_n hx hb dX12_feed_26 rfl (lv_at hl 3 rfl) ?_
    refine ct_V (wr := []) (As := [.int zc]) (rest := []) hFX hKK hP hD hS hA (s_X12_comes l D κ m0 a0 a1 a2 u3 f4 a5 ((u6 + 4) + 4) f7 f8 f9 f10 u11 u12 u13 a14 a15 a16 a17 f18 f19 a20 a21 u22 a23 a24 a25 u26 f27 a28 u29 g_a5__4 zc (by omega)) 1 gV_X12_86 hdV_X12_comes ⟨Nat.le_of_ble_eq_true rfl, Nat.le_of_ble_eq_true rfl⟩ rfl rfl (Nat.le_of_ble_eq_true rfl) dX12_feed_27 ⟨Nat.le_of_ble_eq_true rfl, Nat.le_of_ble_eq_true rfl⟩ hl.1 [0, 1] [] rfl rfl (by decide) (by decide) (by decide) 0 12 rfl rfl rfl trivial (fun g_a5__6 H locs hp_7 _ hP hD hS hz_ hk_ => ?_)
    replace hP : va_P D vwCl [(m0, .inr (12, [.ref a0, .ref a1, .ref a2, .int (nI u3), .int f4, .ref a5, .int (nI (((u6 + 4) + 4) + 4)), .int f7, .int f8, .int f9, .int f10, .int (nI u11), .int (nI u12), .int (nI u13), .ref a14, .ref a15, .ref a16, .ref a17, .int f18, .int f19, .ref a20, .ref a21, .int (nI u22), .ref a23, .ref a24, .ref a25, .int (nI u26), .int f27, .ref a28, .int (nI u29)])), (a5, .inl (κ 0, 800, .inl g_a5__6))] H := hP
    replace hD : va_D A [(m0, .inr (12, [.ref a0, .ref a1, .ref a2, .int (nI u3), .int f4, .ref a5, .int (nI (((u6 + 4) + 4) + 4)), .int f7, .int f8, .int f9, .int f10, .int (nI u11), .int (nI u12), .int (nI u13), .ref a14, .ref a15, .ref a16, .ref a17, .int f18, .int f19, .ref a20, .ref a21, .int (nI u22), .ref a23, .ref a24, .ref a25, .int (nI u26), .int f27, .ref a28, .int (nI u29)])), (a5, .inl (κ 0, 800, .inl g_a5__6))] := hD
    refine W.eq (g2 := F0 m 30 ls []) rfl ?_
    refine lv_aload_n hx hb dX12_feed_30 rfl (lv_at hl 0 rfl) ?_
    refine lv_iload hx hb dX12_feed_31 (lv_at hl 4 rfl) ?_
    refine ct_V (wr := []) (As := [.int zd]) (rest := []) hFX hKK hP hD hS hA (s_X12_comes l D κ m0 a0 a1 a2 u3 f4 a5 (((u6 + 4) + 4) + 4) f7 f8 f9 f10 u11 u12 u13 a14 a15 a16 a17 f18 f19 a20 a21 u22 a23 a24 a25 u26 f27 a28 u29 g_a5__6 zd (by omega)) 1 gV_X12_86 hdV_X12_comes ⟨Nat.le_of_ble_eq_true rfl, Nat.le_of_ble_eq_true rfl⟩ rfl rfl (Nat.le_of_ble_eq_true rfl) dX12_feed_33 ⟨Nat.le_of_ble_eq_true rfl, Nat.le_of_ble_eq_true rfl⟩ hl.1 [0, 1] [] rfl rfl (by decide) (by decide) (by decide) 0 12 rfl rfl rfl trivial (fun g_a5__8 H locs hp_9 _ hP hD hS hz_ hk_ => ?_)
    replace hP : va_P D vwCl [(m0, .inr (12, [.ref a0, .ref a1, .ref a2, .int (nI u3), .int f4, .ref a5, .int (nI ((((u6 + 4) + 4) + 4) + 4)), .int f7, .int f8, .int f9, .int f10, .int (nI u11), .int (nI u12), .int (nI u13), .ref a14, .ref a15, .ref a16, .ref a17, .int f18, .int f19, .ref a20, .ref a21, .int (nI u22), .ref a23, .ref a24, .ref a25, .int (nI u26), .int f27, .ref a28, .int (nI u29)])), (a5, .inl (κ 0, 800, .inl g_a5__8))] H := hP
    replace hD : va_D A [(m0, .inr (12, [.ref a0, .ref a1, .ref a2, .int (nI u3), .int f4, .ref a5, .int (nI ((((u6 + 4) + 4) + 4) + 4)), .int f7, .int f8, .int f9, .int f10, .int (nI u11), .int (nI u12), .int (nI u13), .ref a14, .ref a15, .ref a16, .ref a17, .int f18, .int f19, .ref a20, .ref a21, .int (nI u22), .ref a23, .ref a24, .ref a25, .int (nI u26), .int f27, .ref a28, .int (nI u29)])), (a5, .inl (κ 0, 800, .inl g_a5__8))] := hD
    refine W.eq (g2 := F0 m 36 ls []) rfl ?_
    refine lv_aload_n hx hb dX12_feed_36 rfl (lv_at hl 0 rfl) ?_
    refine lv_iload hx hb dX12_feed_37 (lv_at hl 5 rfl) ?_
    refine ct_V (wr := []) (As := [.int ze]) (rest := []) hFX hKK hP hD hS hA (s_X12_comes l D κ m0 a0 a1 a2 u3 f4 a5 ((((u6 + 4) + 4) + 4) + 4) f7 f8 f9 f10 u11 u12 u13 a14 a15 a16 a17 f18 f19 a20 a21 u22 a23 a24 a25 u26 f27 a28 u29 g_a5__8 ze (by omega)) 1 gV_X12_86 hdV_X12_comes ⟨Nat.le_of_ble_eq_true rfl, Nat.le_of_ble_eq_true rfl⟩ rfl rfl (Nat.le_of_ble_eq_true rfl) dX12_feed_39 ⟨Nat.le_of_ble_eq_true rfl, Nat.le_of_ble_eq_true rfl⟩ hl.1 [0, 1] [] rfl rfl (by decide) (by decide) (by decide) 0 12 rfl rfl rfl trivial (fun g_a5__10 H locs hp_11 _ hP hD hS hz_ hk_ => ?_)
    replace hP : va_P D vwCl [(m0, .inr (12, [.ref a0, .ref a1, .ref a2, .int (nI u3), .int f4, .ref a5, .int (nI (((((u6 + 4) + 4) + 4) + 4) + 4)), .int f7, .int f8, .int f9, .int f10, .int (nI u11), .int (nI u12), .int (nI u13), .ref a14, .ref a15, .ref a16, .ref a17, .int f18, .int f19, .ref a20, .ref a21, .int (nI u22), .ref a23, .ref a24, .ref a25, .int (nI u26), .int f27, .ref a28, .int (nI u29)])), (a5, .inl (κ 0, 800, .inl g_a5__10))] H := hP
    replace hD : va_D A [(m0, .inr (12, [.ref a0, .ref a1, .ref a2, .int (nI u3), .int f4, .ref a5, .int (nI (((((u6 + 4) + 4) + 4) + 4) + 4)), .int f7, .int f8, .int f9, .int f10, .int (nI u11), .int (nI u12), .int (nI u13), .ref a14, .ref a15, .ref a16, .ref a17, .int f18, .int f19, .ref a20, .ref a21, .int (nI u22), .ref a23, .ref a24, .ref a25, .int (nI u26), .int f27, .ref a28, .int (nI u29)])), (a5, .inl (κ 0, 800, .inl g_a5__10))] := hD
    refine W.eq (g2 := F0 m 42 ls []) rfl ?_
    refine lv_aload_n hx hb dX12_feed_42 rfl (lv_at hl 0 rfl) ?_
    refine va_get (D := D) (ci := 12) (v := .int (nI (((((u6 + 4) + 4) + 4) + 4) + 4))) (C := RX12) (T := TX12) (N := 30) hx hb hts inlX12 hown hK hP 0 rfl rfl 6 (by decide) (hts _ mw_236) (fun _ h9 => h9) rfl dX12_feed_43 ?_
    exact ct_iret hx hb hr hlk rfl hS hP hD (nI (((((u6 + 4) + 4) + 4) + 4) + 4), ((((u6 + 4) + 4) + 4) + 4) + 4, g_a5__10) rfl ⟨(show (((((u6 + 4) + 4) + 4) + 4) + 4) ≤ 800 from (by first | assumption | omega | rfl | exact Or.inl (by assumption) | exact Or.inr (by assumption))), (show (u6 ≤ 780 ∧ (nI (((((u6 + 4) + 4) + 4) + 4) + 4)) = nI (u6 + 20) ∧ (((((u6 + 4) + 4) + 4) + 4) + 4) = u6 + 20) ∨ (780 < u6 ∧ (nI (((((u6 + 4) + 4) + 4) + 4) + 4)) = -1 ∧ (((((u6 + 4) + 4) + 4) + 4) + 4) = u6) from (Or.inl ⟨by omega, rfl, rfl⟩))⟩ [0, 1] rfl (by decide) trivial (Nat.le_of_ble_eq_true rfl) (Nat.le_of_ble_eq_true rfl) dX12_feed_46
  · have nc_1 := cv_nle (a := (u6 + 20)) (b := 800) (by omega) (by omega) c_1
    refine lv_iconst (v := (-1)) hx hb dX12_feed_13 (by decide) ?_
    exact ct_iret hx hb hr hlk rfl hS hP hD ((-1), u6, tp) rfl ⟨(show u6 ≤ 800 from (by first | assumption | omega | rfl | exact Or.inl (by assumption) | exact Or.inr (by assumption))), (show (u6 ≤ 780 ∧ (-1 : Int32) = nI (u6 + 20) ∧ u6 = u6 + 20) ∨ (780 < u6 ∧ (-1 : Int32) = -1 ∧ u6 = u6) from (Or.inr ⟨by omega, rfl, rfl⟩))⟩ [0, 1] rfl (by decide) trivial (Nat.le_of_ble_eq_true rfl) (Nat.le_of_ble_eq_true rfl) dX12_feed_14
set_option maxHeartbeats 4000000 in
set_option maxRecDepth 100000 in
theorem s_X12_end (l : Launch) (D : va_G) (κ : Nat → ClassId) (m0 : Nat) (a0 : Nat) (a1 : Nat) (a2 : Nat) (u3 : Nat) (f4 : Int32) (a5 : Nat) (u6 : Nat) (f7 : Int32) (f8 : Int32) (f9 : Int32) (f10 : Int32) (u11 : Nat) (u12 : Nat) (u13 : Nat) (a14 : Nat) (a15 : Nat) (a16 : Nat) (a17 : Nat) (f18 : Int32) (f19 : Int32) (a20 : Nat) (a21 : Nat) (u22 : Nat) (a23 : Nat) (a24 : Nat) (a25 : Nat) (u26 : Nat) (f27 : Int32) (a28 : Nat) (u29 : Nat) (za : Int32) (h6 : u6 ≤ 800) : Ct l yX12_end (wl yX12_end cX12_end 2 (some .boolean)) { frames := 1, cells := 0, slots := 0, locals := 25 } D κ [.ref m0, .int za] [(m0, .inr (12, [.ref a0, .ref a1, .ref a2, .int (nI u3), .int f4, .ref a5, .int (nI u6), .int f7, .int f8, .int f9, .int f10, .int (nI u11), .int (nI u12), .int (nI u13), .ref a14, .ref a15, .ref a16, .ref a17, .int f18, .int f19, .ref a20, .ref a21, .int (nI u22), .ref a23, .ref a24, .ref a25, .int (nI u26), .int f27, .ref a28, .int (nI u29)]))] (fun _ => True) (fun u9 : Int32 × Nat => some (.int u9.1)) (fun u9 : Int32 × Nat => u9.2 ≤ 800 ∧ ((u9.1 = 1 ∧ 0 ≤ za.toInt ∧ za.toInt ≤ (u6 : Int) ∧ (u9.2 : Int) = za.toInt) ∨ (u9.1 = 0 ∧ (za.toInt < 0 ∨ (u6 : Int) < za.toInt) ∧ u9.2 = u6))) (fun u9 : Int32 × Nat => [(m0, .inr (12, [.ref a0, .ref a1, .ref a2, .int (nI u3), .int f4, .ref a5, .int (nI u9.2), .int f7, .int f8, .int f9, .int f10, .int (nI u11), .int (nI u12), .int (nI u13), .ref a14, .ref a15, .ref a16, .ref a17, .int f18, .int f19, .ref a20, .ref a21, .int (nI u22), .ref a23, .ref a24, .ref a25, .int (nI u26), .int f27, .ref a28, .int (nI u29)]))]) (fun _ _ => True) := by
  refine ct_of (by decide +kernel) (Nat.le_of_ble_eq_true rfl) ?_
  intro p e s m args below meth c A ls hx hb hr hml hts hown hlk hin hKK hK hA hP hD hS hI hl
  have hS : va_S A s.heap s.heap [] := hS
  have hFX : FX p s m args c cX12_end 2 RX12 := ⟨hx, hb, hml, hown, hts⟩
  have hl : lv_has ls 2 [(0, .ref m0), (1, .int za)] := hl
  refine lv_iload_n hx hb dX12_end_0 rfl (lv_at hl 1 rfl) ?_
  refine lv_i2l (v := za.toInt64) hx hb dX12_end_1 rfl ?_
  refine lv_lconst (v := 0) hx hb dX12_end_2 (by decide) ?_
  refine lv_aload_n hx hb dX12_end_3 rfl (lv_at hl 0 rfl) ?_
  refine va_get (D := D) (ci := 12) (v := .int (nI u6)) (C := RX12) (T := TX12) (N := 30) hx hb hts inlX12 hown hK hP 0 rfl rfl 6 (by decide) (hts _ mw_236) (fun _ h9 => h9) rfl dX12_end_4 ?_
  refine lv_i2l (v := (nI u6).toInt64) hx hb dX12_end_7 rfl ?_
  refine cr_S (As := [.long za.toInt64, .long 0, .long ((nI u6).toInt64)]) (rest := []) hFX hKK (s_X12_isIn l D κ za.toInt64 0 ((nI u6).toInt64)) 3 gS_X12_62 hdS_X12_isIn rfl rfl ⟨Nat.le_of_ble_eq_true rfl, Nat.le_of_ble_eq_true rfl⟩ rfl rfl (Nat.le_of_ble_eq_true rfl) dX12_end_8 ⟨Nat.le_of_ble_eq_true rfl, Nat.le_of_ble_eq_true rfl⟩ hl.1 (hP.sub [] rfl) (fun r__1 hp_2 => ?_)
  replace hp_2 : ((r__1 = 1 ∧ ¬ lg_cmp za.toInt64 (0 : Int64) < 0 ∧ ¬ 0 < lg_cmp za.toInt64 ((nI u6).toInt64)) ∨ (r__1 = 0 ∧ (lg_cmp za.toInt64 (0 : Int64) < 0 ∨ 0 < lg_cmp za.toInt64 ((nI u6).toInt64)))) := hp_2
  have ha_3 := hp_2
  clear hp_2
  rcases ha_3 with ⟨rfl, a_4, a_5⟩ | ⟨rfl, a_6⟩
  · refine W.eq (g2 := F0 m 11 ls [.int 1]) rfl ?_
    have hin_7 : (0 : Int) ≤ za.toInt ∧ za.toInt ≤ ((u6 : Nat) : Int) := l_in (l_of rfl) (by decide) (l_of (nI_toInt (by omega))) a_4 a_5
    obtain ⟨j_8, hj_8, rfl⟩ : ∃ j9 : Nat, (j9 : Int) ≤ ((u6 : Nat) : Int) ∧ za = nI j9 := i_nat (by omega) (by omega)
    refine lv_if_ne (tgt := 16) hx hb dX12_end_11 (by decide) (fun c_9 => ?_) (fun c_9 => absurd c_9 (by decide))
    have hjt : (nI j_8).toInt = ((j_8 : Nat) : Int) := nI_toInt (by omega)
    refine lv_aload_n hx hb dX12_end_16 rfl (lv_at hl 0 rfl) ?_
    refine lv_iload_n hx hb dX12_end_17 rfl (lv_at hl 1 rfl) ?_
    refine va_put (D := D) (ci := 12) (v := .int (nI j_8)) (ty := tyX12 6) (C := RX12) (T := TX12) (N := 30) hx hb hts inlX12 tyX12 tyX12_ok nmX12 hown hK hP hD hS 0 rfl rfl 6 (by decide) (hts _ mw_236) (fun _ h9 => h9) rfl (tyX12_ok 6 (by decide)) rfl rfl (Nat.le_of_ble_eq_true rfl) dX12_end_18 (fun H locs hP hD hS => ?_)
    have hP : va_P D vwCl [(m0, .inr (12, [.ref a0, .ref a1, .ref a2, .int (nI u3), .int f4, .ref a5, .int (nI j_8), .int f7, .int f8, .int f9, .int f10, .int (nI u11), .int (nI u12), .int (nI u13), .ref a14, .ref a15, .ref a16, .ref a17, .int f18, .int f19, .ref a20, .ref a21, .int (nI u22), .ref a23, .ref a24, .ref a25, .int (nI u26), .int f27, .ref a28, .int (nI u29)]))] H := hP
    have hD : va_D A [(m0, .inr (12, [.ref a0, .ref a1, .ref a2, .int (nI u3), .int f4, .ref a5, .int (nI j_8), .int f7, .int f8, .int f9, .int f10, .int (nI u11), .int (nI u12), .int (nI u13), .ref a14, .ref a15, .ref a16, .ref a17, .int f18, .int f19, .ref a20, .ref a21, .int (nI u22), .ref a23, .ref a24, .ref a25, .int (nI u26), .int f27, .ref a28, .int (nI u29)]))] := hD
    refine lv_iconst (v := 1) hx hb dX12_end_21 (by decide) ?_
    exact ct_iret hx hb hr hlk rfl hS hP hD (1, j_8) rfl ⟨(show j_8 ≤ 800 from (by first | assumption | omega | rfl | exact Or.inl (by assumption) | exact Or.inr (by assumption))), (by exact Or.inl (⟨rfl, (show 0 ≤ (nI j_8).toInt from (by first | assumption | omega | rfl | exact Or.inl (by assumption) | exact Or.inr (by assumption))), (show (nI j_8).toInt ≤ (u6 : Int) from (by first | assumption | omega | rfl | exact Or.inl (by assumption) | exact Or.inr (by assumption))), (show (j_8 : Int) = (nI j_8).toInt from (by first | assumption | omega | rfl | exact Or.inl (by assumption) | exact Or.inr (by assumption)))⟩))⟩ [0] rfl (by decide) trivial (Nat.le_of_ble_eq_true rfl) (Nat.le_of_ble_eq_true rfl) dX12_end_22
  · refine W.eq (g2 := F0 m 11 ls [.int 0]) rfl ?_
    have hin_10 : za.toInt < (0 : Int) ∨ ((u6 : Nat) : Int) < za.toInt := l_out (l_of rfl) (by decide) (l_of (nI_toInt (by omega))) a_6
    refine lv_if_ne (tgt := 16) hx hb dX12_end_11 (by decide) (fun c_11 => absurd c_11 (by decide)) (fun c_11 => ?_)
    refine lv_iconst (v := 0) hx hb dX12_end_14 (by decide) ?_
    exact ct_iret hx hb hr hlk rfl hS hP hD (0, u6) rfl ⟨(show u6 ≤ 800 from (by first | assumption | omega | rfl | exact Or.inl (by assumption) | exact Or.inr (by assumption))), (by exact Or.inr ((⟨rfl, (show za.toInt < 0 ∨ (u6 : Int) < za.toInt from (by first | assumption | omega | rfl | exact Or.inl (by assumption) | exact Or.inr (by assumption))), (show u6 = u6 from (by first | assumption | omega | rfl | exact Or.inl (by assumption) | exact Or.inr (by assumption)))⟩)))⟩ [0] rfl (by decide) trivial (Nat.le_of_ble_eq_true rfl) (Nat.le_of_ble_eq_true rfl) dX12_end_15
set_option maxHeartbeats 4000000 in
set_option maxRecDepth 100000 in
theorem s_X12_dialect (l : Launch) (D : va_G) (κ : Nat → ClassId) (m0 : Nat) (a0 : Nat) (a1 : Nat) (a2 : Nat) (u3 : Nat) (f4 : Int32) (a5 : Nat) (u6 : Nat) (f7 : Int32) (f8 : Int32) (f9 : Int32) (f10 : Int32) (u11 : Nat) (u12 : Nat) (u13 : Nat) (a14 : Nat) (a15 : Nat) (a16 : Nat) (a17 : Nat) (f18 : Int32) (f19 : Int32) (a20 : Nat) (a21 : Nat) (u22 : Nat) (a23 : Nat) (a24 : Nat) (a25 : Nat) (u26 : Nat) (f27 : Int32) (a28 : Nat) (u29 : Nat) (w : Nat → Int32) (za : Int32) (zb : Int32) (h_a0 : Pw w) : Ct l yX12_dialect (wl yX12_dialect cX12_dialect 4 (some .boolean)) { frames := 1, cells := 0, slots := 0, locals := 25 } D κ [.ref m0, .int za, .int zb] [(m0, .inr (12, [.ref a0, .ref a1, .ref a2, .int (nI u3), .int f4, .ref a5, .int (nI u6), .int f7, .int f8, .int f9, .int f10, .int (nI u11), .int (nI u12), .int (nI u13), .ref a14, .ref a15, .ref a16, .ref a17, .int f18, .int f19, .ref a20, .ref a21, .int (nI u22), .ref a23, .ref a24, .ref a25, .int (nI u26), .int f27, .ref a28, .int (nI u29)])), (a0, .inl (κ 0, 21375, .inl w))] (fun _ => True) (fun u9 : Int32 × (Nat → Int32) => some (.int u9.1)) (fun u9 : Int32 × (Nat → Int32) => Pw u9.2 ∧ ((u9.1 = 1 ∧ dOk za zb) ∨ (u9.1 = 0 ∧ ¬ dOk za zb))) (fun u9 : Int32 × (Nat → Int32) => [(m0, .inr (12, [.ref a0, .ref a1, .ref a2, .int (nI u3), .int f4, .ref a5, .int (nI u6), .int f7, .int f8, .int f9, .int f10, .int (nI u11), .int (nI u12), .int (nI u13), .ref a14, .ref a15, .ref a16, .ref a17, .int f18, .int f19, .ref a20, .ref a21, .int (nI u22), .ref a23, .ref a24, .ref a25, .int (nI u26), .int f27, .ref a28, .int (nI u29)])), (a0, .inl (κ 0, 21375, .inl u9.2))]) (fun _ _ => True) := by
  refine ct_of (by decide +kernel) (Nat.le_of_ble_eq_true rfl) ?_
  intro p e s m args below meth c A ls hx hb hr hml hts hown hlk hin hKK hK hA hP hD hS hI hl
  have hS : va_S A s.heap s.heap [] := hS
  have hFX : FX p s m args c cX12_dialect 4 RX12 := ⟨hx, hb, hml, hown, hts⟩
  have hl : lv_has ls 4 [(0, .ref m0), (1, .int za), (2, .int zb)] := hl
  refine lv_iload_n hx hb dX12_dialect_0 rfl (lv_at hl 1 rfl) ?_
  rcases Classical.em (za.toInt < 0 ∨ 5 < za.toInt) with c_1 | c_1
  · refine lv_tableOut (tgt := 156) hx hb dX12_dialect_1 c_1 (by decide) ?_
    refine lv_iconst (v := 0) hx hb dX12_dialect_156 (by decide) ?_
    refine lv_istore_n (lv' := [(3, .int 0), (0, .ref m0), (1, .int za), (2, .int zb)]) hx hb dX12_dialect_157 rfl hl (by decide) rfl (fun ls hl => ?_)
    refine lv_iload_n hx hb dX12_dialect_158 rfl (lv_at hl 0 rfl) ?_
    refine lv_if_eq (tgt := 173) hx hb dX12_dialect_159 (by decide) (fun c_2 => ?_) (fun c_2 => absurd (by decide) c_2)
    refine lv_iload_n hx hb dX12_dialect_173 rfl (lv_at hl 0 rfl) ?_
    exact ct_iret hx hb hr hlk rfl hS hP hD (0, w) rfl ⟨(show Pw w from (by first | assumption | omega | rfl | exact Or.inl (by assumption) | exact Or.inr (by assumption))), (by exact Or.inr ((⟨rfl, (show ¬ dOk za zb from (dOk_out c_1))⟩)))⟩ [0, 1] rfl (by decide) trivial (Nat.le_of_ble_eq_true rfl) (Nat.le_of_ble_eq_true rfl) dX12_dialect_174
  · have e_3 : za = 0 ∨ za = 1 ∨ za = 2 ∨ za = 3 ∨ za = 4 ∨ za = 5 := by
      have q1 : ¬ za.toInt < 0 := fun h => c_1 (Or.inl h)
      have q2 : ¬ 5 < za.toInt := fun h => c_1 (Or.inr h)
      have q3 : ∀ v : Int32, za.toInt = v.toInt → za = v := fun v h => Int32.toInt_inj.mp h
      rcases (show za.toInt = 0 ∨ za.toInt = 1 ∨ za.toInt = 2 ∨ za.toInt = 3 ∨ za.toInt = 4 ∨ za.toInt = 5 by omega) with h | h | h | h | h | h
      · exact Or.inl (q3 0 (h.trans (by decide)))
      · exact Or.inr (Or.inl (q3 1 (h.trans (by decide))))
      · exact Or.inr (Or.inr (Or.inl (q3 2 (h.trans (by decide)))))
      · exact Or.inr (Or.inr (Or.inr (Or.inl (q3 3 (h.trans (by decide))))))
      · exact Or.inr (Or.inr (Or.inr (Or.inr (Or.inl (q3 4 (h.trans (by decide)))))))
      · exact Or.inr (Or.inr (Or.inr (Or.inr (Or.inr ((q3 5 (h.trans (by decide))))))))
    clear c_1
    rcases e_3 with rfl | rfl | rfl | rfl | rfl | rfl
    · refine lv_tableIn (tgt := 40) hx hb dX12_dialect_1 (by decide) (by decide) rfl (by decide) ?_
      refine lv_iload_n hx hb dX12_dialect_40 rfl (lv_at hl 2 rfl) ?_
      refine lv_bipush (v := 44) hx hb dX12_dialect_41 (by decide) ?_
      refine lv_icmp_eq (tgt := 64) hx hb dX12_dialect_43 (by decide) (fun c_4 => ?_) (fun c_4 => ?_)
      · refine lv_iconst (v := 1) hx hb dX12_dialect_64 (by decide) ?_
        refine lv_goto (tgt := 69) hx hb dX12_dialect_65 (by decide) ?_
        refine lv_istore_n (lv' := [(3, .int 1), (0, .ref m0), (1, .int 0), (2, .int zb)]) hx hb dX12_dialect_69 rfl hl (by decide) rfl (fun ls hl => ?_)
        refine lv_goto (tgt := 158) hx hb dX12_dialect_70 (by decide) ?_
        refine lv_iload_n hx hb dX12_dialect_158 rfl (lv_at hl 0 rfl) ?_
        refine lv_if_eq (tgt := 173) hx hb dX12_dialect_159 (by decide) (fun c_5 => absurd c_5 (by decide)) (fun c_5 => ?_)
        refine lv_aload_n hx hb dX12_dialect_162 rfl (lv_at hl 1 rfl) ?_
        refine va_get (D := D) (ci := 12) (v := .ref a0) (C := RX12) (T := TX12) (N := 30) hx hb hts inlX12 hown hK hP 0 rfl rfl 0 (by decide) (hts _ mw_187) (fun _ h9 => h9) rfl dX12_dialect_163 ?_
        refine lv_sipush (v := 21369) hx hb dX12_dialect_166 (by decide) ?_
        refine lv_iload_n hx hb dX12_dialect_169 rfl (lv_at hl 2 rfl) ?_
        refine lv_iadd hx hb dX12_dialect_170 ?_
        refine ki (v := 21369) (by decide) ?_
        refine lv_iload_n hx hb dX12_dialect_171 rfl (lv_at hl 3 rfl) ?_
        refine va_iast hx hb hK hP hD hS 1 0 rfl rfl (i := 21369) (x := zb) (vp_k (by decide)) dX12_dialect_172 (fun H locs hP hD hS => ?_)
        have hP : va_P D vwCl [(m0, .inr (12, [.ref a0, .ref a1, .ref a2, .int (nI u3), .int f4, .ref a5, .int (nI u6), .int f7, .int f8, .int f9, .int f10, .int (nI u11), .int (nI u12), .int (nI u13), .ref a14, .ref a15, .ref a16, .ref a17, .int f18, .int f19, .ref a20, .ref a21, .int (nI u22), .ref a23, .ref a24, .ref a25, .int (nI u26), .int f27, .ref a28, .int (nI u29)])), (a0, .inl (κ 0, 21375, .inl (upd w 21369 zb)))] H := hP
        have hD : va_D A [(m0, .inr (12, [.ref a0, .ref a1, .ref a2, .int (nI u3), .int f4, .ref a5, .int (nI u6), .int f7, .int f8, .int f9, .int f10, .int (nI u11), .int (nI u12), .int (nI u13), .ref a14, .ref a15, .ref a16, .ref a17, .int f18, .int f19, .ref a20, .ref a21, .int (nI u22), .ref a23, .ref a24, .ref a25, .int (nI u26), .int f27, .ref a28, .int (nI u29)])), (a0, .inl (κ 0, 21375, .inl (upd w 21369 zb)))] := hD
        have hf_7 : Pw (upd w 21369 zb) := (Pw_free h_a0 (fDIAL (by omega)))
        generalize upd w 21369 zb = g_6 at hP hD hf_7
        refine lv_iload_n hx hb dX12_dialect_173 rfl (lv_at hl 0 rfl) ?_
        exact ct_iret hx hb hr hlk rfl hS hP hD (1, g_6) rfl ⟨(show Pw g_6 from (by first | assumption | omega | rfl | exact Or.inl (by assumption) | exact Or.inr (by assumption))), (by exact Or.inl (⟨rfl, (show dOk 0 zb from (by first | exact dOk_4 (by omega) | (unfold dOk; simp_all; done)))⟩))⟩ [0, 1] rfl (by decide) trivial (Nat.le_of_ble_eq_true rfl) (Nat.le_of_ble_eq_true rfl) dX12_dialect_174
      · refine lv_iload_n hx hb dX12_dialect_46 rfl (lv_at hl 2 rfl) ?_
        refine lv_bipush (v := 59) hx hb dX12_dialect_47 (by decide) ?_
        refine lv_icmp_eq (tgt := 64) hx hb dX12_dialect_49 (by decide) (fun c_8 => ?_) (fun c_8 => ?_)
        · refine lv_iconst (v := 1) hx hb dX12_dialect_64 (by decide) ?_
          refine lv_goto (tgt := 69) hx hb dX12_dialect_65 (by decide) ?_
          refine lv_istore_n (lv' := [(3, .int 1), (0, .ref m0), (1, .int 0), (2, .int zb)]) hx hb dX12_dialect_69 rfl hl (by decide) rfl (fun ls hl => ?_)
          refine lv_goto (tgt := 158) hx hb dX12_dialect_70 (by decide) ?_
          refine lv_iload_n hx hb dX12_dialect_158 rfl (lv_at hl 0 rfl) ?_
          refine lv_if_eq (tgt := 173) hx hb dX12_dialect_159 (by decide) (fun c_9 => absurd c_9 (by decide)) (fun c_9 => ?_)
          refine lv_aload_n hx hb dX12_dialect_162 rfl (lv_at hl 1 rfl) ?_
          refine va_get (D := D) (ci := 12) (v := .ref a0) (C := RX12) (T := TX12) (N := 30) hx hb hts inlX12 hown hK hP 0 rfl rfl 0 (by decide) (hts _ mw_187) (fun _ h9 => h9) rfl dX12_dialect_163 ?_
          refine lv_sipush (v := 21369) hx hb dX12_dialect_166 (by decide) ?_
          refine lv_iload_n hx hb dX12_dialect_169 rfl (lv_at hl 2 rfl) ?_
          refine lv_iadd hx hb dX12_dialect_170 ?_
          refine ki (v := 21369) (by decide) ?_
          refine lv_iload_n hx hb dX12_dialect_171 rfl (lv_at hl 3 rfl) ?_
          refine va_iast hx hb hK hP hD hS 1 0 rfl rfl (i := 21369) (x := zb) (vp_k (by decide)) dX12_dialect_172 (fun H locs hP hD hS => ?_)
          have hP : va_P D vwCl [(m0, .inr (12, [.ref a0, .ref a1, .ref a2, .int (nI u3), .int f4, .ref a5, .int (nI u6), .int f7, .int f8, .int f9, .int f10, .int (nI u11), .int (nI u12), .int (nI u13), .ref a14, .ref a15, .ref a16, .ref a17, .int f18, .int f19, .ref a20, .ref a21, .int (nI u22), .ref a23, .ref a24, .ref a25, .int (nI u26), .int f27, .ref a28, .int (nI u29)])), (a0, .inl (κ 0, 21375, .inl (upd w 21369 zb)))] H := hP
          have hD : va_D A [(m0, .inr (12, [.ref a0, .ref a1, .ref a2, .int (nI u3), .int f4, .ref a5, .int (nI u6), .int f7, .int f8, .int f9, .int f10, .int (nI u11), .int (nI u12), .int (nI u13), .ref a14, .ref a15, .ref a16, .ref a17, .int f18, .int f19, .ref a20, .ref a21, .int (nI u22), .ref a23, .ref a24, .ref a25, .int (nI u26), .int f27, .ref a28, .int (nI u29)])), (a0, .inl (κ 0, 21375, .inl (upd w 21369 zb)))] := hD
          have hf_11 : Pw (upd w 21369 zb) := (Pw_free h_a0 (fDIAL (by omega)))
          generalize upd w 21369 zb = g_10 at hP hD hf_11
          refine lv_iload_n hx hb dX12_dialect_173 rfl (lv_at hl 0 rfl) ?_
          exact ct_iret hx hb hr hlk rfl hS hP hD (1, g_10) rfl ⟨(show Pw g_10 from (by first | assumption | omega | rfl | exact Or.inl (by assumption) | exact Or.inr (by assumption))), (by exact Or.inl (⟨rfl, (show dOk 0 zb from (by first | exact dOk_4 (by omega) | (unfold dOk; simp_all; done)))⟩))⟩ [0, 1] rfl (by decide) trivial (Nat.le_of_ble_eq_true rfl) (Nat.le_of_ble_eq_true rfl) dX12_dialect_174
        · refine lv_iload_n hx hb dX12_dialect_52 rfl (lv_at hl 2 rfl) ?_
          refine lv_bipush (v := 124) hx hb dX12_dialect_53 (by decide) ?_
          refine lv_icmp_eq (tgt := 64) hx hb dX12_dialect_55 (by decide) (fun c_12 => ?_) (fun c_12 => ?_)
          · refine lv_iconst (v := 1) hx hb dX12_dialect_64 (by decide) ?_
            refine lv_goto (tgt := 69) hx hb dX12_dialect_65 (by decide) ?_
            refine lv_istore_n (lv' := [(3, .int 1), (0, .ref m0), (1, .int 0), (2, .int zb)]) hx hb dX12_dialect_69 rfl hl (by decide) rfl (fun ls hl => ?_)
            refine lv_goto (tgt := 158) hx hb dX12_dialect_70 (by decide) ?_
            refine lv_iload_n hx hb dX12_dialect_158 rfl (lv_at hl 0 rfl) ?_
            refine lv_if_eq (tgt := 173) hx hb dX12_dialect_159 (by decide) (fun c_13 => absurd c_13 (by decide)) (fun c_13 => ?_)
            refine lv_aload_n hx hb dX12_dialect_162 rfl (lv_at hl 1 rfl) ?_
            refine va_get (D := D) (ci := 12) (v := .ref a0) (C := RX12) (T := TX12) (N := 30) hx hb hts inlX12 hown hK hP 0 rfl rfl 0 (by decide) (hts _ mw_187) (fun _ h9 => h9) rfl dX12_dialect_163 ?_
            refine lv_sipush (v := 21369) hx hb dX12_dialect_166 (by decide) ?_
            refine lv_iload_n hx hb dX12_dialect_169 rfl (lv_at hl 2 rfl) ?_
            refine lv_iadd hx hb dX12_dialect_170 ?_
            refine ki (v := 21369) (by decide) ?_
            refine lv_iload_n hx hb dX12_dialect_171 rfl (lv_at hl 3 rfl) ?_
            refine va_iast hx hb hK hP hD hS 1 0 rfl rfl (i := 21369) (x := zb) (vp_k (by decide)) dX12_dialect_172 (fun H locs hP hD hS => ?_)
            have hP : va_P D vwCl [(m0, .inr (12, [.ref a0, .ref a1, .ref a2, .int (nI u3), .int f4, .ref a5, .int (nI u6), .int f7, .int f8, .int f9, .int f10, .int (nI u11), .int (nI u12), .int (nI u13), .ref a14, .ref a15, .ref a16, .ref a17, .int f18, .int f19, .ref a20, .ref a21, .int (nI u22), .ref a23, .ref a24, .ref a25, .int (nI u26), .int f27, .ref a28, .int (nI u29)])), (a0, .inl (κ 0, 21375, .inl (upd w 21369 zb)))] H := hP
            have hD : va_D A [(m0, .inr (12, [.ref a0, .ref a1, .ref a2, .int (nI u3), .int f4, .ref a5, .int (nI u6), .int f7, .int f8, .int f9, .int f10, .int (nI u11), .int (nI u12), .int (nI u13), .ref a14, .ref a15, .ref a16, .ref a17, .int f18, .int f19, .ref a20, .ref a21, .int (nI u22), .ref a23, .ref a24, .ref a25, .int (nI u26), .int f27, .ref a28, .int (nI u29)])), (a0, .inl (κ 0, 21375, .inl (upd w 21369 zb)))] := hD
            have hf_15 : Pw (upd w 21369 zb) := (Pw_free h_a0 (fDIAL (by omega)))
            generalize upd w 21369 zb = g_14 at hP hD hf_15
            refine lv_iload_n hx hb dX12_dialect_173 rfl (lv_at hl 0 rfl) ?_
            exact ct_iret hx hb hr hlk rfl hS hP hD (1, g_14) rfl ⟨(show Pw g_14 from (by first | assumption | omega | rfl | exact Or.inl (by assumption) | exact Or.inr (by assumption))), (by exact Or.inl (⟨rfl, (show dOk 0 zb from (by first | exact dOk_4 (by omega) | (unfold dOk; simp_all; done)))⟩))⟩ [0, 1] rfl (by decide) trivial (Nat.le_of_ble_eq_true rfl) (Nat.le_of_ble_eq_true rfl) dX12_dialect_174
          · refine lv_iload_n hx hb dX12_dialect_58 rfl (lv_at hl 2 rfl) ?_
            refine lv_bipush (v := 9) hx hb dX12_dialect_59 (by decide) ?_
            refine lv_icmp_ne (tgt := 68) hx hb dX12_dialect_61 (by decide) (fun c_16 => ?_) (fun c_16 => ?_)
            · refine lv_iconst (v := 0) hx hb dX12_dialect_68 (by decide) ?_
              refine lv_istore_n (lv' := [(3, .int 0), (0, .ref m0), (1, .int 0), (2, .int zb)]) hx hb dX12_dialect_69 rfl hl (by decide) rfl (fun ls hl => ?_)
              refine lv_goto (tgt := 158) hx hb dX12_dialect_70 (by decide) ?_
              refine lv_iload_n hx hb dX12_dialect_158 rfl (lv_at hl 0 rfl) ?_
              refine lv_if_eq (tgt := 173) hx hb dX12_dialect_159 (by decide) (fun c_17 => ?_) (fun c_17 => absurd (by decide) c_17)
              refine lv_iload_n hx hb dX12_dialect_173 rfl (lv_at hl 0 rfl) ?_
              exact ct_iret hx hb hr hlk rfl hS hP hD (0, w) rfl ⟨(show Pw w from (by first | assumption | omega | rfl | exact Or.inl (by assumption) | exact Or.inr (by assumption))), (by exact Or.inr ((⟨rfl, (show ¬ dOk 0 zb from (by first | exact dOk_4n (by omega) | (unfold dOk; simp_all; done) | (unfold dOk; simp_all; decide)))⟩)))⟩ [0, 1] rfl (by decide) trivial (Nat.le_of_ble_eq_true rfl) (Nat.le_of_ble_eq_true rfl) dX12_dialect_174
            · refine lv_iconst (v := 1) hx hb dX12_dialect_64 (by decide) ?_
              refine lv_goto (tgt := 69) hx hb dX12_dialect_65 (by decide) ?_
              refine lv_istore_n (lv' := [(3, .int 1), (0, .ref m0), (1, .int 0), (2, .int zb)]) hx hb dX12_dialect_69 rfl hl (by decide) rfl (fun ls hl => ?_)
              refine lv_goto (tgt := 158) hx hb dX12_dialect_70 (by decide) ?_
              refine lv_iload_n hx hb dX12_dialect_158 rfl (lv_at hl 0 rfl) ?_
              refine lv_if_eq (tgt := 173) hx hb dX12_dialect_159 (by decide) (fun c_18 => absurd c_18 (by decide)) (fun c_18 => ?_)
              refine lv_aload_n hx hb dX12_dialect_162 rfl (lv_at hl 1 rfl) ?_
              refine va_get (D := D) (ci := 12) (v := .ref a0) (C := RX12) (T := TX12) (N := 30) hx hb hts inlX12 hown hK hP 0 rfl rfl 0 (by decide) (hts _ mw_187) (fun _ h9 => h9) rfl dX12_dialect_163 ?_
              refine lv_sipush (v := 21369) hx hb dX12_dialect_166 (by decide) ?_
              refine lv_iload_n hx hb dX12_dialect_169 rfl (lv_at hl 2 rfl) ?_
              refine lv_iadd hx hb dX12_dialect_170 ?_
              refine ki (v := 21369) (by decide) ?_
              refine lv_iload_n hx hb dX12_dialect_171 rfl (lv_at hl 3 rfl) ?_
              refine va_iast hx hb hK hP hD hS 1 0 rfl rfl (i := 21369) (x := zb) (vp_k (by decide)) dX12_dialect_172 (fun H locs hP hD hS => ?_)
              have hP : va_P D vwCl [(m0, .inr (12, [.ref a0, .ref a1, .ref a2, .int (nI u3), .int f4, .ref a5, .int (nI u6), .int f7, .int f8, .int f9, .int f10, .int (nI u11), .int (nI u12), .int (nI u13), .ref a14, .ref a15, .ref a16, .ref a17, .int f18, .int f19, .ref a20, .ref a21, .int (nI u22), .ref a23, .ref a24, .ref a25, .int (nI u26), .int f27, .ref a28, .int (nI u29)])), (a0, .inl (κ 0, 21375, .inl (upd w 21369 zb)))] H := hP
              have hD : va_D A [(m0, .inr (12, [.ref a0, .ref a1, .ref a2, .int (nI u3), .int f4, .ref a5, .int (nI u6), .int f7, .int f8, .int f9, .int f10, .int (nI u11), .int (nI u12), .int (nI u13), .ref a14, .ref a15, .ref a16, .ref a17, .int f18, .int f19, .ref a20, .ref a21, .int (nI u22), .ref a23, .ref a24, .ref a25, .int (nI u26), .int f27, .ref a28, .int (nI u29)])), (a0, .inl (κ 0, 21375, .inl (upd w 21369 zb)))] := hD
              have hf_20 : Pw (upd w 21369 zb) := (Pw_free h_a0 (fDIAL (by omega)))
              generalize upd w 21369 zb = g_19 at hP hD hf_20
              refine lv_iload_n hx hb dX12_dialect_173 rfl (lv_at hl 0 rfl) ?_
              exact ct_iret hx hb hr hlk rfl hS hP hD (1, g_19) rfl ⟨(show Pw g_19 from (by first | assumption | omega | rfl | exact Or.inl (by assumption) | exact Or.inr (by assumption))), (by exact Or.inl (⟨rfl, (show dOk 0 zb from (by first | exact dOk_4 (by omega) | (unfold dOk; simp_all; done)))⟩))⟩ [0, 1] rfl (by decide) trivial (Nat.le_of_ble_eq_true rfl) (Nat.le_of_ble_eq_true rfl) dX12_dialect_174
    · refine lv_tableIn (tgt := 73) hx hb dX12_dialect_1 (by decide) (by decide) rfl (by decide) ?_
      refine lv_iload_n hx hb dX12_dialect_73 rfl (lv_at hl 2 rfl) ?_
      refine lv_bipush (v := 34) hx hb dX12_dialect_74 (by decide) ?_
      refine lv_icmp_eq (tgt := 85) hx hb dX12_dialect_76 (by decide) (fun c_21 => ?_) (fun c_21 => ?_)
      · refine lv_iconst (v := 1) hx hb dX12_dialect_85 (by decide) ?_
        refine lv_goto (tgt := 90) hx hb dX12_dialect_86 (by decide) ?_
        refine lv_istore_n (lv' := [(3, .int 1), (0, .ref m0), (1, .int 1), (2, .int zb)]) hx hb dX12_dialect_90 rfl hl (by decide) rfl (fun ls hl => ?_)
        refine lv_goto (tgt := 158) hx hb dX12_dialect_91 (by decide) ?_
        refine lv_iload_n hx hb dX12_dialect_158 rfl (lv_at hl 0 rfl) ?_
        refine lv_if_eq (tgt := 173) hx hb dX12_dialect_159 (by decide) (fun c_22 => absurd c_22 (by decide)) (fun c_22 => ?_)
        refine lv_aload_n hx hb dX12_dialect_162 rfl (lv_at hl 1 rfl) ?_
        refine va_get (D := D) (ci := 12) (v := .ref a0) (C := RX12) (T := TX12) (N := 30) hx hb hts inlX12 hown hK hP 0 rfl rfl 0 (by decide) (hts _ mw_187) (fun _ h9 => h9) rfl dX12_dialect_163 ?_
        refine lv_sipush (v := 21369) hx hb dX12_dialect_166 (by decide) ?_
        refine lv_iload_n hx hb dX12_dialect_169 rfl (lv_at hl 2 rfl) ?_
        refine lv_iadd hx hb dX12_dialect_170 ?_
        refine ki (v := 21370) (by decide) ?_
        refine lv_iload_n hx hb dX12_dialect_171 rfl (lv_at hl 3 rfl) ?_
        refine va_iast hx hb hK hP hD hS 1 0 rfl rfl (i := 21370) (x := zb) (vp_k (by decide)) dX12_dialect_172 (fun H locs hP hD hS => ?_)
        have hP : va_P D vwCl [(m0, .inr (12, [.ref a0, .ref a1, .ref a2, .int (nI u3), .int f4, .ref a5, .int (nI u6), .int f7, .int f8, .int f9, .int f10, .int (nI u11), .int (nI u12), .int (nI u13), .ref a14, .ref a15, .ref a16, .ref a17, .int f18, .int f19, .ref a20, .ref a21, .int (nI u22), .ref a23, .ref a24, .ref a25, .int (nI u26), .int f27, .ref a28, .int (nI u29)])), (a0, .inl (κ 0, 21375, .inl (upd w 21370 zb)))] H := hP
        have hD : va_D A [(m0, .inr (12, [.ref a0, .ref a1, .ref a2, .int (nI u3), .int f4, .ref a5, .int (nI u6), .int f7, .int f8, .int f9, .int f10, .int (nI u11), .int (nI u12), .int (nI u13), .ref a14, .ref a15, .ref a16, .ref a17, .int f18, .int f19, .ref a20, .ref a21, .int (nI u22), .ref a23, .ref a24, .ref a25, .int (nI u26), .int f27, .ref a28, .int (nI u29)])), (a0, .inl (κ 0, 21375, .inl (upd w 21370 zb)))] := hD
        have hf_24 : Pw (upd w 21370 zb) := (Pw_free h_a0 (fDIAL (by omega)))
        generalize upd w 21370 zb = g_23 at hP hD hf_24
        refine lv_iload_n hx hb dX12_dialect_173 rfl (lv_at hl 0 rfl) ?_
        exact ct_iret hx hb hr hlk rfl hS hP hD (1, g_23) rfl ⟨(show Pw g_23 from (by first | assumption | omega | rfl | exact Or.inl (by assumption) | exact Or.inr (by assumption))), (by exact Or.inl (⟨rfl, (show dOk 1 zb from (by first | exact dOk_4 (by omega) | (unfold dOk; simp_all; done)))⟩))⟩ [0, 1] rfl (by decide) trivial (Nat.le_of_ble_eq_true rfl) (Nat.le_of_ble_eq_true rfl) dX12_dialect_174
      · refine lv_iload_n hx hb dX12_dialect_79 rfl (lv_at hl 2 rfl) ?_
        refine lv_bipush (v := 39) hx hb dX12_dialect_80 (by decide) ?_
        refine lv_icmp_ne (tgt := 89) hx hb dX12_dialect_82 (by decide) (fun c_25 => ?_) (fun c_25 => ?_)
        · refine lv_iconst (v := 0) hx hb dX12_dialect_89 (by decide) ?_
          refine lv_istore_n (lv' := [(3, .int 0), (0, .ref m0), (1, .int 1), (2, .int zb)]) hx hb dX12_dialect_90 rfl hl (by decide) rfl (fun ls hl => ?_)
          refine lv_goto (tgt := 158) hx hb dX12_dialect_91 (by decide) ?_
          refine lv_iload_n hx hb dX12_dialect_158 rfl (lv_at hl 0 rfl) ?_
          refine lv_if_eq (tgt := 173) hx hb dX12_dialect_159 (by decide) (fun c_26 => ?_) (fun c_26 => absurd (by decide) c_26)
          refine lv_iload_n hx hb dX12_dialect_173 rfl (lv_at hl 0 rfl) ?_
          exact ct_iret hx hb hr hlk rfl hS hP hD (0, w) rfl ⟨(show Pw w from (by first | assumption | omega | rfl | exact Or.inl (by assumption) | exact Or.inr (by assumption))), (by exact Or.inr ((⟨rfl, (show ¬ dOk 1 zb from (by first | exact dOk_4n (by omega) | (unfold dOk; simp_all; done) | (unfold dOk; simp_all; decide)))⟩)))⟩ [0, 1] rfl (by decide) trivial (Nat.le_of_ble_eq_true rfl) (Nat.le_of_ble_eq_true rfl) dX12_dialect_174
        · refine lv_iconst (v := 1) hx hb dX12_dialect_85 (by decide) ?_
          refine lv_goto (tgt := 90) hx hb dX12_dialect_86 (by decide) ?_
          refine lv_istore_n (lv' := [(3, .int 1), (0, .ref m0), (1, .int 1), (2, .int zb)]) hx hb dX12_dialect_90 rfl hl (by decide) rfl (fun ls hl => ?_)
          refine lv_goto (tgt := 158) hx hb dX12_dialect_91 (by decide) ?_
          refine lv_iload_n hx hb dX12_dialect_158 rfl (lv_at hl 0 rfl) ?_
          refine lv_if_eq (tgt := 173) hx hb dX12_dialect_159 (by decide) (fun c_27 => absurd c_27 (by decide)) (fun c_27 => ?_)
          refine lv_aload_n hx hb dX12_dialect_162 rfl (lv_at hl 1 rfl) ?_
          refine va_get (D := D) (ci := 12) (v := .ref a0) (C := RX12) (T := TX12) (N := 30) hx hb hts inlX12 hown hK hP 0 rfl rfl 0 (by decide) (hts _ mw_187) (fun _ h9 => h9) rfl dX12_dialect_163 ?_
          refine lv_sipush (v := 21369) hx hb dX12_dialect_166 (by decide) ?_
          refine lv_iload_n hx hb dX12_dialect_169 rfl (lv_at hl 2 rfl) ?_
          refine lv_iadd hx hb dX12_dialect_170 ?_
          refine ki (v := 21370) (by decide) ?_
          refine lv_iload_n hx hb dX12_dialect_171 rfl (lv_at hl 3 rfl) ?_
          refine va_iast hx hb hK hP hD hS 1 0 rfl rfl (i := 21370) (x := zb) (vp_k (by decide)) dX12_dialect_172 (fun H locs hP hD hS => ?_)
          have hP : va_P D vwCl [(m0, .inr (12, [.ref a0, .ref a1, .ref a2, .int (nI u3), .int f4, .ref a5, .int (nI u6), .int f7, .int f8, .int f9, .int f10, .int (nI u11), .int (nI u12), .int (nI u13), .ref a14, .ref a15, .ref a16, .ref a17, .int f18, .int f19, .ref a20, .ref a21, .int (nI u22), .ref a23, .ref a24, .ref a25, .int (nI u26), .int f27, .ref a28, .int (nI u29)])), (a0, .inl (κ 0, 21375, .inl (upd w 21370 zb)))] H := hP
          have hD : va_D A [(m0, .inr (12, [.ref a0, .ref a1, .ref a2, .int (nI u3), .int f4, .ref a5, .int (nI u6), .int f7, .int f8, .int f9, .int f10, .int (nI u11), .int (nI u12), .int (nI u13), .ref a14, .ref a15, .ref a16, .ref a17, .int f18, .int f19, .ref a20, .ref a21, .int (nI u22), .ref a23, .ref a24, .ref a25, .int (nI u26), .int f27, .ref a28, .int (nI u29)])), (a0, .inl (κ 0, 21375, .inl (upd w 21370 zb)))] := hD
          have hf_29 : Pw (upd w 21370 zb) := (Pw_free h_a0 (fDIAL (by omega)))
          generalize upd w 21370 zb = g_28 at hP hD hf_29
          refine lv_iload_n hx hb dX12_dialect_173 rfl (lv_at hl 0 rfl) ?_
          exact ct_iret hx hb hr hlk rfl hS hP hD (1, g_28) rfl ⟨(show Pw g_28 from (by first | assumption | omega | rfl | exact Or.inl (by assumption) | exact Or.inr (by assumption))), (by exact Or.inl (⟨rfl, (show dOk 1 zb from (by first | exact dOk_4 (by omega) | (unfold dOk; simp_all; done)))⟩))⟩ [0, 1] rfl (by decide) trivial (Nat.le_of_ble_eq_true rfl) (Nat.le_of_ble_eq_true rfl) dX12_dialect_174
    · refine lv_tableIn (tgt := 94) hx hb dX12_dialect_1 (by decide) (by decide) rfl (by decide) ?_
      refine lv_iload_n hx hb dX12_dialect_94 rfl (lv_at hl 2 rfl) ?_
      refine lv_if_eq (tgt := 103) hx hb dX12_dialect_95 (by decide) (fun c_30 => ?_) (fun c_30 => ?_)
      · refine lv_iconst (v := 1) hx hb dX12_dialect_103 (by decide) ?_
        refine lv_goto (tgt := 108) hx hb dX12_dialect_104 (by decide) ?_
        refine lv_istore_n (lv' := [(3, .int 1), (0, .ref m0), (1, .int 2), (2, .int zb)]) hx hb dX12_dialect_108 rfl hl (by decide) rfl (fun ls hl => ?_)
        refine lv_goto (tgt := 158) hx hb dX12_dialect_109 (by decide) ?_
        refine lv_iload_n hx hb dX12_dialect_158 rfl (lv_at hl 0 rfl) ?_
        refine lv_if_eq (tgt := 173) hx hb dX12_dialect_159 (by decide) (fun c_31 => absurd c_31 (by decide)) (fun c_31 => ?_)
        refine lv_aload_n hx hb dX12_dialect_162 rfl (lv_at hl 1 rfl) ?_
        refine va_get (D := D) (ci := 12) (v := .ref a0) (C := RX12) (T := TX12) (N := 30) hx hb hts inlX12 hown hK hP 0 rfl rfl 0 (by decide) (hts _ mw_187) (fun _ h9 => h9) rfl dX12_dialect_163 ?_
        refine lv_sipush (v := 21369) hx hb dX12_dialect_166 (by decide) ?_
        refine lv_iload_n hx hb dX12_dialect_169 rfl (lv_at hl 2 rfl) ?_
        refine lv_iadd hx hb dX12_dialect_170 ?_
        refine ki (v := 21371) (by decide) ?_
        refine lv_iload_n hx hb dX12_dialect_171 rfl (lv_at hl 3 rfl) ?_
        refine va_iast hx hb hK hP hD hS 1 0 rfl rfl (i := 21371) (x := zb) (vp_k (by decide)) dX12_dialect_172 (fun H locs hP hD hS => ?_)
        have hP : va_P D vwCl [(m0, .inr (12, [.ref a0, .ref a1, .ref a2, .int (nI u3), .int f4, .ref a5, .int (nI u6), .int f7, .int f8, .int f9, .int f10, .int (nI u11), .int (nI u12), .int (nI u13), .ref a14, .ref a15, .ref a16, .ref a17, .int f18, .int f19, .ref a20, .ref a21, .int (nI u22), .ref a23, .ref a24, .ref a25, .int (nI u26), .int f27, .ref a28, .int (nI u29)])), (a0, .inl (κ 0, 21375, .inl (upd w 21371 zb)))] H := hP
        have hD : va_D A [(m0, .inr (12, [.ref a0, .ref a1, .ref a2, .int (nI u3), .int f4, .ref a5, .int (nI u6), .int f7, .int f8, .int f9, .int f10, .int (nI u11), .int (nI u12), .int (nI u13), .ref a14, .ref a15, .ref a16, .ref a17, .int f18, .int f19, .ref a20, .ref a21, .int (nI u22), .ref a23, .ref a24, .ref a25, .int (nI u26), .int f27, .ref a28, .int (nI u29)])), (a0, .inl (κ 0, 21375, .inl (upd w 21371 zb)))] := hD
        have hf_33 : Pw (upd w 21371 zb) := (Pw_free h_a0 (fDIAL (by omega)))
        generalize upd w 21371 zb = g_32 at hP hD hf_33
        refine lv_iload_n hx hb dX12_dialect_173 rfl (lv_at hl 0 rfl) ?_
        exact ct_iret hx hb hr hlk rfl hS hP hD (1, g_32) rfl ⟨(show Pw g_32 from (by first | assumption | omega | rfl | exact Or.inl (by assumption) | exact Or.inr (by assumption))), (by exact Or.inl (⟨rfl, (show dOk 2 zb from (by first | exact dOk_4 (by omega) | (unfold dOk; simp_all; done)))⟩))⟩ [0, 1] rfl (by decide) trivial (Nat.le_of_ble_eq_true rfl) (Nat.le_of_ble_eq_true rfl) dX12_dialect_174
      · refine lv_iload_n hx hb dX12_dialect_98 rfl (lv_at hl 2 rfl) ?_
        refine lv_iconst (v := 1) hx hb dX12_dialect_99 (by decide) ?_
        refine lv_icmp_ne (tgt := 107) hx hb dX12_dialect_100 (by decide) (fun c_34 => ?_) (fun c_34 => ?_)
        · refine lv_iconst (v := 0) hx hb dX12_dialect_107 (by decide) ?_
          refine lv_istore_n (lv' := [(3, .int 0), (0, .ref m0), (1, .int 2), (2, .int zb)]) hx hb dX12_dialect_108 rfl hl (by decide) rfl (fun ls hl => ?_)
          refine lv_goto (tgt := 158) hx hb dX12_dialect_109 (by decide) ?_
          refine lv_iload_n hx hb dX12_dialect_158 rfl (lv_at hl 0 rfl) ?_
          refine lv_if_eq (tgt := 173) hx hb dX12_dialect_159 (by decide) (fun c_35 => ?_) (fun c_35 => absurd (by decide) c_35)
          refine lv_iload_n hx hb dX12_dialect_173 rfl (lv_at hl 0 rfl) ?_
          exact ct_iret hx hb hr hlk rfl hS hP hD (0, w) rfl ⟨(show Pw w from (by first | assumption | omega | rfl | exact Or.inl (by assumption) | exact Or.inr (by assumption))), (by exact Or.inr ((⟨rfl, (show ¬ dOk 2 zb from (by first | exact dOk_4n (by omega) | (unfold dOk; simp_all; done) | (unfold dOk; simp_all; decide)))⟩)))⟩ [0, 1] rfl (by decide) trivial (Nat.le_of_ble_eq_true rfl) (Nat.le_of_ble_eq_true rfl) dX12_dialect_174
        · refine lv_iconst (v := 1) hx hb dX12_dialect_103 (by decide) ?_
          refine lv_goto (tgt := 108) hx hb dX12_dialect_104 (by decide) ?_
          refine lv_istore_n (lv' := [(3, .int 1), (0, .ref m0), (1, .int 2), (2, .int zb)]) hx hb dX12_dialect_108 rfl hl (by decide) rfl (fun ls hl => ?_)
          refine lv_goto (tgt := 158) hx hb dX12_dialect_109 (by decide) ?_
          refine lv_iload_n hx hb dX12_dialect_158 rfl (lv_at hl 0 rfl) ?_
          refine lv_if_eq (tgt := 173) hx hb dX12_dialect_159 (by decide) (fun c_36 => absurd c_36 (by decide)) (fun c_36 => ?_)
          refine lv_aload_n hx hb dX12_dialect_162 rfl (lv_at hl 1 rfl) ?_
          refine va_get (D := D) (ci := 12) (v := .ref a0) (C := RX12) (T := TX12) (N := 30) hx hb hts inlX12 hown hK hP 0 rfl rfl 0 (by decide) (hts _ mw_187) (fun _ h9 => h9) rfl dX12_dialect_163 ?_
          refine lv_sipush (v := 21369) hx hb dX12_dialect_166 (by decide) ?_
          refine lv_iload_n hx hb dX12_dialect_169 rfl (lv_at hl 2 rfl) ?_
          refine lv_iadd hx hb dX12_dialect_170 ?_
          refine ki (v := 21371) (by decide) ?_
          refine lv_iload_n hx hb dX12_dialect_171 rfl (lv_at hl 3 rfl) ?_
          refine va_iast hx hb hK hP hD hS 1 0 rfl rfl (i := 21371) (x := zb) (vp_k (by decide)) dX12_dialect_172 (fun H locs hP hD hS => ?_)
          have hP : va_P D vwCl [(m0, .inr (12, [.ref a0, .ref a1, .ref a2, .int (nI u3), .int f4, .ref a5, .int (nI u6), .int f7, .int f8, .int f9, .int f10, .int (nI u11), .int (nI u12), .int (nI u13), .ref a14, .ref a15, .ref a16, .ref a17, .int f18, .int f19, .ref a20, .ref a21, .int (nI u22), .ref a23, .ref a24, .ref a25, .int (nI u26), .int f27, .ref a28, .int (nI u29)])), (a0, .inl (κ 0, 21375, .inl (upd w 21371 zb)))] H := hP
          have hD : va_D A [(m0, .inr (12, [.ref a0, .ref a1, .ref a2, .int (nI u3), .int f4, .ref a5, .int (nI u6), .int f7, .int f8, .int f9, .int f10, .int (nI u11), .int (nI u12), .int (nI u13), .ref a14, .ref a15, .ref a16, .ref a17, .int f18, .int f19, .ref a20, .ref a21, .int (nI u22), .ref a23, .ref a24, .ref a25, .int (nI u26), .int f27, .ref a28, .int (nI u29)])), (a0, .inl (κ 0, 21375, .inl (upd w 21371 zb)))] := hD
          have hf_38 : Pw (upd w 21371 zb) := (Pw_free h_a0 (fDIAL (by omega)))
          generalize upd w 21371 zb = g_37 at hP hD hf_38
          refine lv_iload_n hx hb dX12_dialect_173 rfl (lv_at hl 0 rfl) ?_
          exact ct_iret hx hb hr hlk rfl hS hP hD (1, g_37) rfl ⟨(show Pw g_37 from (by first | assumption | omega | rfl | exact Or.inl (by assumption) | exact Or.inr (by assumption))), (by exact Or.inl (⟨rfl, (show dOk 2 zb from (by first | exact dOk_4 (by omega) | (unfold dOk; simp_all; done)))⟩))⟩ [0, 1] rfl (by decide) trivial (Nat.le_of_ble_eq_true rfl) (Nat.le_of_ble_eq_true rfl) dX12_dialect_174
    · refine lv_tableIn (tgt := 94) hx hb dX12_dialect_1 (by decide) (by decide) rfl (by decide) ?_
      refine lv_iload_n hx hb dX12_dialect_94 rfl (lv_at hl 2 rfl) ?_
      refine lv_if_eq (tgt := 103) hx hb dX12_dialect_95 (by decide) (fun c_39 => ?_) (fun c_39 => ?_)
      · refine lv_iconst (v := 1) hx hb dX12_dialect_103 (by decide) ?_
        refine lv_goto (tgt := 108) hx hb dX12_dialect_104 (by decide) ?_
        refine lv_istore_n (lv' := [(3, .int 1), (0, .ref m0), (1, .int 3), (2, .int zb)]) hx hb dX12_dialect_108 rfl hl (by decide) rfl (fun ls hl => ?_)
        refine lv_goto (tgt := 158) hx hb dX12_dialect_109 (by decide) ?_
        refine lv_iload_n hx hb dX12_dialect_158 rfl (lv_at hl 0 rfl) ?_
        refine lv_if_eq (tgt := 173) hx hb dX12_dialect_159 (by decide) (fun c_40 => absurd c_40 (by decide)) (fun c_40 => ?_)
        refine lv_aload_n hx hb dX12_dialect_162 rfl (lv_at hl 1 rfl) ?_
        refine va_get (D := D) (ci := 12) (v := .ref a0) (C := RX12) (T := TX12) (N := 30) hx hb hts inlX12 hown hK hP 0 rfl rfl 0 (by decide) (hts _ mw_187) (fun _ h9 => h9) rfl dX12_dialect_163 ?_
        refine lv_sipush (v := 21369) hx hb dX12_dialect_166 (by decide) ?_
        refine lv_iload_n hx hb dX12_dialect_169 rfl (lv_at hl 2 rfl) ?_
        refine lv_iadd hx hb dX12_dialect_170 ?_
        refine ki (v := 21372) (by decide) ?_
        refine lv_iload_n hx hb dX12_dialect_171 rfl (lv_at hl 3 rfl) ?_
        refine va_iast hx hb hK hP hD hS 1 0 rfl rfl (i := 21372) (x := zb) (vp_k (by decide)) dX12_dialect_172 (fun H locs hP hD hS => ?_)
        have hP : va_P D vwCl [(m0, .inr (12, [.ref a0, .ref a1, .ref a2, .int (nI u3), .int f4, .ref a5, .int (nI u6), .int f7, .int f8, .int f9, .int f10, .int (nI u11), .int (nI u12), .int (nI u13), .ref a14, .ref a15, .ref a16, .ref a17, .int f18, .int f19, .ref a20, .ref a21, .int (nI u22), .ref a23, .ref a24, .ref a25, .int (nI u26), .int f27, .ref a28, .int (nI u29)])), (a0, .inl (κ 0, 21375, .inl (upd w 21372 zb)))] H := hP
        have hD : va_D A [(m0, .inr (12, [.ref a0, .ref a1, .ref a2, .int (nI u3), .int f4, .ref a5, .int (nI u6), .int f7, .int f8, .int f9, .int f10, .int (nI u11), .int (nI u12), .int (nI u13), .ref a14, .ref a15, .ref a16, .ref a17, .int f18, .int f19, .ref a20, .ref a21, .int (nI u22), .ref a23, .ref a24, .ref a25, .int (nI u26), .int f27, .ref a28, .int (nI u29)])), (a0, .inl (κ 0, 21375, .inl (upd w 21372 zb)))] := hD
        have hf_42 : Pw (upd w 21372 zb) := (Pw_free h_a0 (fDIAL (by omega)))
        generalize upd w 21372 zb = g_41 at hP hD hf_42
        refine lv_iload_n hx hb dX12_dialect_173 rfl (lv_at hl 0 rfl) ?_
        exact ct_iret hx hb hr hlk rfl hS hP hD (1, g_41) rfl ⟨(show Pw g_41 from (by first | assumption | omega | rfl | exact Or.inl (by assumption) | exact Or.inr (by assumption))), (by exact Or.inl (⟨rfl, (show dOk 3 zb from (by first | exact dOk_4 (by omega) | (unfold dOk; simp_all; done)))⟩))⟩ [0, 1] rfl (by decide) trivial (Nat.le_of_ble_eq_true rfl) (Nat.le_of_ble_eq_true rfl) dX12_dialect_174
      · refine lv_iload_n hx hb dX12_dialect_98 rfl (lv_at hl 2 rfl) ?_
        refine lv_iconst (v := 1) hx hb dX12_dialect_99 (by decide) ?_
        refine lv_icmp_ne (tgt := 107) hx hb dX12_dialect_100 (by decide) (fun c_43 => ?_) (fun c_43 => ?_)
        · refine lv_iconst (v := 0) hx hb dX12_dialect_107 (by decide) ?_
          refine lv_istore_n (lv' := [(3, .int 0), (0, .ref m0), (1, .int 3), (2, .int zb)]) hx hb dX12_dialect_108 rfl hl (by decide) rfl (fun ls hl => ?_)
          refine lv_goto (tgt := 158) hx hb dX12_dialect_109 (by decide) ?_
          refine lv_iload_n hx hb dX12_dialect_158 rfl (lv_at hl 0 rfl) ?_
          refine lv_if_eq (tgt := 173) hx hb dX12_dialect_159 (by decide) (fun c_44 => ?_) (fun c_44 => absurd (by decide) c_44)
          refine lv_iload_n hx hb dX12_dialect_173 rfl (lv_at hl 0 rfl) ?_
          exact ct_iret hx hb hr hlk rfl hS hP hD (0, w) rfl ⟨(show Pw w from (by first | assumption | omega | rfl | exact Or.inl (by assumption) | exact Or.inr (by assumption))), (by exact Or.inr ((⟨rfl, (show ¬ dOk 3 zb from (by first | exact dOk_4n (by omega) | (unfold dOk; simp_all; done) | (unfold dOk; simp_all; decide)))⟩)))⟩ [0, 1] rfl (by decide) trivial (Nat.le_of_ble_eq_true rfl) (Nat.le_of_ble_eq_true rfl) dX12_dialect_174
        · refine lv_iconst (v := 1) hx hb dX12_dialect_103 (by decide) ?_
          refine lv_goto (tgt := 108) hx hb dX12_dialect_104 (by decide) ?_
          refine lv_istore_n (lv' := [(3, .int 1), (0, .ref m0), (1, .int 3), (2, .int zb)]) hx hb dX12_dialect_108 rfl hl (by decide) rfl (fun ls hl => ?_)
          refine lv_goto (tgt := 158) hx hb dX12_dialect_109 (by decide) ?_
          refine lv_iload_n hx hb dX12_dialect_158 rfl (lv_at hl 0 rfl) ?_
          refine lv_if_eq (tgt := 173) hx hb dX12_dialect_159 (by decide) (fun c_45 => absurd c_45 (by decide)) (fun c_45 => ?_)
          refine lv_aload_n hx hb dX12_dialect_162 rfl (lv_at hl 1 rfl) ?_
          refine va_get (D := D) (ci := 12) (v := .ref a0) (C := RX12) (T := TX12) (N := 30) hx hb hts inlX12 hown hK hP 0 rfl rfl 0 (by decide) (hts _ mw_187) (fun _ h9 => h9) rfl dX12_dialect_163 ?_
          refine lv_sipush (v := 21369) hx hb dX12_dialect_166 (by decide) ?_
          refine lv_iload_n hx hb dX12_dialect_169 rfl (lv_at hl 2 rfl) ?_
          refine lv_iadd hx hb dX12_dialect_170 ?_
          refine ki (v := 21372) (by decide) ?_
          refine lv_iload_n hx hb dX12_dialect_171 rfl (lv_at hl 3 rfl) ?_
          refine va_iast hx hb hK hP hD hS 1 0 rfl rfl (i := 21372) (x := zb) (vp_k (by decide)) dX12_dialect_172 (fun H locs hP hD hS => ?_)
          have hP : va_P D vwCl [(m0, .inr (12, [.ref a0, .ref a1, .ref a2, .int (nI u3), .int f4, .ref a5, .int (nI u6), .int f7, .int f8, .int f9, .int f10, .int (nI u11), .int (nI u12), .int (nI u13), .ref a14, .ref a15, .ref a16, .ref a17, .int f18, .int f19, .ref a20, .ref a21, .int (nI u22), .ref a23, .ref a24, .ref a25, .int (nI u26), .int f27, .ref a28, .int (nI u29)])), (a0, .inl (κ 0, 21375, .inl (upd w 21372 zb)))] H := hP
          have hD : va_D A [(m0, .inr (12, [.ref a0, .ref a1, .ref a2, .int (nI u3), .int f4, .ref a5, .int (nI u6), .int f7, .int f8, .int f9, .int f10, .int (nI u11), .int (nI u12), .int (nI u13), .ref a14, .ref a15, .ref a16, .ref a17, .int f18, .int f19, .ref a20, .ref a21, .int (nI u22), .ref a23, .ref a24, .ref a25, .int (nI u26), .int f27, .ref a28, .int (nI u29)])), (a0, .inl (κ 0, 21375, .inl (upd w 21372 zb)))] := hD
          have hf_47 : Pw (upd w 21372 zb) := (Pw_free h_a0 (fDIAL (by omega)))
          generalize upd w 21372 zb = g_46 at hP hD hf_47
          refine lv_iload_n hx hb dX12_dialect_173 rfl (lv_at hl 0 rfl) ?_
          exact ct_iret hx hb hr hlk rfl hS hP hD (1, g_46) rfl ⟨(show Pw g_46 from (by first | assumption | omega | rfl | exact Or.inl (by assumption) | exact Or.inr (by assumption))), (by exact Or.inl (⟨rfl, (show dOk 3 zb from (by first | exact dOk_4 (by omega) | (unfold dOk; simp_all; done)))⟩))⟩ [0, 1] rfl (by decide) trivial (Nat.le_of_ble_eq_true rfl) (Nat.le_of_ble_eq_true rfl) dX12_dialect_174
    · refine lv_tableIn (tgt := 112) hx hb dX12_dialect_1 (by decide) (by decide) rfl (by decide) ?_
      refine lv_iload_n hx hb dX12_dialect_112 rfl (lv_at hl 2 rfl) ?_
      refine lv_i2l (v := zb.toInt64) hx hb dX12_dialect_113 rfl ?_
      refine lv_lconst (v := 0) hx hb dX12_dialect_114 (by decide) ?_
      refine lv_ldc2 hx hb hown (hts _ mw_215) dX12_dialect_115 ?_
      refine cr_S (As := [.long zb.toInt64, .long 0, .long 3]) (rest := []) hFX hKK (s_X12_isIn l D κ zb.toInt64 0 3) 3 gS_X12_62 hdS_X12_isIn rfl rfl ⟨Nat.le_of_ble_eq_true rfl, Nat.le_of_ble_eq_true rfl⟩ rfl rfl (Nat.le_of_ble_eq_true rfl) dX12_dialect_118 ⟨Nat.le_of_ble_eq_true rfl, Nat.le_of_ble_eq_true rfl⟩ hl.1 (hP.sub [] rfl) (fun r__48 hp_49 => ?_)
      replace hp_49 : ((r__48 = 1 ∧ ¬ lg_cmp zb.toInt64 (0 : Int64) < 0 ∧ ¬ 0 < lg_cmp zb.toInt64 (3 : Int64)) ∨ (r__48 = 0 ∧ (lg_cmp zb.toInt64 (0 : Int64) < 0 ∨ 0 < lg_cmp zb.toInt64 (3 : Int64)))) := hp_49
      have ha_50 := hp_49
      clear hp_49
      rcases ha_50 with ⟨rfl, a_51, a_52⟩ | ⟨rfl, a_53⟩
      · refine W.eq (g2 := F0 m 121 ls [.int 1]) rfl ?_
        have hin_54 : (0 : Int) ≤ zb.toInt ∧ zb.toInt ≤ (3 : Int) := l_in (l_of rfl) (by decide) (by decide) a_51 a_52
        obtain ⟨j_55, hj_55, rfl⟩ : ∃ j9 : Nat, (j9 : Int) ≤ (3 : Int) ∧ zb = nI j9 := i_nat (by omega) (by omega)
        refine lv_istore_n (lv' := [(3, .int 1), (0, .ref m0), (1, .int 4), (2, .int (nI j_55))]) hx hb dX12_dialect_121 rfl hl (by decide) rfl (fun ls hl => ?_)
        refine lv_goto (tgt := 158) hx hb dX12_dialect_122 (by decide) ?_
        refine lv_iload_n hx hb dX12_dialect_158 rfl (lv_at hl 0 rfl) ?_
        refine lv_if_eq (tgt := 173) hx hb dX12_dialect_159 (by decide) (fun c_56 => absurd c_56 (by decide)) (fun c_56 => ?_)
        refine lv_aload_n hx hb dX12_dialect_162 rfl (lv_at hl 1 rfl) ?_
        refine va_get (D := D) (ci := 12) (v := .ref a0) (C := RX12) (T := TX12) (N := 30) hx hb hts inlX12 hown hK hP 0 rfl rfl 0 (by decide) (hts _ mw_187) (fun _ h9 => h9) rfl dX12_dialect_163 ?_
        refine lv_sipush (v := 21369) hx hb dX12_dialect_166 (by decide) ?_
        refine lv_iload_n hx hb dX12_dialect_169 rfl (lv_at hl 2 rfl) ?_
        refine lv_iadd hx hb dX12_dialect_170 ?_
        refine ki (v := 21373) (by decide) ?_
        refine lv_iload_n hx hb dX12_dialect_171 rfl (lv_at hl 3 rfl) ?_
        refine va_iast hx hb hK hP hD hS 1 0 rfl rfl (i := 21373) (x := nI j_55) (vp_k (by decide)) dX12_dialect_172 (fun H locs hP hD hS => ?_)
        have hP : va_P D vwCl [(m0, .inr (12, [.ref a0, .ref a1, .ref a2, .int (nI u3), .int f4, .ref a5, .int (nI u6), .int f7, .int f8, .int f9, .int f10, .int (nI u11), .int (nI u12), .int (nI u13), .ref a14, .ref a15, .ref a16, .ref a17, .int f18, .int f19, .ref a20, .ref a21, .int (nI u22), .ref a23, .ref a24, .ref a25, .int (nI u26), .int f27, .ref a28, .int (nI u29)])), (a0, .inl (κ 0, 21375, .inl (upd w 21373 (nI j_55))))] H := hP
        have hD : va_D A [(m0, .inr (12, [.ref a0, .ref a1, .ref a2, .int (nI u3), .int f4, .ref a5, .int (nI u6), .int f7, .int f8, .int f9, .int f10, .int (nI u11), .int (nI u12), .int (nI u13), .ref a14, .ref a15, .ref a16, .ref a17, .int f18, .int f19, .ref a20, .ref a21, .int (nI u22), .ref a23, .ref a24, .ref a25, .int (nI u26), .int f27, .ref a28, .int (nI u29)])), (a0, .inl (κ 0, 21375, .inl (upd w 21373 (nI j_55))))] := hD
        have hf_58 : Pw (upd w 21373 (nI j_55)) := (Pw_free h_a0 (fDIAL (by omega)))
        generalize upd w 21373 (nI j_55) = g_57 at hP hD hf_58
        refine lv_iload_n hx hb dX12_dialect_173 rfl (lv_at hl 0 rfl) ?_
        exact ct_iret hx hb hr hlk rfl hS hP hD (1, g_57) rfl ⟨(show Pw g_57 from (by first | assumption | omega | rfl | exact Or.inl (by assumption) | exact Or.inr (by assumption))), (by exact Or.inl (⟨rfl, (show dOk 4 (nI j_55) from (by first | exact dOk_4 (by omega) | (unfold dOk; simp_all; done)))⟩))⟩ [0, 1] rfl (by decide) trivial (Nat.le_of_ble_eq_true rfl) (Nat.le_of_ble_eq_true rfl) dX12_dialect_174
      · refine W.eq (g2 := F0 m 121 ls [.int 0]) rfl ?_
        have hin_59 : zb.toInt < (0 : Int) ∨ (3 : Int) < zb.toInt := l_out (l_of rfl) (by decide) (by decide) a_53
        refine lv_istore_n (lv' := [(3, .int 0), (0, .ref m0), (1, .int 4), (2, .int zb)]) hx hb dX12_dialect_121 rfl hl (by decide) rfl (fun ls hl => ?_)
        refine lv_goto (tgt := 158) hx hb dX12_dialect_122 (by decide) ?_
        refine lv_iload_n hx hb dX12_dialect_158 rfl (lv_at hl 0 rfl) ?_
        refine lv_if_eq (tgt := 173) hx hb dX12_dialect_159 (by decide) (fun c_60 => ?_) (fun c_60 => absurd (by decide) c_60)
        refine lv_iload_n hx hb dX12_dialect_173 rfl (lv_at hl 0 rfl) ?_
        exact ct_iret hx hb hr hlk rfl hS hP hD (0, w) rfl ⟨(show Pw w from (by first | assumption | omega | rfl | exact Or.inl (by assumption) | exact Or.inr (by assumption))), (by exact Or.inr ((⟨rfl, (show ¬ dOk 4 zb from (by first | exact dOk_4n (by omega) | (unfold dOk; simp_all; done) | (unfold dOk; simp_all; decide)))⟩)))⟩ [0, 1] rfl (by decide) trivial (Nat.le_of_ble_eq_true rfl) (Nat.le_of_ble_eq_true rfl) dX12_dialect_174
    · refine lv_tableIn (tgt := 125) hx hb dX12_dialect_1 (by decide) (by decide) rfl (by decide) ?_
      refine lv_iload_n hx hb dX12_dialect_125 rfl (lv_at hl 2 rfl) ?_
      refine lv_if_eq (tgt := 147) hx hb dX12_dialect_126 (by decide) (fun c_61 => ?_) (fun c_61 => ?_)
      · refine lv_iconst (v := 1) hx hb dX12_dialect_147 (by decide) ?_
        refine lv_goto (tgt := 152) hx hb dX12_dialect_148 (by decide) ?_
        refine lv_istore_n (lv' := [(3, .int 1), (0, .ref m0), (1, .int 5), (2, .int zb)]) hx hb dX12_dialect_152 rfl hl (by decide) rfl (fun ls hl => ?_)
        refine lv_goto (tgt := 158) hx hb dX12_dialect_153 (by decide) ?_
        refine lv_iload_n hx hb dX12_dialect_158 rfl (lv_at hl 0 rfl) ?_
        refine lv_if_eq (tgt := 173) hx hb dX12_dialect_159 (by decide) (fun c_62 => absurd c_62 (by decide)) (fun c_62 => ?_)
        refine lv_aload_n hx hb dX12_dialect_162 rfl (lv_at hl 1 rfl) ?_
        refine va_get (D := D) (ci := 12) (v := .ref a0) (C := RX12) (T := TX12) (N := 30) hx hb hts inlX12 hown hK hP 0 rfl rfl 0 (by decide) (hts _ mw_187) (fun _ h9 => h9) rfl dX12_dialect_163 ?_
        refine lv_sipush (v := 21369) hx hb dX12_dialect_166 (by decide) ?_
        refine lv_iload_n hx hb dX12_dialect_169 rfl (lv_at hl 2 rfl) ?_
        refine lv_iadd hx hb dX12_dialect_170 ?_
        refine ki (v := 21374) (by decide) ?_
        refine lv_iload_n hx hb dX12_dialect_171 rfl (lv_at hl 3 rfl) ?_
        refine va_iast hx hb hK hP hD hS 1 0 rfl rfl (i := 21374) (x := zb) (vp_k (by decide)) dX12_dialect_172 (fun H locs hP hD hS => ?_)
        have hP : va_P D vwCl [(m0, .inr (12, [.ref a0, .ref a1, .ref a2, .int (nI u3), .int f4, .ref a5, .int (nI u6), .int f7, .int f8, .int f9, .int f10, .int (nI u11), .int (nI u12), .int (nI u13), .ref a14, .ref a15, .ref a16, .ref a17, .int f18, .int f19, .ref a20, .ref a21, .int (nI u22), .ref a23, .ref a24, .ref a25, .int (nI u26), .int f27, .ref a28, .int (nI u29)])), (a0, .inl (κ 0, 21375, .inl (upd w 21374 zb)))] H := hP
        have hD : va_D A [(m0, .inr (12, [.ref a0, .ref a1, .ref a2, .int (nI u3), .int f4, .ref a5, .int (nI u6), .int f7, .int f8, .int f9, .int f10, .int (nI u11), .int (nI u12), .int (nI u13), .ref a14, .ref a15, .ref a16, .ref a17, .int f18, .int f19, .ref a20, .ref a21, .int (nI u22), .ref a23, .ref a24, .ref a25, .int (nI u26), .int f27, .ref a28, .int (nI u29)])), (a0, .inl (κ 0, 21375, .inl (upd w 21374 zb)))] := hD
        have hf_64 : Pw (upd w 21374 zb) := (Pw_free h_a0 (fDIAL (by omega)))
        generalize upd w 21374 zb = g_63 at hP hD hf_64
        refine lv_iload_n hx hb dX12_dialect_173 rfl (lv_at hl 0 rfl) ?_
        exact ct_iret hx hb hr hlk rfl hS hP hD (1, g_63) rfl ⟨(show Pw g_63 from (by first | assumption | omega | rfl | exact Or.inl (by assumption) | exact Or.inr (by assumption))), (by exact Or.inl (⟨rfl, (show dOk 5 zb from (by first | exact dOk_4 (by omega) | (unfold dOk; simp_all; done)))⟩))⟩ [0, 1] rfl (by decide) trivial (Nat.le_of_ble_eq_true rfl) (Nat.le_of_ble_eq_true rfl) dX12_dialect_174
      · refine lv_iload_n hx hb dX12_dialect_129 rfl (lv_at hl 2 rfl) ?_
        refine lv_bipush (v := 35) hx hb dX12_dialect_130 (by decide) ?_
        refine lv_icmp_eq (tgt := 147) hx hb dX12_dialect_132 (by decide) (fun c_65 => ?_) (fun c_65 => ?_)
        · refine lv_iconst (v := 1) hx hb dX12_dialect_147 (by decide) ?_
          refine lv_goto (tgt := 152) hx hb dX12_dialect_148 (by decide) ?_
          refine lv_istore_n (lv' := [(3, .int 1), (0, .ref m0), (1, .int 5), (2, .int zb)]) hx hb dX12_dialect_152 rfl hl (by decide) rfl (fun ls hl => ?_)
          refine lv_goto (tgt := 158) hx hb dX12_dialect_153 (by decide) ?_
          refine lv_iload_n hx hb dX12_dialect_158 rfl (lv_at hl 0 rfl) ?_
          refine lv_if_eq (tgt := 173) hx hb dX12_dialect_159 (by decide) (fun c_66 => absurd c_66 (by decide)) (fun c_66 => ?_)
          refine lv_aload_n hx hb dX12_dialect_162 rfl (lv_at hl 1 rfl) ?_
          refine va_get (D := D) (ci := 12) (v := .ref a0) (C := RX12) (T := TX12) (N := 30) hx hb hts inlX12 hown hK hP 0 rfl rfl 0 (by decide) (hts _ mw_187) (fun _ h9 => h9) rfl dX12_dialect_163 ?_
          refine lv_sipush (v := 21369) hx hb dX12_dialect_166 (by decide) ?_
          refine lv_iload_n hx hb dX12_dialect_169 rfl (lv_at hl 2 rfl) ?_
          refine lv_iadd hx hb dX12_dialect_170 ?_
          refine ki (v := 21374) (by decide) ?_
          refine lv_iload_n hx hb dX12_dialect_171 rfl (lv_at hl 3 rfl) ?_
          refine va_iast hx hb hK hP hD hS 1 0 rfl rfl (i := 21374) (x := zb) (vp_k (by decide)) dX12_dialect_172 (fun H locs hP hD hS => ?_)
          have hP : va_P D vwCl [(m0, .inr (12, [.ref a0, .ref a1, .ref a2, .int (nI u3), .int f4, .ref a5, .int (nI u6), .int f7, .int f8, .int f9, .int f10, .int (nI u11), .int (nI u12), .int (nI u13), .ref a14, .ref a15, .ref a16, .ref a17, .int f18, .int f19, .ref a20, .ref a21, .int (nI u22), .ref a23, .ref a24, .ref a25, .int (nI u26), .int f27, .ref a28, .int (nI u29)])), (a0, .inl (κ 0, 21375, .inl (upd w 21374 zb)))] H := hP
          have hD : va_D A [(m0, .inr (12, [.ref a0, .ref a1, .ref a2, .int (nI u3), .int f4, .ref a5, .int (nI u6), .int f7, .int f8, .int f9, .int f10, .int (nI u11), .int (nI u12), .int (nI u13), .ref a14, .ref a15, .ref a16, .ref a17, .int f18, .int f19, .ref a20, .ref a21, .int (nI u22), .ref a23, .ref a24, .ref a25, .int (nI u26), .int f27, .ref a28, .int (nI u29)])), (a0, .inl (κ 0, 21375, .inl (upd w 21374 zb)))] := hD
          have hf_68 : Pw (upd w 21374 zb) := (Pw_free h_a0 (fDIAL (by omega)))
          generalize upd w 21374 zb = g_67 at hP hD hf_68
          refine lv_iload_n hx hb dX12_dialect_173 rfl (lv_at hl 0 rfl) ?_
          exact ct_iret hx hb hr hlk rfl hS hP hD (1, g_67) rfl ⟨(show Pw g_67 from (by first | assumption | omega | rfl | exact Or.inl (by assumption) | exact Or.inr (by assumption))), (by exact Or.inl (⟨rfl, (show dOk 5 zb from (by first | exact dOk_4 (by omega) | (unfold dOk; simp_all; done)))⟩))⟩ [0, 1] rfl (by decide) trivial (Nat.le_of_ble_eq_true rfl) (Nat.le_of_ble_eq_true rfl) dX12_dialect_174
        · refine lv_iload_n hx hb dX12_dialect_135 rfl (lv_at hl 2 rfl) ?_
          refine lv_bipush (v := 37) hx hb dX12_dialect_136 (by decide) ?_
          refine lv_icmp_eq (tgt := 147) hx hb dX12_dialect_138 (by decide) (fun c_69 => ?_) (fun c_69 => ?_)
          · refine lv_iconst (v := 1) hx hb dX12_dialect_147 (by decide) ?_
            refine lv_goto (tgt := 152) hx hb dX12_dialect_148 (by decide) ?_
            refine lv_istore_n (lv' := [(3, .int 1), (0, .ref m0), (1, .int 5), (2, .int zb)]) hx hb dX12_dialect_152 rfl hl (by decide) rfl (fun ls hl => ?_)
            refine lv_goto (tgt := 158) hx hb dX12_dialect_153 (by decide) ?_
            refine lv_iload_n hx hb dX12_dialect_158 rfl (lv_at hl 0 rfl) ?_
            refine lv_if_eq (tgt := 173) hx hb dX12_dialect_159 (by decide) (fun c_70 => absurd c_70 (by decide)) (fun c_70 => ?_)
            refine lv_aload_n hx hb dX12_dialect_162 rfl (lv_at hl 1 rfl) ?_
            refine va_get (D := D) (ci := 12) (v := .ref a0) (C := RX12) (T := TX12) (N := 30) hx hb hts inlX12 hown hK hP 0 rfl rfl 0 (by decide) (hts _ mw_187) (fun _ h9 => h9) rfl dX12_dialect_163 ?_
            refine lv_sipush (v := 21369) hx hb dX12_dialect_166 (by decide) ?_
            refine lv_iload_n hx hb dX12_dialect_169 rfl (lv_at hl 2 rfl) ?_
            refine lv_iadd hx hb dX12_dialect_170 ?_
            refine ki (v := 21374) (by decide) ?_
            refine lv_iload_n hx hb dX12_dialect_171 rfl (lv_at hl 3 rfl) ?_
            refine va_iast hx hb hK hP hD hS 1 0 rfl rfl (i := 21374) (x := zb) (vp_k (by decide)) dX12_dialect_172 (fun H locs hP hD hS => ?_)
            have hP : va_P D vwCl [(m0, .inr (12, [.ref a0, .ref a1, .ref a2, .int (nI u3), .int f4, .ref a5, .int (nI u6), .int f7, .int f8, .int f9, .int f10, .int (nI u11), .int (nI u12), .int (nI u13), .ref a14, .ref a15, .ref a16, .ref a17, .int f18, .int f19, .ref a20, .ref a21, .int (nI u22), .ref a23, .ref a24, .ref a25, .int (nI u26), .int f27, .ref a28, .int (nI u29)])), (a0, .inl (κ 0, 21375, .inl (upd w 21374 zb)))] H := hP
            have hD : va_D A [(m0, .inr (12, [.ref a0, .ref a1, .ref a2, .int (nI u3), .int f4, .ref a5, .int (nI u6), .int f7, .int f8, .int f9, .int f10, .int (nI u11), .int (nI u12), .int (nI u13), .ref a14, .ref a15, .ref a16, .ref a17, .int f18, .int f19, .ref a20, .ref a21, .int (nI u22), .ref a23, .ref a24, .ref a25, .int (nI u26), .int f27, .ref a28, .int (nI u29)])), (a0, .inl (κ 0, 21375, .inl (upd w 21374 zb)))] := hD
            have hf_72 : Pw (upd w 21374 zb) := (Pw_free h_a0 (fDIAL (by omega)))
            generalize upd w 21374 zb = g_71 at hP hD hf_72
            refine lv_iload_n hx hb dX12_dialect_173 rfl (lv_at hl 0 rfl) ?_
            exact ct_iret hx hb hr hlk rfl hS hP hD (1, g_71) rfl ⟨(show Pw g_71 from (by first | assumption | omega | rfl | exact Or.inl (by assumption) | exact Or.inr (by assumption))), (by exact Or.inl (⟨rfl, (show dOk 5 zb from (by first | exact dOk_4 (by omega) | (unfold dOk; simp_all; done)))⟩))⟩ [0, 1] rfl (by decide) trivial (Nat.le_of_ble_eq_true rfl) (Nat.le_of_ble_eq_true rfl) dX12_dialect_174
          · refine lv_iload_n hx hb dX12_dialect_141 rfl (lv_at hl 2 rfl) ?_
            refine lv_bipush (v := 42) hx hb dX12_dialect_142 (by decide) ?_
            refine lv_icmp_ne (tgt := 151) hx hb dX12_dialect_144 (by decide) (fun c_73 => ?_) (fun c_73 => ?_)
            · refine lv_iconst (v := 0) hx hb dX12_dialect_151 (by decide) ?_
              refine lv_istore_n (lv' := [(3, .int 0), (0, .ref m0), (1, .int 5), (2, .int zb)]) hx hb dX12_dialect_152 rfl hl (by decide) rfl (fun ls hl => ?_)
              refine lv_goto (tgt := 158) hx hb dX12_dialect_153 (by decide) ?_
              refine lv_iload_n hx hb dX12_dialect_158 rfl (lv_at hl 0 rfl) ?_
              refine lv_if_eq (tgt := 173) hx hb dX12_dialect_159 (by decide) (fun c_74 => ?_) (fun c_74 => absurd (by decide) c_74)
              refine lv_iload_n hx hb dX12_dialect_173 rfl (lv_at hl 0 rfl) ?_
              exact ct_iret hx hb hr hlk rfl hS hP hD (0, w) rfl ⟨(show Pw w from (by first | assumption | omega | rfl | exact Or.inl (by assumption) | exact Or.inr (by assumption))), (by exact Or.inr ((⟨rfl, (show ¬ dOk 5 zb from (by first | exact dOk_4n (by omega) | (unfold dOk; simp_all; done) | (unfold dOk; simp_all; decide)))⟩)))⟩ [0, 1] rfl (by decide) trivial (Nat.le_of_ble_eq_true rfl) (Nat.le_of_ble_eq_true rfl) dX12_dialect_174
            · refine lv_iconst (v := 1) hx hb dX12_dialect_147 (by decide) ?_
              refine lv_goto (tgt := 152) hx hb dX12_dialect_148 (by decide) ?_
              refine lv_istore_n (lv' := [(3, .int 1), (0, .ref m0), (1, .int 5), (2, .int zb)]) hx hb dX12_dialect_152 rfl hl (by decide) rfl (fun ls hl => ?_)
              refine lv_goto (tgt := 158) hx hb dX12_dialect_153 (by decide) ?_
              refine lv_iload_n hx hb dX12_dialect_158 rfl (lv_at hl 0 rfl) ?_
              refine lv_if_eq (tgt := 173) hx hb dX12_dialect_159 (by decide) (fun c_75 => absurd c_75 (by decide)) (fun c_75 => ?_)
              refine lv_aload_n hx hb dX12_dialect_162 rfl (lv_at hl 1 rfl) ?_
              refine va_get (D := D) (ci := 12) (v := .ref a0) (C := RX12) (T := TX12) (N := 30) hx hb hts inlX12 hown hK hP 0 rfl rfl 0 (by decide) (hts _ mw_187) (fun _ h9 => h9) rfl dX12_dialect_163 ?_
              refine lv_sipush (v := 21369) hx hb dX12_dialect_166 (by decide) ?_
              refine lv_iload_n hx hb dX12_dialect_169 rfl (lv_at hl 2 rfl) ?_
              refine lv_iadd hx hb dX12_dialect_170 ?_
              refine ki (v := 21374) (by decide) ?_
              refine lv_iload_n hx hb dX12_dialect_171 rfl (lv_at hl 3 rfl) ?_
              refine va_iast hx hb hK hP hD hS 1 0 rfl rfl (i := 21374) (x := zb) (vp_k (by decide)) dX12_dialect_172 (fun H locs hP hD hS => ?_)
              have hP : va_P D vwCl [(m0, .inr (12, [.ref a0, .ref a1, .ref a2, .int (nI u3), .int f4, .ref a5, .int (nI u6), .int f7, .int f8, .int f9, .int f10, .int (nI u11), .int (nI u12), .int (nI u13), .ref a14, .ref a15, .ref a16, .ref a17, .int f18, .int f19, .ref a20, .ref a21, .int (nI u22), .ref a23, .ref a24, .ref a25, .int (nI u26), .int f27, .ref a28, .int (nI u29)])), (a0, .inl (κ 0, 21375, .inl (upd w 21374 zb)))] H := hP
              have hD : va_D A [(m0, .inr (12, [.ref a0, .ref a1, .ref a2, .int (nI u3), .int f4, .ref a5, .int (nI u6), .int f7, .int f8, .int f9, .int f10, .int (nI u11), .int (nI u12), .int (nI u13), .ref a14, .ref a15, .ref a16, .ref a17, .int f18, .int f19, .ref a20, .ref a21, .int (nI u22), .ref a23, .ref a24, .ref a25, .int (nI u26), .int f27, .ref a28, .int (nI u29)])), (a0, .inl (κ 0, 21375, .inl (upd w 21374 zb)))] := hD
              have hf_77 : Pw (upd w 21374 zb) := (Pw_free h_a0 (fDIAL (by omega)))
              generalize upd w 21374 zb = g_76 at hP hD hf_77
              refine lv_iload_n hx hb dX12_dialect_173 rfl (lv_at hl 0 rfl) ?_
              exact ct_iret hx hb hr hlk rfl hS hP hD (1, g_76) rfl ⟨(show Pw g_76 from (by first | assumption | omega | rfl | exact Or.inl (by assumption) | exact Or.inr (by assumption))), (by exact Or.inl (⟨rfl, (show dOk 5 zb from (by first | exact dOk_4 (by omega) | (unfold dOk; simp_all; done)))⟩))⟩ [0, 1] rfl (by decide) trivial (Nat.le_of_ble_eq_true rfl) (Nat.le_of_ble_eq_true rfl) dX12_dialect_174
