theorem ms_up {u k k9 : Nat} (h : u - k = k9) (h2 : k < u) : u - (k + 1) < k9 := by omega
theorem ph_lt {g f : Nat → Int32} {n m : Nat} (h : f 1 = nI 0 → f 2 = nI 0) (e1 : f 1 = nI n) (hn : n = 0) (q : g 2 = f 2) (e2 : g 2 = nI m) (hm : m ≤ 40) : m < 40 := by
  subst hn
  have h1 : nI m = nI 0 := e2.symm.trans (q.trans (h e1))
  have h2 := (nI_eq (a := m) (b := 0) (by omega) (by omega)).mp h1
  omega
theorem ph_no {f : Nat → Int32} {n : Nat} (e : f 1 = nI n) (h : 1 ≤ n) (hn : n ≤ 8) : f 1 = nI 0 → f 2 = nI 0 := by
  intro h0
  have h2 := (nI_eq (a := n) (b := 0) (by omega) (by omega)).mp (e.symm.trans h0)
  omega
theorem nz_of {x : Int32} {n u : Nat} (e : x = nI n) (q : x = nI u) (hn : n ≤ 8) (hu : u ≤ 8) (h : 1 ≤ u) : 1 ≤ n := by
  have h2 := (nI_eq (a := n) (b := u) (by omega) (by omega)).mp (e.symm.trans q)
  omega
theorem z_ext {f : Nat → Int32} {k i : Nat} (h : i < k + 1) (hf : ∀ i : Nat, i < k → f i = nI 0) : (upd f k 0) i = nI 0 := by
  unfold upd
  by_cases e : i = k
  · simp [e]
    rfl
  · simpa [e] using hf i (by omega)
theorem dX12_readsNames_0 : decode cX12_readsNames 0 = .ok (.iconst 0, 1) := by decide +kernel
theorem dX12_readsNames_1 : decode cX12_readsNames 1 = .ok (.istore_n 1, 1) := by decide +kernel
theorem dX12_readsNames_2 : decode cX12_readsNames 2 = .ok (.iload_n 1, 1) := by decide +kernel
theorem dX12_readsNames_3 : decode cX12_readsNames 3 = .ok (.aload_n 0, 1) := by decide +kernel
theorem dX12_readsNames_4 : decode cX12_readsNames 4 = .ok (.getfield 229, 3) := by decide +kernel
theorem dX12_readsNames_7 : decode cX12_readsNames 7 = .ok (.if_icmp .ge 99, 3) := by decide +kernel
theorem dX12_readsNames_106 : decode cX12_readsNames 106 = .ok (.aload_n 0, 1) := by decide +kernel
theorem dX12_readsNames_107 : decode cX12_readsNames 107 = .ok (.getfield 39, 3) := by decide +kernel
theorem dX12_readsNames_110 : decode cX12_readsNames 110 = .ok (.iconst 1, 1) := by decide +kernel
theorem dX12_readsNames_111 : decode cX12_readsNames 111 = .ok (.aload_n 0, 1) := by decide +kernel
theorem dX12_readsNames_112 : decode cX12_readsNames 112 = .ok (.getfield 229, 3) := by decide +kernel
theorem dX12_readsNames_115 : decode cX12_readsNames 115 = .ok (.iastore, 1) := by decide +kernel
theorem dX12_readsNames_116 : decode cX12_readsNames 116 = .ok (.iconst 1, 1) := by decide +kernel
theorem dX12_readsNames_117 : decode cX12_readsNames 117 = .ok (.ireturn, 1) := by decide +kernel
theorem dX12_readsNames_10 : decode cX12_readsNames 10 = .ok (.aload_n 0, 1) := by decide +kernel
theorem dX12_readsNames_11 : decode cX12_readsNames 11 = .ok (.getfield 30, 3) := by decide +kernel
theorem dX12_readsNames_14 : decode cX12_readsNames 14 = .ok (.bipush 21, 2) := by decide +kernel
theorem dX12_readsNames_16 : decode cX12_readsNames 16 = .ok (.iload_n 1, 1) := by decide +kernel
theorem dX12_readsNames_17 : decode cX12_readsNames 17 = .ok (.imul, 1) := by decide +kernel
theorem dX12_readsNames_18 : decode cX12_readsNames 18 = .ok (.invokestatic 241, 3) := by decide +kernel
theorem mw_480 : Cond.methodLink RX12 241 yX12_isName ∈ wsL_law := lrk_21 _ (List.mem_of_getElem? (i := 0) rfl)
theorem mw_481 : Cond.static yX12_isName ∈ wsL_law := lrk_21 _ (List.mem_of_getElem? (i := 1) rfl)
theorem gS_X12_241 : GoodIn wsL_law (va_wsS RX12 241 yX12_isName (wl yX12_isName cX12_isName 3 (some .boolean))) := g_S mw_480 mw_481 mw_5 mw_482
theorem hdS_X12_isName : okD yX12_isName 2 := by decide +kernel
theorem dX12_readsNames_21 : decode cX12_readsNames 21 = .ok (.istore_n 2, 1) := by decide +kernel
theorem dX12_readsNames_22 : decode cX12_readsNames 22 = .ok (.iconst 0, 1) := by decide +kernel
theorem dX12_readsNames_23 : decode cX12_readsNames 23 = .ok (.istore_n 3, 1) := by decide +kernel
theorem dX12_readsNames_24 : decode cX12_readsNames 24 = .ok (.iload_n 3, 1) := by decide +kernel
theorem dX12_readsNames_25 : decode cX12_readsNames 25 = .ok (.iload_n 1, 1) := by decide +kernel
theorem dX12_readsNames_26 : decode cX12_readsNames 26 = .ok (.if_icmp .ge 43, 3) := by decide +kernel
theorem dX12_readsNames_69 : decode cX12_readsNames 69 = .ok (.iload_n 2, 1) := by decide +kernel
theorem dX12_readsNames_70 : decode cX12_readsNames 70 = .ok (.ifCond .ne 17, 3) := by decide +kernel
theorem dX12_readsNames_87 : decode cX12_readsNames 87 = .ok (.aload_n 0, 1) := by decide +kernel
theorem dX12_readsNames_88 : decode cX12_readsNames 88 = .ok (.iload_n 1, 1) := by decide +kernel
theorem dX12_readsNames_89 : decode cX12_readsNames 89 = .ok (.aload_n 0, 1) := by decide +kernel
theorem dX12_readsNames_90 : decode cX12_readsNames 90 = .ok (.getfield 30, 3) := by decide +kernel
theorem dX12_readsNames_93 : decode cX12_readsNames 93 = .ok (.bipush 21, 2) := by decide +kernel
theorem dX12_readsNames_95 : decode cX12_readsNames 95 = .ok (.iload_n 1, 1) := by decide +kernel
theorem dX12_readsNames_96 : decode cX12_readsNames 96 = .ok (.imul, 1) := by decide +kernel
theorem dX12_readsNames_97 : decode cX12_readsNames 97 = .ok (.invokevirtual 248, 3) := by decide +kernel
theorem mw_505 : Cond.code yX12_names cX12_names 5 none ∈ wsL_law := lrk_22 _ (List.mem_of_getElem? (i := 1) rfl)
theorem mw_502 : Cond.methodLink RX12 248 yX12_names ∈ wsL_law := lrk_21 _ (List.mem_of_getElem? (i := 22) rfl)
theorem mw_503 : Cond.instanceMethod yX12_names ∈ wsL_law := lrk_21 _ (List.mem_of_getElem? (i := 23) rfl)
theorem mw_504 : Cond.selects RX12 yX12_names yX12_names ∈ wsL_law := lrk_22 _ (List.mem_of_getElem? (i := 0) rfl)
theorem gV_X12_248 : GoodIn wsL_law (wsV RX12 248 RX12 yX12_names (wl yX12_names cX12_names 5 none)) := g_V mw_502 mw_503 mw_504 mw_5 mw_505
theorem hdV_X12_names : yX12_names.cls = RX12 ∧ okD yX12_names 3 := by decide +kernel
theorem dX12_readsNames_100 : decode cX12_readsNames 100 = .ok (.iinc 1 1, 3) := by decide +kernel
theorem dX12_readsNames_103 : decode cX12_readsNames 103 = .ok (.goto (-101), 3) := by decide +kernel
theorem dX12_readsNames_73 : decode cX12_readsNames 73 = .ok (.aload_n 0, 1) := by decide +kernel
theorem dX12_readsNames_74 : decode cX12_readsNames 74 = .ok (.bipush 7, 2) := by decide +kernel
theorem dX12_readsNames_76 : decode cX12_readsNames 76 = .ok (.aload_n 0, 1) := by decide +kernel
theorem dX12_readsNames_77 : decode cX12_readsNames 77 = .ok (.getfield 33, 3) := by decide +kernel
theorem dX12_readsNames_80 : decode cX12_readsNames 80 = .ok (.iload_n 1, 1) := by decide +kernel
theorem dX12_readsNames_81 : decode cX12_readsNames 81 = .ok (.iaload, 1) := by decide +kernel
theorem dX12_readsNames_82 : decode cX12_readsNames 82 = .ok (.iload_n 1, 1) := by decide +kernel
theorem dX12_readsNames_83 : decode cX12_readsNames 83 = .ok (.invokevirtual 210, 3) := by decide +kernel
theorem dX12_readsNames_86 : decode cX12_readsNames 86 = .ok (.ireturn, 1) := by decide +kernel
theorem dX12_readsNames_29 : decode cX12_readsNames 29 = .ok (.iload_n 2, 1) := by decide +kernel
theorem dX12_readsNames_30 : decode cX12_readsNames 30 = .ok (.ifCond .eq 39, 3) := by decide +kernel
theorem dX12_readsNames_33 : decode cX12_readsNames 33 = .ok (.aload_n 0, 1) := by decide +kernel
theorem dX12_readsNames_34 : decode cX12_readsNames 34 = .ok (.getfield 30, 3) := by decide +kernel
theorem dX12_readsNames_37 : decode cX12_readsNames 37 = .ok (.bipush 21, 2) := by decide +kernel
theorem dX12_readsNames_39 : decode cX12_readsNames 39 = .ok (.iload_n 1, 1) := by decide +kernel
theorem dX12_readsNames_40 : decode cX12_readsNames 40 = .ok (.imul, 1) := by decide +kernel
theorem dX12_readsNames_41 : decode cX12_readsNames 41 = .ok (.aload_n 0, 1) := by decide +kernel
theorem dX12_readsNames_42 : decode cX12_readsNames 42 = .ok (.getfield 39, 3) := by decide +kernel
theorem dX12_readsNames_45 : decode cX12_readsNames 45 = .ok (.iconst 4, 1) := by decide +kernel
theorem dX12_readsNames_46 : decode cX12_readsNames 46 = .ok (.bipush 13, 2) := by decide +kernel
theorem dX12_readsNames_48 : decode cX12_readsNames 48 = .ok (.iload_n 3, 1) := by decide +kernel
theorem dX12_readsNames_49 : decode cX12_readsNames 49 = .ok (.imul, 1) := by decide +kernel
theorem dX12_readsNames_50 : decode cX12_readsNames 50 = .ok (.iadd, 1) := by decide +kernel
theorem dX12_readsNames_51 : decode cX12_readsNames 51 = .ok (.invokestatic 244, 3) := by decide +kernel
theorem mw_496 : Cond.methodLink RX12 244 yX12_areSame ∈ wsL_law := lrk_21 _ (List.mem_of_getElem? (i := 16) rfl)
theorem mw_497 : Cond.static yX12_areSame ∈ wsL_law := lrk_21 _ (List.mem_of_getElem? (i := 17) rfl)
theorem gS_X12_244 : GoodIn wsL_law (va_wsS RX12 244 yX12_areSame (wl yX12_areSame cX12_areSame 4 (some .boolean))) := g_S mw_496 mw_497 mw_5 mw_498
theorem hdS_X12_areSame : okD yX12_areSame 4 := by decide +kernel
theorem dX12_readsNames_54 : decode cX12_readsNames 54 = .ok (.ifCond .ne 7, 3) := by decide +kernel
theorem dX12_readsNames_61 : decode cX12_readsNames 61 = .ok (.iconst 0, 1) := by decide +kernel
theorem dX12_readsNames_62 : decode cX12_readsNames 62 = .ok (.istore_n 2, 1) := by decide +kernel
theorem dX12_readsNames_63 : decode cX12_readsNames 63 = .ok (.iinc 3 1, 3) := by decide +kernel
theorem dX12_readsNames_66 : decode cX12_readsNames 66 = .ok (.goto (-42), 3) := by decide +kernel
theorem dX12_readsNames_57 : decode cX12_readsNames 57 = .ok (.iconst 1, 1) := by decide +kernel
theorem dX12_readsNames_58 : decode cX12_readsNames 58 = .ok (.goto 4, 3) := by decide +kernel
theorem dX12_numbersNames_0 : decode cX12_numbersNames 0 = .ok (.aload_n 0, 1) := by decide +kernel
theorem dX12_numbersNames_1 : decode cX12_numbersNames 1 = .ok (.getfield 39, 3) := by decide +kernel
theorem dX12_numbersNames_4 : decode cX12_numbersNames 4 = .ok (.iconst 1, 1) := by decide +kernel
theorem dX12_numbersNames_5 : decode cX12_numbersNames 5 = .ok (.aload_n 0, 1) := by decide +kernel
theorem dX12_numbersNames_6 : decode cX12_numbersNames 6 = .ok (.getfield 229, 3) := by decide +kernel
theorem dX12_numbersNames_9 : decode cX12_numbersNames 9 = .ok (.iastore, 1) := by decide +kernel
theorem dX12_numbersNames_10 : decode cX12_numbersNames 10 = .ok (.iconst 0, 1) := by decide +kernel
theorem dX12_numbersNames_11 : decode cX12_numbersNames 11 = .ok (.istore_n 1, 1) := by decide +kernel
theorem dX12_numbersNames_12 : decode cX12_numbersNames 12 = .ok (.iload_n 1, 1) := by decide +kernel
theorem dX12_numbersNames_13 : decode cX12_numbersNames 13 = .ok (.aload_n 0, 1) := by decide +kernel
theorem dX12_numbersNames_14 : decode cX12_numbersNames 14 = .ok (.getfield 229, 3) := by decide +kernel
theorem dX12_numbersNames_17 : decode cX12_numbersNames 17 = .ok (.if_icmp .ge 53, 3) := by decide +kernel
theorem dX12_numbersNames_70 : decode cX12_numbersNames 70 = .ok (.return_, 1) := by decide +kernel
theorem dX12_numbersNames_20 : decode cX12_numbersNames 20 = .ok (.aload_n 0, 1) := by decide +kernel
theorem dX12_numbersNames_21 : decode cX12_numbersNames 21 = .ok (.getfield 39, 3) := by decide +kernel
theorem dX12_numbersNames_24 : decode cX12_numbersNames 24 = .ok (.iconst 4, 1) := by decide +kernel
theorem dX12_numbersNames_25 : decode cX12_numbersNames 25 = .ok (.bipush 13, 2) := by decide +kernel
theorem dX12_numbersNames_27 : decode cX12_numbersNames 27 = .ok (.iload_n 1, 1) := by decide +kernel
theorem dX12_numbersNames_28 : decode cX12_numbersNames 28 = .ok (.imul, 1) := by decide +kernel
theorem dX12_numbersNames_29 : decode cX12_numbersNames 29 = .ok (.iadd, 1) := by decide +kernel
theorem dX12_numbersNames_30 : decode cX12_numbersNames 30 = .ok (.iconst 2, 1) := by decide +kernel
theorem dX12_numbersNames_31 : decode cX12_numbersNames 31 = .ok (.iastore, 1) := by decide +kernel
theorem dX12_numbersNames_32 : decode cX12_numbersNames 32 = .ok (.aload_n 0, 1) := by decide +kernel
theorem dX12_numbersNames_33 : decode cX12_numbersNames 33 = .ok (.getfield 39, 3) := by decide +kernel
theorem dX12_numbersNames_36 : decode cX12_numbersNames 36 = .ok (.iconst 4, 1) := by decide +kernel
theorem dX12_numbersNames_37 : decode cX12_numbersNames 37 = .ok (.bipush 13, 2) := by decide +kernel
theorem dX12_numbersNames_39 : decode cX12_numbersNames 39 = .ok (.iload_n 1, 1) := by decide +kernel
theorem dX12_numbersNames_40 : decode cX12_numbersNames 40 = .ok (.imul, 1) := by decide +kernel
theorem dX12_numbersNames_41 : decode cX12_numbersNames 41 = .ok (.iadd, 1) := by decide +kernel
theorem dX12_numbersNames_42 : decode cX12_numbersNames 42 = .ok (.iconst 1, 1) := by decide +kernel
theorem dX12_numbersNames_43 : decode cX12_numbersNames 43 = .ok (.iadd, 1) := by decide +kernel
theorem dX12_numbersNames_44 : decode cX12_numbersNames 44 = .ok (.bipush 99, 2) := by decide +kernel
theorem dX12_numbersNames_46 : decode cX12_numbersNames 46 = .ok (.iastore, 1) := by decide +kernel
theorem dX12_numbersNames_47 : decode cX12_numbersNames 47 = .ok (.aload_n 0, 1) := by decide +kernel
theorem dX12_numbersNames_48 : decode cX12_numbersNames 48 = .ok (.getfield 39, 3) := by decide +kernel
theorem dX12_numbersNames_51 : decode cX12_numbersNames 51 = .ok (.iconst 4, 1) := by decide +kernel
theorem dX12_numbersNames_52 : decode cX12_numbersNames 52 = .ok (.bipush 13, 2) := by decide +kernel
theorem dX12_numbersNames_54 : decode cX12_numbersNames 54 = .ok (.iload_n 1, 1) := by decide +kernel
theorem dX12_numbersNames_55 : decode cX12_numbersNames 55 = .ok (.imul, 1) := by decide +kernel
theorem dX12_numbersNames_56 : decode cX12_numbersNames 56 = .ok (.iadd, 1) := by decide +kernel
theorem dX12_numbersNames_57 : decode cX12_numbersNames 57 = .ok (.iconst 2, 1) := by decide +kernel
theorem dX12_numbersNames_58 : decode cX12_numbersNames 58 = .ok (.iadd, 1) := by decide +kernel
theorem dX12_numbersNames_59 : decode cX12_numbersNames 59 = .ok (.bipush 48, 2) := by decide +kernel
theorem dX12_numbersNames_61 : decode cX12_numbersNames 61 = .ok (.iload_n 1, 1) := by decide +kernel
theorem dX12_numbersNames_62 : decode cX12_numbersNames 62 = .ok (.iadd, 1) := by decide +kernel
theorem dX12_numbersNames_63 : decode cX12_numbersNames 63 = .ok (.iastore, 1) := by decide +kernel
theorem dX12_numbersNames_64 : decode cX12_numbersNames 64 = .ok (.iinc 1 1, 3) := by decide +kernel
theorem dX12_numbersNames_67 : decode cX12_numbersNames 67 = .ok (.goto (-55), 3) := by decide +kernel
theorem dX12_fits_0 : decode cX12_fits 0 = .ok (.aload_n 0, 1) := by decide +kernel
theorem dX12_fits_1 : decode cX12_fits 1 = .ok (.getfield 229, 3) := by decide +kernel
theorem dX12_fits_4 : decode cX12_fits 4 = .ok (.iload_n 1, 1) := by decide +kernel
theorem dX12_fits_5 : decode cX12_fits 5 = .ok (.if_icmp .ge 31, 3) := by decide +kernel
theorem dX12_fits_36 : decode cX12_fits 36 = .ok (.aload_n 0, 1) := by decide +kernel
theorem dX12_fits_37 : decode cX12_fits 37 = .ok (.getfield 229, 3) := by decide +kernel
theorem dX12_fits_40 : decode cX12_fits 40 = .ok (.iload_n 1, 1) := by decide +kernel
theorem dX12_fits_41 : decode cX12_fits 41 = .ok (.if_icmp .le 33, 3) := by decide +kernel
theorem dX12_fits_74 : decode cX12_fits 74 = .ok (.aload_n 0, 1) := by decide +kernel
theorem dX12_fits_75 : decode cX12_fits 75 = .ok (.getfield 229, 3) := by decide +kernel
theorem dX12_fits_78 : decode cX12_fits 78 = .ok (.istore_n 2, 1) := by decide +kernel
theorem dX12_fits_79 : decode cX12_fits 79 = .ok (.iload_n 2, 1) := by decide +kernel
theorem dX12_fits_80 : decode cX12_fits 80 = .ok (.iload_n 1, 1) := by decide +kernel
theorem dX12_fits_81 : decode cX12_fits 81 = .ok (.if_icmp .ge 19, 3) := by decide +kernel
theorem dX12_fits_100 : decode cX12_fits 100 = .ok (.iconst 1, 1) := by decide +kernel
theorem dX12_fits_101 : decode cX12_fits 101 = .ok (.ireturn, 1) := by decide +kernel
theorem dX12_fits_84 : decode cX12_fits 84 = .ok (.aload_n 0, 1) := by decide +kernel
theorem dX12_fits_85 : decode cX12_fits 85 = .ok (.getfield 30, 3) := by decide +kernel
theorem dX12_fits_88 : decode cX12_fits 88 = .ok (.bipush 21, 2) := by decide +kernel
theorem dX12_fits_90 : decode cX12_fits 90 = .ok (.iload_n 2, 1) := by decide +kernel
theorem dX12_fits_91 : decode cX12_fits 91 = .ok (.imul, 1) := by decide +kernel
theorem dX12_fits_92 : decode cX12_fits 92 = .ok (.iconst 0, 1) := by decide +kernel
theorem dX12_fits_93 : decode cX12_fits 93 = .ok (.iastore, 1) := by decide +kernel
theorem dX12_fits_94 : decode cX12_fits 94 = .ok (.iinc 2 1, 3) := by decide +kernel
theorem dX12_fits_97 : decode cX12_fits 97 = .ok (.goto (-18), 3) := by decide +kernel
theorem dX12_fits_44 : decode cX12_fits 44 = .ok (.aload_n 0, 1) := by decide +kernel
theorem dX12_fits_45 : decode cX12_fits 45 = .ok (.getfield 9, 3) := by decide +kernel
theorem dX12_fits_48 : decode cX12_fits 48 = .ok (.sipush 21373, 3) := by decide +kernel
theorem dX12_fits_51 : decode cX12_fits 51 = .ok (.iaload, 1) := by decide +kernel
theorem dX12_fits_52 : decode cX12_fits 52 = .ok (.iconst 2, 1) := by decide +kernel
theorem dX12_fits_53 : decode cX12_fits 53 = .ok (.iand, 1) := by decide +kernel
theorem dX12_fits_54 : decode cX12_fits 54 = .ok (.ifCond .ne 20, 3) := by decide +kernel
theorem dX12_fits_57 : decode cX12_fits 57 = .ok (.aload_n 0, 1) := by decide +kernel
theorem dX12_fits_58 : decode cX12_fits 58 = .ok (.bipush 8, 2) := by decide +kernel
theorem dX12_fits_60 : decode cX12_fits 60 = .ok (.aload_n 0, 1) := by decide +kernel
theorem dX12_fits_61 : decode cX12_fits 61 = .ok (.getfield 36, 3) := by decide +kernel
theorem dX12_fits_64 : decode cX12_fits 64 = .ok (.iload_n 1, 1) := by decide +kernel
theorem dX12_fits_65 : decode cX12_fits 65 = .ok (.iaload, 1) := by decide +kernel
theorem dX12_fits_66 : decode cX12_fits 66 = .ok (.aload_n 0, 1) := by decide +kernel
theorem dX12_fits_67 : decode cX12_fits 67 = .ok (.getfield 229, 3) := by decide +kernel
theorem dX12_fits_70 : decode cX12_fits 70 = .ok (.invokevirtual 210, 3) := by decide +kernel
theorem dX12_fits_73 : decode cX12_fits 73 = .ok (.ireturn, 1) := by decide +kernel
theorem dX12_fits_8 : decode cX12_fits 8 = .ok (.aload_n 0, 1) := by decide +kernel
theorem dX12_fits_9 : decode cX12_fits 9 = .ok (.getfield 9, 3) := by decide +kernel
theorem dX12_fits_12 : decode cX12_fits 12 = .ok (.sipush 21373, 3) := by decide +kernel
theorem dX12_fits_15 : decode cX12_fits 15 = .ok (.iaload, 1) := by decide +kernel
theorem dX12_fits_16 : decode cX12_fits 16 = .ok (.iconst 1, 1) := by decide +kernel
theorem dX12_fits_17 : decode cX12_fits 17 = .ok (.iand, 1) := by decide +kernel
theorem dX12_fits_18 : decode cX12_fits 18 = .ok (.ifCond .ne 18, 3) := by decide +kernel
theorem dX12_fits_21 : decode cX12_fits 21 = .ok (.aload_n 0, 1) := by decide +kernel
theorem dX12_fits_22 : decode cX12_fits 22 = .ok (.bipush 8, 2) := by decide +kernel
theorem dX12_fits_24 : decode cX12_fits 24 = .ok (.aload_n 0, 1) := by decide +kernel
theorem dX12_fits_25 : decode cX12_fits 25 = .ok (.getfield 235, 3) := by decide +kernel
theorem dX12_fits_28 : decode cX12_fits 28 = .ok (.aload_n 0, 1) := by decide +kernel
theorem dX12_fits_29 : decode cX12_fits 29 = .ok (.getfield 229, 3) := by decide +kernel
theorem dX12_fits_32 : decode cX12_fits 32 = .ok (.invokevirtual 210, 3) := by decide +kernel
theorem dX12_fits_35 : decode cX12_fits 35 = .ok (.ireturn, 1) := by decide +kernel
theorem dX12_putsRow_0 : decode cX12_putsRow 0 = .ok (.iconst 0, 1) := by decide +kernel
theorem dX12_putsRow_1 : decode cX12_putsRow 1 = .ok (.istore 4, 2) := by decide +kernel
theorem dX12_putsRow_3 : decode cX12_putsRow 3 = .ok (.iload 4, 2) := by decide +kernel
theorem dX12_putsRow_5 : decode cX12_putsRow 5 = .ok (.iload_n 3, 1) := by decide +kernel
theorem dX12_putsRow_6 : decode cX12_putsRow 6 = .ok (.if_icmp .ge 58, 3) := by decide +kernel
theorem dX12_putsRow_64 : decode cX12_putsRow 64 = .ok (.return_, 1) := by decide +kernel
theorem dX12_putsRow_9 : decode cX12_putsRow 9 = .ok (.iconst 0, 1) := by decide +kernel
theorem dX12_putsRow_10 : decode cX12_putsRow 10 = .ok (.istore 5, 2) := by decide +kernel
theorem dX12_putsRow_12 : decode cX12_putsRow 12 = .ok (.iload 5, 2) := by decide +kernel
theorem dX12_putsRow_14 : decode cX12_putsRow 14 = .ok (.aload_n 0, 1) := by decide +kernel
theorem dX12_putsRow_15 : decode cX12_putsRow 15 = .ok (.getfield 30, 3) := by decide +kernel
theorem dX12_putsRow_18 : decode cX12_putsRow 18 = .ok (.bipush 21, 2) := by decide +kernel
theorem dX12_putsRow_20 : decode cX12_putsRow 20 = .ok (.iload 4, 2) := by decide +kernel
theorem dX12_putsRow_22 : decode cX12_putsRow 22 = .ok (.imul, 1) := by decide +kernel
theorem dX12_putsRow_23 : decode cX12_putsRow 23 = .ok (.iaload, 1) := by decide +kernel
theorem dX12_putsRow_24 : decode cX12_putsRow 24 = .ok (.if_icmp .gt 34, 3) := by decide +kernel
theorem dX12_putsRow_58 : decode cX12_putsRow 58 = .ok (.iinc 4 1, 3) := by decide +kernel
theorem dX12_putsRow_61 : decode cX12_putsRow 61 = .ok (.goto (-58), 3) := by decide +kernel
theorem dX12_putsRow_27 : decode cX12_putsRow 27 = .ok (.aload_n 1, 1) := by decide +kernel
theorem dX12_putsRow_28 : decode cX12_putsRow 28 = .ok (.iload_n 2, 1) := by decide +kernel
theorem dX12_putsRow_29 : decode cX12_putsRow 29 = .ok (.bipush 21, 2) := by decide +kernel
theorem dX12_putsRow_31 : decode cX12_putsRow 31 = .ok (.iload 4, 2) := by decide +kernel
theorem dX12_putsRow_33 : decode cX12_putsRow 33 = .ok (.imul, 1) := by decide +kernel
theorem dX12_putsRow_34 : decode cX12_putsRow 34 = .ok (.iadd, 1) := by decide +kernel
theorem dX12_putsRow_35 : decode cX12_putsRow 35 = .ok (.iload 5, 2) := by decide +kernel
theorem dX12_putsRow_37 : decode cX12_putsRow 37 = .ok (.iadd, 1) := by decide +kernel
theorem dX12_putsRow_38 : decode cX12_putsRow 38 = .ok (.aload_n 0, 1) := by decide +kernel
theorem dX12_putsRow_39 : decode cX12_putsRow 39 = .ok (.getfield 30, 3) := by decide +kernel
theorem dX12_putsRow_42 : decode cX12_putsRow 42 = .ok (.bipush 21, 2) := by decide +kernel
theorem dX12_putsRow_44 : decode cX12_putsRow 44 = .ok (.iload 4, 2) := by decide +kernel
theorem dX12_putsRow_46 : decode cX12_putsRow 46 = .ok (.imul, 1) := by decide +kernel
theorem dX12_putsRow_47 : decode cX12_putsRow 47 = .ok (.iload 5, 2) := by decide +kernel
theorem dX12_putsRow_49 : decode cX12_putsRow 49 = .ok (.iadd, 1) := by decide +kernel
theorem dX12_putsRow_50 : decode cX12_putsRow 50 = .ok (.iaload, 1) := by decide +kernel
theorem dX12_putsRow_51 : decode cX12_putsRow 51 = .ok (.iastore, 1) := by decide +kernel
theorem dX12_putsRow_52 : decode cX12_putsRow 52 = .ok (.iinc 5 1, 3) := by decide +kernel
theorem dX12_putsRow_55 : decode cX12_putsRow 55 = .ok (.goto (-43), 3) := by decide +kernel
theorem dX12_readsTable_0 : decode cX12_readsTable 0 = .ok (.iconst 0, 1) := by decide +kernel
theorem dX12_readsTable_1 : decode cX12_readsTable 1 = .ok (.istore_n 1, 1) := by decide +kernel
theorem dX12_readsTable_2 : decode cX12_readsTable 2 = .ok (.iload_n 1, 1) := by decide +kernel
theorem dX12_readsTable_3 : decode cX12_readsTable 3 = .ok (.sipush 7123, 3) := by decide +kernel
theorem dX12_readsTable_6 : decode cX12_readsTable 6 = .ok (.if_icmp .ge 16, 3) := by decide +kernel
theorem dX12_readsTable_22 : decode cX12_readsTable 22 = .ok (.aload_n 0, 1) := by decide +kernel
theorem dX12_readsTable_23 : decode cX12_readsTable 23 = .ok (.getfield 39, 3) := by decide +kernel
theorem dX12_readsTable_26 : decode cX12_readsTable 26 = .ok (.iconst 0, 1) := by decide +kernel
theorem dX12_readsTable_27 : decode cX12_readsTable 27 = .ok (.iconst 1, 1) := by decide +kernel
theorem dX12_readsTable_28 : decode cX12_readsTable 28 = .ok (.iastore, 1) := by decide +kernel
theorem dX12_readsTable_29 : decode cX12_readsTable 29 = .ok (.aload_n 0, 1) := by decide +kernel
theorem dX12_readsTable_30 : decode cX12_readsTable 30 = .ok (.iconst 0, 1) := by decide +kernel
theorem dX12_readsTable_31 : decode cX12_readsTable 31 = .ok (.putfield 195, 3) := by decide +kernel
theorem dX12_readsTable_34 : decode cX12_readsTable 34 = .ok (.aload_n 0, 1) := by decide +kernel
theorem dX12_readsTable_35 : decode cX12_readsTable 35 = .ok (.invokevirtual 252, 3) := by decide +kernel
theorem mw_427 : Cond.code yX12_passes cX12_passes 2 (some .boolean) ∈ wsL_law := lrk_18 _ (List.mem_of_getElem? (i := 19) rfl)
theorem mw_424 : Cond.methodLink RX12 252 yX12_passes ∈ wsL_law := lrk_18 _ (List.mem_of_getElem? (i := 16) rfl)
theorem mw_425 : Cond.instanceMethod yX12_passes ∈ wsL_law := lrk_18 _ (List.mem_of_getElem? (i := 17) rfl)
theorem mw_426 : Cond.selects RX12 yX12_passes yX12_passes ∈ wsL_law := lrk_18 _ (List.mem_of_getElem? (i := 18) rfl)
theorem gV_X12_252 : GoodIn wsL_law (wsV RX12 252 RX12 yX12_passes (wl yX12_passes cX12_passes 2 (some .boolean))) := g_V mw_424 mw_425 mw_426 mw_5 mw_427
theorem hdV_X12_passes : yX12_passes.cls = RX12 ∧ okD yX12_passes 0 := by decide +kernel
theorem dX12_readsTable_38 : decode cX12_readsTable 38 = .ok (.ifCond .eq 160, 3) := by decide +kernel
theorem dX12_readsTable_41 : decode cX12_readsTable 41 = .ok (.aload_n 0, 1) := by decide +kernel
theorem dX12_readsTable_42 : decode cX12_readsTable 42 = .ok (.getfield 195, 3) := by decide +kernel
theorem dX12_readsTable_45 : decode cX12_readsTable 45 = .ok (.istore_n 1, 1) := by decide +kernel
theorem dX12_readsTable_46 : decode cX12_readsTable 46 = .ok (.aload_n 0, 1) := by decide +kernel
theorem dX12_readsTable_47 : decode cX12_readsTable 47 = .ok (.getfield 39, 3) := by decide +kernel
theorem dX12_readsTable_50 : decode cX12_readsTable 50 = .ok (.iconst 1, 1) := by decide +kernel
theorem dX12_readsTable_51 : decode cX12_readsTable 51 = .ok (.iaload, 1) := by decide +kernel
theorem dX12_readsTable_52 : decode cX12_readsTable 52 = .ok (.ifCond .le 19, 3) := by decide +kernel
theorem dX12_readsTable_71 : decode cX12_readsTable 71 = .ok (.aload_n 0, 1) := by decide +kernel
theorem dX12_readsTable_72 : decode cX12_readsTable 72 = .ok (.invokevirtual 258, 3) := by decide +kernel
theorem mw_445 : Cond.code yX12_readsLine cX12_readsLine 1 (some .boolean) ∈ wsL_law := lrk_19 _ (List.mem_of_getElem? (i := 13) rfl)
theorem mw_442 : Cond.methodLink RX12 258 yX12_readsLine ∈ wsL_law := lrk_19 _ (List.mem_of_getElem? (i := 10) rfl)
theorem mw_443 : Cond.instanceMethod yX12_readsLine ∈ wsL_law := lrk_19 _ (List.mem_of_getElem? (i := 11) rfl)
theorem mw_444 : Cond.selects RX12 yX12_readsLine yX12_readsLine ∈ wsL_law := lrk_19 _ (List.mem_of_getElem? (i := 12) rfl)
theorem gV_X12_258 : GoodIn wsL_law (wsV RX12 258 RX12 yX12_readsLine (wl yX12_readsLine cX12_readsLine 1 (some .boolean))) := g_V mw_442 mw_443 mw_444 mw_5 mw_445
theorem hdV_X12_readsLine : yX12_readsLine.cls = RX12 ∧ okD yX12_readsLine 0 := by decide +kernel
theorem dX12_readsTable_75 : decode cX12_readsTable 75 = .ok (.ifCond .ne 5, 3) := by decide +kernel
theorem dX12_readsTable_80 : decode cX12_readsTable 80 = .ok (.aload_n 0, 1) := by decide +kernel
theorem dX12_readsTable_81 : decode cX12_readsTable 81 = .ok (.getfield 39, 3) := by decide +kernel
theorem dX12_readsTable_84 : decode cX12_readsTable 84 = .ok (.iconst 1, 1) := by decide +kernel
theorem dX12_readsTable_85 : decode cX12_readsTable 85 = .ok (.iaload, 1) := by decide +kernel
theorem dX12_readsTable_86 : decode cX12_readsTable 86 = .ok (.ifCond .ne 7, 3) := by decide +kernel
theorem dX12_readsTable_93 : decode cX12_readsTable 93 = .ok (.iconst 0, 1) := by decide +kernel
theorem dX12_readsTable_94 : decode cX12_readsTable 94 = .ok (.istore_n 2, 1) := by decide +kernel
theorem dX12_readsTable_95 : decode cX12_readsTable 95 = .ok (.iload_n 2, 1) := by decide +kernel
theorem dX12_readsTable_96 : decode cX12_readsTable 96 = .ok (.ifCond .eq 24, 3) := by decide +kernel
theorem dX12_readsTable_120 : decode cX12_readsTable 120 = .ok (.iload_n 2, 1) := by decide +kernel
theorem dX12_readsTable_121 : decode cX12_readsTable 121 = .ok (.ifCond .eq 7, 3) := by decide +kernel
theorem dX12_readsTable_128 : decode cX12_readsTable 128 = .ok (.aload_n 0, 1) := by decide +kernel
theorem dX12_readsTable_129 : decode cX12_readsTable 129 = .ok (.aload_n 0, 1) := by decide +kernel
theorem dX12_readsTable_130 : decode cX12_readsTable 130 = .ok (.getfield 39, 3) := by decide +kernel
theorem dX12_readsTable_133 : decode cX12_readsTable 133 = .ok (.iconst 1, 1) := by decide +kernel
theorem dX12_readsTable_134 : decode cX12_readsTable 134 = .ok (.iaload, 1) := by decide +kernel
theorem dX12_readsTable_135 : decode cX12_readsTable 135 = .ok (.invokevirtual 267, 3) := by decide +kernel
theorem mw_513 : Cond.code yX12_fits cX12_fits 3 (some .boolean) ∈ wsL_law := lrk_22 _ (List.mem_of_getElem? (i := 9) rfl)
theorem mw_510 : Cond.methodLink RX12 267 yX12_fits ∈ wsL_law := lrk_22 _ (List.mem_of_getElem? (i := 6) rfl)
theorem mw_511 : Cond.instanceMethod yX12_fits ∈ wsL_law := lrk_22 _ (List.mem_of_getElem? (i := 7) rfl)
theorem mw_512 : Cond.selects RX12 yX12_fits yX12_fits ∈ wsL_law := lrk_22 _ (List.mem_of_getElem? (i := 8) rfl)
theorem gV_X12_267 : GoodIn wsL_law (wsV RX12 267 RX12 yX12_fits (wl yX12_fits cX12_fits 3 (some .boolean))) := g_V mw_510 mw_511 mw_512 mw_5 mw_513
theorem hdV_X12_fits : yX12_fits.cls = RX12 ∧ okD yX12_fits 1 := by decide +kernel
theorem dX12_readsTable_138 : decode cX12_readsTable 138 = .ok (.ifCond .ne 5, 3) := by decide +kernel
theorem dX12_readsTable_143 : decode cX12_readsTable 143 = .ok (.aload_n 0, 1) := by decide +kernel
theorem dX12_readsTable_144 : decode cX12_readsTable 144 = .ok (.aload_n 0, 1) := by decide +kernel
theorem dX12_readsTable_145 : decode cX12_readsTable 145 = .ok (.getfield 39, 3) := by decide +kernel
theorem dX12_readsTable_148 : decode cX12_readsTable 148 = .ok (.sipush 403, 3) := by decide +kernel
theorem dX12_readsTable_151 : decode cX12_readsTable 151 = .ok (.sipush 168, 3) := by decide +kernel
theorem dX12_readsTable_154 : decode cX12_readsTable 154 = .ok (.aload_n 0, 1) := by decide +kernel
theorem dX12_readsTable_155 : decode cX12_readsTable 155 = .ok (.getfield 39, 3) := by decide +kernel
theorem dX12_readsTable_158 : decode cX12_readsTable 158 = .ok (.iconst 2, 1) := by decide +kernel
theorem dX12_readsTable_159 : decode cX12_readsTable 159 = .ok (.iaload, 1) := by decide +kernel
theorem dX12_readsTable_160 : decode cX12_readsTable 160 = .ok (.imul, 1) := by decide +kernel
theorem dX12_readsTable_161 : decode cX12_readsTable 161 = .ok (.iadd, 1) := by decide +kernel
theorem dX12_readsTable_162 : decode cX12_readsTable 162 = .ok (.aload_n 0, 1) := by decide +kernel
theorem dX12_readsTable_163 : decode cX12_readsTable 163 = .ok (.getfield 39, 3) := by decide +kernel
theorem dX12_readsTable_166 : decode cX12_readsTable 166 = .ok (.iconst 1, 1) := by decide +kernel
theorem dX12_readsTable_167 : decode cX12_readsTable 167 = .ok (.iaload, 1) := by decide +kernel
theorem dX12_readsTable_168 : decode cX12_readsTable 168 = .ok (.invokevirtual 270, 3) := by decide +kernel
theorem mw_517 : Cond.code yX12_putsRow cX12_putsRow 6 none ∈ wsL_law := lrk_22 _ (List.mem_of_getElem? (i := 13) rfl)
theorem mw_514 : Cond.methodLink RX12 270 yX12_putsRow ∈ wsL_law := lrk_22 _ (List.mem_of_getElem? (i := 10) rfl)
theorem mw_515 : Cond.instanceMethod yX12_putsRow ∈ wsL_law := lrk_22 _ (List.mem_of_getElem? (i := 11) rfl)
theorem mw_516 : Cond.selects RX12 yX12_putsRow yX12_putsRow ∈ wsL_law := lrk_22 _ (List.mem_of_getElem? (i := 12) rfl)
theorem gV_X12_270 : GoodIn wsL_law (wsV RX12 270 RX12 yX12_putsRow (wl yX12_putsRow cX12_putsRow 6 none)) := g_V mw_514 mw_515 mw_516 mw_5 mw_517
theorem hdV_X12_putsRow : yX12_putsRow.cls = RX12 ∧ okD yX12_putsRow 3 := by decide +kernel
theorem dX12_readsTable_171 : decode cX12_readsTable 171 = .ok (.aload_n 0, 1) := by decide +kernel
theorem dX12_readsTable_172 : decode cX12_readsTable 172 = .ok (.getfield 39, 3) := by decide +kernel
theorem dX12_readsTable_175 : decode cX12_readsTable 175 = .ok (.iconst 2, 1) := by decide +kernel
theorem dX12_readsTable_176 : decode cX12_readsTable 176 = .ok (.dup2, 1) := by decide +kernel
theorem dX12_readsTable_177 : decode cX12_readsTable 177 = .ok (.iaload, 1) := by decide +kernel
theorem dX12_readsTable_178 : decode cX12_readsTable 178 = .ok (.iconst 1, 1) := by decide +kernel
theorem dX12_readsTable_179 : decode cX12_readsTable 179 = .ok (.iadd, 1) := by decide +kernel
theorem dX12_readsTable_180 : decode cX12_readsTable 180 = .ok (.iastore, 1) := by decide +kernel
theorem dX12_readsTable_181 : decode cX12_readsTable 181 = .ok (.aload_n 0, 1) := by decide +kernel
theorem dX12_readsTable_182 : decode cX12_readsTable 182 = .ok (.invokevirtual 274, 3) := by decide +kernel
theorem mw_521 : Cond.code yX12_goesOn cX12_goesOn 1 none ∈ wsL_law := lrk_22 _ (List.mem_of_getElem? (i := 17) rfl)
theorem mw_518 : Cond.methodLink RX12 274 yX12_goesOn ∈ wsL_law := lrk_22 _ (List.mem_of_getElem? (i := 14) rfl)
theorem mw_519 : Cond.instanceMethod yX12_goesOn ∈ wsL_law := lrk_22 _ (List.mem_of_getElem? (i := 15) rfl)
theorem mw_520 : Cond.selects RX12 yX12_goesOn yX12_goesOn ∈ wsL_law := lrk_22 _ (List.mem_of_getElem? (i := 16) rfl)
theorem gV_X12_274 : GoodIn wsL_law (wsV RX12 274 RX12 yX12_goesOn (wl yX12_goesOn cX12_goesOn 1 none)) := g_V mw_518 mw_519 mw_520 mw_5 mw_521
theorem hdV_X12_goesOn : yX12_goesOn.cls = RX12 ∧ okD yX12_goesOn 0 := by decide +kernel
theorem dX12_readsTable_185 : decode cX12_readsTable 185 = .ok (.aload_n 0, 1) := by decide +kernel
theorem dX12_readsTable_186 : decode cX12_readsTable 186 = .ok (.getfield 195, 3) := by decide +kernel
theorem dX12_readsTable_189 : decode cX12_readsTable 189 = .ok (.iload_n 1, 1) := by decide +kernel
theorem dX12_readsTable_190 : decode cX12_readsTable 190 = .ok (.if_icmp .ne 5, 3) := by decide +kernel
theorem dX12_readsTable_195 : decode cX12_readsTable 195 = .ok (.goto (-161), 3) := by decide +kernel
theorem dX12_readsTable_193 : decode cX12_readsTable 193 = .ok (.iconst 1, 1) := by decide +kernel
theorem dX12_readsTable_194 : decode cX12_readsTable 194 = .ok (.ireturn, 1) := by decide +kernel
theorem dX12_readsTable_141 : decode cX12_readsTable 141 = .ok (.iconst 0, 1) := by decide +kernel
theorem dX12_readsTable_142 : decode cX12_readsTable 142 = .ok (.ireturn, 1) := by decide +kernel
theorem dX12_readsTable_89 : decode cX12_readsTable 89 = .ok (.iconst 1, 1) := by decide +kernel
theorem dX12_readsTable_90 : decode cX12_readsTable 90 = .ok (.goto 4, 3) := by decide +kernel
theorem dX12_readsTable_99 : decode cX12_readsTable 99 = .ok (.aload_n 0, 1) := by decide +kernel
theorem dX12_readsTable_100 : decode cX12_readsTable 100 = .ok (.getfield 9, 3) := by decide +kernel
theorem dX12_readsTable_103 : decode cX12_readsTable 103 = .ok (.sipush 21371, 3) := by decide +kernel
theorem dX12_readsTable_106 : decode cX12_readsTable 106 = .ok (.iaload, 1) := by decide +kernel
theorem dX12_readsTable_107 : decode cX12_readsTable 107 = .ok (.iconst 1, 1) := by decide +kernel
theorem dX12_readsTable_108 : decode cX12_readsTable 108 = .ok (.if_icmp .ne 12, 3) := by decide +kernel
theorem dX12_readsTable_124 : decode cX12_readsTable 124 = .ok (.aload_n 0, 1) := by decide +kernel
theorem dX12_readsTable_125 : decode cX12_readsTable 125 = .ok (.invokevirtual 264, 3) := by decide +kernel
theorem mw_509 : Cond.code yX12_numbersNames cX12_numbersNames 2 none ∈ wsL_law := lrk_22 _ (List.mem_of_getElem? (i := 5) rfl)
theorem mw_506 : Cond.methodLink RX12 264 yX12_numbersNames ∈ wsL_law := lrk_22 _ (List.mem_of_getElem? (i := 2) rfl)
theorem mw_507 : Cond.instanceMethod yX12_numbersNames ∈ wsL_law := lrk_22 _ (List.mem_of_getElem? (i := 3) rfl)
theorem mw_508 : Cond.selects RX12 yX12_numbersNames yX12_numbersNames ∈ wsL_law := lrk_22 _ (List.mem_of_getElem? (i := 4) rfl)
theorem gV_X12_264 : GoodIn wsL_law (wsV RX12 264 RX12 yX12_numbersNames (wl yX12_numbersNames cX12_numbersNames 2 none)) := g_V mw_506 mw_507 mw_508 mw_5 mw_509
theorem hdV_X12_numbersNames : yX12_numbersNames.cls = RX12 ∧ okD yX12_numbersNames 0 := by decide +kernel
theorem dX12_readsTable_111 : decode cX12_readsTable 111 = .ok (.aload_n 0, 1) := by decide +kernel
theorem dX12_readsTable_112 : decode cX12_readsTable 112 = .ok (.invokevirtual 261, 3) := by decide +kernel
theorem mw_479 : Cond.code yX12_readsNames cX12_readsNames 4 (some .boolean) ∈ wsL_law := lrk_20 _ (List.mem_of_getElem? (i := 23) rfl)
theorem mw_476 : Cond.methodLink RX12 261 yX12_readsNames ∈ wsL_law := lrk_20 _ (List.mem_of_getElem? (i := 20) rfl)
theorem mw_477 : Cond.instanceMethod yX12_readsNames ∈ wsL_law := lrk_20 _ (List.mem_of_getElem? (i := 21) rfl)
theorem mw_478 : Cond.selects RX12 yX12_readsNames yX12_readsNames ∈ wsL_law := lrk_20 _ (List.mem_of_getElem? (i := 22) rfl)
theorem gV_X12_261 : GoodIn wsL_law (wsV RX12 261 RX12 yX12_readsNames (wl yX12_readsNames cX12_readsNames 4 (some .boolean))) := g_V mw_476 mw_477 mw_478 mw_5 mw_479
theorem hdV_X12_readsNames : yX12_readsNames.cls = RX12 ∧ okD yX12_readsNames 0 := by decide +kernel
theorem dX12_readsTable_115 : decode cX12_readsTable 115 = .ok (.ifCond .ne 66, 3) := by decide +kernel
theorem dX12_readsTable_118 : decode cX12_readsTable 118 = .ok (.iconst 0, 1) := by decide +kernel
theorem dX12_readsTable_119 : decode cX12_readsTable 119 = .ok (.ireturn, 1) := by decide +kernel
theorem dX12_readsTable_78 : decode cX12_readsTable 78 = .ok (.iconst 0, 1) := by decide +kernel
theorem dX12_readsTable_79 : decode cX12_readsTable 79 = .ok (.ireturn, 1) := by decide +kernel
theorem dX12_readsTable_55 : decode cX12_readsTable 55 = .ok (.aload_n 0, 1) := by decide +kernel
theorem dX12_readsTable_56 : decode cX12_readsTable 56 = .ok (.getfield 39, 3) := by decide +kernel
theorem dX12_readsTable_59 : decode cX12_readsTable 59 = .ok (.iconst 2, 1) := by decide +kernel
theorem dX12_readsTable_60 : decode cX12_readsTable 60 = .ok (.iaload, 1) := by decide +kernel
theorem dX12_readsTable_61 : decode cX12_readsTable 61 = .ok (.bipush 40, 2) := by decide +kernel
theorem dX12_readsTable_63 : decode cX12_readsTable 63 = .ok (.if_icmp .ne 8, 3) := by decide +kernel
theorem dX12_readsTable_66 : decode cX12_readsTable 66 = .ok (.aload_n 0, 1) := by decide +kernel
theorem dX12_readsTable_67 : decode cX12_readsTable 67 = .ok (.invokevirtual 255, 3) := by decide +kernel
theorem mw_431 : Cond.code yX12_tooMuch cX12_tooMuch 1 (some .boolean) ∈ wsL_law := lrk_18 _ (List.mem_of_getElem? (i := 23) rfl)
theorem mw_428 : Cond.methodLink RX12 255 yX12_tooMuch ∈ wsL_law := lrk_18 _ (List.mem_of_getElem? (i := 20) rfl)
theorem mw_429 : Cond.instanceMethod yX12_tooMuch ∈ wsL_law := lrk_18 _ (List.mem_of_getElem? (i := 21) rfl)
theorem mw_430 : Cond.selects RX12 yX12_tooMuch yX12_tooMuch ∈ wsL_law := lrk_18 _ (List.mem_of_getElem? (i := 22) rfl)
theorem gV_X12_255 : GoodIn wsL_law (wsV RX12 255 RX12 yX12_tooMuch (wl yX12_tooMuch cX12_tooMuch 1 (some .boolean))) := g_V mw_428 mw_429 mw_430 mw_5 mw_431
theorem hdV_X12_tooMuch : yX12_tooMuch.cls = RX12 ∧ okD yX12_tooMuch 0 := by decide +kernel
theorem dX12_readsTable_70 : decode cX12_readsTable 70 = .ok (.ireturn, 1) := by decide +kernel
theorem dX12_readsTable_198 : decode cX12_readsTable 198 = .ok (.aload_n 0, 1) := by decide +kernel
theorem dX12_readsTable_199 : decode cX12_readsTable 199 = .ok (.getfield 39, 3) := by decide +kernel
theorem dX12_readsTable_202 : decode cX12_readsTable 202 = .ok (.iconst 1, 1) := by decide +kernel
theorem dX12_readsTable_203 : decode cX12_readsTable 203 = .ok (.iaload, 1) := by decide +kernel
theorem dX12_readsTable_204 : decode cX12_readsTable 204 = .ok (.ifCond .gt 17, 3) := by decide +kernel
theorem dX12_readsTable_221 : decode cX12_readsTable 221 = .ok (.iconst 1, 1) := by decide +kernel
theorem dX12_readsTable_222 : decode cX12_readsTable 222 = .ok (.goto 4, 3) := by decide +kernel
theorem dX12_readsTable_226 : decode cX12_readsTable 226 = .ok (.ireturn, 1) := by decide +kernel
theorem dX12_readsTable_207 : decode cX12_readsTable 207 = .ok (.aload_n 0, 1) := by decide +kernel
theorem dX12_readsTable_208 : decode cX12_readsTable 208 = .ok (.bipush 9, 2) := by decide +kernel
theorem dX12_readsTable_210 : decode cX12_readsTable 210 = .ok (.aload_n 0, 1) := by decide +kernel
theorem dX12_readsTable_211 : decode cX12_readsTable 211 = .ok (.getfield 83, 3) := by decide +kernel
theorem dX12_readsTable_214 : decode cX12_readsTable 214 = .ok (.iconst (-1), 1) := by decide +kernel
theorem dX12_readsTable_215 : decode cX12_readsTable 215 = .ok (.invokevirtual 210, 3) := by decide +kernel
theorem dX12_readsTable_218 : decode cX12_readsTable 218 = .ok (.ifCond .eq 7, 3) := by decide +kernel
theorem dX12_readsTable_225 : decode cX12_readsTable 225 = .ok (.iconst 0, 1) := by decide +kernel
theorem dX12_readsTable_9 : decode cX12_readsTable 9 = .ok (.aload_n 0, 1) := by decide +kernel
theorem dX12_readsTable_10 : decode cX12_readsTable 10 = .ok (.getfield 39, 3) := by decide +kernel
theorem dX12_readsTable_13 : decode cX12_readsTable 13 = .ok (.iload_n 1, 1) := by decide +kernel
theorem dX12_readsTable_14 : decode cX12_readsTable 14 = .ok (.iconst 0, 1) := by decide +kernel
theorem dX12_readsTable_15 : decode cX12_readsTable 15 = .ok (.iastore, 1) := by decide +kernel
theorem dX12_readsTable_16 : decode cX12_readsTable 16 = .ok (.iinc 1 1, 3) := by decide +kernel
theorem dX12_readsTable_19 : decode cX12_readsTable 19 = .ok (.goto (-17), 3) := by decide +kernel
set_option maxHeartbeats 4000000 in
set_option maxRecDepth 100000 in
theorem s_X12_readsNames (l : Launch) (D : va_G) (κ : Nat → ClassId) (m0 : Nat) (a0 : Nat) (a1 : Nat) (a2 : Nat) (u3 : Nat) (f4 : Int32) (a5 : Nat) (u6 : Nat) (f7 : Int32) (f8 : Int32) (f9 : Int32) (f10 : Int32) (u11 : Nat) (u12 : Nat) (u13 : Nat) (a14 : Nat) (a15 : Nat) (a16 : Nat) (a17 : Nat) (f18 : Int32) (f19 : Int32) (a20 : Nat) (a21 : Nat) (u22 : Nat) (a23 : Nat) (a24 : Nat) (a25 : Nat) (u26 : Nat) (f27 : Int32) (a28 : Nat) (u29 : Nat) (fd : Nat → Int32) (fa : Nat → Int32) (dr : Nat → Int32) (h8 : PF f8) (h12 : u12 ≤ 8) (h_a14 : Pfd fd) (h_a15 : Pb 9 800 fa) (h_a17 : Pd dr) : Ct l yX12_readsNames (wl yX12_readsNames cX12_readsNames 4 (some .boolean)) { frames := 4, cells := 0, slots := 0, locals := 87 } D κ [.ref m0] [(m0, .inr (12, [.ref a0, .ref a1, .ref a2, .int (nI u3), .int f4, .ref a5, .int (nI u6), .int f7, .int f8, .int f9, .int f10, .int (nI u11), .int (nI u12), .int (nI u13), .ref a14, .ref a15, .ref a16, .ref a17, .int f18, .int f19, .ref a20, .ref a21, .int (nI u22), .ref a23, .ref a24, .ref a25, .int (nI u26), .int f27, .ref a28, .int (nI u29)])), (a14, .inl (κ 0, 189, .inl fd)), (a15, .inl (κ 0, 9, .inl fa)), (a17, .inl (κ 0, 7123, .inl dr))] (fun _ => True) (fun u9 : Int32 × Int32 × Int32 × Int32 × (Nat → Int32) => some (.int u9.1)) (fun u9 : Int32 × Int32 × Int32 × Int32 × (Nat → Int32) => PF u9.2.2.1 ∧ Pd u9.2.2.2.2 ∧ ((u9.1 = 1 ∧ u9.2.2.2.2 1 = nI u12 ∧ u9.2.2.2.2 2 = dr 2) ∨ (u9.1 = 0))) (fun u9 : Int32 × Int32 × Int32 × Int32 × (Nat → Int32) => [(m0, .inr (12, [.ref a0, .ref a1, .ref a2, .int (nI u3), .int f4, .ref a5, .int (nI u6), .int u9.2.1, .int u9.2.2.1, .int u9.2.2.2.1, .int f10, .int (nI u11), .int (nI u12), .int (nI u13), .ref a14, .ref a15, .ref a16, .ref a17, .int f18, .int f19, .ref a20, .ref a21, .int (nI u22), .ref a23, .ref a24, .ref a25, .int (nI u26), .int f27, .ref a28, .int (nI u29)])), (a14, .inl (κ 0, 189, .inl fd)), (a15, .inl (κ 0, 9, .inl fa)), (a17, .inl (κ 0, 7123, .inl u9.2.2.2.2))]) (fun _ _ => True) := by
  refine ct_of (by decide +kernel) (Nat.le_of_ble_eq_true rfl) ?_
  intro p e s m args below meth c A ls hx hb hr hml hts hown hlk hin hKK hK hA hP hD hS hI hl
  have hS : va_S A s.heap s.heap [] := hS
  have hFX : FX p s m args c cX12_readsNames 4 RX12 := ⟨hx, hb, hml, hown, hts⟩
  have hl : lv_has ls 4 [(0, .ref m0)] := hl
  refine lv_iconst (v := 0) hx hb dX12_readsNames_0 (by decide) ?_
  refine lv_istore_n (lv' := [(1, .int 0), (0, .ref m0)]) hx hb dX12_readsNames_1 rfl hl (by decide) rfl (fun ls hl => ?_)
  refine loop_dn (fun k9 H locs ls => ∃ (k1_2 : Nat), ∃ (ga17_2 : Nat → Int32), (k1_2 ≤ u12) ∧ (∀ i : Nat, i < 4 → ga17_2 i = dr i) ∧ Pd ga17_2 ∧ u12 - k1_2 = k9 ∧ va_P D vwCl [(m0, .inr (12, [.ref a0, .ref a1, .ref a2, .int (nI u3), .int f4, .ref a5, .int (nI u6), .int f7, .int f8, .int f9, .int f10, .int (nI u11), .int (nI u12), .int (nI u13), .ref a14, .ref a15, .ref a16, .ref a17, .int f18, .int f19, .ref a20, .ref a21, .int (nI u22), .ref a23, .ref a24, .ref a25, .int (nI u26), .int f27, .ref a28, .int (nI u29)])), (a14, .inl (κ 0, 189, .inl fd)), (a15, .inl (κ 0, 9, .inl fa)), (a17, .inl (κ 0, 7123, .inl ga17_2))] H ∧ va_D A [(m0, .inr (12, [.ref a0, .ref a1, .ref a2, .int (nI u3), .int f4, .ref a5, .int (nI u6), .int f7, .int f8, .int f9, .int f10, .int (nI u11), .int (nI u12), .int (nI u13), .ref a14, .ref a15, .ref a16, .ref a17, .int f18, .int f19, .ref a20, .ref a21, .int (nI u22), .ref a23, .ref a24, .ref a25, .int (nI u26), .int f27, .ref a28, .int (nI u29)])), (a14, .inl (κ 0, 189, .inl fd)), (a15, .inl (κ 0, 9, .inl fa)), (a17, .inl (κ 0, 7123, .inl ga17_2))] ∧ va_S A s.heap H locs ∧ lv_has ls 4 [(1, .int (nI k1_2)), (0, .ref m0)]) (fun k9 H locs ls hI2 ih2 => ?_) (u12 - 0) _ _ _ ⟨0, dr, (by omega), (fun _ _ => rfl), h_a17, rfl, hP, hD, hS, lv_sub hl [0, 1] rfl⟩
  obtain ⟨k1_2, ga17_2, hl2_0, hl2_1, hg2_0, hm2, hP, hD, hS, hl⟩ := hI2
  refine lv_iload_n hx hb dX12_readsNames_2 rfl (lv_at hl 0 rfl) ?_
  refine lv_aload_n hx hb dX12_readsNames_3 rfl (lv_at hl 1 rfl) ?_
  refine va_get (D := D) (ci := 12) (v := .int (nI u12)) (C := RX12) (T := TX12) (N := 30) hx hb hts inlX12 hown hK hP 0 rfl rfl 12 (by decide) (hts _ mw_446) (fun _ h9 => h9) rfl dX12_readsNames_4 ?_
  refine lv_icmp_ge (tgt := 106) hx hb dX12_readsNames_7 (by decide) (fun c_1 => ?_) (fun c_1 => ?_)
  · have nc_1 := cv_le (a := u12) (b := k1_2) (by omega) (by omega) c_1
    refine lv_aload_n hx hb dX12_readsNames_106 rfl (lv_at hl 1 rfl) ?_
    refine va_get (D := D) (ci := 12) (v := .ref a17) (C := RX12) (T := TX12) (N := 30) hx hb hts inlX12 hown hK hP 0 rfl rfl 17 (by decide) (hts _ mw_197) (fun _ h9 => h9) rfl dX12_readsNames_107 ?_
    refine lv_iconst (v := 1) hx hb dX12_readsNames_110 (by decide) ?_
    refine lv_aload_n hx hb dX12_readsNames_111 rfl (lv_at hl 1 rfl) ?_
    refine va_get (D := D) (ci := 12) (v := .int (nI u12)) (C := RX12) (T := TX12) (N := 30) hx hb hts inlX12 hown hK hP 0 rfl rfl 12 (by decide) (hts _ mw_446) (fun _ h9 => h9) rfl dX12_readsNames_112 ?_
    refine va_iast hx hb hK hP hD hS 3 0 rfl rfl (i := 1) (x := nI u12) (vp_k (by decide)) dX12_readsNames_115 (fun H locs hP hD hS => ?_)
    have hP : va_P D vwCl [(m0, .inr (12, [.ref a0, .ref a1, .ref a2, .int (nI u3), .int f4, .ref a5, .int (nI u6), .int f7, .int f8, .int f9, .int f10, .int (nI u11), .int (nI u12), .int (nI u13), .ref a14, .ref a15, .ref a16, .ref a17, .int f18, .int f19, .ref a20, .ref a21, .int (nI u22), .ref a23, .ref a24, .ref a25, .int (nI u26), .int f27, .ref a28, .int (nI u29)])), (a14, .inl (κ 0, 189, .inl fd)), (a15, .inl (κ 0, 9, .inl fa)), (a17, .inl (κ 0, 7123, .inl (upd ga17_2 1 (nI u12))))] H := hP
    have hD : va_D A [(m0, .inr (12, [.ref a0, .ref a1, .ref a2, .int (nI u3), .int f4, .ref a5, .int (nI u6), .int f7, .int f8, .int f9, .int f10, .int (nI u11), .int (nI u12), .int (nI u13), .ref a14, .ref a15, .ref a16, .ref a17, .int f18, .int f19, .ref a20, .ref a21, .int (nI u22), .ref a23, .ref a24, .ref a25, .int (nI u26), .int f27, .ref a28, .int (nI u29)])), (a14, .inl (κ 0, 189, .inl fd)), (a15, .inl (κ 0, 9, .inl fa)), (a17, .inl (κ 0, 7123, .inl (upd ga17_2 1 (nI u12))))] := hD
    have hf_3 : Pd (upd ga17_2 1 (nI u12)) := (PL_upd hg2_0 (mN (t := 0) (by omega) (by omega)) ⟨u12, by omega, rfl⟩)
    have hq1 : (upd ga17_2 1 (nI u12)) 1 = nI u12 := pk_us
    have hq2 : (upd ga17_2 1 (nI u12)) 2 = dr 2 := ((pk_un (by decide)).trans (hl2_1 2 (by decide)))
    generalize upd ga17_2 1 (nI u12) = g_2 at hP hD hf_3 hq1 hq2
    refine lv_iconst (v := 1) hx hb dX12_readsNames_116 (by decide) ?_
    exact ct_iret hx hb hr hlk rfl hS hP hD (1, f7, f8, f9, g_2) rfl ⟨(show PF f8 from (by assumption)), (show Pd g_2 from (by first | assumption | omega)), (by exact Or.inl (⟨rfl, (show g_2 1 = nI u12 from (by first | assumption | omega)), (show g_2 2 = dr 2 from (by first | assumption | omega))⟩))⟩ [0, 1, 2, 3] rfl (by decide) trivial (Nat.le_of_ble_eq_true rfl) (Nat.le_of_ble_eq_true rfl) dX12_readsNames_117
  · have nc_1 := cv_nle (a := u12) (b := k1_2) (by omega) (by omega) c_1
    refine lv_aload_n hx hb dX12_readsNames_10 rfl (lv_at hl 1 rfl) ?_
    refine va_get (D := D) (ci := 12) (v := .ref a14) (C := RX12) (T := TX12) (N := 30) hx hb hts inlX12 hown hK hP 0 rfl rfl 14 (by decide) (hts _ mw_194) (fun _ h9 => h9) rfl dX12_readsNames_11 ?_
    refine lv_bipush (v := 21) hx hb dX12_readsNames_14 (by decide) ?_
    refine lv_iload_n hx hb dX12_readsNames_16 rfl (lv_at hl 0 rfl) ?_
    refine lv_imul hx hb dX12_readsNames_17 ?_
    refine ki (v := (nI (21 * k1_2))) (pk_mul 21 k1_2) ?_
    refine cr_S (As := [.ref a14, .int (nI (21 * k1_2))]) (rest := []) hFX hKK (s_X12_isName l D κ a14 189 fd (21 * k1_2) 20 (by first | assumption | omega) (by omega) (by omega) ((pfd h_a14 (c := k1_2) (by omega) (by omega)))) 2 gS_X12_241 hdS_X12_isName rfl rfl ⟨Nat.le_of_ble_eq_true rfl, Nat.le_of_ble_eq_true rfl⟩ rfl rfl (Nat.le_of_ble_eq_true rfl) dX12_readsNames_18 ⟨Nat.le_of_ble_eq_true rfl, Nat.le_of_ble_eq_true rfl⟩ hl.1 (hP.sub [1] rfl) (fun r__4 hp_5 => ?_)
    replace hp_5 : ((r__4 = 1 ∧ (∃ n9 : Nat, n9 ≤ 12 ∧ fd (21 * k1_2) = nI n9)) ∨ (r__4 = 0)) := hp_5
    have ha_6 := hp_5
    clear hp_5
    rcases ha_6 with ⟨rfl, a_7⟩ | rfl
    · refine W.eq (g2 := F0 m 21 ls [.int 1]) rfl ?_
      refine lv_istore_n (lv' := [(2, .int 1), (1, .int (nI k1_2)), (0, .ref m0)]) hx hb dX12_readsNames_21 rfl hl (by decide) rfl (fun ls hl => ?_)
      refine lv_iconst (v := 0) hx hb dX12_readsNames_22 (by decide) ?_
      refine lv_istore_n (lv' := [(3, .int 0), (2, .int 1), (1, .int (nI k1_2)), (0, .ref m0)]) hx hb dX12_readsNames_23 rfl hl (by decide) rfl (fun ls hl => ?_)
      refine loop_dn (fun k9 H locs ls => ∃ (k3_24 : Nat), ∃ (k2_24 : Int32), (k3_24 ≤ k1_2) ∧ (k2_24 = 0 ∨ ∃ n9 : Nat, n9 ≤ 12 ∧ fd (21 * k1_2) = nI n9) ∧ k1_2 - k3_24 = k9 ∧ va_P D vwCl [(m0, .inr (12, [.ref a0, .ref a1, .ref a2, .int (nI u3), .int f4, .ref a5, .int (nI u6), .int f7, .int f8, .int f9, .int f10, .int (nI u11), .int (nI u12), .int (nI u13), .ref a14, .ref a15, .ref a16, .ref a17, .int f18, .int f19, .ref a20, .ref a21, .int (nI u22), .ref a23, .ref a24, .ref a25, .int (nI u26), .int f27, .ref a28, .int (nI u29)])), (a14, .inl (κ 0, 189, .inl fd)), (a15, .inl (κ 0, 9, .inl fa)), (a17, .inl (κ 0, 7123, .inl ga17_2))] H ∧ va_D A [(m0, .inr (12, [.ref a0, .ref a1, .ref a2, .int (nI u3), .int f4, .ref a5, .int (nI u6), .int f7, .int f8, .int f9, .int f10, .int (nI u11), .int (nI u12), .int (nI u13), .ref a14, .ref a15, .ref a16, .ref a17, .int f18, .int f19, .ref a20, .ref a21, .int (nI u22), .ref a23, .ref a24, .ref a25, .int (nI u26), .int f27, .ref a28, .int (nI u29)])), (a14, .inl (κ 0, 189, .inl fd)), (a15, .inl (κ 0, 9, .inl fa)), (a17, .inl (κ 0, 7123, .inl ga17_2))] ∧ va_S A s.heap H locs ∧ lv_has ls 4 [(3, .int (nI k3_24)), (2, .int k2_24), (1, .int (nI k1_2)), (0, .ref m0)]) (fun k9 H locs ls hI24 ih24 => ?_) (k1_2 - 0) _ _ _ ⟨0, 1, (by omega), (by first | exact Or.inl rfl | exact Or.inr (by assumption) | exact Or.inr (Or.resolve_left (by assumption) (by assumption)) | assumption), rfl, hP, hD, hS, lv_sub hl [0, 1, 2, 3] rfl⟩
      obtain ⟨k3_24, k2_24, hl24_0, hl24_1, hm24, hP, hD, hS, hl⟩ := hI24
      refine lv_iload_n hx hb dX12_readsNames_24 rfl (lv_at hl 0 rfl) ?_
      refine lv_iload_n hx hb dX12_readsNames_25 rfl (lv_at hl 2 rfl) ?_
      refine lv_icmp_ge (tgt := 69) hx hb dX12_readsNames_26 (by decide) (fun c_8 => ?_) (fun c_8 => ?_)
      · have nc_8 := cv_le (a := k1_2) (b := k3_24) (by omega) (by omega) c_8
        refine lv_iload_n hx hb dX12_readsNames_69 rfl (lv_at hl 1 rfl) ?_
        refine lv_if_ne (tgt := 87) hx hb dX12_readsNames_70 (by decide) (fun c_9 => ?_) (fun c_9 => ?_)
        · refine lv_aload_n hx hb dX12_readsNames_87 rfl (lv_at hl 3 rfl) ?_
          refine lv_iload_n hx hb dX12_readsNames_88 rfl (lv_at hl 2 rfl) ?_
          refine lv_aload_n hx hb dX12_readsNames_89 rfl (lv_at hl 3 rfl) ?_
          refine va_get (D := D) (ci := 12) (v := .ref a14) (C := RX12) (T := TX12) (N := 30) hx hb hts inlX12 hown hK hP 0 rfl rfl 14 (by decide) (hts _ mw_194) (fun _ h9 => h9) rfl dX12_readsNames_90 ?_
          refine lv_bipush (v := 21) hx hb dX12_readsNames_93 (by decide) ?_
          refine lv_iload_n hx hb dX12_readsNames_95 rfl (lv_at hl 2 rfl) ?_
          refine lv_imul hx hb dX12_readsNames_96 ?_
          refine ki (v := (nI (21 * k1_2))) (pk_mul 21 k1_2) ?_
          refine ct_V (wr := [(a15, .inl (κ 0, 9, .inl fa))]) (As := [.int (nI k1_2), .ref a14, .int (nI (21 * k1_2))]) (rest := []) hFX hKK hP hD hS hA (s_X12_names l D κ m0 a0 a1 a2 u3 f4 a5 u6 f7 f8 f9 f10 u11 u12 u13 a14 a15 a16 a17 f18 f19 a20 a21 u22 a23 a24 a25 u26 f27 a28 u29 ga17_2 k1_2 a14 189 (21 * k1_2) fd hg2_0 (by first | assumption | omega) (by omega) (by omega) (Or.resolve_left (by assumption) (by assumption))) 3 gV_X12_248 hdV_X12_names ⟨Nat.le_of_ble_eq_true rfl, Nat.le_of_ble_eq_true rfl⟩ rfl rfl (Nat.le_of_ble_eq_true rfl) dX12_readsNames_97 ⟨Nat.le_of_ble_eq_true rfl, Nat.le_of_ble_eq_true rfl⟩ hl.1 [0, 3, 1] [2] rfl rfl (by decide) (by decide) (by decide) 0 12 rfl rfl rfl trivial (fun g_a17__10 H locs hp_11 _ hP hD hS hz_ hk_ => ?_)
          replace hP : va_P D vwCl [(m0, .inr (12, [.ref a0, .ref a1, .ref a2, .int (nI u3), .int f4, .ref a5, .int (nI u6), .int f7, .int f8, .int f9, .int f10, .int (nI u11), .int (nI u12), .int (nI u13), .ref a14, .ref a15, .ref a16, .ref a17, .int f18, .int f19, .ref a20, .ref a21, .int (nI u22), .ref a23, .ref a24, .ref a25, .int (nI u26), .int f27, .ref a28, .int (nI u29)])), (a14, .inl (κ 0, 189, .inl fd)), (a15, .inl (κ 0, 9, .inl fa)), (a17, .inl (κ 0, 7123, .inl g_a17__10))] H := hP.sub [1, 3, 0, 2] rfl
          replace hD : va_D A [(m0, .inr (12, [.ref a0, .ref a1, .ref a2, .int (nI u3), .int f4, .ref a5, .int (nI u6), .int f7, .int f8, .int f9, .int f10, .int (nI u11), .int (nI u12), .int (nI u13), .ref a14, .ref a15, .ref a16, .ref a17, .int f18, .int f19, .ref a20, .ref a21, .int (nI u22), .ref a23, .ref a24, .ref a25, .int (nI u26), .int f27, .ref a28, .int (nI u29)])), (a14, .inl (κ 0, 189, .inl fd)), (a15, .inl (κ 0, 9, .inl fa)), (a17, .inl (κ 0, 7123, .inl g_a17__10))] := hD.sub [1, 3, 0, 2] (by decide) rfl
          replace hp_11 : Pd g_a17__10 ∧ (∀ i : Nat, i < 4 → g_a17__10 i = ga17_2 i) := hp_11
          obtain ⟨h_12, h_13⟩ := hp_11
          refine W.eq (g2 := F0 m 100 ls []) rfl ?_
          have hq : ∀ i : Nat, i < 4 → g_a17__10 i = dr i := fun i9 h9 => (h_13 i9 h9).trans (hl2_1 i9 h9)
          clear a_7
          refine lv_iinc (v := (nI (k1_2 + 1))) (lv' := [(1, .int (nI (k1_2 + 1))), (3, .int (nI k3_24)), (2, .int k2_24), (0, .ref m0)]) hx hb dX12_readsNames_100 hl (k := 2) rfl (nI_i k1_2) (by decide) rfl (fun ls hl => ?_)
          refine lv_goto (tgt := 2) hx hb dX12_readsNames_103 (by decide) ?_
          exact ih2 _ _ _ _ (ms_up hm2 (by assumption)) ⟨(k1_2 + 1), g_a17__10, (Nat.succ_le_of_lt (by assumption)), hq, h_12, rfl, hP, hD, hS, lv_sub hl [0, 3] rfl⟩
        · refine lv_aload_n hx hb dX12_readsNames_73 rfl (lv_at hl 3 rfl) ?_
          refine lv_bipush (v := 7) hx hb dX12_readsNames_74 (by decide) ?_
          refine lv_aload_n hx hb dX12_readsNames_76 rfl (lv_at hl 3 rfl) ?_
          refine va_get (D := D) (ci := 12) (v := .ref a15) (C := RX12) (T := TX12) (N := 30) hx hb hts inlX12 hown hK hP 0 rfl rfl 15 (by decide) (hts _ mw_195) (fun _ h9 => h9) rfl dX12_readsNames_77 ?_
          refine lv_iload_n hx hb dX12_readsNames_80 rfl (lv_at hl 2 rfl) ?_
          refine va_iald hx hb hK hP 2 0 rfl rfl (i := nI k1_2) (vp_in_nI (n := k1_2) (by omega) (by omega)) dX12_readsNames_81 ?_
          refine kv (v := .int (fa k1_2)) (by rw [nI_clamp (by omega)]) ?_
          obtain ⟨n_14, hn_14, en_14⟩ : ∃ n9 : Nat, n9 ≤ 800 ∧ fa k1_2 = nI n9 := id (h_a15 k1_2 (by omega))
          refine kv (v := .int (nI n_14)) (congrArg Value.int en_14) ?_
          refine lv_iload_n hx hb dX12_readsNames_82 rfl (lv_at hl 2 rfl) ?_
          refine ct_V (wr := [(a14, .inl (κ 0, 189, .inl fd)), (a15, .inl (κ 0, 9, .inl fa)), (a17, .inl (κ 0, 7123, .inl ga17_2))]) (As := [.int 7, .int (nI n_14), .int (nI k1_2)]) (rest := []) hFX hKK hP hD hS hA (s_X12_wrong l D κ m0 a0 a1 a2 u3 f4 a5 u6 f7 f8 f9 f10 u11 u12 u13 a14 a15 a16 a17 f18 f19 a20 a21 u22 a23 a24 a25 u26 f27 a28 u29 7 (nI n_14) (nI k1_2)) 3 gV_X12_210 hdV_X12_wrong ⟨Nat.le_of_ble_eq_true rfl, Nat.le_of_ble_eq_true rfl⟩ rfl rfl (Nat.le_of_ble_eq_true rfl) dX12_readsNames_83 ⟨Nat.le_of_ble_eq_true rfl, Nat.le_of_ble_eq_true rfl⟩ hl.1 [0] [1, 2, 3] rfl rfl (by decide) (by decide) (by decide) 0 12 rfl rfl rfl trivial (fun _ H locs hp_15 _ hP hD hS hz_ hk_ => ?_)
          replace hP : va_P D vwCl [(m0, .inr (12, [.ref a0, .ref a1, .ref a2, .int (nI u3), .int f4, .ref a5, .int (nI u6), .int 7, .int (nI n_14), .int (nI k1_2), .int f10, .int (nI u11), .int (nI u12), .int (nI u13), .ref a14, .ref a15, .ref a16, .ref a17, .int f18, .int f19, .ref a20, .ref a21, .int (nI u22), .ref a23, .ref a24, .ref a25, .int (nI u26), .int f27, .ref a28, .int (nI u29)])), (a14, .inl (κ 0, 189, .inl fd)), (a15, .inl (κ 0, 9, .inl fa)), (a17, .inl (κ 0, 7123, .inl ga17_2))] H := hP.sub [3, 0, 1, 2] rfl
          replace hD : va_D A [(m0, .inr (12, [.ref a0, .ref a1, .ref a2, .int (nI u3), .int f4, .ref a5, .int (nI u6), .int 7, .int (nI n_14), .int (nI k1_2), .int f10, .int (nI u11), .int (nI u12), .int (nI u13), .ref a14, .ref a15, .ref a16, .ref a17, .int f18, .int f19, .ref a20, .ref a21, .int (nI u22), .ref a23, .ref a24, .ref a25, .int (nI u26), .int f27, .ref a28, .int (nI u29)])), (a14, .inl (κ 0, 189, .inl fd)), (a15, .inl (κ 0, 9, .inl fa)), (a17, .inl (κ 0, 7123, .inl ga17_2))] := hD.sub [3, 0, 1, 2] (by decide) rfl
          refine W.eq (g2 := F0 m 86 ls [.int 0]) rfl ?_
          exact ct_iret hx hb hr hlk rfl hS hP hD (0, 7, nI n_14, nI k1_2, ga17_2) rfl ⟨(show PF (nI n_14) from (PF_n (by omega))), (show Pd ga17_2 from (by first | assumption | omega)), (by exact Or.inr ((rfl)))⟩ [0, 1, 2, 3] rfl (by decide) trivial (Nat.le_of_ble_eq_true rfl) (Nat.le_of_ble_eq_true rfl) dX12_readsNames_86
      · have nc_8 := cv_nle (a := k1_2) (b := k3_24) (by omega) (by omega) c_8
        refine lv_iload_n hx hb dX12_readsNames_29 rfl (lv_at hl 1 rfl) ?_
        refine lv_if_eq (tgt := 69) hx hb dX12_readsNames_30 (by decide) (fun c_16 => ?_) (fun c_16 => ?_)
        · refine lv_iload_n hx hb dX12_readsNames_69 rfl (lv_at hl 1 rfl) ?_
          refine lv_if_ne (tgt := 87) hx hb dX12_readsNames_70 (by decide) (fun c_17 => absurd c_16 c_17) (fun c_17 => ?_)
          refine lv_aload_n hx hb dX12_readsNames_73 rfl (lv_at hl 3 rfl) ?_
          refine lv_bipush (v := 7) hx hb dX12_readsNames_74 (by decide) ?_
          refine lv_aload_n hx hb dX12_readsNames_76 rfl (lv_at hl 3 rfl) ?_
          refine va_get (D := D) (ci := 12) (v := .ref a15) (C := RX12) (T := TX12) (N := 30) hx hb hts inlX12 hown hK hP 0 rfl rfl 15 (by decide) (hts _ mw_195) (fun _ h9 => h9) rfl dX12_readsNames_77 ?_
          refine lv_iload_n hx hb dX12_readsNames_80 rfl (lv_at hl 2 rfl) ?_
          refine va_iald hx hb hK hP 2 0 rfl rfl (i := nI k1_2) (vp_in_nI (n := k1_2) (by omega) (by omega)) dX12_readsNames_81 ?_
          refine kv (v := .int (fa k1_2)) (by rw [nI_clamp (by omega)]) ?_
          obtain ⟨n_18, hn_18, en_18⟩ : ∃ n9 : Nat, n9 ≤ 800 ∧ fa k1_2 = nI n9 := id (h_a15 k1_2 (by omega))
          refine kv (v := .int (nI n_18)) (congrArg Value.int en_18) ?_
          refine lv_iload_n hx hb dX12_readsNames_82 rfl (lv_at hl 2 rfl) ?_
          refine ct_V (wr := [(a14, .inl (κ 0, 189, .inl fd)), (a15, .inl (κ 0, 9, .inl fa)), (a17, .inl (κ 0, 7123, .inl ga17_2))]) (As := [.int 7, .int (nI n_18), .int (nI k1_2)]) (rest := []) hFX hKK hP hD hS hA (s_X12_wrong l D κ m0 a0 a1 a2 u3 f4 a5 u6 f7 f8 f9 f10 u11 u12 u13 a14 a15 a16 a17 f18 f19 a20 a21 u22 a23 a24 a25 u26 f27 a28 u29 7 (nI n_18) (nI k1_2)) 3 gV_X12_210 hdV_X12_wrong ⟨Nat.le_of_ble_eq_true rfl, Nat.le_of_ble_eq_true rfl⟩ rfl rfl (Nat.le_of_ble_eq_true rfl) dX12_readsNames_83 ⟨Nat.le_of_ble_eq_true rfl, Nat.le_of_ble_eq_true rfl⟩ hl.1 [0] [1, 2, 3] rfl rfl (by decide) (by decide) (by decide) 0 12 rfl rfl rfl trivial (fun _ H locs hp_19 _ hP hD hS hz_ hk_ => ?_)
          replace hP : va_P D vwCl [(m0, .inr (12, [.ref a0, .ref a1, .ref a2, .int (nI u3), .int f4, .ref a5, .int (nI u6), .int 7, .int (nI n_18), .int (nI k1_2), .int f10, .int (nI u11), .int (nI u12), .int (nI u13), .ref a14, .ref a15, .ref a16, .ref a17, .int f18, .int f19, .ref a20, .ref a21, .int (nI u22), .ref a23, .ref a24, .ref a25, .int (nI u26), .int f27, .ref a28, .int (nI u29)])), (a14, .inl (κ 0, 189, .inl fd)), (a15, .inl (κ 0, 9, .inl fa)), (a17, .inl (κ 0, 7123, .inl ga17_2))] H := hP.sub [3, 0, 1, 2] rfl
          replace hD : va_D A [(m0, .inr (12, [.ref a0, .ref a1, .ref a2, .int (nI u3), .int f4, .ref a5, .int (nI u6), .int 7, .int (nI n_18), .int (nI k1_2), .int f10, .int (nI u11), .int (nI u12), .int (nI u13), .ref a14, .ref a15, .ref a16, .ref a17, .int f18, .int f19, .ref a20, .ref a21, .int (nI u22), .ref a23, .ref a24, .ref a25, .int (nI u26), .int f27, .ref a28, .int (nI u29)])), (a14, .inl (κ 0, 189, .inl fd)), (a15, .inl (κ 0, 9, .inl fa)), (a17, .inl (κ 0, 7123, .inl ga17_2))] := hD.sub [3, 0, 1, 2] (by decide) rfl
          refine W.eq (g2 := F0 m 86 ls [.int 0]) rfl ?_
          exact ct_iret hx hb hr hlk rfl hS hP hD (0, 7, nI n_18, nI k1_2, ga17_2) rfl ⟨(show PF (nI n_18) from (PF_n (by omega))), (show Pd ga17_2 from (by first | assumption | omega)), (by exact Or.inr ((rfl)))⟩ [0, 1, 2, 3] rfl (by decide) trivial (Nat.le_of_ble_eq_true rfl) (Nat.le_of_ble_eq_true rfl) dX12_readsNames_86
        · refine lv_aload_n hx hb dX12_readsNames_33 rfl (lv_at hl 3 rfl) ?_
          refine va_get (D := D) (ci := 12) (v := .ref a14) (C := RX12) (T := TX12) (N := 30) hx hb hts inlX12 hown hK hP 0 rfl rfl 14 (by decide) (hts _ mw_194) (fun _ h9 => h9) rfl dX12_readsNames_34 ?_
          refine lv_bipush (v := 21) hx hb dX12_readsNames_37 (by decide) ?_
          refine lv_iload_n hx hb dX12_readsNames_39 rfl (lv_at hl 2 rfl) ?_
          refine lv_imul hx hb dX12_readsNames_40 ?_
          refine ki (v := (nI (21 * k1_2))) (pk_mul 21 k1_2) ?_
          refine lv_aload_n hx hb dX12_readsNames_41 rfl (lv_at hl 3 rfl) ?_
          refine va_get (D := D) (ci := 12) (v := .ref a17) (C := RX12) (T := TX12) (N := 30) hx hb hts inlX12 hown hK hP 0 rfl rfl 17 (by decide) (hts _ mw_197) (fun _ h9 => h9) rfl dX12_readsNames_42 ?_
          refine lv_iconst (v := 4) hx hb dX12_readsNames_45 (by decide) ?_
          refine lv_bipush (v := 13) hx hb dX12_readsNames_46 (by decide) ?_
          refine lv_iload_n hx hb dX12_readsNames_48 rfl (lv_at hl 0 rfl) ?_
          refine lv_imul hx hb dX12_readsNames_49 ?_
          refine ki (v := (nI (13 * k3_24))) (pk_mul 13 k3_24) ?_
          refine lv_iadd hx hb dX12_readsNames_50 ?_
          refine ki (v := (nI (4 + (13 * k3_24)))) (nI_add 4 (13 * k3_24)) ?_
          refine cr_S (As := [.ref a14, .int (nI (21 * k1_2)), .ref a17, .int (nI (4 + (13 * k3_24)))]) (rest := []) hFX hKK (s_X12_areSame l D κ a14 189 fd a17 7123 ga17_2 (21 * k1_2) (4 + (13 * k3_24)) 20 12 (by first | assumption | omega) (by first | assumption | omega) (by omega) (by omega) (by omega) (by omega) ((pfd h_a14 (c := k1_2) (by omega) (by omega))) (hg2_0 _ _ (by omega) (mNAME (t := 0) (c := k3_24) (by omega) (by omega) (by omega)))) 4 gS_X12_244 hdS_X12_areSame rfl rfl ⟨Nat.le_of_ble_eq_true rfl, Nat.le_of_ble_eq_true rfl⟩ rfl rfl (Nat.le_of_ble_eq_true rfl) dX12_readsNames_51 ⟨Nat.le_of_ble_eq_true rfl, Nat.le_of_ble_eq_true rfl⟩ hl.1 (hP.sub [1, 3] rfl) (fun r__20 hp_21 => ?_)
          replace hp_21 : ((r__20 = 1) ∨ (r__20 = 0)) := hp_21
          have ha_22 := hp_21
          clear hp_21
          rcases ha_22 with rfl | rfl
          · refine W.eq (g2 := F0 m 54 ls [.int 1]) rfl ?_
            refine lv_if_ne (tgt := 61) hx hb dX12_readsNames_54 (by decide) (fun c_23 => ?_) (fun c_23 => absurd c_23 (by decide))
            refine lv_iconst (v := 0) hx hb dX12_readsNames_61 (by decide) ?_
            refine lv_istore_n (lv' := [(2, .int 0), (3, .int (nI k3_24)), (1, .int (nI k1_2)), (0, .ref m0)]) hx hb dX12_readsNames_62 rfl hl (by decide) rfl (fun ls hl => ?_)
            refine lv_iinc (v := (nI (k3_24 + 1))) (lv' := [(3, .int (nI (k3_24 + 1))), (2, .int 0), (1, .int (nI k1_2)), (0, .ref m0)]) hx hb dX12_readsNames_63 hl (k := 1) rfl (nI_i k3_24) (by decide) rfl (fun ls hl => ?_)
            refine lv_goto (tgt := 24) hx hb dX12_readsNames_66 (by decide) ?_
            exact ih24 _ _ _ _ (by omega) ⟨(k3_24 + 1), 0, (by omega), (by first | exact Or.inl rfl | exact Or.inr (by assumption) | exact Or.inr (Or.resolve_left (by assumption) (by assumption)) | assumption), rfl, hP, hD, hS, lv_sub hl [0, 1, 2, 3] rfl⟩
          · refine W.eq (g2 := F0 m 54 ls [.int 0]) rfl ?_
            refine lv_if_ne (tgt := 61) hx hb dX12_readsNames_54 (by decide) (fun c_24 => absurd c_24 (by decide)) (fun c_24 => ?_)
            refine lv_iconst (v := 1) hx hb dX12_readsNames_57 (by decide) ?_
            refine lv_goto (tgt := 62) hx hb dX12_readsNames_58 (by decide) ?_
            refine lv_istore_n (lv' := [(2, .int 1), (3, .int (nI k3_24)), (1, .int (nI k1_2)), (0, .ref m0)]) hx hb dX12_readsNames_62 rfl hl (by decide) rfl (fun ls hl => ?_)
            refine lv_iinc (v := (nI (k3_24 + 1))) (lv' := [(3, .int (nI (k3_24 + 1))), (2, .int 1), (1, .int (nI k1_2)), (0, .ref m0)]) hx hb dX12_readsNames_63 hl (k := 1) rfl (nI_i k3_24) (by decide) rfl (fun ls hl => ?_)
            refine lv_goto (tgt := 24) hx hb dX12_readsNames_66 (by decide) ?_
            exact ih24 _ _ _ _ (by omega) ⟨(k3_24 + 1), 1, (by omega), (by first | exact Or.inl rfl | exact Or.inr (by assumption) | exact Or.inr (Or.resolve_left (by assumption) (by assumption)) | assumption), rfl, hP, hD, hS, lv_sub hl [0, 1, 2, 3] rfl⟩
    · refine W.eq (g2 := F0 m 21 ls [.int 0]) rfl ?_
      refine lv_istore_n (lv' := [(2, .int 0), (1, .int (nI k1_2)), (0, .ref m0)]) hx hb dX12_readsNames_21 rfl hl (by decide) rfl (fun ls hl => ?_)
      refine lv_iconst (v := 0) hx hb dX12_readsNames_22 (by decide) ?_
      refine lv_istore_n (lv' := [(3, .int 0), (2, .int 0), (1, .int (nI k1_2)), (0, .ref m0)]) hx hb dX12_readsNames_23 rfl hl (by decide) rfl (fun ls hl => ?_)
      refine loop_dn (fun k9 H locs ls => ∃ (k3_24 : Nat), ∃ (k2_24 : Int32), (k3_24 ≤ k1_2) ∧ (k2_24 = 0 ∨ ∃ n9 : Nat, n9 ≤ 12 ∧ fd (21 * k1_2) = nI n9) ∧ k1_2 - k3_24 = k9 ∧ va_P D vwCl [(m0, .inr (12, [.ref a0, .ref a1, .ref a2, .int (nI u3), .int f4, .ref a5, .int (nI u6), .int f7, .int f8, .int f9, .int f10, .int (nI u11), .int (nI u12), .int (nI u13), .ref a14, .ref a15, .ref a16, .ref a17, .int f18, .int f19, .ref a20, .ref a21, .int (nI u22), .ref a23, .ref a24, .ref a25, .int (nI u26), .int f27, .ref a28, .int (nI u29)])), (a14, .inl (κ 0, 189, .inl fd)), (a15, .inl (κ 0, 9, .inl fa)), (a17, .inl (κ 0, 7123, .inl ga17_2))] H ∧ va_D A [(m0, .inr (12, [.ref a0, .ref a1, .ref a2, .int (nI u3), .int f4, .ref a5, .int (nI u6), .int f7, .int f8, .int f9, .int f10, .int (nI u11), .int (nI u12), .int (nI u13), .ref a14, .ref a15, .ref a16, .ref a17, .int f18, .int f19, .ref a20, .ref a21, .int (nI u22), .ref a23, .ref a24, .ref a25, .int (nI u26), .int f27, .ref a28, .int (nI u29)])), (a14, .inl (κ 0, 189, .inl fd)), (a15, .inl (κ 0, 9, .inl fa)), (a17, .inl (κ 0, 7123, .inl ga17_2))] ∧ va_S A s.heap H locs ∧ lv_has ls 4 [(3, .int (nI k3_24)), (2, .int k2_24), (1, .int (nI k1_2)), (0, .ref m0)]) (fun k9 H locs ls hI24 ih24 => ?_) (k1_2 - 0) _ _ _ ⟨0, 0, (by omega), (by first | exact Or.inl rfl | exact Or.inr (by assumption) | exact Or.inr (Or.resolve_left (by assumption) (by assumption)) | assumption), rfl, hP, hD, hS, lv_sub hl [0, 1, 2, 3] rfl⟩
      obtain ⟨k3_24, k2_24, hl24_0, hl24_1, hm24, hP, hD, hS, hl⟩ := hI24
      refine lv_iload_n hx hb dX12_readsNames_24 rfl (lv_at hl 0 rfl) ?_
      refine lv_iload_n hx hb dX12_readsNames_25 rfl (lv_at hl 2 rfl) ?_
      refine lv_icmp_ge (tgt := 69) hx hb dX12_readsNames_26 (by decide) (fun c_25 => ?_) (fun c_25 => ?_)
      · have nc_25 := cv_le (a := k1_2) (b := k3_24) (by omega) (by omega) c_25
        refine lv_iload_n hx hb dX12_readsNames_69 rfl (lv_at hl 1 rfl) ?_
        refine lv_if_ne (tgt := 87) hx hb dX12_readsNames_70 (by decide) (fun c_26 => ?_) (fun c_26 => ?_)
        · refine lv_aload_n hx hb dX12_readsNames_87 rfl (lv_at hl 3 rfl) ?_
          refine lv_iload_n hx hb dX12_readsNames_88 rfl (lv_at hl 2 rfl) ?_
          refine lv_aload_n hx hb dX12_readsNames_89 rfl (lv_at hl 3 rfl) ?_
          refine va_get (D := D) (ci := 12) (v := .ref a14) (C := RX12) (T := TX12) (N := 30) hx hb hts inlX12 hown hK hP 0 rfl rfl 14 (by decide) (hts _ mw_194) (fun _ h9 => h9) rfl dX12_readsNames_90 ?_
          refine lv_bipush (v := 21) hx hb dX12_readsNames_93 (by decide) ?_
          refine lv_iload_n hx hb dX12_readsNames_95 rfl (lv_at hl 2 rfl) ?_
          refine lv_imul hx hb dX12_readsNames_96 ?_
          refine ki (v := (nI (21 * k1_2))) (pk_mul 21 k1_2) ?_
          refine ct_V (wr := [(a15, .inl (κ 0, 9, .inl fa))]) (As := [.int (nI k1_2), .ref a14, .int (nI (21 * k1_2))]) (rest := []) hFX hKK hP hD hS hA (s_X12_names l D κ m0 a0 a1 a2 u3 f4 a5 u6 f7 f8 f9 f10 u11 u12 u13 a14 a15 a16 a17 f18 f19 a20 a21 u22 a23 a24 a25 u26 f27 a28 u29 ga17_2 k1_2 a14 189 (21 * k1_2) fd hg2_0 (by first | assumption | omega) (by omega) (by omega) (Or.resolve_left (by assumption) (by assumption))) 3 gV_X12_248 hdV_X12_names ⟨Nat.le_of_ble_eq_true rfl, Nat.le_of_ble_eq_true rfl⟩ rfl rfl (Nat.le_of_ble_eq_true rfl) dX12_readsNames_97 ⟨Nat.le_of_ble_eq_true rfl, Nat.le_of_ble_eq_true rfl⟩ hl.1 [0, 3, 1] [2] rfl rfl (by decide) (by decide) (by decide) 0 12 rfl rfl rfl trivial (fun g_a17__27 H locs hp_28 _ hP hD hS hz_ hk_ => ?_)
          replace hP : va_P D vwCl [(m0, .inr (12, [.ref a0, .ref a1, .ref a2, .int (nI u3), .int f4, .ref a5, .int (nI u6), .int f7, .int f8, .int f9, .int f10, .int (nI u11), .int (nI u12), .int (nI u13), .ref a14, .ref a15, .ref a16, .ref a17, .int f18, .int f19, .ref a20, .ref a21, .int (nI u22), .ref a23, .ref a24, .ref a25, .int (nI u26), .int f27, .ref a28, .int (nI u29)])), (a14, .inl (κ 0, 189, .inl fd)), (a15, .inl (κ 0, 9, .inl fa)), (a17, .inl (κ 0, 7123, .inl g_a17__27))] H := hP.sub [1, 3, 0, 2] rfl
          replace hD : va_D A [(m0, .inr (12, [.ref a0, .ref a1, .ref a2, .int (nI u3), .int f4, .ref a5, .int (nI u6), .int f7, .int f8, .int f9, .int f10, .int (nI u11), .int (nI u12), .int (nI u13), .ref a14, .ref a15, .ref a16, .ref a17, .int f18, .int f19, .ref a20, .ref a21, .int (nI u22), .ref a23, .ref a24, .ref a25, .int (nI u26), .int f27, .ref a28, .int (nI u29)])), (a14, .inl (κ 0, 189, .inl fd)), (a15, .inl (κ 0, 9, .inl fa)), (a17, .inl (κ 0, 7123, .inl g_a17__27))] := hD.sub [1, 3, 0, 2] (by decide) rfl
          replace hp_28 : Pd g_a17__27 ∧ (∀ i : Nat, i < 4 → g_a17__27 i = ga17_2 i) := hp_28
          obtain ⟨h_29, h_30⟩ := hp_28
          refine W.eq (g2 := F0 m 100 ls []) rfl ?_
          have hq : ∀ i : Nat, i < 4 → g_a17__27 i = dr i := fun i9 h9 => (h_30 i9 h9).trans (hl2_1 i9 h9)
          refine lv_iinc (v := (nI (k1_2 + 1))) (lv' := [(1, .int (nI (k1_2 + 1))), (3, .int (nI k3_24)), (2, .int k2_24), (0, .ref m0)]) hx hb dX12_readsNames_100 hl (k := 2) rfl (nI_i k1_2) (by decide) rfl (fun ls hl => ?_)
          refine lv_goto (tgt := 2) hx hb dX12_readsNames_103 (by decide) ?_
          exact ih2 _ _ _ _ (ms_up hm2 (by assumption)) ⟨(k1_2 + 1), g_a17__27, (Nat.succ_le_of_lt (by assumption)), hq, h_29, rfl, hP, hD, hS, lv_sub hl [0, 3] rfl⟩
        · refine lv_aload_n hx hb dX12_readsNames_73 rfl (lv_at hl 3 rfl) ?_
          refine lv_bipush (v := 7) hx hb dX12_readsNames_74 (by decide) ?_
          refine lv_aload_n hx hb dX12_readsNames_76 rfl (lv_at hl 3 rfl) ?_
          refine va_get (D := D) (ci := 12) (v := .ref a15) (C := RX12) (T := TX12) (N := 30) hx hb hts inlX12 hown hK hP 0 rfl rfl 15 (by decide) (hts _ mw_195) (fun _ h9 => h9) rfl dX12_readsNames_77 ?_
          refine lv_iload_n hx hb dX12_readsNames_80 rfl (lv_at hl 2 rfl) ?_
          refine va_iald hx hb hK hP 2 0 rfl rfl (i := nI k1_2) (vp_in_nI (n := k1_2) (by omega) (by omega)) dX12_readsNames_81 ?_
          refine kv (v := .int (fa k1_2)) (by rw [nI_clamp (by omega)]) ?_
          obtain ⟨n_31, hn_31, en_31⟩ : ∃ n9 : Nat, n9 ≤ 800 ∧ fa k1_2 = nI n9 := id (h_a15 k1_2 (by omega))
          refine kv (v := .int (nI n_31)) (congrArg Value.int en_31) ?_
          refine lv_iload_n hx hb dX12_readsNames_82 rfl (lv_at hl 2 rfl) ?_
          refine ct_V (wr := [(a14, .inl (κ 0, 189, .inl fd)), (a15, .inl (κ 0, 9, .inl fa)), (a17, .inl (κ 0, 7123, .inl ga17_2))]) (As := [.int 7, .int (nI n_31), .int (nI k1_2)]) (rest := []) hFX hKK hP hD hS hA (s_X12_wrong l D κ m0 a0 a1 a2 u3 f4 a5 u6 f7 f8 f9 f10 u11 u12 u13 a14 a15 a16 a17 f18 f19 a20 a21 u22 a23 a24 a25 u26 f27 a28 u29 7 (nI n_31) (nI k1_2)) 3 gV_X12_210 hdV_X12_wrong ⟨Nat.le_of_ble_eq_true rfl, Nat.le_of_ble_eq_true rfl⟩ rfl rfl (Nat.le_of_ble_eq_true rfl) dX12_readsNames_83 ⟨Nat.le_of_ble_eq_true rfl, Nat.le_of_ble_eq_true rfl⟩ hl.1 [0] [1, 2, 3] rfl rfl (by decide) (by decide) (by decide) 0 12 rfl rfl rfl trivial (fun _ H locs hp_32 _ hP hD hS hz_ hk_ => ?_)
          replace hP : va_P D vwCl [(m0, .inr (12, [.ref a0, .ref a1, .ref a2, .int (nI u3), .int f4, .ref a5, .int (nI u6), .int 7, .int (nI n_31), .int (nI k1_2), .int f10, .int (nI u11), .int (nI u12), .int (nI u13), .ref a14, .ref a15, .ref a16, .ref a17, .int f18, .int f19, .ref a20, .ref a21, .int (nI u22), .ref a23, .ref a24, .ref a25, .int (nI u26), .int f27, .ref a28, .int (nI u29)])), (a14, .inl (κ 0, 189, .inl fd)), (a15, .inl (κ 0, 9, .inl fa)), (a17, .inl (κ 0, 7123, .inl ga17_2))] H := hP.sub [3, 0, 1, 2] rfl
          replace hD : va_D A [(m0, .inr (12, [.ref a0, .ref a1, .ref a2, .int (nI u3), .int f4, .ref a5, .int (nI u6), .int 7, .int (nI n_31), .int (nI k1_2), .int f10, .int (nI u11), .int (nI u12), .int (nI u13), .ref a14, .ref a15, .ref a16, .ref a17, .int f18, .int f19, .ref a20, .ref a21, .int (nI u22), .ref a23, .ref a24, .ref a25, .int (nI u26), .int f27, .ref a28, .int (nI u29)])), (a14, .inl (κ 0, 189, .inl fd)), (a15, .inl (κ 0, 9, .inl fa)), (a17, .inl (κ 0, 7123, .inl ga17_2))] := hD.sub [3, 0, 1, 2] (by decide) rfl
          refine W.eq (g2 := F0 m 86 ls [.int 0]) rfl ?_
          exact ct_iret hx hb hr hlk rfl hS hP hD (0, 7, nI n_31, nI k1_2, ga17_2) rfl ⟨(show PF (nI n_31) from (PF_n (by omega))), (show Pd ga17_2 from (by first | assumption | omega)), (by exact Or.inr ((rfl)))⟩ [0, 1, 2, 3] rfl (by decide) trivial (Nat.le_of_ble_eq_true rfl) (Nat.le_of_ble_eq_true rfl) dX12_readsNames_86
      · have nc_25 := cv_nle (a := k1_2) (b := k3_24) (by omega) (by omega) c_25
        refine lv_iload_n hx hb dX12_readsNames_29 rfl (lv_at hl 1 rfl) ?_
        refine lv_if_eq (tgt := 69) hx hb dX12_readsNames_30 (by decide) (fun c_33 => ?_) (fun c_33 => ?_)
        · refine lv_iload_n hx hb dX12_readsNames_69 rfl (lv_at hl 1 rfl) ?_
          refine lv_if_ne (tgt := 87) hx hb dX12_readsNames_70 (by decide) (fun c_34 => absurd c_33 c_34) (fun c_34 => ?_)
          refine lv_aload_n hx hb dX12_readsNames_73 rfl (lv_at hl 3 rfl) ?_
          refine lv_bipush (v := 7) hx hb dX12_readsNames_74 (by decide) ?_
          refine lv_aload_n hx hb dX12_readsNames_76 rfl (lv_at hl 3 rfl) ?_
          refine va_get (D := D) (ci := 12) (v := .ref a15) (C := RX12) (T := TX12) (N := 30) hx hb hts inlX12 hown hK hP 0 rfl rfl 15 (by decide) (hts _ mw_195) (fun _ h9 => h9) rfl dX12_readsNames_77 ?_
          refine lv_iload_n hx hb dX12_readsNames_80 rfl (lv_at hl 2 rfl) ?_
          refine va_iald hx hb hK hP 2 0 rfl rfl (i := nI k1_2) (vp_in_nI (n := k1_2) (by omega) (by omega)) dX12_readsNames_81 ?_
          refine kv (v := .int (fa k1_2)) (by rw [nI_clamp (by omega)]) ?_
          obtain ⟨n_35, hn_35, en_35⟩ : ∃ n9 : Nat, n9 ≤ 800 ∧ fa k1_2 = nI n9 := id (h_a15 k1_2 (by omega))
          refine kv (v := .int (nI n_35)) (congrArg Value.int en_35) ?_
          refine lv_iload_n hx hb dX12_readsNames_82 rfl (lv_at hl 2 rfl) ?_
          refine ct_V (wr := [(a14, .inl (κ 0, 189, .inl fd)), (a15, .inl (κ 0, 9, .inl fa)), (a17, .inl (κ 0, 7123, .inl ga17_2))]) (As := [.int 7, .int (nI n_35), .int (nI k1_2)]) (rest := []) hFX hKK hP hD hS hA (s_X12_wrong l D κ m0 a0 a1 a2 u3 f4 a5 u6 f7 f8 f9 f10 u11 u12 u13 a14 a15 a16 a17 f18 f19 a20 a21 u22 a23 a24 a25 u26 f27 a28 u29 7 (nI n_35) (nI k1_2)) 3 gV_X12_210 hdV_X12_wrong ⟨Nat.le_of_ble_eq_true rfl, Nat.le_of_ble_eq_true rfl⟩ rfl rfl (Nat.le_of_ble_eq_true rfl) dX12_readsNames_83 ⟨Nat.le_of_ble_eq_true rfl, Nat.le_of_ble_eq_true rfl⟩ hl.1 [0] [1, 2, 3] rfl rfl (by decide) (by decide) (by decide) 0 12 rfl rfl rfl trivial (fun _ H locs hp_36 _ hP hD hS hz_ hk_ => ?_)
          replace hP : va_P D vwCl [(m0, .inr (12, [.ref a0, .ref a1, .ref a2, .int (nI u3), .int f4, .ref a5, .int (nI u6), .int 7, .int (nI n_35), .int (nI k1_2), .int f10, .int (nI u11), .int (nI u12), .int (nI u13), .ref a14, .ref a15, .ref a16, .ref a17, .int f18, .int f19, .ref a20, .ref a21, .int (nI u22), .ref a23, .ref a24, .ref a25, .int (nI u26), .int f27, .ref a28, .int (nI u29)])), (a14, .inl (κ 0, 189, .inl fd)), (a15, .inl (κ 0, 9, .inl fa)), (a17, .inl (κ 0, 7123, .inl ga17_2))] H := hP.sub [3, 0, 1, 2] rfl
          replace hD : va_D A [(m0, .inr (12, [.ref a0, .ref a1, .ref a2, .int (nI u3), .int f4, .ref a5, .int (nI u6), .int 7, .int (nI n_35), .int (nI k1_2), .int f10, .int (nI u11), .int (nI u12), .int (nI u13), .ref a14, .ref a15, .ref a16, .ref a17, .int f18, .int f19, .ref a20, .ref a21, .int (nI u22), .ref a23, .ref a24, .ref a25, .int (nI u26), .int f27, .ref a28, .int (nI u29)])), (a14, .inl (κ 0, 189, .inl fd)), (a15, .inl (κ 0, 9, .inl fa)), (a17, .inl (κ 0, 7123, .inl ga17_2))] := hD.sub [3, 0, 1, 2] (by decide) rfl
          refine W.eq (g2 := F0 m 86 ls [.int 0]) rfl ?_
          exact ct_iret hx hb hr hlk rfl hS hP hD (0, 7, nI n_35, nI k1_2, ga17_2) rfl ⟨(show PF (nI n_35) from (PF_n (by omega))), (show Pd ga17_2 from (by first | assumption | omega)), (by exact Or.inr ((rfl)))⟩ [0, 1, 2, 3] rfl (by decide) trivial (Nat.le_of_ble_eq_true rfl) (Nat.le_of_ble_eq_true rfl) dX12_readsNames_86
        · refine lv_aload_n hx hb dX12_readsNames_33 rfl (lv_at hl 3 rfl) ?_
          refine va_get (D := D) (ci := 12) (v := .ref a14) (C := RX12) (T := TX12) (N := 30) hx hb hts inlX12 hown hK hP 0 rfl rfl 14 (by decide) (hts _ mw_194) (fun _ h9 => h9) rfl dX12_readsNames_34 ?_
          refine lv_bipush (v := 21) hx hb dX12_readsNames_37 (by decide) ?_
          refine lv_iload_n hx hb dX12_readsNames_39 rfl (lv_at hl 2 rfl) ?_
          refine lv_imul hx hb dX12_readsNames_40 ?_
          refine ki (v := (nI (21 * k1_2))) (pk_mul 21 k1_2) ?_
          refine lv_aload_n hx hb dX12_readsNames_41 rfl (lv_at hl 3 rfl) ?_
          refine va_get (D := D) (ci := 12) (v := .ref a17) (C := RX12) (T := TX12) (N := 30) hx hb hts inlX12 hown hK hP 0 rfl rfl 17 (by decide) (hts _ mw_197) (fun _ h9 => h9) rfl dX12_readsNames_42 ?_
          refine lv_iconst (v := 4) hx hb dX12_readsNames_45 (by decide) ?_
          refine lv_bipush (v := 13) hx hb dX12_readsNames_46 (by decide) ?_
          refine lv_iload_n hx hb dX12_readsNames_48 rfl (lv_at hl 0 rfl) ?_
          refine lv_imul hx hb dX12_readsNames_49 ?_
          refine ki (v := (nI (13 * k3_24))) (pk_mul 13 k3_24) ?_
          refine lv_iadd hx hb dX12_readsNames_50 ?_
          refine ki (v := (nI (4 + (13 * k3_24)))) (nI_add 4 (13 * k3_24)) ?_
          refine cr_S (As := [.ref a14, .int (nI (21 * k1_2)), .ref a17, .int (nI (4 + (13 * k3_24)))]) (rest := []) hFX hKK (s_X12_areSame l D κ a14 189 fd a17 7123 ga17_2 (21 * k1_2) (4 + (13 * k3_24)) 20 12 (by first | assumption | omega) (by first | assumption | omega) (by omega) (by omega) (by omega) (by omega) ((pfd h_a14 (c := k1_2) (by omega) (by omega))) (hg2_0 _ _ (by omega) (mNAME (t := 0) (c := k3_24) (by omega) (by omega) (by omega)))) 4 gS_X12_244 hdS_X12_areSame rfl rfl ⟨Nat.le_of_ble_eq_true rfl, Nat.le_of_ble_eq_true rfl⟩ rfl rfl (Nat.le_of_ble_eq_true rfl) dX12_readsNames_51 ⟨Nat.le_of_ble_eq_true rfl, Nat.le_of_ble_eq_true rfl⟩ hl.1 (hP.sub [1, 3] rfl) (fun r__37 hp_38 => ?_)
          replace hp_38 : ((r__37 = 1) ∨ (r__37 = 0)) := hp_38
          have ha_39 := hp_38
          clear hp_38
          rcases ha_39 with rfl | rfl
          · refine W.eq (g2 := F0 m 54 ls [.int 1]) rfl ?_
            refine lv_if_ne (tgt := 61) hx hb dX12_readsNames_54 (by decide) (fun c_40 => ?_) (fun c_40 => absurd c_40 (by decide))
            refine lv_iconst (v := 0) hx hb dX12_readsNames_61 (by decide) ?_
            refine lv_istore_n (lv' := [(2, .int 0), (3, .int (nI k3_24)), (1, .int (nI k1_2)), (0, .ref m0)]) hx hb dX12_readsNames_62 rfl hl (by decide) rfl (fun ls hl => ?_)
            refine lv_iinc (v := (nI (k3_24 + 1))) (lv' := [(3, .int (nI (k3_24 + 1))), (2, .int 0), (1, .int (nI k1_2)), (0, .ref m0)]) hx hb dX12_readsNames_63 hl (k := 1) rfl (nI_i k3_24) (by decide) rfl (fun ls hl => ?_)
            refine lv_goto (tgt := 24) hx hb dX12_readsNames_66 (by decide) ?_
            exact ih24 _ _ _ _ (by omega) ⟨(k3_24 + 1), 0, (by omega), (by first | exact Or.inl rfl | exact Or.inr (by assumption) | exact Or.inr (Or.resolve_left (by assumption) (by assumption)) | assumption), rfl, hP, hD, hS, lv_sub hl [0, 1, 2, 3] rfl⟩
          · refine W.eq (g2 := F0 m 54 ls [.int 0]) rfl ?_
            refine lv_if_ne (tgt := 61) hx hb dX12_readsNames_54 (by decide) (fun c_41 => absurd c_41 (by decide)) (fun c_41 => ?_)
            refine lv_iconst (v := 1) hx hb dX12_readsNames_57 (by decide) ?_
            refine lv_goto (tgt := 62) hx hb dX12_readsNames_58 (by decide) ?_
            refine lv_istore_n (lv' := [(2, .int 1), (3, .int (nI k3_24)), (1, .int (nI k1_2)), (0, .ref m0)]) hx hb dX12_readsNames_62 rfl hl (by decide) rfl (fun ls hl => ?_)
            refine lv_iinc (v := (nI (k3_24 + 1))) (lv' := [(3, .int (nI (k3_24 + 1))), (2, .int 1), (1, .int (nI k1_2)), (0, .ref m0)]) hx hb dX12_readsNames_63 hl (k := 1) rfl (nI_i k3_24) (by decide) rfl (fun ls hl => ?_)
            refine lv_goto (tgt := 24) hx hb dX12_readsNames_66 (by decide) ?_
            exact ih24 _ _ _ _ (by omega) ⟨(k3_24 + 1), 1, (by omega), (by first | exact Or.inl rfl | exact Or.inr (by assumption) | exact Or.inr (Or.resolve_left (by assumption) (by assumption)) | assumption), rfl, hP, hD, hS, lv_sub hl [0, 1, 2, 3] rfl⟩
set_option maxHeartbeats 4000000 in
set_option maxRecDepth 100000 in
theorem s_X12_numbersNames (l : Launch) (D : va_G) (κ : Nat → ClassId) (m0 : Nat) (a0 : Nat) (a1 : Nat) (a2 : Nat) (u3 : Nat) (f4 : Int32) (a5 : Nat) (u6 : Nat) (f7 : Int32) (f8 : Int32) (f9 : Int32) (f10 : Int32) (u11 : Nat) (u12 : Nat) (u13 : Nat) (a14 : Nat) (a15 : Nat) (a16 : Nat) (a17 : Nat) (f18 : Int32) (f19 : Int32) (a20 : Nat) (a21 : Nat) (u22 : Nat) (a23 : Nat) (a24 : Nat) (a25 : Nat) (u26 : Nat) (f27 : Int32) (a28 : Nat) (u29 : Nat) (dr : Nat → Int32) (h12 : u12 ≤ 8) (h_a17 : Pd dr) : Ct l yX12_numbersNames (wl yX12_numbersNames cX12_numbersNames 2 none) { frames := 0, cells := 0, slots := 0, locals := 0 } D κ [.ref m0] [(m0, .inr (12, [.ref a0, .ref a1, .ref a2, .int (nI u3), .int f4, .ref a5, .int (nI u6), .int f7, .int f8, .int f9, .int f10, .int (nI u11), .int (nI u12), .int (nI u13), .ref a14, .ref a15, .ref a16, .ref a17, .int f18, .int f19, .ref a20, .ref a21, .int (nI u22), .ref a23, .ref a24, .ref a25, .int (nI u26), .int f27, .ref a28, .int (nI u29)])), (a17, .inl (κ 0, 7123, .inl dr))] (fun _ => True) (fun g_a17 : (Nat → Int32) => none) (fun g_a17 : (Nat → Int32) => Pd g_a17 ∧ g_a17 1 = nI u12 ∧ g_a17 2 = dr 2) (fun g_a17 : (Nat → Int32) => [(m0, .inr (12, [.ref a0, .ref a1, .ref a2, .int (nI u3), .int f4, .ref a5, .int (nI u6), .int f7, .int f8, .int f9, .int f10, .int (nI u11), .int (nI u12), .int (nI u13), .ref a14, .ref a15, .ref a16, .ref a17, .int f18, .int f19, .ref a20, .ref a21, .int (nI u22), .ref a23, .ref a24, .ref a25, .int (nI u26), .int f27, .ref a28, .int (nI u29)])), (a17, .inl (κ 0, 7123, .inl g_a17))]) (fun _ _ => True) := by
  refine ct_of (by decide +kernel) (Nat.le_of_ble_eq_true rfl) ?_
  intro p e s m args below meth c A ls hx hb hr hml hts hown hlk hin hKK hK hA hP hD hS hI hl
  have hS : va_S A s.heap s.heap [] := hS
  have hFX : FX p s m args c cX12_numbersNames 2 RX12 := ⟨hx, hb, hml, hown, hts⟩
  have hl : lv_has ls 2 [(0, .ref m0)] := hl
  refine lv_aload_n hx hb dX12_numbersNames_0 rfl (lv_at hl 0 rfl) ?_
  refine va_get (D := D) (ci := 12) (v := .ref a17) (C := RX12) (T := TX12) (N := 30) hx hb hts inlX12 hown hK hP 0 rfl rfl 17 (by decide) (hts _ mw_197) (fun _ h9 => h9) rfl dX12_numbersNames_1 ?_
  refine lv_iconst (v := 1) hx hb dX12_numbersNames_4 (by decide) ?_
  refine lv_aload_n hx hb dX12_numbersNames_5 rfl (lv_at hl 0 rfl) ?_
  refine va_get (D := D) (ci := 12) (v := .int (nI u12)) (C := RX12) (T := TX12) (N := 30) hx hb hts inlX12 hown hK hP 0 rfl rfl 12 (by decide) (hts _ mw_446) (fun _ h9 => h9) rfl dX12_numbersNames_6 ?_
  refine va_iast hx hb hK hP hD hS 1 0 rfl rfl (i := 1) (x := nI u12) (vp_k (by decide)) dX12_numbersNames_9 (fun H locs hP hD hS => ?_)
  have hP : va_P D vwCl [(m0, .inr (12, [.ref a0, .ref a1, .ref a2, .int (nI u3), .int f4, .ref a5, .int (nI u6), .int f7, .int f8, .int f9, .int f10, .int (nI u11), .int (nI u12), .int (nI u13), .ref a14, .ref a15, .ref a16, .ref a17, .int f18, .int f19, .ref a20, .ref a21, .int (nI u22), .ref a23, .ref a24, .ref a25, .int (nI u26), .int f27, .ref a28, .int (nI u29)])), (a17, .inl (κ 0, 7123, .inl (upd dr 1 (nI u12))))] H := hP
  have hD : va_D A [(m0, .inr (12, [.ref a0, .ref a1, .ref a2, .int (nI u3), .int f4, .ref a5, .int (nI u6), .int f7, .int f8, .int f9, .int f10, .int (nI u11), .int (nI u12), .int (nI u13), .ref a14, .ref a15, .ref a16, .ref a17, .int f18, .int f19, .ref a20, .ref a21, .int (nI u22), .ref a23, .ref a24, .ref a25, .int (nI u26), .int f27, .ref a28, .int (nI u29)])), (a17, .inl (κ 0, 7123, .inl (upd dr 1 (nI u12))))] := hD
  have hf_2 : Pd (upd dr 1 (nI u12)) := (PL_upd h_a17 (mN (t := 0) (by omega) (by omega)) ⟨u12, by omega, rfl⟩)
  have hq1 : (upd dr 1 (nI u12)) 1 = nI u12 := pk_us
  have hq2 : (upd dr 1 (nI u12)) 2 = dr 2 := (pk_un (by decide))
  generalize upd dr 1 (nI u12) = g_1 at hP hD hf_2 hq1 hq2
  refine lv_iconst (v := 0) hx hb dX12_numbersNames_10 (by decide) ?_
  refine lv_istore_n (lv' := [(1, .int 0), (0, .ref m0)]) hx hb dX12_numbersNames_11 rfl hl (by decide) rfl (fun ls hl => ?_)
  refine loop_dn (fun k9 H locs ls => ∃ (k1_12 : Nat), ∃ (ga17_12 : Nat → Int32), (k1_12 ≤ u12) ∧ (ga17_12 1 = nI u12) ∧ (ga17_12 2 = dr 2) ∧ Pd ga17_12 ∧ u12 - k1_12 = k9 ∧ va_P D vwCl [(m0, .inr (12, [.ref a0, .ref a1, .ref a2, .int (nI u3), .int f4, .ref a5, .int (nI u6), .int f7, .int f8, .int f9, .int f10, .int (nI u11), .int (nI u12), .int (nI u13), .ref a14, .ref a15, .ref a16, .ref a17, .int f18, .int f19, .ref a20, .ref a21, .int (nI u22), .ref a23, .ref a24, .ref a25, .int (nI u26), .int f27, .ref a28, .int (nI u29)])), (a17, .inl (κ 0, 7123, .inl ga17_12))] H ∧ va_D A [(m0, .inr (12, [.ref a0, .ref a1, .ref a2, .int (nI u3), .int f4, .ref a5, .int (nI u6), .int f7, .int f8, .int f9, .int f10, .int (nI u11), .int (nI u12), .int (nI u13), .ref a14, .ref a15, .ref a16, .ref a17, .int f18, .int f19, .ref a20, .ref a21, .int (nI u22), .ref a23, .ref a24, .ref a25, .int (nI u26), .int f27, .ref a28, .int (nI u29)])), (a17, .inl (κ 0, 7123, .inl ga17_12))] ∧ va_S A s.heap H locs ∧ lv_has ls 2 [(1, .int (nI k1_12)), (0, .ref m0)]) (fun k9 H locs ls hI12 ih12 => ?_) (u12 - 0) _ _ _ ⟨0, g_1, (by omega), hq1, hq2, hf_2, rfl, hP, hD, hS, lv_sub hl [0, 1] rfl⟩
  obtain ⟨k1_12, ga17_12, hl12_0, hl12_1, hl12_2, hg12_0, hm12, hP, hD, hS, hl⟩ := hI12
  refine lv_iload_n hx hb dX12_numbersNames_12 rfl (lv_at hl 0 rfl) ?_
  refine lv_aload_n hx hb dX12_numbersNames_13 rfl (lv_at hl 1 rfl) ?_
  refine va_get (D := D) (ci := 12) (v := .int (nI u12)) (C := RX12) (T := TX12) (N := 30) hx hb hts inlX12 hown hK hP 0 rfl rfl 12 (by decide) (hts _ mw_446) (fun _ h9 => h9) rfl dX12_numbersNames_14 ?_
  refine lv_icmp_ge (tgt := 70) hx hb dX12_numbersNames_17 (by decide) (fun c_3 => ?_) (fun c_3 => ?_)
  · have nc_3 := cv_le (a := u12) (b := k1_12) (by omega) (by omega) c_3
    exact ct_vret hx hb hr hlk hS hP hD ga17_12 rfl ⟨(show Pd ga17_12 from (by first | assumption | omega)), (show ga17_12 1 = nI u12 from (by first | assumption | omega)), (show ga17_12 2 = dr 2 from (by first | assumption | omega))⟩ [0, 1] rfl (by decide) trivial (Nat.le_of_ble_eq_true rfl) (Nat.le_of_ble_eq_true rfl) dX12_numbersNames_70
  · have nc_3 := cv_nle (a := u12) (b := k1_12) (by omega) (by omega) c_3
    refine lv_aload_n hx hb dX12_numbersNames_20 rfl (lv_at hl 1 rfl) ?_
    refine va_get (D := D) (ci := 12) (v := .ref a17) (C := RX12) (T := TX12) (N := 30) hx hb hts inlX12 hown hK hP 0 rfl rfl 17 (by decide) (hts _ mw_197) (fun _ h9 => h9) rfl dX12_numbersNames_21 ?_
    refine lv_iconst (v := 4) hx hb dX12_numbersNames_24 (by decide) ?_
    refine lv_bipush (v := 13) hx hb dX12_numbersNames_25 (by decide) ?_
    refine lv_iload_n hx hb dX12_numbersNames_27 rfl (lv_at hl 0 rfl) ?_
    refine lv_imul hx hb dX12_numbersNames_28 ?_
    refine ki (v := (nI (13 * k1_12))) (pk_mul 13 k1_12) ?_
    refine lv_iadd hx hb dX12_numbersNames_29 ?_
    refine ki (v := (nI (4 + (13 * k1_12)))) (nI_add 4 (13 * k1_12)) ?_
    refine lv_iconst (v := 2) hx hb dX12_numbersNames_30 (by decide) ?_
    refine va_iast hx hb hK hP hD hS 1 0 rfl rfl (i := nI (4 + (13 * k1_12))) (x := 2) (vp_in_nI (n := (4 + (13 * k1_12))) (by omega) (by omega)) dX12_numbersNames_31 (fun H locs hP hD hS => ?_)
    rw [nI_clamp (by omega)] at hP hD
    have hP : va_P D vwCl [(m0, .inr (12, [.ref a0, .ref a1, .ref a2, .int (nI u3), .int f4, .ref a5, .int (nI u6), .int f7, .int f8, .int f9, .int f10, .int (nI u11), .int (nI u12), .int (nI u13), .ref a14, .ref a15, .ref a16, .ref a17, .int f18, .int f19, .ref a20, .ref a21, .int (nI u22), .ref a23, .ref a24, .ref a25, .int (nI u26), .int f27, .ref a28, .int (nI u29)])), (a17, .inl (κ 0, 7123, .inl (upd ga17_12 (4 + (13 * k1_12)) 2)))] H := hP
    have hD : va_D A [(m0, .inr (12, [.ref a0, .ref a1, .ref a2, .int (nI u3), .int f4, .ref a5, .int (nI u6), .int f7, .int f8, .int f9, .int f10, .int (nI u11), .int (nI u12), .int (nI u13), .ref a14, .ref a15, .ref a16, .ref a17, .int f18, .int f19, .ref a20, .ref a21, .int (nI u22), .ref a23, .ref a24, .ref a25, .int (nI u26), .int f27, .ref a28, .int (nI u29)])), (a17, .inl (κ 0, 7123, .inl (upd ga17_12 (4 + (13 * k1_12)) 2)))] := hD
    have hf_5 : Pd (upd ga17_12 (4 + (13 * k1_12)) 2) := (PL_upd hg12_0 (mNAME (t := 0) (c := k1_12) (by omega) (by omega) (by omega)) ⟨2, by omega, by decide⟩)
    have hq1 : (upd ga17_12 (4 + (13 * k1_12)) 2) 1 = nI u12 := ((pk_un (by omega)).trans hl12_1)
    have hq2 : (upd ga17_12 (4 + (13 * k1_12)) 2) 2 = dr 2 := ((pk_un (by omega)).trans hl12_2)
    generalize upd ga17_12 (4 + (13 * k1_12)) 2 = g_4 at hP hD hf_5 hq1 hq2
    refine lv_aload_n hx hb dX12_numbersNames_32 rfl (lv_at hl 1 rfl) ?_
    refine va_get (D := D) (ci := 12) (v := .ref a17) (C := RX12) (T := TX12) (N := 30) hx hb hts inlX12 hown hK hP 0 rfl rfl 17 (by decide) (hts _ mw_197) (fun _ h9 => h9) rfl dX12_numbersNames_33 ?_
    refine lv_iconst (v := 4) hx hb dX12_numbersNames_36 (by decide) ?_
    refine lv_bipush (v := 13) hx hb dX12_numbersNames_37 (by decide) ?_
    refine lv_iload_n hx hb dX12_numbersNames_39 rfl (lv_at hl 0 rfl) ?_
    refine lv_imul hx hb dX12_numbersNames_40 ?_
    refine ki (v := (nI (13 * k1_12))) (pk_mul 13 k1_12) ?_
    refine lv_iadd hx hb dX12_numbersNames_41 ?_
    refine ki (v := (nI (4 + (13 * k1_12)))) (nI_add 4 (13 * k1_12)) ?_
    refine lv_iconst (v := 1) hx hb dX12_numbersNames_42 (by decide) ?_
    refine lv_iadd hx hb dX12_numbersNames_43 ?_
    refine ki (v := (nI (4 + (13 * k1_12) + 1))) (nI_add (4 + (13 * k1_12)) 1) ?_
    refine lv_bipush (v := 99) hx hb dX12_numbersNames_44 (by decide) ?_
    refine va_iast hx hb hK hP hD hS 1 0 rfl rfl (i := nI (4 + (13 * k1_12) + 1)) (x := 99) (vp_in_nI (n := (4 + (13 * k1_12) + 1)) (by omega) (by omega)) dX12_numbersNames_46 (fun H locs hP hD hS => ?_)
    rw [nI_clamp (by omega)] at hP hD
    have hP : va_P D vwCl [(m0, .inr (12, [.ref a0, .ref a1, .ref a2, .int (nI u3), .int f4, .ref a5, .int (nI u6), .int f7, .int f8, .int f9, .int f10, .int (nI u11), .int (nI u12), .int (nI u13), .ref a14, .ref a15, .ref a16, .ref a17, .int f18, .int f19, .ref a20, .ref a21, .int (nI u22), .ref a23, .ref a24, .ref a25, .int (nI u26), .int f27, .ref a28, .int (nI u29)])), (a17, .inl (κ 0, 7123, .inl (upd g_4 (4 + (13 * k1_12) + 1) 99)))] H := hP
    have hD : va_D A [(m0, .inr (12, [.ref a0, .ref a1, .ref a2, .int (nI u3), .int f4, .ref a5, .int (nI u6), .int f7, .int f8, .int f9, .int f10, .int (nI u11), .int (nI u12), .int (nI u13), .ref a14, .ref a15, .ref a16, .ref a17, .int f18, .int f19, .ref a20, .ref a21, .int (nI u22), .ref a23, .ref a24, .ref a25, .int (nI u26), .int f27, .ref a28, .int (nI u29)])), (a17, .inl (κ 0, 7123, .inl (upd g_4 (4 + (13 * k1_12) + 1) 99)))] := hD
    have hf_7 : Pd (upd g_4 (4 + (13 * k1_12) + 1) 99) := (PL_free hf_5 (fNAME (t := 0) (c := k1_12) (k := 1) (by omega) (by omega) (by omega) (by omega) (by omega)))
    have hq1 : (upd g_4 (4 + (13 * k1_12) + 1) 99) 1 = nI u12 := ((pk_un (by omega)).trans hq1)
    have hq2 : (upd g_4 (4 + (13 * k1_12) + 1) 99) 2 = dr 2 := ((pk_un (by omega)).trans hq2)
    generalize upd g_4 (4 + (13 * k1_12) + 1) 99 = g_6 at hP hD hf_7 hq1 hq2
    refine lv_aload_n hx hb dX12_numbersNames_47 rfl (lv_at hl 1 rfl) ?_
    refine va_get (D := D) (ci := 12) (v := .ref a17) (C := RX12) (T := TX12) (N := 30) hx hb hts inlX12 hown hK hP 0 rfl rfl 17 (by decide) (hts _ mw_197) (fun _ h9 => h9) rfl dX12_numbersNames_48 ?_
    refine lv_iconst (v := 4) hx hb dX12_numbersNames_51 (by decide) ?_
    refine lv_bipush (v := 13) hx hb dX12_numbersNames_52 (by decide) ?_
    refine lv_iload_n hx hb dX12_numbersNames_54 rfl (lv_at hl 0 rfl) ?_
    refine lv_imul hx hb dX12_numbersNames_55 ?_
    refine ki (v := (nI (13 * k1_12))) (pk_mul 13 k1_12) ?_
    refine lv_iadd hx hb dX12_numbersNames_56 ?_
    refine ki (v := (nI (4 + (13 * k1_12)))) (nI_add 4 (13 * k1_12)) ?_
    refine lv_iconst (v := 2) hx hb dX12_numbersNames_57 (by decide) ?_
    refine lv_iadd hx hb dX12_numbersNames_58 ?_
    refine ki (v := (nI (4 + (13 * k1_12) + 2))) (nI_add (4 + (13 * k1_12)) 2) ?_
    refine lv_bipush (v := 48) hx hb dX12_numbersNames_59 (by decide) ?_
    refine lv_iload_n hx hb dX12_numbersNames_61 rfl (lv_at hl 0 rfl) ?_
    refine lv_iadd hx hb dX12_numbersNames_62 ?_
    refine ki (v := (nI (48 + k1_12))) (nI_add 48 k1_12) ?_
    refine va_iast hx hb hK hP hD hS 1 0 rfl rfl (i := nI (4 + (13 * k1_12) + 2)) (x := nI (48 + k1_12)) (vp_in_nI (n := (4 + (13 * k1_12) + 2)) (by omega) (by omega)) dX12_numbersNames_63 (fun H locs hP hD hS => ?_)
    rw [nI_clamp (by omega)] at hP hD
    have hP : va_P D vwCl [(m0, .inr (12, [.ref a0, .ref a1, .ref a2, .int (nI u3), .int f4, .ref a5, .int (nI u6), .int f7, .int f8, .int f9, .int f10, .int (nI u11), .int (nI u12), .int (nI u13), .ref a14, .ref a15, .ref a16, .ref a17, .int f18, .int f19, .ref a20, .ref a21, .int (nI u22), .ref a23, .ref a24, .ref a25, .int (nI u26), .int f27, .ref a28, .int (nI u29)])), (a17, .inl (κ 0, 7123, .inl (upd g_6 (4 + (13 * k1_12) + 2) (nI (48 + k1_12)))))] H := hP
    have hD : va_D A [(m0, .inr (12, [.ref a0, .ref a1, .ref a2, .int (nI u3), .int f4, .ref a5, .int (nI u6), .int f7, .int f8, .int f9, .int f10, .int (nI u11), .int (nI u12), .int (nI u13), .ref a14, .ref a15, .ref a16, .ref a17, .int f18, .int f19, .ref a20, .ref a21, .int (nI u22), .ref a23, .ref a24, .ref a25, .int (nI u26), .int f27, .ref a28, .int (nI u29)])), (a17, .inl (κ 0, 7123, .inl (upd g_6 (4 + (13 * k1_12) + 2) (nI (48 + k1_12)))))] := hD
    have hf_9 : Pd (upd g_6 (4 + (13 * k1_12) + 2) (nI (48 + k1_12))) := (PL_free hf_7 (fNAME (t := 0) (c := k1_12) (k := 2) (by omega) (by omega) (by omega) (by omega) (by omega)))
    have hq1 : (upd g_6 (4 + (13 * k1_12) + 2) (nI (48 + k1_12))) 1 = nI u12 := ((pk_un (by omega)).trans hq1)
    have hq2 : (upd g_6 (4 + (13 * k1_12) + 2) (nI (48 + k1_12))) 2 = dr 2 := ((pk_un (by omega)).trans hq2)
    generalize upd g_6 (4 + (13 * k1_12) + 2) (nI (48 + k1_12)) = g_8 at hP hD hf_9 hq1 hq2
    refine lv_iinc (v := (nI (k1_12 + 1))) (lv' := [(1, .int (nI (k1_12 + 1))), (0, .ref m0)]) hx hb dX12_numbersNames_64 hl (k := 0) rfl (nI_i k1_12) (by decide) rfl (fun ls hl => ?_)
    refine lv_goto (tgt := 12) hx hb dX12_numbersNames_67 (by decide) ?_
    exact ih12 _ _ _ _ (by omega) ⟨(k1_12 + 1), g_8, (by omega), hq1, hq2, hf_9, rfl, hP, hD, hS, lv_sub hl [0, 1] rfl⟩
set_option maxHeartbeats 4000000 in
set_option maxRecDepth 100000 in
theorem s_X12_fits (l : Launch) (D : va_G) (κ : Nat → ClassId) (m0 : Nat) (a0 : Nat) (a1 : Nat) (a2 : Nat) (u3 : Nat) (f4 : Int32) (a5 : Nat) (u6 : Nat) (f7 : Int32) (f8 : Int32) (f9 : Int32) (f10 : Int32) (u11 : Nat) (u12 : Nat) (u13 : Nat) (a14 : Nat) (a15 : Nat) (a16 : Nat) (a17 : Nat) (f18 : Int32) (f19 : Int32) (a20 : Nat) (a21 : Nat) (u22 : Nat) (a23 : Nat) (a24 : Nat) (a25 : Nat) (u26 : Nat) (f27 : Int32) (a28 : Nat) (u29 : Nat) (w : Nat → Int32) (fd : Nat → Int32) (pt : Nat → Int32) (a : Nat) (h8 : PF f8) (h12 : u12 ≤ 8) (h13 : u13 ≤ 800) (h_a0 : Pw w) (h_a14 : Pfd fd) (h_a16 : Pb 9 800 pt) (ha : a ≤ 8) : Ct l yX12_fits (wl yX12_fits cX12_fits 3 (some .boolean)) { frames := 1, cells := 0, slots := 0, locals := 23 } D κ [.ref m0, .int (nI a)] [(m0, .inr (12, [.ref a0, .ref a1, .ref a2, .int (nI u3), .int f4, .ref a5, .int (nI u6), .int f7, .int f8, .int f9, .int f10, .int (nI u11), .int (nI u12), .int (nI u13), .ref a14, .ref a15, .ref a16, .ref a17, .int f18, .int f19, .ref a20, .ref a21, .int (nI u22), .ref a23, .ref a24, .ref a25, .int (nI u26), .int f27, .ref a28, .int (nI u29)])), (a0, .inl (κ 0, 21375, .inl w)), (a14, .inl (κ 0, 189, .inl fd)), (a16, .inl (κ 0, 9, .inl pt))] (fun _ => True) (fun u9 : Int32 × Int32 × Int32 × Int32 × (Nat → Int32) => some (.int u9.1)) (fun u9 : Int32 × Int32 × Int32 × Int32 × (Nat → Int32) => PF u9.2.2.1 ∧ Pfd u9.2.2.2.2 ∧ ((u9.1 = 1) ∨ (u9.1 = 0))) (fun u9 : Int32 × Int32 × Int32 × Int32 × (Nat → Int32) => [(m0, .inr (12, [.ref a0, .ref a1, .ref a2, .int (nI u3), .int f4, .ref a5, .int (nI u6), .int u9.2.1, .int u9.2.2.1, .int u9.2.2.2.1, .int f10, .int (nI u11), .int (nI u12), .int (nI u13), .ref a14, .ref a15, .ref a16, .ref a17, .int f18, .int f19, .ref a20, .ref a21, .int (nI u22), .ref a23, .ref a24, .ref a25, .int (nI u26), .int f27, .ref a28, .int (nI u29)])), (a0, .inl (κ 0, 21375, .inl w)), (a14, .inl (κ 0, 189, .inl u9.2.2.2.2)), (a16, .inl (κ 0, 9, .inl pt))]) (fun _ _ => True) := by
  refine ct_of (by decide +kernel) (Nat.le_of_ble_eq_true rfl) ?_
  intro p e s m args below meth c A ls hx hb hr hml hts hown hlk hin hKK hK hA hP hD hS hI hl
  have hS : va_S A s.heap s.heap [] := hS
  have hFX : FX p s m args c cX12_fits 3 RX12 := ⟨hx, hb, hml, hown, hts⟩
  have hl : lv_has ls 3 [(0, .ref m0), (1, .int (nI a))] := hl
  refine lv_aload_n hx hb dX12_fits_0 rfl (lv_at hl 0 rfl) ?_
  refine va_get (D := D) (ci := 12) (v := .int (nI u12)) (C := RX12) (T := TX12) (N := 30) hx hb hts inlX12 hown hK hP 0 rfl rfl 12 (by decide) (hts _ mw_446) (fun _ h9 => h9) rfl dX12_fits_1 ?_
  refine lv_iload_n hx hb dX12_fits_4 rfl (lv_at hl 1 rfl) ?_
  refine lv_icmp_ge (tgt := 36) hx hb dX12_fits_5 (by decide) (fun c_1 => ?_) (fun c_1 => ?_)
  · have nc_1 := cv_le (a := a) (b := u12) (by omega) (by omega) c_1
    refine lv_aload_n hx hb dX12_fits_36 rfl (lv_at hl 0 rfl) ?_
    refine va_get (D := D) (ci := 12) (v := .int (nI u12)) (C := RX12) (T := TX12) (N := 30) hx hb hts inlX12 hown hK hP 0 rfl rfl 12 (by decide) (hts _ mw_446) (fun _ h9 => h9) rfl dX12_fits_37 ?_
    refine lv_iload_n hx hb dX12_fits_40 rfl (lv_at hl 1 rfl) ?_
    refine lv_icmp_le (tgt := 74) hx hb dX12_fits_41 (by decide) (fun c_2 => ?_) (fun c_2 => ?_)
    · have nc_2 := cv_le (a := u12) (b := a) (by omega) (by omega) c_2
      refine lv_aload_n hx hb dX12_fits_74 rfl (lv_at hl 0 rfl) ?_
      refine va_get (D := D) (ci := 12) (v := .int (nI u12)) (C := RX12) (T := TX12) (N := 30) hx hb hts inlX12 hown hK hP 0 rfl rfl 12 (by decide) (hts _ mw_446) (fun _ h9 => h9) rfl dX12_fits_75 ?_
      refine lv_istore_n (lv' := [(2, .int (nI u12)), (0, .ref m0), (1, .int (nI a))]) hx hb dX12_fits_78 rfl hl (by decide) rfl (fun ls hl => ?_)
      refine loop_dn (fun k9 H locs ls => ∃ (k2_79 : Nat), ∃ (ga14_79 : Nat → Int32), (k2_79 ≤ 8) ∧ Pfd ga14_79 ∧ 8 - k2_79 = k9 ∧ va_P D vwCl [(m0, .inr (12, [.ref a0, .ref a1, .ref a2, .int (nI u3), .int f4, .ref a5, .int (nI u6), .int f7, .int f8, .int f9, .int f10, .int (nI u11), .int (nI u12), .int (nI u13), .ref a14, .ref a15, .ref a16, .ref a17, .int f18, .int f19, .ref a20, .ref a21, .int (nI u22), .ref a23, .ref a24, .ref a25, .int (nI u26), .int f27, .ref a28, .int (nI u29)])), (a0, .inl (κ 0, 21375, .inl w)), (a14, .inl (κ 0, 189, .inl ga14_79)), (a16, .inl (κ 0, 9, .inl pt))] H ∧ va_D A [(m0, .inr (12, [.ref a0, .ref a1, .ref a2, .int (nI u3), .int f4, .ref a5, .int (nI u6), .int f7, .int f8, .int f9, .int f10, .int (nI u11), .int (nI u12), .int (nI u13), .ref a14, .ref a15, .ref a16, .ref a17, .int f18, .int f19, .ref a20, .ref a21, .int (nI u22), .ref a23, .ref a24, .ref a25, .int (nI u26), .int f27, .ref a28, .int (nI u29)])), (a0, .inl (κ 0, 21375, .inl w)), (a14, .inl (κ 0, 189, .inl ga14_79)), (a16, .inl (κ 0, 9, .inl pt))] ∧ va_S A s.heap H locs ∧ lv_has ls 3 [(2, .int (nI k2_79)), (0, .ref m0), (1, .int (nI a))]) (fun k9 H locs ls hI79 ih79 => ?_) (8 - u12) _ _ _ ⟨u12, fd, (by omega), h_a14, rfl, hP, hD, hS, lv_sub hl [0, 1, 2] rfl⟩
      obtain ⟨k2_79, ga14_79, hl79_0, hg79_0, hm79, hP, hD, hS, hl⟩ := hI79
      refine lv_iload_n hx hb dX12_fits_79 rfl (lv_at hl 0 rfl) ?_
      refine lv_iload_n hx hb dX12_fits_80 rfl (lv_at hl 2 rfl) ?_
      refine lv_icmp_ge (tgt := 100) hx hb dX12_fits_81 (by decide) (fun c_3 => ?_) (fun c_3 => ?_)
      · have nc_3 := cv_le (a := a) (b := k2_79) (by omega) (by omega) c_3
        refine lv_iconst (v := 1) hx hb dX12_fits_100 (by decide) ?_
        exact ct_iret hx hb hr hlk rfl hS hP hD (1, f7, f8, f9, ga14_79) rfl ⟨(show PF f8 from (by assumption)), (show Pfd ga14_79 from (by first | assumption | omega)), (by exact Or.inl (rfl))⟩ [0, 1, 2, 3] rfl (by decide) trivial (Nat.le_of_ble_eq_true rfl) (Nat.le_of_ble_eq_true rfl) dX12_fits_101
      · have nc_3 := cv_nle (a := a) (b := k2_79) (by omega) (by omega) c_3
        refine lv_aload_n hx hb dX12_fits_84 rfl (lv_at hl 1 rfl) ?_
        refine va_get (D := D) (ci := 12) (v := .ref a14) (C := RX12) (T := TX12) (N := 30) hx hb hts inlX12 hown hK hP 0 rfl rfl 14 (by decide) (hts _ mw_194) (fun _ h9 => h9) rfl dX12_fits_85 ?_
        refine lv_bipush (v := 21) hx hb dX12_fits_88 (by decide) ?_
        refine lv_iload_n hx hb dX12_fits_90 rfl (lv_at hl 0 rfl) ?_
        refine lv_imul hx hb dX12_fits_91 ?_
        refine ki (v := (nI (21 * k2_79))) (pk_mul 21 k2_79) ?_
        refine lv_iconst (v := 0) hx hb dX12_fits_92 (by decide) ?_
        refine va_iast hx hb hK hP hD hS 2 0 rfl rfl (i := nI (21 * k2_79)) (x := 0) (vp_in_nI (n := (21 * k2_79)) (by omega) (by omega)) dX12_fits_93 (fun H locs hP hD hS => ?_)
        rw [nI_clamp (by omega)] at hP hD
        have hP : va_P D vwCl [(m0, .inr (12, [.ref a0, .ref a1, .ref a2, .int (nI u3), .int f4, .ref a5, .int (nI u6), .int f7, .int f8, .int f9, .int f10, .int (nI u11), .int (nI u12), .int (nI u13), .ref a14, .ref a15, .ref a16, .ref a17, .int f18, .int f19, .ref a20, .ref a21, .int (nI u22), .ref a23, .ref a24, .ref a25, .int (nI u26), .int f27, .ref a28, .int (nI u29)])), (a0, .inl (κ 0, 21375, .inl w)), (a14, .inl (κ 0, 189, .inl (upd ga14_79 (21 * k2_79) 0))), (a16, .inl (κ 0, 9, .inl pt))] H := hP
        have hD : va_D A [(m0, .inr (12, [.ref a0, .ref a1, .ref a2, .int (nI u3), .int f4, .ref a5, .int (nI u6), .int f7, .int f8, .int f9, .int f10, .int (nI u11), .int (nI u12), .int (nI u13), .ref a14, .ref a15, .ref a16, .ref a17, .int f18, .int f19, .ref a20, .ref a21, .int (nI u22), .ref a23, .ref a24, .ref a25, .int (nI u26), .int f27, .ref a28, .int (nI u29)])), (a0, .inl (κ 0, 21375, .inl w)), (a14, .inl (κ 0, 189, .inl (upd ga14_79 (21 * k2_79) 0))), (a16, .inl (κ 0, 9, .inl pt))] := hD
        have hf_5 : Pfd (upd ga14_79 (21 * k2_79) 0) := (Pfd_upd hg79_0 (c := k2_79) (by omega) ⟨0, by omega, rfl⟩)
        generalize upd ga14_79 (21 * k2_79) 0 = g_4 at hP hD hf_5
        refine lv_iinc (v := (nI (k2_79 + 1))) (lv' := [(2, .int (nI (k2_79 + 1))), (0, .ref m0), (1, .int (nI a))]) hx hb dX12_fits_94 hl (k := 0) rfl (nI_i k2_79) (by decide) rfl (fun ls hl => ?_)
        refine lv_goto (tgt := 79) hx hb dX12_fits_97 (by decide) ?_
        exact ih79 _ _ _ _ (by omega) ⟨(k2_79 + 1), g_4, (by omega), hf_5, rfl, hP, hD, hS, lv_sub hl [0, 1, 2] rfl⟩
    · have nc_2 := cv_nle (a := u12) (b := a) (by omega) (by omega) c_2
      refine lv_aload_n hx hb dX12_fits_44 rfl (lv_at hl 0 rfl) ?_
      refine va_get (D := D) (ci := 12) (v := .ref a0) (C := RX12) (T := TX12) (N := 30) hx hb hts inlX12 hown hK hP 0 rfl rfl 0 (by decide) (hts _ mw_187) (fun _ h9 => h9) rfl dX12_fits_45 ?_
      refine lv_sipush (v := 21373) hx hb dX12_fits_48 (by decide) ?_
      refine va_iald hx hb hK hP 1 0 rfl rfl (i := 21373) (vp_k (by decide)) dX12_fits_51 ?_
      obtain ⟨x_6, ex_6⟩ : ∃ y9 : Int32, w 21373 = y9 := ⟨_, rfl⟩
      refine kv (v := .int x_6) (congrArg Value.int ex_6) ?_
      refine lv_iconst (v := 2) hx hb dX12_fits_52 (by decide) ?_
      refine lv_iand hx hb dX12_fits_53 ?_
      refine lv_topi (fun x_7 ex_7 => ?_)
      refine lv_if_ne (tgt := 74) hx hb dX12_fits_54 (by decide) (fun c_8 => ?_) (fun c_8 => ?_)
      · refine lv_aload_n hx hb dX12_fits_74 rfl (lv_at hl 0 rfl) ?_
        refine va_get (D := D) (ci := 12) (v := .int (nI u12)) (C := RX12) (T := TX12) (N := 30) hx hb hts inlX12 hown hK hP 0 rfl rfl 12 (by decide) (hts _ mw_446) (fun _ h9 => h9) rfl dX12_fits_75 ?_
        refine lv_istore_n (lv' := [(2, .int (nI u12)), (0, .ref m0), (1, .int (nI a))]) hx hb dX12_fits_78 rfl hl (by decide) rfl (fun ls hl => ?_)
        refine loop_dn (fun k9 H locs ls => ∃ (k2_79 : Nat), ∃ (ga14_79 : Nat → Int32), (k2_79 ≤ 8) ∧ Pfd ga14_79 ∧ 8 - k2_79 = k9 ∧ va_P D vwCl [(m0, .inr (12, [.ref a0, .ref a1, .ref a2, .int (nI u3), .int f4, .ref a5, .int (nI u6), .int f7, .int f8, .int f9, .int f10, .int (nI u11), .int (nI u12), .int (nI u13), .ref a14, .ref a15, .ref a16, .ref a17, .int f18, .int f19, .ref a20, .ref a21, .int (nI u22), .ref a23, .ref a24, .ref a25, .int (nI u26), .int f27, .ref a28, .int (nI u29)])), (a0, .inl (κ 0, 21375, .inl w)), (a14, .inl (κ 0, 189, .inl ga14_79)), (a16, .inl (κ 0, 9, .inl pt))] H ∧ va_D A [(m0, .inr (12, [.ref a0, .ref a1, .ref a2, .int (nI u3), .int f4, .ref a5, .int (nI u6), .int f7, .int f8, .int f9, .int f10, .int (nI u11), .int (nI u12), .int (nI u13), .ref a14, .ref a15, .ref a16, .ref a17, .int f18, .int f19, .ref a20, .ref a21, .int (nI u22), .ref a23, .ref a24, .ref a25, .int (nI u26), .int f27, .ref a28, .int (nI u29)])), (a0, .inl (κ 0, 21375, .inl w)), (a14, .inl (κ 0, 189, .inl ga14_79)), (a16, .inl (κ 0, 9, .inl pt))] ∧ va_S A s.heap H locs ∧ lv_has ls 3 [(2, .int (nI k2_79)), (0, .ref m0), (1, .int (nI a))]) (fun k9 H locs ls hI79 ih79 => ?_) (8 - u12) _ _ _ ⟨u12, fd, (by omega), h_a14, rfl, hP, hD, hS, lv_sub hl [0, 1, 2] rfl⟩
        obtain ⟨k2_79, ga14_79, hl79_0, hg79_0, hm79, hP, hD, hS, hl⟩ := hI79
        refine lv_iload_n hx hb dX12_fits_79 rfl (lv_at hl 0 rfl) ?_
        refine lv_iload_n hx hb dX12_fits_80 rfl (lv_at hl 2 rfl) ?_
        refine lv_icmp_ge (tgt := 100) hx hb dX12_fits_81 (by decide) (fun c_9 => ?_) (fun c_9 => ?_)
        · have nc_9 := cv_le (a := a) (b := k2_79) (by omega) (by omega) c_9
          refine lv_iconst (v := 1) hx hb dX12_fits_100 (by decide) ?_
          exact ct_iret hx hb hr hlk rfl hS hP hD (1, f7, f8, f9, ga14_79) rfl ⟨(show PF f8 from (by assumption)), (show Pfd ga14_79 from (by first | assumption | omega)), (by exact Or.inl (rfl))⟩ [0, 1, 2, 3] rfl (by decide) trivial (Nat.le_of_ble_eq_true rfl) (Nat.le_of_ble_eq_true rfl) dX12_fits_101
        · have nc_9 := cv_nle (a := a) (b := k2_79) (by omega) (by omega) c_9
          refine lv_aload_n hx hb dX12_fits_84 rfl (lv_at hl 1 rfl) ?_
          refine va_get (D := D) (ci := 12) (v := .ref a14) (C := RX12) (T := TX12) (N := 30) hx hb hts inlX12 hown hK hP 0 rfl rfl 14 (by decide) (hts _ mw_194) (fun _ h9 => h9) rfl dX12_fits_85 ?_
          refine lv_bipush (v := 21) hx hb dX12_fits_88 (by decide) ?_
          refine lv_iload_n hx hb dX12_fits_90 rfl (lv_at hl 0 rfl) ?_
          refine lv_imul hx hb dX12_fits_91 ?_
          refine ki (v := (nI (21 * k2_79))) (pk_mul 21 k2_79) ?_
          refine lv_iconst (v := 0) hx hb dX12_fits_92 (by decide) ?_
          refine va_iast hx hb hK hP hD hS 2 0 rfl rfl (i := nI (21 * k2_79)) (x := 0) (vp_in_nI (n := (21 * k2_79)) (by omega) (by omega)) dX12_fits_93 (fun H locs hP hD hS => ?_)
          rw [nI_clamp (by omega)] at hP hD
          have hP : va_P D vwCl [(m0, .inr (12, [.ref a0, .ref a1, .ref a2, .int (nI u3), .int f4, .ref a5, .int (nI u6), .int f7, .int f8, .int f9, .int f10, .int (nI u11), .int (nI u12), .int (nI u13), .ref a14, .ref a15, .ref a16, .ref a17, .int f18, .int f19, .ref a20, .ref a21, .int (nI u22), .ref a23, .ref a24, .ref a25, .int (nI u26), .int f27, .ref a28, .int (nI u29)])), (a0, .inl (κ 0, 21375, .inl w)), (a14, .inl (κ 0, 189, .inl (upd ga14_79 (21 * k2_79) 0))), (a16, .inl (κ 0, 9, .inl pt))] H := hP
          have hD : va_D A [(m0, .inr (12, [.ref a0, .ref a1, .ref a2, .int (nI u3), .int f4, .ref a5, .int (nI u6), .int f7, .int f8, .int f9, .int f10, .int (nI u11), .int (nI u12), .int (nI u13), .ref a14, .ref a15, .ref a16, .ref a17, .int f18, .int f19, .ref a20, .ref a21, .int (nI u22), .ref a23, .ref a24, .ref a25, .int (nI u26), .int f27, .ref a28, .int (nI u29)])), (a0, .inl (κ 0, 21375, .inl w)), (a14, .inl (κ 0, 189, .inl (upd ga14_79 (21 * k2_79) 0))), (a16, .inl (κ 0, 9, .inl pt))] := hD
          have hf_11 : Pfd (upd ga14_79 (21 * k2_79) 0) := (Pfd_upd hg79_0 (c := k2_79) (by omega) ⟨0, by omega, rfl⟩)
          generalize upd ga14_79 (21 * k2_79) 0 = g_10 at hP hD hf_11
          refine lv_iinc (v := (nI (k2_79 + 1))) (lv' := [(2, .int (nI (k2_79 + 1))), (0, .ref m0), (1, .int (nI a))]) hx hb dX12_fits_94 hl (k := 0) rfl (nI_i k2_79) (by decide) rfl (fun ls hl => ?_)
          refine lv_goto (tgt := 79) hx hb dX12_fits_97 (by decide) ?_
          exact ih79 _ _ _ _ (by omega) ⟨(k2_79 + 1), g_10, (by omega), hf_11, rfl, hP, hD, hS, lv_sub hl [0, 1, 2] rfl⟩
      · refine lv_aload_n hx hb dX12_fits_57 rfl (lv_at hl 0 rfl) ?_
        refine lv_bipush (v := 8) hx hb dX12_fits_58 (by decide) ?_
        refine lv_aload_n hx hb dX12_fits_60 rfl (lv_at hl 0 rfl) ?_
        refine va_get (D := D) (ci := 12) (v := .ref a16) (C := RX12) (T := TX12) (N := 30) hx hb hts inlX12 hown hK hP 0 rfl rfl 16 (by decide) (hts _ mw_196) (fun _ h9 => h9) rfl dX12_fits_61 ?_
        refine lv_iload_n hx hb dX12_fits_64 rfl (lv_at hl 1 rfl) ?_
        refine va_iald hx hb hK hP 3 0 rfl rfl (i := nI a) (vp_in_nI (n := a) (by omega) (by omega)) dX12_fits_65 ?_
        refine kv (v := .int (pt a)) (by rw [nI_clamp (by omega)]) ?_
        obtain ⟨n_12, hn_12, en_12⟩ : ∃ n9 : Nat, n9 ≤ 800 ∧ pt a = nI n9 := id (h_a16 a (by omega))
        refine kv (v := .int (nI n_12)) (congrArg Value.int en_12) ?_
        refine lv_aload_n hx hb dX12_fits_66 rfl (lv_at hl 0 rfl) ?_
        refine va_get (D := D) (ci := 12) (v := .int (nI u12)) (C := RX12) (T := TX12) (N := 30) hx hb hts inlX12 hown hK hP 0 rfl rfl 12 (by decide) (hts _ mw_446) (fun _ h9 => h9) rfl dX12_fits_67 ?_
        refine ct_V (wr := [(a0, .inl (κ 0, 21375, .inl w)), (a14, .inl (κ 0, 189, .inl fd)), (a16, .inl (κ 0, 9, .inl pt))]) (As := [.int 8, .int (nI n_12), .int (nI u12)]) (rest := []) hFX hKK hP hD hS hA (s_X12_wrong l D κ m0 a0 a1 a2 u3 f4 a5 u6 f7 f8 f9 f10 u11 u12 u13 a14 a15 a16 a17 f18 f19 a20 a21 u22 a23 a24 a25 u26 f27 a28 u29 8 (nI n_12) (nI u12)) 3 gV_X12_210 hdV_X12_wrong ⟨Nat.le_of_ble_eq_true rfl, Nat.le_of_ble_eq_true rfl⟩ rfl rfl (Nat.le_of_ble_eq_true rfl) dX12_fits_70 ⟨Nat.le_of_ble_eq_true rfl, Nat.le_of_ble_eq_true rfl⟩ hl.1 [0] [1, 2, 3] rfl rfl (by decide) (by decide) (by decide) 0 12 rfl rfl rfl trivial (fun _ H locs hp_13 _ hP hD hS hz_ hk_ => ?_)
        replace hP : va_P D vwCl [(m0, .inr (12, [.ref a0, .ref a1, .ref a2, .int (nI u3), .int f4, .ref a5, .int (nI u6), .int 8, .int (nI n_12), .int (nI u12), .int f10, .int (nI u11), .int (nI u12), .int (nI u13), .ref a14, .ref a15, .ref a16, .ref a17, .int f18, .int f19, .ref a20, .ref a21, .int (nI u22), .ref a23, .ref a24, .ref a25, .int (nI u26), .int f27, .ref a28, .int (nI u29)])), (a0, .inl (κ 0, 21375, .inl w)), (a14, .inl (κ 0, 189, .inl fd)), (a16, .inl (κ 0, 9, .inl pt))] H := hP.sub [3, 0, 1, 2] rfl
        replace hD : va_D A [(m0, .inr (12, [.ref a0, .ref a1, .ref a2, .int (nI u3), .int f4, .ref a5, .int (nI u6), .int 8, .int (nI n_12), .int (nI u12), .int f10, .int (nI u11), .int (nI u12), .int (nI u13), .ref a14, .ref a15, .ref a16, .ref a17, .int f18, .int f19, .ref a20, .ref a21, .int (nI u22), .ref a23, .ref a24, .ref a25, .int (nI u26), .int f27, .ref a28, .int (nI u29)])), (a0, .inl (κ 0, 21375, .inl w)), (a14, .inl (κ 0, 189, .inl fd)), (a16, .inl (κ 0, 9, .inl pt))] := hD.sub [3, 0, 1, 2] (by decide) rfl
        refine W.eq (g2 := F0 m 73 ls [.int 0]) rfl ?_
        exact ct_iret hx hb hr hlk rfl hS hP hD (0, 8, nI n_12, nI u12, fd) rfl ⟨(show PF (nI n_12) from (PF_n (by omega))), (show Pfd fd from (by first | assumption | omega)), (by exact Or.inr ((rfl)))⟩ [0, 1, 2, 3] rfl (by decide) trivial (Nat.le_of_ble_eq_true rfl) (Nat.le_of_ble_eq_true rfl) dX12_fits_73
  · have nc_1 := cv_nle (a := a) (b := u12) (by omega) (by omega) c_1
    refine lv_aload_n hx hb dX12_fits_8 rfl (lv_at hl 0 rfl) ?_
    refine va_get (D := D) (ci := 12) (v := .ref a0) (C := RX12) (T := TX12) (N := 30) hx hb hts inlX12 hown hK hP 0 rfl rfl 0 (by decide) (hts _ mw_187) (fun _ h9 => h9) rfl dX12_fits_9 ?_
    refine lv_sipush (v := 21373) hx hb dX12_fits_12 (by decide) ?_
    refine va_iald hx hb hK hP 1 0 rfl rfl (i := 21373) (vp_k (by decide)) dX12_fits_15 ?_
    obtain ⟨x_14, ex_14⟩ : ∃ y9 : Int32, w 21373 = y9 := ⟨_, rfl⟩
    refine kv (v := .int x_14) (congrArg Value.int ex_14) ?_
    refine lv_iconst (v := 1) hx hb dX12_fits_16 (by decide) ?_
    refine lv_iand hx hb dX12_fits_17 ?_
    refine lv_topi (fun x_15 ex_15 => ?_)
    refine lv_if_ne (tgt := 36) hx hb dX12_fits_18 (by decide) (fun c_16 => ?_) (fun c_16 => ?_)
    · refine lv_aload_n hx hb dX12_fits_36 rfl (lv_at hl 0 rfl) ?_
      refine va_get (D := D) (ci := 12) (v := .int (nI u12)) (C := RX12) (T := TX12) (N := 30) hx hb hts inlX12 hown hK hP 0 rfl rfl 12 (by decide) (hts _ mw_446) (fun _ h9 => h9) rfl dX12_fits_37 ?_
      refine lv_iload_n hx hb dX12_fits_40 rfl (lv_at hl 1 rfl) ?_
      refine lv_icmp_le (tgt := 74) hx hb dX12_fits_41 (by decide) (fun c_17 => ?_) (fun c_17 => ?_)
      · have nc_17 := cv_le (a := u12) (b := a) (by omega) (by omega) c_17
        refine lv_aload_n hx hb dX12_fits_74 rfl (lv_at hl 0 rfl) ?_
        refine va_get (D := D) (ci := 12) (v := .int (nI u12)) (C := RX12) (T := TX12) (N := 30) hx hb hts inlX12 hown hK hP 0 rfl rfl 12 (by decide) (hts _ mw_446) (fun _ h9 => h9) rfl dX12_fits_75 ?_
        refine lv_istore_n (lv' := [(2, .int (nI u12)), (0, .ref m0), (1, .int (nI a))]) hx hb dX12_fits_78 rfl hl (by decide) rfl (fun ls hl => ?_)
        refine loop_dn (fun k9 H locs ls => ∃ (k2_79 : Nat), ∃ (ga14_79 : Nat → Int32), (k2_79 ≤ 8) ∧ Pfd ga14_79 ∧ 8 - k2_79 = k9 ∧ va_P D vwCl [(m0, .inr (12, [.ref a0, .ref a1, .ref a2, .int (nI u3), .int f4, .ref a5, .int (nI u6), .int f7, .int f8, .int f9, .int f10, .int (nI u11), .int (nI u12), .int (nI u13), .ref a14, .ref a15, .ref a16, .ref a17, .int f18, .int f19, .ref a20, .ref a21, .int (nI u22), .ref a23, .ref a24, .ref a25, .int (nI u26), .int f27, .ref a28, .int (nI u29)])), (a0, .inl (κ 0, 21375, .inl w)), (a14, .inl (κ 0, 189, .inl ga14_79)), (a16, .inl (κ 0, 9, .inl pt))] H ∧ va_D A [(m0, .inr (12, [.ref a0, .ref a1, .ref a2, .int (nI u3), .int f4, .ref a5, .int (nI u6), .int f7, .int f8, .int f9, .int f10, .int (nI u11), .int (nI u12), .int (nI u13), .ref a14, .ref a15, .ref a16, .ref a17, .int f18, .int f19, .ref a20, .ref a21, .int (nI u22), .ref a23, .ref a24, .ref a25, .int (nI u26), .int f27, .ref a28, .int (nI u29)])), (a0, .inl (κ 0, 21375, .inl w)), (a14, .inl (κ 0, 189, .inl ga14_79)), (a16, .inl (κ 0, 9, .inl pt))] ∧ va_S A s.heap H locs ∧ lv_has ls 3 [(2, .int (nI k2_79)), (0, .ref m0), (1, .int (nI a))]) (fun k9 H locs ls hI79 ih79 => ?_) (8 - u12) _ _ _ ⟨u12, fd, (by omega), h_a14, rfl, hP, hD, hS, lv_sub hl [0, 1, 2] rfl⟩
        obtain ⟨k2_79, ga14_79, hl79_0, hg79_0, hm79, hP, hD, hS, hl⟩ := hI79
        refine lv_iload_n hx hb dX12_fits_79 rfl (lv_at hl 0 rfl) ?_
        refine lv_iload_n hx hb dX12_fits_80 rfl (lv_at hl 2 rfl) ?_
        refine lv_icmp_ge (tgt := 100) hx hb dX12_fits_81 (by decide) (fun c_18 => ?_) (fun c_18 => ?_)
        · have nc_18 := cv_le (a := a) (b := k2_79) (by omega) (by omega) c_18
          refine lv_iconst (v := 1) hx hb dX12_fits_100 (by decide) ?_
          exact ct_iret hx hb hr hlk rfl hS hP hD (1, f7, f8, f9, ga14_79) rfl ⟨(show PF f8 from (by assumption)), (show Pfd ga14_79 from (by first | assumption | omega)), (by exact Or.inl (rfl))⟩ [0, 1, 2, 3] rfl (by decide) trivial (Nat.le_of_ble_eq_true rfl) (Nat.le_of_ble_eq_true rfl) dX12_fits_101
        · have nc_18 := cv_nle (a := a) (b := k2_79) (by omega) (by omega) c_18
          refine lv_aload_n hx hb dX12_fits_84 rfl (lv_at hl 1 rfl) ?_
          refine va_get (D := D) (ci := 12) (v := .ref a14) (C := RX12) (T := TX12) (N := 30) hx hb hts inlX12 hown hK hP 0 rfl rfl 14 (by decide) (hts _ mw_194) (fun _ h9 => h9) rfl dX12_fits_85 ?_
          refine lv_bipush (v := 21) hx hb dX12_fits_88 (by decide) ?_
          refine lv_iload_n hx hb dX12_fits_90 rfl (lv_at hl 0 rfl) ?_
          refine lv_imul hx hb dX12_fits_91 ?_
          refine ki (v := (nI (21 * k2_79))) (pk_mul 21 k2_79) ?_
          refine lv_iconst (v := 0) hx hb dX12_fits_92 (by decide) ?_
          refine va_iast hx hb hK hP hD hS 2 0 rfl rfl (i := nI (21 * k2_79)) (x := 0) (vp_in_nI (n := (21 * k2_79)) (by omega) (by omega)) dX12_fits_93 (fun H locs hP hD hS => ?_)
          rw [nI_clamp (by omega)] at hP hD
          have hP : va_P D vwCl [(m0, .inr (12, [.ref a0, .ref a1, .ref a2, .int (nI u3), .int f4, .ref a5, .int (nI u6), .int f7, .int f8, .int f9, .int f10, .int (nI u11), .int (nI u12), .int (nI u13), .ref a14, .ref a15, .ref a16, .ref a17, .int f18, .int f19, .ref a20, .ref a21, .int (nI u22), .ref a23, .ref a24, .ref a25, .int (nI u26), .int f27, .ref a28, .int (nI u29)])), (a0, .inl (κ 0, 21375, .inl w)), (a14, .inl (κ 0, 189, .inl (upd ga14_79 (21 * k2_79) 0))), (a16, .inl (κ 0, 9, .inl pt))] H := hP
          have hD : va_D A [(m0, .inr (12, [.ref a0, .ref a1, .ref a2, .int (nI u3), .int f4, .ref a5, .int (nI u6), .int f7, .int f8, .int f9, .int f10, .int (nI u11), .int (nI u12), .int (nI u13), .ref a14, .ref a15, .ref a16, .ref a17, .int f18, .int f19, .ref a20, .ref a21, .int (nI u22), .ref a23, .ref a24, .ref a25, .int (nI u26), .int f27, .ref a28, .int (nI u29)])), (a0, .inl (κ 0, 21375, .inl w)), (a14, .inl (κ 0, 189, .inl (upd ga14_79 (21 * k2_79) 0))), (a16, .inl (κ 0, 9, .inl pt))] := hD
          have hf_20 : Pfd (upd ga14_79 (21 * k2_79) 0) := (Pfd_upd hg79_0 (c := k2_79) (by omega) ⟨0, by omega, rfl⟩)
          generalize upd ga14_79 (21 * k2_79) 0 = g_19 at hP hD hf_20
          refine lv_iinc (v := (nI (k2_79 + 1))) (lv' := [(2, .int (nI (k2_79 + 1))), (0, .ref m0), (1, .int (nI a))]) hx hb dX12_fits_94 hl (k := 0) rfl (nI_i k2_79) (by decide) rfl (fun ls hl => ?_)
          refine lv_goto (tgt := 79) hx hb dX12_fits_97 (by decide) ?_
          exact ih79 _ _ _ _ (by omega) ⟨(k2_79 + 1), g_19, (by omega), hf_20, rfl, hP, hD, hS, lv_sub hl [0, 1, 2] rfl⟩
      · have nc_17 := cv_nle (a := u12) (b := a) (by omega) (by omega) c_17
        refine lv_aload_n hx hb dX12_fits_44 rfl (lv_at hl 0 rfl) ?_
        refine va_get (D := D) (ci := 12) (v := .ref a0) (C := RX12) (T := TX12) (N := 30) hx hb hts inlX12 hown hK hP 0 rfl rfl 0 (by decide) (hts _ mw_187) (fun _ h9 => h9) rfl dX12_fits_45 ?_
        refine lv_sipush (v := 21373) hx hb dX12_fits_48 (by decide) ?_
        refine va_iald hx hb hK hP 1 0 rfl rfl (i := 21373) (vp_k (by decide)) dX12_fits_51 ?_
        refine kv (v := .int x_14) (congrArg Value.int (ex_14)) ?_
        refine lv_iconst (v := 2) hx hb dX12_fits_52 (by decide) ?_
        refine lv_iand hx hb dX12_fits_53 ?_
        refine lv_topi (fun x_21 ex_21 => ?_)
        refine lv_if_ne (tgt := 74) hx hb dX12_fits_54 (by decide) (fun c_22 => ?_) (fun c_22 => ?_)
        · refine lv_aload_n hx hb dX12_fits_74 rfl (lv_at hl 0 rfl) ?_
          refine va_get (D := D) (ci := 12) (v := .int (nI u12)) (C := RX12) (T := TX12) (N := 30) hx hb hts inlX12 hown hK hP 0 rfl rfl 12 (by decide) (hts _ mw_446) (fun _ h9 => h9) rfl dX12_fits_75 ?_
          refine lv_istore_n (lv' := [(2, .int (nI u12)), (0, .ref m0), (1, .int (nI a))]) hx hb dX12_fits_78 rfl hl (by decide) rfl (fun ls hl => ?_)
          refine loop_dn (fun k9 H locs ls => ∃ (k2_79 : Nat), ∃ (ga14_79 : Nat → Int32), (k2_79 ≤ 8) ∧ Pfd ga14_79 ∧ 8 - k2_79 = k9 ∧ va_P D vwCl [(m0, .inr (12, [.ref a0, .ref a1, .ref a2, .int (nI u3), .int f4, .ref a5, .int (nI u6), .int f7, .int f8, .int f9, .int f10, .int (nI u11), .int (nI u12), .int (nI u13), .ref a14, .ref a15, .ref a16, .ref a17, .int f18, .int f19, .ref a20, .ref a21, .int (nI u22), .ref a23, .ref a24, .ref a25, .int (nI u26), .int f27, .ref a28, .int (nI u29)])), (a0, .inl (κ 0, 21375, .inl w)), (a14, .inl (κ 0, 189, .inl ga14_79)), (a16, .inl (κ 0, 9, .inl pt))] H ∧ va_D A [(m0, .inr (12, [.ref a0, .ref a1, .ref a2, .int (nI u3), .int f4, .ref a5, .int (nI u6), .int f7, .int f8, .int f9, .int f10, .int (nI u11), .int (nI u12), .int (nI u13), .ref a14, .ref a15, .ref a16, .ref a17, .int f18, .int f19, .ref a20, .ref a21, .int (nI u22), .ref a23, .ref a24, .ref a25, .int (nI u26), .int f27, .ref a28, .int (nI u29)])), (a0, .inl (κ 0, 21375, .inl w)), (a14, .inl (κ 0, 189, .inl ga14_79)), (a16, .inl (κ 0, 9, .inl pt))] ∧ va_S A s.heap H locs ∧ lv_has ls 3 [(2, .int (nI k2_79)), (0, .ref m0), (1, .int (nI a))]) (fun k9 H locs ls hI79 ih79 => ?_) (8 - u12) _ _ _ ⟨u12, fd, (by omega), h_a14, rfl, hP, hD, hS, lv_sub hl [0, 1, 2] rfl⟩
          obtain ⟨k2_79, ga14_79, hl79_0, hg79_0, hm79, hP, hD, hS, hl⟩ := hI79
          refine lv_iload_n hx hb dX12_fits_79 rfl (lv_at hl 0 rfl) ?_
          refine lv_iload_n hx hb dX12_fits_80 rfl (lv_at hl 2 rfl) ?_
          refine lv_icmp_ge (tgt := 100) hx hb dX12_fits_81 (by decide) (fun c_23 => ?_) (fun c_23 => ?_)
          · have nc_23 := cv_le (a := a) (b := k2_79) (by omega) (by omega) c_23
            refine lv_iconst (v := 1) hx hb dX12_fits_100 (by decide) ?_
            exact ct_iret hx hb hr hlk rfl hS hP hD (1, f7, f8, f9, ga14_79) rfl ⟨(show PF f8 from (by assumption)), (show Pfd ga14_79 from (by first | assumption | omega)), (by exact Or.inl (rfl))⟩ [0, 1, 2, 3] rfl (by decide) trivial (Nat.le_of_ble_eq_true rfl) (Nat.le_of_ble_eq_true rfl) dX12_fits_101
          · have nc_23 := cv_nle (a := a) (b := k2_79) (by omega) (by omega) c_23
            refine lv_aload_n hx hb dX12_fits_84 rfl (lv_at hl 1 rfl) ?_
            refine va_get (D := D) (ci := 12) (v := .ref a14) (C := RX12) (T := TX12) (N := 30) hx hb hts inlX12 hown hK hP 0 rfl rfl 14 (by decide) (hts _ mw_194) (fun _ h9 => h9) rfl dX12_fits_85 ?_
            refine lv_bipush (v := 21) hx hb dX12_fits_88 (by decide) ?_
            refine lv_iload_n hx hb dX12_fits_90 rfl (lv_at hl 0 rfl) ?_
            refine lv_imul hx hb dX12_fits_91 ?_
            refine ki (v := (nI (21 * k2_79))) (pk_mul 21 k2_79) ?_
            refine lv_iconst (v := 0) hx hb dX12_fits_92 (by decide) ?_
            refine va_iast hx hb hK hP hD hS 2 0 rfl rfl (i := nI (21 * k2_79)) (x := 0) (vp_in_nI (n := (21 * k2_79)) (by omega) (by omega)) dX12_fits_93 (fun H locs hP hD hS => ?_)
            rw [nI_clamp (by omega)] at hP hD
            have hP : va_P D vwCl [(m0, .inr (12, [.ref a0, .ref a1, .ref a2, .int (nI u3), .int f4, .ref a5, .int (nI u6), .int f7, .int f8, .int f9, .int f10, .int (nI u11), .int (nI u12), .int (nI u13), .ref a14, .ref a15, .ref a16, .ref a17, .int f18, .int f19, .ref a20, .ref a21, .int (nI u22), .ref a23, .ref a24, .ref a25, .int (nI u26), .int f27, .ref a28, .int (nI u29)])), (a0, .inl (κ 0, 21375, .inl w)), (a14, .inl (κ 0, 189, .inl (upd ga14_79 (21 * k2_79) 0))), (a16, .inl (κ 0, 9, .inl pt))] H := hP
            have hD : va_D A [(m0, .inr (12, [.ref a0, .ref a1, .ref a2, .int (nI u3), .int f4, .ref a5, .int (nI u6), .int f7, .int f8, .int f9, .int f10, .int (nI u11), .int (nI u12), .int (nI u13), .ref a14, .ref a15, .ref a16, .ref a17, .int f18, .int f19, .ref a20, .ref a21, .int (nI u22), .ref a23, .ref a24, .ref a25, .int (nI u26), .int f27, .ref a28, .int (nI u29)])), (a0, .inl (κ 0, 21375, .inl w)), (a14, .inl (κ 0, 189, .inl (upd ga14_79 (21 * k2_79) 0))), (a16, .inl (κ 0, 9, .inl pt))] := hD
            have hf_25 : Pfd (upd ga14_79 (21 * k2_79) 0) := (Pfd_upd hg79_0 (c := k2_79) (by omega) ⟨0, by omega, rfl⟩)
            generalize upd ga14_79 (21 * k2_79) 0 = g_24 at hP hD hf_25
            refine lv_iinc (v := (nI (k2_79 + 1))) (lv' := [(2, .int (nI (k2_79 + 1))), (0, .ref m0), (1, .int (nI a))]) hx hb dX12_fits_94 hl (k := 0) rfl (nI_i k2_79) (by decide) rfl (fun ls hl => ?_)
            refine lv_goto (tgt := 79) hx hb dX12_fits_97 (by decide) ?_
            exact ih79 _ _ _ _ (by omega) ⟨(k2_79 + 1), g_24, (by omega), hf_25, rfl, hP, hD, hS, lv_sub hl [0, 1, 2] rfl⟩
        · refine lv_aload_n hx hb dX12_fits_57 rfl (lv_at hl 0 rfl) ?_
          refine lv_bipush (v := 8) hx hb dX12_fits_58 (by decide) ?_
          refine lv_aload_n hx hb dX12_fits_60 rfl (lv_at hl 0 rfl) ?_
          refine va_get (D := D) (ci := 12) (v := .ref a16) (C := RX12) (T := TX12) (N := 30) hx hb hts inlX12 hown hK hP 0 rfl rfl 16 (by decide) (hts _ mw_196) (fun _ h9 => h9) rfl dX12_fits_61 ?_
          refine lv_iload_n hx hb dX12_fits_64 rfl (lv_at hl 1 rfl) ?_
          refine va_iald hx hb hK hP 3 0 rfl rfl (i := nI a) (vp_in_nI (n := a) (by omega) (by omega)) dX12_fits_65 ?_
          refine kv (v := .int (pt a)) (by rw [nI_clamp (by omega)]) ?_
          obtain ⟨n_26, hn_26, en_26⟩ : ∃ n9 : Nat, n9 ≤ 800 ∧ pt a = nI n9 := id (h_a16 a (by omega))
          refine kv (v := .int (nI n_26)) (congrArg Value.int en_26) ?_
          refine lv_aload_n hx hb dX12_fits_66 rfl (lv_at hl 0 rfl) ?_
          refine va_get (D := D) (ci := 12) (v := .int (nI u12)) (C := RX12) (T := TX12) (N := 30) hx hb hts inlX12 hown hK hP 0 rfl rfl 12 (by decide) (hts _ mw_446) (fun _ h9 => h9) rfl dX12_fits_67 ?_
          refine ct_V (wr := [(a0, .inl (κ 0, 21375, .inl w)), (a14, .inl (κ 0, 189, .inl fd)), (a16, .inl (κ 0, 9, .inl pt))]) (As := [.int 8, .int (nI n_26), .int (nI u12)]) (rest := []) hFX hKK hP hD hS hA (s_X12_wrong l D κ m0 a0 a1 a2 u3 f4 a5 u6 f7 f8 f9 f10 u11 u12 u13 a14 a15 a16 a17 f18 f19 a20 a21 u22 a23 a24 a25 u26 f27 a28 u29 8 (nI n_26) (nI u12)) 3 gV_X12_210 hdV_X12_wrong ⟨Nat.le_of_ble_eq_true rfl, Nat.le_of_ble_eq_true rfl⟩ rfl rfl (Nat.le_of_ble_eq_true rfl) dX12_fits_70 ⟨Nat.le_of_ble_eq_true rfl, Nat.le_of_ble_eq_true rfl⟩ hl.1 [0] [1, 2, 3] rfl rfl (by decide) (by decide) (by decide) 0 12 rfl rfl rfl trivial (fun _ H locs hp_27 _ hP hD hS hz_ hk_ => ?_)
          replace hP : va_P D vwCl [(m0, .inr (12, [.ref a0, .ref a1, .ref a2, .int (nI u3), .int f4, .ref a5, .int (nI u6), .int 8, .int (nI n_26), .int (nI u12), .int f10, .int (nI u11), .int (nI u12), .int (nI u13), .ref a14, .ref a15, .ref a16, .ref a17, .int f18, .int f19, .ref a20, .ref a21, .int (nI u22), .ref a23, .ref a24, .ref a25, .int (nI u26), .int f27, .ref a28, .int (nI u29)])), (a0, .inl (κ 0, 21375, .inl w)), (a14, .inl (κ 0, 189, .inl fd)), (a16, .inl (κ 0, 9, .inl pt))] H := hP.sub [3, 0, 1, 2] rfl
          replace hD : va_D A [(m0, .inr (12, [.ref a0, .ref a1, .ref a2, .int (nI u3), .int f4, .ref a5, .int (nI u6), .int 8, .int (nI n_26), .int (nI u12), .int f10, .int (nI u11), .int (nI u12), .int (nI u13), .ref a14, .ref a15, .ref a16, .ref a17, .int f18, .int f19, .ref a20, .ref a21, .int (nI u22), .ref a23, .ref a24, .ref a25, .int (nI u26), .int f27, .ref a28, .int (nI u29)])), (a0, .inl (κ 0, 21375, .inl w)), (a14, .inl (κ 0, 189, .inl fd)), (a16, .inl (κ 0, 9, .inl pt))] := hD.sub [3, 0, 1, 2] (by decide) rfl
          refine W.eq (g2 := F0 m 73 ls [.int 0]) rfl ?_
          exact ct_iret hx hb hr hlk rfl hS hP hD (0, 8, nI n_26, nI u12, fd) rfl ⟨(show PF (nI n_26) from (PF_n (by omega))), (show Pfd fd from (by first | assumption | omega)), (by exact Or.inr ((rfl)))⟩ [0, 1, 2, 3] rfl (by decide) trivial (Nat.le_of_ble_eq_true rfl) (Nat.le_of_ble_eq_true rfl) dX12_fits_73
    · refine lv_aload_n hx hb dX12_fits_21 rfl (lv_at hl 0 rfl) ?_
      refine lv_bipush (v := 8) hx hb dX12_fits_22 (by decide) ?_
      refine lv_aload_n hx hb dX12_fits_24 rfl (lv_at hl 0 rfl) ?_
      refine va_get (D := D) (ci := 12) (v := .int (nI u13)) (C := RX12) (T := TX12) (N := 30) hx hb hts inlX12 hown hK hP 0 rfl rfl 13 (by decide) (hts _ mw_447) (fun _ h9 => h9) rfl dX12_fits_25 ?_
      refine lv_aload_n hx hb dX12_fits_28 rfl (lv_at hl 0 rfl) ?_
      refine va_get (D := D) (ci := 12) (v := .int (nI u12)) (C := RX12) (T := TX12) (N := 30) hx hb hts inlX12 hown hK hP 0 rfl rfl 12 (by decide) (hts _ mw_446) (fun _ h9 => h9) rfl dX12_fits_29 ?_
      refine ct_V (wr := [(a0, .inl (κ 0, 21375, .inl w)), (a14, .inl (κ 0, 189, .inl fd)), (a16, .inl (κ 0, 9, .inl pt))]) (As := [.int 8, .int (nI u13), .int (nI u12)]) (rest := []) hFX hKK hP hD hS hA (s_X12_wrong l D κ m0 a0 a1 a2 u3 f4 a5 u6 f7 f8 f9 f10 u11 u12 u13 a14 a15 a16 a17 f18 f19 a20 a21 u22 a23 a24 a25 u26 f27 a28 u29 8 (nI u13) (nI u12)) 3 gV_X12_210 hdV_X12_wrong ⟨Nat.le_of_ble_eq_true rfl, Nat.le_of_ble_eq_true rfl⟩ rfl rfl (Nat.le_of_ble_eq_true rfl) dX12_fits_32 ⟨Nat.le_of_ble_eq_true rfl, Nat.le_of_ble_eq_true rfl⟩ hl.1 [0] [1, 2, 3] rfl rfl (by decide) (by decide) (by decide) 0 12 rfl rfl rfl trivial (fun _ H locs hp_28 _ hP hD hS hz_ hk_ => ?_)
      replace hP : va_P D vwCl [(m0, .inr (12, [.ref a0, .ref a1, .ref a2, .int (nI u3), .int f4, .ref a5, .int (nI u6), .int 8, .int (nI u13), .int (nI u12), .int f10, .int (nI u11), .int (nI u12), .int (nI u13), .ref a14, .ref a15, .ref a16, .ref a17, .int f18, .int f19, .ref a20, .ref a21, .int (nI u22), .ref a23, .ref a24, .ref a25, .int (nI u26), .int f27, .ref a28, .int (nI u29)])), (a0, .inl (κ 0, 21375, .inl w)), (a14, .inl (κ 0, 189, .inl fd)), (a16, .inl (κ 0, 9, .inl pt))] H := hP.sub [3, 0, 1, 2] rfl
      replace hD : va_D A [(m0, .inr (12, [.ref a0, .ref a1, .ref a2, .int (nI u3), .int f4, .ref a5, .int (nI u6), .int 8, .int (nI u13), .int (nI u12), .int f10, .int (nI u11), .int (nI u12), .int (nI u13), .ref a14, .ref a15, .ref a16, .ref a17, .int f18, .int f19, .ref a20, .ref a21, .int (nI u22), .ref a23, .ref a24, .ref a25, .int (nI u26), .int f27, .ref a28, .int (nI u29)])), (a0, .inl (κ 0, 21375, .inl w)), (a14, .inl (κ 0, 189, .inl fd)), (a16, .inl (κ 0, 9, .inl pt))] := hD.sub [3, 0, 1, 2] (by decide) rfl
      refine W.eq (g2 := F0 m 35 ls [.int 0]) rfl ?_
      exact ct_iret hx hb hr hlk rfl hS hP hD (0, 8, nI u13, nI u12, fd) rfl ⟨(show PF (nI u13) from (PF_n (by omega))), (show Pfd fd from (by first | assumption | omega)), (by exact Or.inr ((rfl)))⟩ [0, 1, 2, 3] rfl (by decide) trivial (Nat.le_of_ble_eq_true rfl) (Nat.le_of_ble_eq_true rfl) dX12_fits_35
set_option maxHeartbeats 4000000 in
set_option maxRecDepth 100000 in
theorem s_X12_putsRow_d (l : Launch) (D : va_G) (κ : Nat → ClassId) (m0 : Nat) (a0 : Nat) (a1 : Nat) (a2 : Nat) (u3 : Nat) (f4 : Int32) (a5 : Nat) (u6 : Nat) (f7 : Int32) (f8 : Int32) (f9 : Int32) (f10 : Int32) (u11 : Nat) (u12 : Nat) (u13 : Nat) (a14 : Nat) (a15 : Nat) (a16 : Nat) (a17 : Nat) (f18 : Int32) (f19 : Int32) (a20 : Nat) (a21 : Nat) (u22 : Nat) (a23 : Nat) (a24 : Nat) (a25 : Nat) (u26 : Nat) (f27 : Int32) (a28 : Nat) (u29 : Nat) (fd : Nat → Int32) (dr : Nat → Int32) (pl : Nat) (n : Nat) (h_a14 : Pfd fd) (h_a17 : Pd dr) (hn : n ≤ 8) (hb1 : 403 ≤ pl) (hb2 : pl ≤ 6955) (hb3 : (pl - 403) % 168 = 0) : Ct l yX12_putsRow (wl yX12_putsRow cX12_putsRow 6 none) { frames := 0, cells := 0, slots := 0, locals := 0 } D κ [.ref m0, .ref a17, .int (nI pl), .int (nI n)] [(m0, .inr (12, [.ref a0, .ref a1, .ref a2, .int (nI u3), .int f4, .ref a5, .int (nI u6), .int f7, .int f8, .int f9, .int f10, .int (nI u11), .int (nI u12), .int (nI u13), .ref a14, .ref a15, .ref a16, .ref a17, .int f18, .int f19, .ref a20, .ref a21, .int (nI u22), .ref a23, .ref a24, .ref a25, .int (nI u26), .int f27, .ref a28, .int (nI u29)])), (a14, .inl (κ 0, 189, .inl fd)), (a17, .inl (κ 0, 7123, .inl dr))] (fun _ => True) (fun g_a17 : (Nat → Int32) => none) (fun g_a17 : (Nat → Int32) => Pd g_a17 ∧ (∀ i : Nat, i < 4 → g_a17 i = dr i)) (fun g_a17 : (Nat → Int32) => [(m0, .inr (12, [.ref a0, .ref a1, .ref a2, .int (nI u3), .int f4, .ref a5, .int (nI u6), .int f7, .int f8, .int f9, .int f10, .int (nI u11), .int (nI u12), .int (nI u13), .ref a14, .ref a15, .ref a16, .ref a17, .int f18, .int f19, .ref a20, .ref a21, .int (nI u22), .ref a23, .ref a24, .ref a25, .int (nI u26), .int f27, .ref a28, .int (nI u29)])), (a14, .inl (κ 0, 189, .inl fd)), (a17, .inl (κ 0, 7123, .inl g_a17))]) (fun _ _ => True) := by
  refine ct_of (by decide +kernel) (Nat.le_of_ble_eq_true rfl) ?_
  intro p e s m args below meth c A ls hx hb hr hml hts hown hlk hin hKK hK hA hP hD hS hI hl
  have hS : va_S A s.heap s.heap [] := hS
  have hFX : FX p s m args c cX12_putsRow 6 RX12 := ⟨hx, hb, hml, hown, hts⟩
  have hl : lv_has ls 6 [(0, .ref m0), (1, .ref a17), (2, .int (nI pl)), (3, .int (nI n))] := hl
  refine lv_iconst (v := 0) hx hb dX12_putsRow_0 (by decide) ?_
  refine lv_istore (lv' := [(4, .int 0), (0, .ref m0), (1, .ref a17), (2, .int (nI pl)), (3, .int (nI n))]) hx hb dX12_putsRow_1 hl (by decide) rfl (fun ls hl => ?_)
  refine loop_dn (fun k9 H locs ls => ∃ (k4_3 : Nat), ∃ (ga17_3 : Nat → Int32), (k4_3 ≤ n) ∧ (∀ i : Nat, i < 4 → ga17_3 i = dr i) ∧ Pd ga17_3 ∧ n - k4_3 = k9 ∧ va_P D vwCl [(m0, .inr (12, [.ref a0, .ref a1, .ref a2, .int (nI u3), .int f4, .ref a5, .int (nI u6), .int f7, .int f8, .int f9, .int f10, .int (nI u11), .int (nI u12), .int (nI u13), .ref a14, .ref a15, .ref a16, .ref a17, .int f18, .int f19, .ref a20, .ref a21, .int (nI u22), .ref a23, .ref a24, .ref a25, .int (nI u26), .int f27, .ref a28, .int (nI u29)])), (a14, .inl (κ 0, 189, .inl fd)), (a17, .inl (κ 0, 7123, .inl ga17_3))] H ∧ va_D A [(m0, .inr (12, [.ref a0, .ref a1, .ref a2, .int (nI u3), .int f4, .ref a5, .int (nI u6), .int f7, .int f8, .int f9, .int f10, .int (nI u11), .int (nI u12), .int (nI u13), .ref a14, .ref a15, .ref a16, .ref a17, .int f18, .int f19, .ref a20, .ref a21, .int (nI u22), .ref a23, .ref a24, .ref a25, .int (nI u26), .int f27, .ref a28, .int (nI u29)])), (a14, .inl (κ 0, 189, .inl fd)), (a17, .inl (κ 0, 7123, .inl ga17_3))] ∧ va_S A s.heap H locs ∧ lv_has ls 6 [(4, .int (nI k4_3)), (0, .ref m0), (1, .ref a17), (2, .int (nI pl)), (3, .int (nI n))]) (fun k9 H locs ls hI3 ih3 => ?_) (n - 0) _ _ _ ⟨0, dr, (by omega), (fun _ _ => rfl), h_a17, rfl, hP, hD, hS, lv_sub hl [0, 1, 2, 3, 4] rfl⟩
  obtain ⟨k4_3, ga17_3, hl3_0, hl3_1, hg3_0, hm3, hP, hD, hS, hl⟩ := hI3
  refine lv_iload hx hb dX12_putsRow_3 (lv_at hl 0 rfl) ?_
  refine lv_iload_n hx hb dX12_putsRow_5 rfl (lv_at hl 4 rfl) ?_
  refine lv_icmp_ge (tgt := 64) hx hb dX12_putsRow_6 (by decide) (fun c_1 => ?_) (fun c_1 => ?_)
  · have nc_1 := cv_le (a := n) (b := k4_3) (by omega) (by omega) c_1
    exact ct_vret hx hb hr hlk hS hP hD ga17_3 rfl ⟨(show Pd ga17_3 from (by first | assumption | omega)), (show ∀ i : Nat, i < 4 → ga17_3 i = dr i from (by first | assumption | omega))⟩ [0, 1, 2] rfl (by decide) trivial (Nat.le_of_ble_eq_true rfl) (Nat.le_of_ble_eq_true rfl) dX12_putsRow_64
  · have nc_1 := cv_nle (a := n) (b := k4_3) (by omega) (by omega) c_1
    refine lv_iconst (v := 0) hx hb dX12_putsRow_9 (by decide) ?_
    refine lv_istore (lv' := [(5, .int 0), (4, .int (nI k4_3)), (0, .ref m0), (1, .ref a17), (2, .int (nI pl)), (3, .int (nI n))]) hx hb dX12_putsRow_10 hl (by decide) rfl (fun ls hl => ?_)
    refine loop_dn (fun k9 H locs ls => ∃ (k5_12 : Nat), ∃ (ga17_12 : Nat → Int32), (k5_12 ≤ 21) ∧ (∀ i : Nat, i < 4 → ga17_12 i = dr i) ∧ Pd ga17_12 ∧ 21 - k5_12 = k9 ∧ va_P D vwCl [(m0, .inr (12, [.ref a0, .ref a1, .ref a2, .int (nI u3), .int f4, .ref a5, .int (nI u6), .int f7, .int f8, .int f9, .int f10, .int (nI u11), .int (nI u12), .int (nI u13), .ref a14, .ref a15, .ref a16, .ref a17, .int f18, .int f19, .ref a20, .ref a21, .int (nI u22), .ref a23, .ref a24, .ref a25, .int (nI u26), .int f27, .ref a28, .int (nI u29)])), (a14, .inl (κ 0, 189, .inl fd)), (a17, .inl (κ 0, 7123, .inl ga17_12))] H ∧ va_D A [(m0, .inr (12, [.ref a0, .ref a1, .ref a2, .int (nI u3), .int f4, .ref a5, .int (nI u6), .int f7, .int f8, .int f9, .int f10, .int (nI u11), .int (nI u12), .int (nI u13), .ref a14, .ref a15, .ref a16, .ref a17, .int f18, .int f19, .ref a20, .ref a21, .int (nI u22), .ref a23, .ref a24, .ref a25, .int (nI u26), .int f27, .ref a28, .int (nI u29)])), (a14, .inl (κ 0, 189, .inl fd)), (a17, .inl (κ 0, 7123, .inl ga17_12))] ∧ va_S A s.heap H locs ∧ lv_has ls 6 [(5, .int (nI k5_12)), (4, .int (nI k4_3)), (0, .ref m0), (1, .ref a17), (2, .int (nI pl)), (3, .int (nI n))]) (fun k9 H locs ls hI12 ih12 => ?_) (21 - 0) _ _ _ ⟨0, ga17_3, (by omega), hl3_1, hg3_0, rfl, hP, hD, hS, lv_sub hl [0, 1, 2, 3, 4, 5] rfl⟩
    obtain ⟨k5_12, ga17_12, hl12_0, hl12_1, hg12_0, hm12, hP, hD, hS, hl⟩ := hI12
    refine lv_iload hx hb dX12_putsRow_12 (lv_at hl 0 rfl) ?_
    refine lv_aload_n hx hb dX12_putsRow_14 rfl (lv_at hl 2 rfl) ?_
    refine va_get (D := D) (ci := 12) (v := .ref a14) (C := RX12) (T := TX12) (N := 30) hx hb hts inlX12 hown hK hP 0 rfl rfl 14 (by decide) (hts _ mw_194) (fun _ h9 => h9) rfl dX12_putsRow_15 ?_
    refine lv_bipush (v := 21) hx hb dX12_putsRow_18 (by decide) ?_
    refine lv_iload hx hb dX12_putsRow_20 (lv_at hl 1 rfl) ?_
    refine lv_imul hx hb dX12_putsRow_22 ?_
    refine ki (v := (nI (21 * k4_3))) (pk_mul 21 k4_3) ?_
    refine va_iald hx hb hK hP 1 0 rfl rfl (i := nI (21 * k4_3)) (vp_in_nI (n := (21 * k4_3)) (by omega) (by omega)) dX12_putsRow_23 ?_
    refine kv (v := .int (fd (21 * k4_3))) (by rw [nI_clamp (by omega)]) ?_
    obtain ⟨n_2, hn_2, en_2⟩ : ∃ n9 : Nat, n9 ≤ 20 ∧ fd (21 * k4_3) = nI n9 := id ((pfd h_a14 (c := k4_3) (by omega) (by omega)))
    refine kv (v := .int (nI n_2)) (congrArg Value.int en_2) ?_
    refine lv_icmp_gt (tgt := 58) hx hb dX12_putsRow_24 (by decide) (fun c_3 => ?_) (fun c_3 => ?_)
    · have nc_3 := cv_lt (a := n_2) (b := k5_12) (by omega) (by omega) c_3
      refine lv_iinc (v := (nI (k4_3 + 1))) (lv' := [(4, .int (nI (k4_3 + 1))), (5, .int (nI k5_12)), (0, .ref m0), (1, .ref a17), (2, .int (nI pl)), (3, .int (nI n))]) hx hb dX12_putsRow_58 hl (k := 1) rfl (nI_i k4_3) (by decide) rfl (fun ls hl => ?_)
      refine lv_goto (tgt := 3) hx hb dX12_putsRow_61 (by decide) ?_
      exact ih3 _ _ _ _ (by omega) ⟨(k4_3 + 1), ga17_12, (by omega), hl12_1, hg12_0, rfl, hP, hD, hS, lv_sub hl [0, 2, 3, 4, 5] rfl⟩
    · have nc_3 := cv_nlt (a := n_2) (b := k5_12) (by omega) (by omega) c_3
      refine lv_aload_n hx hb dX12_putsRow_27 rfl (lv_at hl 3 rfl) ?_
      refine lv_iload_n hx hb dX12_putsRow_28 rfl (lv_at hl 4 rfl) ?_
      refine lv_bipush (v := 21) hx hb dX12_putsRow_29 (by decide) ?_
      refine lv_iload hx hb dX12_putsRow_31 (lv_at hl 1 rfl) ?_
      refine lv_imul hx hb dX12_putsRow_33 ?_
      refine ki (v := (nI (21 * k4_3))) (pk_mul 21 k4_3) ?_
      refine lv_iadd hx hb dX12_putsRow_34 ?_
      refine ki (v := (nI (pl + (21 * k4_3)))) (nI_add pl (21 * k4_3)) ?_
      refine lv_iload hx hb dX12_putsRow_35 (lv_at hl 0 rfl) ?_
      refine lv_iadd hx hb dX12_putsRow_37 ?_
      refine ki (v := (nI (pl + (21 * k4_3) + k5_12))) (nI_add (pl + (21 * k4_3)) k5_12) ?_
      refine lv_aload_n hx hb dX12_putsRow_38 rfl (lv_at hl 2 rfl) ?_
      refine va_get (D := D) (ci := 12) (v := .ref a14) (C := RX12) (T := TX12) (N := 30) hx hb hts inlX12 hown hK hP 0 rfl rfl 14 (by decide) (hts _ mw_194) (fun _ h9 => h9) rfl dX12_putsRow_39 ?_
      refine lv_bipush (v := 21) hx hb dX12_putsRow_42 (by decide) ?_
      refine lv_iload hx hb dX12_putsRow_44 (lv_at hl 1 rfl) ?_
      refine lv_imul hx hb dX12_putsRow_46 ?_
      refine ki (v := (nI (21 * k4_3))) (pk_mul 21 k4_3) ?_
      refine lv_iload hx hb dX12_putsRow_47 (lv_at hl 0 rfl) ?_
      refine lv_iadd hx hb dX12_putsRow_49 ?_
      refine ki (v := (nI (21 * k4_3 + k5_12))) (nI_add (21 * k4_3) k5_12) ?_
      refine va_iald hx hb hK hP 1 0 rfl rfl (i := nI (21 * k4_3 + k5_12)) (vp_in_nI (n := (21 * k4_3 + k5_12)) (by omega) (by omega)) dX12_putsRow_50 ?_
      refine kv (v := .int (fd (21 * k4_3 + k5_12))) (by rw [nI_clamp (by omega)]) ?_
      obtain ⟨x_4, ex_4⟩ : ∃ y9 : Int32, fd (21 * k4_3 + k5_12) = y9 := ⟨_, rfl⟩
      refine kv (v := .int x_4) (congrArg Value.int ex_4) ?_
      refine va_iast hx hb hK hP hD hS 2 0 rfl rfl (i := nI (pl + (21 * k4_3) + k5_12)) (x := x_4) (vp_in_nI (n := (pl + (21 * k4_3) + k5_12)) (by omega) (by omega)) dX12_putsRow_51 (fun H locs hP hD hS => ?_)
      rw [nI_clamp (by omega)] at hP hD
      have hP : va_P D vwCl [(m0, .inr (12, [.ref a0, .ref a1, .ref a2, .int (nI u3), .int f4, .ref a5, .int (nI u6), .int f7, .int f8, .int f9, .int f10, .int (nI u11), .int (nI u12), .int (nI u13), .ref a14, .ref a15, .ref a16, .ref a17, .int f18, .int f19, .ref a20, .ref a21, .int (nI u22), .ref a23, .ref a24, .ref a25, .int (nI u26), .int f27, .ref a28, .int (nI u29)])), (a14, .inl (κ 0, 189, .inl fd)), (a17, .inl (κ 0, 7123, .inl (upd ga17_12 (pl + (21 * k4_3) + k5_12) x_4)))] H := hP
      have hD : va_D A [(m0, .inr (12, [.ref a0, .ref a1, .ref a2, .int (nI u3), .int f4, .ref a5, .int (nI u6), .int f7, .int f8, .int f9, .int f10, .int (nI u11), .int (nI u12), .int (nI u13), .ref a14, .ref a15, .ref a16, .ref a17, .int f18, .int f19, .ref a20, .ref a21, .int (nI u22), .ref a23, .ref a24, .ref a25, .int (nI u26), .int f27, .ref a28, .int (nI u29)])), (a14, .inl (κ 0, 189, .inl fd)), (a17, .inl (κ 0, 7123, .inl (upd ga17_12 (pl + (21 * k4_3) + k5_12) x_4)))] := hD
      have hf_6 : Pd (upd ga17_12 (pl + (21 * k4_3) + k5_12) x_4) := (PL_cell hg12_0 (i := (pl - 403) / 21 + k4_3) (k := k5_12) (by omega) (by omega) (by omega) (head_val ex_4 (h_a14 k4_3 (by omega))))
      have hq : ∀ i : Nat, i < 4 → (upd ga17_12 (pl + (21 * k4_3) + k5_12) x_4) i = dr i := (fun i9 h9 => (pk_un (by omega)).trans (hl12_1 i9 h9))
      generalize upd ga17_12 (pl + (21 * k4_3) + k5_12) x_4 = g_5 at hP hD hf_6 hq
      refine lv_iinc (v := (nI (k5_12 + 1))) (lv' := [(5, .int (nI (k5_12 + 1))), (4, .int (nI k4_3)), (0, .ref m0), (1, .ref a17), (2, .int (nI pl)), (3, .int (nI n))]) hx hb dX12_putsRow_52 hl (k := 0) rfl (nI_i k5_12) (by decide) rfl (fun ls hl => ?_)
      refine lv_goto (tgt := 12) hx hb dX12_putsRow_55 (by decide) ?_
      exact ih12 _ _ _ _ (by omega) ⟨(k5_12 + 1), g_5, (by omega), hq, hf_6, rfl, hP, hD, hS, lv_sub hl [0, 1, 2, 3, 4, 5] rfl⟩
set_option maxHeartbeats 4000000 in
set_option maxRecDepth 100000 in
theorem s_X12_putsRow_w (l : Launch) (D : va_G) (κ : Nat → ClassId) (m0 : Nat) (a0 : Nat) (a1 : Nat) (a2 : Nat) (u3 : Nat) (f4 : Int32) (a5 : Nat) (u6 : Nat) (f7 : Int32) (f8 : Int32) (f9 : Int32) (f10 : Int32) (u11 : Nat) (u12 : Nat) (u13 : Nat) (a14 : Nat) (a15 : Nat) (a16 : Nat) (a17 : Nat) (f18 : Int32) (f19 : Int32) (a20 : Nat) (a21 : Nat) (u22 : Nat) (a23 : Nat) (a24 : Nat) (a25 : Nat) (u26 : Nat) (f27 : Int32) (a28 : Nat) (u29 : Nat) (w : Nat → Int32) (fd : Nat → Int32) (pl : Nat) (n : Nat) (t : Nat) (h_a0 : Pw w) (h_a14 : Pfd fd) (hn : n ≤ 8) (ht : t < 3) (hb1 : 7123 * t + 403 ≤ pl) (hb2 : pl ≤ 7123 * t + 6955) (hb3 : (pl - (7123 * t + 403)) % 168 = 0) : Ct l yX12_putsRow (wl yX12_putsRow cX12_putsRow 6 none) { frames := 0, cells := 0, slots := 0, locals := 0 } D κ [.ref m0, .ref a0, .int (nI pl), .int (nI n)] [(m0, .inr (12, [.ref a0, .ref a1, .ref a2, .int (nI u3), .int f4, .ref a5, .int (nI u6), .int f7, .int f8, .int f9, .int f10, .int (nI u11), .int (nI u12), .int (nI u13), .ref a14, .ref a15, .ref a16, .ref a17, .int f18, .int f19, .ref a20, .ref a21, .int (nI u22), .ref a23, .ref a24, .ref a25, .int (nI u26), .int f27, .ref a28, .int (nI u29)])), (a0, .inl (κ 0, 21375, .inl w)), (a14, .inl (κ 0, 189, .inl fd))] (fun _ => True) (fun g_a0 : (Nat → Int32) => none) (fun g_a0 : (Nat → Int32) => Pw g_a0 ∧ (∀ i : Nat, i < 4 → g_a0 (7123 * t + i) = w (7123 * t + i))) (fun g_a0 : (Nat → Int32) => [(m0, .inr (12, [.ref a0, .ref a1, .ref a2, .int (nI u3), .int f4, .ref a5, .int (nI u6), .int f7, .int f8, .int f9, .int f10, .int (nI u11), .int (nI u12), .int (nI u13), .ref a14, .ref a15, .ref a16, .ref a17, .int f18, .int f19, .ref a20, .ref a21, .int (nI u22), .ref a23, .ref a24, .ref a25, .int (nI u26), .int f27, .ref a28, .int (nI u29)])), (a0, .inl (κ 0, 21375, .inl g_a0)), (a14, .inl (κ 0, 189, .inl fd))]) (fun _ _ => True) := by
  refine ct_of (by decide +kernel) (Nat.le_of_ble_eq_true rfl) ?_
  intro p e s m args below meth c A ls hx hb hr hml hts hown hlk hin hKK hK hA hP hD hS hI hl
  have hS : va_S A s.heap s.heap [] := hS
  have hFX : FX p s m args c cX12_putsRow 6 RX12 := ⟨hx, hb, hml, hown, hts⟩
  have hl : lv_has ls 6 [(0, .ref m0), (1, .ref a0), (2, .int (nI pl)), (3, .int (nI n))] := hl
  refine lv_iconst (v := 0) hx hb dX12_putsRow_0 (by decide) ?_
  refine lv_istore (lv' := [(4, .int 0), (0, .ref m0), (1, .ref a0), (2, .int (nI pl)), (3, .int (nI n))]) hx hb dX12_putsRow_1 hl (by decide) rfl (fun ls hl => ?_)
  refine loop_dn (fun k9 H locs ls => ∃ (k4_3 : Nat), ∃ (ga0_3 : Nat → Int32), (k4_3 ≤ n) ∧ (∀ i : Nat, i < 4 → ga0_3 (7123 * t + i) = w (7123 * t + i)) ∧ Pw ga0_3 ∧ n - k4_3 = k9 ∧ va_P D vwCl [(m0, .inr (12, [.ref a0, .ref a1, .ref a2, .int (nI u3), .int f4, .ref a5, .int (nI u6), .int f7, .int f8, .int f9, .int f10, .int (nI u11), .int (nI u12), .int (nI u13), .ref a14, .ref a15, .ref a16, .ref a17, .int f18, .int f19, .ref a20, .ref a21, .int (nI u22), .ref a23, .ref a24, .ref a25, .int (nI u26), .int f27, .ref a28, .int (nI u29)])), (a0, .inl (κ 0, 21375, .inl ga0_3)), (a14, .inl (κ 0, 189, .inl fd))] H ∧ va_D A [(m0, .inr (12, [.ref a0, .ref a1, .ref a2, .int (nI u3), .int f4, .ref a5, .int (nI u6), .int f7, .int f8, .int f9, .int f10, .int (nI u11), .int (nI u12), .int (nI u13), .ref a14, .ref a15, .ref a16, .ref a17, .int f18, .int f19, .ref a20, .ref a21, .int (nI u22), .ref a23, .ref a24, .ref a25, .int (nI u26), .int f27, .ref a28, .int (nI u29)])), (a0, .inl (κ 0, 21375, .inl ga0_3)), (a14, .inl (κ 0, 189, .inl fd))] ∧ va_S A s.heap H locs ∧ lv_has ls 6 [(4, .int (nI k4_3)), (0, .ref m0), (1, .ref a0), (2, .int (nI pl)), (3, .int (nI n))]) (fun k9 H locs ls hI3 ih3 => ?_) (n - 0) _ _ _ ⟨0, w, (by omega), (fun _ _ => rfl), h_a0, rfl, hP, hD, hS, lv_sub hl [0, 1, 2, 3, 4] rfl⟩
  obtain ⟨k4_3, ga0_3, hl3_0, hl3_1, hg3_0, hm3, hP, hD, hS, hl⟩ := hI3
  refine lv_iload hx hb dX12_putsRow_3 (lv_at hl 0 rfl) ?_
  refine lv_iload_n hx hb dX12_putsRow_5 rfl (lv_at hl 4 rfl) ?_
  refine lv_icmp_ge (tgt := 64) hx hb dX12_putsRow_6 (by decide) (fun c_1 => ?_) (fun c_1 => ?_)
  · have nc_1 := cv_le (a := n) (b := k4_3) (by omega) (by omega) c_1
    exact ct_vret hx hb hr hlk hS hP hD ga0_3 rfl ⟨(show Pw ga0_3 from (by first | assumption | omega)), (show ∀ i : Nat, i < 4 → ga0_3 (7123 * t + i) = w (7123 * t + i) from (by first | assumption | omega))⟩ [0, 1, 2] rfl (by decide) trivial (Nat.le_of_ble_eq_true rfl) (Nat.le_of_ble_eq_true rfl) dX12_putsRow_64
  · have nc_1 := cv_nle (a := n) (b := k4_3) (by omega) (by omega) c_1
    refine lv_iconst (v := 0) hx hb dX12_putsRow_9 (by decide) ?_
    refine lv_istore (lv' := [(5, .int 0), (4, .int (nI k4_3)), (0, .ref m0), (1, .ref a0), (2, .int (nI pl)), (3, .int (nI n))]) hx hb dX12_putsRow_10 hl (by decide) rfl (fun ls hl => ?_)
    refine loop_dn (fun k9 H locs ls => ∃ (k5_12 : Nat), ∃ (ga0_12 : Nat → Int32), (k5_12 ≤ 21) ∧ (∀ i : Nat, i < 4 → ga0_12 (7123 * t + i) = w (7123 * t + i)) ∧ Pw ga0_12 ∧ 21 - k5_12 = k9 ∧ va_P D vwCl [(m0, .inr (12, [.ref a0, .ref a1, .ref a2, .int (nI u3), .int f4, .ref a5, .int (nI u6), .int f7, .int f8, .int f9, .int f10, .int (nI u11), .int (nI u12), .int (nI u13), .ref a14, .ref a15, .ref a16, .ref a17, .int f18, .int f19, .ref a20, .ref a21, .int (nI u22), .ref a23, .ref a24, .ref a25, .int (nI u26), .int f27, .ref a28, .int (nI u29)])), (a0, .inl (κ 0, 21375, .inl ga0_12)), (a14, .inl (κ 0, 189, .inl fd))] H ∧ va_D A [(m0, .inr (12, [.ref a0, .ref a1, .ref a2, .int (nI u3), .int f4, .ref a5, .int (nI u6), .int f7, .int f8, .int f9, .int f10, .int (nI u11), .int (nI u12), .int (nI u13), .ref a14, .ref a15, .ref a16, .ref a17, .int f18, .int f19, .ref a20, .ref a21, .int (nI u22), .ref a23, .ref a24, .ref a25, .int (nI u26), .int f27, .ref a28, .int (nI u29)])), (a0, .inl (κ 0, 21375, .inl ga0_12)), (a14, .inl (κ 0, 189, .inl fd))] ∧ va_S A s.heap H locs ∧ lv_has ls 6 [(5, .int (nI k5_12)), (4, .int (nI k4_3)), (0, .ref m0), (1, .ref a0), (2, .int (nI pl)), (3, .int (nI n))]) (fun k9 H locs ls hI12 ih12 => ?_) (21 - 0) _ _ _ ⟨0, ga0_3, (by omega), hl3_1, hg3_0, rfl, hP, hD, hS, lv_sub hl [0, 1, 2, 3, 4, 5] rfl⟩
    obtain ⟨k5_12, ga0_12, hl12_0, hl12_1, hg12_0, hm12, hP, hD, hS, hl⟩ := hI12
    refine lv_iload hx hb dX12_putsRow_12 (lv_at hl 0 rfl) ?_
    refine lv_aload_n hx hb dX12_putsRow_14 rfl (lv_at hl 2 rfl) ?_
    refine va_get (D := D) (ci := 12) (v := .ref a14) (C := RX12) (T := TX12) (N := 30) hx hb hts inlX12 hown hK hP 0 rfl rfl 14 (by decide) (hts _ mw_194) (fun _ h9 => h9) rfl dX12_putsRow_15 ?_
    refine lv_bipush (v := 21) hx hb dX12_putsRow_18 (by decide) ?_
    refine lv_iload hx hb dX12_putsRow_20 (lv_at hl 1 rfl) ?_
    refine lv_imul hx hb dX12_putsRow_22 ?_
    refine ki (v := (nI (21 * k4_3))) (pk_mul 21 k4_3) ?_
    refine va_iald hx hb hK hP 2 0 rfl rfl (i := nI (21 * k4_3)) (vp_in_nI (n := (21 * k4_3)) (by omega) (by omega)) dX12_putsRow_23 ?_
    refine kv (v := .int (fd (21 * k4_3))) (by rw [nI_clamp (by omega)]) ?_
    obtain ⟨n_2, hn_2, en_2⟩ : ∃ n9 : Nat, n9 ≤ 20 ∧ fd (21 * k4_3) = nI n9 := id ((pfd h_a14 (c := k4_3) (by omega) (by omega)))
    refine kv (v := .int (nI n_2)) (congrArg Value.int en_2) ?_
    refine lv_icmp_gt (tgt := 58) hx hb dX12_putsRow_24 (by decide) (fun c_3 => ?_) (fun c_3 => ?_)
    · have nc_3 := cv_lt (a := n_2) (b := k5_12) (by omega) (by omega) c_3
      refine lv_iinc (v := (nI (k4_3 + 1))) (lv' := [(4, .int (nI (k4_3 + 1))), (5, .int (nI k5_12)), (0, .ref m0), (1, .ref a0), (2, .int (nI pl)), (3, .int (nI n))]) hx hb dX12_putsRow_58 hl (k := 1) rfl (nI_i k4_3) (by decide) rfl (fun ls hl => ?_)
      refine lv_goto (tgt := 3) hx hb dX12_putsRow_61 (by decide) ?_
      exact ih3 _ _ _ _ (by omega) ⟨(k4_3 + 1), ga0_12, (by omega), hl12_1, hg12_0, rfl, hP, hD, hS, lv_sub hl [0, 2, 3, 4, 5] rfl⟩
    · have nc_3 := cv_nlt (a := n_2) (b := k5_12) (by omega) (by omega) c_3
      refine lv_aload_n hx hb dX12_putsRow_27 rfl (lv_at hl 3 rfl) ?_
      refine lv_iload_n hx hb dX12_putsRow_28 rfl (lv_at hl 4 rfl) ?_
      refine lv_bipush (v := 21) hx hb dX12_putsRow_29 (by decide) ?_
      refine lv_iload hx hb dX12_putsRow_31 (lv_at hl 1 rfl) ?_
      refine lv_imul hx hb dX12_putsRow_33 ?_
      refine ki (v := (nI (21 * k4_3))) (pk_mul 21 k4_3) ?_
      refine lv_iadd hx hb dX12_putsRow_34 ?_
      refine ki (v := (nI (pl + (21 * k4_3)))) (nI_add pl (21 * k4_3)) ?_
      refine lv_iload hx hb dX12_putsRow_35 (lv_at hl 0 rfl) ?_
      refine lv_iadd hx hb dX12_putsRow_37 ?_
      refine ki (v := (nI (pl + (21 * k4_3) + k5_12))) (nI_add (pl + (21 * k4_3)) k5_12) ?_
      refine lv_aload_n hx hb dX12_putsRow_38 rfl (lv_at hl 2 rfl) ?_
      refine va_get (D := D) (ci := 12) (v := .ref a14) (C := RX12) (T := TX12) (N := 30) hx hb hts inlX12 hown hK hP 0 rfl rfl 14 (by decide) (hts _ mw_194) (fun _ h9 => h9) rfl dX12_putsRow_39 ?_
      refine lv_bipush (v := 21) hx hb dX12_putsRow_42 (by decide) ?_
      refine lv_iload hx hb dX12_putsRow_44 (lv_at hl 1 rfl) ?_
      refine lv_imul hx hb dX12_putsRow_46 ?_
      refine ki (v := (nI (21 * k4_3))) (pk_mul 21 k4_3) ?_
      refine lv_iload hx hb dX12_putsRow_47 (lv_at hl 0 rfl) ?_
      refine lv_iadd hx hb dX12_putsRow_49 ?_
      refine ki (v := (nI (21 * k4_3 + k5_12))) (nI_add (21 * k4_3) k5_12) ?_
      refine va_iald hx hb hK hP 2 0 rfl rfl (i := nI (21 * k4_3 + k5_12)) (vp_in_nI (n := (21 * k4_3 + k5_12)) (by omega) (by omega)) dX12_putsRow_50 ?_
      refine kv (v := .int (fd (21 * k4_3 + k5_12))) (by rw [nI_clamp (by omega)]) ?_
      obtain ⟨x_4, ex_4⟩ : ∃ y9 : Int32, fd (21 * k4_3 + k5_12) = y9 := ⟨_, rfl⟩
      refine kv (v := .int x_4) (congrArg Value.int ex_4) ?_
      refine va_iast hx hb hK hP hD hS 1 0 rfl rfl (i := nI (pl + (21 * k4_3) + k5_12)) (x := x_4) (vp_in_nI (n := (pl + (21 * k4_3) + k5_12)) (by omega) (by omega)) dX12_putsRow_51 (fun H locs hP hD hS => ?_)
      rw [nI_clamp (by omega)] at hP hD
      have hP : va_P D vwCl [(m0, .inr (12, [.ref a0, .ref a1, .ref a2, .int (nI u3), .int f4, .ref a5, .int (nI u6), .int f7, .int f8, .int f9, .int f10, .int (nI u11), .int (nI u12), .int (nI u13), .ref a14, .ref a15, .ref a16, .ref a17, .int f18, .int f19, .ref a20, .ref a21, .int (nI u22), .ref a23, .ref a24, .ref a25, .int (nI u26), .int f27, .ref a28, .int (nI u29)])), (a0, .inl (κ 0, 21375, .inl (upd ga0_12 (pl + (21 * k4_3) + k5_12) x_4))), (a14, .inl (κ 0, 189, .inl fd))] H := hP
      have hD : va_D A [(m0, .inr (12, [.ref a0, .ref a1, .ref a2, .int (nI u3), .int f4, .ref a5, .int (nI u6), .int f7, .int f8, .int f9, .int f10, .int (nI u11), .int (nI u12), .int (nI u13), .ref a14, .ref a15, .ref a16, .ref a17, .int f18, .int f19, .ref a20, .ref a21, .int (nI u22), .ref a23, .ref a24, .ref a25, .int (nI u26), .int f27, .ref a28, .int (nI u29)])), (a0, .inl (κ 0, 21375, .inl (upd ga0_12 (pl + (21 * k4_3) + k5_12) x_4))), (a14, .inl (κ 0, 189, .inl fd))] := hD
      have hf_6 : Pw (upd ga0_12 (pl + (21 * k4_3) + k5_12) x_4) := (Pw_cell hg12_0 (t := t) (i := (pl - (7123 * t + 403)) / 21 + k4_3) (k := k5_12) (by omega) (by omega) (by omega) (by omega) (head_val ex_4 (h_a14 k4_3 (by omega))))
      have hq : ∀ i : Nat, i < 4 → (upd ga0_12 (pl + (21 * k4_3) + k5_12) x_4) (7123 * t + i) = w (7123 * t + i) := (fun i9 h9 => (pk_un (by omega)).trans (hl12_1 i9 h9))
      generalize upd ga0_12 (pl + (21 * k4_3) + k5_12) x_4 = g_5 at hP hD hf_6 hq
      refine lv_iinc (v := (nI (k5_12 + 1))) (lv' := [(5, .int (nI (k5_12 + 1))), (4, .int (nI k4_3)), (0, .ref m0), (1, .ref a0), (2, .int (nI pl)), (3, .int (nI n))]) hx hb dX12_putsRow_52 hl (k := 0) rfl (nI_i k5_12) (by decide) rfl (fun ls hl => ?_)
      refine lv_goto (tgt := 12) hx hb dX12_putsRow_55 (by decide) ?_
      exact ih12 _ _ _ _ (by omega) ⟨(k5_12 + 1), g_5, (by omega), hq, hf_6, rfl, hP, hD, hS, lv_sub hl [0, 1, 2, 3, 4, 5] rfl⟩
set_option maxHeartbeats 4000000 in
set_option maxRecDepth 100000 in
theorem s_X12_readsTable (l : Launch) (D : va_G) (κ : Nat → ClassId) (m0 : Nat) (a0 : Nat) (a1 : Nat) (a2 : Nat) (u3 : Nat) (f4 : Int32) (a5 : Nat) (u6 : Nat) (f7 : Int32) (f8 : Int32) (f9 : Int32) (f10 : Int32) (u11 : Nat) (u12 : Nat) (u13 : Nat) (a14 : Nat) (a15 : Nat) (a16 : Nat) (a17 : Nat) (f18 : Int32) (f19 : Int32) (a20 : Nat) (a21 : Nat) (u22 : Nat) (a23 : Nat) (a24 : Nat) (a25 : Nat) (u26 : Nat) (f27 : Int32) (a28 : Nat) (u29 : Nat) (w : Nat → Int32) (tp : Nat → Int32) (fd : Nat → Int32) (fa : Nat → Int32) (pt : Nat → Int32) (dr : Nat → Int32) (h6 : u6 ≤ 800) (h8 : PF f8) (h12 : u12 ≤ 8) (h13 : u13 ≤ 800) (h_a0 : Pw w) (h_a14 : Pfd fd) (h_a15 : Pb 9 800 fa) (h_a16 : Pb 9 800 pt) (h_a17 : Pd dr) : Ct l yX12_readsTable (wl yX12_readsTable cX12_readsTable 3 (some .boolean)) { frames := 5, cells := 0, slots := 0, locals := 111 } D κ [.ref m0] [(m0, .inr (12, [.ref a0, .ref a1, .ref a2, .int (nI u3), .int f4, .ref a5, .int (nI u6), .int f7, .int f8, .int f9, .int f10, .int (nI u11), .int (nI u12), .int (nI u13), .ref a14, .ref a15, .ref a16, .ref a17, .int f18, .int f19, .ref a20, .ref a21, .int (nI u22), .ref a23, .ref a24, .ref a25, .int (nI u26), .int f27, .ref a28, .int (nI u29)])), (a0, .inl (κ 0, 21375, .inl w)), (a5, .inl (κ 0, 800, .inl tp)), (a14, .inl (κ 0, 189, .inl fd)), (a15, .inl (κ 0, 9, .inl fa)), (a16, .inl (κ 0, 9, .inl pt)), (a17, .inl (κ 0, 7123, .inl dr))] (fun _ => True) (fun u9 : Int32 × Int32 × Int32 × Int32 × Nat × Nat × Nat × (Nat → Int32) × (Nat → Int32) × (Nat → Int32) × (Nat → Int32) => some (.int u9.1)) (fun u9 : Int32 × Int32 × Int32 × Int32 × Nat × Nat × Nat × (Nat → Int32) × (Nat → Int32) × (Nat → Int32) × (Nat → Int32) => PF u9.2.2.1 ∧ u9.2.2.2.2.2.1 ≤ 8 ∧ u9.2.2.2.2.2.2.1 ≤ 800 ∧ Pfd u9.2.2.2.2.2.2.2.1 ∧ Pb 9 800 u9.2.2.2.2.2.2.2.2.1 ∧ Pb 9 800 u9.2.2.2.2.2.2.2.2.2.1 ∧ Pd u9.2.2.2.2.2.2.2.2.2.2 ∧ ((u9.1 = 1) ∨ (u9.1 = 0))) (fun u9 : Int32 × Int32 × Int32 × Int32 × Nat × Nat × Nat × (Nat → Int32) × (Nat → Int32) × (Nat → Int32) × (Nat → Int32) => [(m0, .inr (12, [.ref a0, .ref a1, .ref a2, .int (nI u3), .int f4, .ref a5, .int (nI u6), .int u9.2.1, .int u9.2.2.1, .int u9.2.2.2.1, .int f10, .int (nI u9.2.2.2.2.1), .int (nI u9.2.2.2.2.2.1), .int (nI u9.2.2.2.2.2.2.1), .ref a14, .ref a15, .ref a16, .ref a17, .int f18, .int f19, .ref a20, .ref a21, .int (nI u22), .ref a23, .ref a24, .ref a25, .int (nI u26), .int f27, .ref a28, .int (nI u29)])), (a0, .inl (κ 0, 21375, .inl w)), (a5, .inl (κ 0, 800, .inl tp)), (a14, .inl (κ 0, 189, .inl u9.2.2.2.2.2.2.2.1)), (a15, .inl (κ 0, 9, .inl u9.2.2.2.2.2.2.2.2.1)), (a16, .inl (κ 0, 9, .inl u9.2.2.2.2.2.2.2.2.2.1)), (a17, .inl (κ 0, 7123, .inl u9.2.2.2.2.2.2.2.2.2.2))]) (fun _ _ => True) := by
  refine ct_of (by decide +kernel) (Nat.le_of_ble_eq_true rfl) ?_
  intro p e s m args below meth c A ls hx hb hr hml hts hown hlk hin hKK hK hA hP hD hS hI hl
  have hS : va_S A s.heap s.heap [] := hS
  have hFX : FX p s m args c cX12_readsTable 3 RX12 := ⟨hx, hb, hml, hown, hts⟩
  have hl : lv_has ls 3 [(0, .ref m0)] := hl
  refine lv_iconst (v := 0) hx hb dX12_readsTable_0 (by decide) ?_
  refine lv_istore_n (lv' := [(1, .int 0), (0, .ref m0)]) hx hb dX12_readsTable_1 rfl hl (by decide) rfl (fun ls hl => ?_)
  refine loop_dn (fun k9 H locs ls => ∃ (k1_2 : Nat), ∃ (ga17_2 : Nat → Int32), (k1_2 ≤ 7123) ∧ (∀ i : Nat, i < k1_2 → ga17_2 i = nI 0) ∧ Pd ga17_2 ∧ 7123 - k1_2 = k9 ∧ va_P D vwCl [(m0, .inr (12, [.ref a0, .ref a1, .ref a2, .int (nI u3), .int f4, .ref a5, .int (nI u6), .int f7, .int f8, .int f9, .int f10, .int (nI u11), .int (nI u12), .int (nI u13), .ref a14, .ref a15, .ref a16, .ref a17, .int f18, .int f19, .ref a20, .ref a21, .int (nI u22), .ref a23, .ref a24, .ref a25, .int (nI u26), .int f27, .ref a28, .int (nI u29)])), (a0, .inl (κ 0, 21375, .inl w)), (a5, .inl (κ 0, 800, .inl tp)), (a14, .inl (κ 0, 189, .inl fd)), (a15, .inl (κ 0, 9, .inl fa)), (a16, .inl (κ 0, 9, .inl pt)), (a17, .inl (κ 0, 7123, .inl ga17_2))] H ∧ va_D A [(m0, .inr (12, [.ref a0, .ref a1, .ref a2, .int (nI u3), .int f4, .ref a5, .int (nI u6), .int f7, .int f8, .int f9, .int f10, .int (nI u11), .int (nI u12), .int (nI u13), .ref a14, .ref a15, .ref a16, .ref a17, .int f18, .int f19, .ref a20, .ref a21, .int (nI u22), .ref a23, .ref a24, .ref a25, .int (nI u26), .int f27, .ref a28, .int (nI u29)])), (a0, .inl (κ 0, 21375, .inl w)), (a5, .inl (κ 0, 800, .inl tp)), (a14, .inl (κ 0, 189, .inl fd)), (a15, .inl (κ 0, 9, .inl fa)), (a16, .inl (κ 0, 9, .inl pt)), (a17, .inl (κ 0, 7123, .inl ga17_2))] ∧ va_S A s.heap H locs ∧ lv_has ls 3 [(1, .int (nI k1_2)), (0, .ref m0)]) (fun k9 H locs ls hI2 ih2 => ?_) (7123 - 0) _ _ _ ⟨0, dr, (by omega), (fun i9 h9 => absurd h9 (by omega)), h_a17, rfl, hP, hD, hS, lv_sub hl [0, 1] rfl⟩
  obtain ⟨k1_2, ga17_2, hl2_0, hl2_1, hg2_0, hm2, hP, hD, hS, hl⟩ := hI2
  refine lv_iload_n hx hb dX12_readsTable_2 rfl (lv_at hl 0 rfl) ?_
  refine lv_sipush (v := 7123) hx hb dX12_readsTable_3 (by decide) ?_
  refine lv_icmp_ge (tgt := 22) hx hb dX12_readsTable_6 (by decide) (fun c_1 => ?_) (fun c_1 => ?_)
  · have nc_1 := cv_le (a := 7123) (b := k1_2) (by omega) (by omega) c_1
    refine lv_aload_n hx hb dX12_readsTable_22 rfl (lv_at hl 1 rfl) ?_
    refine va_get (D := D) (ci := 12) (v := .ref a17) (C := RX12) (T := TX12) (N := 30) hx hb hts inlX12 hown hK hP 0 rfl rfl 17 (by decide) (hts _ mw_197) (fun _ h9 => h9) rfl dX12_readsTable_23 ?_
    refine lv_iconst (v := 0) hx hb dX12_readsTable_26 (by decide) ?_
    refine lv_iconst (v := 1) hx hb dX12_readsTable_27 (by decide) ?_
    refine va_iast hx hb hK hP hD hS 6 0 rfl rfl (i := 0) (x := 1) (vp_k (by decide)) dX12_readsTable_28 (fun H locs hP hD hS => ?_)
    have hP : va_P D vwCl [(m0, .inr (12, [.ref a0, .ref a1, .ref a2, .int (nI u3), .int f4, .ref a5, .int (nI u6), .int f7, .int f8, .int f9, .int f10, .int (nI u11), .int (nI u12), .int (nI u13), .ref a14, .ref a15, .ref a16, .ref a17, .int f18, .int f19, .ref a20, .ref a21, .int (nI u22), .ref a23, .ref a24, .ref a25, .int (nI u26), .int f27, .ref a28, .int (nI u29)])), (a0, .inl (κ 0, 21375, .inl w)), (a5, .inl (κ 0, 800, .inl tp)), (a14, .inl (κ 0, 189, .inl fd)), (a15, .inl (κ 0, 9, .inl fa)), (a16, .inl (κ 0, 9, .inl pt)), (a17, .inl (κ 0, 7123, .inl (upd ga17_2 0 1)))] H := hP
    have hD : va_D A [(m0, .inr (12, [.ref a0, .ref a1, .ref a2, .int (nI u3), .int f4, .ref a5, .int (nI u6), .int f7, .int f8, .int f9, .int f10, .int (nI u11), .int (nI u12), .int (nI u13), .ref a14, .ref a15, .ref a16, .ref a17, .int f18, .int f19, .ref a20, .ref a21, .int (nI u22), .ref a23, .ref a24, .ref a25, .int (nI u26), .int f27, .ref a28, .int (nI u29)])), (a0, .inl (κ 0, 21375, .inl w)), (a5, .inl (κ 0, 800, .inl tp)), (a14, .inl (κ 0, 189, .inl fd)), (a15, .inl (κ 0, 9, .inl fa)), (a16, .inl (κ 0, 9, .inl pt)), (a17, .inl (κ 0, 7123, .inl (upd ga17_2 0 1)))] := hD
    have hf_3 : Pd (upd ga17_2 0 1) := (PL_free hg2_0 (fTHERE (t := 0) (by omega) (by omega)))
    have hq0 : (upd ga17_2 0 1) 1 = nI 0 → (upd ga17_2 0 1) 2 = nI 0 := (fun _ => (pk_un (by decide)).trans (hl2_1 2 (by omega)))
    generalize upd ga17_2 0 1 = g_2 at hP hD hf_3 hq0
    refine lv_aload_n hx hb dX12_readsTable_29 rfl (lv_at hl 1 rfl) ?_
    refine lv_iconst (v := 0) hx hb dX12_readsTable_30 (by decide) ?_
    refine va_put (D := D) (ci := 12) (v := .int 0) (ty := tyX12 11) (C := RX12) (T := TX12) (N := 30) hx hb hts inlX12 tyX12 tyX12_ok nmX12 hown hK hP hD hS 0 rfl rfl 11 (by decide) (hts _ mw_423) (fun _ h9 => h9) rfl (tyX12_ok 11 (by decide)) rfl rfl (Nat.le_of_ble_eq_true rfl) dX12_readsTable_31 (fun H locs hP hD hS => ?_)
    have hP : va_P D vwCl [(m0, .inr (12, [.ref a0, .ref a1, .ref a2, .int (nI u3), .int f4, .ref a5, .int (nI u6), .int f7, .int f8, .int f9, .int f10, .int 0, .int (nI u12), .int (nI u13), .ref a14, .ref a15, .ref a16, .ref a17, .int f18, .int f19, .ref a20, .ref a21, .int (nI u22), .ref a23, .ref a24, .ref a25, .int (nI u26), .int f27, .ref a28, .int (nI u29)])), (a0, .inl (κ 0, 21375, .inl w)), (a5, .inl (κ 0, 800, .inl tp)), (a14, .inl (κ 0, 189, .inl fd)), (a15, .inl (κ 0, 9, .inl fa)), (a16, .inl (κ 0, 9, .inl pt)), (a17, .inl (κ 0, 7123, .inl g_2))] H := hP
    have hD : va_D A [(m0, .inr (12, [.ref a0, .ref a1, .ref a2, .int (nI u3), .int f4, .ref a5, .int (nI u6), .int f7, .int f8, .int f9, .int f10, .int 0, .int (nI u12), .int (nI u13), .ref a14, .ref a15, .ref a16, .ref a17, .int f18, .int f19, .ref a20, .ref a21, .int (nI u22), .ref a23, .ref a24, .ref a25, .int (nI u26), .int f27, .ref a28, .int (nI u29)])), (a0, .inl (κ 0, 21375, .inl w)), (a5, .inl (κ 0, 800, .inl tp)), (a14, .inl (κ 0, 189, .inl fd)), (a15, .inl (κ 0, 9, .inl fa)), (a16, .inl (κ 0, 9, .inl pt)), (a17, .inl (κ 0, 7123, .inl g_2))] := hD
    refine loop_dn (fun k9 H locs ls => ∃ (v7_34 : Int32), ∃ (v8_34 : Int32), ∃ (v9_34 : Int32), ∃ (v11_34 : Nat), ∃ (v12_34 : Nat), ∃ (v13_34 : Nat), ∃ (ga14_34 : Nat → Int32), ∃ (ga15_34 : Nat → Int32), ∃ (ga16_34 : Nat → Int32), ∃ (ga17_34 : Nat → Int32), (v11_34 ≤ u6) ∧ (PF v8_34) ∧ (v12_34 ≤ 8) ∧ (v13_34 ≤ 800) ∧ (ga17_34 1 = nI 0 → ga17_34 2 = nI 0) ∧ Pfd ga14_34 ∧ Pb 9 800 ga15_34 ∧ Pb 9 800 ga16_34 ∧ Pd ga17_34 ∧ u6 - v11_34 = k9 ∧ va_P D vwCl [(m0, .inr (12, [.ref a0, .ref a1, .ref a2, .int (nI u3), .int f4, .ref a5, .int (nI u6), .int v7_34, .int v8_34, .int v9_34, .int f10, .int (nI v11_34), .int (nI v12_34), .int (nI v13_34), .ref a14, .ref a15, .ref a16, .ref a17, .int f18, .int f19, .ref a20, .ref a21, .int (nI u22), .ref a23, .ref a24, .ref a25, .int (nI u26), .int f27, .ref a28, .int (nI u29)])), (a0, .inl (κ 0, 21375, .inl w)), (a5, .inl (κ 0, 800, .inl tp)), (a14, .inl (κ 0, 189, .inl ga14_34)), (a15, .inl (κ 0, 9, .inl ga15_34)), (a16, .inl (κ 0, 9, .inl ga16_34)), (a17, .inl (κ 0, 7123, .inl ga17_34))] H ∧ va_D A [(m0, .inr (12, [.ref a0, .ref a1, .ref a2, .int (nI u3), .int f4, .ref a5, .int (nI u6), .int v7_34, .int v8_34, .int v9_34, .int f10, .int (nI v11_34), .int (nI v12_34), .int (nI v13_34), .ref a14, .ref a15, .ref a16, .ref a17, .int f18, .int f19, .ref a20, .ref a21, .int (nI u22), .ref a23, .ref a24, .ref a25, .int (nI u26), .int f27, .ref a28, .int (nI u29)])), (a0, .inl (κ 0, 21375, .inl w)), (a5, .inl (κ 0, 800, .inl tp)), (a14, .inl (κ 0, 189, .inl ga14_34)), (a15, .inl (κ 0, 9, .inl ga15_34)), (a16, .inl (κ 0, 9, .inl ga16_34)), (a17, .inl (κ 0, 7123, .inl ga17_34))] ∧ va_S A s.heap H locs ∧ lv_has ls 3 [(0, .ref m0)]) (fun k9 H locs ls hI34 ih34 => ?_) (u6 - 0) _ _ _ ⟨f7, f8, f9, 0, u12, u13, fd, fa, pt, g_2, (by omega), (by assumption), (by omega), (by omega), hq0, h_a14, h_a15, h_a16, hf_3, rfl, hP, hD, hS, lv_sub hl [1] rfl⟩
    obtain ⟨v7_34, v8_34, v9_34, v11_34, v12_34, v13_34, ga14_34, ga15_34, ga16_34, ga17_34, hl34_0, hl34_1, hl34_2, hl34_3, hl34_4, hg34_0, hg34_1, hg34_2, hg34_3, hm34, hP, hD, hS, hl⟩ := hI34
    refine lv_aload_n hx hb dX12_readsTable_34 rfl (lv_at hl 0 rfl) ?_
    refine ct_V (wr := [(a14, .inl (κ 0, 189, .inl ga14_34)), (a15, .inl (κ 0, 9, .inl ga15_34)), (a16, .inl (κ 0, 9, .inl ga16_34)), (a17, .inl (κ 0, 7123, .inl ga17_34))]) (As := []) (rest := []) hFX hKK hP hD hS hA (s_X12_passes l D κ m0 a0 a1 a2 u3 f4 a5 u6 v7_34 v8_34 v9_34 f10 v11_34 v12_34 v13_34 a14 a15 a16 a17 f18 f19 a20 a21 u22 a23 a24 a25 u26 f27 a28 u29 w tp (by omega) h_a0 (by omega)) 0 gV_X12_252 hdV_X12_passes ⟨Nat.le_of_ble_eq_true rfl, Nat.le_of_ble_eq_true rfl⟩ rfl rfl (Nat.le_of_ble_eq_true rfl) dX12_readsTable_35 ⟨Nat.le_of_ble_eq_true rfl, Nat.le_of_ble_eq_true rfl⟩ hl.1 [0, 1, 2] [3, 4, 5, 6] rfl rfl (by decide) (by decide) (by decide) 0 12 rfl rfl rfl trivial (fun u_6 H locs hp_7 _ hP hD hS hz_ hk_ => ?_)
    obtain ⟨r__4, y11__5⟩ := u_6
    replace hP : va_P D vwCl [(m0, .inr (12, [.ref a0, .ref a1, .ref a2, .int (nI u3), .int f4, .ref a5, .int (nI u6), .int v7_34, .int v8_34, .int v9_34, .int f10, .int (nI y11__5), .int (nI v12_34), .int (nI v13_34), .ref a14, .ref a15, .ref a16, .ref a17, .int f18, .int f19, .ref a20, .ref a21, .int (nI u22), .ref a23, .ref a24, .ref a25, .int (nI u26), .int f27, .ref a28, .int (nI u29)])), (a0, .inl (κ 0, 21375, .inl w)), (a5, .inl (κ 0, 800, .inl tp)), (a14, .inl (κ 0, 189, .inl ga14_34)), (a15, .inl (κ 0, 9, .inl ga15_34)), (a16, .inl (κ 0, 9, .inl ga16_34)), (a17, .inl (κ 0, 7123, .inl ga17_34))] H := hP.sub [4, 5, 6, 0, 1, 2, 3] rfl
    replace hD : va_D A [(m0, .inr (12, [.ref a0, .ref a1, .ref a2, .int (nI u3), .int f4, .ref a5, .int (nI u6), .int v7_34, .int v8_34, .int v9_34, .int f10, .int (nI y11__5), .int (nI v12_34), .int (nI v13_34), .ref a14, .ref a15, .ref a16, .ref a17, .int f18, .int f19, .ref a20, .ref a21, .int (nI u22), .ref a23, .ref a24, .ref a25, .int (nI u26), .int f27, .ref a28, .int (nI u29)])), (a0, .inl (κ 0, 21375, .inl w)), (a5, .inl (κ 0, 800, .inl tp)), (a14, .inl (κ 0, 189, .inl ga14_34)), (a15, .inl (κ 0, 9, .inl ga15_34)), (a16, .inl (κ 0, 9, .inl ga16_34)), (a17, .inl (κ 0, 7123, .inl ga17_34))] := hD.sub [4, 5, 6, 0, 1, 2, 3] (by decide) rfl
    replace hp_7 : v11_34 ≤ y11__5 ∧ y11__5 ≤ u6 ∧ ((r__4 = 1 ∧ y11__5 < u6) ∨ (r__4 = 0)) := hp_7
    obtain ⟨h_8, h_9, ha_10⟩ := hp_7
    rcases ha_10 with ⟨rfl, a_11⟩ | rfl
    · refine W.eq (g2 := F0 m 38 ls [.int 1]) rfl ?_
      refine lv_if_eq (tgt := 198) hx hb dX12_readsTable_38 (by decide) (fun c_12 => absurd c_12 (by decide)) (fun c_12 => ?_)
      refine lv_aload_n hx hb dX12_readsTable_41 rfl (lv_at hl 0 rfl) ?_
      refine va_get (D := D) (ci := 12) (v := .int (nI y11__5)) (C := RX12) (T := TX12) (N := 30) hx hb hts inlX12 hown hK hP 0 rfl rfl 11 (by decide) (hts _ mw_423) (fun _ h9 => h9) rfl dX12_readsTable_42 ?_
      refine lv_istore_n (lv' := [(1, .int (nI y11__5)), (0, .ref m0)]) hx hb dX12_readsTable_45 rfl hl (by decide) rfl (fun ls hl => ?_)
      refine lv_aload_n hx hb dX12_readsTable_46 rfl (lv_at hl 1 rfl) ?_
      refine va_get (D := D) (ci := 12) (v := .ref a17) (C := RX12) (T := TX12) (N := 30) hx hb hts inlX12 hown hK hP 0 rfl rfl 17 (by decide) (hts _ mw_197) (fun _ h9 => h9) rfl dX12_readsTable_47 ?_
      refine lv_iconst (v := 1) hx hb dX12_readsTable_50 (by decide) ?_
      refine va_iald hx hb hK hP 6 0 rfl rfl (i := 1) (vp_k (by decide)) dX12_readsTable_51 ?_
      obtain ⟨n_13, hn_13, en_13⟩ : ∃ n9 : Nat, n9 ≤ 8 ∧ ga17_34 1 = nI n9 := id (hg34_3 _ _ (by omega) (mN (t := 0) (by omega) (by omega)))
      refine kv (v := .int (nI n_13)) (congrArg Value.int en_13) ?_
      refine lv_if_le (tgt := 71) hx hb dX12_readsTable_52 (by decide) (fun c_14 => ?_) (fun c_14 => ?_)
      · have nc_14 := cv_le (a := n_13) (b := 0) (by omega) (by omega) c_14
        refine lv_aload_n hx hb dX12_readsTable_71 rfl (lv_at hl 1 rfl) ?_
        refine ct_V (wr := [(a17, .inl (κ 0, 7123, .inl ga17_34))]) (As := []) (rest := []) hFX hKK hP hD hS hA (s_X12_readsLine l D κ m0 a0 a1 a2 u3 f4 a5 u6 v7_34 v8_34 v9_34 f10 y11__5 v12_34 v13_34 a14 a15 a16 a17 f18 f19 a20 a21 u22 a23 a24 a25 u26 f27 a28 u29 w tp ga14_34 ga15_34 ga16_34 (by omega) (by assumption) (by omega) h_a0 hg34_0 hg34_1 hg34_2 (by omega)) 0 gV_X12_258 hdV_X12_readsLine ⟨Nat.le_of_ble_eq_true rfl, Nat.le_of_ble_eq_true rfl⟩ rfl rfl (Nat.le_of_ble_eq_true rfl) dX12_readsTable_72 ⟨Nat.le_of_ble_eq_true rfl, Nat.le_of_ble_eq_true rfl⟩ hl.1 [0, 1, 2, 3, 4, 5] [6] rfl rfl (by decide) (by decide) (by decide) 0 12 rfl rfl rfl trivial (fun u_25 H locs hp_26 _ hP hD hS hz_ hk_ => ?_)
        obtain ⟨r__15, y7__16, y8__17, y9__18, y11__19, y12__20, y13__21, g_a14__22, g_a15__23, g_a16__24⟩ := u_25
        replace hP : va_P D vwCl [(m0, .inr (12, [.ref a0, .ref a1, .ref a2, .int (nI u3), .int f4, .ref a5, .int (nI u6), .int y7__16, .int y8__17, .int y9__18, .int f10, .int (nI y11__19), .int (nI y12__20), .int (nI y13__21), .ref a14, .ref a15, .ref a16, .ref a17, .int f18, .int f19, .ref a20, .ref a21, .int (nI u22), .ref a23, .ref a24, .ref a25, .int (nI u26), .int f27, .ref a28, .int (nI u29)])), (a0, .inl (κ 0, 21375, .inl w)), (a5, .inl (κ 0, 800, .inl tp)), (a14, .inl (κ 0, 189, .inl g_a14__22)), (a15, .inl (κ 0, 9, .inl g_a15__23)), (a16, .inl (κ 0, 9, .inl g_a16__24)), (a17, .inl (κ 0, 7123, .inl ga17_34))] H := hP.sub [1, 2, 3, 4, 5, 6, 0] rfl
        replace hD : va_D A [(m0, .inr (12, [.ref a0, .ref a1, .ref a2, .int (nI u3), .int f4, .ref a5, .int (nI u6), .int y7__16, .int y8__17, .int y9__18, .int f10, .int (nI y11__19), .int (nI y12__20), .int (nI y13__21), .ref a14, .ref a15, .ref a16, .ref a17, .int f18, .int f19, .ref a20, .ref a21, .int (nI u22), .ref a23, .ref a24, .ref a25, .int (nI u26), .int f27, .ref a28, .int (nI u29)])), (a0, .inl (κ 0, 21375, .inl w)), (a5, .inl (κ 0, 800, .inl tp)), (a14, .inl (κ 0, 189, .inl g_a14__22)), (a15, .inl (κ 0, 9, .inl g_a15__23)), (a16, .inl (κ 0, 9, .inl g_a16__24)), (a17, .inl (κ 0, 7123, .inl ga17_34))] := hD.sub [1, 2, 3, 4, 5, 6, 0] (by decide) rfl
        replace hp_26 : PF y8__17 ∧ y12__20 ≤ 8 ∧ y13__21 ≤ 800 ∧ Pfd g_a14__22 ∧ Pb 9 800 g_a15__23 ∧ Pb 9 800 g_a16__24 ∧ y11__5 ≤ y11__19 ∧ y11__19 ≤ u6 ∧ ((r__15 = 1 ∧ 1 ≤ y12__20) ∨ (r__15 = 0)) := hp_26
        obtain ⟨h_27, h_28, h_29, h_30, h_31, h_32, h_33, h_34, ha_35⟩ := hp_26
        rcases ha_35 with ⟨rfl, a_36⟩ | rfl
        · refine W.eq (g2 := F0 m 75 ls [.int 1]) rfl ?_
          refine lv_if_ne (tgt := 80) hx hb dX12_readsTable_75 (by decide) (fun c_37 => ?_) (fun c_37 => absurd c_37 (by decide))
          refine lv_aload_n hx hb dX12_readsTable_80 rfl (lv_at hl 1 rfl) ?_
          refine va_get (D := D) (ci := 12) (v := .ref a17) (C := RX12) (T := TX12) (N := 30) hx hb hts inlX12 hown hK hP 0 rfl rfl 17 (by decide) (hts _ mw_197) (fun _ h9 => h9) rfl dX12_readsTable_81 ?_
          refine lv_iconst (v := 1) hx hb dX12_readsTable_84 (by decide) ?_
          refine va_iald hx hb hK hP 6 0 rfl rfl (i := 1) (vp_k (by decide)) dX12_readsTable_85 ?_
          refine kv (v := .int (nI n_13)) (congrArg Value.int (en_13)) ?_
          refine lv_if_ne (tgt := 93) hx hb dX12_readsTable_86 (by decide) (fun c_38 => ?_) (fun c_38 => ?_)
          · have nc_38 := cv_ne (a := n_13) (b := 0) (by omega) (by omega) c_38
            refine lv_iconst (v := 0) hx hb dX12_readsTable_93 (by decide) ?_
            refine lv_istore_n (lv' := [(2, .int 0), (1, .int (nI y11__5)), (0, .ref m0)]) hx hb dX12_readsTable_94 rfl hl (by decide) rfl (fun ls hl => ?_)
            refine lv_iload_n hx hb dX12_readsTable_95 rfl (lv_at hl 0 rfl) ?_
            refine lv_if_eq (tgt := 120) hx hb dX12_readsTable_96 (by decide) (fun c_39 => ?_) (fun c_39 => absurd (by decide) c_39)
            refine lv_iload_n hx hb dX12_readsTable_120 rfl (lv_at hl 0 rfl) ?_
            refine lv_if_eq (tgt := 128) hx hb dX12_readsTable_121 (by decide) (fun c_40 => ?_) (fun c_40 => absurd (by decide) c_40)
            refine lv_aload_n hx hb dX12_readsTable_128 rfl (lv_at hl 2 rfl) ?_
            refine lv_aload_n hx hb dX12_readsTable_129 rfl (lv_at hl 2 rfl) ?_
            refine va_get (D := D) (ci := 12) (v := .ref a17) (C := RX12) (T := TX12) (N := 30) hx hb hts inlX12 hown hK hP 0 rfl rfl 17 (by decide) (hts _ mw_197) (fun _ h9 => h9) rfl dX12_readsTable_130 ?_
            refine lv_iconst (v := 1) hx hb dX12_readsTable_133 (by decide) ?_
            refine va_iald hx hb hK hP 6 0 rfl rfl (i := 1) (vp_k (by decide)) dX12_readsTable_134 ?_
            refine kv (v := .int (nI n_13)) (congrArg Value.int (en_13)) ?_
            refine ct_V (wr := [(a5, .inl (κ 0, 800, .inl tp)), (a15, .inl (κ 0, 9, .inl g_a15__23)), (a17, .inl (κ 0, 7123, .inl ga17_34))]) (As := [.int (nI n_13)]) (rest := []) hFX hKK hP hD hS hA (s_X12_fits l D κ m0 a0 a1 a2 u3 f4 a5 u6 y7__16 y8__17 y9__18 f10 y11__19 y12__20 y13__21 a14 a15 a16 a17 f18 f19 a20 a21 u22 a23 a24 a25 u26 f27 a28 u29 w g_a14__22 g_a16__24 n_13 (by assumption) (by omega) (by omega) h_a0 h_30 h_32 (by omega)) 1 gV_X12_267 hdV_X12_fits ⟨Nat.le_of_ble_eq_true rfl, Nat.le_of_ble_eq_true rfl⟩ rfl rfl (Nat.le_of_ble_eq_true rfl) dX12_readsTable_135 ⟨Nat.le_of_ble_eq_true rfl, Nat.le_of_ble_eq_true rfl⟩ hl.1 [0, 1, 3, 5] [2, 4, 6] rfl rfl (by decide) (by decide) (by decide) 0 12 rfl rfl rfl trivial (fun u_46 H locs hp_47 _ hP hD hS hz_ hk_ => ?_)
            obtain ⟨r__41, y7__42, y8__43, y9__44, g_a14__45⟩ := u_46
            replace hP : va_P D vwCl [(m0, .inr (12, [.ref a0, .ref a1, .ref a2, .int (nI u3), .int f4, .ref a5, .int (nI u6), .int y7__42, .int y8__43, .int y9__44, .int f10, .int (nI y11__19), .int (nI y12__20), .int (nI y13__21), .ref a14, .ref a15, .ref a16, .ref a17, .int f18, .int f19, .ref a20, .ref a21, .int (nI u22), .ref a23, .ref a24, .ref a25, .int (nI u26), .int f27, .ref a28, .int (nI u29)])), (a0, .inl (κ 0, 21375, .inl w)), (a5, .inl (κ 0, 800, .inl tp)), (a14, .inl (κ 0, 189, .inl g_a14__45)), (a15, .inl (κ 0, 9, .inl g_a15__23)), (a16, .inl (κ 0, 9, .inl g_a16__24)), (a17, .inl (κ 0, 7123, .inl ga17_34))] H := hP.sub [3, 4, 0, 5, 1, 6, 2] rfl
            replace hD : va_D A [(m0, .inr (12, [.ref a0, .ref a1, .ref a2, .int (nI u3), .int f4, .ref a5, .int (nI u6), .int y7__42, .int y8__43, .int y9__44, .int f10, .int (nI y11__19), .int (nI y12__20), .int (nI y13__21), .ref a14, .ref a15, .ref a16, .ref a17, .int f18, .int f19, .ref a20, .ref a21, .int (nI u22), .ref a23, .ref a24, .ref a25, .int (nI u26), .int f27, .ref a28, .int (nI u29)])), (a0, .inl (κ 0, 21375, .inl w)), (a5, .inl (κ 0, 800, .inl tp)), (a14, .inl (κ 0, 189, .inl g_a14__45)), (a15, .inl (κ 0, 9, .inl g_a15__23)), (a16, .inl (κ 0, 9, .inl g_a16__24)), (a17, .inl (κ 0, 7123, .inl ga17_34))] := hD.sub [3, 4, 0, 5, 1, 6, 2] (by decide) rfl
            replace hp_47 : PF y8__43 ∧ Pfd g_a14__45 ∧ ((r__41 = 1) ∨ (r__41 = 0)) := hp_47
            obtain ⟨h_48, h_49, ha_50⟩ := hp_47
            rcases ha_50 with rfl | rfl
            · refine W.eq (g2 := F0 m 138 ls [.int 1]) rfl ?_
              refine lv_if_ne (tgt := 143) hx hb dX12_readsTable_138 (by decide) (fun c_51 => ?_) (fun c_51 => absurd c_51 (by decide))
              refine lv_aload_n hx hb dX12_readsTable_143 rfl (lv_at hl 2 rfl) ?_
              refine lv_aload_n hx hb dX12_readsTable_144 rfl (lv_at hl 2 rfl) ?_
              refine va_get (D := D) (ci := 12) (v := .ref a17) (C := RX12) (T := TX12) (N := 30) hx hb hts inlX12 hown hK hP 0 rfl rfl 17 (by decide) (hts _ mw_197) (fun _ h9 => h9) rfl dX12_readsTable_145 ?_
              refine lv_sipush (v := 403) hx hb dX12_readsTable_148 (by decide) ?_
              refine lv_sipush (v := 168) hx hb dX12_readsTable_151 (by decide) ?_
              refine lv_aload_n hx hb dX12_readsTable_154 rfl (lv_at hl 2 rfl) ?_
              refine va_get (D := D) (ci := 12) (v := .ref a17) (C := RX12) (T := TX12) (N := 30) hx hb hts inlX12 hown hK hP 0 rfl rfl 17 (by decide) (hts _ mw_197) (fun _ h9 => h9) rfl dX12_readsTable_155 ?_
              refine lv_iconst (v := 2) hx hb dX12_readsTable_158 (by decide) ?_
              refine va_iald hx hb hK hP 6 0 rfl rfl (i := 2) (vp_k (by decide)) dX12_readsTable_159 ?_
              obtain ⟨n_52, hn_52, en_52⟩ : ∃ n9 : Nat, n9 ≤ 40 ∧ ga17_34 2 = nI n9 := id (hg34_3 _ _ (by omega) (mMANY (t := 0) (by omega) (by omega)))
              refine kv (v := .int (nI n_52)) (congrArg Value.int en_52) ?_
              refine lv_imul hx hb dX12_readsTable_160 ?_
              refine ki (v := (nI (168 * n_52))) (pk_mul 168 n_52) ?_
              refine lv_iadd hx hb dX12_readsTable_161 ?_
              refine ki (v := (nI (403 + (168 * n_52)))) (nI_add 403 (168 * n_52)) ?_
              refine lv_aload_n hx hb dX12_readsTable_162 rfl (lv_at hl 2 rfl) ?_
              refine va_get (D := D) (ci := 12) (v := .ref a17) (C := RX12) (T := TX12) (N := 30) hx hb hts inlX12 hown hK hP 0 rfl rfl 17 (by decide) (hts _ mw_197) (fun _ h9 => h9) rfl dX12_readsTable_163 ?_
              refine lv_iconst (v := 1) hx hb dX12_readsTable_166 (by decide) ?_
              refine va_iald hx hb hK hP 6 0 rfl rfl (i := 1) (vp_k (by decide)) dX12_readsTable_167 ?_
              refine kv (v := .int (nI n_13)) (congrArg Value.int (en_13)) ?_
              refine ct_V (wr := [(a0, .inl (κ 0, 21375, .inl w)), (a5, .inl (κ 0, 800, .inl tp)), (a15, .inl (κ 0, 9, .inl g_a15__23)), (a16, .inl (κ 0, 9, .inl g_a16__24))]) (As := [.ref a17, .int (nI (403 + (168 * n_52))), .int (nI n_13)]) (rest := []) hFX hKK hP hD hS hA (s_X12_putsRow_d l D κ m0 a0 a1 a2 u3 f4 a5 u6 y7__42 y8__43 y9__44 f10 y11__19 y12__20 y13__21 a14 a15 a16 a17 f18 f19 a20 a21 u22 a23 a24 a25 u26 f27 a28 u29 g_a14__45 ga17_34 (403 + (168 * n_52)) n_13 h_49 hg34_3 (by omega) (by omega) (by omega) (by omega)) 3 gV_X12_270 hdV_X12_putsRow ⟨Nat.le_of_ble_eq_true rfl, Nat.le_of_ble_eq_true rfl⟩ rfl rfl (Nat.le_of_ble_eq_true rfl) dX12_readsTable_168 ⟨Nat.le_of_ble_eq_true rfl, Nat.le_of_ble_eq_true rfl⟩ hl.1 [0, 3, 6] [1, 2, 4, 5] rfl rfl (by decide) (by decide) (by decide) 0 12 rfl rfl rfl trivial (fun g_a17__53 H locs hp_54 _ hP hD hS hz_ hk_ => ?_)
              replace hP : va_P D vwCl [(m0, .inr (12, [.ref a0, .ref a1, .ref a2, .int (nI u3), .int f4, .ref a5, .int (nI u6), .int y7__42, .int y8__43, .int y9__44, .int f10, .int (nI y11__19), .int (nI y12__20), .int (nI y13__21), .ref a14, .ref a15, .ref a16, .ref a17, .int f18, .int f19, .ref a20, .ref a21, .int (nI u22), .ref a23, .ref a24, .ref a25, .int (nI u26), .int f27, .ref a28, .int (nI u29)])), (a0, .inl (κ 0, 21375, .inl w)), (a5, .inl (κ 0, 800, .inl tp)), (a14, .inl (κ 0, 189, .inl g_a14__45)), (a15, .inl (κ 0, 9, .inl g_a15__23)), (a16, .inl (κ 0, 9, .inl g_a16__24)), (a17, .inl (κ 0, 7123, .inl g_a17__53))] H := hP.sub [4, 0, 1, 5, 2, 3, 6] rfl
              replace hD : va_D A [(m0, .inr (12, [.ref a0, .ref a1, .ref a2, .int (nI u3), .int f4, .ref a5, .int (nI u6), .int y7__42, .int y8__43, .int y9__44, .int f10, .int (nI y11__19), .int (nI y12__20), .int (nI y13__21), .ref a14, .ref a15, .ref a16, .ref a17, .int f18, .int f19, .ref a20, .ref a21, .int (nI u22), .ref a23, .ref a24, .ref a25, .int (nI u26), .int f27, .ref a28, .int (nI u29)])), (a0, .inl (κ 0, 21375, .inl w)), (a5, .inl (κ 0, 800, .inl tp)), (a14, .inl (κ 0, 189, .inl g_a14__45)), (a15, .inl (κ 0, 9, .inl g_a15__23)), (a16, .inl (κ 0, 9, .inl g_a16__24)), (a17, .inl (κ 0, 7123, .inl g_a17__53))] := hD.sub [4, 0, 1, 5, 2, 3, 6] (by decide) rfl
              replace hp_54 : Pd g_a17__53 ∧ (∀ i : Nat, i < 4 → g_a17__53 i = ga17_34 i) := hp_54
              obtain ⟨h_55, h_56⟩ := hp_54
              refine W.eq (g2 := F0 m 171 ls []) rfl ?_
              have hq2 : g_a17__53 2 = nI n_52 := (h_56 2 (by decide)).trans en_52
              refine lv_aload_n hx hb dX12_readsTable_171 rfl (lv_at hl 2 rfl) ?_
              refine va_get (D := D) (ci := 12) (v := .ref a17) (C := RX12) (T := TX12) (N := 30) hx hb hts inlX12 hown hK hP 0 rfl rfl 17 (by decide) (hts _ mw_197) (fun _ h9 => h9) rfl dX12_readsTable_172 ?_
              refine lv_iconst (v := 2) hx hb dX12_readsTable_175 (by decide) ?_
              refine lv_dup2_11 hx hb dX12_readsTable_176 rfl rfl ?_
              refine va_iald hx hb hK hP 6 0 rfl rfl (i := 2) (vp_k (by decide)) dX12_readsTable_177 ?_
              refine kv (v := .int (nI n_52)) (congrArg Value.int hq2) ?_
              refine lv_iconst (v := 1) hx hb dX12_readsTable_178 (by decide) ?_
              refine lv_iadd hx hb dX12_readsTable_179 ?_
              refine ki (v := (nI (n_52 + 1))) (nI_add n_52 1) ?_
              refine va_iast hx hb hK hP hD hS 6 0 rfl rfl (i := 2) (x := nI (n_52 + 1)) (vp_k (by decide)) dX12_readsTable_180 (fun H locs hP hD hS => ?_)
              have hP : va_P D vwCl [(m0, .inr (12, [.ref a0, .ref a1, .ref a2, .int (nI u3), .int f4, .ref a5, .int (nI u6), .int y7__42, .int y8__43, .int y9__44, .int f10, .int (nI y11__19), .int (nI y12__20), .int (nI y13__21), .ref a14, .ref a15, .ref a16, .ref a17, .int f18, .int f19, .ref a20, .ref a21, .int (nI u22), .ref a23, .ref a24, .ref a25, .int (nI u26), .int f27, .ref a28, .int (nI u29)])), (a0, .inl (κ 0, 21375, .inl w)), (a5, .inl (κ 0, 800, .inl tp)), (a14, .inl (κ 0, 189, .inl g_a14__45)), (a15, .inl (κ 0, 9, .inl g_a15__23)), (a16, .inl (κ 0, 9, .inl g_a16__24)), (a17, .inl (κ 0, 7123, .inl (upd g_a17__53 2 (nI (n_52 + 1)))))] H := hP
              have hD : va_D A [(m0, .inr (12, [.ref a0, .ref a1, .ref a2, .int (nI u3), .int f4, .ref a5, .int (nI u6), .int y7__42, .int y8__43, .int y9__44, .int f10, .int (nI y11__19), .int (nI y12__20), .int (nI y13__21), .ref a14, .ref a15, .ref a16, .ref a17, .int f18, .int f19, .ref a20, .ref a21, .int (nI u22), .ref a23, .ref a24, .ref a25, .int (nI u26), .int f27, .ref a28, .int (nI u29)])), (a0, .inl (κ 0, 21375, .inl w)), (a5, .inl (κ 0, 800, .inl tp)), (a14, .inl (κ 0, 189, .inl g_a14__45)), (a15, .inl (κ 0, 9, .inl g_a15__23)), (a16, .inl (κ 0, 9, .inl g_a16__24)), (a17, .inl (κ 0, 7123, .inl (upd g_a17__53 2 (nI (n_52 + 1)))))] := hD
              have hf_58 : Pd (upd g_a17__53 2 (nI (n_52 + 1))) := (PL_upd h_55 (mMANY (t := 0) (by omega) (by omega)) ⟨n_52 + 1, by omega, rfl⟩)
              have hph : (upd g_a17__53 2 (nI (n_52 + 1))) 1 = nI 0 → (upd g_a17__53 2 (nI (n_52 + 1))) 2 = nI 0 := (ph_no ((pk_un (by decide)).trans ((h_56 1 (by decide)).trans en_13)) (by omega) (by omega))
              generalize upd g_a17__53 2 (nI (n_52 + 1)) = g_57 at hP hD hf_58 hph
              refine lv_aload_n hx hb dX12_readsTable_181 rfl (lv_at hl 2 rfl) ?_
              refine ct_V (wr := [(a0, .inl (κ 0, 21375, .inl w)), (a5, .inl (κ 0, 800, .inl tp)), (a14, .inl (κ 0, 189, .inl g_a14__45)), (a15, .inl (κ 0, 9, .inl g_a15__23)), (a16, .inl (κ 0, 9, .inl g_a16__24)), (a17, .inl (κ 0, 7123, .inl g_57))]) (As := []) (rest := []) hFX hKK hP hD hS hA (s_X12_goesOn l D κ m0 a0 a1 a2 u3 f4 a5 u6 y7__42 y8__43 y9__44 f10 y11__19 y12__20 y13__21 a14 a15 a16 a17 f18 f19 a20 a21 u22 a23 a24 a25 u26 f27 a28 u29 (by omega) (by omega)) 0 gV_X12_274 hdV_X12_goesOn ⟨Nat.le_of_ble_eq_true rfl, Nat.le_of_ble_eq_true rfl⟩ rfl rfl (Nat.le_of_ble_eq_true rfl) dX12_readsTable_182 ⟨Nat.le_of_ble_eq_true rfl, Nat.le_of_ble_eq_true rfl⟩ hl.1 [0] [1, 2, 3, 4, 5, 6] rfl rfl (by decide) (by decide) (by decide) 0 12 rfl rfl rfl trivial (fun y11__59 H locs hp_60 _ hP hD hS hz_ hk_ => ?_)
              replace hP : va_P D vwCl [(m0, .inr (12, [.ref a0, .ref a1, .ref a2, .int (nI u3), .int f4, .ref a5, .int (nI u6), .int y7__42, .int y8__43, .int y9__44, .int f10, .int (nI y11__59), .int (nI y12__20), .int (nI y13__21), .ref a14, .ref a15, .ref a16, .ref a17, .int f18, .int f19, .ref a20, .ref a21, .int (nI u22), .ref a23, .ref a24, .ref a25, .int (nI u26), .int f27, .ref a28, .int (nI u29)])), (a0, .inl (κ 0, 21375, .inl w)), (a5, .inl (κ 0, 800, .inl tp)), (a14, .inl (κ 0, 189, .inl g_a14__45)), (a15, .inl (κ 0, 9, .inl g_a15__23)), (a16, .inl (κ 0, 9, .inl g_a16__24)), (a17, .inl (κ 0, 7123, .inl g_57))] H := hP.sub [6, 0, 1, 2, 3, 4, 5] rfl
              replace hD : va_D A [(m0, .inr (12, [.ref a0, .ref a1, .ref a2, .int (nI u3), .int f4, .ref a5, .int (nI u6), .int y7__42, .int y8__43, .int y9__44, .int f10, .int (nI y11__59), .int (nI y12__20), .int (nI y13__21), .ref a14, .ref a15, .ref a16, .ref a17, .int f18, .int f19, .ref a20, .ref a21, .int (nI u22), .ref a23, .ref a24, .ref a25, .int (nI u26), .int f27, .ref a28, .int (nI u29)])), (a0, .inl (κ 0, 21375, .inl w)), (a5, .inl (κ 0, 800, .inl tp)), (a14, .inl (κ 0, 189, .inl g_a14__45)), (a15, .inl (κ 0, 9, .inl g_a15__23)), (a16, .inl (κ 0, 9, .inl g_a16__24)), (a17, .inl (κ 0, 7123, .inl g_57))] := hD.sub [6, 0, 1, 2, 3, 4, 5] (by decide) rfl
              replace hp_60 : y11__19 ≤ y11__59 ∧ y11__59 ≤ u6 := hp_60
              obtain ⟨h_61, h_62⟩ := hp_60
              refine W.eq (g2 := F0 m 185 ls []) rfl ?_
              refine lv_aload_n hx hb dX12_readsTable_185 rfl (lv_at hl 2 rfl) ?_
              refine va_get (D := D) (ci := 12) (v := .int (nI y11__59)) (C := RX12) (T := TX12) (N := 30) hx hb hts inlX12 hown hK hP 0 rfl rfl 11 (by decide) (hts _ mw_423) (fun _ h9 => h9) rfl dX12_readsTable_186 ?_
              refine lv_iload_n hx hb dX12_readsTable_189 rfl (lv_at hl 1 rfl) ?_
              refine lv_icmp_ne (tgt := 195) hx hb dX12_readsTable_190 (by decide) (fun c_63 => ?_) (fun c_63 => ?_)
              · have nc_63 := cv_ne (a := y11__59) (b := y11__5) (by omega) (by omega) c_63
                refine lv_goto (tgt := 34) hx hb dX12_readsTable_195 (by decide) ?_
                exact ih34 _ _ _ _ (by omega) ⟨y7__42, y8__43, y9__44, y11__59, y12__20, y13__21, g_a14__45, g_a15__23, g_a16__24, g_57, (by omega), (by assumption), (by omega), (by omega), hph, h_49, h_31, h_32, hf_58, rfl, hP, hD, hS, lv_sub hl [2] rfl⟩
              · have nc_63 := cv_eq (a := y11__59) (b := y11__5) (by omega) (by omega) c_63
                refine lv_iconst (v := 1) hx hb dX12_readsTable_193 (by decide) ?_
                exact ct_iret hx hb hr hlk rfl hS hP hD (1, y7__42, y8__43, y9__44, y11__59, y12__20, y13__21, g_a14__45, g_a15__23, g_a16__24, g_57) rfl ⟨(show PF y8__43 from (by assumption)), (show y12__20 ≤ 8 from (by first | assumption | omega)), (show y13__21 ≤ 800 from (by first | assumption | omega)), (show Pfd g_a14__45 from (by first | assumption | omega)), (show Pb 9 800 g_a15__23 from (by first | assumption | omega)), (show Pb 9 800 g_a16__24 from (by first | assumption | omega)), (show Pd g_57 from (by first | assumption | omega)), (by exact Or.inl (rfl))⟩ [0, 1, 2, 3, 4, 5, 6] rfl (by decide) trivial (Nat.le_of_ble_eq_true rfl) (Nat.le_of_ble_eq_true rfl) dX12_readsTable_194
            · refine W.eq (g2 := F0 m 138 ls [.int 0]) rfl ?_
              refine lv_if_ne (tgt := 143) hx hb dX12_readsTable_138 (by decide) (fun c_64 => absurd c_64 (by decide)) (fun c_64 => ?_)
              refine lv_iconst (v := 0) hx hb dX12_readsTable_141 (by decide) ?_
              exact ct_iret hx hb hr hlk rfl hS hP hD (0, y7__42, y8__43, y9__44, y11__19, y12__20, y13__21, g_a14__45, g_a15__23, g_a16__24, ga17_34) rfl ⟨(show PF y8__43 from (by assumption)), (show y12__20 ≤ 8 from (by first | assumption | omega)), (show y13__21 ≤ 800 from (by first | assumption | omega)), (show Pfd g_a14__45 from (by first | assumption | omega)), (show Pb 9 800 g_a15__23 from (by first | assumption | omega)), (show Pb 9 800 g_a16__24 from (by first | assumption | omega)), (show Pd ga17_34 from (by first | assumption | omega)), (by exact Or.inr ((rfl)))⟩ [0, 1, 2, 3, 4, 5, 6] rfl (by decide) trivial (Nat.le_of_ble_eq_true rfl) (Nat.le_of_ble_eq_true rfl) dX12_readsTable_142
          · have nc_38 := cv_eq (a := n_13) (b := 0) (by omega) (by omega) c_38
            refine lv_iconst (v := 1) hx hb dX12_readsTable_89 (by decide) ?_
            refine lv_goto (tgt := 94) hx hb dX12_readsTable_90 (by decide) ?_
            refine lv_istore_n (lv' := [(2, .int 1), (1, .int (nI y11__5)), (0, .ref m0)]) hx hb dX12_readsTable_94 rfl hl (by decide) rfl (fun ls hl => ?_)
            refine lv_iload_n hx hb dX12_readsTable_95 rfl (lv_at hl 0 rfl) ?_
            refine lv_if_eq (tgt := 120) hx hb dX12_readsTable_96 (by decide) (fun c_65 => absurd c_65 (by decide)) (fun c_65 => ?_)
            refine lv_aload_n hx hb dX12_readsTable_99 rfl (lv_at hl 2 rfl) ?_
            refine va_get (D := D) (ci := 12) (v := .ref a0) (C := RX12) (T := TX12) (N := 30) hx hb hts inlX12 hown hK hP 0 rfl rfl 0 (by decide) (hts _ mw_187) (fun _ h9 => h9) rfl dX12_readsTable_100 ?_
            refine lv_sipush (v := 21371) hx hb dX12_readsTable_103 (by decide) ?_
            refine va_iald hx hb hK hP 1 0 rfl rfl (i := 21371) (vp_k (by decide)) dX12_readsTable_106 ?_
            obtain ⟨x_66, ex_66⟩ : ∃ y9 : Int32, w 21371 = y9 := ⟨_, rfl⟩
            refine kv (v := .int x_66) (congrArg Value.int ex_66) ?_
            refine lv_iconst (v := 1) hx hb dX12_readsTable_107 (by decide) ?_
            refine lv_icmp_ne (tgt := 120) hx hb dX12_readsTable_108 (by decide) (fun c_67 => ?_) (fun c_67 => ?_)
            · refine lv_iload_n hx hb dX12_readsTable_120 rfl (lv_at hl 0 rfl) ?_
              refine lv_if_eq (tgt := 128) hx hb dX12_readsTable_121 (by decide) (fun c_68 => absurd c_68 (by decide)) (fun c_68 => ?_)
              refine lv_aload_n hx hb dX12_readsTable_124 rfl (lv_at hl 2 rfl) ?_
              refine ct_V (wr := [(a0, .inl (κ 0, 21375, .inl w)), (a5, .inl (κ 0, 800, .inl tp)), (a14, .inl (κ 0, 189, .inl g_a14__22)), (a15, .inl (κ 0, 9, .inl g_a15__23)), (a16, .inl (κ 0, 9, .inl g_a16__24))]) (As := []) (rest := []) hFX hKK hP hD hS hA (s_X12_numbersNames l D κ m0 a0 a1 a2 u3 f4 a5 u6 y7__16 y8__17 y9__18 f10 y11__19 y12__20 y13__21 a14 a15 a16 a17 f18 f19 a20 a21 u22 a23 a24 a25 u26 f27 a28 u29 ga17_34 (by omega) hg34_3) 0 gV_X12_264 hdV_X12_numbersNames ⟨Nat.le_of_ble_eq_true rfl, Nat.le_of_ble_eq_true rfl⟩ rfl rfl (Nat.le_of_ble_eq_true rfl) dX12_readsTable_125 ⟨Nat.le_of_ble_eq_true rfl, Nat.le_of_ble_eq_true rfl⟩ hl.1 [0, 6] [1, 2, 3, 4, 5] rfl rfl (by decide) (by decide) (by decide) 0 12 rfl rfl rfl trivial (fun g_a17__69 H locs hp_70 _ hP hD hS hz_ hk_ => ?_)
              replace hP : va_P D vwCl [(m0, .inr (12, [.ref a0, .ref a1, .ref a2, .int (nI u3), .int f4, .ref a5, .int (nI u6), .int y7__16, .int y8__17, .int y9__18, .int f10, .int (nI y11__19), .int (nI y12__20), .int (nI y13__21), .ref a14, .ref a15, .ref a16, .ref a17, .int f18, .int f19, .ref a20, .ref a21, .int (nI u22), .ref a23, .ref a24, .ref a25, .int (nI u26), .int f27, .ref a28, .int (nI u29)])), (a0, .inl (κ 0, 21375, .inl w)), (a5, .inl (κ 0, 800, .inl tp)), (a14, .inl (κ 0, 189, .inl g_a14__22)), (a15, .inl (κ 0, 9, .inl g_a15__23)), (a16, .inl (κ 0, 9, .inl g_a16__24)), (a17, .inl (κ 0, 7123, .inl g_a17__69))] H := hP.sub [5, 0, 1, 2, 3, 4, 6] rfl
              replace hD : va_D A [(m0, .inr (12, [.ref a0, .ref a1, .ref a2, .int (nI u3), .int f4, .ref a5, .int (nI u6), .int y7__16, .int y8__17, .int y9__18, .int f10, .int (nI y11__19), .int (nI y12__20), .int (nI y13__21), .ref a14, .ref a15, .ref a16, .ref a17, .int f18, .int f19, .ref a20, .ref a21, .int (nI u22), .ref a23, .ref a24, .ref a25, .int (nI u26), .int f27, .ref a28, .int (nI u29)])), (a0, .inl (κ 0, 21375, .inl w)), (a5, .inl (κ 0, 800, .inl tp)), (a14, .inl (κ 0, 189, .inl g_a14__22)), (a15, .inl (κ 0, 9, .inl g_a15__23)), (a16, .inl (κ 0, 9, .inl g_a16__24)), (a17, .inl (κ 0, 7123, .inl g_a17__69))] := hD.sub [5, 0, 1, 2, 3, 4, 6] (by decide) rfl
              replace hp_70 : Pd g_a17__69 ∧ g_a17__69 1 = nI y12__20 ∧ g_a17__69 2 = ga17_34 2 := hp_70
              obtain ⟨h_71, h_72, h_73⟩ := hp_70
              refine W.eq (g2 := F0 m 128 ls []) rfl ?_
              refine lv_aload_n hx hb dX12_readsTable_128 rfl (lv_at hl 2 rfl) ?_
              refine lv_aload_n hx hb dX12_readsTable_129 rfl (lv_at hl 2 rfl) ?_
              refine va_get (D := D) (ci := 12) (v := .ref a17) (C := RX12) (T := TX12) (N := 30) hx hb hts inlX12 hown hK hP 0 rfl rfl 17 (by decide) (hts _ mw_197) (fun _ h9 => h9) rfl dX12_readsTable_130 ?_
              refine lv_iconst (v := 1) hx hb dX12_readsTable_133 (by decide) ?_
              refine va_iald hx hb hK hP 6 0 rfl rfl (i := 1) (vp_k (by decide)) dX12_readsTable_134 ?_
              refine kv (v := .int (nI y12__20)) (congrArg Value.int h_72) ?_
              have hone : 1 ≤ y12__20 := nz_of h_72 h_72 (by omega) (by omega) (by omega)
              refine ct_V (wr := [(a5, .inl (κ 0, 800, .inl tp)), (a15, .inl (κ 0, 9, .inl g_a15__23)), (a17, .inl (κ 0, 7123, .inl g_a17__69))]) (As := [.int (nI y12__20)]) (rest := []) hFX hKK hP hD hS hA (s_X12_fits l D κ m0 a0 a1 a2 u3 f4 a5 u6 y7__16 y8__17 y9__18 f10 y11__19 y12__20 y13__21 a14 a15 a16 a17 f18 f19 a20 a21 u22 a23 a24 a25 u26 f27 a28 u29 w g_a14__22 g_a16__24 y12__20 (by assumption) (by omega) (by omega) h_a0 h_30 h_32 (by omega)) 1 gV_X12_267 hdV_X12_fits ⟨Nat.le_of_ble_eq_true rfl, Nat.le_of_ble_eq_true rfl⟩ rfl rfl (Nat.le_of_ble_eq_true rfl) dX12_readsTable_135 ⟨Nat.le_of_ble_eq_true rfl, Nat.le_of_ble_eq_true rfl⟩ hl.1 [0, 1, 3, 5] [2, 4, 6] rfl rfl (by decide) (by decide) (by decide) 0 12 rfl rfl rfl trivial (fun u_79 H locs hp_80 _ hP hD hS hz_ hk_ => ?_)
              obtain ⟨r__74, y7__75, y8__76, y9__77, g_a14__78⟩ := u_79
              replace hP : va_P D vwCl [(m0, .inr (12, [.ref a0, .ref a1, .ref a2, .int (nI u3), .int f4, .ref a5, .int (nI u6), .int y7__75, .int y8__76, .int y9__77, .int f10, .int (nI y11__19), .int (nI y12__20), .int (nI y13__21), .ref a14, .ref a15, .ref a16, .ref a17, .int f18, .int f19, .ref a20, .ref a21, .int (nI u22), .ref a23, .ref a24, .ref a25, .int (nI u26), .int f27, .ref a28, .int (nI u29)])), (a0, .inl (κ 0, 21375, .inl w)), (a5, .inl (κ 0, 800, .inl tp)), (a14, .inl (κ 0, 189, .inl g_a14__78)), (a15, .inl (κ 0, 9, .inl g_a15__23)), (a16, .inl (κ 0, 9, .inl g_a16__24)), (a17, .inl (κ 0, 7123, .inl g_a17__69))] H := hP.sub [3, 4, 0, 5, 1, 6, 2] rfl
              replace hD : va_D A [(m0, .inr (12, [.ref a0, .ref a1, .ref a2, .int (nI u3), .int f4, .ref a5, .int (nI u6), .int y7__75, .int y8__76, .int y9__77, .int f10, .int (nI y11__19), .int (nI y12__20), .int (nI y13__21), .ref a14, .ref a15, .ref a16, .ref a17, .int f18, .int f19, .ref a20, .ref a21, .int (nI u22), .ref a23, .ref a24, .ref a25, .int (nI u26), .int f27, .ref a28, .int (nI u29)])), (a0, .inl (κ 0, 21375, .inl w)), (a5, .inl (κ 0, 800, .inl tp)), (a14, .inl (κ 0, 189, .inl g_a14__78)), (a15, .inl (κ 0, 9, .inl g_a15__23)), (a16, .inl (κ 0, 9, .inl g_a16__24)), (a17, .inl (κ 0, 7123, .inl g_a17__69))] := hD.sub [3, 4, 0, 5, 1, 6, 2] (by decide) rfl
              replace hp_80 : PF y8__76 ∧ Pfd g_a14__78 ∧ ((r__74 = 1) ∨ (r__74 = 0)) := hp_80
              obtain ⟨h_81, h_82, ha_83⟩ := hp_80
              rcases ha_83 with rfl | rfl
              · refine W.eq (g2 := F0 m 138 ls [.int 1]) rfl ?_
                refine lv_if_ne (tgt := 143) hx hb dX12_readsTable_138 (by decide) (fun c_84 => ?_) (fun c_84 => absurd c_84 (by decide))
                refine lv_aload_n hx hb dX12_readsTable_143 rfl (lv_at hl 2 rfl) ?_
                refine lv_aload_n hx hb dX12_readsTable_144 rfl (lv_at hl 2 rfl) ?_
                refine va_get (D := D) (ci := 12) (v := .ref a17) (C := RX12) (T := TX12) (N := 30) hx hb hts inlX12 hown hK hP 0 rfl rfl 17 (by decide) (hts _ mw_197) (fun _ h9 => h9) rfl dX12_readsTable_145 ?_
                refine lv_sipush (v := 403) hx hb dX12_readsTable_148 (by decide) ?_
                refine lv_sipush (v := 168) hx hb dX12_readsTable_151 (by decide) ?_
                refine lv_aload_n hx hb dX12_readsTable_154 rfl (lv_at hl 2 rfl) ?_
                refine va_get (D := D) (ci := 12) (v := .ref a17) (C := RX12) (T := TX12) (N := 30) hx hb hts inlX12 hown hK hP 0 rfl rfl 17 (by decide) (hts _ mw_197) (fun _ h9 => h9) rfl dX12_readsTable_155 ?_
                refine lv_iconst (v := 2) hx hb dX12_readsTable_158 (by decide) ?_
                refine va_iald hx hb hK hP 6 0 rfl rfl (i := 2) (vp_k (by decide)) dX12_readsTable_159 ?_
                obtain ⟨n_85, hn_85, en_85⟩ : ∃ n9 : Nat, n9 ≤ 40 ∧ g_a17__69 2 = nI n9 := id (h_71 _ _ (by omega) (mMANY (t := 0) (by omega) (by omega)))
                refine kv (v := .int (nI n_85)) (congrArg Value.int en_85) ?_
                have hm40 : n_85 < 40 := ph_lt hl34_4 en_13 (by omega) h_73 en_85 (by omega)
                refine lv_imul hx hb dX12_readsTable_160 ?_
                refine ki (v := (nI (168 * n_85))) (pk_mul 168 n_85) ?_
                refine lv_iadd hx hb dX12_readsTable_161 ?_
                refine ki (v := (nI (403 + (168 * n_85)))) (nI_add 403 (168 * n_85)) ?_
                refine lv_aload_n hx hb dX12_readsTable_162 rfl (lv_at hl 2 rfl) ?_
                refine va_get (D := D) (ci := 12) (v := .ref a17) (C := RX12) (T := TX12) (N := 30) hx hb hts inlX12 hown hK hP 0 rfl rfl 17 (by decide) (hts _ mw_197) (fun _ h9 => h9) rfl dX12_readsTable_163 ?_
                refine lv_iconst (v := 1) hx hb dX12_readsTable_166 (by decide) ?_
                refine va_iald hx hb hK hP 6 0 rfl rfl (i := 1) (vp_k (by decide)) dX12_readsTable_167 ?_
                refine kv (v := .int (nI y12__20)) (congrArg Value.int (h_72)) ?_
                refine ct_V (wr := [(a0, .inl (κ 0, 21375, .inl w)), (a5, .inl (κ 0, 800, .inl tp)), (a15, .inl (κ 0, 9, .inl g_a15__23)), (a16, .inl (κ 0, 9, .inl g_a16__24))]) (As := [.ref a17, .int (nI (403 + (168 * n_85))), .int (nI y12__20)]) (rest := []) hFX hKK hP hD hS hA (s_X12_putsRow_d l D κ m0 a0 a1 a2 u3 f4 a5 u6 y7__75 y8__76 y9__77 f10 y11__19 y12__20 y13__21 a14 a15 a16 a17 f18 f19 a20 a21 u22 a23 a24 a25 u26 f27 a28 u29 g_a14__78 g_a17__69 (403 + (168 * n_85)) y12__20 h_82 h_71 (by omega) (by omega) (by omega) (by omega)) 3 gV_X12_270 hdV_X12_putsRow ⟨Nat.le_of_ble_eq_true rfl, Nat.le_of_ble_eq_true rfl⟩ rfl rfl (Nat.le_of_ble_eq_true rfl) dX12_readsTable_168 ⟨Nat.le_of_ble_eq_true rfl, Nat.le_of_ble_eq_true rfl⟩ hl.1 [0, 3, 6] [1, 2, 4, 5] rfl rfl (by decide) (by decide) (by decide) 0 12 rfl rfl rfl trivial (fun g_a17__86 H locs hp_87 _ hP hD hS hz_ hk_ => ?_)
                replace hP : va_P D vwCl [(m0, .inr (12, [.ref a0, .ref a1, .ref a2, .int (nI u3), .int f4, .ref a5, .int (nI u6), .int y7__75, .int y8__76, .int y9__77, .int f10, .int (nI y11__19), .int (nI y12__20), .int (nI y13__21), .ref a14, .ref a15, .ref a16, .ref a17, .int f18, .int f19, .ref a20, .ref a21, .int (nI u22), .ref a23, .ref a24, .ref a25, .int (nI u26), .int f27, .ref a28, .int (nI u29)])), (a0, .inl (κ 0, 21375, .inl w)), (a5, .inl (κ 0, 800, .inl tp)), (a14, .inl (κ 0, 189, .inl g_a14__78)), (a15, .inl (κ 0, 9, .inl g_a15__23)), (a16, .inl (κ 0, 9, .inl g_a16__24)), (a17, .inl (κ 0, 7123, .inl g_a17__86))] H := hP.sub [4, 0, 1, 5, 2, 3, 6] rfl
                replace hD : va_D A [(m0, .inr (12, [.ref a0, .ref a1, .ref a2, .int (nI u3), .int f4, .ref a5, .int (nI u6), .int y7__75, .int y8__76, .int y9__77, .int f10, .int (nI y11__19), .int (nI y12__20), .int (nI y13__21), .ref a14, .ref a15, .ref a16, .ref a17, .int f18, .int f19, .ref a20, .ref a21, .int (nI u22), .ref a23, .ref a24, .ref a25, .int (nI u26), .int f27, .ref a28, .int (nI u29)])), (a0, .inl (κ 0, 21375, .inl w)), (a5, .inl (κ 0, 800, .inl tp)), (a14, .inl (κ 0, 189, .inl g_a14__78)), (a15, .inl (κ 0, 9, .inl g_a15__23)), (a16, .inl (κ 0, 9, .inl g_a16__24)), (a17, .inl (κ 0, 7123, .inl g_a17__86))] := hD.sub [4, 0, 1, 5, 2, 3, 6] (by decide) rfl
                replace hp_87 : Pd g_a17__86 ∧ (∀ i : Nat, i < 4 → g_a17__86 i = g_a17__69 i) := hp_87
                obtain ⟨h_88, h_89⟩ := hp_87
                refine W.eq (g2 := F0 m 171 ls []) rfl ?_
                have hq2 : g_a17__86 2 = nI n_85 := (h_89 2 (by decide)).trans en_85
                refine lv_aload_n hx hb dX12_readsTable_171 rfl (lv_at hl 2 rfl) ?_
                refine va_get (D := D) (ci := 12) (v := .ref a17) (C := RX12) (T := TX12) (N := 30) hx hb hts inlX12 hown hK hP 0 rfl rfl 17 (by decide) (hts _ mw_197) (fun _ h9 => h9) rfl dX12_readsTable_172 ?_
                refine lv_iconst (v := 2) hx hb dX12_readsTable_175 (by decide) ?_
                refine lv_dup2_11 hx hb dX12_readsTable_176 rfl rfl ?_
                refine va_iald hx hb hK hP 6 0 rfl rfl (i := 2) (vp_k (by decide)) dX12_readsTable_177 ?_
                refine kv (v := .int (nI n_85)) (congrArg Value.int hq2) ?_
                refine lv_iconst (v := 1) hx hb dX12_readsTable_178 (by decide) ?_
                refine lv_iadd hx hb dX12_readsTable_179 ?_
                refine ki (v := (nI (n_85 + 1))) (nI_add n_85 1) ?_
                refine va_iast hx hb hK hP hD hS 6 0 rfl rfl (i := 2) (x := nI (n_85 + 1)) (vp_k (by decide)) dX12_readsTable_180 (fun H locs hP hD hS => ?_)
                have hP : va_P D vwCl [(m0, .inr (12, [.ref a0, .ref a1, .ref a2, .int (nI u3), .int f4, .ref a5, .int (nI u6), .int y7__75, .int y8__76, .int y9__77, .int f10, .int (nI y11__19), .int (nI y12__20), .int (nI y13__21), .ref a14, .ref a15, .ref a16, .ref a17, .int f18, .int f19, .ref a20, .ref a21, .int (nI u22), .ref a23, .ref a24, .ref a25, .int (nI u26), .int f27, .ref a28, .int (nI u29)])), (a0, .inl (κ 0, 21375, .inl w)), (a5, .inl (κ 0, 800, .inl tp)), (a14, .inl (κ 0, 189, .inl g_a14__78)), (a15, .inl (κ 0, 9, .inl g_a15__23)), (a16, .inl (κ 0, 9, .inl g_a16__24)), (a17, .inl (κ 0, 7123, .inl (upd g_a17__86 2 (nI (n_85 + 1)))))] H := hP
                have hD : va_D A [(m0, .inr (12, [.ref a0, .ref a1, .ref a2, .int (nI u3), .int f4, .ref a5, .int (nI u6), .int y7__75, .int y8__76, .int y9__77, .int f10, .int (nI y11__19), .int (nI y12__20), .int (nI y13__21), .ref a14, .ref a15, .ref a16, .ref a17, .int f18, .int f19, .ref a20, .ref a21, .int (nI u22), .ref a23, .ref a24, .ref a25, .int (nI u26), .int f27, .ref a28, .int (nI u29)])), (a0, .inl (κ 0, 21375, .inl w)), (a5, .inl (κ 0, 800, .inl tp)), (a14, .inl (κ 0, 189, .inl g_a14__78)), (a15, .inl (κ 0, 9, .inl g_a15__23)), (a16, .inl (κ 0, 9, .inl g_a16__24)), (a17, .inl (κ 0, 7123, .inl (upd g_a17__86 2 (nI (n_85 + 1)))))] := hD
                have hf_91 : Pd (upd g_a17__86 2 (nI (n_85 + 1))) := (PL_upd h_88 (mMANY (t := 0) (by omega) (by omega)) ⟨n_85 + 1, by omega, rfl⟩)
                have hph : (upd g_a17__86 2 (nI (n_85 + 1))) 1 = nI 0 → (upd g_a17__86 2 (nI (n_85 + 1))) 2 = nI 0 := (ph_no ((pk_un (by decide)).trans ((h_89 1 (by decide)).trans h_72)) (by omega) (by omega))
                generalize upd g_a17__86 2 (nI (n_85 + 1)) = g_90 at hP hD hf_91 hph
                refine lv_aload_n hx hb dX12_readsTable_181 rfl (lv_at hl 2 rfl) ?_
                refine ct_V (wr := [(a0, .inl (κ 0, 21375, .inl w)), (a5, .inl (κ 0, 800, .inl tp)), (a14, .inl (κ 0, 189, .inl g_a14__78)), (a15, .inl (κ 0, 9, .inl g_a15__23)), (a16, .inl (κ 0, 9, .inl g_a16__24)), (a17, .inl (κ 0, 7123, .inl g_90))]) (As := []) (rest := []) hFX hKK hP hD hS hA (s_X12_goesOn l D κ m0 a0 a1 a2 u3 f4 a5 u6 y7__75 y8__76 y9__77 f10 y11__19 y12__20 y13__21 a14 a15 a16 a17 f18 f19 a20 a21 u22 a23 a24 a25 u26 f27 a28 u29 (by omega) (by omega)) 0 gV_X12_274 hdV_X12_goesOn ⟨Nat.le_of_ble_eq_true rfl, Nat.le_of_ble_eq_true rfl⟩ rfl rfl (Nat.le_of_ble_eq_true rfl) dX12_readsTable_182 ⟨Nat.le_of_ble_eq_true rfl, Nat.le_of_ble_eq_true rfl⟩ hl.1 [0] [1, 2, 3, 4, 5, 6] rfl rfl (by decide) (by decide) (by decide) 0 12 rfl rfl rfl trivial (fun y11__92 H locs hp_93 _ hP hD hS hz_ hk_ => ?_)
                replace hP : va_P D vwCl [(m0, .inr (12, [.ref a0, .ref a1, .ref a2, .int (nI u3), .int f4, .ref a5, .int (nI u6), .int y7__75, .int y8__76, .int y9__77, .int f10, .int (nI y11__92), .int (nI y12__20), .int (nI y13__21), .ref a14, .ref a15, .ref a16, .ref a17, .int f18, .int f19, .ref a20, .ref a21, .int (nI u22), .ref a23, .ref a24, .ref a25, .int (nI u26), .int f27, .ref a28, .int (nI u29)])), (a0, .inl (κ 0, 21375, .inl w)), (a5, .inl (κ 0, 800, .inl tp)), (a14, .inl (κ 0, 189, .inl g_a14__78)), (a15, .inl (κ 0, 9, .inl g_a15__23)), (a16, .inl (κ 0, 9, .inl g_a16__24)), (a17, .inl (κ 0, 7123, .inl g_90))] H := hP.sub [6, 0, 1, 2, 3, 4, 5] rfl
                replace hD : va_D A [(m0, .inr (12, [.ref a0, .ref a1, .ref a2, .int (nI u3), .int f4, .ref a5, .int (nI u6), .int y7__75, .int y8__76, .int y9__77, .int f10, .int (nI y11__92), .int (nI y12__20), .int (nI y13__21), .ref a14, .ref a15, .ref a16, .ref a17, .int f18, .int f19, .ref a20, .ref a21, .int (nI u22), .ref a23, .ref a24, .ref a25, .int (nI u26), .int f27, .ref a28, .int (nI u29)])), (a0, .inl (κ 0, 21375, .inl w)), (a5, .inl (κ 0, 800, .inl tp)), (a14, .inl (κ 0, 189, .inl g_a14__78)), (a15, .inl (κ 0, 9, .inl g_a15__23)), (a16, .inl (κ 0, 9, .inl g_a16__24)), (a17, .inl (κ 0, 7123, .inl g_90))] := hD.sub [6, 0, 1, 2, 3, 4, 5] (by decide) rfl
                replace hp_93 : y11__19 ≤ y11__92 ∧ y11__92 ≤ u6 := hp_93
                obtain ⟨h_94, h_95⟩ := hp_93
                refine W.eq (g2 := F0 m 185 ls []) rfl ?_
                refine lv_aload_n hx hb dX12_readsTable_185 rfl (lv_at hl 2 rfl) ?_
                refine va_get (D := D) (ci := 12) (v := .int (nI y11__92)) (C := RX12) (T := TX12) (N := 30) hx hb hts inlX12 hown hK hP 0 rfl rfl 11 (by decide) (hts _ mw_423) (fun _ h9 => h9) rfl dX12_readsTable_186 ?_
                refine lv_iload_n hx hb dX12_readsTable_189 rfl (lv_at hl 1 rfl) ?_
                refine lv_icmp_ne (tgt := 195) hx hb dX12_readsTable_190 (by decide) (fun c_96 => ?_) (fun c_96 => ?_)
                · have nc_96 := cv_ne (a := y11__92) (b := y11__5) (by omega) (by omega) c_96
                  refine lv_goto (tgt := 34) hx hb dX12_readsTable_195 (by decide) ?_
                  exact ih34 _ _ _ _ (by omega) ⟨y7__75, y8__76, y9__77, y11__92, y12__20, y13__21, g_a14__78, g_a15__23, g_a16__24, g_90, (by omega), (by assumption), (by omega), (by omega), hph, h_82, h_31, h_32, hf_91, rfl, hP, hD, hS, lv_sub hl [2] rfl⟩
                · have nc_96 := cv_eq (a := y11__92) (b := y11__5) (by omega) (by omega) c_96
                  refine lv_iconst (v := 1) hx hb dX12_readsTable_193 (by decide) ?_
                  exact ct_iret hx hb hr hlk rfl hS hP hD (1, y7__75, y8__76, y9__77, y11__92, y12__20, y13__21, g_a14__78, g_a15__23, g_a16__24, g_90) rfl ⟨(show PF y8__76 from (by assumption)), (show y12__20 ≤ 8 from (by first | assumption | omega)), (show y13__21 ≤ 800 from (by first | assumption | omega)), (show Pfd g_a14__78 from (by first | assumption | omega)), (show Pb 9 800 g_a15__23 from (by first | assumption | omega)), (show Pb 9 800 g_a16__24 from (by first | assumption | omega)), (show Pd g_90 from (by first | assumption | omega)), (by exact Or.inl (rfl))⟩ [0, 1, 2, 3, 4, 5, 6] rfl (by decide) trivial (Nat.le_of_ble_eq_true rfl) (Nat.le_of_ble_eq_true rfl) dX12_readsTable_194
              · refine W.eq (g2 := F0 m 138 ls [.int 0]) rfl ?_
                refine lv_if_ne (tgt := 143) hx hb dX12_readsTable_138 (by decide) (fun c_97 => absurd c_97 (by decide)) (fun c_97 => ?_)
                refine lv_iconst (v := 0) hx hb dX12_readsTable_141 (by decide) ?_
                exact ct_iret hx hb hr hlk rfl hS hP hD (0, y7__75, y8__76, y9__77, y11__19, y12__20, y13__21, g_a14__78, g_a15__23, g_a16__24, g_a17__69) rfl ⟨(show PF y8__76 from (by assumption)), (show y12__20 ≤ 8 from (by first | assumption | omega)), (show y13__21 ≤ 800 from (by first | assumption | omega)), (show Pfd g_a14__78 from (by first | assumption | omega)), (show Pb 9 800 g_a15__23 from (by first | assumption | omega)), (show Pb 9 800 g_a16__24 from (by first | assumption | omega)), (show Pd g_a17__69 from (by first | assumption | omega)), (by exact Or.inr ((rfl)))⟩ [0, 1, 2, 3, 4, 5, 6] rfl (by decide) trivial (Nat.le_of_ble_eq_true rfl) (Nat.le_of_ble_eq_true rfl) dX12_readsTable_142
            · refine lv_aload_n hx hb dX12_readsTable_111 rfl (lv_at hl 2 rfl) ?_
              refine ct_V (wr := [(a0, .inl (κ 0, 21375, .inl w)), (a5, .inl (κ 0, 800, .inl tp)), (a16, .inl (κ 0, 9, .inl g_a16__24))]) (As := []) (rest := []) hFX hKK hP hD hS hA (s_X12_readsNames l D κ m0 a0 a1 a2 u3 f4 a5 u6 y7__16 y8__17 y9__18 f10 y11__19 y12__20 y13__21 a14 a15 a16 a17 f18 f19 a20 a21 u22 a23 a24 a25 u26 f27 a28 u29 g_a14__22 g_a15__23 ga17_34 (by assumption) (by omega) h_30 h_31 hg34_3) 0 gV_X12_261 hdV_X12_readsNames ⟨Nat.le_of_ble_eq_true rfl, Nat.le_of_ble_eq_true rfl⟩ rfl rfl (Nat.le_of_ble_eq_true rfl) dX12_readsTable_112 ⟨Nat.le_of_ble_eq_true rfl, Nat.le_of_ble_eq_true rfl⟩ hl.1 [0, 3, 4, 6] [1, 2, 5] rfl rfl (by decide) (by decide) (by decide) 0 12 rfl rfl rfl trivial (fun u_103 H locs hp_104 _ hP hD hS hz_ hk_ => ?_)
              obtain ⟨r__98, y7__99, y8__100, y9__101, g_a17__102⟩ := u_103
              replace hP : va_P D vwCl [(m0, .inr (12, [.ref a0, .ref a1, .ref a2, .int (nI u3), .int f4, .ref a5, .int (nI u6), .int y7__99, .int y8__100, .int y9__101, .int f10, .int (nI y11__19), .int (nI y12__20), .int (nI y13__21), .ref a14, .ref a15, .ref a16, .ref a17, .int f18, .int f19, .ref a20, .ref a21, .int (nI u22), .ref a23, .ref a24, .ref a25, .int (nI u26), .int f27, .ref a28, .int (nI u29)])), (a0, .inl (κ 0, 21375, .inl w)), (a5, .inl (κ 0, 800, .inl tp)), (a14, .inl (κ 0, 189, .inl g_a14__22)), (a15, .inl (κ 0, 9, .inl g_a15__23)), (a16, .inl (κ 0, 9, .inl g_a16__24)), (a17, .inl (κ 0, 7123, .inl g_a17__102))] H := hP.sub [3, 0, 1, 4, 5, 2, 6] rfl
              replace hD : va_D A [(m0, .inr (12, [.ref a0, .ref a1, .ref a2, .int (nI u3), .int f4, .ref a5, .int (nI u6), .int y7__99, .int y8__100, .int y9__101, .int f10, .int (nI y11__19), .int (nI y12__20), .int (nI y13__21), .ref a14, .ref a15, .ref a16, .ref a17, .int f18, .int f19, .ref a20, .ref a21, .int (nI u22), .ref a23, .ref a24, .ref a25, .int (nI u26), .int f27, .ref a28, .int (nI u29)])), (a0, .inl (κ 0, 21375, .inl w)), (a5, .inl (κ 0, 800, .inl tp)), (a14, .inl (κ 0, 189, .inl g_a14__22)), (a15, .inl (κ 0, 9, .inl g_a15__23)), (a16, .inl (κ 0, 9, .inl g_a16__24)), (a17, .inl (κ 0, 7123, .inl g_a17__102))] := hD.sub [3, 0, 1, 4, 5, 2, 6] (by decide) rfl
              replace hp_104 : PF y8__100 ∧ Pd g_a17__102 ∧ ((r__98 = 1 ∧ g_a17__102 1 = nI y12__20 ∧ g_a17__102 2 = ga17_34 2) ∨ (r__98 = 0)) := hp_104
              obtain ⟨h_105, h_106, ha_107⟩ := hp_104
              rcases ha_107 with ⟨rfl, a_108, a_109⟩ | rfl
              · refine W.eq (g2 := F0 m 115 ls [.int 1]) rfl ?_
                refine lv_if_ne (tgt := 181) hx hb dX12_readsTable_115 (by decide) (fun c_110 => ?_) (fun c_110 => absurd c_110 (by decide))
                have hph : g_a17__102 1 = nI 0 → g_a17__102 2 = nI 0 := ph_no a_108 (by omega) (by omega)
                refine lv_aload_n hx hb dX12_readsTable_181 rfl (lv_at hl 2 rfl) ?_
                refine ct_V (wr := [(a0, .inl (κ 0, 21375, .inl w)), (a5, .inl (κ 0, 800, .inl tp)), (a14, .inl (κ 0, 189, .inl g_a14__22)), (a15, .inl (κ 0, 9, .inl g_a15__23)), (a16, .inl (κ 0, 9, .inl g_a16__24)), (a17, .inl (κ 0, 7123, .inl g_a17__102))]) (As := []) (rest := []) hFX hKK hP hD hS hA (s_X12_goesOn l D κ m0 a0 a1 a2 u3 f4 a5 u6 y7__99 y8__100 y9__101 f10 y11__19 y12__20 y13__21 a14 a15 a16 a17 f18 f19 a20 a21 u22 a23 a24 a25 u26 f27 a28 u29 (by omega) (by omega)) 0 gV_X12_274 hdV_X12_goesOn ⟨Nat.le_of_ble_eq_true rfl, Nat.le_of_ble_eq_true rfl⟩ rfl rfl (Nat.le_of_ble_eq_true rfl) dX12_readsTable_182 ⟨Nat.le_of_ble_eq_true rfl, Nat.le_of_ble_eq_true rfl⟩ hl.1 [0] [1, 2, 3, 4, 5, 6] rfl rfl (by decide) (by decide) (by decide) 0 12 rfl rfl rfl trivial (fun y11__111 H locs hp_112 _ hP hD hS hz_ hk_ => ?_)
                replace hP : va_P D vwCl [(m0, .inr (12, [.ref a0, .ref a1, .ref a2, .int (nI u3), .int f4, .ref a5, .int (nI u6), .int y7__99, .int y8__100, .int y9__101, .int f10, .int (nI y11__111), .int (nI y12__20), .int (nI y13__21), .ref a14, .ref a15, .ref a16, .ref a17, .int f18, .int f19, .ref a20, .ref a21, .int (nI u22), .ref a23, .ref a24, .ref a25, .int (nI u26), .int f27, .ref a28, .int (nI u29)])), (a0, .inl (κ 0, 21375, .inl w)), (a5, .inl (κ 0, 800, .inl tp)), (a14, .inl (κ 0, 189, .inl g_a14__22)), (a15, .inl (κ 0, 9, .inl g_a15__23)), (a16, .inl (κ 0, 9, .inl g_a16__24)), (a17, .inl (κ 0, 7123, .inl g_a17__102))] H := hP.sub [6, 0, 1, 2, 3, 4, 5] rfl
                replace hD : va_D A [(m0, .inr (12, [.ref a0, .ref a1, .ref a2, .int (nI u3), .int f4, .ref a5, .int (nI u6), .int y7__99, .int y8__100, .int y9__101, .int f10, .int (nI y11__111), .int (nI y12__20), .int (nI y13__21), .ref a14, .ref a15, .ref a16, .ref a17, .int f18, .int f19, .ref a20, .ref a21, .int (nI u22), .ref a23, .ref a24, .ref a25, .int (nI u26), .int f27, .ref a28, .int (nI u29)])), (a0, .inl (κ 0, 21375, .inl w)), (a5, .inl (κ 0, 800, .inl tp)), (a14, .inl (κ 0, 189, .inl g_a14__22)), (a15, .inl (κ 0, 9, .inl g_a15__23)), (a16, .inl (κ 0, 9, .inl g_a16__24)), (a17, .inl (κ 0, 7123, .inl g_a17__102))] := hD.sub [6, 0, 1, 2, 3, 4, 5] (by decide) rfl
                replace hp_112 : y11__19 ≤ y11__111 ∧ y11__111 ≤ u6 := hp_112
                obtain ⟨h_113, h_114⟩ := hp_112
                refine W.eq (g2 := F0 m 185 ls []) rfl ?_
                refine lv_aload_n hx hb dX12_readsTable_185 rfl (lv_at hl 2 rfl) ?_
                refine va_get (D := D) (ci := 12) (v := .int (nI y11__111)) (C := RX12) (T := TX12) (N := 30) hx hb hts inlX12 hown hK hP 0 rfl rfl 11 (by decide) (hts _ mw_423) (fun _ h9 => h9) rfl dX12_readsTable_186 ?_
                refine lv_iload_n hx hb dX12_readsTable_189 rfl (lv_at hl 1 rfl) ?_
                refine lv_icmp_ne (tgt := 195) hx hb dX12_readsTable_190 (by decide) (fun c_115 => ?_) (fun c_115 => ?_)
                · have nc_115 := cv_ne (a := y11__111) (b := y11__5) (by omega) (by omega) c_115
                  refine lv_goto (tgt := 34) hx hb dX12_readsTable_195 (by decide) ?_
                  exact ih34 _ _ _ _ (by omega) ⟨y7__99, y8__100, y9__101, y11__111, y12__20, y13__21, g_a14__22, g_a15__23, g_a16__24, g_a17__102, (by omega), (by assumption), (by omega), (by omega), hph, h_30, h_31, h_32, h_106, rfl, hP, hD, hS, lv_sub hl [2] rfl⟩
                · have nc_115 := cv_eq (a := y11__111) (b := y11__5) (by omega) (by omega) c_115
                  refine lv_iconst (v := 1) hx hb dX12_readsTable_193 (by decide) ?_
                  exact ct_iret hx hb hr hlk rfl hS hP hD (1, y7__99, y8__100, y9__101, y11__111, y12__20, y13__21, g_a14__22, g_a15__23, g_a16__24, g_a17__102) rfl ⟨(show PF y8__100 from (by assumption)), (show y12__20 ≤ 8 from (by first | assumption | omega)), (show y13__21 ≤ 800 from (by first | assumption | omega)), (show Pfd g_a14__22 from (by first | assumption | omega)), (show Pb 9 800 g_a15__23 from (by first | assumption | omega)), (show Pb 9 800 g_a16__24 from (by first | assumption | omega)), (show Pd g_a17__102 from (by first | assumption | omega)), (by exact Or.inl (rfl))⟩ [0, 1, 2, 3, 4, 5, 6] rfl (by decide) trivial (Nat.le_of_ble_eq_true rfl) (Nat.le_of_ble_eq_true rfl) dX12_readsTable_194
              · refine W.eq (g2 := F0 m 115 ls [.int 0]) rfl ?_
                refine lv_if_ne (tgt := 181) hx hb dX12_readsTable_115 (by decide) (fun c_116 => absurd c_116 (by decide)) (fun c_116 => ?_)
                refine lv_iconst (v := 0) hx hb dX12_readsTable_118 (by decide) ?_
                exact ct_iret hx hb hr hlk rfl hS hP hD (0, y7__99, y8__100, y9__101, y11__19, y12__20, y13__21, g_a14__22, g_a15__23, g_a16__24, g_a17__102) rfl ⟨(show PF y8__100 from (by assumption)), (show y12__20 ≤ 8 from (by first | assumption | omega)), (show y13__21 ≤ 800 from (by first | assumption | omega)), (show Pfd g_a14__22 from (by first | assumption | omega)), (show Pb 9 800 g_a15__23 from (by first | assumption | omega)), (show Pb 9 800 g_a16__24 from (by first | assumption | omega)), (show Pd g_a17__102 from (by first | assumption | omega)), (by exact Or.inr ((rfl)))⟩ [0, 1, 2, 3, 4, 5, 6] rfl (by decide) trivial (Nat.le_of_ble_eq_true rfl) (Nat.le_of_ble_eq_true rfl) dX12_readsTable_119
        · refine W.eq (g2 := F0 m 75 ls [.int 0]) rfl ?_
          refine lv_if_ne (tgt := 80) hx hb dX12_readsTable_75 (by decide) (fun c_117 => absurd c_117 (by decide)) (fun c_117 => ?_)
          refine lv_iconst (v := 0) hx hb dX12_readsTable_78 (by decide) ?_
          exact ct_iret hx hb hr hlk rfl hS hP hD (0, y7__16, y8__17, y9__18, y11__19, y12__20, y13__21, g_a14__22, g_a15__23, g_a16__24, ga17_34) rfl ⟨(show PF y8__17 from (by assumption)), (show y12__20 ≤ 8 from (by first | assumption | omega)), (show y13__21 ≤ 800 from (by first | assumption | omega)), (show Pfd g_a14__22 from (by first | assumption | omega)), (show Pb 9 800 g_a15__23 from (by first | assumption | omega)), (show Pb 9 800 g_a16__24 from (by first | assumption | omega)), (show Pd ga17_34 from (by first | assumption | omega)), (by exact Or.inr ((rfl)))⟩ [0, 1, 2, 3, 4, 5, 6] rfl (by decide) trivial (Nat.le_of_ble_eq_true rfl) (Nat.le_of_ble_eq_true rfl) dX12_readsTable_79
      · have nc_14 := cv_nle (a := n_13) (b := 0) (by omega) (by omega) c_14
        refine lv_aload_n hx hb dX12_readsTable_55 rfl (lv_at hl 1 rfl) ?_
        refine va_get (D := D) (ci := 12) (v := .ref a17) (C := RX12) (T := TX12) (N := 30) hx hb hts inlX12 hown hK hP 0 rfl rfl 17 (by decide) (hts _ mw_197) (fun _ h9 => h9) rfl dX12_readsTable_56 ?_
        refine lv_iconst (v := 2) hx hb dX12_readsTable_59 (by decide) ?_
        refine va_iald hx hb hK hP 6 0 rfl rfl (i := 2) (vp_k (by decide)) dX12_readsTable_60 ?_
        obtain ⟨n_118, hn_118, en_118⟩ : ∃ n9 : Nat, n9 ≤ 40 ∧ ga17_34 2 = nI n9 := id (hg34_3 _ _ (by omega) (mMANY (t := 0) (by omega) (by omega)))
        refine kv (v := .int (nI n_118)) (congrArg Value.int en_118) ?_
        refine lv_bipush (v := 40) hx hb dX12_readsTable_61 (by decide) ?_
        refine lv_icmp_ne (tgt := 71) hx hb dX12_readsTable_63 (by decide) (fun c_119 => ?_) (fun c_119 => ?_)
        · have nc_119 := cv_ne (a := n_118) (b := 40) (by omega) (by omega) c_119
          refine lv_aload_n hx hb dX12_readsTable_71 rfl (lv_at hl 1 rfl) ?_
          refine ct_V (wr := [(a17, .inl (κ 0, 7123, .inl ga17_34))]) (As := []) (rest := []) hFX hKK hP hD hS hA (s_X12_readsLine l D κ m0 a0 a1 a2 u3 f4 a5 u6 v7_34 v8_34 v9_34 f10 y11__5 v12_34 v13_34 a14 a15 a16 a17 f18 f19 a20 a21 u22 a23 a24 a25 u26 f27 a28 u29 w tp ga14_34 ga15_34 ga16_34 (by omega) (by assumption) (by omega) h_a0 hg34_0 hg34_1 hg34_2 (by omega)) 0 gV_X12_258 hdV_X12_readsLine ⟨Nat.le_of_ble_eq_true rfl, Nat.le_of_ble_eq_true rfl⟩ rfl rfl (Nat.le_of_ble_eq_true rfl) dX12_readsTable_72 ⟨Nat.le_of_ble_eq_true rfl, Nat.le_of_ble_eq_true rfl⟩ hl.1 [0, 1, 2, 3, 4, 5] [6] rfl rfl (by decide) (by decide) (by decide) 0 12 rfl rfl rfl trivial (fun u_130 H locs hp_131 _ hP hD hS hz_ hk_ => ?_)
          obtain ⟨r__120, y7__121, y8__122, y9__123, y11__124, y12__125, y13__126, g_a14__127, g_a15__128, g_a16__129⟩ := u_130
          replace hP : va_P D vwCl [(m0, .inr (12, [.ref a0, .ref a1, .ref a2, .int (nI u3), .int f4, .ref a5, .int (nI u6), .int y7__121, .int y8__122, .int y9__123, .int f10, .int (nI y11__124), .int (nI y12__125), .int (nI y13__126), .ref a14, .ref a15, .ref a16, .ref a17, .int f18, .int f19, .ref a20, .ref a21, .int (nI u22), .ref a23, .ref a24, .ref a25, .int (nI u26), .int f27, .ref a28, .int (nI u29)])), (a0, .inl (κ 0, 21375, .inl w)), (a5, .inl (κ 0, 800, .inl tp)), (a14, .inl (κ 0, 189, .inl g_a14__127)), (a15, .inl (κ 0, 9, .inl g_a15__128)), (a16, .inl (κ 0, 9, .inl g_a16__129)), (a17, .inl (κ 0, 7123, .inl ga17_34))] H := hP.sub [1, 2, 3, 4, 5, 6, 0] rfl
          replace hD : va_D A [(m0, .inr (12, [.ref a0, .ref a1, .ref a2, .int (nI u3), .int f4, .ref a5, .int (nI u6), .int y7__121, .int y8__122, .int y9__123, .int f10, .int (nI y11__124), .int (nI y12__125), .int (nI y13__126), .ref a14, .ref a15, .ref a16, .ref a17, .int f18, .int f19, .ref a20, .ref a21, .int (nI u22), .ref a23, .ref a24, .ref a25, .int (nI u26), .int f27, .ref a28, .int (nI u29)])), (a0, .inl (κ 0, 21375, .inl w)), (a5, .inl (κ 0, 800, .inl tp)), (a14, .inl (κ 0, 189, .inl g_a14__127)), (a15, .inl (κ 0, 9, .inl g_a15__128)), (a16, .inl (κ 0, 9, .inl g_a16__129)), (a17, .inl (κ 0, 7123, .inl ga17_34))] := hD.sub [1, 2, 3, 4, 5, 6, 0] (by decide) rfl
          replace hp_131 : PF y8__122 ∧ y12__125 ≤ 8 ∧ y13__126 ≤ 800 ∧ Pfd g_a14__127 ∧ Pb 9 800 g_a15__128 ∧ Pb 9 800 g_a16__129 ∧ y11__5 ≤ y11__124 ∧ y11__124 ≤ u6 ∧ ((r__120 = 1 ∧ 1 ≤ y12__125) ∨ (r__120 = 0)) := hp_131
          obtain ⟨h_132, h_133, h_134, h_135, h_136, h_137, h_138, h_139, ha_140⟩ := hp_131
          rcases ha_140 with ⟨rfl, a_141⟩ | rfl
          · refine W.eq (g2 := F0 m 75 ls [.int 1]) rfl ?_
            refine lv_if_ne (tgt := 80) hx hb dX12_readsTable_75 (by decide) (fun c_142 => ?_) (fun c_142 => absurd c_142 (by decide))
            refine lv_aload_n hx hb dX12_readsTable_80 rfl (lv_at hl 1 rfl) ?_
            refine va_get (D := D) (ci := 12) (v := .ref a17) (C := RX12) (T := TX12) (N := 30) hx hb hts inlX12 hown hK hP 0 rfl rfl 17 (by decide) (hts _ mw_197) (fun _ h9 => h9) rfl dX12_readsTable_81 ?_
            refine lv_iconst (v := 1) hx hb dX12_readsTable_84 (by decide) ?_
            refine va_iald hx hb hK hP 6 0 rfl rfl (i := 1) (vp_k (by decide)) dX12_readsTable_85 ?_
            refine kv (v := .int (nI n_13)) (congrArg Value.int (en_13)) ?_
            refine lv_if_ne (tgt := 93) hx hb dX12_readsTable_86 (by decide) (fun c_143 => ?_) (fun c_143 => ?_)
            · have nc_143 := cv_ne (a := n_13) (b := 0) (by omega) (by omega) c_143
              refine lv_iconst (v := 0) hx hb dX12_readsTable_93 (by decide) ?_
              refine lv_istore_n (lv' := [(2, .int 0), (1, .int (nI y11__5)), (0, .ref m0)]) hx hb dX12_readsTable_94 rfl hl (by decide) rfl (fun ls hl => ?_)
              refine lv_iload_n hx hb dX12_readsTable_95 rfl (lv_at hl 0 rfl) ?_
              refine lv_if_eq (tgt := 120) hx hb dX12_readsTable_96 (by decide) (fun c_144 => ?_) (fun c_144 => absurd (by decide) c_144)
              refine lv_iload_n hx hb dX12_readsTable_120 rfl (lv_at hl 0 rfl) ?_
              refine lv_if_eq (tgt := 128) hx hb dX12_readsTable_121 (by decide) (fun c_145 => ?_) (fun c_145 => absurd (by decide) c_145)
              refine lv_aload_n hx hb dX12_readsTable_128 rfl (lv_at hl 2 rfl) ?_
              refine lv_aload_n hx hb dX12_readsTable_129 rfl (lv_at hl 2 rfl) ?_
              refine va_get (D := D) (ci := 12) (v := .ref a17) (C := RX12) (T := TX12) (N := 30) hx hb hts inlX12 hown hK hP 0 rfl rfl 17 (by decide) (hts _ mw_197) (fun _ h9 => h9) rfl dX12_readsTable_130 ?_
              refine lv_iconst (v := 1) hx hb dX12_readsTable_133 (by decide) ?_
              refine va_iald hx hb hK hP 6 0 rfl rfl (i := 1) (vp_k (by decide)) dX12_readsTable_134 ?_
              refine kv (v := .int (nI n_13)) (congrArg Value.int (en_13)) ?_
              refine ct_V (wr := [(a5, .inl (κ 0, 800, .inl tp)), (a15, .inl (κ 0, 9, .inl g_a15__128)), (a17, .inl (κ 0, 7123, .inl ga17_34))]) (As := [.int (nI n_13)]) (rest := []) hFX hKK hP hD hS hA (s_X12_fits l D κ m0 a0 a1 a2 u3 f4 a5 u6 y7__121 y8__122 y9__123 f10 y11__124 y12__125 y13__126 a14 a15 a16 a17 f18 f19 a20 a21 u22 a23 a24 a25 u26 f27 a28 u29 w g_a14__127 g_a16__129 n_13 (by assumption) (by omega) (by omega) h_a0 h_135 h_137 (by omega)) 1 gV_X12_267 hdV_X12_fits ⟨Nat.le_of_ble_eq_true rfl, Nat.le_of_ble_eq_true rfl⟩ rfl rfl (Nat.le_of_ble_eq_true rfl) dX12_readsTable_135 ⟨Nat.le_of_ble_eq_true rfl, Nat.le_of_ble_eq_true rfl⟩ hl.1 [0, 1, 3, 5] [2, 4, 6] rfl rfl (by decide) (by decide) (by decide) 0 12 rfl rfl rfl trivial (fun u_151 H locs hp_152 _ hP hD hS hz_ hk_ => ?_)
              obtain ⟨r__146, y7__147, y8__148, y9__149, g_a14__150⟩ := u_151
              replace hP : va_P D vwCl [(m0, .inr (12, [.ref a0, .ref a1, .ref a2, .int (nI u3), .int f4, .ref a5, .int (nI u6), .int y7__147, .int y8__148, .int y9__149, .int f10, .int (nI y11__124), .int (nI y12__125), .int (nI y13__126), .ref a14, .ref a15, .ref a16, .ref a17, .int f18, .int f19, .ref a20, .ref a21, .int (nI u22), .ref a23, .ref a24, .ref a25, .int (nI u26), .int f27, .ref a28, .int (nI u29)])), (a0, .inl (κ 0, 21375, .inl w)), (a5, .inl (κ 0, 800, .inl tp)), (a14, .inl (κ 0, 189, .inl g_a14__150)), (a15, .inl (κ 0, 9, .inl g_a15__128)), (a16, .inl (κ 0, 9, .inl g_a16__129)), (a17, .inl (κ 0, 7123, .inl ga17_34))] H := hP.sub [3, 4, 0, 5, 1, 6, 2] rfl
              replace hD : va_D A [(m0, .inr (12, [.ref a0, .ref a1, .ref a2, .int (nI u3), .int f4, .ref a5, .int (nI u6), .int y7__147, .int y8__148, .int y9__149, .int f10, .int (nI y11__124), .int (nI y12__125), .int (nI y13__126), .ref a14, .ref a15, .ref a16, .ref a17, .int f18, .int f19, .ref a20, .ref a21, .int (nI u22), .ref a23, .ref a24, .ref a25, .int (nI u26), .int f27, .ref a28, .int (nI u29)])), (a0, .inl (κ 0, 21375, .inl w)), (a5, .inl (κ 0, 800, .inl tp)), (a14, .inl (κ 0, 189, .inl g_a14__150)), (a15, .inl (κ 0, 9, .inl g_a15__128)), (a16, .inl (κ 0, 9, .inl g_a16__129)), (a17, .inl (κ 0, 7123, .inl ga17_34))] := hD.sub [3, 4, 0, 5, 1, 6, 2] (by decide) rfl
              replace hp_152 : PF y8__148 ∧ Pfd g_a14__150 ∧ ((r__146 = 1) ∨ (r__146 = 0)) := hp_152
              obtain ⟨h_153, h_154, ha_155⟩ := hp_152
              rcases ha_155 with rfl | rfl
              · refine W.eq (g2 := F0 m 138 ls [.int 1]) rfl ?_
                refine lv_if_ne (tgt := 143) hx hb dX12_readsTable_138 (by decide) (fun c_156 => ?_) (fun c_156 => absurd c_156 (by decide))
                refine lv_aload_n hx hb dX12_readsTable_143 rfl (lv_at hl 2 rfl) ?_
                refine lv_aload_n hx hb dX12_readsTable_144 rfl (lv_at hl 2 rfl) ?_
                refine va_get (D := D) (ci := 12) (v := .ref a17) (C := RX12) (T := TX12) (N := 30) hx hb hts inlX12 hown hK hP 0 rfl rfl 17 (by decide) (hts _ mw_197) (fun _ h9 => h9) rfl dX12_readsTable_145 ?_
                refine lv_sipush (v := 403) hx hb dX12_readsTable_148 (by decide) ?_
                refine lv_sipush (v := 168) hx hb dX12_readsTable_151 (by decide) ?_
                refine lv_aload_n hx hb dX12_readsTable_154 rfl (lv_at hl 2 rfl) ?_
                refine va_get (D := D) (ci := 12) (v := .ref a17) (C := RX12) (T := TX12) (N := 30) hx hb hts inlX12 hown hK hP 0 rfl rfl 17 (by decide) (hts _ mw_197) (fun _ h9 => h9) rfl dX12_readsTable_155 ?_
                refine lv_iconst (v := 2) hx hb dX12_readsTable_158 (by decide) ?_
                refine va_iald hx hb hK hP 6 0 rfl rfl (i := 2) (vp_k (by decide)) dX12_readsTable_159 ?_
                refine kv (v := .int (nI n_118)) (congrArg Value.int (en_118)) ?_
                refine lv_imul hx hb dX12_readsTable_160 ?_
                refine ki (v := (nI (168 * n_118))) (pk_mul 168 n_118) ?_
                refine lv_iadd hx hb dX12_readsTable_161 ?_
                refine ki (v := (nI (403 + (168 * n_118)))) (nI_add 403 (168 * n_118)) ?_
                refine lv_aload_n hx hb dX12_readsTable_162 rfl (lv_at hl 2 rfl) ?_
                refine va_get (D := D) (ci := 12) (v := .ref a17) (C := RX12) (T := TX12) (N := 30) hx hb hts inlX12 hown hK hP 0 rfl rfl 17 (by decide) (hts _ mw_197) (fun _ h9 => h9) rfl dX12_readsTable_163 ?_
                refine lv_iconst (v := 1) hx hb dX12_readsTable_166 (by decide) ?_
                refine va_iald hx hb hK hP 6 0 rfl rfl (i := 1) (vp_k (by decide)) dX12_readsTable_167 ?_
                refine kv (v := .int (nI n_13)) (congrArg Value.int (en_13)) ?_
                refine ct_V (wr := [(a0, .inl (κ 0, 21375, .inl w)), (a5, .inl (κ 0, 800, .inl tp)), (a15, .inl (κ 0, 9, .inl g_a15__128)), (a16, .inl (κ 0, 9, .inl g_a16__129))]) (As := [.ref a17, .int (nI (403 + (168 * n_118))), .int (nI n_13)]) (rest := []) hFX hKK hP hD hS hA (s_X12_putsRow_d l D κ m0 a0 a1 a2 u3 f4 a5 u6 y7__147 y8__148 y9__149 f10 y11__124 y12__125 y13__126 a14 a15 a16 a17 f18 f19 a20 a21 u22 a23 a24 a25 u26 f27 a28 u29 g_a14__150 ga17_34 (403 + (168 * n_118)) n_13 h_154 hg34_3 (by omega) (by omega) (by omega) (by omega)) 3 gV_X12_270 hdV_X12_putsRow ⟨Nat.le_of_ble_eq_true rfl, Nat.le_of_ble_eq_true rfl⟩ rfl rfl (Nat.le_of_ble_eq_true rfl) dX12_readsTable_168 ⟨Nat.le_of_ble_eq_true rfl, Nat.le_of_ble_eq_true rfl⟩ hl.1 [0, 3, 6] [1, 2, 4, 5] rfl rfl (by decide) (by decide) (by decide) 0 12 rfl rfl rfl trivial (fun g_a17__157 H locs hp_158 _ hP hD hS hz_ hk_ => ?_)
                replace hP : va_P D vwCl [(m0, .inr (12, [.ref a0, .ref a1, .ref a2, .int (nI u3), .int f4, .ref a5, .int (nI u6), .int y7__147, .int y8__148, .int y9__149, .int f10, .int (nI y11__124), .int (nI y12__125), .int (nI y13__126), .ref a14, .ref a15, .ref a16, .ref a17, .int f18, .int f19, .ref a20, .ref a21, .int (nI u22), .ref a23, .ref a24, .ref a25, .int (nI u26), .int f27, .ref a28, .int (nI u29)])), (a0, .inl (κ 0, 21375, .inl w)), (a5, .inl (κ 0, 800, .inl tp)), (a14, .inl (κ 0, 189, .inl g_a14__150)), (a15, .inl (κ 0, 9, .inl g_a15__128)), (a16, .inl (κ 0, 9, .inl g_a16__129)), (a17, .inl (κ 0, 7123, .inl g_a17__157))] H := hP.sub [4, 0, 1, 5, 2, 3, 6] rfl
                replace hD : va_D A [(m0, .inr (12, [.ref a0, .ref a1, .ref a2, .int (nI u3), .int f4, .ref a5, .int (nI u6), .int y7__147, .int y8__148, .int y9__149, .int f10, .int (nI y11__124), .int (nI y12__125), .int (nI y13__126), .ref a14, .ref a15, .ref a16, .ref a17, .int f18, .int f19, .ref a20, .ref a21, .int (nI u22), .ref a23, .ref a24, .ref a25, .int (nI u26), .int f27, .ref a28, .int (nI u29)])), (a0, .inl (κ 0, 21375, .inl w)), (a5, .inl (κ 0, 800, .inl tp)), (a14, .inl (κ 0, 189, .inl g_a14__150)), (a15, .inl (κ 0, 9, .inl g_a15__128)), (a16, .inl (κ 0, 9, .inl g_a16__129)), (a17, .inl (κ 0, 7123, .inl g_a17__157))] := hD.sub [4, 0, 1, 5, 2, 3, 6] (by decide) rfl
                replace hp_158 : Pd g_a17__157 ∧ (∀ i : Nat, i < 4 → g_a17__157 i = ga17_34 i) := hp_158
                obtain ⟨h_159, h_160⟩ := hp_158
                refine W.eq (g2 := F0 m 171 ls []) rfl ?_
                have hq2 : g_a17__157 2 = nI n_118 := (h_160 2 (by decide)).trans en_118
                refine lv_aload_n hx hb dX12_readsTable_171 rfl (lv_at hl 2 rfl) ?_
                refine va_get (D := D) (ci := 12) (v := .ref a17) (C := RX12) (T := TX12) (N := 30) hx hb hts inlX12 hown hK hP 0 rfl rfl 17 (by decide) (hts _ mw_197) (fun _ h9 => h9) rfl dX12_readsTable_172 ?_
                refine lv_iconst (v := 2) hx hb dX12_readsTable_175 (by decide) ?_
                refine lv_dup2_11 hx hb dX12_readsTable_176 rfl rfl ?_
                refine va_iald hx hb hK hP 6 0 rfl rfl (i := 2) (vp_k (by decide)) dX12_readsTable_177 ?_
                refine kv (v := .int (nI n_118)) (congrArg Value.int hq2) ?_
                refine lv_iconst (v := 1) hx hb dX12_readsTable_178 (by decide) ?_
                refine lv_iadd hx hb dX12_readsTable_179 ?_
                refine ki (v := (nI (n_118 + 1))) (nI_add n_118 1) ?_
                refine va_iast hx hb hK hP hD hS 6 0 rfl rfl (i := 2) (x := nI (n_118 + 1)) (vp_k (by decide)) dX12_readsTable_180 (fun H locs hP hD hS => ?_)
                have hP : va_P D vwCl [(m0, .inr (12, [.ref a0, .ref a1, .ref a2, .int (nI u3), .int f4, .ref a5, .int (nI u6), .int y7__147, .int y8__148, .int y9__149, .int f10, .int (nI y11__124), .int (nI y12__125), .int (nI y13__126), .ref a14, .ref a15, .ref a16, .ref a17, .int f18, .int f19, .ref a20, .ref a21, .int (nI u22), .ref a23, .ref a24, .ref a25, .int (nI u26), .int f27, .ref a28, .int (nI u29)])), (a0, .inl (κ 0, 21375, .inl w)), (a5, .inl (κ 0, 800, .inl tp)), (a14, .inl (κ 0, 189, .inl g_a14__150)), (a15, .inl (κ 0, 9, .inl g_a15__128)), (a16, .inl (κ 0, 9, .inl g_a16__129)), (a17, .inl (κ 0, 7123, .inl (upd g_a17__157 2 (nI (n_118 + 1)))))] H := hP
                have hD : va_D A [(m0, .inr (12, [.ref a0, .ref a1, .ref a2, .int (nI u3), .int f4, .ref a5, .int (nI u6), .int y7__147, .int y8__148, .int y9__149, .int f10, .int (nI y11__124), .int (nI y12__125), .int (nI y13__126), .ref a14, .ref a15, .ref a16, .ref a17, .int f18, .int f19, .ref a20, .ref a21, .int (nI u22), .ref a23, .ref a24, .ref a25, .int (nI u26), .int f27, .ref a28, .int (nI u29)])), (a0, .inl (κ 0, 21375, .inl w)), (a5, .inl (κ 0, 800, .inl tp)), (a14, .inl (κ 0, 189, .inl g_a14__150)), (a15, .inl (κ 0, 9, .inl g_a15__128)), (a16, .inl (κ 0, 9, .inl g_a16__129)), (a17, .inl (κ 0, 7123, .inl (upd g_a17__157 2 (nI (n_118 + 1)))))] := hD
                have hf_162 : Pd (upd g_a17__157 2 (nI (n_118 + 1))) := (PL_upd h_159 (mMANY (t := 0) (by omega) (by omega)) ⟨n_118 + 1, by omega, rfl⟩)
                have hph : (upd g_a17__157 2 (nI (n_118 + 1))) 1 = nI 0 → (upd g_a17__157 2 (nI (n_118 + 1))) 2 = nI 0 := (ph_no ((pk_un (by decide)).trans ((h_160 1 (by decide)).trans en_13)) (by omega) (by omega))
                generalize upd g_a17__157 2 (nI (n_118 + 1)) = g_161 at hP hD hf_162 hph
                refine lv_aload_n hx hb dX12_readsTable_181 rfl (lv_at hl 2 rfl) ?_
                refine ct_V (wr := [(a0, .inl (κ 0, 21375, .inl w)), (a5, .inl (κ 0, 800, .inl tp)), (a14, .inl (κ 0, 189, .inl g_a14__150)), (a15, .inl (κ 0, 9, .inl g_a15__128)), (a16, .inl (κ 0, 9, .inl g_a16__129)), (a17, .inl (κ 0, 7123, .inl g_161))]) (As := []) (rest := []) hFX hKK hP hD hS hA (s_X12_goesOn l D κ m0 a0 a1 a2 u3 f4 a5 u6 y7__147 y8__148 y9__149 f10 y11__124 y12__125 y13__126 a14 a15 a16 a17 f18 f19 a20 a21 u22 a23 a24 a25 u26 f27 a28 u29 (by omega) (by omega)) 0 gV_X12_274 hdV_X12_goesOn ⟨Nat.le_of_ble_eq_true rfl, Nat.le_of_ble_eq_true rfl⟩ rfl rfl (Nat.le_of_ble_eq_true rfl) dX12_readsTable_182 ⟨Nat.le_of_ble_eq_true rfl, Nat.le_of_ble_eq_true rfl⟩ hl.1 [0] [1, 2, 3, 4, 5, 6] rfl rfl (by decide) (by decide) (by decide) 0 12 rfl rfl rfl trivial (fun y11__163 H locs hp_164 _ hP hD hS hz_ hk_ => ?_)
                replace hP : va_P D vwCl [(m0, .inr (12, [.ref a0, .ref a1, .ref a2, .int (nI u3), .int f4, .ref a5, .int (nI u6), .int y7__147, .int y8__148, .int y9__149, .int f10, .int (nI y11__163), .int (nI y12__125), .int (nI y13__126), .ref a14, .ref a15, .ref a16, .ref a17, .int f18, .int f19, .ref a20, .ref a21, .int (nI u22), .ref a23, .ref a24, .ref a25, .int (nI u26), .int f27, .ref a28, .int (nI u29)])), (a0, .inl (κ 0, 21375, .inl w)), (a5, .inl (κ 0, 800, .inl tp)), (a14, .inl (κ 0, 189, .inl g_a14__150)), (a15, .inl (κ 0, 9, .inl g_a15__128)), (a16, .inl (κ 0, 9, .inl g_a16__129)), (a17, .inl (κ 0, 7123, .inl g_161))] H := hP.sub [6, 0, 1, 2, 3, 4, 5] rfl
                replace hD : va_D A [(m0, .inr (12, [.ref a0, .ref a1, .ref a2, .int (nI u3), .int f4, .ref a5, .int (nI u6), .int y7__147, .int y8__148, .int y9__149, .int f10, .int (nI y11__163), .int (nI y12__125), .int (nI y13__126), .ref a14, .ref a15, .ref a16, .ref a17, .int f18, .int f19, .ref a20, .ref a21, .int (nI u22), .ref a23, .ref a24, .ref a25, .int (nI u26), .int f27, .ref a28, .int (nI u29)])), (a0, .inl (κ 0, 21375, .inl w)), (a5, .inl (κ 0, 800, .inl tp)), (a14, .inl (κ 0, 189, .inl g_a14__150)), (a15, .inl (κ 0, 9, .inl g_a15__128)), (a16, .inl (κ 0, 9, .inl g_a16__129)), (a17, .inl (κ 0, 7123, .inl g_161))] := hD.sub [6, 0, 1, 2, 3, 4, 5] (by decide) rfl
                replace hp_164 : y11__124 ≤ y11__163 ∧ y11__163 ≤ u6 := hp_164
                obtain ⟨h_165, h_166⟩ := hp_164
                refine W.eq (g2 := F0 m 185 ls []) rfl ?_
                refine lv_aload_n hx hb dX12_readsTable_185 rfl (lv_at hl 2 rfl) ?_
                refine va_get (D := D) (ci := 12) (v := .int (nI y11__163)) (C := RX12) (T := TX12) (N := 30) hx hb hts inlX12 hown hK hP 0 rfl rfl 11 (by decide) (hts _ mw_423) (fun _ h9 => h9) rfl dX12_readsTable_186 ?_
                refine lv_iload_n hx hb dX12_readsTable_189 rfl (lv_at hl 1 rfl) ?_
                refine lv_icmp_ne (tgt := 195) hx hb dX12_readsTable_190 (by decide) (fun c_167 => ?_) (fun c_167 => ?_)
                · have nc_167 := cv_ne (a := y11__163) (b := y11__5) (by omega) (by omega) c_167
                  refine lv_goto (tgt := 34) hx hb dX12_readsTable_195 (by decide) ?_
                  exact ih34 _ _ _ _ (by omega) ⟨y7__147, y8__148, y9__149, y11__163, y12__125, y13__126, g_a14__150, g_a15__128, g_a16__129, g_161, (by omega), (by assumption), (by omega), (by omega), hph, h_154, h_136, h_137, hf_162, rfl, hP, hD, hS, lv_sub hl [2] rfl⟩
                · have nc_167 := cv_eq (a := y11__163) (b := y11__5) (by omega) (by omega) c_167
                  refine lv_iconst (v := 1) hx hb dX12_readsTable_193 (by decide) ?_
                  exact ct_iret hx hb hr hlk rfl hS hP hD (1, y7__147, y8__148, y9__149, y11__163, y12__125, y13__126, g_a14__150, g_a15__128, g_a16__129, g_161) rfl ⟨(show PF y8__148 from (by assumption)), (show y12__125 ≤ 8 from (by first | assumption | omega)), (show y13__126 ≤ 800 from (by first | assumption | omega)), (show Pfd g_a14__150 from (by first | assumption | omega)), (show Pb 9 800 g_a15__128 from (by first | assumption | omega)), (show Pb 9 800 g_a16__129 from (by first | assumption | omega)), (show Pd g_161 from (by first | assumption | omega)), (by exact Or.inl (rfl))⟩ [0, 1, 2, 3, 4, 5, 6] rfl (by decide) trivial (Nat.le_of_ble_eq_true rfl) (Nat.le_of_ble_eq_true rfl) dX12_readsTable_194
              · refine W.eq (g2 := F0 m 138 ls [.int 0]) rfl ?_
                refine lv_if_ne (tgt := 143) hx hb dX12_readsTable_138 (by decide) (fun c_168 => absurd c_168 (by decide)) (fun c_168 => ?_)
                refine lv_iconst (v := 0) hx hb dX12_readsTable_141 (by decide) ?_
                exact ct_iret hx hb hr hlk rfl hS hP hD (0, y7__147, y8__148, y9__149, y11__124, y12__125, y13__126, g_a14__150, g_a15__128, g_a16__129, ga17_34) rfl ⟨(show PF y8__148 from (by assumption)), (show y12__125 ≤ 8 from (by first | assumption | omega)), (show y13__126 ≤ 800 from (by first | assumption | omega)), (show Pfd g_a14__150 from (by first | assumption | omega)), (show Pb 9 800 g_a15__128 from (by first | assumption | omega)), (show Pb 9 800 g_a16__129 from (by first | assumption | omega)), (show Pd ga17_34 from (by first | assumption | omega)), (by exact Or.inr ((rfl)))⟩ [0, 1, 2, 3, 4, 5, 6] rfl (by decide) trivial (Nat.le_of_ble_eq_true rfl) (Nat.le_of_ble_eq_true rfl) dX12_readsTable_142
            · have nc_143 := cv_eq (a := n_13) (b := 0) (by omega) (by omega) c_143
              refine lv_iconst (v := 1) hx hb dX12_readsTable_89 (by decide) ?_
              refine lv_goto (tgt := 94) hx hb dX12_readsTable_90 (by decide) ?_
              refine lv_istore_n (lv' := [(2, .int 1), (1, .int (nI y11__5)), (0, .ref m0)]) hx hb dX12_readsTable_94 rfl hl (by decide) rfl (fun ls hl => ?_)
              refine lv_iload_n hx hb dX12_readsTable_95 rfl (lv_at hl 0 rfl) ?_
              refine lv_if_eq (tgt := 120) hx hb dX12_readsTable_96 (by decide) (fun c_169 => absurd c_169 (by decide)) (fun c_169 => ?_)
              refine lv_aload_n hx hb dX12_readsTable_99 rfl (lv_at hl 2 rfl) ?_
              refine va_get (D := D) (ci := 12) (v := .ref a0) (C := RX12) (T := TX12) (N := 30) hx hb hts inlX12 hown hK hP 0 rfl rfl 0 (by decide) (hts _ mw_187) (fun _ h9 => h9) rfl dX12_readsTable_100 ?_
              refine lv_sipush (v := 21371) hx hb dX12_readsTable_103 (by decide) ?_
              refine va_iald hx hb hK hP 1 0 rfl rfl (i := 21371) (vp_k (by decide)) dX12_readsTable_106 ?_
              obtain ⟨x_170, ex_170⟩ : ∃ y9 : Int32, w 21371 = y9 := ⟨_, rfl⟩
              refine kv (v := .int x_170) (congrArg Value.int ex_170) ?_
              refine lv_iconst (v := 1) hx hb dX12_readsTable_107 (by decide) ?_
              refine lv_icmp_ne (tgt := 120) hx hb dX12_readsTable_108 (by decide) (fun c_171 => ?_) (fun c_171 => ?_)
              · refine lv_iload_n hx hb dX12_readsTable_120 rfl (lv_at hl 0 rfl) ?_
                refine lv_if_eq (tgt := 128) hx hb dX12_readsTable_121 (by decide) (fun c_172 => absurd c_172 (by decide)) (fun c_172 => ?_)
                refine lv_aload_n hx hb dX12_readsTable_124 rfl (lv_at hl 2 rfl) ?_
                refine ct_V (wr := [(a0, .inl (κ 0, 21375, .inl w)), (a5, .inl (κ 0, 800, .inl tp)), (a14, .inl (κ 0, 189, .inl g_a14__127)), (a15, .inl (κ 0, 9, .inl g_a15__128)), (a16, .inl (κ 0, 9, .inl g_a16__129))]) (As := []) (rest := []) hFX hKK hP hD hS hA (s_X12_numbersNames l D κ m0 a0 a1 a2 u3 f4 a5 u6 y7__121 y8__122 y9__123 f10 y11__124 y12__125 y13__126 a14 a15 a16 a17 f18 f19 a20 a21 u22 a23 a24 a25 u26 f27 a28 u29 ga17_34 (by omega) hg34_3) 0 gV_X12_264 hdV_X12_numbersNames ⟨Nat.le_of_ble_eq_true rfl, Nat.le_of_ble_eq_true rfl⟩ rfl rfl (Nat.le_of_ble_eq_true rfl) dX12_readsTable_125 ⟨Nat.le_of_ble_eq_true rfl, Nat.le_of_ble_eq_true rfl⟩ hl.1 [0, 6] [1, 2, 3, 4, 5] rfl rfl (by decide) (by decide) (by decide) 0 12 rfl rfl rfl trivial (fun g_a17__173 H locs hp_174 _ hP hD hS hz_ hk_ => ?_)
                replace hP : va_P D vwCl [(m0, .inr (12, [.ref a0, .ref a1, .ref a2, .int (nI u3), .int f4, .ref a5, .int (nI u6), .int y7__121, .int y8__122, .int y9__123, .int f10, .int (nI y11__124), .int (nI y12__125), .int (nI y13__126), .ref a14, .ref a15, .ref a16, .ref a17, .int f18, .int f19, .ref a20, .ref a21, .int (nI u22), .ref a23, .ref a24, .ref a25, .int (nI u26), .int f27, .ref a28, .int (nI u29)])), (a0, .inl (κ 0, 21375, .inl w)), (a5, .inl (κ 0, 800, .inl tp)), (a14, .inl (κ 0, 189, .inl g_a14__127)), (a15, .inl (κ 0, 9, .inl g_a15__128)), (a16, .inl (κ 0, 9, .inl g_a16__129)), (a17, .inl (κ 0, 7123, .inl g_a17__173))] H := hP.sub [5, 0, 1, 2, 3, 4, 6] rfl
                replace hD : va_D A [(m0, .inr (12, [.ref a0, .ref a1, .ref a2, .int (nI u3), .int f4, .ref a5, .int (nI u6), .int y7__121, .int y8__122, .int y9__123, .int f10, .int (nI y11__124), .int (nI y12__125), .int (nI y13__126), .ref a14, .ref a15, .ref a16, .ref a17, .int f18, .int f19, .ref a20, .ref a21, .int (nI u22), .ref a23, .ref a24, .ref a25, .int (nI u26), .int f27, .ref a28, .int (nI u29)])), (a0, .inl (κ 0, 21375, .inl w)), (a5, .inl (κ 0, 800, .inl tp)), (a14, .inl (κ 0, 189, .inl g_a14__127)), (a15, .inl (κ 0, 9, .inl g_a15__128)), (a16, .inl (κ 0, 9, .inl g_a16__129)), (a17, .inl (κ 0, 7123, .inl g_a17__173))] := hD.sub [5, 0, 1, 2, 3, 4, 6] (by decide) rfl
                replace hp_174 : Pd g_a17__173 ∧ g_a17__173 1 = nI y12__125 ∧ g_a17__173 2 = ga17_34 2 := hp_174
                obtain ⟨h_175, h_176, h_177⟩ := hp_174
                refine W.eq (g2 := F0 m 128 ls []) rfl ?_
                refine lv_aload_n hx hb dX12_readsTable_128 rfl (lv_at hl 2 rfl) ?_
                refine lv_aload_n hx hb dX12_readsTable_129 rfl (lv_at hl 2 rfl) ?_
                refine va_get (D := D) (ci := 12) (v := .ref a17) (C := RX12) (T := TX12) (N := 30) hx hb hts inlX12 hown hK hP 0 rfl rfl 17 (by decide) (hts _ mw_197) (fun _ h9 => h9) rfl dX12_readsTable_130 ?_
                refine lv_iconst (v := 1) hx hb dX12_readsTable_133 (by decide) ?_
                refine va_iald hx hb hK hP 6 0 rfl rfl (i := 1) (vp_k (by decide)) dX12_readsTable_134 ?_
                refine kv (v := .int (nI y12__125)) (congrArg Value.int h_176) ?_
                have hone : 1 ≤ y12__125 := nz_of h_176 h_176 (by omega) (by omega) (by omega)
                refine ct_V (wr := [(a5, .inl (κ 0, 800, .inl tp)), (a15, .inl (κ 0, 9, .inl g_a15__128)), (a17, .inl (κ 0, 7123, .inl g_a17__173))]) (As := [.int (nI y12__125)]) (rest := []) hFX hKK hP hD hS hA (s_X12_fits l D κ m0 a0 a1 a2 u3 f4 a5 u6 y7__121 y8__122 y9__123 f10 y11__124 y12__125 y13__126 a14 a15 a16 a17 f18 f19 a20 a21 u22 a23 a24 a25 u26 f27 a28 u29 w g_a14__127 g_a16__129 y12__125 (by assumption) (by omega) (by omega) h_a0 h_135 h_137 (by omega)) 1 gV_X12_267 hdV_X12_fits ⟨Nat.le_of_ble_eq_true rfl, Nat.le_of_ble_eq_true rfl⟩ rfl rfl (Nat.le_of_ble_eq_true rfl) dX12_readsTable_135 ⟨Nat.le_of_ble_eq_true rfl, Nat.le_of_ble_eq_true rfl⟩ hl.1 [0, 1, 3, 5] [2, 4, 6] rfl rfl (by decide) (by decide) (by decide) 0 12 rfl rfl rfl trivial (fun u_183 H locs hp_184 _ hP hD hS hz_ hk_ => ?_)
                obtain ⟨r__178, y7__179, y8__180, y9__181, g_a14__182⟩ := u_183
                replace hP : va_P D vwCl [(m0, .inr (12, [.ref a0, .ref a1, .ref a2, .int (nI u3), .int f4, .ref a5, .int (nI u6), .int y7__179, .int y8__180, .int y9__181, .int f10, .int (nI y11__124), .int (nI y12__125), .int (nI y13__126), .ref a14, .ref a15, .ref a16, .ref a17, .int f18, .int f19, .ref a20, .ref a21, .int (nI u22), .ref a23, .ref a24, .ref a25, .int (nI u26), .int f27, .ref a28, .int (nI u29)])), (a0, .inl (κ 0, 21375, .inl w)), (a5, .inl (κ 0, 800, .inl tp)), (a14, .inl (κ 0, 189, .inl g_a14__182)), (a15, .inl (κ 0, 9, .inl g_a15__128)), (a16, .inl (κ 0, 9, .inl g_a16__129)), (a17, .inl (κ 0, 7123, .inl g_a17__173))] H := hP.sub [3, 4, 0, 5, 1, 6, 2] rfl
                replace hD : va_D A [(m0, .inr (12, [.ref a0, .ref a1, .ref a2, .int (nI u3), .int f4, .ref a5, .int (nI u6), .int y7__179, .int y8__180, .int y9__181, .int f10, .int (nI y11__124), .int (nI y12__125), .int (nI y13__126), .ref a14, .ref a15, .ref a16, .ref a17, .int f18, .int f19, .ref a20, .ref a21, .int (nI u22), .ref a23, .ref a24, .ref a25, .int (nI u26), .int f27, .ref a28, .int (nI u29)])), (a0, .inl (κ 0, 21375, .inl w)), (a5, .inl (κ 0, 800, .inl tp)), (a14, .inl (κ 0, 189, .inl g_a14__182)), (a15, .inl (κ 0, 9, .inl g_a15__128)), (a16, .inl (κ 0, 9, .inl g_a16__129)), (a17, .inl (κ 0, 7123, .inl g_a17__173))] := hD.sub [3, 4, 0, 5, 1, 6, 2] (by decide) rfl
                replace hp_184 : PF y8__180 ∧ Pfd g_a14__182 ∧ ((r__178 = 1) ∨ (r__178 = 0)) := hp_184
                obtain ⟨h_185, h_186, ha_187⟩ := hp_184
                rcases ha_187 with rfl | rfl
                · refine W.eq (g2 := F0 m 138 ls [.int 1]) rfl ?_
                  refine lv_if_ne (tgt := 143) hx hb dX12_readsTable_138 (by decide) (fun c_188 => ?_) (fun c_188 => absurd c_188 (by decide))
                  refine lv_aload_n hx hb dX12_readsTable_143 rfl (lv_at hl 2 rfl) ?_
                  refine lv_aload_n hx hb dX12_readsTable_144 rfl (lv_at hl 2 rfl) ?_
                  refine va_get (D := D) (ci := 12) (v := .ref a17) (C := RX12) (T := TX12) (N := 30) hx hb hts inlX12 hown hK hP 0 rfl rfl 17 (by decide) (hts _ mw_197) (fun _ h9 => h9) rfl dX12_readsTable_145 ?_
                  refine lv_sipush (v := 403) hx hb dX12_readsTable_148 (by decide) ?_
                  refine lv_sipush (v := 168) hx hb dX12_readsTable_151 (by decide) ?_
                  refine lv_aload_n hx hb dX12_readsTable_154 rfl (lv_at hl 2 rfl) ?_
                  refine va_get (D := D) (ci := 12) (v := .ref a17) (C := RX12) (T := TX12) (N := 30) hx hb hts inlX12 hown hK hP 0 rfl rfl 17 (by decide) (hts _ mw_197) (fun _ h9 => h9) rfl dX12_readsTable_155 ?_
                  refine lv_iconst (v := 2) hx hb dX12_readsTable_158 (by decide) ?_
                  refine va_iald hx hb hK hP 6 0 rfl rfl (i := 2) (vp_k (by decide)) dX12_readsTable_159 ?_
                  obtain ⟨n_189, hn_189, en_189⟩ : ∃ n9 : Nat, n9 ≤ 40 ∧ g_a17__173 2 = nI n9 := id (h_175 _ _ (by omega) (mMANY (t := 0) (by omega) (by omega)))
                  refine kv (v := .int (nI n_189)) (congrArg Value.int en_189) ?_
                  have hm40 : n_189 < 40 := ph_lt hl34_4 en_13 (by omega) h_177 en_189 (by omega)
                  refine lv_imul hx hb dX12_readsTable_160 ?_
                  refine ki (v := (nI (168 * n_189))) (pk_mul 168 n_189) ?_
                  refine lv_iadd hx hb dX12_readsTable_161 ?_
                  refine ki (v := (nI (403 + (168 * n_189)))) (nI_add 403 (168 * n_189)) ?_
                  refine lv_aload_n hx hb dX12_readsTable_162 rfl (lv_at hl 2 rfl) ?_
                  refine va_get (D := D) (ci := 12) (v := .ref a17) (C := RX12) (T := TX12) (N := 30) hx hb hts inlX12 hown hK hP 0 rfl rfl 17 (by decide) (hts _ mw_197) (fun _ h9 => h9) rfl dX12_readsTable_163 ?_
                  refine lv_iconst (v := 1) hx hb dX12_readsTable_166 (by decide) ?_
                  refine va_iald hx hb hK hP 6 0 rfl rfl (i := 1) (vp_k (by decide)) dX12_readsTable_167 ?_
                  refine kv (v := .int (nI y12__125)) (congrArg Value.int (h_176)) ?_
                  refine ct_V (wr := [(a0, .inl (κ 0, 21375, .inl w)), (a5, .inl (κ 0, 800, .inl tp)), (a15, .inl (κ 0, 9, .inl g_a15__128)), (a16, .inl (κ 0, 9, .inl g_a16__129))]) (As := [.ref a17, .int (nI (403 + (168 * n_189))), .int (nI y12__125)]) (rest := []) hFX hKK hP hD hS hA (s_X12_putsRow_d l D κ m0 a0 a1 a2 u3 f4 a5 u6 y7__179 y8__180 y9__181 f10 y11__124 y12__125 y13__126 a14 a15 a16 a17 f18 f19 a20 a21 u22 a23 a24 a25 u26 f27 a28 u29 g_a14__182 g_a17__173 (403 + (168 * n_189)) y12__125 h_186 h_175 (by omega) (by omega) (by omega) (by omega)) 3 gV_X12_270 hdV_X12_putsRow ⟨Nat.le_of_ble_eq_true rfl, Nat.le_of_ble_eq_true rfl⟩ rfl rfl (Nat.le_of_ble_eq_true rfl) dX12_readsTable_168 ⟨Nat.le_of_ble_eq_true rfl, Nat.le_of_ble_eq_true rfl⟩ hl.1 [0, 3, 6] [1, 2, 4, 5] rfl rfl (by decide) (by decide) (by decide) 0 12 rfl rfl rfl trivial (fun g_a17__190 H locs hp_191 _ hP hD hS hz_ hk_ => ?_)
                  replace hP : va_P D vwCl [(m0, .inr (12, [.ref a0, .ref a1, .ref a2, .int (nI u3), .int f4, .ref a5, .int (nI u6), .int y7__179, .int y8__180, .int y9__181, .int f10, .int (nI y11__124), .int (nI y12__125), .int (nI y13__126), .ref a14, .ref a15, .ref a16, .ref a17, .int f18, .int f19, .ref a20, .ref a21, .int (nI u22), .ref a23, .ref a24, .ref a25, .int (nI u26), .int f27, .ref a28, .int (nI u29)])), (a0, .inl (κ 0, 21375, .inl w)), (a5, .inl (κ 0, 800, .inl tp)), (a14, .inl (κ 0, 189, .inl g_a14__182)), (a15, .inl (κ 0, 9, .inl g_a15__128)), (a16, .inl (κ 0, 9, .inl g_a16__129)), (a17, .inl (κ 0, 7123, .inl g_a17__190))] H := hP.sub [4, 0, 1, 5, 2, 3, 6] rfl
                  replace hD : va_D A [(m0, .inr (12, [.ref a0, .ref a1, .ref a2, .int (nI u3), .int f4, .ref a5, .int (nI u6), .int y7__179, .int y8__180, .int y9__181, .int f10, .int (nI y11__124), .int (nI y12__125), .int (nI y13__126), .ref a14, .ref a15, .ref a16, .ref a17, .int f18, .int f19, .ref a20, .ref a21, .int (nI u22), .ref a23, .ref a24, .ref a25, .int (nI u26), .int f27, .ref a28, .int (nI u29)])), (a0, .inl (κ 0, 21375, .inl w)), (a5, .inl (κ 0, 800, .inl tp)), (a14, .inl (κ 0, 189, .inl g_a14__182)), (a15, .inl (κ 0, 9, .inl g_a15__128)), (a16, .inl (κ 0, 9, .inl g_a16__129)), (a17, .inl (κ 0, 7123, .inl g_a17__190))] := hD.sub [4, 0, 1, 5, 2, 3, 6] (by decide) rfl
                  replace hp_191 : Pd g_a17__190 ∧ (∀ i : Nat, i < 4 → g_a17__190 i = g_a17__173 i) := hp_191
                  obtain ⟨h_192, h_193⟩ := hp_191
                  refine W.eq (g2 := F0 m 171 ls []) rfl ?_
                  have hq2 : g_a17__190 2 = nI n_189 := (h_193 2 (by decide)).trans en_189
                  refine lv_aload_n hx hb dX12_readsTable_171 rfl (lv_at hl 2 rfl) ?_
                  refine va_get (D := D) (ci := 12) (v := .ref a17) (C := RX12) (T := TX12) (N := 30) hx hb hts inlX12 hown hK hP 0 rfl rfl 17 (by decide) (hts _ mw_197) (fun _ h9 => h9) rfl dX12_readsTable_172 ?_
                  refine lv_iconst (v := 2) hx hb dX12_readsTable_175 (by decide) ?_
                  refine lv_dup2_11 hx hb dX12_readsTable_176 rfl rfl ?_
                  refine va_iald hx hb hK hP 6 0 rfl rfl (i := 2) (vp_k (by decide)) dX12_readsTable_177 ?_
                  refine kv (v := .int (nI n_189)) (congrArg Value.int hq2) ?_
                  refine lv_iconst (v := 1) hx hb dX12_readsTable_178 (by decide) ?_
                  refine lv_iadd hx hb dX12_readsTable_179 ?_
                  refine ki (v := (nI (n_189 + 1))) (nI_add n_189 1) ?_
                  refine va_iast hx hb hK hP hD hS 6 0 rfl rfl (i := 2) (x := nI (n_189 + 1)) (vp_k (by decide)) dX12_readsTable_180 (fun H locs hP hD hS => ?_)
                  have hP : va_P D vwCl [(m0, .inr (12, [.ref a0, .ref a1, .ref a2, .int (nI u3), .int f4, .ref a5, .int (nI u6), .int y7__179, .int y8__180, .int y9__181, .int f10, .int (nI y11__124), .int (nI y12__125), .int (nI y13__126), .ref a14, .ref a15, .ref a16, .ref a17, .int f18, .int f19, .ref a20, .ref a21, .int (nI u22), .ref a23, .ref a24, .ref a25, .int (nI u26), .int f27, .ref a28, .int (nI u29)])), (a0, .inl (κ 0, 21375, .inl w)), (a5, .inl (κ 0, 800, .inl tp)), (a14, .inl (κ 0, 189, .inl g_a14__182)), (a15, .inl (κ 0, 9, .inl g_a15__128)), (a16, .inl (κ 0, 9, .inl g_a16__129)), (a17, .inl (κ 0, 7123, .inl (upd g_a17__190 2 (nI (n_189 + 1)))))] H := hP
                  have hD : va_D A [(m0, .inr (12, [.ref a0, .ref a1, .ref a2, .int (nI u3), .int f4, .ref a5, .int (nI u6), .int y7__179, .int y8__180, .int y9__181, .int f10, .int (nI y11__124), .int (nI y12__125), .int (nI y13__126), .ref a14, .ref a15, .ref a16, .ref a17, .int f18, .int f19, .ref a20, .ref a21, .int (nI u22), .ref a23, .ref a24, .ref a25, .int (nI u26), .int f27, .ref a28, .int (nI u29)])), (a0, .inl (κ 0, 21375, .inl w)), (a5, .inl (κ 0, 800, .inl tp)), (a14, .inl (κ 0, 189, .inl g_a14__182)), (a15, .inl (κ 0, 9, .inl g_a15__128)), (a16, .inl (κ 0, 9, .inl g_a16__129)), (a17, .inl (κ 0, 7123, .inl (upd g_a17__190 2 (nI (n_189 + 1)))))] := hD
                  have hf_195 : Pd (upd g_a17__190 2 (nI (n_189 + 1))) := (PL_upd h_192 (mMANY (t := 0) (by omega) (by omega)) ⟨n_189 + 1, by omega, rfl⟩)
                  have hph : (upd g_a17__190 2 (nI (n_189 + 1))) 1 = nI 0 → (upd g_a17__190 2 (nI (n_189 + 1))) 2 = nI 0 := (ph_no ((pk_un (by decide)).trans ((h_193 1 (by decide)).trans h_176)) (by omega) (by omega))
                  generalize upd g_a17__190 2 (nI (n_189 + 1)) = g_194 at hP hD hf_195 hph
                  refine lv_aload_n hx hb dX12_readsTable_181 rfl (lv_at hl 2 rfl) ?_
                  refine ct_V (wr := [(a0, .inl (κ 0, 21375, .inl w)), (a5, .inl (κ 0, 800, .inl tp)), (a14, .inl (κ 0, 189, .inl g_a14__182)), (a15, .inl (κ 0, 9, .inl g_a15__128)), (a16, .inl (κ 0, 9, .inl g_a16__129)), (a17, .inl (κ 0, 7123, .inl g_194))]) (As := []) (rest := []) hFX hKK hP hD hS hA (s_X12_goesOn l D κ m0 a0 a1 a2 u3 f4 a5 u6 y7__179 y8__180 y9__181 f10 y11__124 y12__125 y13__126 a14 a15 a16 a17 f18 f19 a20 a21 u22 a23 a24 a25 u26 f27 a28 u29 (by omega) (by omega)) 0 gV_X12_274 hdV_X12_goesOn ⟨Nat.le_of_ble_eq_true rfl, Nat.le_of_ble_eq_true rfl⟩ rfl rfl (Nat.le_of_ble_eq_true rfl) dX12_readsTable_182 ⟨Nat.le_of_ble_eq_true rfl, Nat.le_of_ble_eq_true rfl⟩ hl.1 [0] [1, 2, 3, 4, 5, 6] rfl rfl (by decide) (by decide) (by decide) 0 12 rfl rfl rfl trivial (fun y11__196 H locs hp_197 _ hP hD hS hz_ hk_ => ?_)
                  replace hP : va_P D vwCl [(m0, .inr (12, [.ref a0, .ref a1, .ref a2, .int (nI u3), .int f4, .ref a5, .int (nI u6), .int y7__179, .int y8__180, .int y9__181, .int f10, .int (nI y11__196), .int (nI y12__125), .int (nI y13__126), .ref a14, .ref a15, .ref a16, .ref a17, .int f18, .int f19, .ref a20, .ref a21, .int (nI u22), .ref a23, .ref a24, .ref a25, .int (nI u26), .int f27, .ref a28, .int (nI u29)])), (a0, .inl (κ 0, 21375, .inl w)), (a5, .inl (κ 0, 800, .inl tp)), (a14, .inl (κ 0, 189, .inl g_a14__182)), (a15, .inl (κ 0, 9, .inl g_a15__128)), (a16, .inl (κ 0, 9, .inl g_a16__129)), (a17, .inl (κ 0, 7123, .inl g_194))] H := hP.sub [6, 0, 1, 2, 3, 4, 5] rfl
                  replace hD : va_D A [(m0, .inr (12, [.ref a0, .ref a1, .ref a2, .int (nI u3), .int f4, .ref a5, .int (nI u6), .int y7__179, .int y8__180, .int y9__181, .int f10, .int (nI y11__196), .int (nI y12__125), .int (nI y13__126), .ref a14, .ref a15, .ref a16, .ref a17, .int f18, .int f19, .ref a20, .ref a21, .int (nI u22), .ref a23, .ref a24, .ref a25, .int (nI u26), .int f27, .ref a28, .int (nI u29)])), (a0, .inl (κ 0, 21375, .inl w)), (a5, .inl (κ 0, 800, .inl tp)), (a14, .inl (κ 0, 189, .inl g_a14__182)), (a15, .inl (κ 0, 9, .inl g_a15__128)), (a16, .inl (κ 0, 9, .inl g_a16__129)), (a17, .inl (κ 0, 7123, .inl g_194))] := hD.sub [6, 0, 1, 2, 3, 4, 5] (by decide) rfl
                  replace hp_197 : y11__124 ≤ y11__196 ∧ y11__196 ≤ u6 := hp_197
                  obtain ⟨h_198, h_199⟩ := hp_197
                  refine W.eq (g2 := F0 m 185 ls []) rfl ?_
                  refine lv_aload_n hx hb dX12_readsTable_185 rfl (lv_at hl 2 rfl) ?_
                  refine va_get (D := D) (ci := 12) (v := .int (nI y11__196)) (C := RX12) (T := TX12) (N := 30) hx hb hts inlX12 hown hK hP 0 rfl rfl 11 (by decide) (hts _ mw_423) (fun _ h9 => h9) rfl dX12_readsTable_186 ?_
                  refine lv_iload_n hx hb dX12_readsTable_189 rfl (lv_at hl 1 rfl) ?_
                  refine lv_icmp_ne (tgt := 195) hx hb dX12_readsTable_190 (by decide) (fun c_200 => ?_) (fun c_200 => ?_)
                  · have nc_200 := cv_ne (a := y11__196) (b := y11__5) (by omega) (by omega) c_200
                    refine lv_goto (tgt := 34) hx hb dX12_readsTable_195 (by decide) ?_
                    exact ih34 _ _ _ _ (by omega) ⟨y7__179, y8__180, y9__181, y11__196, y12__125, y13__126, g_a14__182, g_a15__128, g_a16__129, g_194, (by omega), (by assumption), (by omega), (by omega), hph, h_186, h_136, h_137, hf_195, rfl, hP, hD, hS, lv_sub hl [2] rfl⟩
                  · have nc_200 := cv_eq (a := y11__196) (b := y11__5) (by omega) (by omega) c_200
                    refine lv_iconst (v := 1) hx hb dX12_readsTable_193 (by decide) ?_
                    exact ct_iret hx hb hr hlk rfl hS hP hD (1, y7__179, y8__180, y9__181, y11__196, y12__125, y13__126, g_a14__182, g_a15__128, g_a16__129, g_194) rfl ⟨(show PF y8__180 from (by assumption)), (show y12__125 ≤ 8 from (by first | assumption | omega)), (show y13__126 ≤ 800 from (by first | assumption | omega)), (show Pfd g_a14__182 from (by first | assumption | omega)), (show Pb 9 800 g_a15__128 from (by first | assumption | omega)), (show Pb 9 800 g_a16__129 from (by first | assumption | omega)), (show Pd g_194 from (by first | assumption | omega)), (by exact Or.inl (rfl))⟩ [0, 1, 2, 3, 4, 5, 6] rfl (by decide) trivial (Nat.le_of_ble_eq_true rfl) (Nat.le_of_ble_eq_true rfl) dX12_readsTable_194
                · refine W.eq (g2 := F0 m 138 ls [.int 0]) rfl ?_
                  refine lv_if_ne (tgt := 143) hx hb dX12_readsTable_138 (by decide) (fun c_201 => absurd c_201 (by decide)) (fun c_201 => ?_)
                  refine lv_iconst (v := 0) hx hb dX12_readsTable_141 (by decide) ?_
                  exact ct_iret hx hb hr hlk rfl hS hP hD (0, y7__179, y8__180, y9__181, y11__124, y12__125, y13__126, g_a14__182, g_a15__128, g_a16__129, g_a17__173) rfl ⟨(show PF y8__180 from (by assumption)), (show y12__125 ≤ 8 from (by first | assumption | omega)), (show y13__126 ≤ 800 from (by first | assumption | omega)), (show Pfd g_a14__182 from (by first | assumption | omega)), (show Pb 9 800 g_a15__128 from (by first | assumption | omega)), (show Pb 9 800 g_a16__129 from (by first | assumption | omega)), (show Pd g_a17__173 from (by first | assumption | omega)), (by exact Or.inr ((rfl)))⟩ [0, 1, 2, 3, 4, 5, 6] rfl (by decide) trivial (Nat.le_of_ble_eq_true rfl) (Nat.le_of_ble_eq_true rfl) dX12_readsTable_142
              · refine lv_aload_n hx hb dX12_readsTable_111 rfl (lv_at hl 2 rfl) ?_
                refine ct_V (wr := [(a0, .inl (κ 0, 21375, .inl w)), (a5, .inl (κ 0, 800, .inl tp)), (a16, .inl (κ 0, 9, .inl g_a16__129))]) (As := []) (rest := []) hFX hKK hP hD hS hA (s_X12_readsNames l D κ m0 a0 a1 a2 u3 f4 a5 u6 y7__121 y8__122 y9__123 f10 y11__124 y12__125 y13__126 a14 a15 a16 a17 f18 f19 a20 a21 u22 a23 a24 a25 u26 f27 a28 u29 g_a14__127 g_a15__128 ga17_34 (by assumption) (by omega) h_135 h_136 hg34_3) 0 gV_X12_261 hdV_X12_readsNames ⟨Nat.le_of_ble_eq_true rfl, Nat.le_of_ble_eq_true rfl⟩ rfl rfl (Nat.le_of_ble_eq_true rfl) dX12_readsTable_112 ⟨Nat.le_of_ble_eq_true rfl, Nat.le_of_ble_eq_true rfl⟩ hl.1 [0, 3, 4, 6] [1, 2, 5] rfl rfl (by decide) (by decide) (by decide) 0 12 rfl rfl rfl trivial (fun u_207 H locs hp_208 _ hP hD hS hz_ hk_ => ?_)
                obtain ⟨r__202, y7__203, y8__204, y9__205, g_a17__206⟩ := u_207
                replace hP : va_P D vwCl [(m0, .inr (12, [.ref a0, .ref a1, .ref a2, .int (nI u3), .int f4, .ref a5, .int (nI u6), .int y7__203, .int y8__204, .int y9__205, .int f10, .int (nI y11__124), .int (nI y12__125), .int (nI y13__126), .ref a14, .ref a15, .ref a16, .ref a17, .int f18, .int f19, .ref a20, .ref a21, .int (nI u22), .ref a23, .ref a24, .ref a25, .int (nI u26), .int f27, .ref a28, .int (nI u29)])), (a0, .inl (κ 0, 21375, .inl w)), (a5, .inl (κ 0, 800, .inl tp)), (a14, .inl (κ 0, 189, .inl g_a14__127)), (a15, .inl (κ 0, 9, .inl g_a15__128)), (a16, .inl (κ 0, 9, .inl g_a16__129)), (a17, .inl (κ 0, 7123, .inl g_a17__206))] H := hP.sub [3, 0, 1, 4, 5, 2, 6] rfl
                replace hD : va_D A [(m0, .inr (12, [.ref a0, .ref a1, .ref a2, .int (nI u3), .int f4, .ref a5, .int (nI u6), .int y7__203, .int y8__204, .int y9__205, .int f10, .int (nI y11__124), .int (nI y12__125), .int (nI y13__126), .ref a14, .ref a15, .ref a16, .ref a17, .int f18, .int f19, .ref a20, .ref a21, .int (nI u22), .ref a23, .ref a24, .ref a25, .int (nI u26), .int f27, .ref a28, .int (nI u29)])), (a0, .inl (κ 0, 21375, .inl w)), (a5, .inl (κ 0, 800, .inl tp)), (a14, .inl (κ 0, 189, .inl g_a14__127)), (a15, .inl (κ 0, 9, .inl g_a15__128)), (a16, .inl (κ 0, 9, .inl g_a16__129)), (a17, .inl (κ 0, 7123, .inl g_a17__206))] := hD.sub [3, 0, 1, 4, 5, 2, 6] (by decide) rfl
                replace hp_208 : PF y8__204 ∧ Pd g_a17__206 ∧ ((r__202 = 1 ∧ g_a17__206 1 = nI y12__125 ∧ g_a17__206 2 = ga17_34 2) ∨ (r__202 = 0)) := hp_208
                obtain ⟨h_209, h_210, ha_211⟩ := hp_208
                rcases ha_211 with ⟨rfl, a_212, a_213⟩ | rfl
                · refine W.eq (g2 := F0 m 115 ls [.int 1]) rfl ?_
                  refine lv_if_ne (tgt := 181) hx hb dX12_readsTable_115 (by decide) (fun c_214 => ?_) (fun c_214 => absurd c_214 (by decide))
                  have hph : g_a17__206 1 = nI 0 → g_a17__206 2 = nI 0 := ph_no a_212 (by omega) (by omega)
                  refine lv_aload_n hx hb dX12_readsTable_181 rfl (lv_at hl 2 rfl) ?_
                  refine ct_V (wr := [(a0, .inl (κ 0, 21375, .inl w)), (a5, .inl (κ 0, 800, .inl tp)), (a14, .inl (κ 0, 189, .inl g_a14__127)), (a15, .inl (κ 0, 9, .inl g_a15__128)), (a16, .inl (κ 0, 9, .inl g_a16__129)), (a17, .inl (κ 0, 7123, .inl g_a17__206))]) (As := []) (rest := []) hFX hKK hP hD hS hA (s_X12_goesOn l D κ m0 a0 a1 a2 u3 f4 a5 u6 y7__203 y8__204 y9__205 f10 y11__124 y12__125 y13__126 a14 a15 a16 a17 f18 f19 a20 a21 u22 a23 a24 a25 u26 f27 a28 u29 (by omega) (by omega)) 0 gV_X12_274 hdV_X12_goesOn ⟨Nat.le_of_ble_eq_true rfl, Nat.le_of_ble_eq_true rfl⟩ rfl rfl (Nat.le_of_ble_eq_true rfl) dX12_readsTable_182 ⟨Nat.le_of_ble_eq_true rfl, Nat.le_of_ble_eq_true rfl⟩ hl.1 [0] [1, 2, 3, 4, 5, 6] rfl rfl (by decide) (by decide) (by decide) 0 12 rfl rfl rfl trivial (fun y11__215 H locs hp_216 _ hP hD hS hz_ hk_ => ?_)
                  replace hP : va_P D vwCl [(m0, .inr (12, [.ref a0, .ref a1, .ref a2, .int (nI u3), .int f4, .ref a5, .int (nI u6), .int y7__203, .int y8__204, .int y9__205, .int f10, .int (nI y11__215), .int (nI y12__125), .int (nI y13__126), .ref a14, .ref a15, .ref a16, .ref a17, .int f18, .int f19, .ref a20, .ref a21, .int (nI u22), .ref a23, .ref a24, .ref a25, .int (nI u26), .int f27, .ref a28, .int (nI u29)])), (a0, .inl (κ 0, 21375, .inl w)), (a5, .inl (κ 0, 800, .inl tp)), (a14, .inl (κ 0, 189, .inl g_a14__127)), (a15, .inl (κ 0, 9, .inl g_a15__128)), (a16, .inl (κ 0, 9, .inl g_a16__129)), (a17, .inl (κ 0, 7123, .inl g_a17__206))] H := hP.sub [6, 0, 1, 2, 3, 4, 5] rfl
                  replace hD : va_D A [(m0, .inr (12, [.ref a0, .ref a1, .ref a2, .int (nI u3), .int f4, .ref a5, .int (nI u6), .int y7__203, .int y8__204, .int y9__205, .int f10, .int (nI y11__215), .int (nI y12__125), .int (nI y13__126), .ref a14, .ref a15, .ref a16, .ref a17, .int f18, .int f19, .ref a20, .ref a21, .int (nI u22), .ref a23, .ref a24, .ref a25, .int (nI u26), .int f27, .ref a28, .int (nI u29)])), (a0, .inl (κ 0, 21375, .inl w)), (a5, .inl (κ 0, 800, .inl tp)), (a14, .inl (κ 0, 189, .inl g_a14__127)), (a15, .inl (κ 0, 9, .inl g_a15__128)), (a16, .inl (κ 0, 9, .inl g_a16__129)), (a17, .inl (κ 0, 7123, .inl g_a17__206))] := hD.sub [6, 0, 1, 2, 3, 4, 5] (by decide) rfl
                  replace hp_216 : y11__124 ≤ y11__215 ∧ y11__215 ≤ u6 := hp_216
                  obtain ⟨h_217, h_218⟩ := hp_216
                  refine W.eq (g2 := F0 m 185 ls []) rfl ?_
                  refine lv_aload_n hx hb dX12_readsTable_185 rfl (lv_at hl 2 rfl) ?_
                  refine va_get (D := D) (ci := 12) (v := .int (nI y11__215)) (C := RX12) (T := TX12) (N := 30) hx hb hts inlX12 hown hK hP 0 rfl rfl 11 (by decide) (hts _ mw_423) (fun _ h9 => h9) rfl dX12_readsTable_186 ?_
                  refine lv_iload_n hx hb dX12_readsTable_189 rfl (lv_at hl 1 rfl) ?_
                  refine lv_icmp_ne (tgt := 195) hx hb dX12_readsTable_190 (by decide) (fun c_219 => ?_) (fun c_219 => ?_)
                  · have nc_219 := cv_ne (a := y11__215) (b := y11__5) (by omega) (by omega) c_219
                    refine lv_goto (tgt := 34) hx hb dX12_readsTable_195 (by decide) ?_
                    exact ih34 _ _ _ _ (by omega) ⟨y7__203, y8__204, y9__205, y11__215, y12__125, y13__126, g_a14__127, g_a15__128, g_a16__129, g_a17__206, (by omega), (by assumption), (by omega), (by omega), hph, h_135, h_136, h_137, h_210, rfl, hP, hD, hS, lv_sub hl [2] rfl⟩
                  · have nc_219 := cv_eq (a := y11__215) (b := y11__5) (by omega) (by omega) c_219
                    refine lv_iconst (v := 1) hx hb dX12_readsTable_193 (by decide) ?_
                    exact ct_iret hx hb hr hlk rfl hS hP hD (1, y7__203, y8__204, y9__205, y11__215, y12__125, y13__126, g_a14__127, g_a15__128, g_a16__129, g_a17__206) rfl ⟨(show PF y8__204 from (by assumption)), (show y12__125 ≤ 8 from (by first | assumption | omega)), (show y13__126 ≤ 800 from (by first | assumption | omega)), (show Pfd g_a14__127 from (by first | assumption | omega)), (show Pb 9 800 g_a15__128 from (by first | assumption | omega)), (show Pb 9 800 g_a16__129 from (by first | assumption | omega)), (show Pd g_a17__206 from (by first | assumption | omega)), (by exact Or.inl (rfl))⟩ [0, 1, 2, 3, 4, 5, 6] rfl (by decide) trivial (Nat.le_of_ble_eq_true rfl) (Nat.le_of_ble_eq_true rfl) dX12_readsTable_194
                · refine W.eq (g2 := F0 m 115 ls [.int 0]) rfl ?_
                  refine lv_if_ne (tgt := 181) hx hb dX12_readsTable_115 (by decide) (fun c_220 => absurd c_220 (by decide)) (fun c_220 => ?_)
                  refine lv_iconst (v := 0) hx hb dX12_readsTable_118 (by decide) ?_
                  exact ct_iret hx hb hr hlk rfl hS hP hD (0, y7__203, y8__204, y9__205, y11__124, y12__125, y13__126, g_a14__127, g_a15__128, g_a16__129, g_a17__206) rfl ⟨(show PF y8__204 from (by assumption)), (show y12__125 ≤ 8 from (by first | assumption | omega)), (show y13__126 ≤ 800 from (by first | assumption | omega)), (show Pfd g_a14__127 from (by first | assumption | omega)), (show Pb 9 800 g_a15__128 from (by first | assumption | omega)), (show Pb 9 800 g_a16__129 from (by first | assumption | omega)), (show Pd g_a17__206 from (by first | assumption | omega)), (by exact Or.inr ((rfl)))⟩ [0, 1, 2, 3, 4, 5, 6] rfl (by decide) trivial (Nat.le_of_ble_eq_true rfl) (Nat.le_of_ble_eq_true rfl) dX12_readsTable_119
          · refine W.eq (g2 := F0 m 75 ls [.int 0]) rfl ?_
            refine lv_if_ne (tgt := 80) hx hb dX12_readsTable_75 (by decide) (fun c_221 => absurd c_221 (by decide)) (fun c_221 => ?_)
            refine lv_iconst (v := 0) hx hb dX12_readsTable_78 (by decide) ?_
            exact ct_iret hx hb hr hlk rfl hS hP hD (0, y7__121, y8__122, y9__123, y11__124, y12__125, y13__126, g_a14__127, g_a15__128, g_a16__129, ga17_34) rfl ⟨(show PF y8__122 from (by assumption)), (show y12__125 ≤ 8 from (by first | assumption | omega)), (show y13__126 ≤ 800 from (by first | assumption | omega)), (show Pfd g_a14__127 from (by first | assumption | omega)), (show Pb 9 800 g_a15__128 from (by first | assumption | omega)), (show Pb 9 800 g_a16__129 from (by first | assumption | omega)), (show Pd ga17_34 from (by first | assumption | omega)), (by exact Or.inr ((rfl)))⟩ [0, 1, 2, 3, 4, 5, 6] rfl (by decide) trivial (Nat.le_of_ble_eq_true rfl) (Nat.le_of_ble_eq_true rfl) dX12_readsTable_79
        · have nc_119 := cv_eq (a := n_118) (b := 40) (by omega) (by omega) c_119
          refine lv_aload_n hx hb dX12_readsTable_66 rfl (lv_at hl 1 rfl) ?_
          refine ct_V (wr := [(a14, .inl (κ 0, 189, .inl ga14_34)), (a15, .inl (κ 0, 9, .inl ga15_34)), (a16, .inl (κ 0, 9, .inl ga16_34)), (a17, .inl (κ 0, 7123, .inl ga17_34))]) (As := []) (rest := []) hFX hKK hP hD hS hA (s_X12_tooMuch l D κ m0 a0 a1 a2 u3 f4 a5 u6 v7_34 v8_34 v9_34 f10 y11__5 v12_34 v13_34 a14 a15 a16 a17 f18 f19 a20 a21 u22 a23 a24 a25 u26 f27 a28 u29 w tp (by omega) h_a0 (by omega)) 0 gV_X12_255 hdV_X12_tooMuch ⟨Nat.le_of_ble_eq_true rfl, Nat.le_of_ble_eq_true rfl⟩ rfl rfl (Nat.le_of_ble_eq_true rfl) dX12_readsTable_67 ⟨Nat.le_of_ble_eq_true rfl, Nat.le_of_ble_eq_true rfl⟩ hl.1 [0, 1, 2] [3, 4, 5, 6] rfl rfl (by decide) (by decide) (by decide) 0 12 rfl rfl rfl trivial (fun u_226 H locs hp_227 _ hP hD hS hz_ hk_ => ?_)
          obtain ⟨r__222, y7__223, y8__224, y9__225⟩ := u_226
          replace hP : va_P D vwCl [(m0, .inr (12, [.ref a0, .ref a1, .ref a2, .int (nI u3), .int f4, .ref a5, .int (nI u6), .int y7__223, .int y8__224, .int y9__225, .int f10, .int (nI y11__5), .int (nI v12_34), .int (nI v13_34), .ref a14, .ref a15, .ref a16, .ref a17, .int f18, .int f19, .ref a20, .ref a21, .int (nI u22), .ref a23, .ref a24, .ref a25, .int (nI u26), .int f27, .ref a28, .int (nI u29)])), (a0, .inl (κ 0, 21375, .inl w)), (a5, .inl (κ 0, 800, .inl tp)), (a14, .inl (κ 0, 189, .inl ga14_34)), (a15, .inl (κ 0, 9, .inl ga15_34)), (a16, .inl (κ 0, 9, .inl ga16_34)), (a17, .inl (κ 0, 7123, .inl ga17_34))] H := hP.sub [4, 5, 6, 0, 1, 2, 3] rfl
          replace hD : va_D A [(m0, .inr (12, [.ref a0, .ref a1, .ref a2, .int (nI u3), .int f4, .ref a5, .int (nI u6), .int y7__223, .int y8__224, .int y9__225, .int f10, .int (nI y11__5), .int (nI v12_34), .int (nI v13_34), .ref a14, .ref a15, .ref a16, .ref a17, .int f18, .int f19, .ref a20, .ref a21, .int (nI u22), .ref a23, .ref a24, .ref a25, .int (nI u26), .int f27, .ref a28, .int (nI u29)])), (a0, .inl (κ 0, 21375, .inl w)), (a5, .inl (κ 0, 800, .inl tp)), (a14, .inl (κ 0, 189, .inl ga14_34)), (a15, .inl (κ 0, 9, .inl ga15_34)), (a16, .inl (κ 0, 9, .inl ga16_34)), (a17, .inl (κ 0, 7123, .inl ga17_34))] := hD.sub [4, 5, 6, 0, 1, 2, 3] (by decide) rfl
          replace hp_227 : PF y8__224 ∧ (r__222 = 0) := hp_227
          obtain ⟨h_228, ha_229⟩ := hp_227
          rcases ha_229 with rfl
          · refine W.eq (g2 := F0 m 70 ls [.int 0]) rfl ?_
            exact ct_iret hx hb hr hlk rfl hS hP hD (0, y7__223, y8__224, y9__225, y11__5, v12_34, v13_34, ga14_34, ga15_34, ga16_34, ga17_34) rfl ⟨(show PF y8__224 from (by assumption)), (show v12_34 ≤ 8 from (by first | assumption | omega)), (show v13_34 ≤ 800 from (by first | assumption | omega)), (show Pfd ga14_34 from (by first | assumption | omega)), (show Pb 9 800 ga15_34 from (by first | assumption | omega)), (show Pb 9 800 ga16_34 from (by first | assumption | omega)), (show Pd ga17_34 from (by first | assumption | omega)), (by exact Or.inr ((rfl)))⟩ [0, 1, 2, 3, 4, 5, 6] rfl (by decide) trivial (Nat.le_of_ble_eq_true rfl) (Nat.le_of_ble_eq_true rfl) dX12_readsTable_70
    · refine W.eq (g2 := F0 m 38 ls [.int 0]) rfl ?_
      refine lv_if_eq (tgt := 198) hx hb dX12_readsTable_38 (by decide) (fun c_230 => ?_) (fun c_230 => absurd (by decide) c_230)
      refine lv_aload_n hx hb dX12_readsTable_198 rfl (lv_at hl 0 rfl) ?_
      refine va_get (D := D) (ci := 12) (v := .ref a17) (C := RX12) (T := TX12) (N := 30) hx hb hts inlX12 hown hK hP 0 rfl rfl 17 (by decide) (hts _ mw_197) (fun _ h9 => h9) rfl dX12_readsTable_199 ?_
      refine lv_iconst (v := 1) hx hb dX12_readsTable_202 (by decide) ?_
      refine va_iald hx hb hK hP 6 0 rfl rfl (i := 1) (vp_k (by decide)) dX12_readsTable_203 ?_
      obtain ⟨n_231, hn_231, en_231⟩ : ∃ n9 : Nat, n9 ≤ 8 ∧ ga17_34 1 = nI n9 := id (hg34_3 _ _ (by omega) (mN (t := 0) (by omega) (by omega)))
      refine kv (v := .int (nI n_231)) (congrArg Value.int en_231) ?_
      refine lv_if_gt (tgt := 221) hx hb dX12_readsTable_204 (by decide) (fun c_232 => ?_) (fun c_232 => ?_)
      · have nc_232 := cv_lt (a := 0) (b := n_231) (by omega) (by omega) c_232
        refine lv_iconst (v := 1) hx hb dX12_readsTable_221 (by decide) ?_
        refine lv_goto (tgt := 226) hx hb dX12_readsTable_222 (by decide) ?_
        exact ct_iret hx hb hr hlk rfl hS hP hD (1, v7_34, v8_34, v9_34, y11__5, v12_34, v13_34, ga14_34, ga15_34, ga16_34, ga17_34) rfl ⟨(show PF v8_34 from (by assumption)), (show v12_34 ≤ 8 from (by first | assumption | omega)), (show v13_34 ≤ 800 from (by first | assumption | omega)), (show Pfd ga14_34 from (by first | assumption | omega)), (show Pb 9 800 ga15_34 from (by first | assumption | omega)), (show Pb 9 800 ga16_34 from (by first | assumption | omega)), (show Pd ga17_34 from (by first | assumption | omega)), (by exact Or.inl (rfl))⟩ [0, 1, 2, 3, 4, 5, 6] rfl (by decide) trivial (Nat.le_of_ble_eq_true rfl) (Nat.le_of_ble_eq_true rfl) dX12_readsTable_226
      · have nc_232 := cv_nlt (a := 0) (b := n_231) (by omega) (by omega) c_232
        refine lv_aload_n hx hb dX12_readsTable_207 rfl (lv_at hl 0 rfl) ?_
        refine lv_bipush (v := 9) hx hb dX12_readsTable_208 (by decide) ?_
        refine lv_aload_n hx hb dX12_readsTable_210 rfl (lv_at hl 0 rfl) ?_
        refine va_get (D := D) (ci := 12) (v := .int (nI u6)) (C := RX12) (T := TX12) (N := 30) hx hb hts inlX12 hown hK hP 0 rfl rfl 6 (by decide) (hts _ mw_236) (fun _ h9 => h9) rfl dX12_readsTable_211 ?_
        refine lv_iconst (v := (-1)) hx hb dX12_readsTable_214 (by decide) ?_
        refine ct_V (wr := [(a0, .inl (κ 0, 21375, .inl w)), (a5, .inl (κ 0, 800, .inl tp)), (a14, .inl (κ 0, 189, .inl ga14_34)), (a15, .inl (κ 0, 9, .inl ga15_34)), (a16, .inl (κ 0, 9, .inl ga16_34)), (a17, .inl (κ 0, 7123, .inl ga17_34))]) (As := [.int 9, .int (nI u6), .int (-1)]) (rest := []) hFX hKK hP hD hS hA (s_X12_wrong l D κ m0 a0 a1 a2 u3 f4 a5 u6 v7_34 v8_34 v9_34 f10 y11__5 v12_34 v13_34 a14 a15 a16 a17 f18 f19 a20 a21 u22 a23 a24 a25 u26 f27 a28 u29 9 (nI u6) (-1)) 3 gV_X12_210 hdV_X12_wrong ⟨Nat.le_of_ble_eq_true rfl, Nat.le_of_ble_eq_true rfl⟩ rfl rfl (Nat.le_of_ble_eq_true rfl) dX12_readsTable_215 ⟨Nat.le_of_ble_eq_true rfl, Nat.le_of_ble_eq_true rfl⟩ hl.1 [0] [1, 2, 3, 4, 5, 6] rfl rfl (by decide) (by decide) (by decide) 0 12 rfl rfl rfl trivial (fun _ H locs hp_233 _ hP hD hS hz_ hk_ => ?_)
        replace hP : va_P D vwCl [(m0, .inr (12, [.ref a0, .ref a1, .ref a2, .int (nI u3), .int f4, .ref a5, .int (nI u6), .int 9, .int (nI u6), .int (-1), .int f10, .int (nI y11__5), .int (nI v12_34), .int (nI v13_34), .ref a14, .ref a15, .ref a16, .ref a17, .int f18, .int f19, .ref a20, .ref a21, .int (nI u22), .ref a23, .ref a24, .ref a25, .int (nI u26), .int f27, .ref a28, .int (nI u29)])), (a0, .inl (κ 0, 21375, .inl w)), (a5, .inl (κ 0, 800, .inl tp)), (a14, .inl (κ 0, 189, .inl ga14_34)), (a15, .inl (κ 0, 9, .inl ga15_34)), (a16, .inl (κ 0, 9, .inl ga16_34)), (a17, .inl (κ 0, 7123, .inl ga17_34))] H := hP.sub [6, 0, 1, 2, 3, 4, 5] rfl
        replace hD : va_D A [(m0, .inr (12, [.ref a0, .ref a1, .ref a2, .int (nI u3), .int f4, .ref a5, .int (nI u6), .int 9, .int (nI u6), .int (-1), .int f10, .int (nI y11__5), .int (nI v12_34), .int (nI v13_34), .ref a14, .ref a15, .ref a16, .ref a17, .int f18, .int f19, .ref a20, .ref a21, .int (nI u22), .ref a23, .ref a24, .ref a25, .int (nI u26), .int f27, .ref a28, .int (nI u29)])), (a0, .inl (κ 0, 21375, .inl w)), (a5, .inl (κ 0, 800, .inl tp)), (a14, .inl (κ 0, 189, .inl ga14_34)), (a15, .inl (κ 0, 9, .inl ga15_34)), (a16, .inl (κ 0, 9, .inl ga16_34)), (a17, .inl (κ 0, 7123, .inl ga17_34))] := hD.sub [6, 0, 1, 2, 3, 4, 5] (by decide) rfl
        refine W.eq (g2 := F0 m 218 ls [.int 0]) rfl ?_
        refine lv_if_eq (tgt := 225) hx hb dX12_readsTable_218 (by decide) (fun c_234 => ?_) (fun c_234 => absurd (by decide) c_234)
        refine lv_iconst (v := 0) hx hb dX12_readsTable_225 (by decide) ?_
        exact ct_iret hx hb hr hlk rfl hS hP hD (0, 9, nI u6, (-1), y11__5, v12_34, v13_34, ga14_34, ga15_34, ga16_34, ga17_34) rfl ⟨(show PF (nI u6) from (PF_n (by omega))), (show v12_34 ≤ 8 from (by first | assumption | omega)), (show v13_34 ≤ 800 from (by first | assumption | omega)), (show Pfd ga14_34 from (by first | assumption | omega)), (show Pb 9 800 ga15_34 from (by first | assumption | omega)), (show Pb 9 800 ga16_34 from (by first | assumption | omega)), (show Pd ga17_34 from (by first | assumption | omega)), (by exact Or.inr ((rfl)))⟩ [0, 1, 2, 3, 4, 5, 6] rfl (by decide) trivial (Nat.le_of_ble_eq_true rfl) (Nat.le_of_ble_eq_true rfl) dX12_readsTable_226
  · have nc_1 := cv_nle (a := 7123) (b := k1_2) (by omega) (by omega) c_1
    refine lv_aload_n hx hb dX12_readsTable_9 rfl (lv_at hl 1 rfl) ?_
    refine va_get (D := D) (ci := 12) (v := .ref a17) (C := RX12) (T := TX12) (N := 30) hx hb hts inlX12 hown hK hP 0 rfl rfl 17 (by decide) (hts _ mw_197) (fun _ h9 => h9) rfl dX12_readsTable_10 ?_
    refine lv_iload_n hx hb dX12_readsTable_13 rfl (lv_at hl 0 rfl) ?_
    refine lv_iconst (v := 0) hx hb dX12_readsTable_14 (by decide) ?_
    refine va_iast hx hb hK hP hD hS 6 0 rfl rfl (i := nI k1_2) (x := 0) (vp_in_nI (n := k1_2) (by omega) (by omega)) dX12_readsTable_15 (fun H locs hP hD hS => ?_)
    rw [nI_clamp (by omega)] at hP hD
    have hP : va_P D vwCl [(m0, .inr (12, [.ref a0, .ref a1, .ref a2, .int (nI u3), .int f4, .ref a5, .int (nI u6), .int f7, .int f8, .int f9, .int f10, .int (nI u11), .int (nI u12), .int (nI u13), .ref a14, .ref a15, .ref a16, .ref a17, .int f18, .int f19, .ref a20, .ref a21, .int (nI u22), .ref a23, .ref a24, .ref a25, .int (nI u26), .int f27, .ref a28, .int (nI u29)])), (a0, .inl (κ 0, 21375, .inl w)), (a5, .inl (κ 0, 800, .inl tp)), (a14, .inl (κ 0, 189, .inl fd)), (a15, .inl (κ 0, 9, .inl fa)), (a16, .inl (κ 0, 9, .inl pt)), (a17, .inl (κ 0, 7123, .inl (upd ga17_2 k1_2 0)))] H := hP
    have hD : va_D A [(m0, .inr (12, [.ref a0, .ref a1, .ref a2, .int (nI u3), .int f4, .ref a5, .int (nI u6), .int f7, .int f8, .int f9, .int f10, .int (nI u11), .int (nI u12), .int (nI u13), .ref a14, .ref a15, .ref a16, .ref a17, .int f18, .int f19, .ref a20, .ref a21, .int (nI u22), .ref a23, .ref a24, .ref a25, .int (nI u26), .int f27, .ref a28, .int (nI u29)])), (a0, .inl (κ 0, 21375, .inl w)), (a5, .inl (κ 0, 800, .inl tp)), (a14, .inl (κ 0, 189, .inl fd)), (a15, .inl (κ 0, 9, .inl fa)), (a16, .inl (κ 0, 9, .inl pt)), (a17, .inl (κ 0, 7123, .inl (upd ga17_2 k1_2 0)))] := hD
    have hf_236 : Pd (upd ga17_2 k1_2 0) := (PL_put hg2_0 (fun _ _ => ⟨0, Nat.zero_le _, rfl⟩))
    have hq : ∀ i : Nat, i < k1_2 + 1 → (upd ga17_2 k1_2 0) i = nI 0 := (fun i9 h9 => z_ext h9 hl2_1)
    generalize upd ga17_2 k1_2 0 = g_235 at hP hD hf_236 hq
    refine lv_iinc (v := (nI (k1_2 + 1))) (lv' := [(1, .int (nI (k1_2 + 1))), (0, .ref m0)]) hx hb dX12_readsTable_16 hl (k := 0) rfl (nI_i k1_2) (by decide) rfl (fun ls hl => ?_)
    refine lv_goto (tgt := 2) hx hb dX12_readsTable_19 (by decide) ?_
    exact ih2 _ _ _ _ (by omega) ⟨(k1_2 + 1), g_235, (by omega), hq, hf_236, rfl, hP, hD, hS, lv_sub hl [0, 1] rfl⟩
