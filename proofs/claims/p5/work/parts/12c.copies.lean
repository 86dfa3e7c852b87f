/-! copies -/
theorem Rn_cpy {n k R : Nat} {f g : Nat → Int32} (h : Rn n R f) (hk : k ≤ n) {r : Nat} (hr : k ≤ r) : Rn k R (va_cpy f g 0 0 r) := by
  intro i hi
  obtain ⟨j, h1, h2⟩ := h i (by omega)
  refine ⟨j, h1, ?_⟩
  unfold va_cpy
  rw [if_pos (by omega)]
  simpa using h2
theorem Rn_cpr {n k R p r : Nat} {f g : Nat → Int32} (h : Rn n R f) (hk : p + k ≤ n) (hr : k ≤ r) : Rn k R (va_cpy f g p 0 r) := by
  intro i hi
  obtain ⟨j, h1, h2⟩ := h (p + i) (by omega)
  refine ⟨j, h1, ?_⟩
  unfold va_cpy
  rw [if_pos (by omega)]
  simpa using h2
theorem Rn_le {n k R : Nat} {f : Nat → Int32} (h : Rn n R f) (hk : k ≤ n) : Rn k R f := fun i hi => h i (by omega)
theorem dJ7_copyOf_59c91_0 : decode cJ7_copyOf_59c91 0 = .ok (.iload_n 1, 1) := by decide +kernel
theorem dJ7_copyOf_59c91_1 : decode cJ7_copyOf_59c91 1 = .ok (.aload_n 0, 1) := by decide +kernel
theorem dJ7_copyOf_59c91_2 : decode cJ7_copyOf_59c91 2 = .ok (.arraylength, 1) := by decide +kernel
theorem dJ7_copyOf_59c91_3 : decode cJ7_copyOf_59c91 3 = .ok (.if_icmp .ne 11, 3) := by decide +kernel
theorem dJ7_copyOf_59c91_14 : decode cJ7_copyOf_59c91 14 = .ok (.iload_n 1, 1) := by decide +kernel
theorem dJ7_copyOf_59c91_15 : decode cJ7_copyOf_59c91 15 = .ok (.newarray .int, 2) := by decide +kernel
theorem dJ7_copyOf_59c91_17 : decode cJ7_copyOf_59c91 17 = .ok (.astore_n 2, 1) := by decide +kernel
theorem dJ7_copyOf_59c91_18 : decode cJ7_copyOf_59c91 18 = .ok (.aload_n 0, 1) := by decide +kernel
theorem dJ7_copyOf_59c91_19 : decode cJ7_copyOf_59c91 19 = .ok (.iconst 0, 1) := by decide +kernel
theorem dJ7_copyOf_59c91_20 : decode cJ7_copyOf_59c91 20 = .ok (.aload_n 2, 1) := by decide +kernel
theorem dJ7_copyOf_59c91_21 : decode cJ7_copyOf_59c91 21 = .ok (.iconst 0, 1) := by decide +kernel
theorem dJ7_copyOf_59c91_22 : decode cJ7_copyOf_59c91 22 = .ok (.aload_n 0, 1) := by decide +kernel
theorem dJ7_copyOf_59c91_23 : decode cJ7_copyOf_59c91 23 = .ok (.arraylength, 1) := by decide +kernel
theorem dJ7_copyOf_59c91_24 : decode cJ7_copyOf_59c91 24 = .ok (.iload_n 1, 1) := by decide +kernel
theorem dJ7_copyOf_59c91_25 : decode cJ7_copyOf_59c91 25 = .ok (.invokestatic 304, 3) := by decide +kernel
theorem mw_316 : Cond.methodLink RJ7 304 Lib.Math.min.name ∈ wsL_law := lrk_14 _ (List.mem_of_getElem? (i := 4) rfl)
theorem dJ7_copyOf_59c91_28 : decode cJ7_copyOf_59c91 28 = .ok (.invokestatic 150, 3) := by decide +kernel
theorem mw_320 : Cond.methodLink RJ7 150 arraycopyName ∈ wsL_law := lrk_14 _ (List.mem_of_getElem? (i := 8) rfl)
theorem dJ7_copyOf_59c91_31 : decode cJ7_copyOf_59c91 31 = .ok (.aload_n 2, 1) := by decide +kernel
theorem dJ7_copyOf_59c91_32 : decode cJ7_copyOf_59c91 32 = .ok (.areturn, 1) := by decide +kernel
theorem dJ7_copyOf_59c91_6 : decode cJ7_copyOf_59c91 6 = .ok (.aload_n 0, 1) := by decide +kernel
theorem dJ7_copyOf_59c91_7 : decode cJ7_copyOf_59c91 7 = .ok (.invokevirtual 316, 3) := by decide +kernel
theorem mw_1015 : Cond.methodLink RJ7 316 ⟨"[I", "clone", "()Ljava/lang/Object;"⟩ ∈ wsL_law := lrk_43 _ (List.mem_of_getElem? (i := 7) rfl)
theorem mw_1016 : Cond.sameMethod "[I" "java/lang/Object" "clone" "()Ljava/lang/Object;" ∈ wsL_law := lrk_43 _ (List.mem_of_getElem? (i := 8) rfl)
theorem mw_312 : Cond.native ⟨"java/lang/Object", "clone", "()Ljava/lang/Object;"⟩ ∈ wsL_law := lrk_14 _ (List.mem_of_getElem? (i := 0) rfl)
theorem mw_313 : Cond.instanceMethod ⟨"java/lang/Object", "clone", "()Ljava/lang/Object;"⟩ ∈ wsL_law := lrk_14 _ (List.mem_of_getElem? (i := 1) rfl)
theorem mw_1017 : Cond.selects "[I" ⟨"[I", "clone", "()Ljava/lang/Object;"⟩ ⟨"java/lang/Object", "clone", "()Ljava/lang/Object;"⟩ ∈ wsL_law := lrk_43 _ (List.mem_of_getElem? (i := 9) rfl)
theorem dJ7_copyOf_59c91_10 : decode cJ7_copyOf_59c91 10 = .ok (.checkcast 317, 3) := by decide +kernel
theorem mw_1018 : Cond.classLink RJ7 317 "[I" ∈ wsL_law := lrk_43 _ (List.mem_of_getElem? (i := 10) rfl)
theorem dJ7_copyOf_59c91_13 : decode cJ7_copyOf_59c91 13 = .ok (.areturn, 1) := by decide +kernel
theorem dJ7_checkLength_df160_0 : decode cJ7_checkLength_df160 0 = .ok (.iload_n 1, 1) := by decide +kernel
theorem dJ7_checkLength_df160_1 : decode cJ7_checkLength_df160 1 = .ok (.iload_n 0, 1) := by decide +kernel
theorem dJ7_checkLength_df160_2 : decode cJ7_checkLength_df160 2 = .ok (.if_icmp .ge 35, 3) := by decide +kernel
theorem dJ7_checkLength_df160_37 : decode cJ7_checkLength_df160 37 = .ok (.return_, 1) := by decide +kernel
theorem dJ7_copyOfRangeInt_feecc_0 : decode cJ7_copyOfRangeInt_feecc 0 = .ok (.iload_n 1, 1) := by decide +kernel
theorem dJ7_copyOfRangeInt_feecc_1 : decode cJ7_copyOfRangeInt_feecc 1 = .ok (.iload_n 2, 1) := by decide +kernel
theorem dJ7_copyOfRangeInt_feecc_2 : decode cJ7_copyOfRangeInt_feecc 2 = .ok (.invokestatic 343, 3) := by decide +kernel
theorem mw_1089 : Cond.code yJ7_checkLength_df160 cJ7_checkLength_df160 2 none ∈ wsL_law := lrk_46 _ (List.mem_of_getElem? (i := 9) rfl)
theorem mw_1087 : Cond.methodLink RJ7 343 yJ7_checkLength_df160 ∈ wsL_law := lrk_46 _ (List.mem_of_getElem? (i := 7) rfl)
theorem mw_308 : Cond.initialized RJ7 ∈ wsL_law := lrk_13 _ (List.mem_of_getElem? (i := 20) rfl)
theorem mw_1088 : Cond.static yJ7_checkLength_df160 ∈ wsL_law := lrk_46 _ (List.mem_of_getElem? (i := 8) rfl)
theorem gS_J7_343 : GoodIn wsL_law (va_wsS RJ7 343 yJ7_checkLength_df160 (wl yJ7_checkLength_df160 cJ7_checkLength_df160 2 none)) := g_S mw_1087 mw_1088 mw_308 mw_1089
theorem hdS_J7_checkLength_df160 : okD yJ7_checkLength_df160 2 := by decide +kernel
theorem dJ7_copyOfRangeInt_feecc_5 : decode cJ7_copyOfRangeInt_feecc 5 = .ok (.iload_n 2, 1) := by decide +kernel
theorem dJ7_copyOfRangeInt_feecc_6 : decode cJ7_copyOfRangeInt_feecc 6 = .ok (.iload_n 1, 1) := by decide +kernel
theorem dJ7_copyOfRangeInt_feecc_7 : decode cJ7_copyOfRangeInt_feecc 7 = .ok (.isub, 1) := by decide +kernel
theorem dJ7_copyOfRangeInt_feecc_8 : decode cJ7_copyOfRangeInt_feecc 8 = .ok (.istore_n 3, 1) := by decide +kernel
theorem dJ7_copyOfRangeInt_feecc_9 : decode cJ7_copyOfRangeInt_feecc 9 = .ok (.iload_n 3, 1) := by decide +kernel
theorem dJ7_copyOfRangeInt_feecc_10 : decode cJ7_copyOfRangeInt_feecc 10 = .ok (.newarray .int, 2) := by decide +kernel
theorem dJ7_copyOfRangeInt_feecc_12 : decode cJ7_copyOfRangeInt_feecc 12 = .ok (.astore 4, 2) := by decide +kernel
theorem dJ7_copyOfRangeInt_feecc_14 : decode cJ7_copyOfRangeInt_feecc 14 = .ok (.aload_n 0, 1) := by decide +kernel
theorem dJ7_copyOfRangeInt_feecc_15 : decode cJ7_copyOfRangeInt_feecc 15 = .ok (.iload_n 1, 1) := by decide +kernel
theorem dJ7_copyOfRangeInt_feecc_16 : decode cJ7_copyOfRangeInt_feecc 16 = .ok (.aload 4, 2) := by decide +kernel
theorem dJ7_copyOfRangeInt_feecc_18 : decode cJ7_copyOfRangeInt_feecc 18 = .ok (.iconst 0, 1) := by decide +kernel
theorem dJ7_copyOfRangeInt_feecc_19 : decode cJ7_copyOfRangeInt_feecc 19 = .ok (.aload_n 0, 1) := by decide +kernel
theorem dJ7_copyOfRangeInt_feecc_20 : decode cJ7_copyOfRangeInt_feecc 20 = .ok (.arraylength, 1) := by decide +kernel
theorem dJ7_copyOfRangeInt_feecc_21 : decode cJ7_copyOfRangeInt_feecc 21 = .ok (.iload_n 1, 1) := by decide +kernel
theorem dJ7_copyOfRangeInt_feecc_22 : decode cJ7_copyOfRangeInt_feecc 22 = .ok (.isub, 1) := by decide +kernel
theorem dJ7_copyOfRangeInt_feecc_23 : decode cJ7_copyOfRangeInt_feecc 23 = .ok (.iload_n 3, 1) := by decide +kernel
theorem dJ7_copyOfRangeInt_feecc_24 : decode cJ7_copyOfRangeInt_feecc 24 = .ok (.invokestatic 304, 3) := by decide +kernel
theorem dJ7_copyOfRangeInt_feecc_27 : decode cJ7_copyOfRangeInt_feecc 27 = .ok (.invokestatic 150, 3) := by decide +kernel
theorem dJ7_copyOfRangeInt_feecc_30 : decode cJ7_copyOfRangeInt_feecc 30 = .ok (.aload 4, 2) := by decide +kernel
theorem dJ7_copyOfRangeInt_feecc_32 : decode cJ7_copyOfRangeInt_feecc 32 = .ok (.areturn, 1) := by decide +kernel
theorem dJ7_copyOfRange_feecc_0 : decode cJ7_copyOfRange_feecc 0 = .ok (.iload_n 1, 1) := by decide +kernel
theorem dJ7_copyOfRange_feecc_1 : decode cJ7_copyOfRange_feecc 1 = .ok (.ifCond .ne 9, 3) := by decide +kernel
theorem dJ7_copyOfRange_feecc_10 : decode cJ7_copyOfRange_feecc 10 = .ok (.aload_n 0, 1) := by decide +kernel
theorem dJ7_copyOfRange_feecc_11 : decode cJ7_copyOfRange_feecc 11 = .ok (.iload_n 1, 1) := by decide +kernel
theorem dJ7_copyOfRange_feecc_12 : decode cJ7_copyOfRange_feecc 12 = .ok (.iload_n 2, 1) := by decide +kernel
theorem dJ7_copyOfRange_feecc_13 : decode cJ7_copyOfRange_feecc 13 = .ok (.invokestatic 351, 3) := by decide +kernel
theorem mw_1086 : Cond.code yJ7_copyOfRangeInt_feecc cJ7_copyOfRangeInt_feecc 5 (some (.array .int)) ∈ wsL_law := lrk_46 _ (List.mem_of_getElem? (i := 6) rfl)
theorem mw_1084 : Cond.methodLink RJ7 351 yJ7_copyOfRangeInt_feecc ∈ wsL_law := lrk_46 _ (List.mem_of_getElem? (i := 4) rfl)
theorem mw_1085 : Cond.static yJ7_copyOfRangeInt_feecc ∈ wsL_law := lrk_46 _ (List.mem_of_getElem? (i := 5) rfl)
theorem gS_J7_351 : GoodIn wsL_law (va_wsS RJ7 351 yJ7_copyOfRangeInt_feecc (wl yJ7_copyOfRangeInt_feecc cJ7_copyOfRangeInt_feecc 5 (some (.array .int)))) := g_S mw_1084 mw_1085 mw_308 mw_1086
theorem hdS_J7_copyOfRangeInt_feecc : okD yJ7_copyOfRangeInt_feecc 3 := by decide +kernel
theorem dJ7_copyOfRange_feecc_16 : decode cJ7_copyOfRange_feecc 16 = .ok (.areturn, 1) := by decide +kernel
theorem dJ7_copyOfRange_feecc_4 : decode cJ7_copyOfRange_feecc 4 = .ok (.iload_n 2, 1) := by decide +kernel
theorem dJ7_copyOfRange_feecc_5 : decode cJ7_copyOfRange_feecc 5 = .ok (.aload_n 0, 1) := by decide +kernel
theorem dJ7_copyOfRange_feecc_6 : decode cJ7_copyOfRange_feecc 6 = .ok (.arraylength, 1) := by decide +kernel
theorem dJ7_copyOfRange_feecc_7 : decode cJ7_copyOfRange_feecc 7 = .ok (.if_icmp .eq 10, 3) := by decide +kernel
theorem dJ7_copyOfRange_feecc_17 : decode cJ7_copyOfRange_feecc 17 = .ok (.aload_n 0, 1) := by decide +kernel
theorem dJ7_copyOfRange_feecc_18 : decode cJ7_copyOfRange_feecc 18 = .ok (.invokevirtual 316, 3) := by decide +kernel
theorem dJ7_copyOfRange_feecc_21 : decode cJ7_copyOfRange_feecc 21 = .ok (.checkcast 317, 3) := by decide +kernel
theorem dJ7_copyOfRange_feecc_24 : decode cJ7_copyOfRange_feecc 24 = .ok (.areturn, 1) := by decide +kernel
theorem dJ7_copyOf_9075b_0 : decode cJ7_copyOf_9075b 0 = .ok (.iload_n 1, 1) := by decide +kernel
theorem dJ7_copyOf_9075b_1 : decode cJ7_copyOf_9075b 1 = .ok (.aload_n 0, 1) := by decide +kernel
theorem dJ7_copyOf_9075b_2 : decode cJ7_copyOf_9075b 2 = .ok (.arraylength, 1) := by decide +kernel
theorem dJ7_copyOf_9075b_3 : decode cJ7_copyOf_9075b 3 = .ok (.if_icmp .ne 11, 3) := by decide +kernel
theorem dJ7_copyOf_9075b_14 : decode cJ7_copyOf_9075b 14 = .ok (.iload_n 1, 1) := by decide +kernel
theorem dJ7_copyOf_9075b_15 : decode cJ7_copyOf_9075b 15 = .ok (.newarray .byte, 2) := by decide +kernel
theorem dJ7_copyOf_9075b_17 : decode cJ7_copyOf_9075b 17 = .ok (.astore_n 2, 1) := by decide +kernel
theorem dJ7_copyOf_9075b_18 : decode cJ7_copyOf_9075b 18 = .ok (.aload_n 0, 1) := by decide +kernel
theorem dJ7_copyOf_9075b_19 : decode cJ7_copyOf_9075b 19 = .ok (.iconst 0, 1) := by decide +kernel
theorem dJ7_copyOf_9075b_20 : decode cJ7_copyOf_9075b 20 = .ok (.aload_n 2, 1) := by decide +kernel
theorem dJ7_copyOf_9075b_21 : decode cJ7_copyOf_9075b 21 = .ok (.iconst 0, 1) := by decide +kernel
theorem dJ7_copyOf_9075b_22 : decode cJ7_copyOf_9075b 22 = .ok (.aload_n 0, 1) := by decide +kernel
theorem dJ7_copyOf_9075b_23 : decode cJ7_copyOf_9075b 23 = .ok (.arraylength, 1) := by decide +kernel
theorem dJ7_copyOf_9075b_24 : decode cJ7_copyOf_9075b 24 = .ok (.iload_n 1, 1) := by decide +kernel
theorem dJ7_copyOf_9075b_25 : decode cJ7_copyOf_9075b 25 = .ok (.invokestatic 304, 3) := by decide +kernel
theorem dJ7_copyOf_9075b_28 : decode cJ7_copyOf_9075b 28 = .ok (.invokestatic 150, 3) := by decide +kernel
theorem dJ7_copyOf_9075b_31 : decode cJ7_copyOf_9075b 31 = .ok (.aload_n 2, 1) := by decide +kernel
theorem dJ7_copyOf_9075b_32 : decode cJ7_copyOf_9075b 32 = .ok (.areturn, 1) := by decide +kernel
theorem dJ7_copyOf_9075b_6 : decode cJ7_copyOf_9075b 6 = .ok (.aload_n 0, 1) := by decide +kernel
theorem dJ7_copyOf_9075b_7 : decode cJ7_copyOf_9075b 7 = .ok (.invokevirtual 310, 3) := by decide +kernel
theorem mw_310 : Cond.methodLink RJ7 310 ⟨"[B", "clone", "()Ljava/lang/Object;"⟩ ∈ wsL_law := lrk_13 _ (List.mem_of_getElem? (i := 22) rfl)
theorem mw_311 : Cond.sameMethod "[B" "java/lang/Object" "clone" "()Ljava/lang/Object;" ∈ wsL_law := lrk_13 _ (List.mem_of_getElem? (i := 23) rfl)
theorem mw_314 : Cond.selects "[B" ⟨"[B", "clone", "()Ljava/lang/Object;"⟩ ⟨"java/lang/Object", "clone", "()Ljava/lang/Object;"⟩ ∈ wsL_law := lrk_14 _ (List.mem_of_getElem? (i := 2) rfl)
theorem dJ7_copyOf_9075b_10 : decode cJ7_copyOf_9075b 10 = .ok (.checkcast 311, 3) := by decide +kernel
theorem mw_315 : Cond.classLink RJ7 311 "[B" ∈ wsL_law := lrk_14 _ (List.mem_of_getElem? (i := 3) rfl)
theorem dJ7_copyOf_9075b_13 : decode cJ7_copyOf_9075b 13 = .ok (.areturn, 1) := by decide +kernel
theorem dX1_numbered_0 : decode cX1_numbered 0 = .ok (.iload_n 0, 1) := by decide +kernel
theorem dX1_numbered_1 : decode cX1_numbered 1 = .ok (.anewarray 10, 3) := by decide +kernel
theorem mw_355 : Cond.classLink RX1 10 RX1 ∈ wsL_law := lrk_15 _ (List.mem_of_getElem? (i := 19) rfl)
theorem dX1_numbered_4 : decode cX1_numbered 4 = .ok (.astore_n 1, 1) := by decide +kernel
theorem dX1_numbered_5 : decode cX1_numbered 5 = .ok (.iconst 0, 1) := by decide +kernel
theorem dX1_numbered_6 : decode cX1_numbered 6 = .ok (.istore_n 2, 1) := by decide +kernel
theorem dX1_numbered_7 : decode cX1_numbered 7 = .ok (.iload_n 2, 1) := by decide +kernel
theorem dX1_numbered_8 : decode cX1_numbered 8 = .ok (.iload_n 0, 1) := by decide +kernel
theorem dX1_numbered_9 : decode cX1_numbered 9 = .ok (.if_icmp .ge 38, 3) := by decide +kernel
theorem dX1_numbered_12 : decode cX1_numbered 12 = .ok (.iconst 2, 1) := by decide +kernel
theorem dX1_numbered_13 : decode cX1_numbered 13 = .ok (.newarray .byte, 2) := by decide +kernel
theorem dX1_numbered_15 : decode cX1_numbered 15 = .ok (.dup, 1) := by decide +kernel
theorem dX1_numbered_16 : decode cX1_numbered 16 = .ok (.iconst 0, 1) := by decide +kernel
theorem dX1_numbered_17 : decode cX1_numbered 17 = .ok (.bipush 99, 2) := by decide +kernel
theorem dX1_numbered_19 : decode cX1_numbered 19 = .ok (.bastore, 1) := by decide +kernel
theorem dX1_numbered_20 : decode cX1_numbered 20 = .ok (.dup, 1) := by decide +kernel
theorem dX1_numbered_21 : decode cX1_numbered 21 = .ok (.iconst 1, 1) := by decide +kernel
theorem dX1_numbered_22 : decode cX1_numbered 22 = .ok (.bipush 48, 2) := by decide +kernel
theorem dX1_numbered_24 : decode cX1_numbered 24 = .ok (.iload_n 2, 1) := by decide +kernel
theorem dX1_numbered_25 : decode cX1_numbered 25 = .ok (.iadd, 1) := by decide +kernel
theorem dX1_numbered_26 : decode cX1_numbered 26 = .ok (.i2b, 1) := by decide +kernel
theorem dX1_numbered_27 : decode cX1_numbered 27 = .ok (.bastore, 1) := by decide +kernel
theorem dX1_numbered_28 : decode cX1_numbered 28 = .ok (.astore_n 3, 1) := by decide +kernel
theorem dX1_numbered_29 : decode cX1_numbered 29 = .ok (.aload_n 1, 1) := by decide +kernel
theorem dX1_numbered_30 : decode cX1_numbered 30 = .ok (.iload_n 2, 1) := by decide +kernel
theorem dX1_numbered_31 : decode cX1_numbered 31 = .ok (.new 10, 3) := by decide +kernel
theorem mw_330 : Cond.instantiable RX1 2 ∈ wsL_law := lrk_14 _ (List.mem_of_getElem? (i := 18) rfl)
theorem dX1_numbered_34 : decode cX1_numbered 34 = .ok (.dup, 1) := by decide +kernel
theorem dX1_numbered_35 : decode cX1_numbered 35 = .ok (.aload_n 3, 1) := by decide +kernel
theorem dX1_numbered_36 : decode cX1_numbered 36 = .ok (.iconst (-1), 1) := by decide +kernel
theorem dX1_numbered_37 : decode cX1_numbered 37 = .ok (.invokespecial 39, 3) := by decide +kernel
theorem hdI_X1_init : yX1_init.name = "<init>" ∧ okD yX1_init 2 := by decide +kernel
theorem mw_356 : Cond.methodLink RX1 39 yX1_init ∈ wsL_law := lrk_15 _ (List.mem_of_getElem? (i := 20) rfl)
theorem mw_348 : Cond.instanceMethod yX1_init ∈ wsL_law := lrk_15 _ (List.mem_of_getElem? (i := 12) rfl)
theorem mw_349 : Cond.code yX1_init cX1_init 3 none ∈ wsL_law := lrk_15 _ (List.mem_of_getElem? (i := 13) rfl)
theorem dX1_numbered_40 : decode cX1_numbered 40 = .ok (.aastore, 1) := by decide +kernel
theorem dX1_numbered_41 : decode cX1_numbered 41 = .ok (.iinc 2 1, 3) := by decide +kernel
theorem dX1_numbered_44 : decode cX1_numbered 44 = .ok (.goto (-37), 3) := by decide +kernel
theorem dX1_numbered_47 : decode cX1_numbered 47 = .ok (.aload_n 1, 1) := by decide +kernel
theorem dX1_numbered_48 : decode cX1_numbered 48 = .ok (.areturn, 1) := by decide +kernel
set_option maxHeartbeats 4000000 in
set_option maxRecDepth 100000 in
theorem c_copyi_l (l : Launch) (D : va_G) (κ : Nat → ClassId) (κq : Nat → Nat) (b : Nat) (n : Nat) (k : Nat) (R : Nat) (f : Nat → Int32) (hk9 : k ≤ n) (hn4 : n ≤ 40) (hrn : Rn k R f) : Et l yJ7_copyOf_59c91 (wl yJ7_copyOf_59c91 cJ7_copyOf_59c91 3 (some (.array .int))) { frames := 1, cells := 1, slots := 40, locals := 18 } D κ κq [.ref b, .int (nI k)] [(b, .inl (κ 0, n, .inl f))] (fun u9 : Nat × (Nat → Int32) => some (.ref u9.1)) (fun u9 : Nat × (Nat → Int32) => Rn k R u9.2) (fun u9 : Nat × (Nat → Int32) => [(b, .inl (κ 0, n, .inl f)), (u9.1, .inl (κ 0, k, .inl u9.2))]) := by
  refine et_of (by decide +kernel) (Nat.le_of_ble_eq_true rfl) ?_
  intro p e s m args below meth c A ls hx hb hr hml hts hown hlk hin hKK hK hA hP hD hS hE hl
  have hS : va_S A s.heap s.heap [] := hS
  have hP : va_P D vwCl ([(b, .inl (κ 0, n, .inl f))] ++ []) s.heap := hP
  have hD : va_D A ([(b, .inl (κ 0, n, .inl f))] ++ []) := hD
  have hFX : FX p s m args c cJ7_copyOf_59c91 3 RJ7 := ⟨hx, hb, hml, hown, hts⟩
  have hl : lv_has ls 3 [(0, .ref b), (1, .int (nI k))] := hl
  refine lv_iload_n hx hb dJ7_copyOf_59c91_0 rfl (lv_at hl 1 rfl) ?_
  refine lv_aload_n hx hb dJ7_copyOf_59c91_1 rfl (lv_at hl 0 rfl) ?_
  refine va_alen hx hb hK hP 0 0 rfl rfl (v := nI n) rfl dJ7_copyOf_59c91_2 ?_
  refine lv_icmp_ne (tgt := 14) hx hb dJ7_copyOf_59c91_3 (by decide) (fun c_1 => ?_) (fun c_1 => ?_)
  · have nc_1 := cv_ne (a := k) (b := n) (by omega) (by omega) c_1
    refine lv_iload_n hx hb dJ7_copyOf_59c91_14 rfl (lv_at hl 1 rfl) ?_
    refine my_newa (atype := .int) hx hb (hts _ mw_39) rfl hK hP hD hS hA 0 rfl (N' := k) (a0 := (k, .inl (fun _ => 0))) (fun _ => rfl) (nI_pos (by omega)) (nI_clamp (by omega)) (by show k * 4 ≤ _; omega) (Nat.le_of_ble_eq_true rfl) (by show _ ≤ 40; omega) dJ7_copyOf_59c91_15 (fun q_2 H hP hD hS => ?_)
    refine W.widen (k := 1) (n := 40) (Nat.le_refl _) (by omega) ?_
    replace hP : va_P D vwCl ([(b, .inl (κ 0, n, .inl f)), (q_2, .inl (κ 0, k, .inl (fun _ => 0)))] ++ []) H := mvP hP
    replace hD : va_D A ([(b, .inl (κ 0, n, .inl f)), (q_2, .inl (κ 0, k, .inl (fun _ => 0)))] ++ []) := mvD hD
    refine lv_astore_n (lv' := [(2, .ref q_2), (0, .ref b), (1, .int (nI k))]) hx hb dJ7_copyOf_59c91_17 rfl hl (by decide) rfl (fun ls hl => ?_)
    refine lv_aload_n hx hb dJ7_copyOf_59c91_18 rfl (lv_at hl 1 rfl) ?_
    refine lv_iconst (v := 0) hx hb dJ7_copyOf_59c91_19 (by decide) ?_
    refine lv_aload_n hx hb dJ7_copyOf_59c91_20 rfl (lv_at hl 0 rfl) ?_
    refine lv_iconst (v := 0) hx hb dJ7_copyOf_59c91_21 (by decide) ?_
    refine lv_aload_n hx hb dJ7_copyOf_59c91_22 rfl (lv_at hl 1 rfl) ?_
    refine va_alen hx hb hK hP 0 0 rfl rfl (v := nI n) rfl dJ7_copyOf_59c91_23 ?_
    refine lv_iload_n hx hb dJ7_copyOf_59c91_24 rfl (lv_at hl 2 rfl) ?_
    refine va_mmin hx hb (hml.trans hl.1.symm) hown (hts _ mw_316) (hts _ mw_317) (hts _ mw_318) (hts _ mw_319) (Nat.le_of_ble_eq_true rfl) (Nat.le_of_ble_eq_true rfl) (Nat.le_of_ble_eq_true rfl) (Nat.le_of_ble_eq_true rfl) dJ7_copyOf_59c91_25 ?_
    obtain ⟨r_3, hr_3a, hr_3b, hr_3c, er_3⟩ := min_n (a := n) (b := k) (by omega) (by omega)
    refine ki (v := nI r_3) er_3 ?_
    refine W.eq (g2 := F0 m 28 ls [.int (nI r_3), .int 0, .ref q_2, .int 0, .ref b]) rfl ?_
    refine va_copyi hx hb (hml.trans hl.1.symm) hown (hts _ mw_320) (hts _ mw_321) (hts _ mw_322) (hts _ mw_323) hK hP hD hS 0 1 0 0 rfl rfl rfl rfl rfl (sp := 0) (dp := 0) (n := nI r_3) (by decide) (by decide) (nI_pos (by omega)) (by rw [nI_clamp (n := r_3) (by omega)]; show 0 + r_3 ≤ _; omega) (by rw [nI_clamp (n := r_3) (by omega)]; show 0 + r_3 ≤ _; omega) (fun _ _ => rfl) (Nat.le_of_ble_eq_true rfl) (Nat.le_of_ble_eq_true rfl) dJ7_copyOf_59c91_28 (fun H locs hP hD hS => ?_)
    rw [nI_clamp (n := r_3) (by omega)] at hP hD
    have hP : va_P D vwCl ([(b, .inl (κ 0, n, .inl f)), (q_2, .inl (κ 0, k, .inl (va_cpy f (fun _ => 0) 0 0 r_3)))] ++ []) H := hP
    have hD : va_D A ([(b, .inl (κ 0, n, .inl f)), (q_2, .inl (κ 0, k, .inl (va_cpy f (fun _ => 0) 0 0 r_3)))] ++ []) := hD
    refine W.eq (g2 := F0 m 31 ls []) rfl ?_
    refine lv_aload_n hx hb dJ7_copyOf_59c91_31 rfl (lv_at hl 0 rfl) ?_
    exact et_aret hx hb hr (by first | exact Or.inl ⟨_, rfl⟩ | exact Or.inr ⟨_, rfl⟩) hlk (by first | exact Or.inl rfl | exact Or.inr ⟨_, rfl⟩) hS (q_2, va_cpy f (fun _ => 0) 0 0 r_3) rfl (show Rn k R (va_cpy f (fun _ => 0) 0 0 r_3) from (Rn_cpy (Rn_le hrn (Nat.le_refl _)) (Nat.le_refl _) (by omega))) (subP0 hP [0, 1] rfl) (hD.sub [0, 1] (by decide) rfl) (Nat.le_of_ble_eq_true rfl) (Nat.le_of_ble_eq_true rfl) dJ7_copyOf_59c91_32
  · have nc_1 := cv_eq (a := k) (b := n) (by omega) (by omega) c_1
    obtain rfl : n = k := by omega
    refine lv_aload_n hx hb dJ7_copyOf_59c91_6 rfl (lv_at hl 0 rfl) ?_
    refine va_clone hx hb (hml.trans hl.1.symm) hown (hts _ mw_1015) (hts _ mw_1016) (hts _ mw_312) (hts _ mw_313) (hts _ mw_1017) hE.2.2.2.2.2.1 hK hP hD hS hA 0 0 rfl rfl (nm_I hKK) (va_fit (F := fun j => .int (f j)) (fun _ _ => rfl)) (Nat.le_of_ble_eq_true rfl) (Nat.le_of_ble_eq_true rfl) (Nat.le_of_ble_eq_true rfl) (by show _ ≤ 40; omega) dJ7_copyOf_59c91_7 (fun q_4 H _ hP hD hS => ?_)
    refine W.widen (k := 1) (n := 40) (Nat.le_refl _) (by show _ + n ≤ _; omega) ?_
    replace hP : va_P D vwCl ([(b, .inl (κ 0, n, .inl f)), (q_4, .inl (κ 0, n, .inl f))] ++ []) H := mvP hP
    replace hD : va_D A ([(b, .inl (κ 0, n, .inl f)), (q_4, .inl (κ 0, n, .inl f))] ++ []) := mvD hD
    refine W.eq (g2 := F0 m 10 ls [.ref q_4]) rfl ?_
    refine va_castA hx hb hown (hts _ mw_1018) hP 1 rfl (nm_I hKK) dJ7_copyOf_59c91_10 ?_
    exact et_aret hx hb hr (by first | exact Or.inl ⟨_, rfl⟩ | exact Or.inr ⟨_, rfl⟩) hlk (by first | exact Or.inl rfl | exact Or.inr ⟨_, rfl⟩) hS (q_4, f) rfl (show Rn n R f from hrn) (subP0 hP [0, 1] rfl) (hD.sub [0, 1] (by decide) rfl) (Nat.le_of_ble_eq_true rfl) (Nat.le_of_ble_eq_true rfl) dJ7_copyOf_59c91_13
set_option maxHeartbeats 4000000 in
set_option maxRecDepth 100000 in
theorem c_copyi_t (l : Launch) (D : va_G) (κ : Nat → ClassId) (κq : Nat → Nat) (im : va_W) (b : Nat) (n : Nat) (R : Nat) (hix : Ix κ im b n R) : Et l yJ7_copyOf_59c91 (wl yJ7_copyOf_59c91 cJ7_copyOf_59c91 3 (some (.array .int))) { frames := 1, cells := 1, slots := 40, locals := 14 } D κ κq [.ref b, .int (nI n)] ([] ++ im) (fun u9 : Nat × (Nat → Int32) => some (.ref u9.1)) (fun u9 : Nat × (Nat → Int32) => Rn n R u9.2) (fun u9 : Nat × (Nat → Int32) => ([(u9.1, .inl (κ 0, n, .inl u9.2))] ++ im)) := by
  refine et_of (by decide +kernel) (Nat.le_of_ble_eq_true rfl) ?_
  intro p e s m args below meth c A ls hx hb hr hml hts hown hlk hin hKK hK hA hP hD hS hE hl
  have hS : va_S A s.heap s.heap [] := hS
  have hP : va_P D vwCl ([] ++ im) s.heap := hP
  have hD : va_D A ([] ++ im) := hD
  have hFX : FX p s m args c cJ7_copyOf_59c91 3 RJ7 := ⟨hx, hb, hml, hown, hts⟩
  have hl : lv_has ls 3 [(0, .ref b), (1, .int (nI n))] := hl
  obtain ⟨hn_1, f_2, hm_3, hf_4⟩ := id hix
  refine lv_iload_n hx hb dJ7_copyOf_59c91_0 rfl (lv_at hl 1 rfl) ?_
  refine lv_aload_n hx hb dJ7_copyOf_59c91_1 rfl (lv_at hl 0 rfl) ?_
  refine va_alen hx hb hK (oneP (C := []) hP hm_3) 0 0 rfl rfl (v := nI n) rfl dJ7_copyOf_59c91_2 ?_
  refine lv_icmp_ne (tgt := 14) hx hb dJ7_copyOf_59c91_3 (by decide) (fun c_5 => ?_) (fun c_5 => ?_)
  · have nc_5 := cv_ne (a := n) (b := n) (by omega) (by omega) c_5
    omega
  · have nc_5 := cv_eq (a := n) (b := n) (by omega) (by omega) c_5
    refine lv_aload_n hx hb dJ7_copyOf_59c91_6 rfl (lv_at hl 0 rfl) ?_
    obtain ⟨k_6, ek_6⟩ := tl_at [] hm_3
    refine va_clone hx hb (hml.trans hl.1.symm) hown (hts _ mw_1015) (hts _ mw_1016) (hts _ mw_312) (hts _ mw_313) (hts _ mw_1017) hE.2.2.2.2.2.1 hK hP hD hS hA k_6 0 ek_6 rfl (nm_I hKK) (va_fit (F := fun j => .int (f_2 j)) (fun _ _ => rfl)) (Nat.le_of_ble_eq_true rfl) (Nat.le_of_ble_eq_true rfl) (Nat.le_of_ble_eq_true rfl) (by show _ ≤ 40; omega) dJ7_copyOf_59c91_7 (fun q_7 H _ hP hD hS => ?_)
    refine W.widen (k := 1) (n := 40) (Nat.le_refl _) (by show _ + n ≤ _; omega) ?_
    replace hP : va_P D vwCl ([(q_7, .inl (κ 0, n, .inl f_2))] ++ im) H := mvP hP
    replace hD : va_D A ([(q_7, .inl (κ 0, n, .inl f_2))] ++ im) := mvD hD
    refine W.eq (g2 := F0 m 10 ls [.ref q_7]) rfl ?_
    refine va_castA hx hb hown (hts _ mw_1018) hP 0 rfl (nm_I hKK) dJ7_copyOf_59c91_10 ?_
    exact et_aret hx hb hr (by first | exact Or.inl ⟨_, rfl⟩ | exact Or.inr ⟨_, rfl⟩) hlk (by first | exact Or.inl rfl | exact Or.inr ⟨_, rfl⟩) hS (q_7, f_2) rfl (show Rn n R f_2 from hf_4) (subP hP [0] rfl) (subD hD [0] (by decide) rfl) (Nat.le_of_ble_eq_true rfl) (Nat.le_of_ble_eq_true rfl) dJ7_copyOf_59c91_13
set_option maxHeartbeats 4000000 in
set_option maxRecDepth 100000 in
theorem c_J7_checkLength_df160 (l : Launch) (D : va_G) (κ : Nat → ClassId) (κq : Nat → Nat) (i : Nat) (j : Nat) (hij : i ≤ j) (hj4 : j ≤ 40) : Et l yJ7_checkLength_df160 (wl yJ7_checkLength_df160 cJ7_checkLength_df160 2 none) { frames := 0, cells := 0, slots := 0, locals := 0 } D κ κq [.int (nI i), .int (nI j)] [] (fun _ : Unit => none) (fun _ : Unit => True) (fun _ : Unit => []) := by
  refine et_of (by decide +kernel) (Nat.le_of_ble_eq_true rfl) ?_
  intro p e s m args below meth c A ls hx hb hr hml hts hown hlk hin hKK hK hA hP hD hS hE hl
  have hS : va_S A s.heap s.heap [] := hS
  have hP : va_P D vwCl ([] ++ []) s.heap := hP
  have hD : va_D A ([] ++ []) := hD
  have hFX : FX p s m args c cJ7_checkLength_df160 2 RJ7 := ⟨hx, hb, hml, hown, hts⟩
  have hl : lv_has ls 2 [(0, .int (nI i)), (1, .int (nI j))] := hl
  refine lv_iload_n hx hb dJ7_checkLength_df160_0 rfl (lv_at hl 1 rfl) ?_
  refine lv_iload_n hx hb dJ7_checkLength_df160_1 rfl (lv_at hl 0 rfl) ?_
  refine lv_icmp_ge (tgt := 37) hx hb dJ7_checkLength_df160_2 (by decide) (fun c_1 => ?_) (fun c_1 => ?_)
  · have nc_1 := cv_le (a := i) (b := j) (by omega) (by omega) c_1
    exact et_vret hx hb hr hlk hS () rfl trivial (subP0 hP [] rfl) (hD.sub [] (by decide) rfl) (Nat.le_of_ble_eq_true rfl) (Nat.le_of_ble_eq_true rfl) dJ7_checkLength_df160_37
  · have nc_1 := cv_nle (a := i) (b := j) (by omega) (by omega) c_1
    omega
set_option maxHeartbeats 4000000 in
set_option maxRecDepth 100000 in
theorem c_J7_copyOfRangeInt_feecc (l : Launch) (D : va_G) (κ : Nat → ClassId) (κq : Nat → Nat) (im : va_W) (b : Nat) (n : Nat) (R : Nat) (i : Nat) (j : Nat) (hix : Ix κ im b n R) (hij : i ≤ j) (hjn : j ≤ n) : Et l yJ7_copyOfRangeInt_feecc (wl yJ7_copyOfRangeInt_feecc cJ7_copyOfRangeInt_feecc 5 (some (.array .int))) { frames := 1, cells := 1, slots := 40, locals := 21 } D κ κq [.ref b, .int (nI i), .int (nI j)] ([] ++ im) (fun u9 : Nat × (Nat → Int32) => some (.ref u9.1)) (fun u9 : Nat × (Nat → Int32) => Rn (j - i) R u9.2) (fun u9 : Nat × (Nat → Int32) => ([(u9.1, .inl (κ 0, j - i, .inl u9.2))] ++ im)) := by
  refine et_of (by decide +kernel) (Nat.le_of_ble_eq_true rfl) ?_
  intro p e s m args below meth c A ls hx hb hr hml hts hown hlk hin hKK hK hA hP hD hS hE hl
  have hS : va_S A s.heap s.heap [] := hS
  have hP : va_P D vwCl ([] ++ im) s.heap := hP
  have hD : va_D A ([] ++ im) := hD
  have hFX : FX p s m args c cJ7_copyOfRangeInt_feecc 5 RJ7 := ⟨hx, hb, hml, hown, hts⟩
  have hl : lv_has ls 5 [(0, .ref b), (1, .int (nI i)), (2, .int (nI j))] := hl
  obtain ⟨hn_1, f_2, hm_3, hf_4⟩ := id hix
  refine lv_iload_n hx hb dJ7_copyOfRangeInt_feecc_0 rfl (lv_at hl 1 rfl) ?_
  refine lv_iload_n hx hb dJ7_copyOfRangeInt_feecc_1 rfl (lv_at hl 2 rfl) ?_
  refine et_SN (CR := []) (As := [.int (nI i), .int (nI j)]) (rest := []) hFX hKK hE hP hD hS hA (c_J7_checkLength_df160 l D κ κq i j (by omega) (by omega)) 2 gS_J7_343 hdS_J7_checkLength_df160 ⟨Nat.le_of_ble_eq_true rfl, Nat.le_of_ble_eq_true rfl⟩ rfl rfl (Nat.le_of_ble_eq_true rfl) dJ7_copyOfRangeInt_feecc_2 ⟨Nat.le_of_ble_eq_true rfl, Nat.le_of_ble_eq_true rfl⟩ hl.1 [] [] rfl rfl (by decide) (by decide) (by decide) (fun _ H locs hp_5 hP hD hS => ?_)
  refine W.widen (k := 0) (n := 0) (Nat.le_refl _) (Nat.le_refl _) ?_
  replace hP : va_P D vwCl ([] ++ im) H := subP (C := []) hP [] rfl
  replace hD : va_D A ([] ++ im) := subD (C := []) hD [] (by decide) rfl
  refine W.eq (g2 := F0 m 5 ls []) rfl ?_
  refine lv_iload_n hx hb dJ7_copyOfRangeInt_feecc_5 rfl (lv_at hl 2 rfl) ?_
  refine lv_iload_n hx hb dJ7_copyOfRangeInt_feecc_6 rfl (lv_at hl 1 rfl) ?_
  refine lv_isub hx hb dJ7_copyOfRangeInt_feecc_7 ?_
  refine ki (v := (nI (j - i))) (pk_sub (a := j) (b := i) (by omega)) ?_
  refine lv_istore_n (lv' := [(3, .int (nI (j - i))), (0, .ref b), (1, .int (nI i)), (2, .int (nI j))]) hx hb dJ7_copyOfRangeInt_feecc_8 rfl hl (by decide) rfl (fun ls hl => ?_)
  refine lv_iload_n hx hb dJ7_copyOfRangeInt_feecc_9 rfl (lv_at hl 0 rfl) ?_
  refine my_newa (atype := .int) hx hb (hts _ mw_39) rfl hK hP hD hS hA 0 rfl (N' := (j - i)) (a0 := (j - i, .inl (fun _ => 0))) (fun _ => rfl) (nI_pos (by omega)) (nI_clamp (by omega)) (by show (j - i) * 4 ≤ _; omega) (Nat.le_of_ble_eq_true rfl) (by show _ ≤ 40; omega) dJ7_copyOfRangeInt_feecc_10 (fun q_6 H hP hD hS => ?_)
  refine W.widen (k := 1) (n := 40) (Nat.le_refl _) (by omega) ?_
  replace hP : va_P D vwCl ([(q_6, .inl (κ 0, j - i, .inl (fun _ => 0)))] ++ im) H := mvP hP
  replace hD : va_D A ([(q_6, .inl (κ 0, j - i, .inl (fun _ => 0)))] ++ im) := mvD hD
  refine lv_astore (lv' := [(4, .ref q_6), (3, .int (nI (j - i))), (0, .ref b), (1, .int (nI i)), (2, .int (nI j))]) hx hb dJ7_copyOfRangeInt_feecc_12 hl (by decide) rfl (fun ls hl => ?_)
  refine lv_aload_n hx hb dJ7_copyOfRangeInt_feecc_14 rfl (lv_at hl 2 rfl) ?_
  refine lv_iload_n hx hb dJ7_copyOfRangeInt_feecc_15 rfl (lv_at hl 3 rfl) ?_
  refine lv_aload hx hb dJ7_copyOfRangeInt_feecc_16 (lv_at hl 0 rfl) ?_
  refine lv_iconst (v := 0) hx hb dJ7_copyOfRangeInt_feecc_18 (by decide) ?_
  refine lv_aload_n hx hb dJ7_copyOfRangeInt_feecc_19 rfl (lv_at hl 2 rfl) ?_
  refine va_alen hx hb hK (oneP (C := [(q_6, .inl (κ 0, j - i, .inl (fun _ => 0)))]) hP hm_3) 0 0 rfl rfl (v := nI n) rfl dJ7_copyOfRangeInt_feecc_20 ?_
  refine lv_iload_n hx hb dJ7_copyOfRangeInt_feecc_21 rfl (lv_at hl 3 rfl) ?_
  refine lv_isub hx hb dJ7_copyOfRangeInt_feecc_22 ?_
  refine ki (v := (nI (n - i))) (pk_sub (a := n) (b := i) (by omega)) ?_
  refine lv_iload_n hx hb dJ7_copyOfRangeInt_feecc_23 rfl (lv_at hl 1 rfl) ?_
  refine va_mmin hx hb (hml.trans hl.1.symm) hown (hts _ mw_316) (hts _ mw_317) (hts _ mw_318) (hts _ mw_319) (Nat.le_of_ble_eq_true rfl) (Nat.le_of_ble_eq_true rfl) (Nat.le_of_ble_eq_true rfl) (Nat.le_of_ble_eq_true rfl) dJ7_copyOfRangeInt_feecc_24 ?_
  obtain ⟨r_7, hr_7a, hr_7b, hr_7c, er_7⟩ := min_n (a := (n - i)) (b := (j - i)) (by omega) (by omega)
  refine ki (v := nI r_7) er_7 ?_
  refine W.eq (g2 := F0 m 27 ls [.int (nI r_7), .int 0, .ref q_6, .int (nI i), .ref b]) rfl ?_
  obtain ⟨k_8, ek_8⟩ := tl_at [(q_6, .inl (κ 0, j - i, .inl (fun _ => 0)))] hm_3
  refine va_copyi hx hb (hml.trans hl.1.symm) hown (hts _ mw_320) (hts _ mw_321) (hts _ mw_322) (hts _ mw_323) hK hP hD hS k_8 0 0 0 ek_8 rfl rfl rfl rfl (sp := nI i) (dp := 0) (n := nI r_7) (nI_pos (by omega)) (by decide) (nI_pos (by omega)) (by rw [nI_clamp (n := i) (by omega)]; rw [nI_clamp (n := r_7) (by omega)]; show i + r_7 ≤ _; omega) (by rw [nI_clamp (n := r_7) (by omega)]; show 0 + r_7 ≤ _; omega) (fun _ _ => rfl) (Nat.le_of_ble_eq_true rfl) (Nat.le_of_ble_eq_true rfl) dJ7_copyOfRangeInt_feecc_27 (fun H locs hP hD hS => ?_)
  rw [nI_clamp (n := i) (by omega)] at hP hD
  rw [nI_clamp (n := r_7) (by omega)] at hP hD
  have hP : va_P D vwCl ([(q_6, .inl (κ 0, j - i, .inl (va_cpy f_2 (fun _ => 0) i 0 r_7)))] ++ im) H := hP
  have hD : va_D A ([(q_6, .inl (κ 0, j - i, .inl (va_cpy f_2 (fun _ => 0) i 0 r_7)))] ++ im) := hD
  refine W.eq (g2 := F0 m 30 ls []) rfl ?_
  refine lv_aload hx hb dJ7_copyOfRangeInt_feecc_30 (lv_at hl 0 rfl) ?_
  exact et_aret hx hb hr (by first | exact Or.inl ⟨_, rfl⟩ | exact Or.inr ⟨_, rfl⟩) hlk (by first | exact Or.inl rfl | exact Or.inr ⟨_, rfl⟩) hS (q_6, va_cpy f_2 (fun _ => 0) i 0 r_7) rfl (show Rn (j - i) R (va_cpy f_2 (fun _ => 0) i 0 r_7) from (Rn_cpr hf_4 (by omega) (by omega))) (subP hP [0] rfl) (subD hD [0] (by decide) rfl) (Nat.le_of_ble_eq_true rfl) (Nat.le_of_ble_eq_true rfl) dJ7_copyOfRangeInt_feecc_32
set_option maxHeartbeats 4000000 in
set_option maxRecDepth 100000 in
theorem c_J7_copyOfRange_feecc (l : Launch) (D : va_G) (κ : Nat → ClassId) (κq : Nat → Nat) (im : va_W) (b : Nat) (n : Nat) (R : Nat) (i : Nat) (j : Nat) (hix : Ix κ im b n R) (hij : i ≤ j) (hjn : j ≤ n) : Et l yJ7_copyOfRange_feecc (wl yJ7_copyOfRange_feecc cJ7_copyOfRange_feecc 3 (some (.array .int))) { frames := 2, cells := 1, slots := 40, locals := 45 } D κ κq [.ref b, .int (nI i), .int (nI j)] ([] ++ im) (fun u9 : Nat × (Nat → Int32) => some (.ref u9.1)) (fun u9 : Nat × (Nat → Int32) => Rn (j - i) R u9.2) (fun u9 : Nat × (Nat → Int32) => ([(u9.1, .inl (κ 0, j - i, .inl u9.2))] ++ im)) := by
  refine et_of (by decide +kernel) (Nat.le_of_ble_eq_true rfl) ?_
  intro p e s m args below meth c A ls hx hb hr hml hts hown hlk hin hKK hK hA hP hD hS hE hl
  have hS : va_S A s.heap s.heap [] := hS
  have hP : va_P D vwCl ([] ++ im) s.heap := hP
  have hD : va_D A ([] ++ im) := hD
  have hFX : FX p s m args c cJ7_copyOfRange_feecc 3 RJ7 := ⟨hx, hb, hml, hown, hts⟩
  have hl : lv_has ls 3 [(0, .ref b), (1, .int (nI i)), (2, .int (nI j))] := hl
  obtain ⟨hn_1, f_2, hm_3, hf_4⟩ := id hix
  refine lv_iload_n hx hb dJ7_copyOfRange_feecc_0 rfl (lv_at hl 1 rfl) ?_
  refine lv_if_ne (tgt := 10) hx hb dJ7_copyOfRange_feecc_1 (by decide) (fun c_5 => ?_) (fun c_5 => ?_)
  · have nc_5 := cv_ne (a := i) (b := 0) (by omega) (by omega) c_5
    refine lv_aload_n hx hb dJ7_copyOfRange_feecc_10 rfl (lv_at hl 0 rfl) ?_
    refine lv_iload_n hx hb dJ7_copyOfRange_feecc_11 rfl (lv_at hl 1 rfl) ?_
    refine lv_iload_n hx hb dJ7_copyOfRange_feecc_12 rfl (lv_at hl 2 rfl) ?_
    refine et_ST (CR := []) (As := [.ref b, .int (nI i), .int (nI j)]) (rest := []) hFX hKK hE hP hD hS hA (c_J7_copyOfRangeInt_feecc l D κ κq im b n R i j hix (by omega) (by omega)) 3 gS_J7_351 hdS_J7_copyOfRangeInt_feecc ⟨Nat.le_of_ble_eq_true rfl, Nat.le_of_ble_eq_true rfl⟩ rfl rfl (Nat.le_of_ble_eq_true rfl) dJ7_copyOfRange_feecc_13 ⟨Nat.le_of_ble_eq_true rfl, Nat.le_of_ble_eq_true rfl⟩ hl.1 [] [] rfl rfl (by decide) (by decide) (by decide) (fun u_8 H locs hp_9 hP hD hS => ?_)
    refine W.widen (k := 1) (n := 40) (Nat.le_refl _) (Nat.le_refl _) ?_
    obtain ⟨q__6, g__7⟩ := u_8
    replace hP : va_P D vwCl ([(q__6, .inl (κ 0, j - i, .inl g__7))] ++ im) H := subP (C := [(q__6, .inl (κ 0, j - i, .inl g__7))]) hP [0] rfl
    replace hD : va_D A ([(q__6, .inl (κ 0, j - i, .inl g__7))] ++ im) := subD (C := [(q__6, .inl (κ 0, j - i, .inl g__7))]) hD [0] (by decide) rfl
    replace hp_9 : Rn (j - i) R g__7 := hp_9
    have h_10 := hp_9
    clear hp_9
    refine W.eq (g2 := F0 m 16 ls [.ref q__6]) rfl ?_
    exact et_aret hx hb hr (by first | exact Or.inl ⟨_, rfl⟩ | exact Or.inr ⟨_, rfl⟩) hlk (by first | exact Or.inl rfl | exact Or.inr ⟨_, rfl⟩) hS (q__6, g__7) rfl (show Rn (j - i) R g__7 from (by first | assumption | omega | rfl | exact Or.inl (by assumption) | exact Or.inr (by assumption))) (subP hP [0] rfl) (subD hD [0] (by decide) rfl) (Nat.le_of_ble_eq_true rfl) (Nat.le_of_ble_eq_true rfl) dJ7_copyOfRange_feecc_16
  · have nc_5 := cv_eq (a := i) (b := 0) (by omega) (by omega) c_5
    refine lv_iload_n hx hb dJ7_copyOfRange_feecc_4 rfl (lv_at hl 2 rfl) ?_
    refine lv_aload_n hx hb dJ7_copyOfRange_feecc_5 rfl (lv_at hl 0 rfl) ?_
    refine va_alen hx hb hK (oneP (C := []) hP hm_3) 0 0 rfl rfl (v := nI n) rfl dJ7_copyOfRange_feecc_6 ?_
    refine lv_icmp_eq (tgt := 17) hx hb dJ7_copyOfRange_feecc_7 (by decide) (fun c_11 => ?_) (fun c_11 => ?_)
    · have nc_11 := cv_eq (a := j) (b := n) (by omega) (by omega) c_11
      obtain rfl : n = j := by omega
      obtain rfl : 0 = i := by omega
      refine lv_aload_n hx hb dJ7_copyOfRange_feecc_17 rfl (lv_at hl 0 rfl) ?_
      obtain ⟨k_12, ek_12⟩ := tl_at [] hm_3
      refine va_clone hx hb (hml.trans hl.1.symm) hown (hts _ mw_1015) (hts _ mw_1016) (hts _ mw_312) (hts _ mw_313) (hts _ mw_1017) hE.2.2.2.2.2.1 hK hP hD hS hA k_12 0 ek_12 rfl (nm_I hKK) (va_fit (F := fun j => .int (f_2 j)) (fun _ _ => rfl)) (Nat.le_of_ble_eq_true rfl) (Nat.le_of_ble_eq_true rfl) (Nat.le_of_ble_eq_true rfl) (by show _ ≤ 40; omega) dJ7_copyOfRange_feecc_18 (fun q_13 H _ hP hD hS => ?_)
      refine W.widen (k := 1) (n := 40) (Nat.le_refl _) (by show _ + n ≤ _; omega) ?_
      replace hP : va_P D vwCl ([(q_13, .inl (κ 0, n, .inl f_2))] ++ im) H := mvP hP
      replace hD : va_D A ([(q_13, .inl (κ 0, n, .inl f_2))] ++ im) := mvD hD
      refine W.eq (g2 := F0 m 21 ls [.ref q_13]) rfl ?_
      refine va_castA hx hb hown (hts _ mw_1018) hP 0 rfl (nm_I hKK) dJ7_copyOfRange_feecc_21 ?_
      exact et_aret hx hb hr (by first | exact Or.inl ⟨_, rfl⟩ | exact Or.inr ⟨_, rfl⟩) hlk (by first | exact Or.inl rfl | exact Or.inr ⟨_, rfl⟩) hS (q_13, f_2) rfl (show Rn (n - 0) R f_2 from hf_4) (subP hP [0] rfl) (subD hD [0] (by decide) rfl) (Nat.le_of_ble_eq_true rfl) (Nat.le_of_ble_eq_true rfl) dJ7_copyOfRange_feecc_24
    · have nc_11 := cv_ne (a := j) (b := n) (by omega) (by omega) c_11
      refine lv_aload_n hx hb dJ7_copyOfRange_feecc_10 rfl (lv_at hl 0 rfl) ?_
      refine lv_iload_n hx hb dJ7_copyOfRange_feecc_11 rfl (lv_at hl 1 rfl) ?_
      refine lv_iload_n hx hb dJ7_copyOfRange_feecc_12 rfl (lv_at hl 2 rfl) ?_
      refine et_ST (CR := []) (As := [.ref b, .int (nI i), .int (nI j)]) (rest := []) hFX hKK hE hP hD hS hA (c_J7_copyOfRangeInt_feecc l D κ κq im b n R i j hix (by omega) (by omega)) 3 gS_J7_351 hdS_J7_copyOfRangeInt_feecc ⟨Nat.le_of_ble_eq_true rfl, Nat.le_of_ble_eq_true rfl⟩ rfl rfl (Nat.le_of_ble_eq_true rfl) dJ7_copyOfRange_feecc_13 ⟨Nat.le_of_ble_eq_true rfl, Nat.le_of_ble_eq_true rfl⟩ hl.1 [] [] rfl rfl (by decide) (by decide) (by decide) (fun u_16 H locs hp_17 hP hD hS => ?_)
      refine W.widen (k := 1) (n := 40) (Nat.le_refl _) (Nat.le_refl _) ?_
      obtain ⟨q__14, g__15⟩ := u_16
      replace hP : va_P D vwCl ([(q__14, .inl (κ 0, j - i, .inl g__15))] ++ im) H := subP (C := [(q__14, .inl (κ 0, j - i, .inl g__15))]) hP [0] rfl
      replace hD : va_D A ([(q__14, .inl (κ 0, j - i, .inl g__15))] ++ im) := subD (C := [(q__14, .inl (κ 0, j - i, .inl g__15))]) hD [0] (by decide) rfl
      replace hp_17 : Rn (j - i) R g__15 := hp_17
      have h_18 := hp_17
      clear hp_17
      refine W.eq (g2 := F0 m 16 ls [.ref q__14]) rfl ?_
      exact et_aret hx hb hr (by first | exact Or.inl ⟨_, rfl⟩ | exact Or.inr ⟨_, rfl⟩) hlk (by first | exact Or.inl rfl | exact Or.inr ⟨_, rfl⟩) hS (q__14, g__15) rfl (show Rn (j - i) R g__15 from (by first | assumption | omega | rfl | exact Or.inl (by assumption) | exact Or.inr (by assumption))) (subP hP [0] rfl) (subD hD [0] (by decide) rfl) (Nat.le_of_ble_eq_true rfl) (Nat.le_of_ble_eq_true rfl) dJ7_copyOfRange_feecc_16
set_option maxHeartbeats 4000000 in
set_option maxRecDepth 100000 in
theorem c_copyb_l (l : Launch) (D : va_G) (κ : Nat → ClassId) (κq : Nat → Nat) (b : Nat) (n : Nat) (k : Nat) (f : Nat → Int32) (hk9 : k ≤ n) (hn4 : n ≤ 20) (hfit : sb_Fit f) : Et l yJ7_copyOf_9075b (wl yJ7_copyOf_9075b cJ7_copyOf_9075b 3 (some (.array .byte))) { frames := 1, cells := 1, slots := 21, locals := 18 } D κ κq [.ref b, .int (nI k)] [(b, .inl (κ 1, n, .inl f))] (fun u9 : Nat × (Nat → Int32) => some (.ref u9.1)) (fun u9 : Nat × (Nat → Int32) => sb_Fit u9.2) (fun u9 : Nat × (Nat → Int32) => [(b, .inl (κ 1, n, .inl f)), (u9.1, .inl (κ 1, k, .inl u9.2))]) := by
  refine et_of (by decide +kernel) (Nat.le_of_ble_eq_true rfl) ?_
  intro p e s m args below meth c A ls hx hb hr hml hts hown hlk hin hKK hK hA hP hD hS hE hl
  have hS : va_S A s.heap s.heap [] := hS
  have hP : va_P D vwCl ([(b, .inl (κ 1, n, .inl f))] ++ []) s.heap := hP
  have hD : va_D A ([(b, .inl (κ 1, n, .inl f))] ++ []) := hD
  have hFX : FX p s m args c cJ7_copyOf_9075b 3 RJ7 := ⟨hx, hb, hml, hown, hts⟩
  have hl : lv_has ls 3 [(0, .ref b), (1, .int (nI k))] := hl
  refine lv_iload_n hx hb dJ7_copyOf_9075b_0 rfl (lv_at hl 1 rfl) ?_
  refine lv_aload_n hx hb dJ7_copyOf_9075b_1 rfl (lv_at hl 0 rfl) ?_
  refine va_alen hx hb hK hP 0 1 rfl rfl (v := nI n) rfl dJ7_copyOf_9075b_2 ?_
  refine lv_icmp_ne (tgt := 14) hx hb dJ7_copyOf_9075b_3 (by decide) (fun c_1 => ?_) (fun c_1 => ?_)
  · have nc_1 := cv_ne (a := k) (b := n) (by omega) (by omega) c_1
    refine lv_iload_n hx hb dJ7_copyOf_9075b_14 rfl (lv_at hl 1 rfl) ?_
    refine my_newa (atype := .byte) hx hb (hts _ mw_69) rfl hK hP hD hS hA 1 rfl (N' := k) (a0 := (k, .inl (fun _ => 0))) (fun _ => rfl) (nI_pos (by omega)) (nI_clamp (by omega)) (by show k * 1 ≤ _; omega) (Nat.le_of_ble_eq_true rfl) (by show _ ≤ 21; omega) dJ7_copyOf_9075b_15 (fun q_2 H hP hD hS => ?_)
    refine W.widen (k := 1) (n := 20) (Nat.le_refl _) (by omega) ?_
    replace hP : va_P D vwCl ([(b, .inl (κ 1, n, .inl f)), (q_2, .inl (κ 1, k, .inl (fun _ => (0 : Int32))))] ++ []) H := mvP hP
    replace hD : va_D A ([(b, .inl (κ 1, n, .inl f)), (q_2, .inl (κ 1, k, .inl (fun _ => (0 : Int32))))] ++ []) := mvD hD
    refine lv_astore_n (lv' := [(2, .ref q_2), (0, .ref b), (1, .int (nI k))]) hx hb dJ7_copyOf_9075b_17 rfl hl (by decide) rfl (fun ls hl => ?_)
    refine lv_aload_n hx hb dJ7_copyOf_9075b_18 rfl (lv_at hl 1 rfl) ?_
    refine lv_iconst (v := 0) hx hb dJ7_copyOf_9075b_19 (by decide) ?_
    refine lv_aload_n hx hb dJ7_copyOf_9075b_20 rfl (lv_at hl 0 rfl) ?_
    refine lv_iconst (v := 0) hx hb dJ7_copyOf_9075b_21 (by decide) ?_
    refine lv_aload_n hx hb dJ7_copyOf_9075b_22 rfl (lv_at hl 1 rfl) ?_
    refine va_alen hx hb hK hP 0 1 rfl rfl (v := nI n) rfl dJ7_copyOf_9075b_23 ?_
    refine lv_iload_n hx hb dJ7_copyOf_9075b_24 rfl (lv_at hl 2 rfl) ?_
    refine va_mmin hx hb (hml.trans hl.1.symm) hown (hts _ mw_316) (hts _ mw_317) (hts _ mw_318) (hts _ mw_319) (Nat.le_of_ble_eq_true rfl) (Nat.le_of_ble_eq_true rfl) (Nat.le_of_ble_eq_true rfl) (Nat.le_of_ble_eq_true rfl) dJ7_copyOf_9075b_25 ?_
    obtain ⟨r_3, hr_3a, hr_3b, hr_3c, er_3⟩ := min_n (a := n) (b := k) (by omega) (by omega)
    refine ki (v := nI r_3) er_3 ?_
    refine W.eq (g2 := F0 m 28 ls [.int (nI r_3), .int 0, .ref q_2, .int 0, .ref b]) rfl ?_
    refine va_copyi hx hb (hml.trans hl.1.symm) hown (hts _ mw_320) (hts _ mw_321) (hts _ mw_322) (hts _ mw_323) hK hP hD hS 0 1 1 1 rfl rfl rfl rfl rfl (sp := 0) (dp := 0) (n := nI r_3) (by decide) (by decide) (nI_pos (by omega)) (by rw [nI_clamp (n := r_3) (by omega)]; show 0 + r_3 ≤ _; omega) (by rw [nI_clamp (n := r_3) (by omega)]; show 0 + r_3 ≤ _; omega) (fun i9 _ => hfit _) (Nat.le_of_ble_eq_true rfl) (Nat.le_of_ble_eq_true rfl) dJ7_copyOf_9075b_28 (fun H locs hP hD hS => ?_)
    rw [nI_clamp (n := r_3) (by omega)] at hP hD
    have hP : va_P D vwCl ([(b, .inl (κ 1, n, .inl f)), (q_2, .inl (κ 1, k, .inl (va_cpy f (fun _ => (0 : Int32)) 0 0 r_3)))] ++ []) H := hP
    have hD : va_D A ([(b, .inl (κ 1, n, .inl f)), (q_2, .inl (κ 1, k, .inl (va_cpy f (fun _ => (0 : Int32)) 0 0 r_3)))] ++ []) := hD
    refine W.eq (g2 := F0 m 31 ls []) rfl ?_
    refine lv_aload_n hx hb dJ7_copyOf_9075b_31 rfl (lv_at hl 0 rfl) ?_
    exact et_aret hx hb hr (by first | exact Or.inl ⟨_, rfl⟩ | exact Or.inr ⟨_, rfl⟩) hlk (by first | exact Or.inl rfl | exact Or.inr ⟨_, rfl⟩) hS (q_2, va_cpy f (fun _ => (0 : Int32)) 0 0 r_3) rfl (show sb_Fit (va_cpy f (fun _ => (0 : Int32)) 0 0 r_3) from (sb_fitC hfit sb_fit0)) (subP0 hP [0, 1] rfl) (hD.sub [0, 1] (by decide) rfl) (Nat.le_of_ble_eq_true rfl) (Nat.le_of_ble_eq_true rfl) dJ7_copyOf_9075b_32
  · have nc_1 := cv_eq (a := k) (b := n) (by omega) (by omega) c_1
    obtain rfl : n = k := by omega
    refine lv_aload_n hx hb dJ7_copyOf_9075b_6 rfl (lv_at hl 0 rfl) ?_
    refine va_clone hx hb (hml.trans hl.1.symm) hown (hts _ mw_310) (hts _ mw_311) (hts _ mw_312) (hts _ mw_313) (hts _ mw_314) hE.2.2.2.2.2.2 hK hP hD hS hA 0 1 rfl rfl (nm_B hKK) (va_fit (F := fun j => .int (f j)) (fun i9 _ => hfit _)) (Nat.le_of_ble_eq_true rfl) (Nat.le_of_ble_eq_true rfl) (Nat.le_of_ble_eq_true rfl) (by show _ ≤ 21; omega) dJ7_copyOf_9075b_7 (fun q_4 H _ hP hD hS => ?_)
    refine W.widen (k := 1) (n := 20) (Nat.le_refl _) (by show _ + n ≤ _; omega) ?_
    replace hP : va_P D vwCl ([(b, .inl (κ 1, n, .inl f)), (q_4, .inl (κ 1, n, .inl f))] ++ []) H := mvP hP
    replace hD : va_D A ([(b, .inl (κ 1, n, .inl f)), (q_4, .inl (κ 1, n, .inl f))] ++ []) := mvD hD
    refine W.eq (g2 := F0 m 10 ls [.ref q_4]) rfl ?_
    refine va_castA hx hb hown (hts _ mw_315) hP 1 rfl (nm_B hKK) dJ7_copyOf_9075b_10 ?_
    exact et_aret hx hb hr (by first | exact Or.inl ⟨_, rfl⟩ | exact Or.inr ⟨_, rfl⟩) hlk (by first | exact Or.inl rfl | exact Or.inr ⟨_, rfl⟩) hS (q_4, f) rfl (show sb_Fit f from hfit) (subP0 hP [0, 1] rfl) (hD.sub [0, 1] (by decide) rfl) (Nat.le_of_ble_eq_true rfl) (Nat.le_of_ble_eq_true rfl) dJ7_copyOf_9075b_13
set_option maxHeartbeats 4000000 in
set_option maxRecDepth 100000 in
theorem c_copyb_t (l : Launch) (D : va_G) (κ : Nat → ClassId) (κq : Nat → Nat) (im : va_W) (b : Nat) (n : Nat) (k : Nat) (hby : By κ im b n) (hnk : n < k) (hk4 : k ≤ 21) : Et l yJ7_copyOf_9075b (wl yJ7_copyOf_9075b cJ7_copyOf_9075b 3 (some (.array .byte))) { frames := 1, cells := 1, slots := 21, locals := 18 } D κ κq [.ref b, .int (nI k)] ([] ++ im) (fun u9 : Nat × (Nat → Int32) => some (.ref u9.1)) (fun u9 : Nat × (Nat → Int32) => sb_Fit u9.2) (fun u9 : Nat × (Nat → Int32) => ([(u9.1, .inl (κ 1, k, .inl u9.2))] ++ im)) := by
  refine et_of (by decide +kernel) (Nat.le_of_ble_eq_true rfl) ?_
  intro p e s m args below meth c A ls hx hb hr hml hts hown hlk hin hKK hK hA hP hD hS hE hl
  have hS : va_S A s.heap s.heap [] := hS
  have hP : va_P D vwCl ([] ++ im) s.heap := hP
  have hD : va_D A ([] ++ im) := hD
  have hFX : FX p s m args c cJ7_copyOf_9075b 3 RJ7 := ⟨hx, hb, hml, hown, hts⟩
  have hl : lv_has ls 3 [(0, .ref b), (1, .int (nI k))] := hl
  obtain ⟨hn_2, f_1, hm_3, hfit_4⟩ := id hby
  refine lv_iload_n hx hb dJ7_copyOf_9075b_0 rfl (lv_at hl 1 rfl) ?_
  refine lv_aload_n hx hb dJ7_copyOf_9075b_1 rfl (lv_at hl 0 rfl) ?_
  refine va_alen hx hb hK (oneP (C := []) hP hm_3) 0 1 rfl rfl (v := nI n) rfl dJ7_copyOf_9075b_2 ?_
  refine lv_icmp_ne (tgt := 14) hx hb dJ7_copyOf_9075b_3 (by decide) (fun c_5 => ?_) (fun c_5 => ?_)
  · have nc_5 := cv_ne (a := k) (b := n) (by omega) (by omega) c_5
    refine lv_iload_n hx hb dJ7_copyOf_9075b_14 rfl (lv_at hl 1 rfl) ?_
    refine my_newa (atype := .byte) hx hb (hts _ mw_69) rfl hK hP hD hS hA 1 rfl (N' := k) (a0 := (k, .inl (fun _ => 0))) (fun _ => rfl) (nI_pos (by omega)) (nI_clamp (by omega)) (by show k * 1 ≤ _; omega) (Nat.le_of_ble_eq_true rfl) (by show _ ≤ 21; omega) dJ7_copyOf_9075b_15 (fun q_6 H hP hD hS => ?_)
    refine W.widen (k := 1) (n := 21) (Nat.le_refl _) (by omega) ?_
    replace hP : va_P D vwCl ([(q_6, .inl (κ 1, k, .inl (fun _ => (0 : Int32))))] ++ im) H := mvP hP
    replace hD : va_D A ([(q_6, .inl (κ 1, k, .inl (fun _ => (0 : Int32))))] ++ im) := mvD hD
    refine lv_astore_n (lv' := [(2, .ref q_6), (0, .ref b), (1, .int (nI k))]) hx hb dJ7_copyOf_9075b_17 rfl hl (by decide) rfl (fun ls hl => ?_)
    refine lv_aload_n hx hb dJ7_copyOf_9075b_18 rfl (lv_at hl 1 rfl) ?_
    refine lv_iconst (v := 0) hx hb dJ7_copyOf_9075b_19 (by decide) ?_
    refine lv_aload_n hx hb dJ7_copyOf_9075b_20 rfl (lv_at hl 0 rfl) ?_
    refine lv_iconst (v := 0) hx hb dJ7_copyOf_9075b_21 (by decide) ?_
    refine lv_aload_n hx hb dJ7_copyOf_9075b_22 rfl (lv_at hl 1 rfl) ?_
    refine va_alen hx hb hK (oneP (C := [(q_6, .inl (κ 1, k, .inl (fun _ => (0 : Int32))))]) hP hm_3) 0 1 rfl rfl (v := nI n) rfl dJ7_copyOf_9075b_23 ?_
    refine lv_iload_n hx hb dJ7_copyOf_9075b_24 rfl (lv_at hl 2 rfl) ?_
    refine va_mmin hx hb (hml.trans hl.1.symm) hown (hts _ mw_316) (hts _ mw_317) (hts _ mw_318) (hts _ mw_319) (Nat.le_of_ble_eq_true rfl) (Nat.le_of_ble_eq_true rfl) (Nat.le_of_ble_eq_true rfl) (Nat.le_of_ble_eq_true rfl) dJ7_copyOf_9075b_25 ?_
    obtain ⟨r_7, hr_7a, hr_7b, hr_7c, er_7⟩ := min_n (a := n) (b := k) (by omega) (by omega)
    refine ki (v := nI r_7) er_7 ?_
    refine W.eq (g2 := F0 m 28 ls [.int (nI r_7), .int 0, .ref q_6, .int 0, .ref b]) rfl ?_
    obtain ⟨k_8, ek_8⟩ := tl_at [(q_6, .inl (κ 1, k, .inl (fun _ => (0 : Int32))))] hm_3
    refine va_copyi hx hb (hml.trans hl.1.symm) hown (hts _ mw_320) (hts _ mw_321) (hts _ mw_322) (hts _ mw_323) hK hP hD hS k_8 0 1 1 ek_8 rfl rfl rfl rfl (sp := 0) (dp := 0) (n := nI r_7) (by decide) (by decide) (nI_pos (by omega)) (by rw [nI_clamp (n := r_7) (by omega)]; show 0 + r_7 ≤ _; omega) (by rw [nI_clamp (n := r_7) (by omega)]; show 0 + r_7 ≤ _; omega) (fun i9 _ => hfit_4 _) (Nat.le_of_ble_eq_true rfl) (Nat.le_of_ble_eq_true rfl) dJ7_copyOf_9075b_28 (fun H locs hP hD hS => ?_)
    rw [nI_clamp (n := r_7) (by omega)] at hP hD
    have hP : va_P D vwCl ([(q_6, .inl (κ 1, k, .inl (va_cpy f_1 (fun _ => (0 : Int32)) 0 0 r_7)))] ++ im) H := hP
    have hD : va_D A ([(q_6, .inl (κ 1, k, .inl (va_cpy f_1 (fun _ => (0 : Int32)) 0 0 r_7)))] ++ im) := hD
    refine W.eq (g2 := F0 m 31 ls []) rfl ?_
    refine lv_aload_n hx hb dJ7_copyOf_9075b_31 rfl (lv_at hl 0 rfl) ?_
    exact et_aret hx hb hr (by first | exact Or.inl ⟨_, rfl⟩ | exact Or.inr ⟨_, rfl⟩) hlk (by first | exact Or.inl rfl | exact Or.inr ⟨_, rfl⟩) hS (q_6, va_cpy f_1 (fun _ => (0 : Int32)) 0 0 r_7) rfl (show sb_Fit (va_cpy f_1 (fun _ => (0 : Int32)) 0 0 r_7) from (sb_fitC hfit_4 sb_fit0)) (subP hP [0] rfl) (subD hD [0] (by decide) rfl) (Nat.le_of_ble_eq_true rfl) (Nat.le_of_ble_eq_true rfl) dJ7_copyOf_9075b_32
  · have nc_5 := cv_eq (a := k) (b := n) (by omega) (by omega) c_5
    omega
set_option maxHeartbeats 4000000 in
set_option maxRecDepth 100000 in
theorem c_X1_numbered (l : Launch) (D : va_G) (κ : Nat → ClassId) (κq : Nat → Nat) (im : va_W) (n : Nat) (h1 : 1 ≤ n) (h8 : n ≤ 8) : Et l yX1_numbered (wl yX1_numbered cX1_numbered 4 (some (.array (.object "TypedTables$Column")))) { frames := 2, cells := 17, slots := 40, locals := 34 } D κ κq [.int (nI n)] ([] ++ im) (fun u9 : Nat × va_W => some (.ref u9.1)) (fun u9 : Nat × va_W => Sb im u9.2 ∧ Ca κ u9.2 u9.1 n) (fun u9 : Nat × va_W => ([] ++ u9.2)) := by
  refine et_of (by decide +kernel) (Nat.le_of_ble_eq_true rfl) ?_
  intro p e s m args below meth c A ls hx hb hr hml hts hown hlk hin hKK hK hA hP hD hS hE hl
  have hS : va_S A s.heap s.heap [] := hS
  have hP : va_P D vwCl ([] ++ im) s.heap := hP
  have hD : va_D A ([] ++ im) := hD
  have hFX : FX p s m args c cX1_numbered 4 RX1 := ⟨hx, hb, hml, hown, hts⟩
  have hl : lv_has ls 4 [(0, .int (nI n))] := hl
  refine lv_iload_n hx hb dX1_numbered_0 rfl (lv_at hl 0 rfl) ?_
  refine my_newq hx hb hown (hts _ mw_355) hKK.2.2.1 hK hP hD hS hA 3 rfl (N' := n) (nI_pos (by omega)) (nI_clamp (by omega)) (by omega) (Nat.le_of_ble_eq_true rfl) (by show _ ≤ 40; omega) dX1_numbered_1 (fun q_1 H hP hD hS => ?_)
  refine W.widen (k := 1) (n := 8) (Nat.le_refl _) (by omega) ?_
  replace hP : va_P D vwCl ([(q_1, .inl (κ 3, n, .inr (.inr (.inr (.inr (fun _ => none))))))] ++ im) H := mvP hP
  replace hD : va_D A ([(q_1, .inl (κ 3, n, .inr (.inr (.inr (.inr (fun _ => none))))))] ++ im) := mvD hD
  refine lv_astore_n (lv' := [(1, .ref q_1), (0, .int (nI n))]) hx hb dX1_numbered_4 rfl hl (by decide) rfl (fun ls hl => ?_)
  refine lv_iconst (v := 0) hx hb dX1_numbered_5 (by decide) ?_
  refine lv_istore_n (lv' := [(2, .int 0), (1, .ref q_1), (0, .int (nI n))]) hx hb dX1_numbered_6 rfl hl (by decide) rfl (fun ls hl => ?_)
  refine lv_iload_n hx hb dX1_numbered_7 rfl (lv_at hl 0 rfl) ?_
  refine lv_iload_n hx hb dX1_numbered_8 rfl (lv_at hl 2 rfl) ?_
  refine lv_icmp_ge (tgt := 47) hx hb dX1_numbered_9 (by decide) (fun c_2 => ?_) (fun c_2 => ?_)
  · have nc_2 := cv_le (a := n) (b := 0) (by omega) (by omega) c_2
    omega
  · have nc_2 := cv_nle (a := n) (b := 0) (by omega) (by omega) c_2
    refine lv_iconst (v := 2) hx hb dX1_numbered_12 (by decide) ?_
    refine my_newa (atype := .byte) hx hb (hts _ mw_69) rfl hK hP hD hS hA 1 rfl (N' := 2) (a0 := (2, .inl (fun _ => 0))) (fun _ => rfl) (by decide) (by decide) (Nat.le_of_ble_eq_true rfl) (Nat.le_of_ble_eq_true rfl) (Nat.le_of_ble_eq_true rfl) dX1_numbered_13 (fun q_3 H hP hD hS => ?_)
    replace hP : va_P D vwCl ([(q_1, .inl (κ 3, n, .inr (.inr (.inr (.inr (fun _ => none)))))), (q_3, .inl (κ 1, 2, .inl (fun _ => (0 : Int32))))] ++ im) H := mvP hP
    replace hD : va_D A ([(q_1, .inl (κ 3, n, .inr (.inr (.inr (.inr (fun _ => none)))))), (q_3, .inl (κ 1, 2, .inl (fun _ => (0 : Int32))))] ++ im) := mvD hD
    refine lv_dup hx hb dX1_numbered_15 rfl ?_
    refine lv_iconst (v := 0) hx hb dX1_numbered_16 (by decide) ?_
    refine lv_bipush (v := 99) hx hb dX1_numbered_17 (by decide) ?_
    refine va_bast hx hb hK hP hD hS 1 1 rfl rfl (i := 0) (x := 99) (vp_k (by decide)) dX1_numbered_19 (fun H locs hP hD hS => ?_)
    have hP : va_P D vwCl ([(q_1, .inl (κ 3, n, .inr (.inr (.inr (.inr (fun _ => none)))))), (q_3, .inl (κ 1, 2, .inl (upd (fun _ => (0 : Int32)) 0 (vp_nar .byte 99))))] ++ im) H := hP
    have hD : va_D A ([(q_1, .inl (κ 3, n, .inr (.inr (.inr (.inr (fun _ => none)))))), (q_3, .inl (κ 1, 2, .inl (upd (fun _ => (0 : Int32)) 0 (vp_nar .byte 99))))] ++ im) := hD
    have hf_5 : sb_Fit (upd (fun _ => (0 : Int32)) 0 (vp_nar .byte 99)) := sb_fitU sb_fit0 (fit_nar _)
    generalize upd (fun _ => (0 : Int32)) 0 (vp_nar .byte 99) = g_4 at hP hD hf_5
    refine lv_dup hx hb dX1_numbered_20 rfl ?_
    refine lv_iconst (v := 1) hx hb dX1_numbered_21 (by decide) ?_
    refine lv_bipush (v := 48) hx hb dX1_numbered_22 (by decide) ?_
    refine lv_iload_n hx hb dX1_numbered_24 rfl (lv_at hl 0 rfl) ?_
    refine lv_iadd hx hb dX1_numbered_25 ?_
    refine ki (v := 48) (by decide) ?_
    obtain ⟨x_6, ex_6⟩ : ∃ y9 : Int32, (48 : Int32).toInt8.toInt32 = y9 := ⟨_, rfl⟩
    refine lv_i2b hx hb dX1_numbered_26 ex_6 ?_
    refine va_bast hx hb hK hP hD hS 1 1 rfl rfl (i := 1) (x := x_6) (vp_k (by decide)) dX1_numbered_27 (fun H locs hP hD hS => ?_)
    have hP : va_P D vwCl ([(q_1, .inl (κ 3, n, .inr (.inr (.inr (.inr (fun _ => none)))))), (q_3, .inl (κ 1, 2, .inl (upd g_4 1 (vp_nar .byte x_6))))] ++ im) H := hP
    have hD : va_D A ([(q_1, .inl (κ 3, n, .inr (.inr (.inr (.inr (fun _ => none)))))), (q_3, .inl (κ 1, 2, .inl (upd g_4 1 (vp_nar .byte x_6))))] ++ im) := hD
    have hf_8 : sb_Fit (upd g_4 1 (vp_nar .byte x_6)) := sb_fitU hf_5 (fit_nar _)
    generalize upd g_4 1 (vp_nar .byte x_6) = g_7 at hP hD hf_8
    refine lv_astore_n (lv' := [(3, .ref q_3), (2, .int 0), (1, .ref q_1), (0, .int (nI n))]) hx hb dX1_numbered_28 rfl hl (by decide) rfl (fun ls hl => ?_)
    refine lv_aload_n hx hb dX1_numbered_29 rfl (lv_at hl 2 rfl) ?_
    refine lv_iload_n hx hb dX1_numbered_30 rfl (lv_at hl 1 rfl) ?_
    refine va_new (ci := 1) (fs := [.null, .int 0]) (C := RX1) (T := TX1) (N := 2) hx hb hts inlX1 tyX1 tyX1_ok hown (hts _ mw_355) (hts _ mw_330) (hts _ mw_331) hK hP hD hS hA rfl (fun j hj => by rcases (show j = 0 ∨ j = 1 by omega) with rfl | rfl <;> rfl) (Nat.le_of_ble_eq_true rfl) (Nat.le_of_ble_eq_true rfl) dX1_numbered_31 (fun q_9 H hP hD hS => ?_)
    replace hP : va_P D vwCl ([(q_1, .inl (κ 3, n, .inr (.inr (.inr (.inr (fun _ => none)))))), (q_3, .inl (κ 1, 2, .inl g_7)), (q_9, .inr (1, [.null, .int 0]))] ++ im) H := mvP hP
    replace hD : va_D A ([(q_1, .inl (κ 3, n, .inr (.inr (.inr (.inr (fun _ => none)))))), (q_3, .inl (κ 1, 2, .inl g_7)), (q_9, .inr (1, [.null, .int 0]))] ++ im) := mvD hD
    refine lv_dup hx hb dX1_numbered_34 rfl ?_
    refine lv_aload_n hx hb dX1_numbered_35 rfl (lv_at hl 0 rfl) ?_
    refine lv_iconst (v := (-1)) hx hb dX1_numbered_36 (by decide) ?_
    replace hP : va_P D vwCl ([(q_1, .inl (κ 3, n, .inr (.inr (.inr (.inr (fun _ => none)))))), (q_9, .inr (1, [.null, .int 0])), (q_3, .inl (κ 1, 2, .inl g_7))] ++ im) _ := subP hP [0, 2, 1] rfl
    replace hD : va_D A ([(q_1, .inl (κ 3, n, .inr (.inr (.inr (.inr (fun _ => none)))))), (q_9, .inr (1, [.null, .int 0])), (q_3, .inl (κ 1, 2, .inl g_7))] ++ im) := subD hD [0, 2, 1] (by decide) rfl
    obtain ⟨im_10, he_11⟩ : ∃ x9 : va_W, x9 = ([(q_3, .inl (κ 1, 2, .inl g_7))] ++ im) := ⟨_, rfl⟩
    have hs_12 : Sb im im_10 := by rw [he_11]; exact Sb.app
    have hm_q_3 : (q_3, .inl (κ 1, 2, .inl g_7)) ∈ im_10 := by rw [he_11]; exact List.mem_of_getElem? (i := 0) rfl
    replace hP : va_P D vwCl ([(q_1, .inl (κ 3, n, .inr (.inr (.inr (.inr (fun _ => none)))))), (q_9, .inr (1, [.null, .int 0]))] ++ ([(q_3, .inl (κ 1, 2, .inl g_7))] ++ im)) _ := hP
    replace hD : va_D A ([(q_1, .inl (κ 3, n, .inr (.inr (.inr (.inr (fun _ => none)))))), (q_9, .inr (1, [.null, .int 0]))] ++ ([(q_3, .inl (κ 1, 2, .inl g_7))] ++ im)) := hD
    rw [← he_11] at hP hD
    clear he_11
    have hf_13 : By κ im_10 q_3 2 := ⟨by omega, _, hm_q_3, hf_8⟩
    refine et_IT (CR := [(q_1, .inl (κ 3, n, .inr (.inr (.inr (.inr (fun _ => none))))))]) (As := [.ref q_3, .int (-1)]) (rest := [.ref q_9, .int 0, .ref q_1]) hFX hKK hE hP hD hS hA (c_X1_init l D κ κq im_10 q_9 q_3 2 (-1) hf_13 (by first | assumption | exact To_m | exact To_n (by omega))) 2 mw_356 mw_348 mw_331 mw_349 hdI_X1_init ⟨Nat.le_of_ble_eq_true rfl, Nat.le_of_ble_eq_true rfl⟩ rfl rfl (Nat.le_of_ble_eq_true rfl) dX1_numbered_37 ⟨Nat.le_of_ble_eq_true rfl, Nat.le_of_ble_eq_true rfl⟩ hl.1 [1] [0] rfl rfl (by decide) (by decide) (by decide) (fun im2__14 H locs hp_15 hP hD hS => ?_)
    refine W.widen (k := 3) (n := 12) (Nat.le_refl _) (Nat.le_refl _) ?_
    replace hP : va_P D vwCl ([(q_1, .inl (κ 3, n, .inr (.inr (.inr (.inr (fun _ => none))))))] ++ im2__14) H := subP (C := [(q_1, .inl (κ 3, n, .inr (.inr (.inr (.inr (fun _ => none))))))]) hP [0] rfl
    replace hD : va_D A ([(q_1, .inl (κ 3, n, .inr (.inr (.inr (.inr (fun _ => none))))))] ++ im2__14) := subD (C := [(q_1, .inl (κ 3, n, .inr (.inr (.inr (.inr (fun _ => none))))))]) hD [0] (by decide) rfl
    replace hp_15 : Sb im_10 im2__14 ∧ Co κ im2__14 q_9 2 (-1 : Int32) := hp_15
    obtain ⟨h_16, h_17⟩ := hp_15
    replace hf_13 := hf_13.up h_16
    replace hm_q_3 := h_16 _ hm_q_3
    refine W.eq (g2 := F0 m 40 ls [.ref q_9, .int 0, .ref q_1]) rfl ?_
    obtain ⟨ht_18, b_19, hm_20, hb_21⟩ := id h_17
    have hn_b_19 := hb_21.1
    obtain ⟨k_22, ek_22⟩ := tl_at [(q_1, .inl (κ 3, n, .inr (.inr (.inr (.inr (fun _ => none))))))] hm_20
    refine va_astq hx hb hK hP hD hS 0 3 k_22 1 rfl rfl ek_22 rfl (i := 0) (vp_c (c := 0) (by decide) (by omega)) dX1_numbered_40 (fun H locs hP hD hS => ?_)
    have hP : va_P D vwCl ([(q_1, .inl (κ 3, n, .inr (.inr (.inr (.inr (va_up (fun _ => none) 0 (some q_9)))))))] ++ im2__14) H := hP
    have hD : va_D A ([(q_1, .inl (κ 3, n, .inr (.inr (.inr (.inr (va_up (fun _ => none) 0 (some q_9)))))))] ++ im2__14) := hD
    have hf_24 : Lo κ im2__14 (va_up (fun _ => none) 0 (some q_9)) 1 := Lo_add Lo_0 h_17
    generalize va_up (fun _ => none) 0 (some q_9) = g_23 at hP hD hf_24
    refine lv_iinc (v := 1) (lv' := [(2, .int 1), (3, .ref q_3), (1, .ref q_1), (0, .int (nI n))]) hx hb dX1_numbered_41 hl (k := 1) rfl (by decide) (by decide) rfl (fun ls hl => ?_)
    refine lv_goto (tgt := 7) hx hb dX1_numbered_44 (by decide) ?_
    refine lv_iload_n hx hb dX1_numbered_7 rfl (lv_at hl 0 rfl) ?_
    refine lv_iload_n hx hb dX1_numbered_8 rfl (lv_at hl 3 rfl) ?_
    refine lv_icmp_ge (tgt := 47) hx hb dX1_numbered_9 (by decide) (fun c_25 => ?_) (fun c_25 => ?_)
    · have nc_25 := cv_le (a := n) (b := 1) (by omega) (by omega) c_25
      refine lv_aload_n hx hb dX1_numbered_47 rfl (lv_at hl 2 rfl) ?_
      replace hP : va_P D vwCl ([(q_1, .inl (κ 3, n, .inr (.inr (.inr (.inr g_23)))))] ++ im2__14) _ := subP hP [0] rfl
      replace hD : va_D A ([(q_1, .inl (κ 3, n, .inr (.inr (.inr (.inr g_23)))))] ++ im2__14) := subD hD [0] (by decide) rfl
      obtain ⟨im_26, he_27⟩ : ∃ x9 : va_W, x9 = ([(q_1, .inl (κ 3, n, .inr (.inr (.inr (.inr g_23)))))] ++ im2__14) := ⟨_, rfl⟩
      have hs_28 : Sb im2__14 im_26 := by rw [he_27]; exact Sb.app
      have hm_q_1 : (q_1, .inl (κ 3, n, .inr (.inr (.inr (.inr g_23))))) ∈ im_26 := by rw [he_27]; exact List.mem_of_getElem? (i := 0) rfl
      replace hP : va_P D vwCl ([] ++ ([(q_1, .inl (κ 3, n, .inr (.inr (.inr (.inr g_23)))))] ++ im2__14)) _ := hP
      replace hD : va_D A ([] ++ ([(q_1, .inl (κ 3, n, .inr (.inr (.inr (.inr g_23)))))] ++ im2__14)) := hD
      rw [← he_27] at hP hD
      clear he_27
      replace hf_13 := hf_13.up hs_28
      replace h_17 := h_17.up hs_28
      replace hb_21 := hb_21.up hs_28
      replace hf_24 := hf_24.up hs_28
      replace hm_q_3 := hs_28 _ hm_q_3
      replace hm_20 := hs_28 _ hm_20
      have hf_29 : Ca κ im_26 q_1 n := ⟨_, hm_q_1, (by have e9 : n = 1 := (by omega); rw [e9]; exact hf_24)⟩
      exact et_aret hx hb hr (by first | exact Or.inl ⟨_, rfl⟩ | exact Or.inr ⟨_, rfl⟩) hlk (by first | exact Or.inl rfl | exact Or.inr ⟨_, rfl⟩) hS (q_1, im_26) rfl ⟨(show Sb im im_26 from (Sb.tr (Sb.tr hs_12 h_16) hs_28)), (show Ca κ im_26 q_1 n from hf_29)⟩ (subP hP [] rfl) (subD hD [] (by decide) rfl) (Nat.le_of_ble_eq_true rfl) (Nat.le_of_ble_eq_true rfl) dX1_numbered_48
    · have nc_25 := cv_nle (a := n) (b := 1) (by omega) (by omega) c_25
      refine lv_iconst (v := 2) hx hb dX1_numbered_12 (by decide) ?_
      refine my_newa (atype := .byte) hx hb (hts _ mw_69) rfl hK hP hD hS hA 1 rfl (N' := 2) (a0 := (2, .inl (fun _ => 0))) (fun _ => rfl) (by decide) (by decide) (Nat.le_of_ble_eq_true rfl) (Nat.le_of_ble_eq_true rfl) (Nat.le_of_ble_eq_true rfl) dX1_numbered_13 (fun q_30 H hP hD hS => ?_)
      replace hP : va_P D vwCl ([(q_1, .inl (κ 3, n, .inr (.inr (.inr (.inr g_23))))), (q_30, .inl (κ 1, 2, .inl (fun _ => (0 : Int32))))] ++ im2__14) H := mvP hP
      replace hD : va_D A ([(q_1, .inl (κ 3, n, .inr (.inr (.inr (.inr g_23))))), (q_30, .inl (κ 1, 2, .inl (fun _ => (0 : Int32))))] ++ im2__14) := mvD hD
      refine lv_dup hx hb dX1_numbered_15 rfl ?_
      refine lv_iconst (v := 0) hx hb dX1_numbered_16 (by decide) ?_
      refine lv_bipush (v := 99) hx hb dX1_numbered_17 (by decide) ?_
      refine va_bast hx hb hK hP hD hS 1 1 rfl rfl (i := 0) (x := 99) (vp_k (by decide)) dX1_numbered_19 (fun H locs hP hD hS => ?_)
      have hP : va_P D vwCl ([(q_1, .inl (κ 3, n, .inr (.inr (.inr (.inr g_23))))), (q_30, .inl (κ 1, 2, .inl (upd (fun _ => (0 : Int32)) 0 (vp_nar .byte 99))))] ++ im2__14) H := hP
      have hD : va_D A ([(q_1, .inl (κ 3, n, .inr (.inr (.inr (.inr g_23))))), (q_30, .inl (κ 1, 2, .inl (upd (fun _ => (0 : Int32)) 0 (vp_nar .byte 99))))] ++ im2__14) := hD
      have hf_32 : sb_Fit (upd (fun _ => (0 : Int32)) 0 (vp_nar .byte 99)) := sb_fitU sb_fit0 (fit_nar _)
      generalize upd (fun _ => (0 : Int32)) 0 (vp_nar .byte 99) = g_31 at hP hD hf_32
      refine lv_dup hx hb dX1_numbered_20 rfl ?_
      refine lv_iconst (v := 1) hx hb dX1_numbered_21 (by decide) ?_
      refine lv_bipush (v := 48) hx hb dX1_numbered_22 (by decide) ?_
      refine lv_iload_n hx hb dX1_numbered_24 rfl (lv_at hl 0 rfl) ?_
      refine lv_iadd hx hb dX1_numbered_25 ?_
      refine ki (v := 49) (by decide) ?_
      obtain ⟨x_33, ex_33⟩ : ∃ y9 : Int32, (49 : Int32).toInt8.toInt32 = y9 := ⟨_, rfl⟩
      refine lv_i2b hx hb dX1_numbered_26 ex_33 ?_
      refine va_bast hx hb hK hP hD hS 1 1 rfl rfl (i := 1) (x := x_33) (vp_k (by decide)) dX1_numbered_27 (fun H locs hP hD hS => ?_)
      have hP : va_P D vwCl ([(q_1, .inl (κ 3, n, .inr (.inr (.inr (.inr g_23))))), (q_30, .inl (κ 1, 2, .inl (upd g_31 1 (vp_nar .byte x_33))))] ++ im2__14) H := hP
      have hD : va_D A ([(q_1, .inl (κ 3, n, .inr (.inr (.inr (.inr g_23))))), (q_30, .inl (κ 1, 2, .inl (upd g_31 1 (vp_nar .byte x_33))))] ++ im2__14) := hD
      have hf_35 : sb_Fit (upd g_31 1 (vp_nar .byte x_33)) := sb_fitU hf_32 (fit_nar _)
      generalize upd g_31 1 (vp_nar .byte x_33) = g_34 at hP hD hf_35
      refine lv_astore_n (lv' := [(3, .ref q_30), (2, .int 1), (1, .ref q_1), (0, .int (nI n))]) hx hb dX1_numbered_28 rfl hl (by decide) rfl (fun ls hl => ?_)
      refine lv_aload_n hx hb dX1_numbered_29 rfl (lv_at hl 2 rfl) ?_
      refine lv_iload_n hx hb dX1_numbered_30 rfl (lv_at hl 1 rfl) ?_
      refine va_new (ci := 1) (fs := [.null, .int 0]) (C := RX1) (T := TX1) (N := 2) hx hb hts inlX1 tyX1 tyX1_ok hown (hts _ mw_355) (hts _ mw_330) (hts _ mw_331) hK hP hD hS hA rfl (fun j hj => by rcases (show j = 0 ∨ j = 1 by omega) with rfl | rfl <;> rfl) (Nat.le_of_ble_eq_true rfl) (Nat.le_of_ble_eq_true rfl) dX1_numbered_31 (fun q_36 H hP hD hS => ?_)
      replace hP : va_P D vwCl ([(q_1, .inl (κ 3, n, .inr (.inr (.inr (.inr g_23))))), (q_30, .inl (κ 1, 2, .inl g_34)), (q_36, .inr (1, [.null, .int 0]))] ++ im2__14) H := mvP hP
      replace hD : va_D A ([(q_1, .inl (κ 3, n, .inr (.inr (.inr (.inr g_23))))), (q_30, .inl (κ 1, 2, .inl g_34)), (q_36, .inr (1, [.null, .int 0]))] ++ im2__14) := mvD hD
      refine lv_dup hx hb dX1_numbered_34 rfl ?_
      refine lv_aload_n hx hb dX1_numbered_35 rfl (lv_at hl 0 rfl) ?_
      refine lv_iconst (v := (-1)) hx hb dX1_numbered_36 (by decide) ?_
      replace hP : va_P D vwCl ([(q_1, .inl (κ 3, n, .inr (.inr (.inr (.inr g_23))))), (q_36, .inr (1, [.null, .int 0])), (q_30, .inl (κ 1, 2, .inl g_34))] ++ im2__14) _ := subP hP [0, 2, 1] rfl
      replace hD : va_D A ([(q_1, .inl (κ 3, n, .inr (.inr (.inr (.inr g_23))))), (q_36, .inr (1, [.null, .int 0])), (q_30, .inl (κ 1, 2, .inl g_34))] ++ im2__14) := subD hD [0, 2, 1] (by decide) rfl
      obtain ⟨im_37, he_38⟩ : ∃ x9 : va_W, x9 = ([(q_30, .inl (κ 1, 2, .inl g_34))] ++ im2__14) := ⟨_, rfl⟩
      have hs_39 : Sb im2__14 im_37 := by rw [he_38]; exact Sb.app
      have hm_q_30 : (q_30, .inl (κ 1, 2, .inl g_34)) ∈ im_37 := by rw [he_38]; exact List.mem_of_getElem? (i := 0) rfl
      replace hP : va_P D vwCl ([(q_1, .inl (κ 3, n, .inr (.inr (.inr (.inr g_23))))), (q_36, .inr (1, [.null, .int 0]))] ++ ([(q_30, .inl (κ 1, 2, .inl g_34))] ++ im2__14)) _ := hP
      replace hD : va_D A ([(q_1, .inl (κ 3, n, .inr (.inr (.inr (.inr g_23))))), (q_36, .inr (1, [.null, .int 0]))] ++ ([(q_30, .inl (κ 1, 2, .inl g_34))] ++ im2__14)) := hD
      rw [← he_38] at hP hD
      clear he_38
      replace hf_13 := hf_13.up hs_39
      replace h_17 := h_17.up hs_39
      replace hb_21 := hb_21.up hs_39
      replace hf_24 := hf_24.up hs_39
      replace hm_q_3 := hs_39 _ hm_q_3
      replace hm_20 := hs_39 _ hm_20
      have hf_40 : By κ im_37 q_30 2 := ⟨by omega, _, hm_q_30, hf_35⟩
      refine et_IT (CR := [(q_1, .inl (κ 3, n, .inr (.inr (.inr (.inr g_23)))))]) (As := [.ref q_30, .int (-1)]) (rest := [.ref q_36, .int 1, .ref q_1]) hFX hKK hE hP hD hS hA (c_X1_init l D κ κq im_37 q_36 q_30 2 (-1) hf_40 (by first | assumption | exact To_m | exact To_n (by omega))) 2 mw_356 mw_348 mw_331 mw_349 hdI_X1_init ⟨Nat.le_of_ble_eq_true rfl, Nat.le_of_ble_eq_true rfl⟩ rfl rfl (Nat.le_of_ble_eq_true rfl) dX1_numbered_37 ⟨Nat.le_of_ble_eq_true rfl, Nat.le_of_ble_eq_true rfl⟩ hl.1 [1] [0] rfl rfl (by decide) (by decide) (by decide) (fun im2__41 H locs hp_42 hP hD hS => ?_)
      refine W.widen (k := 5) (n := 16) (Nat.le_refl _) (Nat.le_refl _) ?_
      replace hP : va_P D vwCl ([(q_1, .inl (κ 3, n, .inr (.inr (.inr (.inr g_23)))))] ++ im2__41) H := subP (C := [(q_1, .inl (κ 3, n, .inr (.inr (.inr (.inr g_23)))))]) hP [0] rfl
      replace hD : va_D A ([(q_1, .inl (κ 3, n, .inr (.inr (.inr (.inr g_23)))))] ++ im2__41) := subD (C := [(q_1, .inl (κ 3, n, .inr (.inr (.inr (.inr g_23)))))]) hD [0] (by decide) rfl
      replace hp_42 : Sb im_37 im2__41 ∧ Co κ im2__41 q_36 2 (-1 : Int32) := hp_42
      obtain ⟨h_43, h_44⟩ := hp_42
      replace hf_13 := hf_13.up h_43
      replace h_17 := h_17.up h_43
      replace hb_21 := hb_21.up h_43
      replace hf_24 := hf_24.up h_43
      replace hf_40 := hf_40.up h_43
      replace hm_q_3 := h_43 _ hm_q_3
      replace hm_20 := h_43 _ hm_20
      replace hm_q_30 := h_43 _ hm_q_30
      refine W.eq (g2 := F0 m 40 ls [.ref q_36, .int 1, .ref q_1]) rfl ?_
      obtain ⟨ht_45, b_46, hm_47, hb_48⟩ := id h_44
      have hn_b_46 := hb_48.1
      obtain ⟨k_49, ek_49⟩ := tl_at [(q_1, .inl (κ 3, n, .inr (.inr (.inr (.inr g_23)))))] hm_47
      refine va_astq hx hb hK hP hD hS 0 3 k_49 1 rfl rfl ek_49 rfl (i := 1) (vp_c (c := 1) (by decide) (by omega)) dX1_numbered_40 (fun H locs hP hD hS => ?_)
      have hP : va_P D vwCl ([(q_1, .inl (κ 3, n, .inr (.inr (.inr (.inr (va_up g_23 1 (some q_36)))))))] ++ im2__41) H := hP
      have hD : va_D A ([(q_1, .inl (κ 3, n, .inr (.inr (.inr (.inr (va_up g_23 1 (some q_36)))))))] ++ im2__41) := hD
      have hf_51 : Lo κ im2__41 (va_up g_23 1 (some q_36)) 2 := Lo_add hf_24 h_44
      generalize va_up g_23 1 (some q_36) = g_50 at hP hD hf_51
      refine lv_iinc (v := 2) (lv' := [(2, .int 2), (3, .ref q_30), (1, .ref q_1), (0, .int (nI n))]) hx hb dX1_numbered_41 hl (k := 1) rfl (by decide) (by decide) rfl (fun ls hl => ?_)
      refine lv_goto (tgt := 7) hx hb dX1_numbered_44 (by decide) ?_
      refine lv_iload_n hx hb dX1_numbered_7 rfl (lv_at hl 0 rfl) ?_
      refine lv_iload_n hx hb dX1_numbered_8 rfl (lv_at hl 3 rfl) ?_
      refine lv_icmp_ge (tgt := 47) hx hb dX1_numbered_9 (by decide) (fun c_52 => ?_) (fun c_52 => ?_)
      · have nc_52 := cv_le (a := n) (b := 2) (by omega) (by omega) c_52
        refine lv_aload_n hx hb dX1_numbered_47 rfl (lv_at hl 2 rfl) ?_
        replace hP : va_P D vwCl ([(q_1, .inl (κ 3, n, .inr (.inr (.inr (.inr g_50)))))] ++ im2__41) _ := subP hP [0] rfl
        replace hD : va_D A ([(q_1, .inl (κ 3, n, .inr (.inr (.inr (.inr g_50)))))] ++ im2__41) := subD hD [0] (by decide) rfl
        obtain ⟨im_53, he_54⟩ : ∃ x9 : va_W, x9 = ([(q_1, .inl (κ 3, n, .inr (.inr (.inr (.inr g_50)))))] ++ im2__41) := ⟨_, rfl⟩
        have hs_55 : Sb im2__41 im_53 := by rw [he_54]; exact Sb.app
        have hm_q_1 : (q_1, .inl (κ 3, n, .inr (.inr (.inr (.inr g_50))))) ∈ im_53 := by rw [he_54]; exact List.mem_of_getElem? (i := 0) rfl
        replace hP : va_P D vwCl ([] ++ ([(q_1, .inl (κ 3, n, .inr (.inr (.inr (.inr g_50)))))] ++ im2__41)) _ := hP
        replace hD : va_D A ([] ++ ([(q_1, .inl (κ 3, n, .inr (.inr (.inr (.inr g_50)))))] ++ im2__41)) := hD
        rw [← he_54] at hP hD
        clear he_54
        replace hf_13 := hf_13.up hs_55
        replace h_17 := h_17.up hs_55
        replace hb_21 := hb_21.up hs_55
        replace hf_24 := hf_24.up hs_55
        replace hf_40 := hf_40.up hs_55
        replace h_44 := h_44.up hs_55
        replace hb_48 := hb_48.up hs_55
        replace hf_51 := hf_51.up hs_55
        replace hm_q_3 := hs_55 _ hm_q_3
        replace hm_20 := hs_55 _ hm_20
        replace hm_q_30 := hs_55 _ hm_q_30
        replace hm_47 := hs_55 _ hm_47
        have hf_56 : Ca κ im_53 q_1 n := ⟨_, hm_q_1, (by have e9 : n = 2 := (by omega); rw [e9]; exact hf_51)⟩
        exact et_aret hx hb hr (by first | exact Or.inl ⟨_, rfl⟩ | exact Or.inr ⟨_, rfl⟩) hlk (by first | exact Or.inl rfl | exact Or.inr ⟨_, rfl⟩) hS (q_1, im_53) rfl ⟨(show Sb im im_53 from (Sb.tr (Sb.tr (Sb.tr (Sb.tr hs_12 h_16) hs_39) h_43) hs_55)), (show Ca κ im_53 q_1 n from hf_56)⟩ (subP hP [] rfl) (subD hD [] (by decide) rfl) (Nat.le_of_ble_eq_true rfl) (Nat.le_of_ble_eq_true rfl) dX1_numbered_48
      · have nc_52 := cv_nle (a := n) (b := 2) (by omega) (by omega) c_52
        refine lv_iconst (v := 2) hx hb dX1_numbered_12 (by decide) ?_
        refine my_newa (atype := .byte) hx hb (hts _ mw_69) rfl hK hP hD hS hA 1 rfl (N' := 2) (a0 := (2, .inl (fun _ => 0))) (fun _ => rfl) (by decide) (by decide) (Nat.le_of_ble_eq_true rfl) (Nat.le_of_ble_eq_true rfl) (Nat.le_of_ble_eq_true rfl) dX1_numbered_13 (fun q_57 H hP hD hS => ?_)
        replace hP : va_P D vwCl ([(q_1, .inl (κ 3, n, .inr (.inr (.inr (.inr g_50))))), (q_57, .inl (κ 1, 2, .inl (fun _ => (0 : Int32))))] ++ im2__41) H := mvP hP
        replace hD : va_D A ([(q_1, .inl (κ 3, n, .inr (.inr (.inr (.inr g_50))))), (q_57, .inl (κ 1, 2, .inl (fun _ => (0 : Int32))))] ++ im2__41) := mvD hD
        refine lv_dup hx hb dX1_numbered_15 rfl ?_
        refine lv_iconst (v := 0) hx hb dX1_numbered_16 (by decide) ?_
        refine lv_bipush (v := 99) hx hb dX1_numbered_17 (by decide) ?_
        refine va_bast hx hb hK hP hD hS 1 1 rfl rfl (i := 0) (x := 99) (vp_k (by decide)) dX1_numbered_19 (fun H locs hP hD hS => ?_)
        have hP : va_P D vwCl ([(q_1, .inl (κ 3, n, .inr (.inr (.inr (.inr g_50))))), (q_57, .inl (κ 1, 2, .inl (upd (fun _ => (0 : Int32)) 0 (vp_nar .byte 99))))] ++ im2__41) H := hP
        have hD : va_D A ([(q_1, .inl (κ 3, n, .inr (.inr (.inr (.inr g_50))))), (q_57, .inl (κ 1, 2, .inl (upd (fun _ => (0 : Int32)) 0 (vp_nar .byte 99))))] ++ im2__41) := hD
        have hf_59 : sb_Fit (upd (fun _ => (0 : Int32)) 0 (vp_nar .byte 99)) := sb_fitU sb_fit0 (fit_nar _)
        generalize upd (fun _ => (0 : Int32)) 0 (vp_nar .byte 99) = g_58 at hP hD hf_59
        refine lv_dup hx hb dX1_numbered_20 rfl ?_
        refine lv_iconst (v := 1) hx hb dX1_numbered_21 (by decide) ?_
        refine lv_bipush (v := 48) hx hb dX1_numbered_22 (by decide) ?_
        refine lv_iload_n hx hb dX1_numbered_24 rfl (lv_at hl 0 rfl) ?_
        refine lv_iadd hx hb dX1_numbered_25 ?_
        refine ki (v := 50) (by decide) ?_
        obtain ⟨x_60, ex_60⟩ : ∃ y9 : Int32, (50 : Int32).toInt8.toInt32 = y9 := ⟨_, rfl⟩
        refine lv_i2b hx hb dX1_numbered_26 ex_60 ?_
        refine va_bast hx hb hK hP hD hS 1 1 rfl rfl (i := 1) (x := x_60) (vp_k (by decide)) dX1_numbered_27 (fun H locs hP hD hS => ?_)
        have hP : va_P D vwCl ([(q_1, .inl (κ 3, n, .inr (.inr (.inr (.inr g_50))))), (q_57, .inl (κ 1, 2, .inl (upd g_58 1 (vp_nar .byte x_60))))] ++ im2__41) H := hP
        have hD : va_D A ([(q_1, .inl (κ 3, n, .inr (.inr (.inr (.inr g_50))))), (q_57, .inl (κ 1, 2, .inl (upd g_58 1 (vp_nar .byte x_60))))] ++ im2__41) := hD
        have hf_62 : sb_Fit (upd g_58 1 (vp_nar .byte x_60)) := sb_fitU hf_59 (fit_nar _)
        generalize upd g_58 1 (vp_nar .byte x_60) = g_61 at hP hD hf_62
        refine lv_astore_n (lv' := [(3, .ref q_57), (2, .int 2), (1, .ref q_1), (0, .int (nI n))]) hx hb dX1_numbered_28 rfl hl (by decide) rfl (fun ls hl => ?_)
        refine lv_aload_n hx hb dX1_numbered_29 rfl (lv_at hl 2 rfl) ?_
        refine lv_iload_n hx hb dX1_numbered_30 rfl (lv_at hl 1 rfl) ?_
        refine va_new (ci := 1) (fs := [.null, .int 0]) (C := RX1) (T := TX1) (N := 2) hx hb hts inlX1 tyX1 tyX1_ok hown (hts _ mw_355) (hts _ mw_330) (hts _ mw_331) hK hP hD hS hA rfl (fun j hj => by rcases (show j = 0 ∨ j = 1 by omega) with rfl | rfl <;> rfl) (Nat.le_of_ble_eq_true rfl) (Nat.le_of_ble_eq_true rfl) dX1_numbered_31 (fun q_63 H hP hD hS => ?_)
        replace hP : va_P D vwCl ([(q_1, .inl (κ 3, n, .inr (.inr (.inr (.inr g_50))))), (q_57, .inl (κ 1, 2, .inl g_61)), (q_63, .inr (1, [.null, .int 0]))] ++ im2__41) H := mvP hP
        replace hD : va_D A ([(q_1, .inl (κ 3, n, .inr (.inr (.inr (.inr g_50))))), (q_57, .inl (κ 1, 2, .inl g_61)), (q_63, .inr (1, [.null, .int 0]))] ++ im2__41) := mvD hD
        refine lv_dup hx hb dX1_numbered_34 rfl ?_
        refine lv_aload_n hx hb dX1_numbered_35 rfl (lv_at hl 0 rfl) ?_
        refine lv_iconst (v := (-1)) hx hb dX1_numbered_36 (by decide) ?_
        replace hP : va_P D vwCl ([(q_1, .inl (κ 3, n, .inr (.inr (.inr (.inr g_50))))), (q_63, .inr (1, [.null, .int 0])), (q_57, .inl (κ 1, 2, .inl g_61))] ++ im2__41) _ := subP hP [0, 2, 1] rfl
        replace hD : va_D A ([(q_1, .inl (κ 3, n, .inr (.inr (.inr (.inr g_50))))), (q_63, .inr (1, [.null, .int 0])), (q_57, .inl (κ 1, 2, .inl g_61))] ++ im2__41) := subD hD [0, 2, 1] (by decide) rfl
        obtain ⟨im_64, he_65⟩ : ∃ x9 : va_W, x9 = ([(q_57, .inl (κ 1, 2, .inl g_61))] ++ im2__41) := ⟨_, rfl⟩
        have hs_66 : Sb im2__41 im_64 := by rw [he_65]; exact Sb.app
        have hm_q_57 : (q_57, .inl (κ 1, 2, .inl g_61)) ∈ im_64 := by rw [he_65]; exact List.mem_of_getElem? (i := 0) rfl
        replace hP : va_P D vwCl ([(q_1, .inl (κ 3, n, .inr (.inr (.inr (.inr g_50))))), (q_63, .inr (1, [.null, .int 0]))] ++ ([(q_57, .inl (κ 1, 2, .inl g_61))] ++ im2__41)) _ := hP
        replace hD : va_D A ([(q_1, .inl (κ 3, n, .inr (.inr (.inr (.inr g_50))))), (q_63, .inr (1, [.null, .int 0]))] ++ ([(q_57, .inl (κ 1, 2, .inl g_61))] ++ im2__41)) := hD
        rw [← he_65] at hP hD
        clear he_65
        replace hf_13 := hf_13.up hs_66
        replace h_17 := h_17.up hs_66
        replace hb_21 := hb_21.up hs_66
        replace hf_24 := hf_24.up hs_66
        replace hf_40 := hf_40.up hs_66
        replace h_44 := h_44.up hs_66
        replace hb_48 := hb_48.up hs_66
        replace hf_51 := hf_51.up hs_66
        replace hm_q_3 := hs_66 _ hm_q_3
        replace hm_20 := hs_66 _ hm_20
        replace hm_q_30 := hs_66 _ hm_q_30
        replace hm_47 := hs_66 _ hm_47
        have hf_67 : By κ im_64 q_57 2 := ⟨by omega, _, hm_q_57, hf_62⟩
        refine et_IT (CR := [(q_1, .inl (κ 3, n, .inr (.inr (.inr (.inr g_50)))))]) (As := [.ref q_57, .int (-1)]) (rest := [.ref q_63, .int 2, .ref q_1]) hFX hKK hE hP hD hS hA (c_X1_init l D κ κq im_64 q_63 q_57 2 (-1) hf_67 (by first | assumption | exact To_m | exact To_n (by omega))) 2 mw_356 mw_348 mw_331 mw_349 hdI_X1_init ⟨Nat.le_of_ble_eq_true rfl, Nat.le_of_ble_eq_true rfl⟩ rfl rfl (Nat.le_of_ble_eq_true rfl) dX1_numbered_37 ⟨Nat.le_of_ble_eq_true rfl, Nat.le_of_ble_eq_true rfl⟩ hl.1 [1] [0] rfl rfl (by decide) (by decide) (by decide) (fun im2__68 H locs hp_69 hP hD hS => ?_)
        refine W.widen (k := 7) (n := 20) (Nat.le_refl _) (Nat.le_refl _) ?_
        replace hP : va_P D vwCl ([(q_1, .inl (κ 3, n, .inr (.inr (.inr (.inr g_50)))))] ++ im2__68) H := subP (C := [(q_1, .inl (κ 3, n, .inr (.inr (.inr (.inr g_50)))))]) hP [0] rfl
        replace hD : va_D A ([(q_1, .inl (κ 3, n, .inr (.inr (.inr (.inr g_50)))))] ++ im2__68) := subD (C := [(q_1, .inl (κ 3, n, .inr (.inr (.inr (.inr g_50)))))]) hD [0] (by decide) rfl
        replace hp_69 : Sb im_64 im2__68 ∧ Co κ im2__68 q_63 2 (-1 : Int32) := hp_69
        obtain ⟨h_70, h_71⟩ := hp_69
        replace hf_13 := hf_13.up h_70
        replace h_17 := h_17.up h_70
        replace hb_21 := hb_21.up h_70
        replace hf_24 := hf_24.up h_70
        replace hf_40 := hf_40.up h_70
        replace h_44 := h_44.up h_70
        replace hb_48 := hb_48.up h_70
        replace hf_51 := hf_51.up h_70
        replace hf_67 := hf_67.up h_70
        replace hm_q_3 := h_70 _ hm_q_3
        replace hm_20 := h_70 _ hm_20
        replace hm_q_30 := h_70 _ hm_q_30
        replace hm_47 := h_70 _ hm_47
        replace hm_q_57 := h_70 _ hm_q_57
        refine W.eq (g2 := F0 m 40 ls [.ref q_63, .int 2, .ref q_1]) rfl ?_
        obtain ⟨ht_72, b_73, hm_74, hb_75⟩ := id h_71
        have hn_b_73 := hb_75.1
        obtain ⟨k_76, ek_76⟩ := tl_at [(q_1, .inl (κ 3, n, .inr (.inr (.inr (.inr g_50)))))] hm_74
        refine va_astq hx hb hK hP hD hS 0 3 k_76 1 rfl rfl ek_76 rfl (i := 2) (vp_c (c := 2) (by decide) (by omega)) dX1_numbered_40 (fun H locs hP hD hS => ?_)
        have hP : va_P D vwCl ([(q_1, .inl (κ 3, n, .inr (.inr (.inr (.inr (va_up g_50 2 (some q_63)))))))] ++ im2__68) H := hP
        have hD : va_D A ([(q_1, .inl (κ 3, n, .inr (.inr (.inr (.inr (va_up g_50 2 (some q_63)))))))] ++ im2__68) := hD
        have hf_78 : Lo κ im2__68 (va_up g_50 2 (some q_63)) 3 := Lo_add hf_51 h_71
        generalize va_up g_50 2 (some q_63) = g_77 at hP hD hf_78
        refine lv_iinc (v := 3) (lv' := [(2, .int 3), (3, .ref q_57), (1, .ref q_1), (0, .int (nI n))]) hx hb dX1_numbered_41 hl (k := 1) rfl (by decide) (by decide) rfl (fun ls hl => ?_)
        refine lv_goto (tgt := 7) hx hb dX1_numbered_44 (by decide) ?_
        refine lv_iload_n hx hb dX1_numbered_7 rfl (lv_at hl 0 rfl) ?_
        refine lv_iload_n hx hb dX1_numbered_8 rfl (lv_at hl 3 rfl) ?_
        refine lv_icmp_ge (tgt := 47) hx hb dX1_numbered_9 (by decide) (fun c_79 => ?_) (fun c_79 => ?_)
        · have nc_79 := cv_le (a := n) (b := 3) (by omega) (by omega) c_79
          refine lv_aload_n hx hb dX1_numbered_47 rfl (lv_at hl 2 rfl) ?_
          replace hP : va_P D vwCl ([(q_1, .inl (κ 3, n, .inr (.inr (.inr (.inr g_77)))))] ++ im2__68) _ := subP hP [0] rfl
          replace hD : va_D A ([(q_1, .inl (κ 3, n, .inr (.inr (.inr (.inr g_77)))))] ++ im2__68) := subD hD [0] (by decide) rfl
          obtain ⟨im_80, he_81⟩ : ∃ x9 : va_W, x9 = ([(q_1, .inl (κ 3, n, .inr (.inr (.inr (.inr g_77)))))] ++ im2__68) := ⟨_, rfl⟩
          have hs_82 : Sb im2__68 im_80 := by rw [he_81]; exact Sb.app
          have hm_q_1 : (q_1, .inl (κ 3, n, .inr (.inr (.inr (.inr g_77))))) ∈ im_80 := by rw [he_81]; exact List.mem_of_getElem? (i := 0) rfl
          replace hP : va_P D vwCl ([] ++ ([(q_1, .inl (κ 3, n, .inr (.inr (.inr (.inr g_77)))))] ++ im2__68)) _ := hP
          replace hD : va_D A ([] ++ ([(q_1, .inl (κ 3, n, .inr (.inr (.inr (.inr g_77)))))] ++ im2__68)) := hD
          rw [← he_81] at hP hD
          clear he_81
          replace hf_13 := hf_13.up hs_82
          replace h_17 := h_17.up hs_82
          replace hb_21 := hb_21.up hs_82
          replace hf_24 := hf_24.up hs_82
          replace hf_40 := hf_40.up hs_82
          replace h_44 := h_44.up hs_82
          replace hb_48 := hb_48.up hs_82
          replace hf_51 := hf_51.up hs_82
          replace hf_67 := hf_67.up hs_82
          replace h_71 := h_71.up hs_82
          replace hb_75 := hb_75.up hs_82
          replace hf_78 := hf_78.up hs_82
          replace hm_q_3 := hs_82 _ hm_q_3
          replace hm_20 := hs_82 _ hm_20
          replace hm_q_30 := hs_82 _ hm_q_30
          replace hm_47 := hs_82 _ hm_47
          replace hm_q_57 := hs_82 _ hm_q_57
          replace hm_74 := hs_82 _ hm_74
          have hf_83 : Ca κ im_80 q_1 n := ⟨_, hm_q_1, (by have e9 : n = 3 := (by omega); rw [e9]; exact hf_78)⟩
          exact et_aret hx hb hr (by first | exact Or.inl ⟨_, rfl⟩ | exact Or.inr ⟨_, rfl⟩) hlk (by first | exact Or.inl rfl | exact Or.inr ⟨_, rfl⟩) hS (q_1, im_80) rfl ⟨(show Sb im im_80 from (Sb.tr (Sb.tr (Sb.tr (Sb.tr (Sb.tr (Sb.tr hs_12 h_16) hs_39) h_43) hs_66) h_70) hs_82)), (show Ca κ im_80 q_1 n from hf_83)⟩ (subP hP [] rfl) (subD hD [] (by decide) rfl) (Nat.le_of_ble_eq_true rfl) (Nat.le_of_ble_eq_true rfl) dX1_numbered_48
        · have nc_79 := cv_nle (a := n) (b := 3) (by omega) (by omega) c_79
          refine lv_iconst (v := 2) hx hb dX1_numbered_12 (by decide) ?_
          refine my_newa (atype := .byte) hx hb (hts _ mw_69) rfl hK hP hD hS hA 1 rfl (N' := 2) (a0 := (2, .inl (fun _ => 0))) (fun _ => rfl) (by decide) (by decide) (Nat.le_of_ble_eq_true rfl) (Nat.le_of_ble_eq_true rfl) (Nat.le_of_ble_eq_true rfl) dX1_numbered_13 (fun q_84 H hP hD hS => ?_)
          replace hP : va_P D vwCl ([(q_1, .inl (κ 3, n, .inr (.inr (.inr (.inr g_77))))), (q_84, .inl (κ 1, 2, .inl (fun _ => (0 : Int32))))] ++ im2__68) H := mvP hP
          replace hD : va_D A ([(q_1, .inl (κ 3, n, .inr (.inr (.inr (.inr g_77))))), (q_84, .inl (κ 1, 2, .inl (fun _ => (0 : Int32))))] ++ im2__68) := mvD hD
          refine lv_dup hx hb dX1_numbered_15 rfl ?_
          refine lv_iconst (v := 0) hx hb dX1_numbered_16 (by decide) ?_
          refine lv_bipush (v := 99) hx hb dX1_numbered_17 (by decide) ?_
          refine va_bast hx hb hK hP hD hS 1 1 rfl rfl (i := 0) (x := 99) (vp_k (by decide)) dX1_numbered_19 (fun H locs hP hD hS => ?_)
          have hP : va_P D vwCl ([(q_1, .inl (κ 3, n, .inr (.inr (.inr (.inr g_77))))), (q_84, .inl (κ 1, 2, .inl (upd (fun _ => (0 : Int32)) 0 (vp_nar .byte 99))))] ++ im2__68) H := hP
          have hD : va_D A ([(q_1, .inl (κ 3, n, .inr (.inr (.inr (.inr g_77))))), (q_84, .inl (κ 1, 2, .inl (upd (fun _ => (0 : Int32)) 0 (vp_nar .byte 99))))] ++ im2__68) := hD
          have hf_86 : sb_Fit (upd (fun _ => (0 : Int32)) 0 (vp_nar .byte 99)) := sb_fitU sb_fit0 (fit_nar _)
          generalize upd (fun _ => (0 : Int32)) 0 (vp_nar .byte 99) = g_85 at hP hD hf_86
          refine lv_dup hx hb dX1_numbered_20 rfl ?_
          refine lv_iconst (v := 1) hx hb dX1_numbered_21 (by decide) ?_
          refine lv_bipush (v := 48) hx hb dX1_numbered_22 (by decide) ?_
          refine lv_iload_n hx hb dX1_numbered_24 rfl (lv_at hl 0 rfl) ?_
          refine lv_iadd hx hb dX1_numbered_25 ?_
          refine ki (v := 51) (by decide) ?_
          obtain ⟨x_87, ex_87⟩ : ∃ y9 : Int32, (51 : Int32).toInt8.toInt32 = y9 := ⟨_, rfl⟩
          refine lv_i2b hx hb dX1_numbered_26 ex_87 ?_
          refine va_bast hx hb hK hP hD hS 1 1 rfl rfl (i := 1) (x := x_87) (vp_k (by decide)) dX1_numbered_27 (fun H locs hP hD hS => ?_)
          have hP : va_P D vwCl ([(q_1, .inl (κ 3, n, .inr (.inr (.inr (.inr g_77))))), (q_84, .inl (κ 1, 2, .inl (upd g_85 1 (vp_nar .byte x_87))))] ++ im2__68) H := hP
          have hD : va_D A ([(q_1, .inl (κ 3, n, .inr (.inr (.inr (.inr g_77))))), (q_84, .inl (κ 1, 2, .inl (upd g_85 1 (vp_nar .byte x_87))))] ++ im2__68) := hD
          have hf_89 : sb_Fit (upd g_85 1 (vp_nar .byte x_87)) := sb_fitU hf_86 (fit_nar _)
          generalize upd g_85 1 (vp_nar .byte x_87) = g_88 at hP hD hf_89
          refine lv_astore_n (lv' := [(3, .ref q_84), (2, .int 3), (1, .ref q_1), (0, .int (nI n))]) hx hb dX1_numbered_28 rfl hl (by decide) rfl (fun ls hl => ?_)
          refine lv_aload_n hx hb dX1_numbered_29 rfl (lv_at hl 2 rfl) ?_
          refine lv_iload_n hx hb dX1_numbered_30 rfl (lv_at hl 1 rfl) ?_
          refine va_new (ci := 1) (fs := [.null, .int 0]) (C := RX1) (T := TX1) (N := 2) hx hb hts inlX1 tyX1 tyX1_ok hown (hts _ mw_355) (hts _ mw_330) (hts _ mw_331) hK hP hD hS hA rfl (fun j hj => by rcases (show j = 0 ∨ j = 1 by omega) with rfl | rfl <;> rfl) (Nat.le_of_ble_eq_true rfl) (Nat.le_of_ble_eq_true rfl) dX1_numbered_31 (fun q_90 H hP hD hS => ?_)
          replace hP : va_P D vwCl ([(q_1, .inl (κ 3, n, .inr (.inr (.inr (.inr g_77))))), (q_84, .inl (κ 1, 2, .inl g_88)), (q_90, .inr (1, [.null, .int 0]))] ++ im2__68) H := mvP hP
          replace hD : va_D A ([(q_1, .inl (κ 3, n, .inr (.inr (.inr (.inr g_77))))), (q_84, .inl (κ 1, 2, .inl g_88)), (q_90, .inr (1, [.null, .int 0]))] ++ im2__68) := mvD hD
          refine lv_dup hx hb dX1_numbered_34 rfl ?_
          refine lv_aload_n hx hb dX1_numbered_35 rfl (lv_at hl 0 rfl) ?_
          refine lv_iconst (v := (-1)) hx hb dX1_numbered_36 (by decide) ?_
          replace hP : va_P D vwCl ([(q_1, .inl (κ 3, n, .inr (.inr (.inr (.inr g_77))))), (q_90, .inr (1, [.null, .int 0])), (q_84, .inl (κ 1, 2, .inl g_88))] ++ im2__68) _ := subP hP [0, 2, 1] rfl
          replace hD : va_D A ([(q_1, .inl (κ 3, n, .inr (.inr (.inr (.inr g_77))))), (q_90, .inr (1, [.null, .int 0])), (q_84, .inl (κ 1, 2, .inl g_88))] ++ im2__68) := subD hD [0, 2, 1] (by decide) rfl
          obtain ⟨im_91, he_92⟩ : ∃ x9 : va_W, x9 = ([(q_84, .inl (κ 1, 2, .inl g_88))] ++ im2__68) := ⟨_, rfl⟩
          have hs_93 : Sb im2__68 im_91 := by rw [he_92]; exact Sb.app
          have hm_q_84 : (q_84, .inl (κ 1, 2, .inl g_88)) ∈ im_91 := by rw [he_92]; exact List.mem_of_getElem? (i := 0) rfl
          replace hP : va_P D vwCl ([(q_1, .inl (κ 3, n, .inr (.inr (.inr (.inr g_77))))), (q_90, .inr (1, [.null, .int 0]))] ++ ([(q_84, .inl (κ 1, 2, .inl g_88))] ++ im2__68)) _ := hP
          replace hD : va_D A ([(q_1, .inl (κ 3, n, .inr (.inr (.inr (.inr g_77))))), (q_90, .inr (1, [.null, .int 0]))] ++ ([(q_84, .inl (κ 1, 2, .inl g_88))] ++ im2__68)) := hD
          rw [← he_92] at hP hD
          clear he_92
          replace hf_13 := hf_13.up hs_93
          replace h_17 := h_17.up hs_93
          replace hb_21 := hb_21.up hs_93
          replace hf_24 := hf_24.up hs_93
          replace hf_40 := hf_40.up hs_93
          replace h_44 := h_44.up hs_93
          replace hb_48 := hb_48.up hs_93
          replace hf_51 := hf_51.up hs_93
          replace hf_67 := hf_67.up hs_93
          replace h_71 := h_71.up hs_93
          replace hb_75 := hb_75.up hs_93
          replace hf_78 := hf_78.up hs_93
          replace hm_q_3 := hs_93 _ hm_q_3
          replace hm_20 := hs_93 _ hm_20
          replace hm_q_30 := hs_93 _ hm_q_30
          replace hm_47 := hs_93 _ hm_47
          replace hm_q_57 := hs_93 _ hm_q_57
          replace hm_74 := hs_93 _ hm_74
          have hf_94 : By κ im_91 q_84 2 := ⟨by omega, _, hm_q_84, hf_89⟩
          refine et_IT (CR := [(q_1, .inl (κ 3, n, .inr (.inr (.inr (.inr g_77)))))]) (As := [.ref q_84, .int (-1)]) (rest := [.ref q_90, .int 3, .ref q_1]) hFX hKK hE hP hD hS hA (c_X1_init l D κ κq im_91 q_90 q_84 2 (-1) hf_94 (by first | assumption | exact To_m | exact To_n (by omega))) 2 mw_356 mw_348 mw_331 mw_349 hdI_X1_init ⟨Nat.le_of_ble_eq_true rfl, Nat.le_of_ble_eq_true rfl⟩ rfl rfl (Nat.le_of_ble_eq_true rfl) dX1_numbered_37 ⟨Nat.le_of_ble_eq_true rfl, Nat.le_of_ble_eq_true rfl⟩ hl.1 [1] [0] rfl rfl (by decide) (by decide) (by decide) (fun im2__95 H locs hp_96 hP hD hS => ?_)
          refine W.widen (k := 9) (n := 24) (Nat.le_refl _) (Nat.le_refl _) ?_
          replace hP : va_P D vwCl ([(q_1, .inl (κ 3, n, .inr (.inr (.inr (.inr g_77)))))] ++ im2__95) H := subP (C := [(q_1, .inl (κ 3, n, .inr (.inr (.inr (.inr g_77)))))]) hP [0] rfl
          replace hD : va_D A ([(q_1, .inl (κ 3, n, .inr (.inr (.inr (.inr g_77)))))] ++ im2__95) := subD (C := [(q_1, .inl (κ 3, n, .inr (.inr (.inr (.inr g_77)))))]) hD [0] (by decide) rfl
          replace hp_96 : Sb im_91 im2__95 ∧ Co κ im2__95 q_90 2 (-1 : Int32) := hp_96
          obtain ⟨h_97, h_98⟩ := hp_96
          replace hf_13 := hf_13.up h_97
          replace h_17 := h_17.up h_97
          replace hb_21 := hb_21.up h_97
          replace hf_24 := hf_24.up h_97
          replace hf_40 := hf_40.up h_97
          replace h_44 := h_44.up h_97
          replace hb_48 := hb_48.up h_97
          replace hf_51 := hf_51.up h_97
          replace hf_67 := hf_67.up h_97
          replace h_71 := h_71.up h_97
          replace hb_75 := hb_75.up h_97
          replace hf_78 := hf_78.up h_97
          replace hf_94 := hf_94.up h_97
          replace hm_q_3 := h_97 _ hm_q_3
          replace hm_20 := h_97 _ hm_20
          replace hm_q_30 := h_97 _ hm_q_30
          replace hm_47 := h_97 _ hm_47
          replace hm_q_57 := h_97 _ hm_q_57
          replace hm_74 := h_97 _ hm_74
          replace hm_q_84 := h_97 _ hm_q_84
          refine W.eq (g2 := F0 m 40 ls [.ref q_90, .int 3, .ref q_1]) rfl ?_
          obtain ⟨ht_99, b_100, hm_101, hb_102⟩ := id h_98
          have hn_b_100 := hb_102.1
          obtain ⟨k_103, ek_103⟩ := tl_at [(q_1, .inl (κ 3, n, .inr (.inr (.inr (.inr g_77)))))] hm_101
          refine va_astq hx hb hK hP hD hS 0 3 k_103 1 rfl rfl ek_103 rfl (i := 3) (vp_c (c := 3) (by decide) (by omega)) dX1_numbered_40 (fun H locs hP hD hS => ?_)
          have hP : va_P D vwCl ([(q_1, .inl (κ 3, n, .inr (.inr (.inr (.inr (va_up g_77 3 (some q_90)))))))] ++ im2__95) H := hP
          have hD : va_D A ([(q_1, .inl (κ 3, n, .inr (.inr (.inr (.inr (va_up g_77 3 (some q_90)))))))] ++ im2__95) := hD
          have hf_105 : Lo κ im2__95 (va_up g_77 3 (some q_90)) 4 := Lo_add hf_78 h_98
          generalize va_up g_77 3 (some q_90) = g_104 at hP hD hf_105
          refine lv_iinc (v := 4) (lv' := [(2, .int 4), (3, .ref q_84), (1, .ref q_1), (0, .int (nI n))]) hx hb dX1_numbered_41 hl (k := 1) rfl (by decide) (by decide) rfl (fun ls hl => ?_)
          refine lv_goto (tgt := 7) hx hb dX1_numbered_44 (by decide) ?_
          refine lv_iload_n hx hb dX1_numbered_7 rfl (lv_at hl 0 rfl) ?_
          refine lv_iload_n hx hb dX1_numbered_8 rfl (lv_at hl 3 rfl) ?_
          refine lv_icmp_ge (tgt := 47) hx hb dX1_numbered_9 (by decide) (fun c_106 => ?_) (fun c_106 => ?_)
          · have nc_106 := cv_le (a := n) (b := 4) (by omega) (by omega) c_106
            refine lv_aload_n hx hb dX1_numbered_47 rfl (lv_at hl 2 rfl) ?_
            replace hP : va_P D vwCl ([(q_1, .inl (κ 3, n, .inr (.inr (.inr (.inr g_104)))))] ++ im2__95) _ := subP hP [0] rfl
            replace hD : va_D A ([(q_1, .inl (κ 3, n, .inr (.inr (.inr (.inr g_104)))))] ++ im2__95) := subD hD [0] (by decide) rfl
            obtain ⟨im_107, he_108⟩ : ∃ x9 : va_W, x9 = ([(q_1, .inl (κ 3, n, .inr (.inr (.inr (.inr g_104)))))] ++ im2__95) := ⟨_, rfl⟩
            have hs_109 : Sb im2__95 im_107 := by rw [he_108]; exact Sb.app
            have hm_q_1 : (q_1, .inl (κ 3, n, .inr (.inr (.inr (.inr g_104))))) ∈ im_107 := by rw [he_108]; exact List.mem_of_getElem? (i := 0) rfl
            replace hP : va_P D vwCl ([] ++ ([(q_1, .inl (κ 3, n, .inr (.inr (.inr (.inr g_104)))))] ++ im2__95)) _ := hP
            replace hD : va_D A ([] ++ ([(q_1, .inl (κ 3, n, .inr (.inr (.inr (.inr g_104)))))] ++ im2__95)) := hD
            rw [← he_108] at hP hD
            clear he_108
            replace hf_13 := hf_13.up hs_109
            replace h_17 := h_17.up hs_109
            replace hb_21 := hb_21.up hs_109
            replace hf_24 := hf_24.up hs_109
            replace hf_40 := hf_40.up hs_109
            replace h_44 := h_44.up hs_109
            replace hb_48 := hb_48.up hs_109
            replace hf_51 := hf_51.up hs_109
            replace hf_67 := hf_67.up hs_109
            replace h_71 := h_71.up hs_109
            replace hb_75 := hb_75.up hs_109
            replace hf_78 := hf_78.up hs_109
            replace hf_94 := hf_94.up hs_109
            replace h_98 := h_98.up hs_109
            replace hb_102 := hb_102.up hs_109
            replace hf_105 := hf_105.up hs_109
            replace hm_q_3 := hs_109 _ hm_q_3
            replace hm_20 := hs_109 _ hm_20
            replace hm_q_30 := hs_109 _ hm_q_30
            replace hm_47 := hs_109 _ hm_47
            replace hm_q_57 := hs_109 _ hm_q_57
            replace hm_74 := hs_109 _ hm_74
            replace hm_q_84 := hs_109 _ hm_q_84
            replace hm_101 := hs_109 _ hm_101
            have hf_110 : Ca κ im_107 q_1 n := ⟨_, hm_q_1, (by have e9 : n = 4 := (by omega); rw [e9]; exact hf_105)⟩
            exact et_aret hx hb hr (by first | exact Or.inl ⟨_, rfl⟩ | exact Or.inr ⟨_, rfl⟩) hlk (by first | exact Or.inl rfl | exact Or.inr ⟨_, rfl⟩) hS (q_1, im_107) rfl ⟨(show Sb im im_107 from (Sb.tr (Sb.tr (Sb.tr (Sb.tr (Sb.tr (Sb.tr (Sb.tr (Sb.tr hs_12 h_16) hs_39) h_43) hs_66) h_70) hs_93) h_97) hs_109)), (show Ca κ im_107 q_1 n from hf_110)⟩ (subP hP [] rfl) (subD hD [] (by decide) rfl) (Nat.le_of_ble_eq_true rfl) (Nat.le_of_ble_eq_true rfl) dX1_numbered_48
          · have nc_106 := cv_nle (a := n) (b := 4) (by omega) (by omega) c_106
            refine lv_iconst (v := 2) hx hb dX1_numbered_12 (by decide) ?_
            refine my_newa (atype := .byte) hx hb (hts _ mw_69) rfl hK hP hD hS hA 1 rfl (N' := 2) (a0 := (2, .inl (fun _ => 0))) (fun _ => rfl) (by decide) (by decide) (Nat.le_of_ble_eq_true rfl) (Nat.le_of_ble_eq_true rfl) (Nat.le_of_ble_eq_true rfl) dX1_numbered_13 (fun q_111 H hP hD hS => ?_)
            replace hP : va_P D vwCl ([(q_1, .inl (κ 3, n, .inr (.inr (.inr (.inr g_104))))), (q_111, .inl (κ 1, 2, .inl (fun _ => (0 : Int32))))] ++ im2__95) H := mvP hP
            replace hD : va_D A ([(q_1, .inl (κ 3, n, .inr (.inr (.inr (.inr g_104))))), (q_111, .inl (κ 1, 2, .inl (fun _ => (0 : Int32))))] ++ im2__95) := mvD hD
            refine lv_dup hx hb dX1_numbered_15 rfl ?_
            refine lv_iconst (v := 0) hx hb dX1_numbered_16 (by decide) ?_
            refine lv_bipush (v := 99) hx hb dX1_numbered_17 (by decide) ?_
            refine va_bast hx hb hK hP hD hS 1 1 rfl rfl (i := 0) (x := 99) (vp_k (by decide)) dX1_numbered_19 (fun H locs hP hD hS => ?_)
            have hP : va_P D vwCl ([(q_1, .inl (κ 3, n, .inr (.inr (.inr (.inr g_104))))), (q_111, .inl (κ 1, 2, .inl (upd (fun _ => (0 : Int32)) 0 (vp_nar .byte 99))))] ++ im2__95) H := hP
            have hD : va_D A ([(q_1, .inl (κ 3, n, .inr (.inr (.inr (.inr g_104))))), (q_111, .inl (κ 1, 2, .inl (upd (fun _ => (0 : Int32)) 0 (vp_nar .byte 99))))] ++ im2__95) := hD
            have hf_113 : sb_Fit (upd (fun _ => (0 : Int32)) 0 (vp_nar .byte 99)) := sb_fitU sb_fit0 (fit_nar _)
            generalize upd (fun _ => (0 : Int32)) 0 (vp_nar .byte 99) = g_112 at hP hD hf_113
            refine lv_dup hx hb dX1_numbered_20 rfl ?_
            refine lv_iconst (v := 1) hx hb dX1_numbered_21 (by decide) ?_
            refine lv_bipush (v := 48) hx hb dX1_numbered_22 (by decide) ?_
            refine lv_iload_n hx hb dX1_numbered_24 rfl (lv_at hl 0 rfl) ?_
            refine lv_iadd hx hb dX1_numbered_25 ?_
            refine ki (v := 52) (by decide) ?_
            obtain ⟨x_114, ex_114⟩ : ∃ y9 : Int32, (52 : Int32).toInt8.toInt32 = y9 := ⟨_, rfl⟩
            refine lv_i2b hx hb dX1_numbered_26 ex_114 ?_
            refine va_bast hx hb hK hP hD hS 1 1 rfl rfl (i := 1) (x := x_114) (vp_k (by decide)) dX1_numbered_27 (fun H locs hP hD hS => ?_)
            have hP : va_P D vwCl ([(q_1, .inl (κ 3, n, .inr (.inr (.inr (.inr g_104))))), (q_111, .inl (κ 1, 2, .inl (upd g_112 1 (vp_nar .byte x_114))))] ++ im2__95) H := hP
            have hD : va_D A ([(q_1, .inl (κ 3, n, .inr (.inr (.inr (.inr g_104))))), (q_111, .inl (κ 1, 2, .inl (upd g_112 1 (vp_nar .byte x_114))))] ++ im2__95) := hD
            have hf_116 : sb_Fit (upd g_112 1 (vp_nar .byte x_114)) := sb_fitU hf_113 (fit_nar _)
            generalize upd g_112 1 (vp_nar .byte x_114) = g_115 at hP hD hf_116
            refine lv_astore_n (lv' := [(3, .ref q_111), (2, .int 4), (1, .ref q_1), (0, .int (nI n))]) hx hb dX1_numbered_28 rfl hl (by decide) rfl (fun ls hl => ?_)
            refine lv_aload_n hx hb dX1_numbered_29 rfl (lv_at hl 2 rfl) ?_
            refine lv_iload_n hx hb dX1_numbered_30 rfl (lv_at hl 1 rfl) ?_
            refine va_new (ci := 1) (fs := [.null, .int 0]) (C := RX1) (T := TX1) (N := 2) hx hb hts inlX1 tyX1 tyX1_ok hown (hts _ mw_355) (hts _ mw_330) (hts _ mw_331) hK hP hD hS hA rfl (fun j hj => by rcases (show j = 0 ∨ j = 1 by omega) with rfl | rfl <;> rfl) (Nat.le_of_ble_eq_true rfl) (Nat.le_of_ble_eq_true rfl) dX1_numbered_31 (fun q_117 H hP hD hS => ?_)
            replace hP : va_P D vwCl ([(q_1, .inl (κ 3, n, .inr (.inr (.inr (.inr g_104))))), (q_111, .inl (κ 1, 2, .inl g_115)), (q_117, .inr (1, [.null, .int 0]))] ++ im2__95) H := mvP hP
            replace hD : va_D A ([(q_1, .inl (κ 3, n, .inr (.inr (.inr (.inr g_104))))), (q_111, .inl (κ 1, 2, .inl g_115)), (q_117, .inr (1, [.null, .int 0]))] ++ im2__95) := mvD hD
            refine lv_dup hx hb dX1_numbered_34 rfl ?_
            refine lv_aload_n hx hb dX1_numbered_35 rfl (lv_at hl 0 rfl) ?_
            refine lv_iconst (v := (-1)) hx hb dX1_numbered_36 (by decide) ?_
            replace hP : va_P D vwCl ([(q_1, .inl (κ 3, n, .inr (.inr (.inr (.inr g_104))))), (q_117, .inr (1, [.null, .int 0])), (q_111, .inl (κ 1, 2, .inl g_115))] ++ im2__95) _ := subP hP [0, 2, 1] rfl
            replace hD : va_D A ([(q_1, .inl (κ 3, n, .inr (.inr (.inr (.inr g_104))))), (q_117, .inr (1, [.null, .int 0])), (q_111, .inl (κ 1, 2, .inl g_115))] ++ im2__95) := subD hD [0, 2, 1] (by decide) rfl
            obtain ⟨im_118, he_119⟩ : ∃ x9 : va_W, x9 = ([(q_111, .inl (κ 1, 2, .inl g_115))] ++ im2__95) := ⟨_, rfl⟩
            have hs_120 : Sb im2__95 im_118 := by rw [he_119]; exact Sb.app
            have hm_q_111 : (q_111, .inl (κ 1, 2, .inl g_115)) ∈ im_118 := by rw [he_119]; exact List.mem_of_getElem? (i := 0) rfl
            replace hP : va_P D vwCl ([(q_1, .inl (κ 3, n, .inr (.inr (.inr (.inr g_104))))), (q_117, .inr (1, [.null, .int 0]))] ++ ([(q_111, .inl (κ 1, 2, .inl g_115))] ++ im2__95)) _ := hP
            replace hD : va_D A ([(q_1, .inl (κ 3, n, .inr (.inr (.inr (.inr g_104))))), (q_117, .inr (1, [.null, .int 0]))] ++ ([(q_111, .inl (κ 1, 2, .inl g_115))] ++ im2__95)) := hD
            rw [← he_119] at hP hD
            clear he_119
            replace hf_13 := hf_13.up hs_120
            replace h_17 := h_17.up hs_120
            replace hb_21 := hb_21.up hs_120
            replace hf_24 := hf_24.up hs_120
            replace hf_40 := hf_40.up hs_120
            replace h_44 := h_44.up hs_120
            replace hb_48 := hb_48.up hs_120
            replace hf_51 := hf_51.up hs_120
            replace hf_67 := hf_67.up hs_120
            replace h_71 := h_71.up hs_120
            replace hb_75 := hb_75.up hs_120
            replace hf_78 := hf_78.up hs_120
            replace hf_94 := hf_94.up hs_120
            replace h_98 := h_98.up hs_120
            replace hb_102 := hb_102.up hs_120
            replace hf_105 := hf_105.up hs_120
            replace hm_q_3 := hs_120 _ hm_q_3
            replace hm_20 := hs_120 _ hm_20
            replace hm_q_30 := hs_120 _ hm_q_30
            replace hm_47 := hs_120 _ hm_47
            replace hm_q_57 := hs_120 _ hm_q_57
            replace hm_74 := hs_120 _ hm_74
            replace hm_q_84 := hs_120 _ hm_q_84
            replace hm_101 := hs_120 _ hm_101
            have hf_121 : By κ im_118 q_111 2 := ⟨by omega, _, hm_q_111, hf_116⟩
            refine et_IT (CR := [(q_1, .inl (κ 3, n, .inr (.inr (.inr (.inr g_104)))))]) (As := [.ref q_111, .int (-1)]) (rest := [.ref q_117, .int 4, .ref q_1]) hFX hKK hE hP hD hS hA (c_X1_init l D κ κq im_118 q_117 q_111 2 (-1) hf_121 (by first | assumption | exact To_m | exact To_n (by omega))) 2 mw_356 mw_348 mw_331 mw_349 hdI_X1_init ⟨Nat.le_of_ble_eq_true rfl, Nat.le_of_ble_eq_true rfl⟩ rfl rfl (Nat.le_of_ble_eq_true rfl) dX1_numbered_37 ⟨Nat.le_of_ble_eq_true rfl, Nat.le_of_ble_eq_true rfl⟩ hl.1 [1] [0] rfl rfl (by decide) (by decide) (by decide) (fun im2__122 H locs hp_123 hP hD hS => ?_)
            refine W.widen (k := 11) (n := 28) (Nat.le_refl _) (Nat.le_refl _) ?_
            replace hP : va_P D vwCl ([(q_1, .inl (κ 3, n, .inr (.inr (.inr (.inr g_104)))))] ++ im2__122) H := subP (C := [(q_1, .inl (κ 3, n, .inr (.inr (.inr (.inr g_104)))))]) hP [0] rfl
            replace hD : va_D A ([(q_1, .inl (κ 3, n, .inr (.inr (.inr (.inr g_104)))))] ++ im2__122) := subD (C := [(q_1, .inl (κ 3, n, .inr (.inr (.inr (.inr g_104)))))]) hD [0] (by decide) rfl
            replace hp_123 : Sb im_118 im2__122 ∧ Co κ im2__122 q_117 2 (-1 : Int32) := hp_123
            obtain ⟨h_124, h_125⟩ := hp_123
            replace hf_13 := hf_13.up h_124
            replace h_17 := h_17.up h_124
            replace hb_21 := hb_21.up h_124
            replace hf_24 := hf_24.up h_124
            replace hf_40 := hf_40.up h_124
            replace h_44 := h_44.up h_124
            replace hb_48 := hb_48.up h_124
            replace hf_51 := hf_51.up h_124
            replace hf_67 := hf_67.up h_124
            replace h_71 := h_71.up h_124
            replace hb_75 := hb_75.up h_124
            replace hf_78 := hf_78.up h_124
            replace hf_94 := hf_94.up h_124
            replace h_98 := h_98.up h_124
            replace hb_102 := hb_102.up h_124
            replace hf_105 := hf_105.up h_124
            replace hf_121 := hf_121.up h_124
            replace hm_q_3 := h_124 _ hm_q_3
            replace hm_20 := h_124 _ hm_20
            replace hm_q_30 := h_124 _ hm_q_30
            replace hm_47 := h_124 _ hm_47
            replace hm_q_57 := h_124 _ hm_q_57
            replace hm_74 := h_124 _ hm_74
            replace hm_q_84 := h_124 _ hm_q_84
            replace hm_101 := h_124 _ hm_101
            replace hm_q_111 := h_124 _ hm_q_111
            refine W.eq (g2 := F0 m 40 ls [.ref q_117, .int 4, .ref q_1]) rfl ?_
            obtain ⟨ht_126, b_127, hm_128, hb_129⟩ := id h_125
            have hn_b_127 := hb_129.1
            obtain ⟨k_130, ek_130⟩ := tl_at [(q_1, .inl (κ 3, n, .inr (.inr (.inr (.inr g_104)))))] hm_128
            refine va_astq hx hb hK hP hD hS 0 3 k_130 1 rfl rfl ek_130 rfl (i := 4) (vp_c (c := 4) (by decide) (by omega)) dX1_numbered_40 (fun H locs hP hD hS => ?_)
            have hP : va_P D vwCl ([(q_1, .inl (κ 3, n, .inr (.inr (.inr (.inr (va_up g_104 4 (some q_117)))))))] ++ im2__122) H := hP
            have hD : va_D A ([(q_1, .inl (κ 3, n, .inr (.inr (.inr (.inr (va_up g_104 4 (some q_117)))))))] ++ im2__122) := hD
            have hf_132 : Lo κ im2__122 (va_up g_104 4 (some q_117)) 5 := Lo_add hf_105 h_125
            generalize va_up g_104 4 (some q_117) = g_131 at hP hD hf_132
            refine lv_iinc (v := 5) (lv' := [(2, .int 5), (3, .ref q_111), (1, .ref q_1), (0, .int (nI n))]) hx hb dX1_numbered_41 hl (k := 1) rfl (by decide) (by decide) rfl (fun ls hl => ?_)
            refine lv_goto (tgt := 7) hx hb dX1_numbered_44 (by decide) ?_
            refine lv_iload_n hx hb dX1_numbered_7 rfl (lv_at hl 0 rfl) ?_
            refine lv_iload_n hx hb dX1_numbered_8 rfl (lv_at hl 3 rfl) ?_
            refine lv_icmp_ge (tgt := 47) hx hb dX1_numbered_9 (by decide) (fun c_133 => ?_) (fun c_133 => ?_)
            · have nc_133 := cv_le (a := n) (b := 5) (by omega) (by omega) c_133
              refine lv_aload_n hx hb dX1_numbered_47 rfl (lv_at hl 2 rfl) ?_
              replace hP : va_P D vwCl ([(q_1, .inl (κ 3, n, .inr (.inr (.inr (.inr g_131)))))] ++ im2__122) _ := subP hP [0] rfl
              replace hD : va_D A ([(q_1, .inl (κ 3, n, .inr (.inr (.inr (.inr g_131)))))] ++ im2__122) := subD hD [0] (by decide) rfl
              obtain ⟨im_134, he_135⟩ : ∃ x9 : va_W, x9 = ([(q_1, .inl (κ 3, n, .inr (.inr (.inr (.inr g_131)))))] ++ im2__122) := ⟨_, rfl⟩
              have hs_136 : Sb im2__122 im_134 := by rw [he_135]; exact Sb.app
              have hm_q_1 : (q_1, .inl (κ 3, n, .inr (.inr (.inr (.inr g_131))))) ∈ im_134 := by rw [he_135]; exact List.mem_of_getElem? (i := 0) rfl
              replace hP : va_P D vwCl ([] ++ ([(q_1, .inl (κ 3, n, .inr (.inr (.inr (.inr g_131)))))] ++ im2__122)) _ := hP
              replace hD : va_D A ([] ++ ([(q_1, .inl (κ 3, n, .inr (.inr (.inr (.inr g_131)))))] ++ im2__122)) := hD
              rw [← he_135] at hP hD
              clear he_135
              replace hf_13 := hf_13.up hs_136
              replace h_17 := h_17.up hs_136
              replace hb_21 := hb_21.up hs_136
              replace hf_24 := hf_24.up hs_136
              replace hf_40 := hf_40.up hs_136
              replace h_44 := h_44.up hs_136
              replace hb_48 := hb_48.up hs_136
              replace hf_51 := hf_51.up hs_136
              replace hf_67 := hf_67.up hs_136
              replace h_71 := h_71.up hs_136
              replace hb_75 := hb_75.up hs_136
              replace hf_78 := hf_78.up hs_136
              replace hf_94 := hf_94.up hs_136
              replace h_98 := h_98.up hs_136
              replace hb_102 := hb_102.up hs_136
              replace hf_105 := hf_105.up hs_136
              replace hf_121 := hf_121.up hs_136
              replace h_125 := h_125.up hs_136
              replace hb_129 := hb_129.up hs_136
              replace hf_132 := hf_132.up hs_136
              replace hm_q_3 := hs_136 _ hm_q_3
              replace hm_20 := hs_136 _ hm_20
              replace hm_q_30 := hs_136 _ hm_q_30
              replace hm_47 := hs_136 _ hm_47
              replace hm_q_57 := hs_136 _ hm_q_57
              replace hm_74 := hs_136 _ hm_74
              replace hm_q_84 := hs_136 _ hm_q_84
              replace hm_101 := hs_136 _ hm_101
              replace hm_q_111 := hs_136 _ hm_q_111
              replace hm_128 := hs_136 _ hm_128
              have hf_137 : Ca κ im_134 q_1 n := ⟨_, hm_q_1, (by have e9 : n = 5 := (by omega); rw [e9]; exact hf_132)⟩
              exact et_aret hx hb hr (by first | exact Or.inl ⟨_, rfl⟩ | exact Or.inr ⟨_, rfl⟩) hlk (by first | exact Or.inl rfl | exact Or.inr ⟨_, rfl⟩) hS (q_1, im_134) rfl ⟨(show Sb im im_134 from (Sb.tr (Sb.tr (Sb.tr (Sb.tr (Sb.tr (Sb.tr (Sb.tr (Sb.tr (Sb.tr (Sb.tr hs_12 h_16) hs_39) h_43) hs_66) h_70) hs_93) h_97) hs_120) h_124) hs_136)), (show Ca κ im_134 q_1 n from hf_137)⟩ (subP hP [] rfl) (subD hD [] (by decide) rfl) (Nat.le_of_ble_eq_true rfl) (Nat.le_of_ble_eq_true rfl) dX1_numbered_48
            · have nc_133 := cv_nle (a := n) (b := 5) (by omega) (by omega) c_133
              refine lv_iconst (v := 2) hx hb dX1_numbered_12 (by decide) ?_
              refine my_newa (atype := .byte) hx hb (hts _ mw_69) rfl hK hP hD hS hA 1 rfl (N' := 2) (a0 := (2, .inl (fun _ => 0))) (fun _ => rfl) (by decide) (by decide) (Nat.le_of_ble_eq_true rfl) (Nat.le_of_ble_eq_true rfl) (Nat.le_of_ble_eq_true rfl) dX1_numbered_13 (fun q_138 H hP hD hS => ?_)
              replace hP : va_P D vwCl ([(q_1, .inl (κ 3, n, .inr (.inr (.inr (.inr g_131))))), (q_138, .inl (κ 1, 2, .inl (fun _ => (0 : Int32))))] ++ im2__122) H := mvP hP
              replace hD : va_D A ([(q_1, .inl (κ 3, n, .inr (.inr (.inr (.inr g_131))))), (q_138, .inl (κ 1, 2, .inl (fun _ => (0 : Int32))))] ++ im2__122) := mvD hD
              refine lv_dup hx hb dX1_numbered_15 rfl ?_
              refine lv_iconst (v := 0) hx hb dX1_numbered_16 (by decide) ?_
              refine lv_bipush (v := 99) hx hb dX1_numbered_17 (by decide) ?_
              refine va_bast hx hb hK hP hD hS 1 1 rfl rfl (i := 0) (x := 99) (vp_k (by decide)) dX1_numbered_19 (fun H locs hP hD hS => ?_)
              have hP : va_P D vwCl ([(q_1, .inl (κ 3, n, .inr (.inr (.inr (.inr g_131))))), (q_138, .inl (κ 1, 2, .inl (upd (fun _ => (0 : Int32)) 0 (vp_nar .byte 99))))] ++ im2__122) H := hP
              have hD : va_D A ([(q_1, .inl (κ 3, n, .inr (.inr (.inr (.inr g_131))))), (q_138, .inl (κ 1, 2, .inl (upd (fun _ => (0 : Int32)) 0 (vp_nar .byte 99))))] ++ im2__122) := hD
              have hf_140 : sb_Fit (upd (fun _ => (0 : Int32)) 0 (vp_nar .byte 99)) := sb_fitU sb_fit0 (fit_nar _)
              generalize upd (fun _ => (0 : Int32)) 0 (vp_nar .byte 99) = g_139 at hP hD hf_140
              refine lv_dup hx hb dX1_numbered_20 rfl ?_
              refine lv_iconst (v := 1) hx hb dX1_numbered_21 (by decide) ?_
              refine lv_bipush (v := 48) hx hb dX1_numbered_22 (by decide) ?_
              refine lv_iload_n hx hb dX1_numbered_24 rfl (lv_at hl 0 rfl) ?_
              refine lv_iadd hx hb dX1_numbered_25 ?_
              refine ki (v := 53) (by decide) ?_
              obtain ⟨x_141, ex_141⟩ : ∃ y9 : Int32, (53 : Int32).toInt8.toInt32 = y9 := ⟨_, rfl⟩
              refine lv_i2b hx hb dX1_numbered_26 ex_141 ?_
              refine va_bast hx hb hK hP hD hS 1 1 rfl rfl (i := 1) (x := x_141) (vp_k (by decide)) dX1_numbered_27 (fun H locs hP hD hS => ?_)
              have hP : va_P D vwCl ([(q_1, .inl (κ 3, n, .inr (.inr (.inr (.inr g_131))))), (q_138, .inl (κ 1, 2, .inl (upd g_139 1 (vp_nar .byte x_141))))] ++ im2__122) H := hP
              have hD : va_D A ([(q_1, .inl (κ 3, n, .inr (.inr (.inr (.inr g_131))))), (q_138, .inl (κ 1, 2, .inl (upd g_139 1 (vp_nar .byte x_141))))] ++ im2__122) := hD
              have hf_143 : sb_Fit (upd g_139 1 (vp_nar .byte x_141)) := sb_fitU hf_140 (fit_nar _)
              generalize upd g_139 1 (vp_nar .byte x_141) = g_142 at hP hD hf_143
              refine lv_astore_n (lv' := [(3, .ref q_138), (2, .int 5), (1, .ref q_1), (0, .int (nI n))]) hx hb dX1_numbered_28 rfl hl (by decide) rfl (fun ls hl => ?_)
              refine lv_aload_n hx hb dX1_numbered_29 rfl (lv_at hl 2 rfl) ?_
              refine lv_iload_n hx hb dX1_numbered_30 rfl (lv_at hl 1 rfl) ?_
              refine va_new (ci := 1) (fs := [.null, .int 0]) (C := RX1) (T := TX1) (N := 2) hx hb hts inlX1 tyX1 tyX1_ok hown (hts _ mw_355) (hts _ mw_330) (hts _ mw_331) hK hP hD hS hA rfl (fun j hj => by rcases (show j = 0 ∨ j = 1 by omega) with rfl | rfl <;> rfl) (Nat.le_of_ble_eq_true rfl) (Nat.le_of_ble_eq_true rfl) dX1_numbered_31 (fun q_144 H hP hD hS => ?_)
              replace hP : va_P D vwCl ([(q_1, .inl (κ 3, n, .inr (.inr (.inr (.inr g_131))))), (q_138, .inl (κ 1, 2, .inl g_142)), (q_144, .inr (1, [.null, .int 0]))] ++ im2__122) H := mvP hP
              replace hD : va_D A ([(q_1, .inl (κ 3, n, .inr (.inr (.inr (.inr g_131))))), (q_138, .inl (κ 1, 2, .inl g_142)), (q_144, .inr (1, [.null, .int 0]))] ++ im2__122) := mvD hD
              refine lv_dup hx hb dX1_numbered_34 rfl ?_
              refine lv_aload_n hx hb dX1_numbered_35 rfl (lv_at hl 0 rfl) ?_
              refine lv_iconst (v := (-1)) hx hb dX1_numbered_36 (by decide) ?_
              replace hP : va_P D vwCl ([(q_1, .inl (κ 3, n, .inr (.inr (.inr (.inr g_131))))), (q_144, .inr (1, [.null, .int 0])), (q_138, .inl (κ 1, 2, .inl g_142))] ++ im2__122) _ := subP hP [0, 2, 1] rfl
              replace hD : va_D A ([(q_1, .inl (κ 3, n, .inr (.inr (.inr (.inr g_131))))), (q_144, .inr (1, [.null, .int 0])), (q_138, .inl (κ 1, 2, .inl g_142))] ++ im2__122) := subD hD [0, 2, 1] (by decide) rfl
              obtain ⟨im_145, he_146⟩ : ∃ x9 : va_W, x9 = ([(q_138, .inl (κ 1, 2, .inl g_142))] ++ im2__122) := ⟨_, rfl⟩
              have hs_147 : Sb im2__122 im_145 := by rw [he_146]; exact Sb.app
              have hm_q_138 : (q_138, .inl (κ 1, 2, .inl g_142)) ∈ im_145 := by rw [he_146]; exact List.mem_of_getElem? (i := 0) rfl
              replace hP : va_P D vwCl ([(q_1, .inl (κ 3, n, .inr (.inr (.inr (.inr g_131))))), (q_144, .inr (1, [.null, .int 0]))] ++ ([(q_138, .inl (κ 1, 2, .inl g_142))] ++ im2__122)) _ := hP
              replace hD : va_D A ([(q_1, .inl (κ 3, n, .inr (.inr (.inr (.inr g_131))))), (q_144, .inr (1, [.null, .int 0]))] ++ ([(q_138, .inl (κ 1, 2, .inl g_142))] ++ im2__122)) := hD
              rw [← he_146] at hP hD
              clear he_146
              replace hf_13 := hf_13.up hs_147
              replace h_17 := h_17.up hs_147
              replace hb_21 := hb_21.up hs_147
              replace hf_24 := hf_24.up hs_147
              replace hf_40 := hf_40.up hs_147
              replace h_44 := h_44.up hs_147
              replace hb_48 := hb_48.up hs_147
              replace hf_51 := hf_51.up hs_147
              replace hf_67 := hf_67.up hs_147
              replace h_71 := h_71.up hs_147
              replace hb_75 := hb_75.up hs_147
              replace hf_78 := hf_78.up hs_147
              replace hf_94 := hf_94.up hs_147
              replace h_98 := h_98.up hs_147
              replace hb_102 := hb_102.up hs_147
              replace hf_105 := hf_105.up hs_147
              replace hf_121 := hf_121.up hs_147
              replace h_125 := h_125.up hs_147
              replace hb_129 := hb_129.up hs_147
              replace hf_132 := hf_132.up hs_147
              replace hm_q_3 := hs_147 _ hm_q_3
              replace hm_20 := hs_147 _ hm_20
              replace hm_q_30 := hs_147 _ hm_q_30
              replace hm_47 := hs_147 _ hm_47
              replace hm_q_57 := hs_147 _ hm_q_57
              replace hm_74 := hs_147 _ hm_74
              replace hm_q_84 := hs_147 _ hm_q_84
              replace hm_101 := hs_147 _ hm_101
              replace hm_q_111 := hs_147 _ hm_q_111
              replace hm_128 := hs_147 _ hm_128
              have hf_148 : By κ im_145 q_138 2 := ⟨by omega, _, hm_q_138, hf_143⟩
              refine et_IT (CR := [(q_1, .inl (κ 3, n, .inr (.inr (.inr (.inr g_131)))))]) (As := [.ref q_138, .int (-1)]) (rest := [.ref q_144, .int 5, .ref q_1]) hFX hKK hE hP hD hS hA (c_X1_init l D κ κq im_145 q_144 q_138 2 (-1) hf_148 (by first | assumption | exact To_m | exact To_n (by omega))) 2 mw_356 mw_348 mw_331 mw_349 hdI_X1_init ⟨Nat.le_of_ble_eq_true rfl, Nat.le_of_ble_eq_true rfl⟩ rfl rfl (Nat.le_of_ble_eq_true rfl) dX1_numbered_37 ⟨Nat.le_of_ble_eq_true rfl, Nat.le_of_ble_eq_true rfl⟩ hl.1 [1] [0] rfl rfl (by decide) (by decide) (by decide) (fun im2__149 H locs hp_150 hP hD hS => ?_)
              refine W.widen (k := 13) (n := 32) (Nat.le_refl _) (Nat.le_refl _) ?_
              replace hP : va_P D vwCl ([(q_1, .inl (κ 3, n, .inr (.inr (.inr (.inr g_131)))))] ++ im2__149) H := subP (C := [(q_1, .inl (κ 3, n, .inr (.inr (.inr (.inr g_131)))))]) hP [0] rfl
              replace hD : va_D A ([(q_1, .inl (κ 3, n, .inr (.inr (.inr (.inr g_131)))))] ++ im2__149) := subD (C := [(q_1, .inl (κ 3, n, .inr (.inr (.inr (.inr g_131)))))]) hD [0] (by decide) rfl
              replace hp_150 : Sb im_145 im2__149 ∧ Co κ im2__149 q_144 2 (-1 : Int32) := hp_150
              obtain ⟨h_151, h_152⟩ := hp_150
              replace hf_13 := hf_13.up h_151
              replace h_17 := h_17.up h_151
              replace hb_21 := hb_21.up h_151
              replace hf_24 := hf_24.up h_151
              replace hf_40 := hf_40.up h_151
              replace h_44 := h_44.up h_151
              replace hb_48 := hb_48.up h_151
              replace hf_51 := hf_51.up h_151
              replace hf_67 := hf_67.up h_151
              replace h_71 := h_71.up h_151
              replace hb_75 := hb_75.up h_151
              replace hf_78 := hf_78.up h_151
              replace hf_94 := hf_94.up h_151
              replace h_98 := h_98.up h_151
              replace hb_102 := hb_102.up h_151
              replace hf_105 := hf_105.up h_151
              replace hf_121 := hf_121.up h_151
              replace h_125 := h_125.up h_151
              replace hb_129 := hb_129.up h_151
              replace hf_132 := hf_132.up h_151
              replace hf_148 := hf_148.up h_151
              replace hm_q_3 := h_151 _ hm_q_3
              replace hm_20 := h_151 _ hm_20
              replace hm_q_30 := h_151 _ hm_q_30
              replace hm_47 := h_151 _ hm_47
              replace hm_q_57 := h_151 _ hm_q_57
              replace hm_74 := h_151 _ hm_74
              replace hm_q_84 := h_151 _ hm_q_84
              replace hm_101 := h_151 _ hm_101
              replace hm_q_111 := h_151 _ hm_q_111
              replace hm_128 := h_151 _ hm_128
              replace hm_q_138 := h_151 _ hm_q_138
              refine W.eq (g2 := F0 m 40 ls [.ref q_144, .int 5, .ref q_1]) rfl ?_
              obtain ⟨ht_153, b_154, hm_155, hb_156⟩ := id h_152
              have hn_b_154 := hb_156.1
              obtain ⟨k_157, ek_157⟩ := tl_at [(q_1, .inl (κ 3, n, .inr (.inr (.inr (.inr g_131)))))] hm_155
              refine va_astq hx hb hK hP hD hS 0 3 k_157 1 rfl rfl ek_157 rfl (i := 5) (vp_c (c := 5) (by decide) (by omega)) dX1_numbered_40 (fun H locs hP hD hS => ?_)
              have hP : va_P D vwCl ([(q_1, .inl (κ 3, n, .inr (.inr (.inr (.inr (va_up g_131 5 (some q_144)))))))] ++ im2__149) H := hP
              have hD : va_D A ([(q_1, .inl (κ 3, n, .inr (.inr (.inr (.inr (va_up g_131 5 (some q_144)))))))] ++ im2__149) := hD
              have hf_159 : Lo κ im2__149 (va_up g_131 5 (some q_144)) 6 := Lo_add hf_132 h_152
              generalize va_up g_131 5 (some q_144) = g_158 at hP hD hf_159
              refine lv_iinc (v := 6) (lv' := [(2, .int 6), (3, .ref q_138), (1, .ref q_1), (0, .int (nI n))]) hx hb dX1_numbered_41 hl (k := 1) rfl (by decide) (by decide) rfl (fun ls hl => ?_)
              refine lv_goto (tgt := 7) hx hb dX1_numbered_44 (by decide) ?_
              refine lv_iload_n hx hb dX1_numbered_7 rfl (lv_at hl 0 rfl) ?_
              refine lv_iload_n hx hb dX1_numbered_8 rfl (lv_at hl 3 rfl) ?_
              refine lv_icmp_ge (tgt := 47) hx hb dX1_numbered_9 (by decide) (fun c_160 => ?_) (fun c_160 => ?_)
              · have nc_160 := cv_le (a := n) (b := 6) (by omega) (by omega) c_160
                refine lv_aload_n hx hb dX1_numbered_47 rfl (lv_at hl 2 rfl) ?_
                replace hP : va_P D vwCl ([(q_1, .inl (κ 3, n, .inr (.inr (.inr (.inr g_158)))))] ++ im2__149) _ := subP hP [0] rfl
                replace hD : va_D A ([(q_1, .inl (κ 3, n, .inr (.inr (.inr (.inr g_158)))))] ++ im2__149) := subD hD [0] (by decide) rfl
                obtain ⟨im_161, he_162⟩ : ∃ x9 : va_W, x9 = ([(q_1, .inl (κ 3, n, .inr (.inr (.inr (.inr g_158)))))] ++ im2__149) := ⟨_, rfl⟩
                have hs_163 : Sb im2__149 im_161 := by rw [he_162]; exact Sb.app
                have hm_q_1 : (q_1, .inl (κ 3, n, .inr (.inr (.inr (.inr g_158))))) ∈ im_161 := by rw [he_162]; exact List.mem_of_getElem? (i := 0) rfl
                replace hP : va_P D vwCl ([] ++ ([(q_1, .inl (κ 3, n, .inr (.inr (.inr (.inr g_158)))))] ++ im2__149)) _ := hP
                replace hD : va_D A ([] ++ ([(q_1, .inl (κ 3, n, .inr (.inr (.inr (.inr g_158)))))] ++ im2__149)) := hD
                rw [← he_162] at hP hD
                clear he_162
                replace hf_13 := hf_13.up hs_163
                replace h_17 := h_17.up hs_163
                replace hb_21 := hb_21.up hs_163
                replace hf_24 := hf_24.up hs_163
                replace hf_40 := hf_40.up hs_163
                replace h_44 := h_44.up hs_163
                replace hb_48 := hb_48.up hs_163
                replace hf_51 := hf_51.up hs_163
                replace hf_67 := hf_67.up hs_163
                replace h_71 := h_71.up hs_163
                replace hb_75 := hb_75.up hs_163
                replace hf_78 := hf_78.up hs_163
                replace hf_94 := hf_94.up hs_163
                replace h_98 := h_98.up hs_163
                replace hb_102 := hb_102.up hs_163
                replace hf_105 := hf_105.up hs_163
                replace hf_121 := hf_121.up hs_163
                replace h_125 := h_125.up hs_163
                replace hb_129 := hb_129.up hs_163
                replace hf_132 := hf_132.up hs_163
                replace hf_148 := hf_148.up hs_163
                replace h_152 := h_152.up hs_163
                replace hb_156 := hb_156.up hs_163
                replace hf_159 := hf_159.up hs_163
                replace hm_q_3 := hs_163 _ hm_q_3
                replace hm_20 := hs_163 _ hm_20
                replace hm_q_30 := hs_163 _ hm_q_30
                replace hm_47 := hs_163 _ hm_47
                replace hm_q_57 := hs_163 _ hm_q_57
                replace hm_74 := hs_163 _ hm_74
                replace hm_q_84 := hs_163 _ hm_q_84
                replace hm_101 := hs_163 _ hm_101
                replace hm_q_111 := hs_163 _ hm_q_111
                replace hm_128 := hs_163 _ hm_128
                replace hm_q_138 := hs_163 _ hm_q_138
                replace hm_155 := hs_163 _ hm_155
                have hf_164 : Ca κ im_161 q_1 n := ⟨_, hm_q_1, (by have e9 : n = 6 := (by omega); rw [e9]; exact hf_159)⟩
                exact et_aret hx hb hr (by first | exact Or.inl ⟨_, rfl⟩ | exact Or.inr ⟨_, rfl⟩) hlk (by first | exact Or.inl rfl | exact Or.inr ⟨_, rfl⟩) hS (q_1, im_161) rfl ⟨(show Sb im im_161 from (Sb.tr (Sb.tr (Sb.tr (Sb.tr (Sb.tr (Sb.tr (Sb.tr (Sb.tr (Sb.tr (Sb.tr (Sb.tr (Sb.tr hs_12 h_16) hs_39) h_43) hs_66) h_70) hs_93) h_97) hs_120) h_124) hs_147) h_151) hs_163)), (show Ca κ im_161 q_1 n from hf_164)⟩ (subP hP [] rfl) (subD hD [] (by decide) rfl) (Nat.le_of_ble_eq_true rfl) (Nat.le_of_ble_eq_true rfl) dX1_numbered_48
              · have nc_160 := cv_nle (a := n) (b := 6) (by omega) (by omega) c_160
                refine lv_iconst (v := 2) hx hb dX1_numbered_12 (by decide) ?_
                refine my_newa (atype := .byte) hx hb (hts _ mw_69) rfl hK hP hD hS hA 1 rfl (N' := 2) (a0 := (2, .inl (fun _ => 0))) (fun _ => rfl) (by decide) (by decide) (Nat.le_of_ble_eq_true rfl) (Nat.le_of_ble_eq_true rfl) (Nat.le_of_ble_eq_true rfl) dX1_numbered_13 (fun q_165 H hP hD hS => ?_)
                replace hP : va_P D vwCl ([(q_1, .inl (κ 3, n, .inr (.inr (.inr (.inr g_158))))), (q_165, .inl (κ 1, 2, .inl (fun _ => (0 : Int32))))] ++ im2__149) H := mvP hP
                replace hD : va_D A ([(q_1, .inl (κ 3, n, .inr (.inr (.inr (.inr g_158))))), (q_165, .inl (κ 1, 2, .inl (fun _ => (0 : Int32))))] ++ im2__149) := mvD hD
                refine lv_dup hx hb dX1_numbered_15 rfl ?_
                refine lv_iconst (v := 0) hx hb dX1_numbered_16 (by decide) ?_
                refine lv_bipush (v := 99) hx hb dX1_numbered_17 (by decide) ?_
                refine va_bast hx hb hK hP hD hS 1 1 rfl rfl (i := 0) (x := 99) (vp_k (by decide)) dX1_numbered_19 (fun H locs hP hD hS => ?_)
                have hP : va_P D vwCl ([(q_1, .inl (κ 3, n, .inr (.inr (.inr (.inr g_158))))), (q_165, .inl (κ 1, 2, .inl (upd (fun _ => (0 : Int32)) 0 (vp_nar .byte 99))))] ++ im2__149) H := hP
                have hD : va_D A ([(q_1, .inl (κ 3, n, .inr (.inr (.inr (.inr g_158))))), (q_165, .inl (κ 1, 2, .inl (upd (fun _ => (0 : Int32)) 0 (vp_nar .byte 99))))] ++ im2__149) := hD
                have hf_167 : sb_Fit (upd (fun _ => (0 : Int32)) 0 (vp_nar .byte 99)) := sb_fitU sb_fit0 (fit_nar _)
                generalize upd (fun _ => (0 : Int32)) 0 (vp_nar .byte 99) = g_166 at hP hD hf_167
                refine lv_dup hx hb dX1_numbered_20 rfl ?_
                refine lv_iconst (v := 1) hx hb dX1_numbered_21 (by decide) ?_
                refine lv_bipush (v := 48) hx hb dX1_numbered_22 (by decide) ?_
                refine lv_iload_n hx hb dX1_numbered_24 rfl (lv_at hl 0 rfl) ?_
                refine lv_iadd hx hb dX1_numbered_25 ?_
                refine ki (v := 54) (by decide) ?_
                obtain ⟨x_168, ex_168⟩ : ∃ y9 : Int32, (54 : Int32).toInt8.toInt32 = y9 := ⟨_, rfl⟩
                refine lv_i2b hx hb dX1_numbered_26 ex_168 ?_
                refine va_bast hx hb hK hP hD hS 1 1 rfl rfl (i := 1) (x := x_168) (vp_k (by decide)) dX1_numbered_27 (fun H locs hP hD hS => ?_)
                have hP : va_P D vwCl ([(q_1, .inl (κ 3, n, .inr (.inr (.inr (.inr g_158))))), (q_165, .inl (κ 1, 2, .inl (upd g_166 1 (vp_nar .byte x_168))))] ++ im2__149) H := hP
                have hD : va_D A ([(q_1, .inl (κ 3, n, .inr (.inr (.inr (.inr g_158))))), (q_165, .inl (κ 1, 2, .inl (upd g_166 1 (vp_nar .byte x_168))))] ++ im2__149) := hD
                have hf_170 : sb_Fit (upd g_166 1 (vp_nar .byte x_168)) := sb_fitU hf_167 (fit_nar _)
                generalize upd g_166 1 (vp_nar .byte x_168) = g_169 at hP hD hf_170
                refine lv_astore_n (lv' := [(3, .ref q_165), (2, .int 6), (1, .ref q_1), (0, .int (nI n))]) hx hb dX1_numbered_28 rfl hl (by decide) rfl (fun ls hl => ?_)
                refine lv_aload_n hx hb dX1_numbered_29 rfl (lv_at hl 2 rfl) ?_
                refine lv_iload_n hx hb dX1_numbered_30 rfl (lv_at hl 1 rfl) ?_
                refine va_new (ci := 1) (fs := [.null, .int 0]) (C := RX1) (T := TX1) (N := 2) hx hb hts inlX1 tyX1 tyX1_ok hown (hts _ mw_355) (hts _ mw_330) (hts _ mw_331) hK hP hD hS hA rfl (fun j hj => by rcases (show j = 0 ∨ j = 1 by omega) with rfl | rfl <;> rfl) (Nat.le_of_ble_eq_true rfl) (Nat.le_of_ble_eq_true rfl) dX1_numbered_31 (fun q_171 H hP hD hS => ?_)
                replace hP : va_P D vwCl ([(q_1, .inl (κ 3, n, .inr (.inr (.inr (.inr g_158))))), (q_165, .inl (κ 1, 2, .inl g_169)), (q_171, .inr (1, [.null, .int 0]))] ++ im2__149) H := mvP hP
                replace hD : va_D A ([(q_1, .inl (κ 3, n, .inr (.inr (.inr (.inr g_158))))), (q_165, .inl (κ 1, 2, .inl g_169)), (q_171, .inr (1, [.null, .int 0]))] ++ im2__149) := mvD hD
                refine lv_dup hx hb dX1_numbered_34 rfl ?_
                refine lv_aload_n hx hb dX1_numbered_35 rfl (lv_at hl 0 rfl) ?_
                refine lv_iconst (v := (-1)) hx hb dX1_numbered_36 (by decide) ?_
                replace hP : va_P D vwCl ([(q_1, .inl (κ 3, n, .inr (.inr (.inr (.inr g_158))))), (q_171, .inr (1, [.null, .int 0])), (q_165, .inl (κ 1, 2, .inl g_169))] ++ im2__149) _ := subP hP [0, 2, 1] rfl
                replace hD : va_D A ([(q_1, .inl (κ 3, n, .inr (.inr (.inr (.inr g_158))))), (q_171, .inr (1, [.null, .int 0])), (q_165, .inl (κ 1, 2, .inl g_169))] ++ im2__149) := subD hD [0, 2, 1] (by decide) rfl
                obtain ⟨im_172, he_173⟩ : ∃ x9 : va_W, x9 = ([(q_165, .inl (κ 1, 2, .inl g_169))] ++ im2__149) := ⟨_, rfl⟩
                have hs_174 : Sb im2__149 im_172 := by rw [he_173]; exact Sb.app
                have hm_q_165 : (q_165, .inl (κ 1, 2, .inl g_169)) ∈ im_172 := by rw [he_173]; exact List.mem_of_getElem? (i := 0) rfl
                replace hP : va_P D vwCl ([(q_1, .inl (κ 3, n, .inr (.inr (.inr (.inr g_158))))), (q_171, .inr (1, [.null, .int 0]))] ++ ([(q_165, .inl (κ 1, 2, .inl g_169))] ++ im2__149)) _ := hP
                replace hD : va_D A ([(q_1, .inl (κ 3, n, .inr (.inr (.inr (.inr g_158))))), (q_171, .inr (1, [.null, .int 0]))] ++ ([(q_165, .inl (κ 1, 2, .inl g_169))] ++ im2__149)) := hD
                rw [← he_173] at hP hD
                clear he_173
                replace hf_13 := hf_13.up hs_174
                replace h_17 := h_17.up hs_174
                replace hb_21 := hb_21.up hs_174
                replace hf_24 := hf_24.up hs_174
                replace hf_40 := hf_40.up hs_174
                replace h_44 := h_44.up hs_174
                replace hb_48 := hb_48.up hs_174
                replace hf_51 := hf_51.up hs_174
                replace hf_67 := hf_67.up hs_174
                replace h_71 := h_71.up hs_174
                replace hb_75 := hb_75.up hs_174
                replace hf_78 := hf_78.up hs_174
                replace hf_94 := hf_94.up hs_174
                replace h_98 := h_98.up hs_174
                replace hb_102 := hb_102.up hs_174
                replace hf_105 := hf_105.up hs_174
                replace hf_121 := hf_121.up hs_174
                replace h_125 := h_125.up hs_174
                replace hb_129 := hb_129.up hs_174
                replace hf_132 := hf_132.up hs_174
                replace hf_148 := hf_148.up hs_174
                replace h_152 := h_152.up hs_174
                replace hb_156 := hb_156.up hs_174
                replace hf_159 := hf_159.up hs_174
                replace hm_q_3 := hs_174 _ hm_q_3
                replace hm_20 := hs_174 _ hm_20
                replace hm_q_30 := hs_174 _ hm_q_30
                replace hm_47 := hs_174 _ hm_47
                replace hm_q_57 := hs_174 _ hm_q_57
                replace hm_74 := hs_174 _ hm_74
                replace hm_q_84 := hs_174 _ hm_q_84
                replace hm_101 := hs_174 _ hm_101
                replace hm_q_111 := hs_174 _ hm_q_111
                replace hm_128 := hs_174 _ hm_128
                replace hm_q_138 := hs_174 _ hm_q_138
                replace hm_155 := hs_174 _ hm_155
                have hf_175 : By κ im_172 q_165 2 := ⟨by omega, _, hm_q_165, hf_170⟩
                refine et_IT (CR := [(q_1, .inl (κ 3, n, .inr (.inr (.inr (.inr g_158)))))]) (As := [.ref q_165, .int (-1)]) (rest := [.ref q_171, .int 6, .ref q_1]) hFX hKK hE hP hD hS hA (c_X1_init l D κ κq im_172 q_171 q_165 2 (-1) hf_175 (by first | assumption | exact To_m | exact To_n (by omega))) 2 mw_356 mw_348 mw_331 mw_349 hdI_X1_init ⟨Nat.le_of_ble_eq_true rfl, Nat.le_of_ble_eq_true rfl⟩ rfl rfl (Nat.le_of_ble_eq_true rfl) dX1_numbered_37 ⟨Nat.le_of_ble_eq_true rfl, Nat.le_of_ble_eq_true rfl⟩ hl.1 [1] [0] rfl rfl (by decide) (by decide) (by decide) (fun im2__176 H locs hp_177 hP hD hS => ?_)
                refine W.widen (k := 15) (n := 36) (Nat.le_refl _) (Nat.le_refl _) ?_
                replace hP : va_P D vwCl ([(q_1, .inl (κ 3, n, .inr (.inr (.inr (.inr g_158)))))] ++ im2__176) H := subP (C := [(q_1, .inl (κ 3, n, .inr (.inr (.inr (.inr g_158)))))]) hP [0] rfl
                replace hD : va_D A ([(q_1, .inl (κ 3, n, .inr (.inr (.inr (.inr g_158)))))] ++ im2__176) := subD (C := [(q_1, .inl (κ 3, n, .inr (.inr (.inr (.inr g_158)))))]) hD [0] (by decide) rfl
                replace hp_177 : Sb im_172 im2__176 ∧ Co κ im2__176 q_171 2 (-1 : Int32) := hp_177
                obtain ⟨h_178, h_179⟩ := hp_177
                replace hf_13 := hf_13.up h_178
                replace h_17 := h_17.up h_178
                replace hb_21 := hb_21.up h_178
                replace hf_24 := hf_24.up h_178
                replace hf_40 := hf_40.up h_178
                replace h_44 := h_44.up h_178
                replace hb_48 := hb_48.up h_178
                replace hf_51 := hf_51.up h_178
                replace hf_67 := hf_67.up h_178
                replace h_71 := h_71.up h_178
                replace hb_75 := hb_75.up h_178
                replace hf_78 := hf_78.up h_178
                replace hf_94 := hf_94.up h_178
                replace h_98 := h_98.up h_178
                replace hb_102 := hb_102.up h_178
                replace hf_105 := hf_105.up h_178
                replace hf_121 := hf_121.up h_178
                replace h_125 := h_125.up h_178
                replace hb_129 := hb_129.up h_178
                replace hf_132 := hf_132.up h_178
                replace hf_148 := hf_148.up h_178
                replace h_152 := h_152.up h_178
                replace hb_156 := hb_156.up h_178
                replace hf_159 := hf_159.up h_178
                replace hf_175 := hf_175.up h_178
                replace hm_q_3 := h_178 _ hm_q_3
                replace hm_20 := h_178 _ hm_20
                replace hm_q_30 := h_178 _ hm_q_30
                replace hm_47 := h_178 _ hm_47
                replace hm_q_57 := h_178 _ hm_q_57
                replace hm_74 := h_178 _ hm_74
                replace hm_q_84 := h_178 _ hm_q_84
                replace hm_101 := h_178 _ hm_101
                replace hm_q_111 := h_178 _ hm_q_111
                replace hm_128 := h_178 _ hm_128
                replace hm_q_138 := h_178 _ hm_q_138
                replace hm_155 := h_178 _ hm_155
                replace hm_q_165 := h_178 _ hm_q_165
                refine W.eq (g2 := F0 m 40 ls [.ref q_171, .int 6, .ref q_1]) rfl ?_
                obtain ⟨ht_180, b_181, hm_182, hb_183⟩ := id h_179
                have hn_b_181 := hb_183.1
                obtain ⟨k_184, ek_184⟩ := tl_at [(q_1, .inl (κ 3, n, .inr (.inr (.inr (.inr g_158)))))] hm_182
                refine va_astq hx hb hK hP hD hS 0 3 k_184 1 rfl rfl ek_184 rfl (i := 6) (vp_c (c := 6) (by decide) (by omega)) dX1_numbered_40 (fun H locs hP hD hS => ?_)
                have hP : va_P D vwCl ([(q_1, .inl (κ 3, n, .inr (.inr (.inr (.inr (va_up g_158 6 (some q_171)))))))] ++ im2__176) H := hP
                have hD : va_D A ([(q_1, .inl (κ 3, n, .inr (.inr (.inr (.inr (va_up g_158 6 (some q_171)))))))] ++ im2__176) := hD
                have hf_186 : Lo κ im2__176 (va_up g_158 6 (some q_171)) 7 := Lo_add hf_159 h_179
                generalize va_up g_158 6 (some q_171) = g_185 at hP hD hf_186
                refine lv_iinc (v := 7) (lv' := [(2, .int 7), (3, .ref q_165), (1, .ref q_1), (0, .int (nI n))]) hx hb dX1_numbered_41 hl (k := 1) rfl (by decide) (by decide) rfl (fun ls hl => ?_)
                refine lv_goto (tgt := 7) hx hb dX1_numbered_44 (by decide) ?_
                refine lv_iload_n hx hb dX1_numbered_7 rfl (lv_at hl 0 rfl) ?_
                refine lv_iload_n hx hb dX1_numbered_8 rfl (lv_at hl 3 rfl) ?_
                refine lv_icmp_ge (tgt := 47) hx hb dX1_numbered_9 (by decide) (fun c_187 => ?_) (fun c_187 => ?_)
                · have nc_187 := cv_le (a := n) (b := 7) (by omega) (by omega) c_187
                  refine lv_aload_n hx hb dX1_numbered_47 rfl (lv_at hl 2 rfl) ?_
                  replace hP : va_P D vwCl ([(q_1, .inl (κ 3, n, .inr (.inr (.inr (.inr g_185)))))] ++ im2__176) _ := subP hP [0] rfl
                  replace hD : va_D A ([(q_1, .inl (κ 3, n, .inr (.inr (.inr (.inr g_185)))))] ++ im2__176) := subD hD [0] (by decide) rfl
                  obtain ⟨im_188, he_189⟩ : ∃ x9 : va_W, x9 = ([(q_1, .inl (κ 3, n, .inr (.inr (.inr (.inr g_185)))))] ++ im2__176) := ⟨_, rfl⟩
                  have hs_190 : Sb im2__176 im_188 := by rw [he_189]; exact Sb.app
                  have hm_q_1 : (q_1, .inl (κ 3, n, .inr (.inr (.inr (.inr g_185))))) ∈ im_188 := by rw [he_189]; exact List.mem_of_getElem? (i := 0) rfl
                  replace hP : va_P D vwCl ([] ++ ([(q_1, .inl (κ 3, n, .inr (.inr (.inr (.inr g_185)))))] ++ im2__176)) _ := hP
                  replace hD : va_D A ([] ++ ([(q_1, .inl (κ 3, n, .inr (.inr (.inr (.inr g_185)))))] ++ im2__176)) := hD
                  rw [← he_189] at hP hD
                  clear he_189
                  replace hf_13 := hf_13.up hs_190
                  replace h_17 := h_17.up hs_190
                  replace hb_21 := hb_21.up hs_190
                  replace hf_24 := hf_24.up hs_190
                  replace hf_40 := hf_40.up hs_190
                  replace h_44 := h_44.up hs_190
                  replace hb_48 := hb_48.up hs_190
                  replace hf_51 := hf_51.up hs_190
                  replace hf_67 := hf_67.up hs_190
                  replace h_71 := h_71.up hs_190
                  replace hb_75 := hb_75.up hs_190
                  replace hf_78 := hf_78.up hs_190
                  replace hf_94 := hf_94.up hs_190
                  replace h_98 := h_98.up hs_190
                  replace hb_102 := hb_102.up hs_190
                  replace hf_105 := hf_105.up hs_190
                  replace hf_121 := hf_121.up hs_190
                  replace h_125 := h_125.up hs_190
                  replace hb_129 := hb_129.up hs_190
                  replace hf_132 := hf_132.up hs_190
                  replace hf_148 := hf_148.up hs_190
                  replace h_152 := h_152.up hs_190
                  replace hb_156 := hb_156.up hs_190
                  replace hf_159 := hf_159.up hs_190
                  replace hf_175 := hf_175.up hs_190
                  replace h_179 := h_179.up hs_190
                  replace hb_183 := hb_183.up hs_190
                  replace hf_186 := hf_186.up hs_190
                  replace hm_q_3 := hs_190 _ hm_q_3
                  replace hm_20 := hs_190 _ hm_20
                  replace hm_q_30 := hs_190 _ hm_q_30
                  replace hm_47 := hs_190 _ hm_47
                  replace hm_q_57 := hs_190 _ hm_q_57
                  replace hm_74 := hs_190 _ hm_74
                  replace hm_q_84 := hs_190 _ hm_q_84
                  replace hm_101 := hs_190 _ hm_101
                  replace hm_q_111 := hs_190 _ hm_q_111
                  replace hm_128 := hs_190 _ hm_128
                  replace hm_q_138 := hs_190 _ hm_q_138
                  replace hm_155 := hs_190 _ hm_155
                  replace hm_q_165 := hs_190 _ hm_q_165
                  replace hm_182 := hs_190 _ hm_182
                  have hf_191 : Ca κ im_188 q_1 n := ⟨_, hm_q_1, (by have e9 : n = 7 := (by omega); rw [e9]; exact hf_186)⟩
                  exact et_aret hx hb hr (by first | exact Or.inl ⟨_, rfl⟩ | exact Or.inr ⟨_, rfl⟩) hlk (by first | exact Or.inl rfl | exact Or.inr ⟨_, rfl⟩) hS (q_1, im_188) rfl ⟨(show Sb im im_188 from (Sb.tr (Sb.tr (Sb.tr (Sb.tr (Sb.tr (Sb.tr (Sb.tr (Sb.tr (Sb.tr (Sb.tr (Sb.tr (Sb.tr (Sb.tr (Sb.tr hs_12 h_16) hs_39) h_43) hs_66) h_70) hs_93) h_97) hs_120) h_124) hs_147) h_151) hs_174) h_178) hs_190)), (show Ca κ im_188 q_1 n from hf_191)⟩ (subP hP [] rfl) (subD hD [] (by decide) rfl) (Nat.le_of_ble_eq_true rfl) (Nat.le_of_ble_eq_true rfl) dX1_numbered_48
                · have nc_187 := cv_nle (a := n) (b := 7) (by omega) (by omega) c_187
                  refine lv_iconst (v := 2) hx hb dX1_numbered_12 (by decide) ?_
                  refine my_newa (atype := .byte) hx hb (hts _ mw_69) rfl hK hP hD hS hA 1 rfl (N' := 2) (a0 := (2, .inl (fun _ => 0))) (fun _ => rfl) (by decide) (by decide) (Nat.le_of_ble_eq_true rfl) (Nat.le_of_ble_eq_true rfl) (Nat.le_of_ble_eq_true rfl) dX1_numbered_13 (fun q_192 H hP hD hS => ?_)
                  replace hP : va_P D vwCl ([(q_1, .inl (κ 3, n, .inr (.inr (.inr (.inr g_185))))), (q_192, .inl (κ 1, 2, .inl (fun _ => (0 : Int32))))] ++ im2__176) H := mvP hP
                  replace hD : va_D A ([(q_1, .inl (κ 3, n, .inr (.inr (.inr (.inr g_185))))), (q_192, .inl (κ 1, 2, .inl (fun _ => (0 : Int32))))] ++ im2__176) := mvD hD
                  refine lv_dup hx hb dX1_numbered_15 rfl ?_
                  refine lv_iconst (v := 0) hx hb dX1_numbered_16 (by decide) ?_
                  refine lv_bipush (v := 99) hx hb dX1_numbered_17 (by decide) ?_
                  refine va_bast hx hb hK hP hD hS 1 1 rfl rfl (i := 0) (x := 99) (vp_k (by decide)) dX1_numbered_19 (fun H locs hP hD hS => ?_)
                  have hP : va_P D vwCl ([(q_1, .inl (κ 3, n, .inr (.inr (.inr (.inr g_185))))), (q_192, .inl (κ 1, 2, .inl (upd (fun _ => (0 : Int32)) 0 (vp_nar .byte 99))))] ++ im2__176) H := hP
                  have hD : va_D A ([(q_1, .inl (κ 3, n, .inr (.inr (.inr (.inr g_185))))), (q_192, .inl (κ 1, 2, .inl (upd (fun _ => (0 : Int32)) 0 (vp_nar .byte 99))))] ++ im2__176) := hD
                  have hf_194 : sb_Fit (upd (fun _ => (0 : Int32)) 0 (vp_nar .byte 99)) := sb_fitU sb_fit0 (fit_nar _)
                  generalize upd (fun _ => (0 : Int32)) 0 (vp_nar .byte 99) = g_193 at hP hD hf_194
                  refine lv_dup hx hb dX1_numbered_20 rfl ?_
                  refine lv_iconst (v := 1) hx hb dX1_numbered_21 (by decide) ?_
                  refine lv_bipush (v := 48) hx hb dX1_numbered_22 (by decide) ?_
                  refine lv_iload_n hx hb dX1_numbered_24 rfl (lv_at hl 0 rfl) ?_
                  refine lv_iadd hx hb dX1_numbered_25 ?_
                  refine ki (v := 55) (by decide) ?_
                  obtain ⟨x_195, ex_195⟩ : ∃ y9 : Int32, (55 : Int32).toInt8.toInt32 = y9 := ⟨_, rfl⟩
                  refine lv_i2b hx hb dX1_numbered_26 ex_195 ?_
                  refine va_bast hx hb hK hP hD hS 1 1 rfl rfl (i := 1) (x := x_195) (vp_k (by decide)) dX1_numbered_27 (fun H locs hP hD hS => ?_)
                  have hP : va_P D vwCl ([(q_1, .inl (κ 3, n, .inr (.inr (.inr (.inr g_185))))), (q_192, .inl (κ 1, 2, .inl (upd g_193 1 (vp_nar .byte x_195))))] ++ im2__176) H := hP
                  have hD : va_D A ([(q_1, .inl (κ 3, n, .inr (.inr (.inr (.inr g_185))))), (q_192, .inl (κ 1, 2, .inl (upd g_193 1 (vp_nar .byte x_195))))] ++ im2__176) := hD
                  have hf_197 : sb_Fit (upd g_193 1 (vp_nar .byte x_195)) := sb_fitU hf_194 (fit_nar _)
                  generalize upd g_193 1 (vp_nar .byte x_195) = g_196 at hP hD hf_197
                  refine lv_astore_n (lv' := [(3, .ref q_192), (2, .int 7), (1, .ref q_1), (0, .int (nI n))]) hx hb dX1_numbered_28 rfl hl (by decide) rfl (fun ls hl => ?_)
                  refine lv_aload_n hx hb dX1_numbered_29 rfl (lv_at hl 2 rfl) ?_
                  refine lv_iload_n hx hb dX1_numbered_30 rfl (lv_at hl 1 rfl) ?_
                  refine va_new (ci := 1) (fs := [.null, .int 0]) (C := RX1) (T := TX1) (N := 2) hx hb hts inlX1 tyX1 tyX1_ok hown (hts _ mw_355) (hts _ mw_330) (hts _ mw_331) hK hP hD hS hA rfl (fun j hj => by rcases (show j = 0 ∨ j = 1 by omega) with rfl | rfl <;> rfl) (Nat.le_of_ble_eq_true rfl) (Nat.le_of_ble_eq_true rfl) dX1_numbered_31 (fun q_198 H hP hD hS => ?_)
                  replace hP : va_P D vwCl ([(q_1, .inl (κ 3, n, .inr (.inr (.inr (.inr g_185))))), (q_192, .inl (κ 1, 2, .inl g_196)), (q_198, .inr (1, [.null, .int 0]))] ++ im2__176) H := mvP hP
                  replace hD : va_D A ([(q_1, .inl (κ 3, n, .inr (.inr (.inr (.inr g_185))))), (q_192, .inl (κ 1, 2, .inl g_196)), (q_198, .inr (1, [.null, .int 0]))] ++ im2__176) := mvD hD
                  refine lv_dup hx hb dX1_numbered_34 rfl ?_
                  refine lv_aload_n hx hb dX1_numbered_35 rfl (lv_at hl 0 rfl) ?_
                  refine lv_iconst (v := (-1)) hx hb dX1_numbered_36 (by decide) ?_
                  replace hP : va_P D vwCl ([(q_1, .inl (κ 3, n, .inr (.inr (.inr (.inr g_185))))), (q_198, .inr (1, [.null, .int 0])), (q_192, .inl (κ 1, 2, .inl g_196))] ++ im2__176) _ := subP hP [0, 2, 1] rfl
                  replace hD : va_D A ([(q_1, .inl (κ 3, n, .inr (.inr (.inr (.inr g_185))))), (q_198, .inr (1, [.null, .int 0])), (q_192, .inl (κ 1, 2, .inl g_196))] ++ im2__176) := subD hD [0, 2, 1] (by decide) rfl
                  obtain ⟨im_199, he_200⟩ : ∃ x9 : va_W, x9 = ([(q_192, .inl (κ 1, 2, .inl g_196))] ++ im2__176) := ⟨_, rfl⟩
                  have hs_201 : Sb im2__176 im_199 := by rw [he_200]; exact Sb.app
                  have hm_q_192 : (q_192, .inl (κ 1, 2, .inl g_196)) ∈ im_199 := by rw [he_200]; exact List.mem_of_getElem? (i := 0) rfl
                  replace hP : va_P D vwCl ([(q_1, .inl (κ 3, n, .inr (.inr (.inr (.inr g_185))))), (q_198, .inr (1, [.null, .int 0]))] ++ ([(q_192, .inl (κ 1, 2, .inl g_196))] ++ im2__176)) _ := hP
                  replace hD : va_D A ([(q_1, .inl (κ 3, n, .inr (.inr (.inr (.inr g_185))))), (q_198, .inr (1, [.null, .int 0]))] ++ ([(q_192, .inl (κ 1, 2, .inl g_196))] ++ im2__176)) := hD
                  rw [← he_200] at hP hD
                  clear he_200
                  replace hf_13 := hf_13.up hs_201
                  replace h_17 := h_17.up hs_201
                  replace hb_21 := hb_21.up hs_201
                  replace hf_24 := hf_24.up hs_201
                  replace hf_40 := hf_40.up hs_201
                  replace h_44 := h_44.up hs_201
                  replace hb_48 := hb_48.up hs_201
                  replace hf_51 := hf_51.up hs_201
                  replace hf_67 := hf_67.up hs_201
                  replace h_71 := h_71.up hs_201
                  replace hb_75 := hb_75.up hs_201
                  replace hf_78 := hf_78.up hs_201
                  replace hf_94 := hf_94.up hs_201
                  replace h_98 := h_98.up hs_201
                  replace hb_102 := hb_102.up hs_201
                  replace hf_105 := hf_105.up hs_201
                  replace hf_121 := hf_121.up hs_201
                  replace h_125 := h_125.up hs_201
                  replace hb_129 := hb_129.up hs_201
                  replace hf_132 := hf_132.up hs_201
                  replace hf_148 := hf_148.up hs_201
                  replace h_152 := h_152.up hs_201
                  replace hb_156 := hb_156.up hs_201
                  replace hf_159 := hf_159.up hs_201
                  replace hf_175 := hf_175.up hs_201
                  replace h_179 := h_179.up hs_201
                  replace hb_183 := hb_183.up hs_201
                  replace hf_186 := hf_186.up hs_201
                  replace hm_q_3 := hs_201 _ hm_q_3
                  replace hm_20 := hs_201 _ hm_20
                  replace hm_q_30 := hs_201 _ hm_q_30
                  replace hm_47 := hs_201 _ hm_47
                  replace hm_q_57 := hs_201 _ hm_q_57
                  replace hm_74 := hs_201 _ hm_74
                  replace hm_q_84 := hs_201 _ hm_q_84
                  replace hm_101 := hs_201 _ hm_101
                  replace hm_q_111 := hs_201 _ hm_q_111
                  replace hm_128 := hs_201 _ hm_128
                  replace hm_q_138 := hs_201 _ hm_q_138
                  replace hm_155 := hs_201 _ hm_155
                  replace hm_q_165 := hs_201 _ hm_q_165
                  replace hm_182 := hs_201 _ hm_182
                  have hf_202 : By κ im_199 q_192 2 := ⟨by omega, _, hm_q_192, hf_197⟩
                  refine et_IT (CR := [(q_1, .inl (κ 3, n, .inr (.inr (.inr (.inr g_185)))))]) (As := [.ref q_192, .int (-1)]) (rest := [.ref q_198, .int 7, .ref q_1]) hFX hKK hE hP hD hS hA (c_X1_init l D κ κq im_199 q_198 q_192 2 (-1) hf_202 (by first | assumption | exact To_m | exact To_n (by omega))) 2 mw_356 mw_348 mw_331 mw_349 hdI_X1_init ⟨Nat.le_of_ble_eq_true rfl, Nat.le_of_ble_eq_true rfl⟩ rfl rfl (Nat.le_of_ble_eq_true rfl) dX1_numbered_37 ⟨Nat.le_of_ble_eq_true rfl, Nat.le_of_ble_eq_true rfl⟩ hl.1 [1] [0] rfl rfl (by decide) (by decide) (by decide) (fun im2__203 H locs hp_204 hP hD hS => ?_)
                  refine W.widen (k := 17) (n := 40) (Nat.le_refl _) (Nat.le_refl _) ?_
                  replace hP : va_P D vwCl ([(q_1, .inl (κ 3, n, .inr (.inr (.inr (.inr g_185)))))] ++ im2__203) H := subP (C := [(q_1, .inl (κ 3, n, .inr (.inr (.inr (.inr g_185)))))]) hP [0] rfl
                  replace hD : va_D A ([(q_1, .inl (κ 3, n, .inr (.inr (.inr (.inr g_185)))))] ++ im2__203) := subD (C := [(q_1, .inl (κ 3, n, .inr (.inr (.inr (.inr g_185)))))]) hD [0] (by decide) rfl
                  replace hp_204 : Sb im_199 im2__203 ∧ Co κ im2__203 q_198 2 (-1 : Int32) := hp_204
                  obtain ⟨h_205, h_206⟩ := hp_204
                  replace hf_13 := hf_13.up h_205
                  replace h_17 := h_17.up h_205
                  replace hb_21 := hb_21.up h_205
                  replace hf_24 := hf_24.up h_205
                  replace hf_40 := hf_40.up h_205
                  replace h_44 := h_44.up h_205
                  replace hb_48 := hb_48.up h_205
                  replace hf_51 := hf_51.up h_205
                  replace hf_67 := hf_67.up h_205
                  replace h_71 := h_71.up h_205
                  replace hb_75 := hb_75.up h_205
                  replace hf_78 := hf_78.up h_205
                  replace hf_94 := hf_94.up h_205
                  replace h_98 := h_98.up h_205
                  replace hb_102 := hb_102.up h_205
                  replace hf_105 := hf_105.up h_205
                  replace hf_121 := hf_121.up h_205
                  replace h_125 := h_125.up h_205
                  replace hb_129 := hb_129.up h_205
                  replace hf_132 := hf_132.up h_205
                  replace hf_148 := hf_148.up h_205
                  replace h_152 := h_152.up h_205
                  replace hb_156 := hb_156.up h_205
                  replace hf_159 := hf_159.up h_205
                  replace hf_175 := hf_175.up h_205
                  replace h_179 := h_179.up h_205
                  replace hb_183 := hb_183.up h_205
                  replace hf_186 := hf_186.up h_205
                  replace hf_202 := hf_202.up h_205
                  replace hm_q_3 := h_205 _ hm_q_3
                  replace hm_20 := h_205 _ hm_20
                  replace hm_q_30 := h_205 _ hm_q_30
                  replace hm_47 := h_205 _ hm_47
                  replace hm_q_57 := h_205 _ hm_q_57
                  replace hm_74 := h_205 _ hm_74
                  replace hm_q_84 := h_205 _ hm_q_84
                  replace hm_101 := h_205 _ hm_101
                  replace hm_q_111 := h_205 _ hm_q_111
                  replace hm_128 := h_205 _ hm_128
                  replace hm_q_138 := h_205 _ hm_q_138
                  replace hm_155 := h_205 _ hm_155
                  replace hm_q_165 := h_205 _ hm_q_165
                  replace hm_182 := h_205 _ hm_182
                  replace hm_q_192 := h_205 _ hm_q_192
                  refine W.eq (g2 := F0 m 40 ls [.ref q_198, .int 7, .ref q_1]) rfl ?_
                  obtain ⟨ht_207, b_208, hm_209, hb_210⟩ := id h_206
                  have hn_b_208 := hb_210.1
                  obtain ⟨k_211, ek_211⟩ := tl_at [(q_1, .inl (κ 3, n, .inr (.inr (.inr (.inr g_185)))))] hm_209
                  refine va_astq hx hb hK hP hD hS 0 3 k_211 1 rfl rfl ek_211 rfl (i := 7) (vp_c (c := 7) (by decide) (by omega)) dX1_numbered_40 (fun H locs hP hD hS => ?_)
                  have hP : va_P D vwCl ([(q_1, .inl (κ 3, n, .inr (.inr (.inr (.inr (va_up g_185 7 (some q_198)))))))] ++ im2__203) H := hP
                  have hD : va_D A ([(q_1, .inl (κ 3, n, .inr (.inr (.inr (.inr (va_up g_185 7 (some q_198)))))))] ++ im2__203) := hD
                  have hf_213 : Lo κ im2__203 (va_up g_185 7 (some q_198)) 8 := Lo_add hf_186 h_206
                  generalize va_up g_185 7 (some q_198) = g_212 at hP hD hf_213
                  refine lv_iinc (v := 8) (lv' := [(2, .int 8), (3, .ref q_192), (1, .ref q_1), (0, .int (nI n))]) hx hb dX1_numbered_41 hl (k := 1) rfl (by decide) (by decide) rfl (fun ls hl => ?_)
                  refine lv_goto (tgt := 7) hx hb dX1_numbered_44 (by decide) ?_
                  refine lv_iload_n hx hb dX1_numbered_7 rfl (lv_at hl 0 rfl) ?_
                  refine lv_iload_n hx hb dX1_numbered_8 rfl (lv_at hl 3 rfl) ?_
                  refine lv_icmp_ge (tgt := 47) hx hb dX1_numbered_9 (by decide) (fun c_214 => ?_) (fun c_214 => ?_)
                  · have nc_214 := cv_le (a := n) (b := 8) (by omega) (by omega) c_214
                    refine lv_aload_n hx hb dX1_numbered_47 rfl (lv_at hl 2 rfl) ?_
                    replace hP : va_P D vwCl ([(q_1, .inl (κ 3, n, .inr (.inr (.inr (.inr g_212)))))] ++ im2__203) _ := subP hP [0] rfl
                    replace hD : va_D A ([(q_1, .inl (κ 3, n, .inr (.inr (.inr (.inr g_212)))))] ++ im2__203) := subD hD [0] (by decide) rfl
                    obtain ⟨im_215, he_216⟩ : ∃ x9 : va_W, x9 = ([(q_1, .inl (κ 3, n, .inr (.inr (.inr (.inr g_212)))))] ++ im2__203) := ⟨_, rfl⟩
                    have hs_217 : Sb im2__203 im_215 := by rw [he_216]; exact Sb.app
                    have hm_q_1 : (q_1, .inl (κ 3, n, .inr (.inr (.inr (.inr g_212))))) ∈ im_215 := by rw [he_216]; exact List.mem_of_getElem? (i := 0) rfl
                    replace hP : va_P D vwCl ([] ++ ([(q_1, .inl (κ 3, n, .inr (.inr (.inr (.inr g_212)))))] ++ im2__203)) _ := hP
                    replace hD : va_D A ([] ++ ([(q_1, .inl (κ 3, n, .inr (.inr (.inr (.inr g_212)))))] ++ im2__203)) := hD
                    rw [← he_216] at hP hD
                    clear he_216
                    replace hf_13 := hf_13.up hs_217
                    replace h_17 := h_17.up hs_217
                    replace hb_21 := hb_21.up hs_217
                    replace hf_24 := hf_24.up hs_217
                    replace hf_40 := hf_40.up hs_217
                    replace h_44 := h_44.up hs_217
                    replace hb_48 := hb_48.up hs_217
                    replace hf_51 := hf_51.up hs_217
                    replace hf_67 := hf_67.up hs_217
                    replace h_71 := h_71.up hs_217
                    replace hb_75 := hb_75.up hs_217
                    replace hf_78 := hf_78.up hs_217
                    replace hf_94 := hf_94.up hs_217
                    replace h_98 := h_98.up hs_217
                    replace hb_102 := hb_102.up hs_217
                    replace hf_105 := hf_105.up hs_217
                    replace hf_121 := hf_121.up hs_217
                    replace h_125 := h_125.up hs_217
                    replace hb_129 := hb_129.up hs_217
                    replace hf_132 := hf_132.up hs_217
                    replace hf_148 := hf_148.up hs_217
                    replace h_152 := h_152.up hs_217
                    replace hb_156 := hb_156.up hs_217
                    replace hf_159 := hf_159.up hs_217
                    replace hf_175 := hf_175.up hs_217
                    replace h_179 := h_179.up hs_217
                    replace hb_183 := hb_183.up hs_217
                    replace hf_186 := hf_186.up hs_217
                    replace hf_202 := hf_202.up hs_217
                    replace h_206 := h_206.up hs_217
                    replace hb_210 := hb_210.up hs_217
                    replace hf_213 := hf_213.up hs_217
                    replace hm_q_3 := hs_217 _ hm_q_3
                    replace hm_20 := hs_217 _ hm_20
                    replace hm_q_30 := hs_217 _ hm_q_30
                    replace hm_47 := hs_217 _ hm_47
                    replace hm_q_57 := hs_217 _ hm_q_57
                    replace hm_74 := hs_217 _ hm_74
                    replace hm_q_84 := hs_217 _ hm_q_84
                    replace hm_101 := hs_217 _ hm_101
                    replace hm_q_111 := hs_217 _ hm_q_111
                    replace hm_128 := hs_217 _ hm_128
                    replace hm_q_138 := hs_217 _ hm_q_138
                    replace hm_155 := hs_217 _ hm_155
                    replace hm_q_165 := hs_217 _ hm_q_165
                    replace hm_182 := hs_217 _ hm_182
                    replace hm_q_192 := hs_217 _ hm_q_192
                    replace hm_209 := hs_217 _ hm_209
                    have hf_218 : Ca κ im_215 q_1 n := ⟨_, hm_q_1, (by have e9 : n = 8 := (by omega); rw [e9]; exact hf_213)⟩
                    exact et_aret hx hb hr (by first | exact Or.inl ⟨_, rfl⟩ | exact Or.inr ⟨_, rfl⟩) hlk (by first | exact Or.inl rfl | exact Or.inr ⟨_, rfl⟩) hS (q_1, im_215) rfl ⟨(show Sb im im_215 from (Sb.tr (Sb.tr (Sb.tr (Sb.tr (Sb.tr (Sb.tr (Sb.tr (Sb.tr (Sb.tr (Sb.tr (Sb.tr (Sb.tr (Sb.tr (Sb.tr (Sb.tr (Sb.tr hs_12 h_16) hs_39) h_43) hs_66) h_70) hs_93) h_97) hs_120) h_124) hs_147) h_151) hs_174) h_178) hs_201) h_205) hs_217)), (show Ca κ im_215 q_1 n from hf_218)⟩ (subP hP [] rfl) (subD hD [] (by decide) rfl) (Nat.le_of_ble_eq_true rfl) (Nat.le_of_ble_eq_true rfl) dX1_numbered_48
                  · have nc_214 := cv_nle (a := n) (b := 8) (by omega) (by omega) c_214
                    omega
