/-- the number that some bytes tell, or -1 -/
def dgF (f : Nat → Int32) (a : Int32) (i : Nat) : Nat → Int32
  | 0 => a
  | k + 1 => if f i - 48 < 0 ∨ 9 < f i - 48 then -1 else dgF f (a * 10 + (f i - 48)) (i + 1) k
theorem dg_go {f : Nat → Int32} {a x z y w : Int32} {i j : Nat} (h : i < j) (e : f i = x) (e2 : x - 48 = z) (h1 : ¬ z < 0) (h2 : z ≤ 9) (e3 : a * 10 = y) (e4 : y + z = w) : dgF f a i (j - i) = dgF f w (i + 1) (j - (i + 1)) := by
  obtain ⟨k, rfl⟩ : ∃ k, j = i + (k + 1) := ⟨j - i - 1, by omega⟩
  rw [show i + (k + 1) - i = k + 1 by omega, show i + (k + 1) - (i + 1) = k by omega]
  rw [show dgF f a i (k + 1) = if f i - 48 < 0 ∨ 9 < f i - 48 then -1 else dgF f (a * 10 + (f i - 48)) (i + 1) k from rfl]
  rw [e, e2, if_neg (by rw [not_or]; exact ⟨h1, by rw [Int32.lt_iff_toInt_lt]; rw [Int32.le_iff_toInt_le] at h2; omega⟩), e3, e4]
theorem dg_no {f : Nat → Int32} {a x z : Int32} {i j : Nat} (h : i < j) (e : f i = x) (e2 : x - 48 = z) (h1 : z < 0 ∨ ¬ z ≤ 9) : dgF f a i (j - i) = -1 := by
  obtain ⟨k, rfl⟩ : ∃ k, j = i + (k + 1) := ⟨j - i - 1, by omega⟩
  rw [show i + (k + 1) - i = k + 1 by omega]
  rw [show dgF f a i (k + 1) = if f i - 48 < 0 ∨ 9 < f i - 48 then -1 else dgF f (a * 10 + (f i - 48)) (i + 1) k from rfl]
  rw [e, e2, if_pos]
  rcases h1 with h1 | h1
  · exact Or.inl h1
  · refine Or.inr ?_
    rw [Int32.lt_iff_toInt_lt]
    rw [Int32.le_iff_toInt_le] at h1
    omega
theorem in_nat {x : Int32} {w : Nat} (h1 : 0 ≤ x.toInt) (h2 : x.toInt < (w : Int)) : ∃ j : Nat, j < w ∧ x = nI j := by
  obtain ⟨j, h3, h4⟩ := i_nat (x := x) (B := (w : Int) - 1) h1 (by omega)
  exact ⟨j, by omega, h4⟩
theorem dJ0_coder_7d493_0 : decode cJ0_coder_7d493 0 = .ok (.getstatic 38, 3) := by decide +kernel
theorem mw_107 : Cond.fieldLink RJ0 38 "java/lang/String" "COMPACT_STRINGS" "Z" ∈ wsL_law := lrk_5 _ (List.mem_of_getElem? (i := 11) rfl)
theorem dJ0_coder_7d493_3 : decode cJ0_coder_7d493 3 = .ok (.ifCond .eq 10, 3) := by decide +kernel
theorem dJ0_coder_7d493_6 : decode cJ0_coder_7d493 6 = .ok (.aload_n 0, 1) := by decide +kernel
theorem dJ0_coder_7d493_7 : decode cJ0_coder_7d493 7 = .ok (.getfield 15, 3) := by decide +kernel
theorem mw_108 : Cond.fieldLink RJ0 15 "java/lang/String" "coder" "B" ∈ wsL_law := lrk_5 _ (List.mem_of_getElem? (i := 12) rfl)
theorem dJ0_coder_7d493_10 : decode cJ0_coder_7d493 10 = .ok (.goto 4, 3) := by decide +kernel
theorem dJ0_coder_7d493_14 : decode cJ0_coder_7d493 14 = .ok (.ireturn, 1) := by decide +kernel
theorem dJ0_isLatin1_aae02_0 : decode cJ0_isLatin1_aae02 0 = .ok (.getstatic 38, 3) := by decide +kernel
theorem dJ0_isLatin1_aae02_3 : decode cJ0_isLatin1_aae02 3 = .ok (.ifCond .eq 14, 3) := by decide +kernel
theorem dJ0_isLatin1_aae02_6 : decode cJ0_isLatin1_aae02 6 = .ok (.aload_n 0, 1) := by decide +kernel
theorem dJ0_isLatin1_aae02_7 : decode cJ0_isLatin1_aae02 7 = .ok (.getfield 15, 3) := by decide +kernel
theorem dJ0_isLatin1_aae02_10 : decode cJ0_isLatin1_aae02 10 = .ok (.ifCond .ne 7, 3) := by decide +kernel
theorem dJ0_isLatin1_aae02_13 : decode cJ0_isLatin1_aae02 13 = .ok (.iconst 1, 1) := by decide +kernel
theorem dJ0_isLatin1_aae02_14 : decode cJ0_isLatin1_aae02 14 = .ok (.goto 4, 3) := by decide +kernel
theorem dJ0_isLatin1_aae02_18 : decode cJ0_isLatin1_aae02 18 = .ok (.ireturn, 1) := by decide +kernel
theorem dJ0_length_8abf5_0 : decode cJ0_length_8abf5 0 = .ok (.aload_n 0, 1) := by decide +kernel
theorem dJ0_length_8abf5_1 : decode cJ0_length_8abf5 1 = .ok (.getfield 9, 3) := by decide +kernel
theorem mw_102 : Cond.fieldLink RJ0 9 "java/lang/String" "value" "[B" ∈ wsL_law := lrk_5 _ (List.mem_of_getElem? (i := 6) rfl)
theorem dJ0_length_8abf5_4 : decode cJ0_length_8abf5 4 = .ok (.arraylength, 1) := by decide +kernel
theorem dJ0_length_8abf5_5 : decode cJ0_length_8abf5 5 = .ok (.aload_n 0, 1) := by decide +kernel
theorem dJ0_length_8abf5_6 : decode cJ0_length_8abf5 6 = .ok (.invokevirtual 335, 3) := by decide +kernel
theorem mw_106 : Cond.code yJ0_coder_7d493 cJ0_coder_7d493 1 (some .byte) ∈ wsL_law := lrk_5 _ (List.mem_of_getElem? (i := 10) rfl)
theorem mw_103 : Cond.methodLink RJ0 335 yJ0_coder_7d493 ∈ wsL_law := lrk_5 _ (List.mem_of_getElem? (i := 7) rfl)
theorem mw_100 : Cond.initialized RJ0 ∈ wsL_law := lrk_5 _ (List.mem_of_getElem? (i := 4) rfl)
theorem mw_104 : Cond.instanceMethod yJ0_coder_7d493 ∈ wsL_law := lrk_5 _ (List.mem_of_getElem? (i := 8) rfl)
theorem mw_105 : Cond.selects RJ0 yJ0_coder_7d493 yJ0_coder_7d493 ∈ wsL_law := lrk_5 _ (List.mem_of_getElem? (i := 9) rfl)
theorem gV_J0_335 : GoodIn wsL_law (wsV RJ0 335 RJ0 yJ0_coder_7d493 (wl yJ0_coder_7d493 cJ0_coder_7d493 1 (some .byte))) := g_V mw_103 mw_104 mw_105 mw_100 mw_106
theorem hdV_J0_coder_7d493 : yJ0_coder_7d493.cls = RJ0 ∧ okD yJ0_coder_7d493 0 := by decide +kernel
theorem dJ0_length_8abf5_9 : decode cJ0_length_8abf5 9 = .ok (.ishr, 1) := by decide +kernel
theorem dJ0_length_8abf5_10 : decode cJ0_length_8abf5 10 = .ok (.ireturn, 1) := by decide +kernel
theorem dJ3_checkIndex_8e157_0 : decode cJ3_checkIndex_8e157 0 = .ok (.iload_n 0, 1) := by decide +kernel
theorem dJ3_checkIndex_8e157_1 : decode cJ3_checkIndex_8e157 1 = .ok (.ifCond .lt 8, 3) := by decide +kernel
theorem dJ3_checkIndex_8e157_4 : decode cJ3_checkIndex_8e157 4 = .ok (.iload_n 0, 1) := by decide +kernel
theorem dJ3_checkIndex_8e157_5 : decode cJ3_checkIndex_8e157 5 = .ok (.iload_n 1, 1) := by decide +kernel
theorem dJ3_checkIndex_8e157_6 : decode cJ3_checkIndex_8e157 6 = .ok (.if_icmp .lt 10, 3) := by decide +kernel
theorem dJ3_checkIndex_8e157_16 : decode cJ3_checkIndex_8e157 16 = .ok (.iload_n 0, 1) := by decide +kernel
theorem dJ3_checkIndex_8e157_17 : decode cJ3_checkIndex_8e157 17 = .ok (.ireturn, 1) := by decide +kernel
theorem dJ0_checkIndex_df160_0 : decode cJ0_checkIndex_df160 0 = .ok (.iload_n 0, 1) := by decide +kernel
theorem dJ0_checkIndex_df160_1 : decode cJ0_checkIndex_df160 1 = .ok (.iload_n 1, 1) := by decide +kernel
theorem dJ0_checkIndex_df160_2 : decode cJ0_checkIndex_df160 2 = .ok (.getstatic 1053, 3) := by decide +kernel
theorem mw_124 : Cond.fieldLink RJ0 1053 "jdk/internal/util/Preconditions" "SIOOBE_FORMATTER" "Ljava/util/function/BiFunction;" ∈ wsL_law := lrk_6 _ (List.mem_of_getElem? (i := 4) rfl)
theorem dJ0_checkIndex_df160_5 : decode cJ0_checkIndex_df160 5 = .ok (.invokestatic 1059, 3) := by decide +kernel
theorem mw_128 : Cond.code yJ3_checkIndex_8e157 cJ3_checkIndex_8e157 3 (some .int) ∈ wsL_law := lrk_6 _ (List.mem_of_getElem? (i := 8) rfl)
theorem mw_125 : Cond.methodLink RJ0 1059 yJ3_checkIndex_8e157 ∈ wsL_law := lrk_6 _ (List.mem_of_getElem? (i := 5) rfl)
theorem mw_127 : Cond.initialized RJ3 ∈ wsL_law := lrk_6 _ (List.mem_of_getElem? (i := 7) rfl)
theorem mw_126 : Cond.static yJ3_checkIndex_8e157 ∈ wsL_law := lrk_6 _ (List.mem_of_getElem? (i := 6) rfl)
theorem gS_J0_1059 : GoodIn wsL_law (va_wsS RJ0 1059 yJ3_checkIndex_8e157 (wl yJ3_checkIndex_8e157 cJ3_checkIndex_8e157 3 (some .int))) := g_S mw_125 mw_126 mw_127 mw_128
theorem hdS_J3_checkIndex_8e157 : okD yJ3_checkIndex_8e157 3 := by decide +kernel
theorem dJ0_checkIndex_df160_8 : decode cJ0_checkIndex_df160 8 = .ok (.pop, 1) := by decide +kernel
theorem dJ0_checkIndex_df160_9 : decode cJ0_checkIndex_df160 9 = .ok (.return_, 1) := by decide +kernel
theorem dJ1_charAt_3b067_0 : decode cJ1_charAt_3b067 0 = .ok (.iload_n 1, 1) := by decide +kernel
theorem dJ1_charAt_3b067_1 : decode cJ1_charAt_3b067 1 = .ok (.aload_n 0, 1) := by decide +kernel
theorem dJ1_charAt_3b067_2 : decode cJ1_charAt_3b067 2 = .ok (.arraylength, 1) := by decide +kernel
theorem dJ1_charAt_3b067_3 : decode cJ1_charAt_3b067 3 = .ok (.invokestatic 9, 3) := by decide +kernel
theorem mw_123 : Cond.code yJ0_checkIndex_df160 cJ0_checkIndex_df160 2 none ∈ wsL_law := lrk_6 _ (List.mem_of_getElem? (i := 3) rfl)
theorem mw_121 : Cond.methodLink RJ1 9 yJ0_checkIndex_df160 ∈ wsL_law := lrk_6 _ (List.mem_of_getElem? (i := 1) rfl)
theorem mw_122 : Cond.static yJ0_checkIndex_df160 ∈ wsL_law := lrk_6 _ (List.mem_of_getElem? (i := 2) rfl)
theorem gS_J1_9 : GoodIn wsL_law (va_wsS RJ1 9 yJ0_checkIndex_df160 (wl yJ0_checkIndex_df160 cJ0_checkIndex_df160 2 none)) := g_S mw_121 mw_122 mw_100 mw_123
theorem hdS_J0_checkIndex_df160 : okD yJ0_checkIndex_df160 2 := by decide +kernel
theorem dJ1_charAt_3b067_6 : decode cJ1_charAt_3b067 6 = .ok (.aload_n 0, 1) := by decide +kernel
theorem dJ1_charAt_3b067_7 : decode cJ1_charAt_3b067 7 = .ok (.iload_n 1, 1) := by decide +kernel
theorem dJ1_charAt_3b067_8 : decode cJ1_charAt_3b067 8 = .ok (.baload, 1) := by decide +kernel
theorem dJ1_charAt_3b067_9 : decode cJ1_charAt_3b067 9 = .ok (.sipush 255, 3) := by decide +kernel
theorem dJ1_charAt_3b067_12 : decode cJ1_charAt_3b067 12 = .ok (.iand, 1) := by decide +kernel
theorem dJ1_charAt_3b067_13 : decode cJ1_charAt_3b067 13 = .ok (.i2c, 1) := by decide +kernel
theorem dJ1_charAt_3b067_14 : decode cJ1_charAt_3b067 14 = .ok (.ireturn, 1) := by decide +kernel
theorem dJ0_charAt_5068e_0 : decode cJ0_charAt_5068e 0 = .ok (.aload_n 0, 1) := by decide +kernel
theorem dJ0_charAt_5068e_1 : decode cJ0_charAt_5068e 1 = .ok (.invokevirtual 492, 3) := by decide +kernel
theorem mw_116 : Cond.code yJ0_isLatin1_aae02 cJ0_isLatin1_aae02 1 (some .boolean) ∈ wsL_law := lrk_5 _ (List.mem_of_getElem? (i := 20) rfl)
theorem mw_113 : Cond.methodLink RJ0 492 yJ0_isLatin1_aae02 ∈ wsL_law := lrk_5 _ (List.mem_of_getElem? (i := 17) rfl)
theorem mw_114 : Cond.instanceMethod yJ0_isLatin1_aae02 ∈ wsL_law := lrk_5 _ (List.mem_of_getElem? (i := 18) rfl)
theorem mw_115 : Cond.selects RJ0 yJ0_isLatin1_aae02 yJ0_isLatin1_aae02 ∈ wsL_law := lrk_5 _ (List.mem_of_getElem? (i := 19) rfl)
theorem gV_J0_492 : GoodIn wsL_law (wsV RJ0 492 RJ0 yJ0_isLatin1_aae02 (wl yJ0_isLatin1_aae02 cJ0_isLatin1_aae02 1 (some .boolean))) := g_V mw_113 mw_114 mw_115 mw_100 mw_116
theorem hdV_J0_isLatin1_aae02 : yJ0_isLatin1_aae02.cls = RJ0 ∧ okD yJ0_isLatin1_aae02 0 := by decide +kernel
theorem dJ0_charAt_5068e_4 : decode cJ0_charAt_5068e 4 = .ok (.ifCond .eq 12, 3) := by decide +kernel
theorem dJ0_charAt_5068e_7 : decode cJ0_charAt_5068e 7 = .ok (.aload_n 0, 1) := by decide +kernel
theorem dJ0_charAt_5068e_8 : decode cJ0_charAt_5068e 8 = .ok (.getfield 9, 3) := by decide +kernel
theorem dJ0_charAt_5068e_11 : decode cJ0_charAt_5068e 11 = .ok (.iload_n 1, 1) := by decide +kernel
theorem dJ0_charAt_5068e_12 : decode cJ0_charAt_5068e 12 = .ok (.invokestatic 495, 3) := by decide +kernel
theorem mw_120 : Cond.code yJ1_charAt_3b067 cJ1_charAt_3b067 2 (some .char) ∈ wsL_law := lrk_6 _ (List.mem_of_getElem? (i := 0) rfl)
theorem mw_117 : Cond.methodLink RJ0 495 yJ1_charAt_3b067 ∈ wsL_law := lrk_5 _ (List.mem_of_getElem? (i := 21) rfl)
theorem mw_119 : Cond.initialized RJ1 ∈ wsL_law := lrk_5 _ (List.mem_of_getElem? (i := 23) rfl)
theorem mw_118 : Cond.static yJ1_charAt_3b067 ∈ wsL_law := lrk_5 _ (List.mem_of_getElem? (i := 22) rfl)
theorem gS_J0_495 : GoodIn wsL_law (va_wsS RJ0 495 yJ1_charAt_3b067 (wl yJ1_charAt_3b067 cJ1_charAt_3b067 2 (some .char))) := g_S mw_117 mw_118 mw_119 mw_120
theorem hdS_J1_charAt_3b067 : okD yJ1_charAt_3b067 2 := by decide +kernel
theorem dJ0_charAt_5068e_15 : decode cJ0_charAt_5068e 15 = .ok (.ireturn, 1) := by decide +kernel
theorem dX0_isWord_0 : decode cX0_isWord 0 = .ok (.aload_n 0, 1) := by decide +kernel
theorem dX0_isWord_1 : decode cX0_isWord 1 = .ok (.arraylength, 1) := by decide +kernel
theorem dX0_isWord_2 : decode cX0_isWord 2 = .ok (.aload_n 1, 1) := by decide +kernel
theorem dX0_isWord_3 : decode cX0_isWord 3 = .ok (.invokevirtual 91, 3) := by decide +kernel
theorem mw_101 : Cond.code yJ0_length_8abf5 cJ0_length_8abf5 1 (some .int) ∈ wsL_law := lrk_5 _ (List.mem_of_getElem? (i := 5) rfl)
theorem mw_97 : Cond.methodLink RX0 91 yJ0_length_8abf5 ∈ wsL_law := lrk_5 _ (List.mem_of_getElem? (i := 1) rfl)
theorem mw_98 : Cond.instanceMethod yJ0_length_8abf5 ∈ wsL_law := lrk_5 _ (List.mem_of_getElem? (i := 2) rfl)
theorem mw_99 : Cond.selects RJ0 yJ0_length_8abf5 yJ0_length_8abf5 ∈ wsL_law := lrk_5 _ (List.mem_of_getElem? (i := 3) rfl)
theorem gV_X0_91 : GoodIn wsL_law (wsV RX0 91 RJ0 yJ0_length_8abf5 (wl yJ0_length_8abf5 cJ0_length_8abf5 1 (some .int))) := g_V mw_97 mw_98 mw_99 mw_100 mw_101
theorem hdV_J0_length_8abf5 : yJ0_length_8abf5.cls = RJ0 ∧ okD yJ0_length_8abf5 0 := by decide +kernel
theorem dX0_isWord_6 : decode cX0_isWord 6 = .ok (.if_icmp .eq 5, 3) := by decide +kernel
theorem dX0_isWord_11 : decode cX0_isWord 11 = .ok (.iconst 0, 1) := by decide +kernel
theorem dX0_isWord_12 : decode cX0_isWord 12 = .ok (.istore_n 2, 1) := by decide +kernel
theorem dX0_isWord_13 : decode cX0_isWord 13 = .ok (.iload_n 2, 1) := by decide +kernel
theorem dX0_isWord_14 : decode cX0_isWord 14 = .ok (.aload_n 0, 1) := by decide +kernel
theorem dX0_isWord_15 : decode cX0_isWord 15 = .ok (.arraylength, 1) := by decide +kernel
theorem dX0_isWord_16 : decode cX0_isWord 16 = .ok (.if_icmp .ge 22, 3) := by decide +kernel
theorem dX0_isWord_38 : decode cX0_isWord 38 = .ok (.iconst 1, 1) := by decide +kernel
theorem dX0_isWord_39 : decode cX0_isWord 39 = .ok (.ireturn, 1) := by decide +kernel
theorem dX0_isWord_19 : decode cX0_isWord 19 = .ok (.aload_n 0, 1) := by decide +kernel
theorem dX0_isWord_20 : decode cX0_isWord 20 = .ok (.iload_n 2, 1) := by decide +kernel
theorem dX0_isWord_21 : decode cX0_isWord 21 = .ok (.baload, 1) := by decide +kernel
theorem dX0_isWord_22 : decode cX0_isWord 22 = .ok (.aload_n 1, 1) := by decide +kernel
theorem dX0_isWord_23 : decode cX0_isWord 23 = .ok (.iload_n 2, 1) := by decide +kernel
theorem dX0_isWord_24 : decode cX0_isWord 24 = .ok (.invokevirtual 97, 3) := by decide +kernel
theorem mw_112 : Cond.code yJ0_charAt_5068e cJ0_charAt_5068e 2 (some .char) ∈ wsL_law := lrk_5 _ (List.mem_of_getElem? (i := 16) rfl)
theorem mw_109 : Cond.methodLink RX0 97 yJ0_charAt_5068e ∈ wsL_law := lrk_5 _ (List.mem_of_getElem? (i := 13) rfl)
theorem mw_110 : Cond.instanceMethod yJ0_charAt_5068e ∈ wsL_law := lrk_5 _ (List.mem_of_getElem? (i := 14) rfl)
theorem mw_111 : Cond.selects RJ0 yJ0_charAt_5068e yJ0_charAt_5068e ∈ wsL_law := lrk_5 _ (List.mem_of_getElem? (i := 15) rfl)
theorem gV_X0_97 : GoodIn wsL_law (wsV RX0 97 RJ0 yJ0_charAt_5068e (wl yJ0_charAt_5068e cJ0_charAt_5068e 2 (some .char))) := g_V mw_109 mw_110 mw_111 mw_100 mw_112
theorem hdV_J0_charAt_5068e : yJ0_charAt_5068e.cls = RJ0 ∧ okD yJ0_charAt_5068e 1 := by decide +kernel
theorem dX0_isWord_27 : decode cX0_isWord 27 = .ok (.if_icmp .eq 5, 3) := by decide +kernel
theorem dX0_isWord_32 : decode cX0_isWord 32 = .ok (.iinc 2 1, 3) := by decide +kernel
theorem dX0_isWord_35 : decode cX0_isWord 35 = .ok (.goto (-22), 3) := by decide +kernel
theorem dX0_isWord_30 : decode cX0_isWord 30 = .ok (.iconst 0, 1) := by decide +kernel
theorem dX0_isWord_31 : decode cX0_isWord 31 = .ok (.ireturn, 1) := by decide +kernel
theorem dX0_isWord_9 : decode cX0_isWord 9 = .ok (.iconst 0, 1) := by decide +kernel
theorem dX0_isWord_10 : decode cX0_isWord 10 = .ok (.ireturn, 1) := by decide +kernel
theorem dX0_digits_0 : decode cX0_digits 0 = .ok (.iconst 0, 1) := by decide +kernel
theorem dX0_digits_1 : decode cX0_digits 1 = .ok (.istore_n 3, 1) := by decide +kernel
theorem dX0_digits_2 : decode cX0_digits 2 = .ok (.iload_n 1, 1) := by decide +kernel
theorem dX0_digits_3 : decode cX0_digits 3 = .ok (.istore 4, 2) := by decide +kernel
theorem dX0_digits_5 : decode cX0_digits 5 = .ok (.iload 4, 2) := by decide +kernel
theorem dX0_digits_7 : decode cX0_digits 7 = .ok (.iload_n 2, 1) := by decide +kernel
theorem dX0_digits_8 : decode cX0_digits 8 = .ok (.if_icmp .ge 40, 3) := by decide +kernel
theorem dX0_digits_48 : decode cX0_digits 48 = .ok (.iload_n 3, 1) := by decide +kernel
theorem dX0_digits_49 : decode cX0_digits 49 = .ok (.ireturn, 1) := by decide +kernel
theorem dX0_digits_11 : decode cX0_digits 11 = .ok (.aload_n 0, 1) := by decide +kernel
theorem dX0_digits_12 : decode cX0_digits 12 = .ok (.iload 4, 2) := by decide +kernel
theorem dX0_digits_14 : decode cX0_digits 14 = .ok (.baload, 1) := by decide +kernel
theorem dX0_digits_15 : decode cX0_digits 15 = .ok (.bipush 48, 2) := by decide +kernel
theorem dX0_digits_17 : decode cX0_digits 17 = .ok (.isub, 1) := by decide +kernel
theorem dX0_digits_18 : decode cX0_digits 18 = .ok (.istore 5, 2) := by decide +kernel
theorem dX0_digits_20 : decode cX0_digits 20 = .ok (.iload 5, 2) := by decide +kernel
theorem dX0_digits_22 : decode cX0_digits 22 = .ok (.ifCond .lt 10, 3) := by decide +kernel
theorem dX0_digits_32 : decode cX0_digits 32 = .ok (.iconst (-1), 1) := by decide +kernel
theorem dX0_digits_33 : decode cX0_digits 33 = .ok (.ireturn, 1) := by decide +kernel
theorem dX0_digits_25 : decode cX0_digits 25 = .ok (.iload 5, 2) := by decide +kernel
theorem dX0_digits_27 : decode cX0_digits 27 = .ok (.bipush 9, 2) := by decide +kernel
theorem dX0_digits_29 : decode cX0_digits 29 = .ok (.if_icmp .le 5, 3) := by decide +kernel
theorem dX0_digits_34 : decode cX0_digits 34 = .ok (.iload_n 3, 1) := by decide +kernel
theorem dX0_digits_35 : decode cX0_digits 35 = .ok (.bipush 10, 2) := by decide +kernel
theorem dX0_digits_37 : decode cX0_digits 37 = .ok (.imul, 1) := by decide +kernel
theorem dX0_digits_38 : decode cX0_digits 38 = .ok (.iload 5, 2) := by decide +kernel
theorem dX0_digits_40 : decode cX0_digits 40 = .ok (.iadd, 1) := by decide +kernel
theorem dX0_digits_41 : decode cX0_digits 41 = .ok (.istore_n 3, 1) := by decide +kernel
theorem dX0_digits_42 : decode cX0_digits 42 = .ok (.iinc 4 1, 3) := by decide +kernel
theorem dX0_digits_45 : decode cX0_digits 45 = .ok (.goto (-40), 3) := by decide +kernel
theorem dX0_isDate_0 : decode cX0_isDate 0 = .ok (.aload_n 0, 1) := by decide +kernel
theorem dX0_isDate_1 : decode cX0_isDate 1 = .ok (.arraylength, 1) := by decide +kernel
theorem dX0_isDate_2 : decode cX0_isDate 2 = .ok (.bipush 10, 2) := by decide +kernel
theorem dX0_isDate_4 : decode cX0_isDate 4 = .ok (.if_icmp .ne 20, 3) := by decide +kernel
theorem dX0_isDate_24 : decode cX0_isDate 24 = .ok (.iconst 0, 1) := by decide +kernel
theorem dX0_isDate_25 : decode cX0_isDate 25 = .ok (.ireturn, 1) := by decide +kernel
theorem dX0_isDate_7 : decode cX0_isDate 7 = .ok (.aload_n 0, 1) := by decide +kernel
theorem dX0_isDate_8 : decode cX0_isDate 8 = .ok (.iconst 4, 1) := by decide +kernel
theorem dX0_isDate_9 : decode cX0_isDate 9 = .ok (.baload, 1) := by decide +kernel
theorem dX0_isDate_10 : decode cX0_isDate 10 = .ok (.bipush 45, 2) := by decide +kernel
theorem dX0_isDate_12 : decode cX0_isDate 12 = .ok (.if_icmp .ne 12, 3) := by decide +kernel
theorem dX0_isDate_15 : decode cX0_isDate 15 = .ok (.aload_n 0, 1) := by decide +kernel
theorem dX0_isDate_16 : decode cX0_isDate 16 = .ok (.bipush 7, 2) := by decide +kernel
theorem dX0_isDate_18 : decode cX0_isDate 18 = .ok (.baload, 1) := by decide +kernel
theorem dX0_isDate_19 : decode cX0_isDate 19 = .ok (.bipush 45, 2) := by decide +kernel
theorem dX0_isDate_21 : decode cX0_isDate 21 = .ok (.if_icmp .eq 5, 3) := by decide +kernel
theorem dX0_isDate_26 : decode cX0_isDate 26 = .ok (.aload_n 0, 1) := by decide +kernel
theorem dX0_isDate_27 : decode cX0_isDate 27 = .ok (.iconst 0, 1) := by decide +kernel
theorem dX0_isDate_28 : decode cX0_isDate 28 = .ok (.iconst 4, 1) := by decide +kernel
theorem dX0_isDate_29 : decode cX0_isDate 29 = .ok (.invokestatic 107, 3) := by decide +kernel
theorem mw_152 : Cond.code yX0_digits cX0_digits 6 (some .int) ∈ wsL_law := lrk_7 _ (List.mem_of_getElem? (i := 8) rfl)
theorem mw_150 : Cond.methodLink RX0 107 yX0_digits ∈ wsL_law := lrk_7 _ (List.mem_of_getElem? (i := 6) rfl)
theorem mw_151 : Cond.static yX0_digits ∈ wsL_law := lrk_7 _ (List.mem_of_getElem? (i := 7) rfl)
theorem gS_X0_107 : GoodIn wsL_law (va_wsS RX0 107 yX0_digits (wl yX0_digits cX0_digits 6 (some .int))) := g_S mw_150 mw_151 mw_68 mw_152
theorem hdS_X0_digits : okD yX0_digits 3 := by decide +kernel
theorem dX0_isDate_32 : decode cX0_isDate 32 = .ok (.istore_n 1, 1) := by decide +kernel
theorem dX0_isDate_33 : decode cX0_isDate 33 = .ok (.aload_n 0, 1) := by decide +kernel
theorem dX0_isDate_34 : decode cX0_isDate 34 = .ok (.iconst 5, 1) := by decide +kernel
theorem dX0_isDate_35 : decode cX0_isDate 35 = .ok (.bipush 7, 2) := by decide +kernel
theorem dX0_isDate_37 : decode cX0_isDate 37 = .ok (.invokestatic 107, 3) := by decide +kernel
theorem dX0_isDate_40 : decode cX0_isDate 40 = .ok (.istore_n 2, 1) := by decide +kernel
theorem dX0_isDate_41 : decode cX0_isDate 41 = .ok (.aload_n 0, 1) := by decide +kernel
theorem dX0_isDate_42 : decode cX0_isDate 42 = .ok (.bipush 8, 2) := by decide +kernel
theorem dX0_isDate_44 : decode cX0_isDate 44 = .ok (.bipush 10, 2) := by decide +kernel
theorem dX0_isDate_46 : decode cX0_isDate 46 = .ok (.invokestatic 107, 3) := by decide +kernel
theorem dX0_isDate_49 : decode cX0_isDate 49 = .ok (.istore_n 3, 1) := by decide +kernel
theorem dX0_isDate_50 : decode cX0_isDate 50 = .ok (.iload_n 1, 1) := by decide +kernel
theorem dX0_isDate_51 : decode cX0_isDate 51 = .ok (.sipush 1600, 3) := by decide +kernel
theorem dX0_isDate_54 : decode cX0_isDate 54 = .ok (.if_icmp .lt 19, 3) := by decide +kernel
theorem dX0_isDate_73 : decode cX0_isDate 73 = .ok (.iconst 0, 1) := by decide +kernel
theorem dX0_isDate_74 : decode cX0_isDate 74 = .ok (.ireturn, 1) := by decide +kernel
theorem dX0_isDate_57 : decode cX0_isDate 57 = .ok (.iload_n 2, 1) := by decide +kernel
theorem dX0_isDate_58 : decode cX0_isDate 58 = .ok (.iconst 1, 1) := by decide +kernel
theorem dX0_isDate_59 : decode cX0_isDate 59 = .ok (.if_icmp .lt 14, 3) := by decide +kernel
theorem dX0_isDate_62 : decode cX0_isDate 62 = .ok (.iload_n 2, 1) := by decide +kernel
theorem dX0_isDate_63 : decode cX0_isDate 63 = .ok (.bipush 12, 2) := by decide +kernel
theorem dX0_isDate_65 : decode cX0_isDate 65 = .ok (.if_icmp .gt 8, 3) := by decide +kernel
theorem dX0_isDate_68 : decode cX0_isDate 68 = .ok (.iload_n 3, 1) := by decide +kernel
theorem dX0_isDate_69 : decode cX0_isDate 69 = .ok (.iconst 1, 1) := by decide +kernel
theorem dX0_isDate_70 : decode cX0_isDate 70 = .ok (.if_icmp .ge 5, 3) := by decide +kernel
theorem dX0_isDate_75 : decode cX0_isDate 75 = .ok (.getstatic 111, 3) := by decide +kernel
theorem mw_149 : Cond.fieldLink RX0 111 "TypedTables$Cell" "MONTH_DAYS" "[I" ∈ wsL_law := lrk_7 _ (List.mem_of_getElem? (i := 5) rfl)
theorem dX0_isDate_78 : decode cX0_isDate 78 = .ok (.iload_n 2, 1) := by decide +kernel
theorem dX0_isDate_79 : decode cX0_isDate 79 = .ok (.iconst 1, 1) := by decide +kernel
theorem dX0_isDate_80 : decode cX0_isDate 80 = .ok (.isub, 1) := by decide +kernel
theorem dX0_isDate_81 : decode cX0_isDate 81 = .ok (.iaload, 1) := by decide +kernel
theorem dX0_isDate_82 : decode cX0_isDate 82 = .ok (.iload_n 2, 1) := by decide +kernel
theorem dX0_isDate_83 : decode cX0_isDate 83 = .ok (.iconst 2, 1) := by decide +kernel
theorem dX0_isDate_84 : decode cX0_isDate 84 = .ok (.if_icmp .ne 14, 3) := by decide +kernel
theorem dX0_isDate_98 : decode cX0_isDate 98 = .ok (.iconst 0, 1) := by decide +kernel
theorem dX0_isDate_99 : decode cX0_isDate 99 = .ok (.iadd, 1) := by decide +kernel
theorem dX0_isDate_100 : decode cX0_isDate 100 = .ok (.istore 4, 2) := by decide +kernel
theorem dX0_isDate_102 : decode cX0_isDate 102 = .ok (.iload_n 3, 1) := by decide +kernel
theorem dX0_isDate_103 : decode cX0_isDate 103 = .ok (.iload 4, 2) := by decide +kernel
theorem dX0_isDate_105 : decode cX0_isDate 105 = .ok (.if_icmp .gt 7, 3) := by decide +kernel
theorem dX0_isDate_112 : decode cX0_isDate 112 = .ok (.iconst 0, 1) := by decide +kernel
theorem dX0_isDate_113 : decode cX0_isDate 113 = .ok (.ireturn, 1) := by decide +kernel
theorem dX0_isDate_108 : decode cX0_isDate 108 = .ok (.iconst 1, 1) := by decide +kernel
theorem dX0_isDate_109 : decode cX0_isDate 109 = .ok (.goto 4, 3) := by decide +kernel
theorem dX0_isDate_87 : decode cX0_isDate 87 = .ok (.iload_n 1, 1) := by decide +kernel
theorem dX0_isDate_88 : decode cX0_isDate 88 = .ok (.invokestatic 115, 3) := by decide +kernel
theorem mw_155 : Cond.code yX0_isLeap cX0_isLeap 1 (some .boolean) ∈ wsL_law := lrk_7 _ (List.mem_of_getElem? (i := 11) rfl)
theorem mw_153 : Cond.methodLink RX0 115 yX0_isLeap ∈ wsL_law := lrk_7 _ (List.mem_of_getElem? (i := 9) rfl)
theorem mw_154 : Cond.static yX0_isLeap ∈ wsL_law := lrk_7 _ (List.mem_of_getElem? (i := 10) rfl)
theorem gS_X0_115 : GoodIn wsL_law (va_wsS RX0 115 yX0_isLeap (wl yX0_isLeap cX0_isLeap 1 (some .boolean))) := g_S mw_153 mw_154 mw_68 mw_155
theorem hdS_X0_isLeap : okD yX0_isLeap 1 := by decide +kernel
theorem dX0_isDate_91 : decode cX0_isDate 91 = .ok (.ifCond .eq 7, 3) := by decide +kernel
theorem dX0_isDate_94 : decode cX0_isDate 94 = .ok (.iconst 1, 1) := by decide +kernel
theorem dX0_isDate_95 : decode cX0_isDate 95 = .ok (.goto 4, 3) := by decide +kernel
theorem dX0_days_0 : decode cX0_days 0 = .ok (.aload_n 0, 1) := by decide +kernel
theorem dX0_days_1 : decode cX0_days 1 = .ok (.iconst 0, 1) := by decide +kernel
theorem dX0_days_2 : decode cX0_days 2 = .ok (.iconst 4, 1) := by decide +kernel
theorem dX0_days_3 : decode cX0_days 3 = .ok (.invokestatic 107, 3) := by decide +kernel
theorem dX0_days_6 : decode cX0_days 6 = .ok (.istore_n 1, 1) := by decide +kernel
theorem dX0_days_7 : decode cX0_days 7 = .ok (.aload_n 0, 1) := by decide +kernel
theorem dX0_days_8 : decode cX0_days 8 = .ok (.iconst 5, 1) := by decide +kernel
theorem dX0_days_9 : decode cX0_days 9 = .ok (.bipush 7, 2) := by decide +kernel
theorem dX0_days_11 : decode cX0_days 11 = .ok (.invokestatic 107, 3) := by decide +kernel
theorem dX0_days_14 : decode cX0_days 14 = .ok (.istore_n 2, 1) := by decide +kernel
theorem dX0_days_15 : decode cX0_days 15 = .ok (.aload_n 0, 1) := by decide +kernel
theorem dX0_days_16 : decode cX0_days 16 = .ok (.bipush 8, 2) := by decide +kernel
theorem dX0_days_18 : decode cX0_days 18 = .ok (.bipush 10, 2) := by decide +kernel
theorem dX0_days_20 : decode cX0_days 20 = .ok (.invokestatic 107, 3) := by decide +kernel
theorem dX0_days_23 : decode cX0_days 23 = .ok (.istore_n 3, 1) := by decide +kernel
theorem dX0_days_24 : decode cX0_days 24 = .ok (.sipush 365, 3) := by decide +kernel
theorem dX0_days_27 : decode cX0_days 27 = .ok (.iload_n 1, 1) := by decide +kernel
theorem dX0_days_28 : decode cX0_days 28 = .ok (.sipush 1970, 3) := by decide +kernel
theorem dX0_days_31 : decode cX0_days 31 = .ok (.isub, 1) := by decide +kernel
theorem dX0_days_32 : decode cX0_days 32 = .ok (.imul, 1) := by decide +kernel
theorem dX0_days_33 : decode cX0_days 33 = .ok (.iload_n 1, 1) := by decide +kernel
theorem dX0_days_34 : decode cX0_days 34 = .ok (.invokestatic 118, 3) := by decide +kernel
theorem mw_175 : Cond.code yX0_leapYearsAhead cX0_leapYearsAhead 2 (some .int) ∈ wsL_law := lrk_8 _ (List.mem_of_getElem? (i := 7) rfl)
theorem mw_173 : Cond.methodLink RX0 118 yX0_leapYearsAhead ∈ wsL_law := lrk_8 _ (List.mem_of_getElem? (i := 5) rfl)
theorem mw_174 : Cond.static yX0_leapYearsAhead ∈ wsL_law := lrk_8 _ (List.mem_of_getElem? (i := 6) rfl)
theorem gS_X0_118 : GoodIn wsL_law (va_wsS RX0 118 yX0_leapYearsAhead (wl yX0_leapYearsAhead cX0_leapYearsAhead 2 (some .int))) := g_S mw_173 mw_174 mw_68 mw_175
theorem hdS_X0_leapYearsAhead : okD yX0_leapYearsAhead 1 := by decide +kernel
theorem dX0_days_37 : decode cX0_days 37 = .ok (.iadd, 1) := by decide +kernel
theorem dX0_days_38 : decode cX0_days 38 = .ok (.sipush 1970, 3) := by decide +kernel
theorem dX0_days_41 : decode cX0_days 41 = .ok (.invokestatic 118, 3) := by decide +kernel
theorem dX0_days_44 : decode cX0_days 44 = .ok (.isub, 1) := by decide +kernel
theorem dX0_days_45 : decode cX0_days 45 = .ok (.istore 4, 2) := by decide +kernel
theorem dX0_days_47 : decode cX0_days 47 = .ok (.iload 4, 2) := by decide +kernel
theorem dX0_days_49 : decode cX0_days 49 = .ok (.getstatic 122, 3) := by decide +kernel
theorem mw_172 : Cond.fieldLink RX0 122 "TypedTables$Cell" "DAYS_AHEAD" "[I" ∈ wsL_law := lrk_8 _ (List.mem_of_getElem? (i := 4) rfl)
theorem dX0_days_52 : decode cX0_days 52 = .ok (.iload_n 2, 1) := by decide +kernel
theorem dX0_days_53 : decode cX0_days 53 = .ok (.iconst 1, 1) := by decide +kernel
theorem dX0_days_54 : decode cX0_days 54 = .ok (.isub, 1) := by decide +kernel
theorem dX0_days_55 : decode cX0_days 55 = .ok (.iaload, 1) := by decide +kernel
theorem dX0_days_56 : decode cX0_days 56 = .ok (.iload_n 2, 1) := by decide +kernel
theorem dX0_days_57 : decode cX0_days 57 = .ok (.iconst 2, 1) := by decide +kernel
theorem dX0_days_58 : decode cX0_days 58 = .ok (.if_icmp .le 14, 3) := by decide +kernel
theorem dX0_days_72 : decode cX0_days 72 = .ok (.iconst 0, 1) := by decide +kernel
theorem dX0_days_73 : decode cX0_days 73 = .ok (.iadd, 1) := by decide +kernel
theorem dX0_days_74 : decode cX0_days 74 = .ok (.iadd, 1) := by decide +kernel
theorem dX0_days_75 : decode cX0_days 75 = .ok (.istore 4, 2) := by decide +kernel
theorem dX0_days_77 : decode cX0_days 77 = .ok (.iload 4, 2) := by decide +kernel
theorem dX0_days_79 : decode cX0_days 79 = .ok (.iload_n 3, 1) := by decide +kernel
theorem dX0_days_80 : decode cX0_days 80 = .ok (.iadd, 1) := by decide +kernel
theorem dX0_days_81 : decode cX0_days 81 = .ok (.iconst 1, 1) := by decide +kernel
theorem dX0_days_82 : decode cX0_days 82 = .ok (.isub, 1) := by decide +kernel
theorem dX0_days_83 : decode cX0_days 83 = .ok (.i2l, 1) := by decide +kernel
theorem dX0_days_84 : decode cX0_days 84 = .ok (.lreturn, 1) := by decide +kernel
theorem dX0_days_61 : decode cX0_days 61 = .ok (.iload_n 1, 1) := by decide +kernel
theorem dX0_days_62 : decode cX0_days 62 = .ok (.invokestatic 115, 3) := by decide +kernel
theorem dX0_days_65 : decode cX0_days 65 = .ok (.ifCond .eq 7, 3) := by decide +kernel
theorem dX0_days_68 : decode cX0_days 68 = .ok (.iconst 1, 1) := by decide +kernel
theorem dX0_days_69 : decode cX0_days 69 = .ok (.goto 4, 3) := by decide +kernel
theorem dX0_numberOf_0 : decode cX0_numberOf 0 = .ok (.iload_n 1, 1) := by decide +kernel
theorem dX0_numberOf_1 : decode cX0_numberOf 1 = .ok (.tableswitch 70 1 4 #[31, 53, 59, 65], 31) := by decide +kernel
theorem dX0_numberOf_71 : decode cX0_numberOf 71 = .ok (.aload_n 0, 1) := by decide +kernel
theorem dX0_numberOf_72 : decode cX0_numberOf 72 = .ok (.arraylength, 1) := by decide +kernel
theorem dX0_numberOf_73 : decode cX0_numberOf 73 = .ok (.i2l, 1) := by decide +kernel
theorem dX0_numberOf_74 : decode cX0_numberOf 74 = .ok (.lreturn, 1) := by decide +kernel
theorem dX0_numberOf_32 : decode cX0_numberOf 32 = .ok (.aload_n 0, 1) := by decide +kernel
theorem dX0_numberOf_33 : decode cX0_numberOf 33 = .ok (.iconst 0, 1) := by decide +kernel
theorem dX0_numberOf_34 : decode cX0_numberOf 34 = .ok (.baload, 1) := by decide +kernel
theorem dX0_numberOf_35 : decode cX0_numberOf 35 = .ok (.bipush 121, 2) := by decide +kernel
theorem dX0_numberOf_37 : decode cX0_numberOf 37 = .ok (.if_icmp .eq 11, 3) := by decide +kernel
theorem dX0_numberOf_48 : decode cX0_numberOf 48 = .ok (.lconst 1, 1) := by decide +kernel
theorem dX0_numberOf_49 : decode cX0_numberOf 49 = .ok (.goto 4, 3) := by decide +kernel
theorem dX0_numberOf_53 : decode cX0_numberOf 53 = .ok (.lreturn, 1) := by decide +kernel
theorem dX0_numberOf_40 : decode cX0_numberOf 40 = .ok (.aload_n 0, 1) := by decide +kernel
theorem dX0_numberOf_41 : decode cX0_numberOf 41 = .ok (.iconst 0, 1) := by decide +kernel
theorem dX0_numberOf_42 : decode cX0_numberOf 42 = .ok (.baload, 1) := by decide +kernel
theorem dX0_numberOf_43 : decode cX0_numberOf 43 = .ok (.bipush 116, 2) := by decide +kernel
theorem dX0_numberOf_45 : decode cX0_numberOf 45 = .ok (.if_icmp .ne 7, 3) := by decide +kernel
theorem dX0_numberOf_52 : decode cX0_numberOf 52 = .ok (.lconst 0, 1) := by decide +kernel
theorem dX0_numberOf_54 : decode cX0_numberOf 54 = .ok (.aload_n 0, 1) := by decide +kernel
theorem dX0_numberOf_55 : decode cX0_numberOf 55 = .ok (.iconst 0, 1) := by decide +kernel
theorem dX0_numberOf_56 : decode cX0_numberOf 56 = .ok (.invokestatic 84, 3) := by decide +kernel
theorem mw_167 : Cond.code yX0_numeral cX0_numeral 7 (some .long) ∈ wsL_law := lrk_7 _ (List.mem_of_getElem? (i := 23) rfl)
theorem mw_165 : Cond.methodLink RX0 84 yX0_numeral ∈ wsL_law := lrk_7 _ (List.mem_of_getElem? (i := 21) rfl)
theorem mw_166 : Cond.static yX0_numeral ∈ wsL_law := lrk_7 _ (List.mem_of_getElem? (i := 22) rfl)
theorem gS_X0_84 : GoodIn wsL_law (va_wsS RX0 84 yX0_numeral (wl yX0_numeral cX0_numeral 7 (some .long))) := g_S mw_165 mw_166 mw_68 mw_167
theorem hdS_X0_numeral : okD yX0_numeral 2 := by decide +kernel
theorem dX0_numberOf_59 : decode cX0_numberOf 59 = .ok (.lreturn, 1) := by decide +kernel
theorem dX0_numberOf_60 : decode cX0_numberOf 60 = .ok (.aload_n 0, 1) := by decide +kernel
theorem dX0_numberOf_61 : decode cX0_numberOf 61 = .ok (.iconst 4, 1) := by decide +kernel
theorem dX0_numberOf_62 : decode cX0_numberOf 62 = .ok (.invokestatic 84, 3) := by decide +kernel
theorem dX0_numberOf_65 : decode cX0_numberOf 65 = .ok (.lreturn, 1) := by decide +kernel
theorem dX0_numberOf_66 : decode cX0_numberOf 66 = .ok (.aload_n 0, 1) := by decide +kernel
theorem dX0_numberOf_67 : decode cX0_numberOf 67 = .ok (.invokestatic 87, 3) := by decide +kernel
theorem mw_171 : Cond.code yX0_days cX0_days 5 (some .long) ∈ wsL_law := lrk_8 _ (List.mem_of_getElem? (i := 3) rfl)
theorem mw_169 : Cond.methodLink RX0 87 yX0_days ∈ wsL_law := lrk_8 _ (List.mem_of_getElem? (i := 1) rfl)
theorem mw_170 : Cond.static yX0_days ∈ wsL_law := lrk_8 _ (List.mem_of_getElem? (i := 2) rfl)
theorem gS_X0_87 : GoodIn wsL_law (va_wsS RX0 87 yX0_days (wl yX0_days cX0_days 5 (some .long))) := g_S mw_169 mw_170 mw_68 mw_171
theorem hdS_X0_days : okD yX0_days 1 := by decide +kernel
theorem dX0_numberOf_70 : decode cX0_numberOf 70 = .ok (.lreturn, 1) := by decide +kernel
theorem dX0_kindOf_0 : decode cX0_kindOf 0 = .ok (.aload_n 0, 1) := by decide +kernel
theorem dX0_kindOf_1 : decode cX0_kindOf 1 = .ok (.arraylength, 1) := by decide +kernel
theorem dX0_kindOf_2 : decode cX0_kindOf 2 = .ok (.ifCond .ne 5, 3) := by decide +kernel
theorem dX0_kindOf_7 : decode cX0_kindOf 7 = .ok (.aload_n 0, 1) := by decide +kernel
theorem dX0_kindOf_8 : decode cX0_kindOf 8 = .ok (.ldc 65, 2) := by decide +kernel
theorem dX0_kindOf_10 : decode cX0_kindOf 10 = .ok (.invokestatic 67, 3) := by decide +kernel
theorem mw_96 : Cond.code yX0_isWord cX0_isWord 3 (some .boolean) ∈ wsL_law := lrk_5 _ (List.mem_of_getElem? (i := 0) rfl)
theorem mw_94 : Cond.methodLink RX0 67 yX0_isWord ∈ wsL_law := lrk_4 _ (List.mem_of_getElem? (i := 22) rfl)
theorem mw_95 : Cond.static yX0_isWord ∈ wsL_law := lrk_4 _ (List.mem_of_getElem? (i := 23) rfl)
theorem gS_X0_67 : GoodIn wsL_law (va_wsS RX0 67 yX0_isWord (wl yX0_isWord cX0_isWord 3 (some .boolean))) := g_S mw_94 mw_95 mw_68 mw_96
theorem hdS_X0_isWord : okD yX0_isWord 2 := by decide +kernel
theorem dX0_kindOf_13 : decode cX0_kindOf 13 = .ok (.ifCond .ne 30, 3) := by decide +kernel
theorem dX0_kindOf_43 : decode cX0_kindOf 43 = .ok (.iconst 1, 1) := by decide +kernel
theorem dX0_kindOf_44 : decode cX0_kindOf 44 = .ok (.ireturn, 1) := by decide +kernel
theorem dX0_kindOf_16 : decode cX0_kindOf 16 = .ok (.aload_n 0, 1) := by decide +kernel
theorem dX0_kindOf_17 : decode cX0_kindOf 17 = .ok (.ldc 71, 2) := by decide +kernel
theorem dX0_kindOf_19 : decode cX0_kindOf 19 = .ok (.invokestatic 67, 3) := by decide +kernel
theorem dX0_kindOf_22 : decode cX0_kindOf 22 = .ok (.ifCond .ne 21, 3) := by decide +kernel
theorem dX0_kindOf_25 : decode cX0_kindOf 25 = .ok (.aload_n 0, 1) := by decide +kernel
theorem dX0_kindOf_26 : decode cX0_kindOf 26 = .ok (.ldc 73, 2) := by decide +kernel
theorem dX0_kindOf_28 : decode cX0_kindOf 28 = .ok (.invokestatic 67, 3) := by decide +kernel
theorem dX0_kindOf_31 : decode cX0_kindOf 31 = .ok (.ifCond .ne 12, 3) := by decide +kernel
theorem dX0_kindOf_34 : decode cX0_kindOf 34 = .ok (.aload_n 0, 1) := by decide +kernel
theorem dX0_kindOf_35 : decode cX0_kindOf 35 = .ok (.ldc 75, 2) := by decide +kernel
theorem dX0_kindOf_37 : decode cX0_kindOf 37 = .ok (.invokestatic 67, 3) := by decide +kernel
theorem dX0_kindOf_40 : decode cX0_kindOf 40 = .ok (.ifCond .eq 5, 3) := by decide +kernel
theorem dX0_kindOf_45 : decode cX0_kindOf 45 = .ok (.aload_n 0, 1) := by decide +kernel
theorem dX0_kindOf_46 : decode cX0_kindOf 46 = .ok (.invokestatic 77, 3) := by decide +kernel
theorem mw_148 : Cond.code yX0_isDate cX0_isDate 5 (some .boolean) ∈ wsL_law := lrk_7 _ (List.mem_of_getElem? (i := 4) rfl)
theorem mw_146 : Cond.methodLink RX0 77 yX0_isDate ∈ wsL_law := lrk_7 _ (List.mem_of_getElem? (i := 2) rfl)
theorem mw_147 : Cond.static yX0_isDate ∈ wsL_law := lrk_7 _ (List.mem_of_getElem? (i := 3) rfl)
theorem gS_X0_77 : GoodIn wsL_law (va_wsS RX0 77 yX0_isDate (wl yX0_isDate cX0_isDate 5 (some .boolean))) := g_S mw_146 mw_147 mw_68 mw_148
theorem hdS_X0_isDate : okD yX0_isDate 1 := by decide +kernel
theorem dX0_kindOf_49 : decode cX0_kindOf 49 = .ok (.ifCond .eq 7, 3) := by decide +kernel
theorem dX0_kindOf_52 : decode cX0_kindOf 52 = .ok (.iconst 4, 1) := by decide +kernel
theorem dX0_kindOf_53 : decode cX0_kindOf 53 = .ok (.goto 7, 3) := by decide +kernel
theorem dX0_kindOf_60 : decode cX0_kindOf 60 = .ok (.ireturn, 1) := by decide +kernel
theorem dX0_kindOf_56 : decode cX0_kindOf 56 = .ok (.aload_n 0, 1) := by decide +kernel
theorem dX0_kindOf_57 : decode cX0_kindOf 57 = .ok (.invokestatic 81, 3) := by decide +kernel
theorem mw_158 : Cond.code yX0_numeralKind cX0_numeralKind 5 (some .int) ∈ wsL_law := lrk_7 _ (List.mem_of_getElem? (i := 14) rfl)
theorem mw_156 : Cond.methodLink RX0 81 yX0_numeralKind ∈ wsL_law := lrk_7 _ (List.mem_of_getElem? (i := 12) rfl)
theorem mw_157 : Cond.static yX0_numeralKind ∈ wsL_law := lrk_7 _ (List.mem_of_getElem? (i := 13) rfl)
theorem gS_X0_81 : GoodIn wsL_law (va_wsS RX0 81 yX0_numeralKind (wl yX0_numeralKind cX0_numeralKind 5 (some .int))) := g_S mw_156 mw_157 mw_68 mw_158
theorem hdS_X0_numeralKind : okD yX0_numeralKind 1 := by decide +kernel
theorem dX0_kindOf_5 : decode cX0_kindOf 5 = .ok (.iconst 0, 1) := by decide +kernel
theorem dX0_kindOf_6 : decode cX0_kindOf 6 = .ok (.ireturn, 1) := by decide +kernel
set_option maxHeartbeats 4000000 in
set_option maxRecDepth 100000 in
theorem c_J0_coder_0 (l : Launch) (D : va_G) (κ : Nat → ClassId) (κq : Nat → Nat) : Er l yJ0_coder_7d493 (wl yJ0_coder_7d493 cJ0_coder_7d493 1 (some .byte)) { frames := 0, cells := 0, slots := 0, locals := 0 } D κ κq [.ref (κq 2)] [] (fun _ : Unit => some (.int 0)) (fun _ : Unit => True) := by
  refine er_of (by decide +kernel) (Nat.le_of_ble_eq_true rfl) ?_
  intro p e s m args below meth c A ls hx hb hr hml hts hown hlk hKK hK hP hE hl
  have hS : va_S A s.heap s.heap [] := va_S.rf
  have hP : va_P D vwCl ([] ++ []) s.heap := hP
  have hFX : FX p s m args c cJ0_coder_7d493 1 RJ0 := ⟨hx, hb, hml, hown, hts⟩
  have hl : lv_has ls 1 [(0, .ref (κq 2))] := hl
  refine va_gets (v := .int 1) hx hb hE.1.2.2.2.2.1 hS hown (hts _ mw_107) (fun _ h9 => h9) dJ0_coder_7d493_0 ?_
  refine lv_if_eq (tgt := 13) hx hb dJ0_coder_7d493_3 (by decide) (fun c_1 => absurd c_1 (by decide)) (fun c_1 => ?_)
  refine lv_aload_n hx hb dJ0_coder_7d493_6 rfl (lv_at hl 0 rfl) ?_
  refine vk_getf (o := "java/lang/String") (n := "coder") (d := "B") (v := .int 0) hx hb (hE.1.2.2.2.2.2.1.1 0 (by decide)).2.1 hS hown (hts _ mw_108) (fun _ h9 => h9) dJ0_coder_7d493_7 ?_
  refine lv_goto (tgt := 14) hx hb dJ0_coder_7d493_10 (by decide) ?_
  exact cr_iret hx hb hr hlk rfl () rfl trivial dJ0_coder_7d493_14
set_option maxHeartbeats 4000000 in
set_option maxRecDepth 100000 in
theorem c_J0_isLatin1_0 (l : Launch) (D : va_G) (κ : Nat → ClassId) (κq : Nat → Nat) : Er l yJ0_isLatin1_aae02 (wl yJ0_isLatin1_aae02 cJ0_isLatin1_aae02 1 (some .boolean)) { frames := 0, cells := 0, slots := 0, locals := 0 } D κ κq [.ref (κq 2)] [] (fun _ : Unit => some (.int 1)) (fun _ : Unit => True) := by
  refine er_of (by decide +kernel) (Nat.le_of_ble_eq_true rfl) ?_
  intro p e s m args below meth c A ls hx hb hr hml hts hown hlk hKK hK hP hE hl
  have hS : va_S A s.heap s.heap [] := va_S.rf
  have hP : va_P D vwCl ([] ++ []) s.heap := hP
  have hFX : FX p s m args c cJ0_isLatin1_aae02 1 RJ0 := ⟨hx, hb, hml, hown, hts⟩
  have hl : lv_has ls 1 [(0, .ref (κq 2))] := hl
  refine va_gets (v := .int 1) hx hb hE.1.2.2.2.2.1 hS hown (hts _ mw_107) (fun _ h9 => h9) dJ0_isLatin1_aae02_0 ?_
  refine lv_if_eq (tgt := 17) hx hb dJ0_isLatin1_aae02_3 (by decide) (fun c_1 => absurd c_1 (by decide)) (fun c_1 => ?_)
  refine lv_aload_n hx hb dJ0_isLatin1_aae02_6 rfl (lv_at hl 0 rfl) ?_
  refine vk_getf (o := "java/lang/String") (n := "coder") (d := "B") (v := .int 0) hx hb (hE.1.2.2.2.2.2.1.1 0 (by decide)).2.1 hS hown (hts _ mw_108) (fun _ h9 => h9) dJ0_isLatin1_aae02_7 ?_
  refine lv_if_ne (tgt := 17) hx hb dJ0_isLatin1_aae02_10 (by decide) (fun c_2 => absurd c_2 (by decide)) (fun c_2 => ?_)
  refine lv_iconst (v := 1) hx hb dJ0_isLatin1_aae02_13 (by decide) ?_
  refine lv_goto (tgt := 18) hx hb dJ0_isLatin1_aae02_14 (by decide) ?_
  exact cr_iret hx hb hr hlk rfl () rfl trivial dJ0_isLatin1_aae02_18
set_option maxHeartbeats 4000000 in
set_option maxRecDepth 100000 in
theorem c_J0_length_0 (l : Launch) (D : va_G) (κ : Nat → ClassId) (κq : Nat → Nat) : Er l yJ0_length_8abf5 (wl yJ0_length_8abf5 cJ0_length_8abf5 1 (some .int)) { frames := 1, cells := 0, slots := 0, locals := 20 } D κ κq [.ref (κq 2)] [] (fun _ : Unit => some (.int 3)) (fun _ : Unit => True) := by
  refine er_of (by decide +kernel) (Nat.le_of_ble_eq_true rfl) ?_
  intro p e s m args below meth c A ls hx hb hr hml hts hown hlk hKK hK hP hE hl
  have hS : va_S A s.heap s.heap [] := va_S.rf
  have hP : va_P D vwCl ([] ++ []) s.heap := hP
  have hFX : FX p s m args c cJ0_length_8abf5 1 RJ0 := ⟨hx, hb, hml, hown, hts⟩
  have hl : lv_has ls 1 [(0, .ref (κq 2))] := hl
  refine lv_aload_n hx hb dJ0_length_8abf5_0 rfl (lv_at hl 0 rfl) ?_
  refine vk_getf (o := "java/lang/String") (n := "value") (d := "[B") (v := .ref (κq 6)) hx hb (hE.1.2.2.2.2.2.1.1 0 (by decide)).2.2.1 hS hown (hts _ mw_102) (fun _ h9 => h9) dJ0_length_8abf5_1 ?_
  refine va_tlen (v := 3) hx hb (hE.1.2.2.2.2.2.1.1 0 (by decide)).2.2.2 hS (by decide) dJ0_length_8abf5_4 ?_
  refine lv_aload_n hx hb dJ0_length_8abf5_5 rfl (lv_at hl 0 rfl) ?_
  refine er_K (As := []) (rest := [.int 3]) hFX hKK hE hS (c_J0_coder_0 l D κ κq) 0 gV_J0_335 hdV_J0_coder_7d493 rfl rfl ⟨Nat.le_of_ble_eq_true rfl, Nat.le_of_ble_eq_true rfl⟩ rfl rfl (Nat.le_of_ble_eq_true rfl) dJ0_length_8abf5_6 ⟨Nat.le_of_ble_eq_true rfl, Nat.le_of_ble_eq_true rfl⟩ hl.1 (vk_recv hE.1.2.2.2.2.2.1 (i := 0) (by decide) hS) (subP0 hP [] rfl) (fun _ hp_1 => ?_)
  refine W.eq (g2 := F0 m 9 ls [.int 0, .int 3]) rfl ?_
  refine lv_ishr hx hb dJ0_length_8abf5_9 ?_
  refine ki (v := 3) (by decide) ?_
  exact cr_iret hx hb hr hlk rfl () rfl trivial dJ0_length_8abf5_10
set_option maxHeartbeats 4000000 in
set_option maxRecDepth 100000 in
theorem c_J0_coder_1 (l : Launch) (D : va_G) (κ : Nat → ClassId) (κq : Nat → Nat) : Er l yJ0_coder_7d493 (wl yJ0_coder_7d493 cJ0_coder_7d493 1 (some .byte)) { frames := 0, cells := 0, slots := 0, locals := 0 } D κ κq [.ref (κq 3)] [] (fun _ : Unit => some (.int 0)) (fun _ : Unit => True) := by
  refine er_of (by decide +kernel) (Nat.le_of_ble_eq_true rfl) ?_
  intro p e s m args below meth c A ls hx hb hr hml hts hown hlk hKK hK hP hE hl
  have hS : va_S A s.heap s.heap [] := va_S.rf
  have hP : va_P D vwCl ([] ++ []) s.heap := hP
  have hFX : FX p s m args c cJ0_coder_7d493 1 RJ0 := ⟨hx, hb, hml, hown, hts⟩
  have hl : lv_has ls 1 [(0, .ref (κq 3))] := hl
  refine va_gets (v := .int 1) hx hb hE.1.2.2.2.2.1 hS hown (hts _ mw_107) (fun _ h9 => h9) dJ0_coder_7d493_0 ?_
  refine lv_if_eq (tgt := 13) hx hb dJ0_coder_7d493_3 (by decide) (fun c_1 => absurd c_1 (by decide)) (fun c_1 => ?_)
  refine lv_aload_n hx hb dJ0_coder_7d493_6 rfl (lv_at hl 0 rfl) ?_
  refine vk_getf (o := "java/lang/String") (n := "coder") (d := "B") (v := .int 0) hx hb (hE.1.2.2.2.2.2.1.1 1 (by decide)).2.1 hS hown (hts _ mw_108) (fun _ h9 => h9) dJ0_coder_7d493_7 ?_
  refine lv_goto (tgt := 14) hx hb dJ0_coder_7d493_10 (by decide) ?_
  exact cr_iret hx hb hr hlk rfl () rfl trivial dJ0_coder_7d493_14
set_option maxHeartbeats 4000000 in
set_option maxRecDepth 100000 in
theorem c_J0_isLatin1_1 (l : Launch) (D : va_G) (κ : Nat → ClassId) (κq : Nat → Nat) : Er l yJ0_isLatin1_aae02 (wl yJ0_isLatin1_aae02 cJ0_isLatin1_aae02 1 (some .boolean)) { frames := 0, cells := 0, slots := 0, locals := 0 } D κ κq [.ref (κq 3)] [] (fun _ : Unit => some (.int 1)) (fun _ : Unit => True) := by
  refine er_of (by decide +kernel) (Nat.le_of_ble_eq_true rfl) ?_
  intro p e s m args below meth c A ls hx hb hr hml hts hown hlk hKK hK hP hE hl
  have hS : va_S A s.heap s.heap [] := va_S.rf
  have hP : va_P D vwCl ([] ++ []) s.heap := hP
  have hFX : FX p s m args c cJ0_isLatin1_aae02 1 RJ0 := ⟨hx, hb, hml, hown, hts⟩
  have hl : lv_has ls 1 [(0, .ref (κq 3))] := hl
  refine va_gets (v := .int 1) hx hb hE.1.2.2.2.2.1 hS hown (hts _ mw_107) (fun _ h9 => h9) dJ0_isLatin1_aae02_0 ?_
  refine lv_if_eq (tgt := 17) hx hb dJ0_isLatin1_aae02_3 (by decide) (fun c_1 => absurd c_1 (by decide)) (fun c_1 => ?_)
  refine lv_aload_n hx hb dJ0_isLatin1_aae02_6 rfl (lv_at hl 0 rfl) ?_
  refine vk_getf (o := "java/lang/String") (n := "coder") (d := "B") (v := .int 0) hx hb (hE.1.2.2.2.2.2.1.1 1 (by decide)).2.1 hS hown (hts _ mw_108) (fun _ h9 => h9) dJ0_isLatin1_aae02_7 ?_
  refine lv_if_ne (tgt := 17) hx hb dJ0_isLatin1_aae02_10 (by decide) (fun c_2 => absurd c_2 (by decide)) (fun c_2 => ?_)
  refine lv_iconst (v := 1) hx hb dJ0_isLatin1_aae02_13 (by decide) ?_
  refine lv_goto (tgt := 18) hx hb dJ0_isLatin1_aae02_14 (by decide) ?_
  exact cr_iret hx hb hr hlk rfl () rfl trivial dJ0_isLatin1_aae02_18
set_option maxHeartbeats 4000000 in
set_option maxRecDepth 100000 in
theorem c_J0_length_1 (l : Launch) (D : va_G) (κ : Nat → ClassId) (κq : Nat → Nat) : Er l yJ0_length_8abf5 (wl yJ0_length_8abf5 cJ0_length_8abf5 1 (some .int)) { frames := 1, cells := 0, slots := 0, locals := 20 } D κ κq [.ref (κq 3)] [] (fun _ : Unit => some (.int 2)) (fun _ : Unit => True) := by
  refine er_of (by decide +kernel) (Nat.le_of_ble_eq_true rfl) ?_
  intro p e s m args below meth c A ls hx hb hr hml hts hown hlk hKK hK hP hE hl
  have hS : va_S A s.heap s.heap [] := va_S.rf
  have hP : va_P D vwCl ([] ++ []) s.heap := hP
  have hFX : FX p s m args c cJ0_length_8abf5 1 RJ0 := ⟨hx, hb, hml, hown, hts⟩
  have hl : lv_has ls 1 [(0, .ref (κq 3))] := hl
  refine lv_aload_n hx hb dJ0_length_8abf5_0 rfl (lv_at hl 0 rfl) ?_
  refine vk_getf (o := "java/lang/String") (n := "value") (d := "[B") (v := .ref (κq 7)) hx hb (hE.1.2.2.2.2.2.1.1 1 (by decide)).2.2.1 hS hown (hts _ mw_102) (fun _ h9 => h9) dJ0_length_8abf5_1 ?_
  refine va_tlen (v := 2) hx hb (hE.1.2.2.2.2.2.1.1 1 (by decide)).2.2.2 hS (by decide) dJ0_length_8abf5_4 ?_
  refine lv_aload_n hx hb dJ0_length_8abf5_5 rfl (lv_at hl 0 rfl) ?_
  refine er_K (As := []) (rest := [.int 2]) hFX hKK hE hS (c_J0_coder_1 l D κ κq) 0 gV_J0_335 hdV_J0_coder_7d493 rfl rfl ⟨Nat.le_of_ble_eq_true rfl, Nat.le_of_ble_eq_true rfl⟩ rfl rfl (Nat.le_of_ble_eq_true rfl) dJ0_length_8abf5_6 ⟨Nat.le_of_ble_eq_true rfl, Nat.le_of_ble_eq_true rfl⟩ hl.1 (vk_recv hE.1.2.2.2.2.2.1 (i := 1) (by decide) hS) (subP0 hP [] rfl) (fun _ hp_1 => ?_)
  refine W.eq (g2 := F0 m 9 ls [.int 0, .int 2]) rfl ?_
  refine lv_ishr hx hb dJ0_length_8abf5_9 ?_
  refine ki (v := 2) (by decide) ?_
  exact cr_iret hx hb hr hlk rfl () rfl trivial dJ0_length_8abf5_10
set_option maxHeartbeats 4000000 in
set_option maxRecDepth 100000 in
theorem c_J0_coder_2 (l : Launch) (D : va_G) (κ : Nat → ClassId) (κq : Nat → Nat) : Er l yJ0_coder_7d493 (wl yJ0_coder_7d493 cJ0_coder_7d493 1 (some .byte)) { frames := 0, cells := 0, slots := 0, locals := 0 } D κ κq [.ref (κq 4)] [] (fun _ : Unit => some (.int 0)) (fun _ : Unit => True) := by
  refine er_of (by decide +kernel) (Nat.le_of_ble_eq_true rfl) ?_
  intro p e s m args below meth c A ls hx hb hr hml hts hown hlk hKK hK hP hE hl
  have hS : va_S A s.heap s.heap [] := va_S.rf
  have hP : va_P D vwCl ([] ++ []) s.heap := hP
  have hFX : FX p s m args c cJ0_coder_7d493 1 RJ0 := ⟨hx, hb, hml, hown, hts⟩
  have hl : lv_has ls 1 [(0, .ref (κq 4))] := hl
  refine va_gets (v := .int 1) hx hb hE.1.2.2.2.2.1 hS hown (hts _ mw_107) (fun _ h9 => h9) dJ0_coder_7d493_0 ?_
  refine lv_if_eq (tgt := 13) hx hb dJ0_coder_7d493_3 (by decide) (fun c_1 => absurd c_1 (by decide)) (fun c_1 => ?_)
  refine lv_aload_n hx hb dJ0_coder_7d493_6 rfl (lv_at hl 0 rfl) ?_
  refine vk_getf (o := "java/lang/String") (n := "coder") (d := "B") (v := .int 0) hx hb (hE.1.2.2.2.2.2.1.1 2 (by decide)).2.1 hS hown (hts _ mw_108) (fun _ h9 => h9) dJ0_coder_7d493_7 ?_
  refine lv_goto (tgt := 14) hx hb dJ0_coder_7d493_10 (by decide) ?_
  exact cr_iret hx hb hr hlk rfl () rfl trivial dJ0_coder_7d493_14
set_option maxHeartbeats 4000000 in
set_option maxRecDepth 100000 in
theorem c_J0_isLatin1_2 (l : Launch) (D : va_G) (κ : Nat → ClassId) (κq : Nat → Nat) : Er l yJ0_isLatin1_aae02 (wl yJ0_isLatin1_aae02 cJ0_isLatin1_aae02 1 (some .boolean)) { frames := 0, cells := 0, slots := 0, locals := 0 } D κ κq [.ref (κq 4)] [] (fun _ : Unit => some (.int 1)) (fun _ : Unit => True) := by
  refine er_of (by decide +kernel) (Nat.le_of_ble_eq_true rfl) ?_
  intro p e s m args below meth c A ls hx hb hr hml hts hown hlk hKK hK hP hE hl
  have hS : va_S A s.heap s.heap [] := va_S.rf
  have hP : va_P D vwCl ([] ++ []) s.heap := hP
  have hFX : FX p s m args c cJ0_isLatin1_aae02 1 RJ0 := ⟨hx, hb, hml, hown, hts⟩
  have hl : lv_has ls 1 [(0, .ref (κq 4))] := hl
  refine va_gets (v := .int 1) hx hb hE.1.2.2.2.2.1 hS hown (hts _ mw_107) (fun _ h9 => h9) dJ0_isLatin1_aae02_0 ?_
  refine lv_if_eq (tgt := 17) hx hb dJ0_isLatin1_aae02_3 (by decide) (fun c_1 => absurd c_1 (by decide)) (fun c_1 => ?_)
  refine lv_aload_n hx hb dJ0_isLatin1_aae02_6 rfl (lv_at hl 0 rfl) ?_
  refine vk_getf (o := "java/lang/String") (n := "coder") (d := "B") (v := .int 0) hx hb (hE.1.2.2.2.2.2.1.1 2 (by decide)).2.1 hS hown (hts _ mw_108) (fun _ h9 => h9) dJ0_isLatin1_aae02_7 ?_
  refine lv_if_ne (tgt := 17) hx hb dJ0_isLatin1_aae02_10 (by decide) (fun c_2 => absurd c_2 (by decide)) (fun c_2 => ?_)
  refine lv_iconst (v := 1) hx hb dJ0_isLatin1_aae02_13 (by decide) ?_
  refine lv_goto (tgt := 18) hx hb dJ0_isLatin1_aae02_14 (by decide) ?_
  exact cr_iret hx hb hr hlk rfl () rfl trivial dJ0_isLatin1_aae02_18
set_option maxHeartbeats 4000000 in
set_option maxRecDepth 100000 in
theorem c_J0_length_2 (l : Launch) (D : va_G) (κ : Nat → ClassId) (κq : Nat → Nat) : Er l yJ0_length_8abf5 (wl yJ0_length_8abf5 cJ0_length_8abf5 1 (some .int)) { frames := 1, cells := 0, slots := 0, locals := 20 } D κ κq [.ref (κq 4)] [] (fun _ : Unit => some (.int 4)) (fun _ : Unit => True) := by
  refine er_of (by decide +kernel) (Nat.le_of_ble_eq_true rfl) ?_
  intro p e s m args below meth c A ls hx hb hr hml hts hown hlk hKK hK hP hE hl
  have hS : va_S A s.heap s.heap [] := va_S.rf
  have hP : va_P D vwCl ([] ++ []) s.heap := hP
  have hFX : FX p s m args c cJ0_length_8abf5 1 RJ0 := ⟨hx, hb, hml, hown, hts⟩
  have hl : lv_has ls 1 [(0, .ref (κq 4))] := hl
  refine lv_aload_n hx hb dJ0_length_8abf5_0 rfl (lv_at hl 0 rfl) ?_
  refine vk_getf (o := "java/lang/String") (n := "value") (d := "[B") (v := .ref (κq 8)) hx hb (hE.1.2.2.2.2.2.1.1 2 (by decide)).2.2.1 hS hown (hts _ mw_102) (fun _ h9 => h9) dJ0_length_8abf5_1 ?_
  refine va_tlen (v := 4) hx hb (hE.1.2.2.2.2.2.1.1 2 (by decide)).2.2.2 hS (by decide) dJ0_length_8abf5_4 ?_
  refine lv_aload_n hx hb dJ0_length_8abf5_5 rfl (lv_at hl 0 rfl) ?_
  refine er_K (As := []) (rest := [.int 4]) hFX hKK hE hS (c_J0_coder_2 l D κ κq) 0 gV_J0_335 hdV_J0_coder_7d493 rfl rfl ⟨Nat.le_of_ble_eq_true rfl, Nat.le_of_ble_eq_true rfl⟩ rfl rfl (Nat.le_of_ble_eq_true rfl) dJ0_length_8abf5_6 ⟨Nat.le_of_ble_eq_true rfl, Nat.le_of_ble_eq_true rfl⟩ hl.1 (vk_recv hE.1.2.2.2.2.2.1 (i := 2) (by decide) hS) (subP0 hP [] rfl) (fun _ hp_1 => ?_)
  refine W.eq (g2 := F0 m 9 ls [.int 0, .int 4]) rfl ?_
  refine lv_ishr hx hb dJ0_length_8abf5_9 ?_
  refine ki (v := 4) (by decide) ?_
  exact cr_iret hx hb hr hlk rfl () rfl trivial dJ0_length_8abf5_10
set_option maxHeartbeats 4000000 in
set_option maxRecDepth 100000 in
theorem c_J0_coder_3 (l : Launch) (D : va_G) (κ : Nat → ClassId) (κq : Nat → Nat) : Er l yJ0_coder_7d493 (wl yJ0_coder_7d493 cJ0_coder_7d493 1 (some .byte)) { frames := 0, cells := 0, slots := 0, locals := 0 } D κ κq [.ref (κq 5)] [] (fun _ : Unit => some (.int 0)) (fun _ : Unit => True) := by
  refine er_of (by decide +kernel) (Nat.le_of_ble_eq_true rfl) ?_
  intro p e s m args below meth c A ls hx hb hr hml hts hown hlk hKK hK hP hE hl
  have hS : va_S A s.heap s.heap [] := va_S.rf
  have hP : va_P D vwCl ([] ++ []) s.heap := hP
  have hFX : FX p s m args c cJ0_coder_7d493 1 RJ0 := ⟨hx, hb, hml, hown, hts⟩
  have hl : lv_has ls 1 [(0, .ref (κq 5))] := hl
  refine va_gets (v := .int 1) hx hb hE.1.2.2.2.2.1 hS hown (hts _ mw_107) (fun _ h9 => h9) dJ0_coder_7d493_0 ?_
  refine lv_if_eq (tgt := 13) hx hb dJ0_coder_7d493_3 (by decide) (fun c_1 => absurd c_1 (by decide)) (fun c_1 => ?_)
  refine lv_aload_n hx hb dJ0_coder_7d493_6 rfl (lv_at hl 0 rfl) ?_
  refine vk_getf (o := "java/lang/String") (n := "coder") (d := "B") (v := .int 0) hx hb (hE.1.2.2.2.2.2.1.1 3 (by decide)).2.1 hS hown (hts _ mw_108) (fun _ h9 => h9) dJ0_coder_7d493_7 ?_
  refine lv_goto (tgt := 14) hx hb dJ0_coder_7d493_10 (by decide) ?_
  exact cr_iret hx hb hr hlk rfl () rfl trivial dJ0_coder_7d493_14
set_option maxHeartbeats 4000000 in
set_option maxRecDepth 100000 in
theorem c_J0_isLatin1_3 (l : Launch) (D : va_G) (κ : Nat → ClassId) (κq : Nat → Nat) : Er l yJ0_isLatin1_aae02 (wl yJ0_isLatin1_aae02 cJ0_isLatin1_aae02 1 (some .boolean)) { frames := 0, cells := 0, slots := 0, locals := 0 } D κ κq [.ref (κq 5)] [] (fun _ : Unit => some (.int 1)) (fun _ : Unit => True) := by
  refine er_of (by decide +kernel) (Nat.le_of_ble_eq_true rfl) ?_
  intro p e s m args below meth c A ls hx hb hr hml hts hown hlk hKK hK hP hE hl
  have hS : va_S A s.heap s.heap [] := va_S.rf
  have hP : va_P D vwCl ([] ++ []) s.heap := hP
  have hFX : FX p s m args c cJ0_isLatin1_aae02 1 RJ0 := ⟨hx, hb, hml, hown, hts⟩
  have hl : lv_has ls 1 [(0, .ref (κq 5))] := hl
  refine va_gets (v := .int 1) hx hb hE.1.2.2.2.2.1 hS hown (hts _ mw_107) (fun _ h9 => h9) dJ0_isLatin1_aae02_0 ?_
  refine lv_if_eq (tgt := 17) hx hb dJ0_isLatin1_aae02_3 (by decide) (fun c_1 => absurd c_1 (by decide)) (fun c_1 => ?_)
  refine lv_aload_n hx hb dJ0_isLatin1_aae02_6 rfl (lv_at hl 0 rfl) ?_
  refine vk_getf (o := "java/lang/String") (n := "coder") (d := "B") (v := .int 0) hx hb (hE.1.2.2.2.2.2.1.1 3 (by decide)).2.1 hS hown (hts _ mw_108) (fun _ h9 => h9) dJ0_isLatin1_aae02_7 ?_
  refine lv_if_ne (tgt := 17) hx hb dJ0_isLatin1_aae02_10 (by decide) (fun c_2 => absurd c_2 (by decide)) (fun c_2 => ?_)
  refine lv_iconst (v := 1) hx hb dJ0_isLatin1_aae02_13 (by decide) ?_
  refine lv_goto (tgt := 18) hx hb dJ0_isLatin1_aae02_14 (by decide) ?_
  exact cr_iret hx hb hr hlk rfl () rfl trivial dJ0_isLatin1_aae02_18
set_option maxHeartbeats 4000000 in
set_option maxRecDepth 100000 in
theorem c_J0_length_3 (l : Launch) (D : va_G) (κ : Nat → ClassId) (κq : Nat → Nat) : Er l yJ0_length_8abf5 (wl yJ0_length_8abf5 cJ0_length_8abf5 1 (some .int)) { frames := 1, cells := 0, slots := 0, locals := 20 } D κ κq [.ref (κq 5)] [] (fun _ : Unit => some (.int 5)) (fun _ : Unit => True) := by
  refine er_of (by decide +kernel) (Nat.le_of_ble_eq_true rfl) ?_
  intro p e s m args below meth c A ls hx hb hr hml hts hown hlk hKK hK hP hE hl
  have hS : va_S A s.heap s.heap [] := va_S.rf
  have hP : va_P D vwCl ([] ++ []) s.heap := hP
  have hFX : FX p s m args c cJ0_length_8abf5 1 RJ0 := ⟨hx, hb, hml, hown, hts⟩
  have hl : lv_has ls 1 [(0, .ref (κq 5))] := hl
  refine lv_aload_n hx hb dJ0_length_8abf5_0 rfl (lv_at hl 0 rfl) ?_
  refine vk_getf (o := "java/lang/String") (n := "value") (d := "[B") (v := .ref (κq 9)) hx hb (hE.1.2.2.2.2.2.1.1 3 (by decide)).2.2.1 hS hown (hts _ mw_102) (fun _ h9 => h9) dJ0_length_8abf5_1 ?_
  refine va_tlen (v := 5) hx hb (hE.1.2.2.2.2.2.1.1 3 (by decide)).2.2.2 hS (by decide) dJ0_length_8abf5_4 ?_
  refine lv_aload_n hx hb dJ0_length_8abf5_5 rfl (lv_at hl 0 rfl) ?_
  refine er_K (As := []) (rest := [.int 5]) hFX hKK hE hS (c_J0_coder_3 l D κ κq) 0 gV_J0_335 hdV_J0_coder_7d493 rfl rfl ⟨Nat.le_of_ble_eq_true rfl, Nat.le_of_ble_eq_true rfl⟩ rfl rfl (Nat.le_of_ble_eq_true rfl) dJ0_length_8abf5_6 ⟨Nat.le_of_ble_eq_true rfl, Nat.le_of_ble_eq_true rfl⟩ hl.1 (vk_recv hE.1.2.2.2.2.2.1 (i := 3) (by decide) hS) (subP0 hP [] rfl) (fun _ hp_1 => ?_)
  refine W.eq (g2 := F0 m 9 ls [.int 0, .int 5]) rfl ?_
  refine lv_ishr hx hb dJ0_length_8abf5_9 ?_
  refine ki (v := 5) (by decide) ?_
  exact cr_iret hx hb hr hlk rfl () rfl trivial dJ0_length_8abf5_10
set_option maxHeartbeats 4000000 in
set_option maxRecDepth 100000 in
theorem c_J3_checkIndex_n (l : Launch) (D : va_G) (κ : Nat → ClassId) (κq : Nat → Nat) (i : Nat) (n : Nat) (h1 : i < n) (h2 : n ≤ 20) : Er l yJ3_checkIndex_8e157 (wl yJ3_checkIndex_8e157 cJ3_checkIndex_8e157 3 (some .int)) { frames := 0, cells := 0, slots := 0, locals := 0 } D κ κq [.int (nI i), .int (nI n), .null] [] (fun _ : Unit => some (.int (nI i))) (fun _ : Unit => True) := by
  refine er_of (by decide +kernel) (Nat.le_of_ble_eq_true rfl) ?_
  intro p e s m args below meth c A ls hx hb hr hml hts hown hlk hKK hK hP hE hl
  have hS : va_S A s.heap s.heap [] := va_S.rf
  have hP : va_P D vwCl ([] ++ []) s.heap := hP
  have hFX : FX p s m args c cJ3_checkIndex_8e157 3 RJ3 := ⟨hx, hb, hml, hown, hts⟩
  have hl : lv_has ls 3 [(0, .int (nI i)), (1, .int (nI n)), (2, .null)] := hl
  refine lv_iload_n hx hb dJ3_checkIndex_8e157_0 rfl (lv_at hl 0 rfl) ?_
  refine lv_if_lt (tgt := 9) hx hb dJ3_checkIndex_8e157_1 (by decide) (fun c_1 => ?_) (fun c_1 => ?_)
  · have nc_1 := cv_lt (a := i) (b := 0) (by omega) (by omega) c_1
    omega
  · have nc_1 := cv_nlt (a := i) (b := 0) (by omega) (by omega) c_1
    refine lv_iload_n hx hb dJ3_checkIndex_8e157_4 rfl (lv_at hl 0 rfl) ?_
    refine lv_iload_n hx hb dJ3_checkIndex_8e157_5 rfl (lv_at hl 1 rfl) ?_
    refine lv_icmp_lt (tgt := 16) hx hb dJ3_checkIndex_8e157_6 (by decide) (fun c_2 => ?_) (fun c_2 => ?_)
    · have nc_2 := cv_lt (a := i) (b := n) (by omega) (by omega) c_2
      refine lv_iload_n hx hb dJ3_checkIndex_8e157_16 rfl (lv_at hl 0 rfl) ?_
      exact cr_iret hx hb hr hlk rfl () rfl trivial dJ3_checkIndex_8e157_17
    · have nc_2 := cv_nlt (a := i) (b := n) (by omega) (by omega) c_2
      omega
set_option maxHeartbeats 4000000 in
set_option maxRecDepth 100000 in
theorem c_J3_checkIndex_r (l : Launch) (D : va_G) (κ : Nat → ClassId) (κq : Nat → Nat) (i : Nat) (n : Nat) (z : Nat) (h1 : i < n) (h2 : n ≤ 20) : Er l yJ3_checkIndex_8e157 (wl yJ3_checkIndex_8e157 cJ3_checkIndex_8e157 3 (some .int)) { frames := 0, cells := 0, slots := 0, locals := 0 } D κ κq [.int (nI i), .int (nI n), .ref z] [] (fun _ : Unit => some (.int (nI i))) (fun _ : Unit => True) := by
  refine er_of (by decide +kernel) (Nat.le_of_ble_eq_true rfl) ?_
  intro p e s m args below meth c A ls hx hb hr hml hts hown hlk hKK hK hP hE hl
  have hS : va_S A s.heap s.heap [] := va_S.rf
  have hP : va_P D vwCl ([] ++ []) s.heap := hP
  have hFX : FX p s m args c cJ3_checkIndex_8e157 3 RJ3 := ⟨hx, hb, hml, hown, hts⟩
  have hl : lv_has ls 3 [(0, .int (nI i)), (1, .int (nI n)), (2, .ref z)] := hl
  refine lv_iload_n hx hb dJ3_checkIndex_8e157_0 rfl (lv_at hl 0 rfl) ?_
  refine lv_if_lt (tgt := 9) hx hb dJ3_checkIndex_8e157_1 (by decide) (fun c_1 => ?_) (fun c_1 => ?_)
  · have nc_1 := cv_lt (a := i) (b := 0) (by omega) (by omega) c_1
    omega
  · have nc_1 := cv_nlt (a := i) (b := 0) (by omega) (by omega) c_1
    refine lv_iload_n hx hb dJ3_checkIndex_8e157_4 rfl (lv_at hl 0 rfl) ?_
    refine lv_iload_n hx hb dJ3_checkIndex_8e157_5 rfl (lv_at hl 1 rfl) ?_
    refine lv_icmp_lt (tgt := 16) hx hb dJ3_checkIndex_8e157_6 (by decide) (fun c_2 => ?_) (fun c_2 => ?_)
    · have nc_2 := cv_lt (a := i) (b := n) (by omega) (by omega) c_2
      refine lv_iload_n hx hb dJ3_checkIndex_8e157_16 rfl (lv_at hl 0 rfl) ?_
      exact cr_iret hx hb hr hlk rfl () rfl trivial dJ3_checkIndex_8e157_17
    · have nc_2 := cv_nlt (a := i) (b := n) (by omega) (by omega) c_2
      omega
set_option maxHeartbeats 4000000 in
set_option maxRecDepth 100000 in
theorem c_J0_checkIndex_df160 (l : Launch) (D : va_G) (κ : Nat → ClassId) (κq : Nat → Nat) (i : Nat) (n : Nat) (h1 : i < n) (h2 : n ≤ 20) : Er l yJ0_checkIndex_df160 (wl yJ0_checkIndex_df160 cJ0_checkIndex_df160 2 none) { frames := 1, cells := 0, slots := 0, locals := 22 } D κ κq [.int (nI i), .int (nI n)] [] (fun _ : Unit => none) (fun _ : Unit => True) := by
  refine er_of (by decide +kernel) (Nat.le_of_ble_eq_true rfl) ?_
  intro p e s m args below meth c A ls hx hb hr hml hts hown hlk hKK hK hP hE hl
  have hS : va_S A s.heap s.heap [] := va_S.rf
  have hP : va_P D vwCl ([] ++ []) s.heap := hP
  have hFX : FX p s m args c cJ0_checkIndex_df160 2 RJ0 := ⟨hx, hb, hml, hown, hts⟩
  have hl : lv_has ls 2 [(0, .int (nI i)), (1, .int (nI n))] := hl
  refine lv_iload_n hx hb dJ0_checkIndex_df160_0 rfl (lv_at hl 0 rfl) ?_
  refine lv_iload_n hx hb dJ0_checkIndex_df160_1 rfl (lv_at hl 1 rfl) ?_
  rcases hE.1.2.2.2.2.2.2 with hz_1 | ⟨z_1, hz_1⟩
  · refine va_gets (v := .null) hx hb hz_1 hS hown (hts _ mw_124) (fun _ h9 => h9) dJ0_checkIndex_df160_2 ?_
    refine er_S (As := [.int (nI i), .int (nI n), .null]) (rest := []) hFX hKK hE hS (c_J3_checkIndex_n l D κ κq i n (by omega) (by omega)) 3 gS_J0_1059 hdS_J3_checkIndex_8e157 rfl rfl ⟨Nat.le_of_ble_eq_true rfl, Nat.le_of_ble_eq_true rfl⟩ rfl rfl (Nat.le_of_ble_eq_true rfl) dJ0_checkIndex_df160_5 ⟨Nat.le_of_ble_eq_true rfl, Nat.le_of_ble_eq_true rfl⟩ hl.1 (subP0 hP [] rfl) (fun _ hp_2 => ?_)
    refine W.eq (g2 := F0 m 8 ls [.int (nI i)]) rfl ?_
    refine lv_pop hx hb dJ0_checkIndex_df160_8 rfl ?_
    exact cr_vret hx hb hr hlk () rfl trivial dJ0_checkIndex_df160_9
  · refine va_gets (v := .ref z_1) hx hb hz_1 hS hown (hts _ mw_124) (fun _ h9 => h9) dJ0_checkIndex_df160_2 ?_
    refine er_S (As := [.int (nI i), .int (nI n), .ref z_1]) (rest := []) hFX hKK hE hS (c_J3_checkIndex_r l D κ κq i n z_1 (by omega) (by omega)) 3 gS_J0_1059 hdS_J3_checkIndex_8e157 rfl rfl ⟨Nat.le_of_ble_eq_true rfl, Nat.le_of_ble_eq_true rfl⟩ rfl rfl (Nat.le_of_ble_eq_true rfl) dJ0_checkIndex_df160_5 ⟨Nat.le_of_ble_eq_true rfl, Nat.le_of_ble_eq_true rfl⟩ hl.1 (subP0 hP [] rfl) (fun _ hp_3 => ?_)
    refine W.eq (g2 := F0 m 8 ls [.int (nI i)]) rfl ?_
    refine lv_pop hx hb dJ0_checkIndex_df160_8 rfl ?_
    exact cr_vret hx hb hr hlk () rfl trivial dJ0_checkIndex_df160_9
set_option maxHeartbeats 4000000 in
set_option maxRecDepth 100000 in
theorem c_J1_charAt_0 (l : Launch) (D : va_G) (κ : Nat → ClassId) (κq : Nat → Nat) (i : Nat) (h1 : i < 3) : Er l yJ1_charAt_3b067 (wl yJ1_charAt_3b067 cJ1_charAt_3b067 2 (some .char)) { frames := 2, cells := 0, slots := 0, locals := 43 } D κ κq [.ref (κq 6), .int (nI i)] [] (fun r : Int32 => some (.int r)) (fun r : Int32 => narrow .char (.int r) = .int r) := by
  refine er_of (by decide +kernel) (Nat.le_of_ble_eq_true rfl) ?_
  intro p e s m args below meth c A ls hx hb hr hml hts hown hlk hKK hK hP hE hl
  have hS : va_S A s.heap s.heap [] := va_S.rf
  have hP : va_P D vwCl ([] ++ []) s.heap := hP
  have hFX : FX p s m args c cJ1_charAt_3b067 2 RJ1 := ⟨hx, hb, hml, hown, hts⟩
  have hl : lv_has ls 2 [(0, .ref (κq 6)), (1, .int (nI i))] := hl
  refine lv_iload_n hx hb dJ1_charAt_3b067_0 rfl (lv_at hl 1 rfl) ?_
  refine lv_aload_n hx hb dJ1_charAt_3b067_1 rfl (lv_at hl 0 rfl) ?_
  refine va_tlen (v := 3) hx hb (hE.1.2.2.2.2.2.1.1 0 (by decide)).2.2.2 hS (by decide) dJ1_charAt_3b067_2 ?_
  refine er_S (As := [.int (nI i), .int 3]) (rest := []) hFX hKK hE hS (c_J0_checkIndex_df160 l D κ κq i 3 (by omega) (by omega)) 2 gS_J1_9 hdS_J0_checkIndex_df160 rfl rfl ⟨Nat.le_of_ble_eq_true rfl, Nat.le_of_ble_eq_true rfl⟩ rfl rfl (Nat.le_of_ble_eq_true rfl) dJ1_charAt_3b067_3 ⟨Nat.le_of_ble_eq_true rfl, Nat.le_of_ble_eq_true rfl⟩ hl.1 (subP0 hP [] rfl) (fun _ hp_1 => ?_)
  refine W.eq (g2 := F0 m 6 ls []) rfl ?_
  refine lv_aload_n hx hb dJ1_charAt_3b067_6 rfl (lv_at hl 0 rfl) ?_
  refine lv_iload_n hx hb dJ1_charAt_3b067_7 rfl (lv_at hl 1 rfl) ?_
  obtain ⟨x_2, ex_2⟩ : ∃ y9 : Int32, (tB.getD 0 []).getD ((nI i).toNatClampNeg) 0 = y9 := ⟨_, rfl⟩
  refine va_tb (i := nI i) (v := .int x_2) hx hb (hE.1.2.2.2.2.2.1.1 0 (by decide)).2.2.2 hS (vp_in_nI (n := i) (N := 3) (by omega) (by omega)) (congrArg Value.int ex_2) dJ1_charAt_3b067_8 ?_
  refine lv_sipush (v := 255) hx hb dJ1_charAt_3b067_9 (by decide) ?_
  refine lv_iand hx hb dJ1_charAt_3b067_12 ?_
  refine lv_topi (fun x_3 ex_3 => ?_)
  obtain ⟨x_4, ex_4⟩ : ∃ y9 : Int32, (x_3.toUInt32 % 65536).toInt32 = y9 := ⟨_, rfl⟩
  refine lv_i2c hx hb dJ1_charAt_3b067_13 ex_4 ?_
  have h9n := ex_4
  exact cr_iret hx hb hr hlk (by rw [← h9n]; exact pk_nc _) x_4 rfl (show narrow .char (.int x_4) = .int x_4 from (by rw [← h9n]; exact pk_nc _)) dJ1_charAt_3b067_14
set_option maxHeartbeats 4000000 in
set_option maxRecDepth 100000 in
theorem c_J0_charAt_0 (l : Launch) (D : va_G) (κ : Nat → ClassId) (κq : Nat → Nat) (i : Nat) (h1 : i < 3) : Er l yJ0_charAt_5068e (wl yJ0_charAt_5068e cJ0_charAt_5068e 2 (some .char)) { frames := 3, cells := 0, slots := 0, locals := 64 } D κ κq [.ref (κq 2), .int (nI i)] [] (fun r : Int32 => some (.int r)) (fun r : Int32 => narrow .char (.int r) = .int r) := by
  refine er_of (by decide +kernel) (Nat.le_of_ble_eq_true rfl) ?_
  intro p e s m args below meth c A ls hx hb hr hml hts hown hlk hKK hK hP hE hl
  have hS : va_S A s.heap s.heap [] := va_S.rf
  have hP : va_P D vwCl ([] ++ []) s.heap := hP
  have hFX : FX p s m args c cJ0_charAt_5068e 2 RJ0 := ⟨hx, hb, hml, hown, hts⟩
  have hl : lv_has ls 2 [(0, .ref (κq 2)), (1, .int (nI i))] := hl
  refine lv_aload_n hx hb dJ0_charAt_5068e_0 rfl (lv_at hl 0 rfl) ?_
  refine er_K (As := []) (rest := []) hFX hKK hE hS (c_J0_isLatin1_0 l D κ κq) 0 gV_J0_492 hdV_J0_isLatin1_aae02 rfl rfl ⟨Nat.le_of_ble_eq_true rfl, Nat.le_of_ble_eq_true rfl⟩ rfl rfl (Nat.le_of_ble_eq_true rfl) dJ0_charAt_5068e_1 ⟨Nat.le_of_ble_eq_true rfl, Nat.le_of_ble_eq_true rfl⟩ hl.1 (vk_recv hE.1.2.2.2.2.2.1 (i := 0) (by decide) hS) (subP0 hP [] rfl) (fun _ hp_1 => ?_)
  refine W.eq (g2 := F0 m 4 ls [.int 1]) rfl ?_
  refine lv_if_eq (tgt := 16) hx hb dJ0_charAt_5068e_4 (by decide) (fun c_2 => absurd c_2 (by decide)) (fun c_2 => ?_)
  refine lv_aload_n hx hb dJ0_charAt_5068e_7 rfl (lv_at hl 0 rfl) ?_
  refine vk_getf (o := "java/lang/String") (n := "value") (d := "[B") (v := .ref (κq 6)) hx hb (hE.1.2.2.2.2.2.1.1 0 (by decide)).2.2.1 hS hown (hts _ mw_102) (fun _ h9 => h9) dJ0_charAt_5068e_8 ?_
  refine lv_iload_n hx hb dJ0_charAt_5068e_11 rfl (lv_at hl 1 rfl) ?_
  refine er_S (As := [.ref (κq 6), .int (nI i)]) (rest := []) hFX hKK hE hS (c_J1_charAt_0 l D κ κq i (by omega)) 2 gS_J0_495 hdS_J1_charAt_3b067 rfl rfl ⟨Nat.le_of_ble_eq_true rfl, Nat.le_of_ble_eq_true rfl⟩ rfl rfl (Nat.le_of_ble_eq_true rfl) dJ0_charAt_5068e_12 ⟨Nat.le_of_ble_eq_true rfl, Nat.le_of_ble_eq_true rfl⟩ hl.1 (subP0 hP [] rfl) (fun r__3 hp_4 => ?_)
  replace hp_4 : narrow .char (.int r__3) = .int r__3 := hp_4
  have h_5 := hp_4
  clear hp_4
  refine W.eq (g2 := F0 m 15 ls [.int r__3]) rfl ?_
  exact cr_iret hx hb hr hlk (by assumption) r__3 rfl (show narrow .char (.int r__3) = .int r__3 from (by first | assumption | omega | rfl | exact Or.inl (by assumption) | exact Or.inr (by assumption))) dJ0_charAt_5068e_15
set_option maxHeartbeats 4000000 in
set_option maxRecDepth 100000 in
theorem c_X0_isWord_0 (l : Launch) (D : va_G) (κ : Nat → ClassId) (κq : Nat → Nat) (b : Nat) (n : Nat) (f : Nat → Int32) (h1 : n ≤ 20) : Er l yX0_isWord (wl yX0_isWord cX0_isWord 3 (some .boolean)) { frames := 4, cells := 0, slots := 0, locals := 85 } D κ κq [.ref b, .ref (κq 2)] [(b, .inl (κ 1, n, .inl f))] (fun r : Int32 => some (.int r)) (fun r : Int32 => ((r = 1 ∧ 1 ≤ n) ∨ (r = 0))) := by
  refine er_of (by decide +kernel) (Nat.le_of_ble_eq_true rfl) ?_
  intro p e s m args below meth c A ls hx hb hr hml hts hown hlk hKK hK hP hE hl
  have hS : va_S A s.heap s.heap [] := va_S.rf
  have hP : va_P D vwCl ([(b, .inl (κ 1, n, .inl f))] ++ []) s.heap := hP
  have hFX : FX p s m args c cX0_isWord 3 RX0 := ⟨hx, hb, hml, hown, hts⟩
  have hl : lv_has ls 3 [(0, .ref b), (1, .ref (κq 2))] := hl
  refine lv_aload_n hx hb dX0_isWord_0 rfl (lv_at hl 0 rfl) ?_
  refine va_alen hx hb hK hP 0 1 rfl rfl (v := nI n) rfl dX0_isWord_1 ?_
  refine lv_aload_n hx hb dX0_isWord_2 rfl (lv_at hl 1 rfl) ?_
  refine er_K (As := []) (rest := [.int (nI n)]) hFX hKK hE hS (c_J0_length_0 l D κ κq) 0 gV_X0_91 hdV_J0_length_8abf5 rfl rfl ⟨Nat.le_of_ble_eq_true rfl, Nat.le_of_ble_eq_true rfl⟩ rfl rfl (Nat.le_of_ble_eq_true rfl) dX0_isWord_3 ⟨Nat.le_of_ble_eq_true rfl, Nat.le_of_ble_eq_true rfl⟩ hl.1 (vk_recv hE.1.2.2.2.2.2.1 (i := 0) (by decide) hS) (subP0 hP [] rfl) (fun _ hp_1 => ?_)
  refine W.eq (g2 := F0 m 6 ls [.int 3, .int (nI n)]) rfl ?_
  refine lv_icmp_eq (tgt := 11) hx hb dX0_isWord_6 (by decide) (fun c_2 => ?_) (fun c_2 => ?_)
  · have nc_2 := cv_eq (a := n) (b := 3) (by omega) (by omega) c_2
    refine lv_iconst (v := 0) hx hb dX0_isWord_11 (by decide) ?_
    refine lv_istore_n (lv' := [(2, .int 0), (0, .ref b), (1, .ref (κq 2))]) hx hb dX0_isWord_12 rfl hl (by decide) rfl (fun ls hl => ?_)
    refine loop_r (fun k9 ls => ∃ (k2_13 : Nat), (k2_13 ≤ n) ∧ n - k2_13 = k9 ∧ lv_has ls 3 [(2, .int (nI k2_13)), (0, .ref b), (1, .ref (κq 2))]) (fun k9 ls hI13 ih13 => ?_) (n - 0) _ ⟨0, (by omega), rfl, lv_sub hl [0, 1, 2] rfl⟩
    obtain ⟨k2_13, hl13_0, hm13, hl⟩ := hI13
    refine lv_iload_n hx hb dX0_isWord_13 rfl (lv_at hl 0 rfl) ?_
    refine lv_aload_n hx hb dX0_isWord_14 rfl (lv_at hl 1 rfl) ?_
    refine va_alen hx hb hK hP 0 1 rfl rfl (v := nI n) rfl dX0_isWord_15 ?_
    refine lv_icmp_ge (tgt := 38) hx hb dX0_isWord_16 (by decide) (fun c_3 => ?_) (fun c_3 => ?_)
    · have nc_3 := cv_le (a := n) (b := k2_13) (by omega) (by omega) c_3
      refine lv_iconst (v := 1) hx hb dX0_isWord_38 (by decide) ?_
      exact cr_iret hx hb hr hlk rfl 1 rfl (by exact Or.inl (⟨rfl, (show 1 ≤ n from (by first | assumption | omega | rfl | exact Or.inl (by assumption) | exact Or.inr (by assumption)))⟩)) dX0_isWord_39
    · have nc_3 := cv_nle (a := n) (b := k2_13) (by omega) (by omega) c_3
      refine lv_aload_n hx hb dX0_isWord_19 rfl (lv_at hl 1 rfl) ?_
      refine lv_iload_n hx hb dX0_isWord_20 rfl (lv_at hl 0 rfl) ?_
      refine va_bald hx hb hK hP 0 1 rfl rfl (i := nI k2_13) (vp_in_nI (n := k2_13) (by omega) (by omega)) dX0_isWord_21 ?_
      refine kv (v := .int (f k2_13)) (by rw [nI_clamp (by omega)]) ?_
      obtain ⟨x_4, ex_4⟩ : ∃ y9 : Int32, f k2_13 = y9 := ⟨_, rfl⟩
      refine kv (v := .int x_4) (congrArg Value.int ex_4) ?_
      refine lv_aload_n hx hb dX0_isWord_22 rfl (lv_at hl 2 rfl) ?_
      refine lv_iload_n hx hb dX0_isWord_23 rfl (lv_at hl 0 rfl) ?_
      refine er_K (As := [.int (nI k2_13)]) (rest := [.int x_4]) hFX hKK hE hS (c_J0_charAt_0 l D κ κq k2_13 (by omega)) 1 gV_X0_97 hdV_J0_charAt_5068e rfl rfl ⟨Nat.le_of_ble_eq_true rfl, Nat.le_of_ble_eq_true rfl⟩ rfl rfl (Nat.le_of_ble_eq_true rfl) dX0_isWord_24 ⟨Nat.le_of_ble_eq_true rfl, Nat.le_of_ble_eq_true rfl⟩ hl.1 (vk_recv hE.1.2.2.2.2.2.1 (i := 0) (by decide) hS) (subP0 hP [] rfl) (fun r__5 hp_6 => ?_)
      replace hp_6 : narrow .char (.int r__5) = .int r__5 := hp_6
      have h_7 := hp_6
      clear hp_6
      refine W.eq (g2 := F0 m 27 ls [.int r__5, .int x_4]) rfl ?_
      refine lv_icmp_eq (tgt := 32) hx hb dX0_isWord_27 (by decide) (fun c_8 => ?_) (fun c_8 => ?_)
      · refine lv_iinc (v := (nI (k2_13 + 1))) (lv' := [(2, .int (nI (k2_13 + 1))), (0, .ref b), (1, .ref (κq 2))]) hx hb dX0_isWord_32 hl (k := 0) rfl (nI_i k2_13) (by decide) rfl (fun ls hl => ?_)
        refine lv_goto (tgt := 13) hx hb dX0_isWord_35 (by decide) ?_
        exact ih13 _ _ (by omega) ⟨(k2_13 + 1), (by omega), rfl, lv_sub hl [0, 1, 2] rfl⟩
      · refine lv_iconst (v := 0) hx hb dX0_isWord_30 (by decide) ?_
        exact cr_iret hx hb hr hlk rfl 0 rfl (by exact Or.inr ((rfl))) dX0_isWord_31
  · have nc_2 := cv_ne (a := n) (b := 3) (by omega) (by omega) c_2
    refine lv_iconst (v := 0) hx hb dX0_isWord_9 (by decide) ?_
    exact cr_iret hx hb hr hlk rfl 0 rfl (by exact Or.inr ((rfl))) dX0_isWord_10
set_option maxHeartbeats 4000000 in
set_option maxRecDepth 100000 in
theorem c_J1_charAt_1 (l : Launch) (D : va_G) (κ : Nat → ClassId) (κq : Nat → Nat) (i : Nat) (h1 : i < 2) : Er l yJ1_charAt_3b067 (wl yJ1_charAt_3b067 cJ1_charAt_3b067 2 (some .char)) { frames := 2, cells := 0, slots := 0, locals := 43 } D κ κq [.ref (κq 7), .int (nI i)] [] (fun r : Int32 => some (.int r)) (fun r : Int32 => narrow .char (.int r) = .int r) := by
  refine er_of (by decide +kernel) (Nat.le_of_ble_eq_true rfl) ?_
  intro p e s m args below meth c A ls hx hb hr hml hts hown hlk hKK hK hP hE hl
  have hS : va_S A s.heap s.heap [] := va_S.rf
  have hP : va_P D vwCl ([] ++ []) s.heap := hP
  have hFX : FX p s m args c cJ1_charAt_3b067 2 RJ1 := ⟨hx, hb, hml, hown, hts⟩
  have hl : lv_has ls 2 [(0, .ref (κq 7)), (1, .int (nI i))] := hl
  refine lv_iload_n hx hb dJ1_charAt_3b067_0 rfl (lv_at hl 1 rfl) ?_
  refine lv_aload_n hx hb dJ1_charAt_3b067_1 rfl (lv_at hl 0 rfl) ?_
  refine va_tlen (v := 2) hx hb (hE.1.2.2.2.2.2.1.1 1 (by decide)).2.2.2 hS (by decide) dJ1_charAt_3b067_2 ?_
  refine er_S (As := [.int (nI i), .int 2]) (rest := []) hFX hKK hE hS (c_J0_checkIndex_df160 l D κ κq i 2 (by omega) (by omega)) 2 gS_J1_9 hdS_J0_checkIndex_df160 rfl rfl ⟨Nat.le_of_ble_eq_true rfl, Nat.le_of_ble_eq_true rfl⟩ rfl rfl (Nat.le_of_ble_eq_true rfl) dJ1_charAt_3b067_3 ⟨Nat.le_of_ble_eq_true rfl, Nat.le_of_ble_eq_true rfl⟩ hl.1 (subP0 hP [] rfl) (fun _ hp_1 => ?_)
  refine W.eq (g2 := F0 m 6 ls []) rfl ?_
  refine lv_aload_n hx hb dJ1_charAt_3b067_6 rfl (lv_at hl 0 rfl) ?_
  refine lv_iload_n hx hb dJ1_charAt_3b067_7 rfl (lv_at hl 1 rfl) ?_
  obtain ⟨x_2, ex_2⟩ : ∃ y9 : Int32, (tB.getD 1 []).getD ((nI i).toNatClampNeg) 0 = y9 := ⟨_, rfl⟩
  refine va_tb (i := nI i) (v := .int x_2) hx hb (hE.1.2.2.2.2.2.1.1 1 (by decide)).2.2.2 hS (vp_in_nI (n := i) (N := 2) (by omega) (by omega)) (congrArg Value.int ex_2) dJ1_charAt_3b067_8 ?_
  refine lv_sipush (v := 255) hx hb dJ1_charAt_3b067_9 (by decide) ?_
  refine lv_iand hx hb dJ1_charAt_3b067_12 ?_
  refine lv_topi (fun x_3 ex_3 => ?_)
  obtain ⟨x_4, ex_4⟩ : ∃ y9 : Int32, (x_3.toUInt32 % 65536).toInt32 = y9 := ⟨_, rfl⟩
  refine lv_i2c hx hb dJ1_charAt_3b067_13 ex_4 ?_
  have h9n := ex_4
  exact cr_iret hx hb hr hlk (by rw [← h9n]; exact pk_nc _) x_4 rfl (show narrow .char (.int x_4) = .int x_4 from (by rw [← h9n]; exact pk_nc _)) dJ1_charAt_3b067_14
set_option maxHeartbeats 4000000 in
set_option maxRecDepth 100000 in
theorem c_J0_charAt_1 (l : Launch) (D : va_G) (κ : Nat → ClassId) (κq : Nat → Nat) (i : Nat) (h1 : i < 2) : Er l yJ0_charAt_5068e (wl yJ0_charAt_5068e cJ0_charAt_5068e 2 (some .char)) { frames := 3, cells := 0, slots := 0, locals := 64 } D κ κq [.ref (κq 3), .int (nI i)] [] (fun r : Int32 => some (.int r)) (fun r : Int32 => narrow .char (.int r) = .int r) := by
  refine er_of (by decide +kernel) (Nat.le_of_ble_eq_true rfl) ?_
  intro p e s m args below meth c A ls hx hb hr hml hts hown hlk hKK hK hP hE hl
  have hS : va_S A s.heap s.heap [] := va_S.rf
  have hP : va_P D vwCl ([] ++ []) s.heap := hP
  have hFX : FX p s m args c cJ0_charAt_5068e 2 RJ0 := ⟨hx, hb, hml, hown, hts⟩
  have hl : lv_has ls 2 [(0, .ref (κq 3)), (1, .int (nI i))] := hl
  refine lv_aload_n hx hb dJ0_charAt_5068e_0 rfl (lv_at hl 0 rfl) ?_
  refine er_K (As := []) (rest := []) hFX hKK hE hS (c_J0_isLatin1_1 l D κ κq) 0 gV_J0_492 hdV_J0_isLatin1_aae02 rfl rfl ⟨Nat.le_of_ble_eq_true rfl, Nat.le_of_ble_eq_true rfl⟩ rfl rfl (Nat.le_of_ble_eq_true rfl) dJ0_charAt_5068e_1 ⟨Nat.le_of_ble_eq_true rfl, Nat.le_of_ble_eq_true rfl⟩ hl.1 (vk_recv hE.1.2.2.2.2.2.1 (i := 1) (by decide) hS) (subP0 hP [] rfl) (fun _ hp_1 => ?_)
  refine W.eq (g2 := F0 m 4 ls [.int 1]) rfl ?_
  refine lv_if_eq (tgt := 16) hx hb dJ0_charAt_5068e_4 (by decide) (fun c_2 => absurd c_2 (by decide)) (fun c_2 => ?_)
  refine lv_aload_n hx hb dJ0_charAt_5068e_7 rfl (lv_at hl 0 rfl) ?_
  refine vk_getf (o := "java/lang/String") (n := "value") (d := "[B") (v := .ref (κq 7)) hx hb (hE.1.2.2.2.2.2.1.1 1 (by decide)).2.2.1 hS hown (hts _ mw_102) (fun _ h9 => h9) dJ0_charAt_5068e_8 ?_
  refine lv_iload_n hx hb dJ0_charAt_5068e_11 rfl (lv_at hl 1 rfl) ?_
  refine er_S (As := [.ref (κq 7), .int (nI i)]) (rest := []) hFX hKK hE hS (c_J1_charAt_1 l D κ κq i (by omega)) 2 gS_J0_495 hdS_J1_charAt_3b067 rfl rfl ⟨Nat.le_of_ble_eq_true rfl, Nat.le_of_ble_eq_true rfl⟩ rfl rfl (Nat.le_of_ble_eq_true rfl) dJ0_charAt_5068e_12 ⟨Nat.le_of_ble_eq_true rfl, Nat.le_of_ble_eq_true rfl⟩ hl.1 (subP0 hP [] rfl) (fun r__3 hp_4 => ?_)
  replace hp_4 : narrow .char (.int r__3) = .int r__3 := hp_4
  have h_5 := hp_4
  clear hp_4
  refine W.eq (g2 := F0 m 15 ls [.int r__3]) rfl ?_
  exact cr_iret hx hb hr hlk (by assumption) r__3 rfl (show narrow .char (.int r__3) = .int r__3 from (by first | assumption | omega | rfl | exact Or.inl (by assumption) | exact Or.inr (by assumption))) dJ0_charAt_5068e_15
set_option maxHeartbeats 4000000 in
set_option maxRecDepth 100000 in
theorem c_X0_isWord_1 (l : Launch) (D : va_G) (κ : Nat → ClassId) (κq : Nat → Nat) (b : Nat) (n : Nat) (f : Nat → Int32) (h1 : n ≤ 20) : Er l yX0_isWord (wl yX0_isWord cX0_isWord 3 (some .boolean)) { frames := 4, cells := 0, slots := 0, locals := 85 } D κ κq [.ref b, .ref (κq 3)] [(b, .inl (κ 1, n, .inl f))] (fun r : Int32 => some (.int r)) (fun r : Int32 => ((r = 1 ∧ 1 ≤ n) ∨ (r = 0))) := by
  refine er_of (by decide +kernel) (Nat.le_of_ble_eq_true rfl) ?_
  intro p e s m args below meth c A ls hx hb hr hml hts hown hlk hKK hK hP hE hl
  have hS : va_S A s.heap s.heap [] := va_S.rf
  have hP : va_P D vwCl ([(b, .inl (κ 1, n, .inl f))] ++ []) s.heap := hP
  have hFX : FX p s m args c cX0_isWord 3 RX0 := ⟨hx, hb, hml, hown, hts⟩
  have hl : lv_has ls 3 [(0, .ref b), (1, .ref (κq 3))] := hl
  refine lv_aload_n hx hb dX0_isWord_0 rfl (lv_at hl 0 rfl) ?_
  refine va_alen hx hb hK hP 0 1 rfl rfl (v := nI n) rfl dX0_isWord_1 ?_
  refine lv_aload_n hx hb dX0_isWord_2 rfl (lv_at hl 1 rfl) ?_
  refine er_K (As := []) (rest := [.int (nI n)]) hFX hKK hE hS (c_J0_length_1 l D κ κq) 0 gV_X0_91 hdV_J0_length_8abf5 rfl rfl ⟨Nat.le_of_ble_eq_true rfl, Nat.le_of_ble_eq_true rfl⟩ rfl rfl (Nat.le_of_ble_eq_true rfl) dX0_isWord_3 ⟨Nat.le_of_ble_eq_true rfl, Nat.le_of_ble_eq_true rfl⟩ hl.1 (vk_recv hE.1.2.2.2.2.2.1 (i := 1) (by decide) hS) (subP0 hP [] rfl) (fun _ hp_1 => ?_)
  refine W.eq (g2 := F0 m 6 ls [.int 2, .int (nI n)]) rfl ?_
  refine lv_icmp_eq (tgt := 11) hx hb dX0_isWord_6 (by decide) (fun c_2 => ?_) (fun c_2 => ?_)
  · have nc_2 := cv_eq (a := n) (b := 2) (by omega) (by omega) c_2
    refine lv_iconst (v := 0) hx hb dX0_isWord_11 (by decide) ?_
    refine lv_istore_n (lv' := [(2, .int 0), (0, .ref b), (1, .ref (κq 3))]) hx hb dX0_isWord_12 rfl hl (by decide) rfl (fun ls hl => ?_)
    refine loop_r (fun k9 ls => ∃ (k2_13 : Nat), (k2_13 ≤ n) ∧ n - k2_13 = k9 ∧ lv_has ls 3 [(2, .int (nI k2_13)), (0, .ref b), (1, .ref (κq 3))]) (fun k9 ls hI13 ih13 => ?_) (n - 0) _ ⟨0, (by omega), rfl, lv_sub hl [0, 1, 2] rfl⟩
    obtain ⟨k2_13, hl13_0, hm13, hl⟩ := hI13
    refine lv_iload_n hx hb dX0_isWord_13 rfl (lv_at hl 0 rfl) ?_
    refine lv_aload_n hx hb dX0_isWord_14 rfl (lv_at hl 1 rfl) ?_
    refine va_alen hx hb hK hP 0 1 rfl rfl (v := nI n) rfl dX0_isWord_15 ?_
    refine lv_icmp_ge (tgt := 38) hx hb dX0_isWord_16 (by decide) (fun c_3 => ?_) (fun c_3 => ?_)
    · have nc_3 := cv_le (a := n) (b := k2_13) (by omega) (by omega) c_3
      refine lv_iconst (v := 1) hx hb dX0_isWord_38 (by decide) ?_
      exact cr_iret hx hb hr hlk rfl 1 rfl (by exact Or.inl (⟨rfl, (show 1 ≤ n from (by first | assumption | omega | rfl | exact Or.inl (by assumption) | exact Or.inr (by assumption)))⟩)) dX0_isWord_39
    · have nc_3 := cv_nle (a := n) (b := k2_13) (by omega) (by omega) c_3
      refine lv_aload_n hx hb dX0_isWord_19 rfl (lv_at hl 1 rfl) ?_
      refine lv_iload_n hx hb dX0_isWord_20 rfl (lv_at hl 0 rfl) ?_
      refine va_bald hx hb hK hP 0 1 rfl rfl (i := nI k2_13) (vp_in_nI (n := k2_13) (by omega) (by omega)) dX0_isWord_21 ?_
      refine kv (v := .int (f k2_13)) (by rw [nI_clamp (by omega)]) ?_
      obtain ⟨x_4, ex_4⟩ : ∃ y9 : Int32, f k2_13 = y9 := ⟨_, rfl⟩
      refine kv (v := .int x_4) (congrArg Value.int ex_4) ?_
      refine lv_aload_n hx hb dX0_isWord_22 rfl (lv_at hl 2 rfl) ?_
      refine lv_iload_n hx hb dX0_isWord_23 rfl (lv_at hl 0 rfl) ?_
      refine er_K (As := [.int (nI k2_13)]) (rest := [.int x_4]) hFX hKK hE hS (c_J0_charAt_1 l D κ κq k2_13 (by omega)) 1 gV_X0_97 hdV_J0_charAt_5068e rfl rfl ⟨Nat.le_of_ble_eq_true rfl, Nat.le_of_ble_eq_true rfl⟩ rfl rfl (Nat.le_of_ble_eq_true rfl) dX0_isWord_24 ⟨Nat.le_of_ble_eq_true rfl, Nat.le_of_ble_eq_true rfl⟩ hl.1 (vk_recv hE.1.2.2.2.2.2.1 (i := 1) (by decide) hS) (subP0 hP [] rfl) (fun r__5 hp_6 => ?_)
      replace hp_6 : narrow .char (.int r__5) = .int r__5 := hp_6
      have h_7 := hp_6
      clear hp_6
      refine W.eq (g2 := F0 m 27 ls [.int r__5, .int x_4]) rfl ?_
      refine lv_icmp_eq (tgt := 32) hx hb dX0_isWord_27 (by decide) (fun c_8 => ?_) (fun c_8 => ?_)
      · refine lv_iinc (v := (nI (k2_13 + 1))) (lv' := [(2, .int (nI (k2_13 + 1))), (0, .ref b), (1, .ref (κq 3))]) hx hb dX0_isWord_32 hl (k := 0) rfl (nI_i k2_13) (by decide) rfl (fun ls hl => ?_)
        refine lv_goto (tgt := 13) hx hb dX0_isWord_35 (by decide) ?_
        exact ih13 _ _ (by omega) ⟨(k2_13 + 1), (by omega), rfl, lv_sub hl [0, 1, 2] rfl⟩
      · refine lv_iconst (v := 0) hx hb dX0_isWord_30 (by decide) ?_
        exact cr_iret hx hb hr hlk rfl 0 rfl (by exact Or.inr ((rfl))) dX0_isWord_31
  · have nc_2 := cv_ne (a := n) (b := 2) (by omega) (by omega) c_2
    refine lv_iconst (v := 0) hx hb dX0_isWord_9 (by decide) ?_
    exact cr_iret hx hb hr hlk rfl 0 rfl (by exact Or.inr ((rfl))) dX0_isWord_10
set_option maxHeartbeats 4000000 in
set_option maxRecDepth 100000 in
theorem c_J1_charAt_2 (l : Launch) (D : va_G) (κ : Nat → ClassId) (κq : Nat → Nat) (i : Nat) (h1 : i < 4) : Er l yJ1_charAt_3b067 (wl yJ1_charAt_3b067 cJ1_charAt_3b067 2 (some .char)) { frames := 2, cells := 0, slots := 0, locals := 43 } D κ κq [.ref (κq 8), .int (nI i)] [] (fun r : Int32 => some (.int r)) (fun r : Int32 => narrow .char (.int r) = .int r) := by
  refine er_of (by decide +kernel) (Nat.le_of_ble_eq_true rfl) ?_
  intro p e s m args below meth c A ls hx hb hr hml hts hown hlk hKK hK hP hE hl
  have hS : va_S A s.heap s.heap [] := va_S.rf
  have hP : va_P D vwCl ([] ++ []) s.heap := hP
  have hFX : FX p s m args c cJ1_charAt_3b067 2 RJ1 := ⟨hx, hb, hml, hown, hts⟩
  have hl : lv_has ls 2 [(0, .ref (κq 8)), (1, .int (nI i))] := hl
  refine lv_iload_n hx hb dJ1_charAt_3b067_0 rfl (lv_at hl 1 rfl) ?_
  refine lv_aload_n hx hb dJ1_charAt_3b067_1 rfl (lv_at hl 0 rfl) ?_
  refine va_tlen (v := 4) hx hb (hE.1.2.2.2.2.2.1.1 2 (by decide)).2.2.2 hS (by decide) dJ1_charAt_3b067_2 ?_
  refine er_S (As := [.int (nI i), .int 4]) (rest := []) hFX hKK hE hS (c_J0_checkIndex_df160 l D κ κq i 4 (by omega) (by omega)) 2 gS_J1_9 hdS_J0_checkIndex_df160 rfl rfl ⟨Nat.le_of_ble_eq_true rfl, Nat.le_of_ble_eq_true rfl⟩ rfl rfl (Nat.le_of_ble_eq_true rfl) dJ1_charAt_3b067_3 ⟨Nat.le_of_ble_eq_true rfl, Nat.le_of_ble_eq_true rfl⟩ hl.1 (subP0 hP [] rfl) (fun _ hp_1 => ?_)
  refine W.eq (g2 := F0 m 6 ls []) rfl ?_
  refine lv_aload_n hx hb dJ1_charAt_3b067_6 rfl (lv_at hl 0 rfl) ?_
  refine lv_iload_n hx hb dJ1_charAt_3b067_7 rfl (lv_at hl 1 rfl) ?_
  obtain ⟨x_2, ex_2⟩ : ∃ y9 : Int32, (tB.getD 2 []).getD ((nI i).toNatClampNeg) 0 = y9 := ⟨_, rfl⟩
  refine va_tb (i := nI i) (v := .int x_2) hx hb (hE.1.2.2.2.2.2.1.1 2 (by decide)).2.2.2 hS (vp_in_nI (n := i) (N := 4) (by omega) (by omega)) (congrArg Value.int ex_2) dJ1_charAt_3b067_8 ?_
  refine lv_sipush (v := 255) hx hb dJ1_charAt_3b067_9 (by decide) ?_
  refine lv_iand hx hb dJ1_charAt_3b067_12 ?_
  refine lv_topi (fun x_3 ex_3 => ?_)
  obtain ⟨x_4, ex_4⟩ : ∃ y9 : Int32, (x_3.toUInt32 % 65536).toInt32 = y9 := ⟨_, rfl⟩
  refine lv_i2c hx hb dJ1_charAt_3b067_13 ex_4 ?_
  have h9n := ex_4
  exact cr_iret hx hb hr hlk (by rw [← h9n]; exact pk_nc _) x_4 rfl (show narrow .char (.int x_4) = .int x_4 from (by rw [← h9n]; exact pk_nc _)) dJ1_charAt_3b067_14
set_option maxHeartbeats 4000000 in
set_option maxRecDepth 100000 in
theorem c_J0_charAt_2 (l : Launch) (D : va_G) (κ : Nat → ClassId) (κq : Nat → Nat) (i : Nat) (h1 : i < 4) : Er l yJ0_charAt_5068e (wl yJ0_charAt_5068e cJ0_charAt_5068e 2 (some .char)) { frames := 3, cells := 0, slots := 0, locals := 64 } D κ κq [.ref (κq 4), .int (nI i)] [] (fun r : Int32 => some (.int r)) (fun r : Int32 => narrow .char (.int r) = .int r) := by
  refine er_of (by decide +kernel) (Nat.le_of_ble_eq_true rfl) ?_
  intro p e s m args below meth c A ls hx hb hr hml hts hown hlk hKK hK hP hE hl
  have hS : va_S A s.heap s.heap [] := va_S.rf
  have hP : va_P D vwCl ([] ++ []) s.heap := hP
  have hFX : FX p s m args c cJ0_charAt_5068e 2 RJ0 := ⟨hx, hb, hml, hown, hts⟩
  have hl : lv_has ls 2 [(0, .ref (κq 4)), (1, .int (nI i))] := hl
  refine lv_aload_n hx hb dJ0_charAt_5068e_0 rfl (lv_at hl 0 rfl) ?_
  refine er_K (As := []) (rest := []) hFX hKK hE hS (c_J0_isLatin1_2 l D κ κq) 0 gV_J0_492 hdV_J0_isLatin1_aae02 rfl rfl ⟨Nat.le_of_ble_eq_true rfl, Nat.le_of_ble_eq_true rfl⟩ rfl rfl (Nat.le_of_ble_eq_true rfl) dJ0_charAt_5068e_1 ⟨Nat.le_of_ble_eq_true rfl, Nat.le_of_ble_eq_true rfl⟩ hl.1 (vk_recv hE.1.2.2.2.2.2.1 (i := 2) (by decide) hS) (subP0 hP [] rfl) (fun _ hp_1 => ?_)
  refine W.eq (g2 := F0 m 4 ls [.int 1]) rfl ?_
  refine lv_if_eq (tgt := 16) hx hb dJ0_charAt_5068e_4 (by decide) (fun c_2 => absurd c_2 (by decide)) (fun c_2 => ?_)
  refine lv_aload_n hx hb dJ0_charAt_5068e_7 rfl (lv_at hl 0 rfl) ?_
  refine vk_getf (o := "java/lang/String") (n := "value") (d := "[B") (v := .ref (κq 8)) hx hb (hE.1.2.2.2.2.2.1.1 2 (by decide)).2.2.1 hS hown (hts _ mw_102) (fun _ h9 => h9) dJ0_charAt_5068e_8 ?_
  refine lv_iload_n hx hb dJ0_charAt_5068e_11 rfl (lv_at hl 1 rfl) ?_
  refine er_S (As := [.ref (κq 8), .int (nI i)]) (rest := []) hFX hKK hE hS (c_J1_charAt_2 l D κ κq i (by omega)) 2 gS_J0_495 hdS_J1_charAt_3b067 rfl rfl ⟨Nat.le_of_ble_eq_true rfl, Nat.le_of_ble_eq_true rfl⟩ rfl rfl (Nat.le_of_ble_eq_true rfl) dJ0_charAt_5068e_12 ⟨Nat.le_of_ble_eq_true rfl, Nat.le_of_ble_eq_true rfl⟩ hl.1 (subP0 hP [] rfl) (fun r__3 hp_4 => ?_)
  replace hp_4 : narrow .char (.int r__3) = .int r__3 := hp_4
  have h_5 := hp_4
  clear hp_4
  refine W.eq (g2 := F0 m 15 ls [.int r__3]) rfl ?_
  exact cr_iret hx hb hr hlk (by assumption) r__3 rfl (show narrow .char (.int r__3) = .int r__3 from (by first | assumption | omega | rfl | exact Or.inl (by assumption) | exact Or.inr (by assumption))) dJ0_charAt_5068e_15
set_option maxHeartbeats 4000000 in
set_option maxRecDepth 100000 in
theorem c_X0_isWord_2 (l : Launch) (D : va_G) (κ : Nat → ClassId) (κq : Nat → Nat) (b : Nat) (n : Nat) (f : Nat → Int32) (h1 : n ≤ 20) : Er l yX0_isWord (wl yX0_isWord cX0_isWord 3 (some .boolean)) { frames := 4, cells := 0, slots := 0, locals := 85 } D κ κq [.ref b, .ref (κq 4)] [(b, .inl (κ 1, n, .inl f))] (fun r : Int32 => some (.int r)) (fun r : Int32 => ((r = 1 ∧ 1 ≤ n) ∨ (r = 0))) := by
  refine er_of (by decide +kernel) (Nat.le_of_ble_eq_true rfl) ?_
  intro p e s m args below meth c A ls hx hb hr hml hts hown hlk hKK hK hP hE hl
  have hS : va_S A s.heap s.heap [] := va_S.rf
  have hP : va_P D vwCl ([(b, .inl (κ 1, n, .inl f))] ++ []) s.heap := hP
  have hFX : FX p s m args c cX0_isWord 3 RX0 := ⟨hx, hb, hml, hown, hts⟩
  have hl : lv_has ls 3 [(0, .ref b), (1, .ref (κq 4))] := hl
  refine lv_aload_n hx hb dX0_isWord_0 rfl (lv_at hl 0 rfl) ?_
  refine va_alen hx hb hK hP 0 1 rfl rfl (v := nI n) rfl dX0_isWord_1 ?_
  refine lv_aload_n hx hb dX0_isWord_2 rfl (lv_at hl 1 rfl) ?_
  refine er_K (As := []) (rest := [.int (nI n)]) hFX hKK hE hS (c_J0_length_2 l D κ κq) 0 gV_X0_91 hdV_J0_length_8abf5 rfl rfl ⟨Nat.le_of_ble_eq_true rfl, Nat.le_of_ble_eq_true rfl⟩ rfl rfl (Nat.le_of_ble_eq_true rfl) dX0_isWord_3 ⟨Nat.le_of_ble_eq_true rfl, Nat.le_of_ble_eq_true rfl⟩ hl.1 (vk_recv hE.1.2.2.2.2.2.1 (i := 2) (by decide) hS) (subP0 hP [] rfl) (fun _ hp_1 => ?_)
  refine W.eq (g2 := F0 m 6 ls [.int 4, .int (nI n)]) rfl ?_
  refine lv_icmp_eq (tgt := 11) hx hb dX0_isWord_6 (by decide) (fun c_2 => ?_) (fun c_2 => ?_)
  · have nc_2 := cv_eq (a := n) (b := 4) (by omega) (by omega) c_2
    refine lv_iconst (v := 0) hx hb dX0_isWord_11 (by decide) ?_
    refine lv_istore_n (lv' := [(2, .int 0), (0, .ref b), (1, .ref (κq 4))]) hx hb dX0_isWord_12 rfl hl (by decide) rfl (fun ls hl => ?_)
    refine loop_r (fun k9 ls => ∃ (k2_13 : Nat), (k2_13 ≤ n) ∧ n - k2_13 = k9 ∧ lv_has ls 3 [(2, .int (nI k2_13)), (0, .ref b), (1, .ref (κq 4))]) (fun k9 ls hI13 ih13 => ?_) (n - 0) _ ⟨0, (by omega), rfl, lv_sub hl [0, 1, 2] rfl⟩
    obtain ⟨k2_13, hl13_0, hm13, hl⟩ := hI13
    refine lv_iload_n hx hb dX0_isWord_13 rfl (lv_at hl 0 rfl) ?_
    refine lv_aload_n hx hb dX0_isWord_14 rfl (lv_at hl 1 rfl) ?_
    refine va_alen hx hb hK hP 0 1 rfl rfl (v := nI n) rfl dX0_isWord_15 ?_
    refine lv_icmp_ge (tgt := 38) hx hb dX0_isWord_16 (by decide) (fun c_3 => ?_) (fun c_3 => ?_)
    · have nc_3 := cv_le (a := n) (b := k2_13) (by omega) (by omega) c_3
      refine lv_iconst (v := 1) hx hb dX0_isWord_38 (by decide) ?_
      exact cr_iret hx hb hr hlk rfl 1 rfl (by exact Or.inl (⟨rfl, (show 1 ≤ n from (by first | assumption | omega | rfl | exact Or.inl (by assumption) | exact Or.inr (by assumption)))⟩)) dX0_isWord_39
    · have nc_3 := cv_nle (a := n) (b := k2_13) (by omega) (by omega) c_3
      refine lv_aload_n hx hb dX0_isWord_19 rfl (lv_at hl 1 rfl) ?_
      refine lv_iload_n hx hb dX0_isWord_20 rfl (lv_at hl 0 rfl) ?_
      refine va_bald hx hb hK hP 0 1 rfl rfl (i := nI k2_13) (vp_in_nI (n := k2_13) (by omega) (by omega)) dX0_isWord_21 ?_
      refine kv (v := .int (f k2_13)) (by rw [nI_clamp (by omega)]) ?_
      obtain ⟨x_4, ex_4⟩ : ∃ y9 : Int32, f k2_13 = y9 := ⟨_, rfl⟩
      refine kv (v := .int x_4) (congrArg Value.int ex_4) ?_
      refine lv_aload_n hx hb dX0_isWord_22 rfl (lv_at hl 2 rfl) ?_
      refine lv_iload_n hx hb dX0_isWord_23 rfl (lv_at hl 0 rfl) ?_
      refine er_K (As := [.int (nI k2_13)]) (rest := [.int x_4]) hFX hKK hE hS (c_J0_charAt_2 l D κ κq k2_13 (by omega)) 1 gV_X0_97 hdV_J0_charAt_5068e rfl rfl ⟨Nat.le_of_ble_eq_true rfl, Nat.le_of_ble_eq_true rfl⟩ rfl rfl (Nat.le_of_ble_eq_true rfl) dX0_isWord_24 ⟨Nat.le_of_ble_eq_true rfl, Nat.le_of_ble_eq_true rfl⟩ hl.1 (vk_recv hE.1.2.2.2.2.2.1 (i := 2) (by decide) hS) (subP0 hP [] rfl) (fun r__5 hp_6 => ?_)
      replace hp_6 : narrow .char (.int r__5) = .int r__5 := hp_6
      have h_7 := hp_6
      clear hp_6
      refine W.eq (g2 := F0 m 27 ls [.int r__5, .int x_4]) rfl ?_
      refine lv_icmp_eq (tgt := 32) hx hb dX0_isWord_27 (by decide) (fun c_8 => ?_) (fun c_8 => ?_)
      · refine lv_iinc (v := (nI (k2_13 + 1))) (lv' := [(2, .int (nI (k2_13 + 1))), (0, .ref b), (1, .ref (κq 4))]) hx hb dX0_isWord_32 hl (k := 0) rfl (nI_i k2_13) (by decide) rfl (fun ls hl => ?_)
        refine lv_goto (tgt := 13) hx hb dX0_isWord_35 (by decide) ?_
        exact ih13 _ _ (by omega) ⟨(k2_13 + 1), (by omega), rfl, lv_sub hl [0, 1, 2] rfl⟩
      · refine lv_iconst (v := 0) hx hb dX0_isWord_30 (by decide) ?_
        exact cr_iret hx hb hr hlk rfl 0 rfl (by exact Or.inr ((rfl))) dX0_isWord_31
  · have nc_2 := cv_ne (a := n) (b := 4) (by omega) (by omega) c_2
    refine lv_iconst (v := 0) hx hb dX0_isWord_9 (by decide) ?_
    exact cr_iret hx hb hr hlk rfl 0 rfl (by exact Or.inr ((rfl))) dX0_isWord_10
set_option maxHeartbeats 4000000 in
set_option maxRecDepth 100000 in
theorem c_J1_charAt_3 (l : Launch) (D : va_G) (κ : Nat → ClassId) (κq : Nat → Nat) (i : Nat) (h1 : i < 5) : Er l yJ1_charAt_3b067 (wl yJ1_charAt_3b067 cJ1_charAt_3b067 2 (some .char)) { frames := 2, cells := 0, slots := 0, locals := 43 } D κ κq [.ref (κq 9), .int (nI i)] [] (fun r : Int32 => some (.int r)) (fun r : Int32 => narrow .char (.int r) = .int r) := by
  refine er_of (by decide +kernel) (Nat.le_of_ble_eq_true rfl) ?_
  intro p e s m args below meth c A ls hx hb hr hml hts hown hlk hKK hK hP hE hl
  have hS : va_S A s.heap s.heap [] := va_S.rf
  have hP : va_P D vwCl ([] ++ []) s.heap := hP
  have hFX : FX p s m args c cJ1_charAt_3b067 2 RJ1 := ⟨hx, hb, hml, hown, hts⟩
  have hl : lv_has ls 2 [(0, .ref (κq 9)), (1, .int (nI i))] := hl
  refine lv_iload_n hx hb dJ1_charAt_3b067_0 rfl (lv_at hl 1 rfl) ?_
  refine lv_aload_n hx hb dJ1_charAt_3b067_1 rfl (lv_at hl 0 rfl) ?_
  refine va_tlen (v := 5) hx hb (hE.1.2.2.2.2.2.1.1 3 (by decide)).2.2.2 hS (by decide) dJ1_charAt_3b067_2 ?_
  refine er_S (As := [.int (nI i), .int 5]) (rest := []) hFX hKK hE hS (c_J0_checkIndex_df160 l D κ κq i 5 (by omega) (by omega)) 2 gS_J1_9 hdS_J0_checkIndex_df160 rfl rfl ⟨Nat.le_of_ble_eq_true rfl, Nat.le_of_ble_eq_true rfl⟩ rfl rfl (Nat.le_of_ble_eq_true rfl) dJ1_charAt_3b067_3 ⟨Nat.le_of_ble_eq_true rfl, Nat.le_of_ble_eq_true rfl⟩ hl.1 (subP0 hP [] rfl) (fun _ hp_1 => ?_)
  refine W.eq (g2 := F0 m 6 ls []) rfl ?_
  refine lv_aload_n hx hb dJ1_charAt_3b067_6 rfl (lv_at hl 0 rfl) ?_
  refine lv_iload_n hx hb dJ1_charAt_3b067_7 rfl (lv_at hl 1 rfl) ?_
  obtain ⟨x_2, ex_2⟩ : ∃ y9 : Int32, (tB.getD 3 []).getD ((nI i).toNatClampNeg) 0 = y9 := ⟨_, rfl⟩
  refine va_tb (i := nI i) (v := .int x_2) hx hb (hE.1.2.2.2.2.2.1.1 3 (by decide)).2.2.2 hS (vp_in_nI (n := i) (N := 5) (by omega) (by omega)) (congrArg Value.int ex_2) dJ1_charAt_3b067_8 ?_
  refine lv_sipush (v := 255) hx hb dJ1_charAt_3b067_9 (by decide) ?_
  refine lv_iand hx hb dJ1_charAt_3b067_12 ?_
  refine lv_topi (fun x_3 ex_3 => ?_)
  obtain ⟨x_4, ex_4⟩ : ∃ y9 : Int32, (x_3.toUInt32 % 65536).toInt32 = y9 := ⟨_, rfl⟩
  refine lv_i2c hx hb dJ1_charAt_3b067_13 ex_4 ?_
  have h9n := ex_4
  exact cr_iret hx hb hr hlk (by rw [← h9n]; exact pk_nc _) x_4 rfl (show narrow .char (.int x_4) = .int x_4 from (by rw [← h9n]; exact pk_nc _)) dJ1_charAt_3b067_14
set_option maxHeartbeats 4000000 in
set_option maxRecDepth 100000 in
theorem c_J0_charAt_3 (l : Launch) (D : va_G) (κ : Nat → ClassId) (κq : Nat → Nat) (i : Nat) (h1 : i < 5) : Er l yJ0_charAt_5068e (wl yJ0_charAt_5068e cJ0_charAt_5068e 2 (some .char)) { frames := 3, cells := 0, slots := 0, locals := 64 } D κ κq [.ref (κq 5), .int (nI i)] [] (fun r : Int32 => some (.int r)) (fun r : Int32 => narrow .char (.int r) = .int r) := by
  refine er_of (by decide +kernel) (Nat.le_of_ble_eq_true rfl) ?_
  intro p e s m args below meth c A ls hx hb hr hml hts hown hlk hKK hK hP hE hl
  have hS : va_S A s.heap s.heap [] := va_S.rf
  have hP : va_P D vwCl ([] ++ []) s.heap := hP
  have hFX : FX p s m args c cJ0_charAt_5068e 2 RJ0 := ⟨hx, hb, hml, hown, hts⟩
  have hl : lv_has ls 2 [(0, .ref (κq 5)), (1, .int (nI i))] := hl
  refine lv_aload_n hx hb dJ0_charAt_5068e_0 rfl (lv_at hl 0 rfl) ?_
  refine er_K (As := []) (rest := []) hFX hKK hE hS (c_J0_isLatin1_3 l D κ κq) 0 gV_J0_492 hdV_J0_isLatin1_aae02 rfl rfl ⟨Nat.le_of_ble_eq_true rfl, Nat.le_of_ble_eq_true rfl⟩ rfl rfl (Nat.le_of_ble_eq_true rfl) dJ0_charAt_5068e_1 ⟨Nat.le_of_ble_eq_true rfl, Nat.le_of_ble_eq_true rfl⟩ hl.1 (vk_recv hE.1.2.2.2.2.2.1 (i := 3) (by decide) hS) (subP0 hP [] rfl) (fun _ hp_1 => ?_)
  refine W.eq (g2 := F0 m 4 ls [.int 1]) rfl ?_
  refine lv_if_eq (tgt := 16) hx hb dJ0_charAt_5068e_4 (by decide) (fun c_2 => absurd c_2 (by decide)) (fun c_2 => ?_)
  refine lv_aload_n hx hb dJ0_charAt_5068e_7 rfl (lv_at hl 0 rfl) ?_
  refine vk_getf (o := "java/lang/String") (n := "value") (d := "[B") (v := .ref (κq 9)) hx hb (hE.1.2.2.2.2.2.1.1 3 (by decide)).2.2.1 hS hown (hts _ mw_102) (fun _ h9 => h9) dJ0_charAt_5068e_8 ?_
  refine lv_iload_n hx hb dJ0_charAt_5068e_11 rfl (lv_at hl 1 rfl) ?_
  refine er_S (As := [.ref (κq 9), .int (nI i)]) (rest := []) hFX hKK hE hS (c_J1_charAt_3 l D κ κq i (by omega)) 2 gS_J0_495 hdS_J1_charAt_3b067 rfl rfl ⟨Nat.le_of_ble_eq_true rfl, Nat.le_of_ble_eq_true rfl⟩ rfl rfl (Nat.le_of_ble_eq_true rfl) dJ0_charAt_5068e_12 ⟨Nat.le_of_ble_eq_true rfl, Nat.le_of_ble_eq_true rfl⟩ hl.1 (subP0 hP [] rfl) (fun r__3 hp_4 => ?_)
  replace hp_4 : narrow .char (.int r__3) = .int r__3 := hp_4
  have h_5 := hp_4
  clear hp_4
  refine W.eq (g2 := F0 m 15 ls [.int r__3]) rfl ?_
  exact cr_iret hx hb hr hlk (by assumption) r__3 rfl (show narrow .char (.int r__3) = .int r__3 from (by first | assumption | omega | rfl | exact Or.inl (by assumption) | exact Or.inr (by assumption))) dJ0_charAt_5068e_15
set_option maxHeartbeats 4000000 in
set_option maxRecDepth 100000 in
theorem c_X0_isWord_3 (l : Launch) (D : va_G) (κ : Nat → ClassId) (κq : Nat → Nat) (b : Nat) (n : Nat) (f : Nat → Int32) (h1 : n ≤ 20) : Er l yX0_isWord (wl yX0_isWord cX0_isWord 3 (some .boolean)) { frames := 4, cells := 0, slots := 0, locals := 85 } D κ κq [.ref b, .ref (κq 5)] [(b, .inl (κ 1, n, .inl f))] (fun r : Int32 => some (.int r)) (fun r : Int32 => ((r = 1 ∧ 1 ≤ n) ∨ (r = 0))) := by
  refine er_of (by decide +kernel) (Nat.le_of_ble_eq_true rfl) ?_
  intro p e s m args below meth c A ls hx hb hr hml hts hown hlk hKK hK hP hE hl
  have hS : va_S A s.heap s.heap [] := va_S.rf
  have hP : va_P D vwCl ([(b, .inl (κ 1, n, .inl f))] ++ []) s.heap := hP
  have hFX : FX p s m args c cX0_isWord 3 RX0 := ⟨hx, hb, hml, hown, hts⟩
  have hl : lv_has ls 3 [(0, .ref b), (1, .ref (κq 5))] := hl
  refine lv_aload_n hx hb dX0_isWord_0 rfl (lv_at hl 0 rfl) ?_
  refine va_alen hx hb hK hP 0 1 rfl rfl (v := nI n) rfl dX0_isWord_1 ?_
  refine lv_aload_n hx hb dX0_isWord_2 rfl (lv_at hl 1 rfl) ?_
  refine er_K (As := []) (rest := [.int (nI n)]) hFX hKK hE hS (c_J0_length_3 l D κ κq) 0 gV_X0_91 hdV_J0_length_8abf5 rfl rfl ⟨Nat.le_of_ble_eq_true rfl, Nat.le_of_ble_eq_true rfl⟩ rfl rfl (Nat.le_of_ble_eq_true rfl) dX0_isWord_3 ⟨Nat.le_of_ble_eq_true rfl, Nat.le_of_ble_eq_true rfl⟩ hl.1 (vk_recv hE.1.2.2.2.2.2.1 (i := 3) (by decide) hS) (subP0 hP [] rfl) (fun _ hp_1 => ?_)
  refine W.eq (g2 := F0 m 6 ls [.int 5, .int (nI n)]) rfl ?_
  refine lv_icmp_eq (tgt := 11) hx hb dX0_isWord_6 (by decide) (fun c_2 => ?_) (fun c_2 => ?_)
  · have nc_2 := cv_eq (a := n) (b := 5) (by omega) (by omega) c_2
    refine lv_iconst (v := 0) hx hb dX0_isWord_11 (by decide) ?_
    refine lv_istore_n (lv' := [(2, .int 0), (0, .ref b), (1, .ref (κq 5))]) hx hb dX0_isWord_12 rfl hl (by decide) rfl (fun ls hl => ?_)
    refine loop_r (fun k9 ls => ∃ (k2_13 : Nat), (k2_13 ≤ n) ∧ n - k2_13 = k9 ∧ lv_has ls 3 [(2, .int (nI k2_13)), (0, .ref b), (1, .ref (κq 5))]) (fun k9 ls hI13 ih13 => ?_) (n - 0) _ ⟨0, (by omega), rfl, lv_sub hl [0, 1, 2] rfl⟩
    obtain ⟨k2_13, hl13_0, hm13, hl⟩ := hI13
    refine lv_iload_n hx hb dX0_isWord_13 rfl (lv_at hl 0 rfl) ?_
    refine lv_aload_n hx hb dX0_isWord_14 rfl (lv_at hl 1 rfl) ?_
    refine va_alen hx hb hK hP 0 1 rfl rfl (v := nI n) rfl dX0_isWord_15 ?_
    refine lv_icmp_ge (tgt := 38) hx hb dX0_isWord_16 (by decide) (fun c_3 => ?_) (fun c_3 => ?_)
    · have nc_3 := cv_le (a := n) (b := k2_13) (by omega) (by omega) c_3
      refine lv_iconst (v := 1) hx hb dX0_isWord_38 (by decide) ?_
      exact cr_iret hx hb hr hlk rfl 1 rfl (by exact Or.inl (⟨rfl, (show 1 ≤ n from (by first | assumption | omega | rfl | exact Or.inl (by assumption) | exact Or.inr (by assumption)))⟩)) dX0_isWord_39
    · have nc_3 := cv_nle (a := n) (b := k2_13) (by omega) (by omega) c_3
      refine lv_aload_n hx hb dX0_isWord_19 rfl (lv_at hl 1 rfl) ?_
      refine lv_iload_n hx hb dX0_isWord_20 rfl (lv_at hl 0 rfl) ?_
      refine va_bald hx hb hK hP 0 1 rfl rfl (i := nI k2_13) (vp_in_nI (n := k2_13) (by omega) (by omega)) dX0_isWord_21 ?_
      refine kv (v := .int (f k2_13)) (by rw [nI_clamp (by omega)]) ?_
      obtain ⟨x_4, ex_4⟩ : ∃ y9 : Int32, f k2_13 = y9 := ⟨_, rfl⟩
      refine kv (v := .int x_4) (congrArg Value.int ex_4) ?_
      refine lv_aload_n hx hb dX0_isWord_22 rfl (lv_at hl 2 rfl) ?_
      refine lv_iload_n hx hb dX0_isWord_23 rfl (lv_at hl 0 rfl) ?_
      refine er_K (As := [.int (nI k2_13)]) (rest := [.int x_4]) hFX hKK hE hS (c_J0_charAt_3 l D κ κq k2_13 (by omega)) 1 gV_X0_97 hdV_J0_charAt_5068e rfl rfl ⟨Nat.le_of_ble_eq_true rfl, Nat.le_of_ble_eq_true rfl⟩ rfl rfl (Nat.le_of_ble_eq_true rfl) dX0_isWord_24 ⟨Nat.le_of_ble_eq_true rfl, Nat.le_of_ble_eq_true rfl⟩ hl.1 (vk_recv hE.1.2.2.2.2.2.1 (i := 3) (by decide) hS) (subP0 hP [] rfl) (fun r__5 hp_6 => ?_)
      replace hp_6 : narrow .char (.int r__5) = .int r__5 := hp_6
      have h_7 := hp_6
      clear hp_6
      refine W.eq (g2 := F0 m 27 ls [.int r__5, .int x_4]) rfl ?_
      refine lv_icmp_eq (tgt := 32) hx hb dX0_isWord_27 (by decide) (fun c_8 => ?_) (fun c_8 => ?_)
      · refine lv_iinc (v := (nI (k2_13 + 1))) (lv' := [(2, .int (nI (k2_13 + 1))), (0, .ref b), (1, .ref (κq 5))]) hx hb dX0_isWord_32 hl (k := 0) rfl (nI_i k2_13) (by decide) rfl (fun ls hl => ?_)
        refine lv_goto (tgt := 13) hx hb dX0_isWord_35 (by decide) ?_
        exact ih13 _ _ (by omega) ⟨(k2_13 + 1), (by omega), rfl, lv_sub hl [0, 1, 2] rfl⟩
      · refine lv_iconst (v := 0) hx hb dX0_isWord_30 (by decide) ?_
        exact cr_iret hx hb hr hlk rfl 0 rfl (by exact Or.inr ((rfl))) dX0_isWord_31
  · have nc_2 := cv_ne (a := n) (b := 5) (by omega) (by omega) c_2
    refine lv_iconst (v := 0) hx hb dX0_isWord_9 (by decide) ?_
    exact cr_iret hx hb hr hlk rfl 0 rfl (by exact Or.inr ((rfl))) dX0_isWord_10
set_option maxHeartbeats 4000000 in
set_option maxRecDepth 100000 in
theorem c_X0_digits (l : Launch) (D : va_G) (κ : Nat → ClassId) (κq : Nat → Nat) (b : Nat) (n : Nat) (f : Nat → Int32) (i : Nat) (j : Nat) (h1 : n ≤ 20) (h2 : i ≤ j) (h3 : j ≤ n) : Er l yX0_digits (wl yX0_digits cX0_digits 6 (some .int)) { frames := 0, cells := 0, slots := 0, locals := 0 } D κ κq [.ref b, .int (nI i), .int (nI j)] [(b, .inl (κ 1, n, .inl f))] (fun r : Int32 => some (.int r)) (fun r : Int32 => r = dgF f 0 i (j - i)) := by
  refine er_of (by decide +kernel) (Nat.le_of_ble_eq_true rfl) ?_
  intro p e s m args below meth c A ls hx hb hr hml hts hown hlk hKK hK hP hE hl
  have hS : va_S A s.heap s.heap [] := va_S.rf
  have hP : va_P D vwCl ([(b, .inl (κ 1, n, .inl f))] ++ []) s.heap := hP
  have hFX : FX p s m args c cX0_digits 6 RX0 := ⟨hx, hb, hml, hown, hts⟩
  have hl : lv_has ls 6 [(0, .ref b), (1, .int (nI i)), (2, .int (nI j))] := hl
  refine lv_iconst (v := 0) hx hb dX0_digits_0 (by decide) ?_
  refine lv_istore_n (lv' := [(3, .int 0), (0, .ref b), (1, .int (nI i)), (2, .int (nI j))]) hx hb dX0_digits_1 rfl hl (by decide) rfl (fun ls hl => ?_)
  refine lv_iload_n hx hb dX0_digits_2 rfl (lv_at hl 2 rfl) ?_
  refine lv_istore (lv' := [(4, .int (nI i)), (3, .int 0), (0, .ref b), (1, .int (nI i)), (2, .int (nI j))]) hx hb dX0_digits_3 hl (by decide) rfl (fun ls hl => ?_)
  refine loop_r (fun k9 ls => ∃ (k4_5 : Nat), ∃ (k3_5 : Int32), (k4_5 ≤ j) ∧ (i ≤ k4_5) ∧ (dgF f k3_5 k4_5 (j - k4_5) = dgF f 0 i (j - i)) ∧ j - k4_5 = k9 ∧ lv_has ls 6 [(4, .int (nI k4_5)), (3, .int k3_5), (0, .ref b), (1, .int (nI i)), (2, .int (nI j))]) (fun k9 ls hI5 ih5 => ?_) (j - i) _ ⟨i, 0, (by omega), (by omega), rfl, rfl, lv_sub hl [0, 1, 2, 3, 4] rfl⟩
  obtain ⟨k4_5, k3_5, hl5_0, hl5_1, hl5_2, hm5, hl⟩ := hI5
  refine lv_iload hx hb dX0_digits_5 (lv_at hl 0 rfl) ?_
  refine lv_iload_n hx hb dX0_digits_7 rfl (lv_at hl 4 rfl) ?_
  refine lv_icmp_ge (tgt := 48) hx hb dX0_digits_8 (by decide) (fun c_1 => ?_) (fun c_1 => ?_)
  · have nc_1 := cv_le (a := j) (b := k4_5) (by omega) (by omega) c_1
    refine lv_iload_n hx hb dX0_digits_48 rfl (lv_at hl 1 rfl) ?_
    exact cr_iret hx hb hr hlk rfl k3_5 rfl (show k3_5 = dgF f 0 i (j - i) from (by have e9 : j - k4_5 = 0 := (by omega); have q9 := hl5_2; rw [e9] at q9; exact q9)) dX0_digits_49
  · have nc_1 := cv_nle (a := j) (b := k4_5) (by omega) (by omega) c_1
    refine lv_aload_n hx hb dX0_digits_11 rfl (lv_at hl 2 rfl) ?_
    refine lv_iload hx hb dX0_digits_12 (lv_at hl 0 rfl) ?_
    refine va_bald hx hb hK hP 0 1 rfl rfl (i := nI k4_5) (vp_in_nI (n := k4_5) (by omega) (by omega)) dX0_digits_14 ?_
    refine kv (v := .int (f k4_5)) (by rw [nI_clamp (by omega)]) ?_
    obtain ⟨x_2, ex_2⟩ : ∃ y9 : Int32, f k4_5 = y9 := ⟨_, rfl⟩
    refine kv (v := .int x_2) (congrArg Value.int ex_2) ?_
    refine lv_bipush (v := 48) hx hb dX0_digits_15 (by decide) ?_
    refine lv_isub hx hb dX0_digits_17 ?_
    refine lv_topi (fun x_3 ex_3 => ?_)
    refine lv_istore (lv' := [(5, .int x_3), (4, .int (nI k4_5)), (3, .int k3_5), (0, .ref b), (1, .int (nI i)), (2, .int (nI j))]) hx hb dX0_digits_18 hl (by decide) rfl (fun ls hl => ?_)
    refine lv_iload hx hb dX0_digits_20 (lv_at hl 0 rfl) ?_
    refine lv_if_lt (tgt := 32) hx hb dX0_digits_22 (by decide) (fun c_4 => ?_) (fun c_4 => ?_)
    · refine lv_iconst (v := (-1)) hx hb dX0_digits_32 (by decide) ?_
      exact cr_iret hx hb hr hlk rfl (-1) rfl (show (-1 : Int32) = dgF f 0 i (j - i) from ((dg_no (a := k3_5) (by omega) ex_2 ex_3.symm (by first | exact Or.inl (by assumption) | exact Or.inr (by assumption))).symm.trans hl5_2)) dX0_digits_33
    · refine lv_iload hx hb dX0_digits_25 (lv_at hl 0 rfl) ?_
      refine lv_bipush (v := 9) hx hb dX0_digits_27 (by decide) ?_
      refine lv_icmp_le (tgt := 34) hx hb dX0_digits_29 (by decide) (fun c_5 => ?_) (fun c_5 => ?_)
      · refine lv_iload_n hx hb dX0_digits_34 rfl (lv_at hl 2 rfl) ?_
        refine lv_bipush (v := 10) hx hb dX0_digits_35 (by decide) ?_
        refine lv_imul hx hb dX0_digits_37 ?_
        refine lv_topi (fun x_6 ex_6 => ?_)
        refine lv_iload hx hb dX0_digits_38 (lv_at hl 0 rfl) ?_
        refine lv_iadd hx hb dX0_digits_40 ?_
        refine lv_topi (fun x_7 ex_7 => ?_)
        refine lv_istore_n (lv' := [(3, .int x_7), (5, .int x_3), (4, .int (nI k4_5)), (0, .ref b), (1, .int (nI i)), (2, .int (nI j))]) hx hb dX0_digits_41 rfl hl (by decide) rfl (fun ls hl => ?_)
        refine lv_iinc (v := (nI (k4_5 + 1))) (lv' := [(4, .int (nI (k4_5 + 1))), (3, .int x_7), (5, .int x_3), (0, .ref b), (1, .int (nI i)), (2, .int (nI j))]) hx hb dX0_digits_42 hl (k := 2) rfl (nI_i k4_5) (by decide) rfl (fun ls hl => ?_)
        refine lv_goto (tgt := 5) hx hb dX0_digits_45 (by decide) ?_
        exact ih5 _ _ (by omega) ⟨(k4_5 + 1), x_7, (by omega), (by omega), ((dg_go (by omega) ex_2 ex_3.symm c_4 c_5 ex_6.symm ex_7.symm).symm.trans hl5_2), rfl, lv_sub hl [0, 1, 3, 4, 5] rfl⟩
      · refine lv_iconst (v := (-1)) hx hb dX0_digits_32 (by decide) ?_
        exact cr_iret hx hb hr hlk rfl (-1) rfl (show (-1 : Int32) = dgF f 0 i (j - i) from ((dg_no (a := k3_5) (by omega) ex_2 ex_3.symm (by first | exact Or.inl (by assumption) | exact Or.inr (by assumption))).symm.trans hl5_2)) dX0_digits_33
set_option maxHeartbeats 4000000 in
set_option maxRecDepth 100000 in
theorem c_X0_isDate (l : Launch) (D : va_G) (κ : Nat → ClassId) (κq : Nat → Nat) (b : Nat) (n : Nat) (f : Nat → Int32) (h1 : n ≤ 20) : Er l yX0_isDate (wl yX0_isDate cX0_isDate 5 (some .boolean)) { frames := 1, cells := 0, slots := 0, locals := 25 } D κ κq [.ref b] [(b, .inl (κ 1, n, .inl f))] (fun r : Int32 => some (.int r)) (fun r : Int32 => ((r = 1 ∧ n = 10 ∧ (∃ mth : Nat, (1 ≤ mth ∧ mth ≤ 12) ∧ dgF f 0 5 2 = nI mth)) ∨ (r = 0))) := by
  refine er_of (by decide +kernel) (Nat.le_of_ble_eq_true rfl) ?_
  intro p e s m args below meth c A ls hx hb hr hml hts hown hlk hKK hK hP hE hl
  have hS : va_S A s.heap s.heap [] := va_S.rf
  have hP : va_P D vwCl ([(b, .inl (κ 1, n, .inl f))] ++ []) s.heap := hP
  have hFX : FX p s m args c cX0_isDate 5 RX0 := ⟨hx, hb, hml, hown, hts⟩
  have hl : lv_has ls 5 [(0, .ref b)] := hl
  refine lv_aload_n hx hb dX0_isDate_0 rfl (lv_at hl 0 rfl) ?_
  refine va_alen hx hb hK hP 0 1 rfl rfl (v := nI n) rfl dX0_isDate_1 ?_
  refine lv_bipush (v := 10) hx hb dX0_isDate_2 (by decide) ?_
  refine lv_icmp_ne (tgt := 24) hx hb dX0_isDate_4 (by decide) (fun c_1 => ?_) (fun c_1 => ?_)
  · have nc_1 := cv_ne (a := n) (b := 10) (by omega) (by omega) c_1
    refine lv_iconst (v := 0) hx hb dX0_isDate_24 (by decide) ?_
    exact cr_iret hx hb hr hlk rfl 0 rfl (by exact Or.inr ((rfl))) dX0_isDate_25
  · have nc_1 := cv_eq (a := n) (b := 10) (by omega) (by omega) c_1
    refine lv_aload_n hx hb dX0_isDate_7 rfl (lv_at hl 0 rfl) ?_
    refine lv_iconst (v := 4) hx hb dX0_isDate_8 (by decide) ?_
    refine va_bald hx hb hK hP 0 1 rfl rfl (i := 4) (vp_c (c := 4) (by decide) (by omega)) dX0_isDate_9 ?_
    obtain ⟨x_2, ex_2⟩ : ∃ y9 : Int32, f 4 = y9 := ⟨_, rfl⟩
    refine kv (v := .int x_2) (congrArg Value.int ex_2) ?_
    refine lv_bipush (v := 45) hx hb dX0_isDate_10 (by decide) ?_
    refine lv_icmp_ne (tgt := 24) hx hb dX0_isDate_12 (by decide) (fun c_3 => ?_) (fun c_3 => ?_)
    · refine lv_iconst (v := 0) hx hb dX0_isDate_24 (by decide) ?_
      exact cr_iret hx hb hr hlk rfl 0 rfl (by exact Or.inr ((rfl))) dX0_isDate_25
    · refine lv_aload_n hx hb dX0_isDate_15 rfl (lv_at hl 0 rfl) ?_
      refine lv_bipush (v := 7) hx hb dX0_isDate_16 (by decide) ?_
      refine va_bald hx hb hK hP 0 1 rfl rfl (i := 7) (vp_c (c := 7) (by decide) (by omega)) dX0_isDate_18 ?_
      obtain ⟨x_4, ex_4⟩ : ∃ y9 : Int32, f 7 = y9 := ⟨_, rfl⟩
      refine kv (v := .int x_4) (congrArg Value.int ex_4) ?_
      refine lv_bipush (v := 45) hx hb dX0_isDate_19 (by decide) ?_
      refine lv_icmp_eq (tgt := 26) hx hb dX0_isDate_21 (by decide) (fun c_5 => ?_) (fun c_5 => ?_)
      · refine lv_aload_n hx hb dX0_isDate_26 rfl (lv_at hl 0 rfl) ?_
        refine lv_iconst (v := 0) hx hb dX0_isDate_27 (by decide) ?_
        refine lv_iconst (v := 4) hx hb dX0_isDate_28 (by decide) ?_
        refine er_S (As := [.ref b, .int 0, .int 4]) (rest := []) hFX hKK hE hS (c_X0_digits l D κ κq b n f 0 4 (by omega) (by omega) (by omega)) 3 gS_X0_107 hdS_X0_digits rfl rfl ⟨Nat.le_of_ble_eq_true rfl, Nat.le_of_ble_eq_true rfl⟩ rfl rfl (Nat.le_of_ble_eq_true rfl) dX0_isDate_29 ⟨Nat.le_of_ble_eq_true rfl, Nat.le_of_ble_eq_true rfl⟩ hl.1 (subP0 hP [0] rfl) (fun r__6 hp_7 => ?_)
        replace hp_7 : r__6 = dgF f 0 0 (4 - 0) := hp_7
        have h_8 := hp_7
        clear hp_7
        refine W.eq (g2 := F0 m 32 ls [.int r__6]) rfl ?_
        refine lv_istore_n (lv' := [(1, .int r__6), (0, .ref b)]) hx hb dX0_isDate_32 rfl hl (by decide) rfl (fun ls hl => ?_)
        refine lv_aload_n hx hb dX0_isDate_33 rfl (lv_at hl 1 rfl) ?_
        refine lv_iconst (v := 5) hx hb dX0_isDate_34 (by decide) ?_
        refine lv_bipush (v := 7) hx hb dX0_isDate_35 (by decide) ?_
        refine er_S (As := [.ref b, .int 5, .int 7]) (rest := []) hFX hKK hE hS (c_X0_digits l D κ κq b n f 5 7 (by omega) (by omega) (by omega)) 3 gS_X0_107 hdS_X0_digits rfl rfl ⟨Nat.le_of_ble_eq_true rfl, Nat.le_of_ble_eq_true rfl⟩ rfl rfl (Nat.le_of_ble_eq_true rfl) dX0_isDate_37 ⟨Nat.le_of_ble_eq_true rfl, Nat.le_of_ble_eq_true rfl⟩ hl.1 (subP0 hP [0] rfl) (fun r__9 hp_10 => ?_)
        replace hp_10 : r__9 = dgF f 0 5 (7 - 5) := hp_10
        have h_11 := hp_10
        clear hp_10
        refine W.eq (g2 := F0 m 40 ls [.int r__9]) rfl ?_
        refine lv_istore_n (lv' := [(2, .int r__9), (1, .int r__6), (0, .ref b)]) hx hb dX0_isDate_40 rfl hl (by decide) rfl (fun ls hl => ?_)
        refine lv_aload_n hx hb dX0_isDate_41 rfl (lv_at hl 2 rfl) ?_
        refine lv_bipush (v := 8) hx hb dX0_isDate_42 (by decide) ?_
        refine lv_bipush (v := 10) hx hb dX0_isDate_44 (by decide) ?_
        refine er_S (As := [.ref b, .int 8, .int 10]) (rest := []) hFX hKK hE hS (c_X0_digits l D κ κq b n f 8 10 (by omega) (by omega) (by omega)) 3 gS_X0_107 hdS_X0_digits rfl rfl ⟨Nat.le_of_ble_eq_true rfl, Nat.le_of_ble_eq_true rfl⟩ rfl rfl (Nat.le_of_ble_eq_true rfl) dX0_isDate_46 ⟨Nat.le_of_ble_eq_true rfl, Nat.le_of_ble_eq_true rfl⟩ hl.1 (subP0 hP [0] rfl) (fun r__12 hp_13 => ?_)
        replace hp_13 : r__12 = dgF f 0 8 (10 - 8) := hp_13
        have h_14 := hp_13
        clear hp_13
        refine W.eq (g2 := F0 m 49 ls [.int r__12]) rfl ?_
        refine lv_istore_n (lv' := [(3, .int r__12), (2, .int r__9), (1, .int r__6), (0, .ref b)]) hx hb dX0_isDate_49 rfl hl (by decide) rfl (fun ls hl => ?_)
        refine lv_iload_n hx hb dX0_isDate_50 rfl (lv_at hl 2 rfl) ?_
        refine lv_sipush (v := 1600) hx hb dX0_isDate_51 (by decide) ?_
        refine lv_icmp_lt (tgt := 73) hx hb dX0_isDate_54 (by decide) (fun c_15 => ?_) (fun c_15 => ?_)
        · refine lv_iconst (v := 0) hx hb dX0_isDate_73 (by decide) ?_
          exact cr_iret hx hb hr hlk rfl 0 rfl (by exact Or.inr ((rfl))) dX0_isDate_74
        · refine lv_iload_n hx hb dX0_isDate_57 rfl (lv_at hl 1 rfl) ?_
          refine lv_iconst (v := 1) hx hb dX0_isDate_58 (by decide) ?_
          refine lv_icmp_lt (tgt := 73) hx hb dX0_isDate_59 (by decide) (fun c_16 => ?_) (fun c_16 => ?_)
          · have nc_16 := cz_lt (a := r__9.toInt) (b := (1 : Int)) rfl (by decide) c_16
            refine lv_iconst (v := 0) hx hb dX0_isDate_73 (by decide) ?_
            exact cr_iret hx hb hr hlk rfl 0 rfl (by exact Or.inr ((rfl))) dX0_isDate_74
          · have nc_16 := cz_nlt (a := r__9.toInt) (b := (1 : Int)) rfl (by decide) c_16
            refine lv_iload_n hx hb dX0_isDate_62 rfl (lv_at hl 1 rfl) ?_
            refine lv_bipush (v := 12) hx hb dX0_isDate_63 (by decide) ?_
            refine lv_icmp_gt (tgt := 73) hx hb dX0_isDate_65 (by decide) (fun c_17 => ?_) (fun c_17 => ?_)
            · have nc_17 := cz_lt (a := (12 : Int)) (b := r__9.toInt) (by decide) rfl c_17
              refine lv_iconst (v := 0) hx hb dX0_isDate_73 (by decide) ?_
              exact cr_iret hx hb hr hlk rfl 0 rfl (by exact Or.inr ((rfl))) dX0_isDate_74
            · have nc_17 := cz_nlt (a := (12 : Int)) (b := r__9.toInt) (by decide) rfl c_17
              refine lv_iload_n hx hb dX0_isDate_68 rfl (lv_at hl 0 rfl) ?_
              refine lv_iconst (v := 1) hx hb dX0_isDate_69 (by decide) ?_
              refine lv_icmp_ge (tgt := 75) hx hb dX0_isDate_70 (by decide) (fun c_18 => ?_) (fun c_18 => ?_)
              · obtain ⟨mth, hmth, rfl⟩ := i_nat (x := r__9) (B := 12) (by omega) (by omega)
                have hmt : (nI mth).toInt = ((mth : Nat) : Int) := nI_toInt (by omega)
                refine va_gets (v := .ref (κq 1)) hx hb hE.1.2.2.1 hS hown (hts _ mw_149) (fun _ h9 => h9) dX0_isDate_75 ?_
                refine lv_iload_n hx hb dX0_isDate_78 rfl (lv_at hl 1 rfl) ?_
                refine lv_iconst (v := 1) hx hb dX0_isDate_79 (by decide) ?_
                refine lv_isub hx hb dX0_isDate_80 ?_
                refine ki (v := (nI (mth - 1))) (pk_sub (a := mth) (b := 1) (by omega)) ?_
                obtain ⟨x_19, ex_19⟩ : ∃ y9 : Int32, mA ((nI (mth - 1)).toNatClampNeg) = y9 := ⟨_, rfl⟩
                refine va_ti (i := nI (mth - 1)) (v := .int x_19) hx hb hE.1.2.2.2.1 hS (vp_in_nI (n := (mth - 1)) (N := 12) (by omega) (by omega)) (congrArg Value.int ex_19) dX0_isDate_81 ?_
                refine lv_iload_n hx hb dX0_isDate_82 rfl (lv_at hl 1 rfl) ?_
                refine lv_iconst (v := 2) hx hb dX0_isDate_83 (by decide) ?_
                refine lv_icmp_ne (tgt := 98) hx hb dX0_isDate_84 (by decide) (fun c_20 => ?_) (fun c_20 => ?_)
                · have nc_20 := cv_ne (a := mth) (b := 2) (by omega) (by omega) c_20
                  refine lv_iconst (v := 0) hx hb dX0_isDate_98 (by decide) ?_
                  refine lv_iadd hx hb dX0_isDate_99 ?_
                  refine lv_topi (fun x_21 ex_21 => ?_)
                  refine lv_istore (lv' := [(4, .int x_21), (3, .int r__12), (2, .int (nI mth)), (1, .int r__6), (0, .ref b)]) hx hb dX0_isDate_100 hl (by decide) rfl (fun ls hl => ?_)
                  refine lv_iload_n hx hb dX0_isDate_102 rfl (lv_at hl 1 rfl) ?_
                  refine lv_iload hx hb dX0_isDate_103 (lv_at hl 0 rfl) ?_
                  refine lv_icmp_gt (tgt := 112) hx hb dX0_isDate_105 (by decide) (fun c_22 => ?_) (fun c_22 => ?_)
                  · refine lv_iconst (v := 0) hx hb dX0_isDate_112 (by decide) ?_
                    exact cr_iret hx hb hr hlk rfl 0 rfl (by exact Or.inr ((rfl))) dX0_isDate_113
                  · refine lv_iconst (v := 1) hx hb dX0_isDate_108 (by decide) ?_
                    refine lv_goto (tgt := 113) hx hb dX0_isDate_109 (by decide) ?_
                    exact cr_iret hx hb hr hlk rfl 1 rfl (by exact Or.inl (⟨rfl, (show n = 10 from (by first | assumption | omega | rfl | exact Or.inl (by assumption) | exact Or.inr (by assumption))), (show ∃ mth : Nat, (1 ≤ mth ∧ mth ≤ 12) ∧ dgF f 0 5 2 = nI mth from ⟨mth, ⟨by omega, by omega⟩, h_11.symm⟩)⟩)) dX0_isDate_113
                · have nc_20 := cv_eq (a := mth) (b := 2) (by omega) (by omega) c_20
                  refine lv_iload_n hx hb dX0_isDate_87 rfl (lv_at hl 2 rfl) ?_
                  refine er_S (As := [.int r__6]) (rest := [.int x_19]) hFX hKK hE hS (c_X0_isLeap l D κ κq r__6) 1 gS_X0_115 hdS_X0_isLeap rfl rfl ⟨Nat.le_of_ble_eq_true rfl, Nat.le_of_ble_eq_true rfl⟩ rfl rfl (Nat.le_of_ble_eq_true rfl) dX0_isDate_88 ⟨Nat.le_of_ble_eq_true rfl, Nat.le_of_ble_eq_true rfl⟩ hl.1 (subP0 hP [] rfl) (fun r__23 hp_24 => ?_)
                  replace hp_24 : ((r__23 = 1) ∨ (r__23 = 0)) := hp_24
                  have ha_25 := hp_24
                  clear hp_24
                  rcases ha_25 with rfl | rfl
                  · refine W.eq (g2 := F0 m 91 ls [.int 1, .int x_19]) rfl ?_
                    refine lv_if_eq (tgt := 98) hx hb dX0_isDate_91 (by decide) (fun c_26 => absurd c_26 (by decide)) (fun c_26 => ?_)
                    refine lv_iconst (v := 1) hx hb dX0_isDate_94 (by decide) ?_
                    refine lv_goto (tgt := 99) hx hb dX0_isDate_95 (by decide) ?_
                    refine lv_iadd hx hb dX0_isDate_99 ?_
                    refine lv_topi (fun x_27 ex_27 => ?_)
                    refine lv_istore (lv' := [(4, .int x_27), (3, .int r__12), (2, .int (nI mth)), (1, .int r__6), (0, .ref b)]) hx hb dX0_isDate_100 hl (by decide) rfl (fun ls hl => ?_)
                    refine lv_iload_n hx hb dX0_isDate_102 rfl (lv_at hl 1 rfl) ?_
                    refine lv_iload hx hb dX0_isDate_103 (lv_at hl 0 rfl) ?_
                    refine lv_icmp_gt (tgt := 112) hx hb dX0_isDate_105 (by decide) (fun c_28 => ?_) (fun c_28 => ?_)
                    · refine lv_iconst (v := 0) hx hb dX0_isDate_112 (by decide) ?_
                      exact cr_iret hx hb hr hlk rfl 0 rfl (by exact Or.inr ((rfl))) dX0_isDate_113
                    · refine lv_iconst (v := 1) hx hb dX0_isDate_108 (by decide) ?_
                      refine lv_goto (tgt := 113) hx hb dX0_isDate_109 (by decide) ?_
                      exact cr_iret hx hb hr hlk rfl 1 rfl (by exact Or.inl (⟨rfl, (show n = 10 from (by first | assumption | omega | rfl | exact Or.inl (by assumption) | exact Or.inr (by assumption))), (show ∃ mth : Nat, (1 ≤ mth ∧ mth ≤ 12) ∧ dgF f 0 5 2 = nI mth from ⟨mth, ⟨by omega, by omega⟩, h_11.symm⟩)⟩)) dX0_isDate_113
                  · refine W.eq (g2 := F0 m 91 ls [.int 0, .int x_19]) rfl ?_
                    refine lv_if_eq (tgt := 98) hx hb dX0_isDate_91 (by decide) (fun c_29 => ?_) (fun c_29 => absurd (by decide) c_29)
                    refine lv_iconst (v := 0) hx hb dX0_isDate_98 (by decide) ?_
                    refine lv_iadd hx hb dX0_isDate_99 ?_
                    refine lv_topi (fun x_30 ex_30 => ?_)
                    refine lv_istore (lv' := [(4, .int x_30), (3, .int r__12), (2, .int (nI mth)), (1, .int r__6), (0, .ref b)]) hx hb dX0_isDate_100 hl (by decide) rfl (fun ls hl => ?_)
                    refine lv_iload_n hx hb dX0_isDate_102 rfl (lv_at hl 1 rfl) ?_
                    refine lv_iload hx hb dX0_isDate_103 (lv_at hl 0 rfl) ?_
                    refine lv_icmp_gt (tgt := 112) hx hb dX0_isDate_105 (by decide) (fun c_31 => ?_) (fun c_31 => ?_)
                    · refine lv_iconst (v := 0) hx hb dX0_isDate_112 (by decide) ?_
                      exact cr_iret hx hb hr hlk rfl 0 rfl (by exact Or.inr ((rfl))) dX0_isDate_113
                    · refine lv_iconst (v := 1) hx hb dX0_isDate_108 (by decide) ?_
                      refine lv_goto (tgt := 113) hx hb dX0_isDate_109 (by decide) ?_
                      exact cr_iret hx hb hr hlk rfl 1 rfl (by exact Or.inl (⟨rfl, (show n = 10 from (by first | assumption | omega | rfl | exact Or.inl (by assumption) | exact Or.inr (by assumption))), (show ∃ mth : Nat, (1 ≤ mth ∧ mth ≤ 12) ∧ dgF f 0 5 2 = nI mth from ⟨mth, ⟨by omega, by omega⟩, h_11.symm⟩)⟩)) dX0_isDate_113
              · refine lv_iconst (v := 0) hx hb dX0_isDate_73 (by decide) ?_
                exact cr_iret hx hb hr hlk rfl 0 rfl (by exact Or.inr ((rfl))) dX0_isDate_74
      · refine lv_iconst (v := 0) hx hb dX0_isDate_24 (by decide) ?_
        exact cr_iret hx hb hr hlk rfl 0 rfl (by exact Or.inr ((rfl))) dX0_isDate_25
set_option maxHeartbeats 4000000 in
set_option maxRecDepth 100000 in
theorem c_X0_days (l : Launch) (D : va_G) (κ : Nat → ClassId) (κq : Nat → Nat) (b : Nat) (n : Nat) (f : Nat → Int32) (h1 : n = 10) (hm : ∃ mth : Nat, (1 ≤ mth ∧ mth ≤ 12) ∧ dgF f 0 5 2 = nI mth) : Er l yX0_days (wl yX0_days cX0_days 5 (some .long)) { frames := 1, cells := 0, slots := 0, locals := 25 } D κ κq [.ref b] [(b, .inl (κ 1, n, .inl f))] (fun r : Int64 => some (.long r)) (fun r : Int64 => True) := by
  refine er_of (by decide +kernel) (Nat.le_of_ble_eq_true rfl) ?_
  intro p e s m args below meth c A ls hx hb hr hml hts hown hlk hKK hK hP hE hl
  have hS : va_S A s.heap s.heap [] := va_S.rf
  have hP : va_P D vwCl ([(b, .inl (κ 1, n, .inl f))] ++ []) s.heap := hP
  have hFX : FX p s m args c cX0_days 5 RX0 := ⟨hx, hb, hml, hown, hts⟩
  have hl : lv_has ls 5 [(0, .ref b)] := hl
  refine lv_aload_n hx hb dX0_days_0 rfl (lv_at hl 0 rfl) ?_
  refine lv_iconst (v := 0) hx hb dX0_days_1 (by decide) ?_
  refine lv_iconst (v := 4) hx hb dX0_days_2 (by decide) ?_
  refine er_S (As := [.ref b, .int 0, .int 4]) (rest := []) hFX hKK hE hS (c_X0_digits l D κ κq b n f 0 4 (by omega) (by omega) (by omega)) 3 gS_X0_107 hdS_X0_digits rfl rfl ⟨Nat.le_of_ble_eq_true rfl, Nat.le_of_ble_eq_true rfl⟩ rfl rfl (Nat.le_of_ble_eq_true rfl) dX0_days_3 ⟨Nat.le_of_ble_eq_true rfl, Nat.le_of_ble_eq_true rfl⟩ hl.1 (subP0 hP [0] rfl) (fun r__1 hp_2 => ?_)
  replace hp_2 : r__1 = dgF f 0 0 (4 - 0) := hp_2
  have h_3 := hp_2
  clear hp_2
  refine W.eq (g2 := F0 m 6 ls [.int r__1]) rfl ?_
  refine lv_istore_n (lv' := [(1, .int r__1), (0, .ref b)]) hx hb dX0_days_6 rfl hl (by decide) rfl (fun ls hl => ?_)
  refine lv_aload_n hx hb dX0_days_7 rfl (lv_at hl 1 rfl) ?_
  refine lv_iconst (v := 5) hx hb dX0_days_8 (by decide) ?_
  refine lv_bipush (v := 7) hx hb dX0_days_9 (by decide) ?_
  refine er_S (As := [.ref b, .int 5, .int 7]) (rest := []) hFX hKK hE hS (c_X0_digits l D κ κq b n f 5 7 (by omega) (by omega) (by omega)) 3 gS_X0_107 hdS_X0_digits rfl rfl ⟨Nat.le_of_ble_eq_true rfl, Nat.le_of_ble_eq_true rfl⟩ rfl rfl (Nat.le_of_ble_eq_true rfl) dX0_days_11 ⟨Nat.le_of_ble_eq_true rfl, Nat.le_of_ble_eq_true rfl⟩ hl.1 (subP0 hP [0] rfl) (fun r__4 hp_5 => ?_)
  replace hp_5 : r__4 = dgF f 0 5 (7 - 5) := hp_5
  have h_6 := hp_5
  clear hp_5
  refine W.eq (g2 := F0 m 14 ls [.int r__4]) rfl ?_
  refine lv_istore_n (lv' := [(2, .int r__4), (1, .int r__1), (0, .ref b)]) hx hb dX0_days_14 rfl hl (by decide) rfl (fun ls hl => ?_)
  refine lv_aload_n hx hb dX0_days_15 rfl (lv_at hl 2 rfl) ?_
  refine lv_bipush (v := 8) hx hb dX0_days_16 (by decide) ?_
  refine lv_bipush (v := 10) hx hb dX0_days_18 (by decide) ?_
  refine er_S (As := [.ref b, .int 8, .int 10]) (rest := []) hFX hKK hE hS (c_X0_digits l D κ κq b n f 8 10 (by omega) (by omega) (by omega)) 3 gS_X0_107 hdS_X0_digits rfl rfl ⟨Nat.le_of_ble_eq_true rfl, Nat.le_of_ble_eq_true rfl⟩ rfl rfl (Nat.le_of_ble_eq_true rfl) dX0_days_20 ⟨Nat.le_of_ble_eq_true rfl, Nat.le_of_ble_eq_true rfl⟩ hl.1 (subP0 hP [0] rfl) (fun r__7 hp_8 => ?_)
  replace hp_8 : r__7 = dgF f 0 8 (10 - 8) := hp_8
  have h_9 := hp_8
  clear hp_8
  refine W.eq (g2 := F0 m 23 ls [.int r__7]) rfl ?_
  refine lv_istore_n (lv' := [(3, .int r__7), (2, .int r__4), (1, .int r__1), (0, .ref b)]) hx hb dX0_days_23 rfl hl (by decide) rfl (fun ls hl => ?_)
  obtain ⟨mth, hmth, emth⟩ := hm
  obtain rfl : r__4 = nI mth := h_6.trans emth
  refine lv_sipush (v := 365) hx hb dX0_days_24 (by decide) ?_
  refine lv_iload_n hx hb dX0_days_27 rfl (lv_at hl 2 rfl) ?_
  refine lv_sipush (v := 1970) hx hb dX0_days_28 (by decide) ?_
  refine lv_isub hx hb dX0_days_31 ?_
  refine lv_topi (fun x_10 ex_10 => ?_)
  refine lv_imul hx hb dX0_days_32 ?_
  refine lv_topi (fun x_11 ex_11 => ?_)
  refine lv_iload_n hx hb dX0_days_33 rfl (lv_at hl 2 rfl) ?_
  refine er_S (As := [.int r__1]) (rest := [.int x_11]) hFX hKK hE hS (c_X0_leapYearsAhead l D κ κq r__1) 1 gS_X0_118 hdS_X0_leapYearsAhead rfl rfl ⟨Nat.le_of_ble_eq_true rfl, Nat.le_of_ble_eq_true rfl⟩ rfl rfl (Nat.le_of_ble_eq_true rfl) dX0_days_34 ⟨Nat.le_of_ble_eq_true rfl, Nat.le_of_ble_eq_true rfl⟩ hl.1 (subP0 hP [] rfl) (fun r__12 hp_13 => ?_)
  refine W.eq (g2 := F0 m 37 ls [.int r__12, .int x_11]) rfl ?_
  refine lv_iadd hx hb dX0_days_37 ?_
  refine lv_topi (fun x_14 ex_14 => ?_)
  refine lv_sipush (v := 1970) hx hb dX0_days_38 (by decide) ?_
  refine er_S (As := [.int 1970]) (rest := [.int x_14]) hFX hKK hE hS (c_X0_leapYearsAhead l D κ κq 1970) 1 gS_X0_118 hdS_X0_leapYearsAhead rfl rfl ⟨Nat.le_of_ble_eq_true rfl, Nat.le_of_ble_eq_true rfl⟩ rfl rfl (Nat.le_of_ble_eq_true rfl) dX0_days_41 ⟨Nat.le_of_ble_eq_true rfl, Nat.le_of_ble_eq_true rfl⟩ hl.1 (subP0 hP [] rfl) (fun r__15 hp_16 => ?_)
  refine W.eq (g2 := F0 m 44 ls [.int r__15, .int x_14]) rfl ?_
  refine lv_isub hx hb dX0_days_44 ?_
  refine lv_topi (fun x_17 ex_17 => ?_)
  refine lv_istore (lv' := [(4, .int x_17), (3, .int r__7), (2, .int (nI mth)), (1, .int r__1), (0, .ref b)]) hx hb dX0_days_45 hl (by decide) rfl (fun ls hl => ?_)
  refine lv_iload hx hb dX0_days_47 (lv_at hl 0 rfl) ?_
  refine va_gets (v := .ref (κq 0)) hx hb hE.1.1 hS hown (hts _ mw_172) (fun _ h9 => h9) dX0_days_49 ?_
  refine lv_iload_n hx hb dX0_days_52 rfl (lv_at hl 2 rfl) ?_
  refine lv_iconst (v := 1) hx hb dX0_days_53 (by decide) ?_
  refine lv_isub hx hb dX0_days_54 ?_
  refine ki (v := (nI (mth - 1))) (pk_sub (a := mth) (b := 1) (by omega)) ?_
  obtain ⟨x_18, ex_18⟩ : ∃ y9 : Int32, dA ((nI (mth - 1)).toNatClampNeg) = y9 := ⟨_, rfl⟩
  refine va_ti (i := nI (mth - 1)) (v := .int x_18) hx hb hE.1.2.1 hS (vp_in_nI (n := (mth - 1)) (N := 12) (by omega) (by omega)) (congrArg Value.int ex_18) dX0_days_55 ?_
  refine lv_iload_n hx hb dX0_days_56 rfl (lv_at hl 2 rfl) ?_
  refine lv_iconst (v := 2) hx hb dX0_days_57 (by decide) ?_
  refine lv_icmp_le (tgt := 72) hx hb dX0_days_58 (by decide) (fun c_19 => ?_) (fun c_19 => ?_)
  · have nc_19 := cv_le (a := mth) (b := 2) (by omega) (by omega) c_19
    refine lv_iconst (v := 0) hx hb dX0_days_72 (by decide) ?_
    refine lv_iadd hx hb dX0_days_73 ?_
    refine lv_topi (fun x_20 ex_20 => ?_)
    refine lv_iadd hx hb dX0_days_74 ?_
    refine lv_topi (fun x_21 ex_21 => ?_)
    refine lv_istore (lv' := [(4, .int x_21), (3, .int r__7), (2, .int (nI mth)), (1, .int r__1), (0, .ref b)]) hx hb dX0_days_75 hl (by decide) rfl (fun ls hl => ?_)
    refine lv_iload hx hb dX0_days_77 (lv_at hl 0 rfl) ?_
    refine lv_iload_n hx hb dX0_days_79 rfl (lv_at hl 1 rfl) ?_
    refine lv_iadd hx hb dX0_days_80 ?_
    refine lv_topi (fun x_22 ex_22 => ?_)
    refine lv_iconst (v := 1) hx hb dX0_days_81 (by decide) ?_
    refine lv_isub hx hb dX0_days_82 ?_
    refine lv_topi (fun x_23 ex_23 => ?_)
    refine lv_i2l (v := x_23.toInt64) hx hb dX0_days_83 rfl ?_
    exact cr_lret hx hb hr hlk x_23.toInt64 rfl trivial dX0_days_84
  · have nc_19 := cv_nle (a := mth) (b := 2) (by omega) (by omega) c_19
    refine lv_iload_n hx hb dX0_days_61 rfl (lv_at hl 3 rfl) ?_
    refine er_S (As := [.int r__1]) (rest := [.int x_18, .int x_17]) hFX hKK hE hS (c_X0_isLeap l D κ κq r__1) 1 gS_X0_115 hdS_X0_isLeap rfl rfl ⟨Nat.le_of_ble_eq_true rfl, Nat.le_of_ble_eq_true rfl⟩ rfl rfl (Nat.le_of_ble_eq_true rfl) dX0_days_62 ⟨Nat.le_of_ble_eq_true rfl, Nat.le_of_ble_eq_true rfl⟩ hl.1 (subP0 hP [] rfl) (fun r__24 hp_25 => ?_)
    replace hp_25 : ((r__24 = 1) ∨ (r__24 = 0)) := hp_25
    have ha_26 := hp_25
    clear hp_25
    rcases ha_26 with rfl | rfl
    · refine W.eq (g2 := F0 m 65 ls [.int 1, .int x_18, .int x_17]) rfl ?_
      refine lv_if_eq (tgt := 72) hx hb dX0_days_65 (by decide) (fun c_27 => absurd c_27 (by decide)) (fun c_27 => ?_)
      refine lv_iconst (v := 1) hx hb dX0_days_68 (by decide) ?_
      refine lv_goto (tgt := 73) hx hb dX0_days_69 (by decide) ?_
      refine lv_iadd hx hb dX0_days_73 ?_
      refine lv_topi (fun x_28 ex_28 => ?_)
      refine lv_iadd hx hb dX0_days_74 ?_
      refine lv_topi (fun x_29 ex_29 => ?_)
      refine lv_istore (lv' := [(4, .int x_29), (3, .int r__7), (2, .int (nI mth)), (1, .int r__1), (0, .ref b)]) hx hb dX0_days_75 hl (by decide) rfl (fun ls hl => ?_)
      refine lv_iload hx hb dX0_days_77 (lv_at hl 0 rfl) ?_
      refine lv_iload_n hx hb dX0_days_79 rfl (lv_at hl 1 rfl) ?_
      refine lv_iadd hx hb dX0_days_80 ?_
      refine lv_topi (fun x_30 ex_30 => ?_)
      refine lv_iconst (v := 1) hx hb dX0_days_81 (by decide) ?_
      refine lv_isub hx hb dX0_days_82 ?_
      refine lv_topi (fun x_31 ex_31 => ?_)
      refine lv_i2l (v := x_31.toInt64) hx hb dX0_days_83 rfl ?_
      exact cr_lret hx hb hr hlk x_31.toInt64 rfl trivial dX0_days_84
    · refine W.eq (g2 := F0 m 65 ls [.int 0, .int x_18, .int x_17]) rfl ?_
      refine lv_if_eq (tgt := 72) hx hb dX0_days_65 (by decide) (fun c_32 => ?_) (fun c_32 => absurd (by decide) c_32)
      refine lv_iconst (v := 0) hx hb dX0_days_72 (by decide) ?_
      refine lv_iadd hx hb dX0_days_73 ?_
      refine lv_topi (fun x_33 ex_33 => ?_)
      refine lv_iadd hx hb dX0_days_74 ?_
      refine lv_topi (fun x_34 ex_34 => ?_)
      refine lv_istore (lv' := [(4, .int x_34), (3, .int r__7), (2, .int (nI mth)), (1, .int r__1), (0, .ref b)]) hx hb dX0_days_75 hl (by decide) rfl (fun ls hl => ?_)
      refine lv_iload hx hb dX0_days_77 (lv_at hl 0 rfl) ?_
      refine lv_iload_n hx hb dX0_days_79 rfl (lv_at hl 1 rfl) ?_
      refine lv_iadd hx hb dX0_days_80 ?_
      refine lv_topi (fun x_35 ex_35 => ?_)
      refine lv_iconst (v := 1) hx hb dX0_days_81 (by decide) ?_
      refine lv_isub hx hb dX0_days_82 ?_
      refine lv_topi (fun x_36 ex_36 => ?_)
      refine lv_i2l (v := x_36.toInt64) hx hb dX0_days_83 rfl ?_
      exact cr_lret hx hb hr hlk x_36.toInt64 rfl trivial dX0_days_84
set_option maxHeartbeats 4000000 in
set_option maxRecDepth 100000 in
theorem c_X0_numberOf (l : Launch) (D : va_G) (κ : Nat → ClassId) (κq : Nat → Nat) (b : Nat) (n : Nat) (f : Nat → Int32) (k : Nat) (h1 : n ≤ 20) (hk1 : k ≤ 5) (hk2 : k = 0 ∨ 1 ≤ n) (hk3 : k = 4 → n = 10 ∧ (∃ mth : Nat, (1 ≤ mth ∧ mth ≤ 12) ∧ dgF f 0 5 2 = nI mth)) : Er l yX0_numberOf (wl yX0_numberOf cX0_numberOf 2 (some .long)) { frames := 2, cells := 0, slots := 0, locals := 49 } D κ κq [.ref b, .int (nI k)] [(b, .inl (κ 1, n, .inl f))] (fun r : Int64 => some (.long r)) (fun r : Int64 => True) := by
  refine er_of (by decide +kernel) (Nat.le_of_ble_eq_true rfl) ?_
  intro p e s m args below meth c A ls hx hb hr hml hts hown hlk hKK hK hP hE hl
  have hS : va_S A s.heap s.heap [] := va_S.rf
  have hP : va_P D vwCl ([(b, .inl (κ 1, n, .inl f))] ++ []) s.heap := hP
  have hFX : FX p s m args c cX0_numberOf 2 RX0 := ⟨hx, hb, hml, hown, hts⟩
  have hl : lv_has ls 2 [(0, .ref b), (1, .int (nI k))] := hl
  rcases (show k = 0 ∨ k = 1 ∨ k = 2 ∨ k = 3 ∨ k = 4 ∨ k = 5 by omega) with rfl | rfl | rfl | rfl | rfl | rfl
  · have hl : lv_has ls 2 [(0, .ref b), (1, .int 0)] := hl
    refine lv_iload_n hx hb dX0_numberOf_0 rfl (lv_at hl 1 rfl) ?_
    refine lv_tableOut (tgt := 71) hx hb dX0_numberOf_1 (by decide) (by decide) ?_
    refine lv_aload_n hx hb dX0_numberOf_71 rfl (lv_at hl 0 rfl) ?_
    refine va_alen hx hb hK hP 0 1 rfl rfl (v := nI n) rfl dX0_numberOf_72 ?_
    refine lv_i2l (v := (nI n).toInt64) hx hb dX0_numberOf_73 rfl ?_
    exact cr_lret hx hb hr hlk ((nI n).toInt64) rfl trivial dX0_numberOf_74
  · have hl : lv_has ls 2 [(0, .ref b), (1, .int 1)] := hl
    refine lv_iload_n hx hb dX0_numberOf_0 rfl (lv_at hl 1 rfl) ?_
    refine lv_tableIn (tgt := 32) hx hb dX0_numberOf_1 (by decide) (by decide) rfl (by decide) ?_
    refine lv_aload_n hx hb dX0_numberOf_32 rfl (lv_at hl 0 rfl) ?_
    refine lv_iconst (v := 0) hx hb dX0_numberOf_33 (by decide) ?_
    refine va_bald hx hb hK hP 0 1 rfl rfl (i := 0) (vp_c (c := 0) (by decide) (by omega)) dX0_numberOf_34 ?_
    obtain ⟨x_1, ex_1⟩ : ∃ y9 : Int32, f 0 = y9 := ⟨_, rfl⟩
    refine kv (v := .int x_1) (congrArg Value.int ex_1) ?_
    refine lv_bipush (v := 121) hx hb dX0_numberOf_35 (by decide) ?_
    refine lv_icmp_eq (tgt := 48) hx hb dX0_numberOf_37 (by decide) (fun c_2 => ?_) (fun c_2 => ?_)
    · refine lv_lconst (v := 1) hx hb dX0_numberOf_48 (by decide) ?_
      refine lv_goto (tgt := 53) hx hb dX0_numberOf_49 (by decide) ?_
      exact cr_lret hx hb hr hlk 1 rfl trivial dX0_numberOf_53
    · refine lv_aload_n hx hb dX0_numberOf_40 rfl (lv_at hl 0 rfl) ?_
      refine lv_iconst (v := 0) hx hb dX0_numberOf_41 (by decide) ?_
      refine va_bald hx hb hK hP 0 1 rfl rfl (i := 0) (vp_c (c := 0) (by decide) (by omega)) dX0_numberOf_42 ?_
      refine kv (v := .int x_1) (congrArg Value.int (ex_1)) ?_
      refine lv_bipush (v := 116) hx hb dX0_numberOf_43 (by decide) ?_
      refine lv_icmp_ne (tgt := 52) hx hb dX0_numberOf_45 (by decide) (fun c_3 => ?_) (fun c_3 => ?_)
      · refine lv_lconst (v := 0) hx hb dX0_numberOf_52 (by decide) ?_
        exact cr_lret hx hb hr hlk 0 rfl trivial dX0_numberOf_53
      · refine lv_lconst (v := 1) hx hb dX0_numberOf_48 (by decide) ?_
        refine lv_goto (tgt := 53) hx hb dX0_numberOf_49 (by decide) ?_
        exact cr_lret hx hb hr hlk 1 rfl trivial dX0_numberOf_53
  · have hl : lv_has ls 2 [(0, .ref b), (1, .int 2)] := hl
    refine lv_iload_n hx hb dX0_numberOf_0 rfl (lv_at hl 1 rfl) ?_
    refine lv_tableIn (tgt := 54) hx hb dX0_numberOf_1 (by decide) (by decide) rfl (by decide) ?_
    refine lv_aload_n hx hb dX0_numberOf_54 rfl (lv_at hl 0 rfl) ?_
    refine lv_iconst (v := 0) hx hb dX0_numberOf_55 (by decide) ?_
    refine er_S (As := [.ref b, .int 0]) (rest := []) hFX hKK hE hS (c_X0_numeral l D κ κq b n f 0 (by omega) (by omega) (by omega)) 2 gS_X0_84 hdS_X0_numeral rfl rfl ⟨Nat.le_of_ble_eq_true rfl, Nat.le_of_ble_eq_true rfl⟩ rfl rfl (Nat.le_of_ble_eq_true rfl) dX0_numberOf_56 ⟨Nat.le_of_ble_eq_true rfl, Nat.le_of_ble_eq_true rfl⟩ hl.1 (subP0 hP [0] rfl) (fun r__4 hp_5 => ?_)
    refine W.eq (g2 := F0 m 59 ls [.long r__4]) rfl ?_
    exact cr_lret hx hb hr hlk r__4 rfl trivial dX0_numberOf_59
  · have hl : lv_has ls 2 [(0, .ref b), (1, .int 3)] := hl
    refine lv_iload_n hx hb dX0_numberOf_0 rfl (lv_at hl 1 rfl) ?_
    refine lv_tableIn (tgt := 60) hx hb dX0_numberOf_1 (by decide) (by decide) rfl (by decide) ?_
    refine lv_aload_n hx hb dX0_numberOf_60 rfl (lv_at hl 0 rfl) ?_
    refine lv_iconst (v := 4) hx hb dX0_numberOf_61 (by decide) ?_
    refine er_S (As := [.ref b, .int 4]) (rest := []) hFX hKK hE hS (c_X0_numeral l D κ κq b n f 4 (by omega) (by omega) (by omega)) 2 gS_X0_84 hdS_X0_numeral rfl rfl ⟨Nat.le_of_ble_eq_true rfl, Nat.le_of_ble_eq_true rfl⟩ rfl rfl (Nat.le_of_ble_eq_true rfl) dX0_numberOf_62 ⟨Nat.le_of_ble_eq_true rfl, Nat.le_of_ble_eq_true rfl⟩ hl.1 (subP0 hP [0] rfl) (fun r__6 hp_7 => ?_)
    refine W.eq (g2 := F0 m 65 ls [.long r__6]) rfl ?_
    exact cr_lret hx hb hr hlk r__6 rfl trivial dX0_numberOf_65
  · have hl : lv_has ls 2 [(0, .ref b), (1, .int 4)] := hl
    obtain ⟨h10, hmth⟩ := hk3 rfl
    refine lv_iload_n hx hb dX0_numberOf_0 rfl (lv_at hl 1 rfl) ?_
    refine lv_tableIn (tgt := 66) hx hb dX0_numberOf_1 (by decide) (by decide) rfl (by decide) ?_
    refine lv_aload_n hx hb dX0_numberOf_66 rfl (lv_at hl 0 rfl) ?_
    refine er_S (As := [.ref b]) (rest := []) hFX hKK hE hS (c_X0_days l D κ κq b n f (by omega) (by assumption)) 1 gS_X0_87 hdS_X0_days rfl rfl ⟨Nat.le_of_ble_eq_true rfl, Nat.le_of_ble_eq_true rfl⟩ rfl rfl (Nat.le_of_ble_eq_true rfl) dX0_numberOf_67 ⟨Nat.le_of_ble_eq_true rfl, Nat.le_of_ble_eq_true rfl⟩ hl.1 (subP0 hP [0] rfl) (fun r__8 hp_9 => ?_)
    refine W.eq (g2 := F0 m 70 ls [.long r__8]) rfl ?_
    exact cr_lret hx hb hr hlk r__8 rfl trivial dX0_numberOf_70
  · have hl : lv_has ls 2 [(0, .ref b), (1, .int 5)] := hl
    refine lv_iload_n hx hb dX0_numberOf_0 rfl (lv_at hl 1 rfl) ?_
    refine lv_tableOut (tgt := 71) hx hb dX0_numberOf_1 (by decide) (by decide) ?_
    refine lv_aload_n hx hb dX0_numberOf_71 rfl (lv_at hl 0 rfl) ?_
    refine va_alen hx hb hK hP 0 1 rfl rfl (v := nI n) rfl dX0_numberOf_72 ?_
    refine lv_i2l (v := (nI n).toInt64) hx hb dX0_numberOf_73 rfl ?_
    exact cr_lret hx hb hr hlk ((nI n).toInt64) rfl trivial dX0_numberOf_74
set_option maxHeartbeats 4000000 in
set_option maxRecDepth 100000 in
theorem c_X0_kindOf (l : Launch) (D : va_G) (κ : Nat → ClassId) (κq : Nat → Nat) (b : Nat) (n : Nat) (f : Nat → Int32) (h1 : n ≤ 20) : Er l yX0_kindOf (wl yX0_kindOf cX0_kindOf 1 (some .int)) { frames := 5, cells := 0, slots := 0, locals := 107 } D κ κq [.ref b] [(b, .inl (κ 1, n, .inl f))] (fun k : Nat => some (.int (nI k))) (fun k : Nat => k ≤ 5 ∧ (k = 0 ∨ 1 ≤ n) ∧ (k = 4 → n = 10 ∧ (∃ mth : Nat, (1 ≤ mth ∧ mth ≤ 12) ∧ dgF f 0 5 2 = nI mth))) := by
  refine er_of (by decide +kernel) (Nat.le_of_ble_eq_true rfl) ?_
  intro p e s m args below meth c A ls hx hb hr hml hts hown hlk hKK hK hP hE hl
  have hS : va_S A s.heap s.heap [] := va_S.rf
  have hP : va_P D vwCl ([(b, .inl (κ 1, n, .inl f))] ++ []) s.heap := hP
  have hFX : FX p s m args c cX0_kindOf 1 RX0 := ⟨hx, hb, hml, hown, hts⟩
  have hl : lv_has ls 1 [(0, .ref b)] := hl
  refine lv_aload_n hx hb dX0_kindOf_0 rfl (lv_at hl 0 rfl) ?_
  refine va_alen hx hb hK hP 0 1 rfl rfl (v := nI n) rfl dX0_kindOf_1 ?_
  refine lv_if_ne (tgt := 7) hx hb dX0_kindOf_2 (by decide) (fun c_1 => ?_) (fun c_1 => ?_)
  · have nc_1 := cv_ne (a := n) (b := 0) (by omega) (by omega) c_1
    refine lv_aload_n hx hb dX0_kindOf_7 rfl (lv_at hl 0 rfl) ?_
    refine va_ldcS (q := κq 2) (tx := "yes") hx hb hown hE.2.1 dX0_kindOf_8 ?_
    refine er_S (As := [.ref b, .ref (κq 2)]) (rest := []) hFX hKK hE hS (c_X0_isWord_0 l D κ κq b n f (by omega)) 2 gS_X0_67 hdS_X0_isWord rfl rfl ⟨Nat.le_of_ble_eq_true rfl, Nat.le_of_ble_eq_true rfl⟩ rfl rfl (Nat.le_of_ble_eq_true rfl) dX0_kindOf_10 ⟨Nat.le_of_ble_eq_true rfl, Nat.le_of_ble_eq_true rfl⟩ hl.1 (subP0 hP [0] rfl) (fun r__2 hp_3 => ?_)
    replace hp_3 : ((r__2 = 1 ∧ 1 ≤ n) ∨ (r__2 = 0)) := hp_3
    have ha_4 := hp_3
    clear hp_3
    rcases ha_4 with ⟨rfl, a_5⟩ | rfl
    · refine W.eq (g2 := F0 m 13 ls [.int 1]) rfl ?_
      refine lv_if_ne (tgt := 43) hx hb dX0_kindOf_13 (by decide) (fun c_6 => ?_) (fun c_6 => absurd c_6 (by decide))
      refine lv_iconst (v := 1) hx hb dX0_kindOf_43 (by decide) ?_
      exact cr_iret hx hb hr hlk rfl 1 rfl ⟨(show 1 ≤ 5 from (by first | assumption | omega | rfl | exact Or.inl (by assumption) | exact Or.inr (by assumption))), (show 1 = 0 ∨ 1 ≤ n from (by first | assumption | omega | rfl | exact Or.inl (by assumption) | exact Or.inr (by assumption))), (show 1 = 4 → n = 10 ∧ (∃ mth : Nat, (1 ≤ mth ∧ mth ≤ 12) ∧ dgF f 0 5 2 = nI mth) from (fun h9 => absurd h9 (by decide)))⟩ dX0_kindOf_44
    · refine W.eq (g2 := F0 m 13 ls [.int 0]) rfl ?_
      refine lv_if_ne (tgt := 43) hx hb dX0_kindOf_13 (by decide) (fun c_7 => absurd c_7 (by decide)) (fun c_7 => ?_)
      refine lv_aload_n hx hb dX0_kindOf_16 rfl (lv_at hl 0 rfl) ?_
      refine va_ldcS (q := κq 3) (tx := "no") hx hb hown hE.2.2.1 dX0_kindOf_17 ?_
      refine er_S (As := [.ref b, .ref (κq 3)]) (rest := []) hFX hKK hE hS (c_X0_isWord_1 l D κ κq b n f (by omega)) 2 gS_X0_67 hdS_X0_isWord rfl rfl ⟨Nat.le_of_ble_eq_true rfl, Nat.le_of_ble_eq_true rfl⟩ rfl rfl (Nat.le_of_ble_eq_true rfl) dX0_kindOf_19 ⟨Nat.le_of_ble_eq_true rfl, Nat.le_of_ble_eq_true rfl⟩ hl.1 (subP0 hP [0] rfl) (fun r__8 hp_9 => ?_)
      replace hp_9 : ((r__8 = 1 ∧ 1 ≤ n) ∨ (r__8 = 0)) := hp_9
      have ha_10 := hp_9
      clear hp_9
      rcases ha_10 with ⟨rfl, a_11⟩ | rfl
      · refine W.eq (g2 := F0 m 22 ls [.int 1]) rfl ?_
        refine lv_if_ne (tgt := 43) hx hb dX0_kindOf_22 (by decide) (fun c_12 => ?_) (fun c_12 => absurd c_12 (by decide))
        refine lv_iconst (v := 1) hx hb dX0_kindOf_43 (by decide) ?_
        exact cr_iret hx hb hr hlk rfl 1 rfl ⟨(show 1 ≤ 5 from (by first | assumption | omega | rfl | exact Or.inl (by assumption) | exact Or.inr (by assumption))), (show 1 = 0 ∨ 1 ≤ n from (by first | assumption | omega | rfl | exact Or.inl (by assumption) | exact Or.inr (by assumption))), (show 1 = 4 → n = 10 ∧ (∃ mth : Nat, (1 ≤ mth ∧ mth ≤ 12) ∧ dgF f 0 5 2 = nI mth) from (fun h9 => absurd h9 (by decide)))⟩ dX0_kindOf_44
      · refine W.eq (g2 := F0 m 22 ls [.int 0]) rfl ?_
        refine lv_if_ne (tgt := 43) hx hb dX0_kindOf_22 (by decide) (fun c_13 => absurd c_13 (by decide)) (fun c_13 => ?_)
        refine lv_aload_n hx hb dX0_kindOf_25 rfl (lv_at hl 0 rfl) ?_
        refine va_ldcS (q := κq 4) (tx := "true") hx hb hown hE.2.2.2.1 dX0_kindOf_26 ?_
        refine er_S (As := [.ref b, .ref (κq 4)]) (rest := []) hFX hKK hE hS (c_X0_isWord_2 l D κ κq b n f (by omega)) 2 gS_X0_67 hdS_X0_isWord rfl rfl ⟨Nat.le_of_ble_eq_true rfl, Nat.le_of_ble_eq_true rfl⟩ rfl rfl (Nat.le_of_ble_eq_true rfl) dX0_kindOf_28 ⟨Nat.le_of_ble_eq_true rfl, Nat.le_of_ble_eq_true rfl⟩ hl.1 (subP0 hP [0] rfl) (fun r__14 hp_15 => ?_)
        replace hp_15 : ((r__14 = 1 ∧ 1 ≤ n) ∨ (r__14 = 0)) := hp_15
        have ha_16 := hp_15
        clear hp_15
        rcases ha_16 with ⟨rfl, a_17⟩ | rfl
        · refine W.eq (g2 := F0 m 31 ls [.int 1]) rfl ?_
          refine lv_if_ne (tgt := 43) hx hb dX0_kindOf_31 (by decide) (fun c_18 => ?_) (fun c_18 => absurd c_18 (by decide))
          refine lv_iconst (v := 1) hx hb dX0_kindOf_43 (by decide) ?_
          exact cr_iret hx hb hr hlk rfl 1 rfl ⟨(show 1 ≤ 5 from (by first | assumption | omega | rfl | exact Or.inl (by assumption) | exact Or.inr (by assumption))), (show 1 = 0 ∨ 1 ≤ n from (by first | assumption | omega | rfl | exact Or.inl (by assumption) | exact Or.inr (by assumption))), (show 1 = 4 → n = 10 ∧ (∃ mth : Nat, (1 ≤ mth ∧ mth ≤ 12) ∧ dgF f 0 5 2 = nI mth) from (fun h9 => absurd h9 (by decide)))⟩ dX0_kindOf_44
        · refine W.eq (g2 := F0 m 31 ls [.int 0]) rfl ?_
          refine lv_if_ne (tgt := 43) hx hb dX0_kindOf_31 (by decide) (fun c_19 => absurd c_19 (by decide)) (fun c_19 => ?_)
          refine lv_aload_n hx hb dX0_kindOf_34 rfl (lv_at hl 0 rfl) ?_
          refine va_ldcS (q := κq 5) (tx := "false") hx hb hown hE.2.2.2.2.1 dX0_kindOf_35 ?_
          refine er_S (As := [.ref b, .ref (κq 5)]) (rest := []) hFX hKK hE hS (c_X0_isWord_3 l D κ κq b n f (by omega)) 2 gS_X0_67 hdS_X0_isWord rfl rfl ⟨Nat.le_of_ble_eq_true rfl, Nat.le_of_ble_eq_true rfl⟩ rfl rfl (Nat.le_of_ble_eq_true rfl) dX0_kindOf_37 ⟨Nat.le_of_ble_eq_true rfl, Nat.le_of_ble_eq_true rfl⟩ hl.1 (subP0 hP [0] rfl) (fun r__20 hp_21 => ?_)
          replace hp_21 : ((r__20 = 1 ∧ 1 ≤ n) ∨ (r__20 = 0)) := hp_21
          have ha_22 := hp_21
          clear hp_21
          rcases ha_22 with ⟨rfl, a_23⟩ | rfl
          · refine W.eq (g2 := F0 m 40 ls [.int 1]) rfl ?_
            refine lv_if_eq (tgt := 45) hx hb dX0_kindOf_40 (by decide) (fun c_24 => absurd c_24 (by decide)) (fun c_24 => ?_)
            refine lv_iconst (v := 1) hx hb dX0_kindOf_43 (by decide) ?_
            exact cr_iret hx hb hr hlk rfl 1 rfl ⟨(show 1 ≤ 5 from (by first | assumption | omega | rfl | exact Or.inl (by assumption) | exact Or.inr (by assumption))), (show 1 = 0 ∨ 1 ≤ n from (by first | assumption | omega | rfl | exact Or.inl (by assumption) | exact Or.inr (by assumption))), (show 1 = 4 → n = 10 ∧ (∃ mth : Nat, (1 ≤ mth ∧ mth ≤ 12) ∧ dgF f 0 5 2 = nI mth) from (fun h9 => absurd h9 (by decide)))⟩ dX0_kindOf_44
          · refine W.eq (g2 := F0 m 40 ls [.int 0]) rfl ?_
            refine lv_if_eq (tgt := 45) hx hb dX0_kindOf_40 (by decide) (fun c_25 => ?_) (fun c_25 => absurd (by decide) c_25)
            refine lv_aload_n hx hb dX0_kindOf_45 rfl (lv_at hl 0 rfl) ?_
            refine er_S (As := [.ref b]) (rest := []) hFX hKK hE hS (c_X0_isDate l D κ κq b n f (by omega)) 1 gS_X0_77 hdS_X0_isDate rfl rfl ⟨Nat.le_of_ble_eq_true rfl, Nat.le_of_ble_eq_true rfl⟩ rfl rfl (Nat.le_of_ble_eq_true rfl) dX0_kindOf_46 ⟨Nat.le_of_ble_eq_true rfl, Nat.le_of_ble_eq_true rfl⟩ hl.1 (subP0 hP [0] rfl) (fun r__26 hp_27 => ?_)
            replace hp_27 : ((r__26 = 1 ∧ n = 10 ∧ (∃ mth : Nat, (1 ≤ mth ∧ mth ≤ 12) ∧ dgF f 0 5 2 = nI mth)) ∨ (r__26 = 0)) := hp_27
            have ha_28 := hp_27
            clear hp_27
            rcases ha_28 with ⟨rfl, a_29, a_30⟩ | rfl
            · refine W.eq (g2 := F0 m 49 ls [.int 1]) rfl ?_
              refine lv_if_eq (tgt := 56) hx hb dX0_kindOf_49 (by decide) (fun c_31 => absurd c_31 (by decide)) (fun c_31 => ?_)
              refine lv_iconst (v := 4) hx hb dX0_kindOf_52 (by decide) ?_
              refine lv_goto (tgt := 60) hx hb dX0_kindOf_53 (by decide) ?_
              exact cr_iret hx hb hr hlk rfl 4 rfl ⟨(show 4 ≤ 5 from (by first | assumption | omega | rfl | exact Or.inl (by assumption) | exact Or.inr (by assumption))), (show 4 = 0 ∨ 1 ≤ n from (by first | assumption | omega | rfl | exact Or.inl (by assumption) | exact Or.inr (by assumption))), (show 4 = 4 → n = 10 ∧ (∃ mth : Nat, (1 ≤ mth ∧ mth ≤ 12) ∧ dgF f 0 5 2 = nI mth) from (fun _ => ⟨a_29, a_30⟩))⟩ dX0_kindOf_60
            · refine W.eq (g2 := F0 m 49 ls [.int 0]) rfl ?_
              refine lv_if_eq (tgt := 56) hx hb dX0_kindOf_49 (by decide) (fun c_32 => ?_) (fun c_32 => absurd (by decide) c_32)
              refine lv_aload_n hx hb dX0_kindOf_56 rfl (lv_at hl 0 rfl) ?_
              refine er_S (As := [.ref b]) (rest := []) hFX hKK hE hS (c_X0_numeralKind l D κ κq b n f (by omega) (by omega)) 1 gS_X0_81 hdS_X0_numeralKind rfl rfl ⟨Nat.le_of_ble_eq_true rfl, Nat.le_of_ble_eq_true rfl⟩ rfl rfl (Nat.le_of_ble_eq_true rfl) dX0_kindOf_57 ⟨Nat.le_of_ble_eq_true rfl, Nat.le_of_ble_eq_true rfl⟩ hl.1 (subP0 hP [0] rfl) (fun r__33 hp_34 => ?_)
              replace hp_34 : (r__33 = 2 ∨ r__33 = 3 ∨ r__33 = 5) := hp_34
              have h_35 := hp_34
              clear hp_34
              refine W.eq (g2 := F0 m 60 ls [.int (nI r__33)]) rfl ?_
              exact cr_iret hx hb hr hlk rfl r__33 rfl ⟨(show r__33 ≤ 5 from (by first | assumption | omega | rfl | exact Or.inl (by assumption) | exact Or.inr (by assumption))), (show r__33 = 0 ∨ 1 ≤ n from (by first | assumption | omega | rfl | exact Or.inl (by assumption) | exact Or.inr (by assumption))), (show r__33 = 4 → n = 10 ∧ (∃ mth : Nat, (1 ≤ mth ∧ mth ≤ 12) ∧ dgF f 0 5 2 = nI mth) from (fun h9 => absurd h9 (by omega)))⟩ dX0_kindOf_60
  · have nc_1 := cv_eq (a := n) (b := 0) (by omega) (by omega) c_1
    refine lv_iconst (v := 0) hx hb dX0_kindOf_5 (by decide) ?_
    exact cr_iret hx hb hr hlk rfl 0 rfl ⟨(show 0 ≤ 5 from (by first | assumption | omega | rfl | exact Or.inl (by assumption) | exact Or.inr (by assumption))), (show 0 = 0 ∨ 1 ≤ n from (by first | assumption | omega | rfl | exact Or.inl (by assumption) | exact Or.inr (by assumption))), (show 0 = 4 → n = 10 ∧ (∃ mth : Nat, (1 ≤ mth ∧ mth ≤ 12) ∧ dgF f 0 5 2 = nI mth) from (fun h9 => absurd h9 (by decide)))⟩ dX0_kindOf_6
