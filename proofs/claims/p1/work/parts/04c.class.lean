theorem nlt0 {a : Int32} (h : ¬ a < 0) : ¬ a < 0 := h
def canD (a b : Int32) : Prop := (a = 0 ∧ (b = 44 ∨ b = 59 ∨ b = 124 ∨ b = 9)) ∨ (a = 1 ∧ (b = 34 ∨ b = 39)) ∨ (a = 2 ∧ (b = 0 ∨ b = 1)) ∨ (a = 3 ∧ (b = 0 ∨ b = 1)) ∨ (a = 4 ∧ ¬ b < 0 ∧ b ≤ 3) ∨ (a = 5 ∧ (b = 0 ∨ b = 35 ∨ b = 37 ∨ b = 42))
theorem canD_out {a b : Int32} (h : a.toInt < 0 ∨ 5 < a.toInt) : ¬ canD a b := by
  rintro (⟨rfl, _⟩ | ⟨rfl, _⟩ | ⟨rfl, _⟩ | ⟨rfl, _⟩ | ⟨rfl, _⟩ | ⟨rfl, _⟩) <;> exact absurd h (by decide)
theorem canD_in {a b : Int32} (h : canD a b) : vp_in a 6 := by
  rcases h with ⟨rfl, _⟩ | ⟨rfl, _⟩ | ⟨rfl, _⟩ | ⟨rfl, _⟩ | ⟨rfl, _⟩ | ⟨rfl, _⟩ <;> exact vp_in_iff.mpr (by decide)
def lookF (a : Int32) : Int32 := if a = 0 then 44 else if a = 1 then 34 else if a = 2 then 1 else if a < 3 then -1 else if 10 < a then -1 else 0
theorem look_d {a : Int32} (h0 : ¬ a < 0) (h6 : ¬ 6 ≤ a) : dial0 a.toNatClampNeg = lookF a := by
  obtain ⟨j, hj, rfl⟩ := vp_in_of (vp_of (M := 6) (n := 6) (by decide) h0 h6) (by decide)
  rw [nI_clamp (by omega)]
  rcases (show j = 0 ∨ j = 1 ∨ j = 2 ∨ j = 3 ∨ j = 4 ∨ j = 5 by omega) with rfl | rfl | rfl | rfl | rfl | rfl <;> decide
theorem look_out {a : Int32} (h : a.toInt < 6 ∨ 10 < a.toInt) (h2 : a < 0 ∨ 6 ≤ a) : lookF a = -1 := by
  have e0 : (0 : Int32).toInt = 0 := by decide
  have e1 : (1 : Int32).toInt = 1 := by decide
  have e2 : (2 : Int32).toInt = 2 := by decide
  have e3 : (3 : Int32).toInt = 3 := by decide
  have e6 : (6 : Int32).toInt = 6 := by decide
  have e10 : (10 : Int32).toInt = 10 := by decide
  rw [Int32.lt_iff_toInt_lt, Int32.le_iff_toInt_le, e0, e6] at h2
  unfold lookF
  rw [if_neg (fun q => by rw [q, e0] at h h2; omega), if_neg (fun q => by rw [q, e1] at h h2; omega), if_neg (fun q => by rw [q, e2] at h h2; omega)]
  split
  · rfl
  · rename_i q
    rw [Int32.lt_iff_toInt_lt, e3] at q
    rw [if_pos (by rw [Int32.lt_iff_toInt_lt, e10]; omega)]
theorem mw_265 : Cond.code yX4_toLine cX4_toLine 1 (some .boolean) ∈ wsL_law := List.mem_of_getElem? (i := 265) (by decide +kernel)
theorem dX4_toLine_0 : decode cX4_toLine 0 = .ok (.aload_n 0, 1) := by decide +kernel
theorem dX4_toLine_1 : decode cX4_toLine 1 = .ok (.getfield 20, 3) := by decide +kernel
theorem dX4_toLine_4 : decode cX4_toLine 4 = .ok (.aload_n 0, 1) := by decide +kernel
theorem dX4_toLine_5 : decode cX4_toLine 5 = .ok (.getfield 55, 3) := by decide +kernel
theorem dX4_toLine_8 : decode cX4_toLine 8 = .ok (.getfield 80, 3) := by decide +kernel
theorem mw_261 : Cond.fieldLink RX4 80 "TypedTables$Tape" "length" "I" ∈ wsL_law := List.mem_of_getElem? (i := 261) (by decide +kernel)
theorem dX4_toLine_11 : decode cX4_toLine 11 = .ok (.if_icmp .ge 109, 3) := by decide +kernel
theorem dX4_toLine_120 : decode cX4_toLine 120 = .ok (.iconst 0, 1) := by decide +kernel
theorem dX4_toLine_121 : decode cX4_toLine 121 = .ok (.ireturn, 1) := by decide +kernel
theorem mw_364 : Cond.code yX2_tell cX2_tell 7 none ∈ wsL_law := List.mem_of_getElem? (i := 364) (by decide +kernel)
theorem dX2_tell_0 : decode cX2_tell 0 = .ok (.aload_n 0, 1) := by decide +kernel
theorem dX2_tell_1 : decode cX2_tell 1 = .ok (.iload_n 1, 1) := by decide +kernel
theorem dX2_tell_2 : decode cX2_tell 2 = .ok (.putfield 9, 3) := by decide +kernel
theorem dX2_tell_5 : decode cX2_tell 5 = .ok (.aload_n 0, 1) := by decide +kernel
theorem dX2_tell_6 : decode cX2_tell 6 = .ok (.iload_n 2, 1) := by decide +kernel
theorem dX2_tell_7 : decode cX2_tell 7 = .ok (.putfield 15, 3) := by decide +kernel
theorem dX2_tell_10 : decode cX2_tell 10 = .ok (.aload_n 0, 1) := by decide +kernel
theorem dX2_tell_11 : decode cX2_tell 11 = .ok (.iload_n 3, 1) := by decide +kernel
theorem dX2_tell_12 : decode cX2_tell 12 = .ok (.putfield 24, 3) := by decide +kernel
theorem dX2_tell_15 : decode cX2_tell 15 = .ok (.aload_n 0, 1) := by decide +kernel
theorem dX2_tell_16 : decode cX2_tell 16 = .ok (.iconst 0, 1) := by decide +kernel
theorem dX2_tell_17 : decode cX2_tell 17 = .ok (.putfield 18, 3) := by decide +kernel
theorem dX2_tell_20 : decode cX2_tell 20 = .ok (.iconst 0, 1) := by decide +kernel
theorem dX2_tell_21 : decode cX2_tell 21 = .ok (.istore 5, 2) := by decide +kernel
theorem dX2_tell_23 : decode cX2_tell 23 = .ok (.iconst 0, 1) := by decide +kernel
theorem dX2_tell_24 : decode cX2_tell 24 = .ok (.istore 6, 2) := by decide +kernel
theorem dX2_tell_26 : decode cX2_tell 26 = .ok (.iload 6, 2) := by decide +kernel
theorem dX2_tell_28 : decode cX2_tell 28 = .ok (.iload_n 2, 1) := by decide +kernel
theorem dX2_tell_29 : decode cX2_tell 29 = .ok (.if_icmp .ge 48, 3) := by decide +kernel
theorem dX2_tell_77 : decode cX2_tell 77 = .ok (.aload_n 0, 1) := by decide +kernel
theorem dX2_tell_78 : decode cX2_tell 78 = .ok (.iload_n 2, 1) := by decide +kernel
theorem dX2_tell_79 : decode cX2_tell 79 = .ok (.iload 5, 2) := by decide +kernel
theorem dX2_tell_81 : decode cX2_tell 81 = .ok (.isub, 1) := by decide +kernel
theorem dX2_tell_82 : decode cX2_tell 82 = .ok (.putfield 21, 3) := by decide +kernel
theorem dX2_tell_85 : decode cX2_tell 85 = .ok (.aload_n 0, 1) := by decide +kernel
theorem dX2_tell_86 : decode cX2_tell 86 = .ok (.dup, 1) := by decide +kernel
theorem dX2_tell_87 : decode cX2_tell 87 = .ok (.getfield 27, 3) := by decide +kernel
theorem dX2_tell_90 : decode cX2_tell 90 = .ok (.iconst 1, 1) := by decide +kernel
theorem dX2_tell_91 : decode cX2_tell 91 = .ok (.iadd, 1) := by decide +kernel
theorem dX2_tell_92 : decode cX2_tell 92 = .ok (.putfield 27, 3) := by decide +kernel
theorem dX2_tell_95 : decode cX2_tell 95 = .ok (.return_, 1) := by decide +kernel
theorem mw_260 : Cond.code yX4_readLines cX4_readLines 5 (some .boolean) ∈ wsL_law := List.mem_of_getElem? (i := 260) (by decide +kernel)
theorem dX4_readLines_0 : decode cX4_readLines 0 = .ok (.aload_n 0, 1) := by decide +kernel
theorem dX4_readLines_1 : decode cX4_readLines 1 = .ok (.aload_n 1, 1) := by decide +kernel
theorem dX4_readLines_2 : decode cX4_readLines 2 = .ok (.putfield 45, 3) := by decide +kernel
theorem dX4_readLines_5 : decode cX4_readLines 5 = .ok (.aload_n 0, 1) := by decide +kernel
theorem dX4_readLines_6 : decode cX4_readLines 6 = .ok (.iconst 0, 1) := by decide +kernel
theorem dX4_readLines_7 : decode cX4_readLines 7 = .ok (.putfield 20, 3) := by decide +kernel
theorem dX4_readLines_10 : decode cX4_readLines 10 = .ok (.aload_n 0, 1) := by decide +kernel
theorem dX4_readLines_11 : decode cX4_readLines 11 = .ok (.iconst 0, 1) := by decide +kernel
theorem dX4_readLines_12 : decode cX4_readLines 12 = .ok (.putfield 52, 3) := by decide +kernel
theorem dX4_readLines_15 : decode cX4_readLines 15 = .ok (.iconst 0, 1) := by decide +kernel
theorem dX4_readLines_16 : decode cX4_readLines 16 = .ok (.istore_n 3, 1) := by decide +kernel
theorem dX4_readLines_17 : decode cX4_readLines 17 = .ok (.iload_n 3, 1) := by decide +kernel
theorem dX4_readLines_18 : decode cX4_readLines 18 = .ok (.sipush 800, 3) := by decide +kernel
theorem dX4_readLines_21 : decode cX4_readLines 21 = .ok (.if_icmp .gt 56, 3) := by decide +kernel
theorem dX4_readLines_24 : decode cX4_readLines 24 = .ok (.aload_n 0, 1) := by decide +kernel
theorem dX4_readLines_25 : decode cX4_readLines 25 = .ok (.invokevirtual 66, 3) := by decide +kernel
theorem mw_262 : Cond.methodLink RX4 66 yX4_toLine ∈ wsL_law := List.mem_of_getElem? (i := 262) (by decide +kernel)
theorem mw_263 : Cond.instanceMethod yX4_toLine ∈ wsL_law := List.mem_of_getElem? (i := 263) (by decide +kernel)
theorem mw_264 : Cond.selects RX4 yX4_toLine yX4_toLine ∈ wsL_law := List.mem_of_getElem? (i := 264) (by decide +kernel)
theorem gV_X4_66 : GoodIn wsL_law (wsV RX4 66 RX4 yX4_toLine (wl yX4_toLine cX4_toLine 1 (some .boolean))) := g_V mw_262 mw_263 mw_264 mw_26 mw_265
theorem hdV_X4_toLine : yX4_toLine.cls = RX4 ∧ okD yX4_toLine 0 := by decide +kernel
theorem dX4_readLines_28 : decode cX4_readLines 28 = .ok (.ifCond .eq 49, 3) := by decide +kernel
theorem dX4_readLines_77 : decode cX4_readLines 77 = .ok (.iload_n 3, 1) := by decide +kernel
theorem dX4_readLines_78 : decode cX4_readLines 78 = .ok (.ifCond .eq 10, 3) := by decide +kernel
theorem dX4_readLines_88 : decode cX4_readLines 88 = .ok (.aload_n 0, 1) := by decide +kernel
theorem dX4_readLines_89 : decode cX4_readLines 89 = .ok (.getfield 62, 3) := by decide +kernel
theorem dX4_readLines_92 : decode cX4_readLines 92 = .ok (.bipush 9, 2) := by decide +kernel
theorem dX4_readLines_94 : decode cX4_readLines 94 = .ok (.aload_n 0, 1) := by decide +kernel
theorem dX4_readLines_95 : decode cX4_readLines 95 = .ok (.getfield 55, 3) := by decide +kernel
theorem dX4_readLines_98 : decode cX4_readLines 98 = .ok (.getfield 80, 3) := by decide +kernel
theorem dX4_readLines_101 : decode cX4_readLines 101 = .ok (.iconst (-1), 1) := by decide +kernel
theorem dX4_readLines_102 : decode cX4_readLines 102 = .ok (.aload_n 0, 1) := by decide +kernel
theorem dX4_readLines_103 : decode cX4_readLines 103 = .ok (.getfield 55, 3) := by decide +kernel
theorem dX4_readLines_106 : decode cX4_readLines 106 = .ok (.invokevirtual 74, 3) := by decide +kernel
theorem mw_361 : Cond.methodLink RX4 74 yX2_tell ∈ wsL_law := List.mem_of_getElem? (i := 361) (by decide +kernel)
theorem mw_362 : Cond.instanceMethod yX2_tell ∈ wsL_law := List.mem_of_getElem? (i := 362) (by decide +kernel)
theorem mw_363 : Cond.selects RX2 yX2_tell yX2_tell ∈ wsL_law := List.mem_of_getElem? (i := 363) (by decide +kernel)
theorem gV_X4_74 : GoodIn wsL_law (wsV RX4 74 RX2 yX2_tell (wl yX2_tell cX2_tell 7 none)) := g_V mw_361 mw_362 mw_363 mw_22 mw_364
theorem hdV_X2_tell : yX2_tell.cls = RX2 ∧ okD yX2_tell 4 := by decide +kernel
theorem dX4_readLines_109 : decode cX4_readLines 109 = .ok (.iconst 0, 1) := by decide +kernel
theorem dX4_readLines_110 : decode cX4_readLines 110 = .ok (.ireturn, 1) := by decide +kernel
theorem mw_252 : Cond.code yX11_read cX11_read 4 (some .int) ∈ wsL_law := List.mem_of_getElem? (i := 252) (by decide +kernel)
theorem dX11_read_0 : decode cX11_read 0 = .ok (.iload_n 1, 1) := by decide +kernel
theorem dX11_read_1 : decode cX11_read 1 = .ok (.invokestatic 75, 3) := by decide +kernel
theorem mw_254 : Cond.methodLink RX11 75 yX6_isPlace ∈ wsL_law := List.mem_of_getElem? (i := 254) (by decide +kernel)
theorem gS_X11_75 : GoodIn wsL_law (va_wsS RX11 75 yX6_isPlace (wl yX6_isPlace cX6_isPlace 1 (some .boolean))) := g_S mw_254 mw_255 mw_14 mw_256
theorem dX11_read_4 : decode cX11_read 4 = .ok (.ifCond .eq 20, 3) := by decide +kernel
theorem dX11_read_7 : decode cX11_read 7 = .ok (.aload_n 0, 1) := by decide +kernel
theorem dX11_read_8 : decode cX11_read 8 = .ok (.getfield 39, 3) := by decide +kernel
theorem dX11_read_11 : decode cX11_read 11 = .ok (.aconst_null, 1) := by decide +kernel
theorem dX11_read_12 : decode cX11_read 12 = .ok (.bipush 40, 2) := by decide +kernel
theorem dX11_read_14 : decode cX11_read 14 = .ok (.invokevirtual 78, 3) := by decide +kernel
theorem mw_257 : Cond.methodLink RX11 78 yX4_readLines ∈ wsL_law := List.mem_of_getElem? (i := 257) (by decide +kernel)
theorem mw_258 : Cond.instanceMethod yX4_readLines ∈ wsL_law := List.mem_of_getElem? (i := 258) (by decide +kernel)
theorem mw_259 : Cond.selects RX4 yX4_readLines yX4_readLines ∈ wsL_law := List.mem_of_getElem? (i := 259) (by decide +kernel)
theorem gV_X11_78 : GoodIn wsL_law (wsV RX11 78 RX4 yX4_readLines (wl yX4_readLines cX4_readLines 5 (some .boolean))) := g_V mw_257 mw_258 mw_259 mw_26 mw_260
theorem hdV_X4_readLines : yX4_readLines.cls = RX4 ∧ okD yX4_readLines 2 := by decide +kernel
theorem dX11_read_17 : decode cX11_read 17 = .ok (.ifCond .eq 7, 3) := by decide +kernel
theorem dX11_read_24 : decode cX11_read 24 = .ok (.iconst 0, 1) := by decide +kernel
theorem dX11_read_25 : decode cX11_read 25 = .ok (.istore_n 2, 1) := by decide +kernel
theorem dX11_read_26 : decode cX11_read 26 = .ok (.aload_n 0, 1) := by decide +kernel
theorem dX11_read_27 : decode cX11_read 27 = .ok (.getfield 19, 3) := by decide +kernel
theorem dX11_read_30 : decode cX11_read 30 = .ok (.iconst 0, 1) := by decide +kernel
theorem dX11_read_31 : decode cX11_read 31 = .ok (.putfield 71, 3) := by decide +kernel
theorem mw_223 : Cond.fieldLink RX11 71 "TypedTables$Tape" "length" "I" ∈ wsL_law := List.mem_of_getElem? (i := 223) (by decide +kernel)
theorem dX11_read_34 : decode cX11_read 34 = .ok (.iload_n 2, 1) := by decide +kernel
theorem dX11_read_35 : decode cX11_read 35 = .ok (.ifCond .eq 13, 3) := by decide +kernel
theorem dX11_read_48 : decode cX11_read 48 = .ok (.aconst_null, 1) := by decide +kernel
theorem dX11_read_49 : decode cX11_read 49 = .ok (.astore_n 3, 1) := by decide +kernel
theorem dX11_read_50 : decode cX11_read 50 = .ok (.aload_n 3, 1) := by decide +kernel
theorem dX11_read_51 : decode cX11_read 51 = .ok (.ifnonnull 5, 3) := by decide +kernel
theorem dX11_read_54 : decode cX11_read 54 = .ok (.iconst (-1), 1) := by decide +kernel
theorem dX11_read_55 : decode cX11_read 55 = .ok (.ireturn, 1) := by decide +kernel
theorem mw_568 : Cond.code yX8_takeBytes cX8_takeBytes 4 (some (.array .byte)) ∈ wsL_law := List.mem_of_getElem? (i := 568) (by decide +kernel)
theorem dX8_takeBytes_0 : decode cX8_takeBytes 0 = .ok (.aload_n 0, 1) := by decide +kernel
theorem dX8_takeBytes_1 : decode cX8_takeBytes 1 = .ok (.getfield 15, 3) := by decide +kernel
theorem dX8_takeBytes_4 : decode cX8_takeBytes 4 = .ok (.istore_n 1, 1) := by decide +kernel
theorem dX8_takeBytes_5 : decode cX8_takeBytes 5 = .ok (.aload_n 0, 1) := by decide +kernel
theorem dX8_takeBytes_6 : decode cX8_takeBytes 6 = .ok (.iconst 0, 1) := by decide +kernel
theorem dX8_takeBytes_7 : decode cX8_takeBytes 7 = .ok (.putfield 15, 3) := by decide +kernel
theorem dX8_takeBytes_10 : decode cX8_takeBytes 10 = .ok (.iload_n 1, 1) := by decide +kernel
theorem dX8_takeBytes_11 : decode cX8_takeBytes 11 = .ok (.bipush 20, 2) := by decide +kernel
theorem dX8_takeBytes_13 : decode cX8_takeBytes 13 = .ok (.if_icmp .le 5, 3) := by decide +kernel
theorem dX8_takeBytes_18 : decode cX8_takeBytes 18 = .ok (.iload_n 1, 1) := by decide +kernel
theorem dX8_takeBytes_19 : decode cX8_takeBytes 19 = .ok (.newarray .byte, 2) := by decide +kernel
theorem dX8_takeBytes_21 : decode cX8_takeBytes 21 = .ok (.astore_n 2, 1) := by decide +kernel
theorem dX8_takeBytes_22 : decode cX8_takeBytes 22 = .ok (.iconst 0, 1) := by decide +kernel
theorem dX8_takeBytes_23 : decode cX8_takeBytes 23 = .ok (.istore_n 3, 1) := by decide +kernel
theorem dX8_takeBytes_24 : decode cX8_takeBytes 24 = .ok (.iload_n 3, 1) := by decide +kernel
theorem dX8_takeBytes_25 : decode cX8_takeBytes 25 = .ok (.iload_n 1, 1) := by decide +kernel
theorem dX8_takeBytes_26 : decode cX8_takeBytes 26 = .ok (.if_icmp .ge 44, 3) := by decide +kernel
theorem dX8_takeBytes_70 : decode cX8_takeBytes 70 = .ok (.aload_n 2, 1) := by decide +kernel
theorem dX8_takeBytes_71 : decode cX8_takeBytes 71 = .ok (.areturn, 1) := by decide +kernel
theorem mw_563 : Cond.code yX8_takeCell cX8_takeCell 2 (some (.object "TypedTables$Cell")) ∈ wsL_law := List.mem_of_getElem? (i := 563) (by decide +kernel)
theorem dX8_takeCell_0 : decode cX8_takeCell 0 = .ok (.aload_n 0, 1) := by decide +kernel
theorem dX8_takeCell_1 : decode cX8_takeCell 1 = .ok (.invokevirtual 19, 3) := by decide +kernel
theorem mw_565 : Cond.methodLink RX8 19 yX8_takeBytes ∈ wsL_law := List.mem_of_getElem? (i := 565) (by decide +kernel)
theorem mw_566 : Cond.instanceMethod yX8_takeBytes ∈ wsL_law := List.mem_of_getElem? (i := 566) (by decide +kernel)
theorem mw_567 : Cond.selects RX8 yX8_takeBytes yX8_takeBytes ∈ wsL_law := List.mem_of_getElem? (i := 567) (by decide +kernel)
theorem gV_X8_19 : GoodIn wsL_law (wsV RX8 19 RX8 yX8_takeBytes (wl yX8_takeBytes cX8_takeBytes 4 (some (.array .byte)))) := g_V mw_565 mw_566 mw_567 mw_18 mw_568
theorem hdV_X8_takeBytes : yX8_takeBytes.cls = RX8 ∧ okD yX8_takeBytes 0 := by decide +kernel
theorem dX8_takeCell_4 : decode cX8_takeCell 4 = .ok (.astore_n 1, 1) := by decide +kernel
theorem dX8_takeCell_5 : decode cX8_takeCell 5 = .ok (.aload_n 1, 1) := by decide +kernel
theorem dX8_takeCell_6 : decode cX8_takeCell 6 = .ok (.ifnonnull 7, 3) := by decide +kernel
theorem dX8_takeCell_13 : decode cX8_takeCell 13 = .ok (.new 23, 3) := by decide +kernel
theorem mw_564 : Cond.classLink RX8 23 RX0 ∈ wsL_law := List.mem_of_getElem? (i := 564) (by decide +kernel)
theorem dX8_takeCell_16 : decode cX8_takeCell 16 = .ok (.dup, 1) := by decide +kernel
theorem dX8_takeCell_17 : decode cX8_takeCell 17 = .ok (.aload_n 1, 1) := by decide +kernel
theorem dX8_takeCell_18 : decode cX8_takeCell 18 = .ok (.invokespecial 25, 3) := by decide +kernel
theorem mw_570 : Cond.methodLink RX8 25 yX0_init ∈ wsL_law := List.mem_of_getElem? (i := 570) (by decide +kernel)
theorem dX8_takeCell_21 : decode cX8_takeCell 21 = .ok (.areturn, 1) := by decide +kernel
theorem mw_334 : Cond.code yX1_canBeName cX1_canBeName 2 (some .boolean) ∈ wsL_law := List.mem_of_getElem? (i := 334) (by decide +kernel)
theorem dX1_canBeName_0 : decode cX1_canBeName 0 = .ok (.aload_n 0, 1) := by decide +kernel
theorem dX1_canBeName_1 : decode cX1_canBeName 1 = .ok (.arraylength, 1) := by decide +kernel
theorem dX1_canBeName_2 : decode cX1_canBeName 2 = .ok (.iconst 1, 1) := by decide +kernel
theorem dX1_canBeName_3 : decode cX1_canBeName 3 = .ok (.if_icmp .lt 10, 3) := by decide +kernel
theorem dX1_canBeName_13 : decode cX1_canBeName 13 = .ok (.iconst 0, 1) := by decide +kernel
theorem dX1_canBeName_14 : decode cX1_canBeName 14 = .ok (.ireturn, 1) := by decide +kernel
theorem mw_718 : Cond.code yX8_takeName cX8_takeName 2 (some (.array .byte)) ∈ wsL_law := List.mem_of_getElem? (i := 718) (by decide +kernel)
theorem dX8_takeName_0 : decode cX8_takeName 0 = .ok (.aload_n 0, 1) := by decide +kernel
theorem dX8_takeName_1 : decode cX8_takeName 1 = .ok (.invokevirtual 19, 3) := by decide +kernel
theorem dX8_takeName_4 : decode cX8_takeName 4 = .ok (.astore_n 1, 1) := by decide +kernel
theorem dX8_takeName_5 : decode cX8_takeName 5 = .ok (.aload_n 1, 1) := by decide +kernel
theorem dX8_takeName_6 : decode cX8_takeName 6 = .ok (.ifnull 10, 3) := by decide +kernel
theorem dX8_takeName_9 : decode cX8_takeName 9 = .ok (.aload_n 1, 1) := by decide +kernel
theorem dX8_takeName_10 : decode cX8_takeName 10 = .ok (.invokestatic 28, 3) := by decide +kernel
theorem mw_719 : Cond.methodLink RX8 28 yX1_canBeName ∈ wsL_law := List.mem_of_getElem? (i := 719) (by decide +kernel)
theorem mw_331 : Cond.initialized RX1 ∈ wsL_law := List.mem_of_getElem? (i := 331) (by decide +kernel)
theorem mw_333 : Cond.static yX1_canBeName ∈ wsL_law := List.mem_of_getElem? (i := 333) (by decide +kernel)
theorem gS_X8_28 : GoodIn wsL_law (va_wsS RX8 28 yX1_canBeName (wl yX1_canBeName cX1_canBeName 2 (some .boolean))) := g_S mw_719 mw_333 mw_331 mw_334
theorem hdS_X1_canBeName : okD yX1_canBeName 1 := by decide +kernel
theorem dX8_takeName_13 : decode cX8_takeName 13 = .ok (.ifCond .ne 7, 3) := by decide +kernel
theorem dX8_takeName_16 : decode cX8_takeName 16 = .ok (.aconst_null, 1) := by decide +kernel
theorem dX8_takeName_17 : decode cX8_takeName 17 = .ok (.goto 4, 3) := by decide +kernel
theorem dX8_takeName_21 : decode cX8_takeName 21 = .ok (.areturn, 1) := by decide +kernel
theorem mw_558 : Cond.code yX11_put cX11_put 6 (some .boolean) ∈ wsL_law := List.mem_of_getElem? (i := 558) (by decide +kernel)
theorem dX11_put_0 : decode cX11_put 0 = .ok (.aload_n 0, 1) := by decide +kernel
theorem dX11_put_1 : decode cX11_put 1 = .ok (.getfield 19, 3) := by decide +kernel
theorem dX11_put_4 : decode cX11_put 4 = .ok (.invokevirtual 110, 3) := by decide +kernel
theorem mw_560 : Cond.methodLink RX11 110 yX8_takeCell ∈ wsL_law := List.mem_of_getElem? (i := 560) (by decide +kernel)
theorem mw_561 : Cond.instanceMethod yX8_takeCell ∈ wsL_law := List.mem_of_getElem? (i := 561) (by decide +kernel)
theorem mw_562 : Cond.selects RX8 yX8_takeCell yX8_takeCell ∈ wsL_law := List.mem_of_getElem? (i := 562) (by decide +kernel)
theorem gV_X11_110 : GoodIn wsL_law (wsV RX11 110 RX8 yX8_takeCell (wl yX8_takeCell cX8_takeCell 2 (some (.object "TypedTables$Cell")))) := g_V mw_560 mw_561 mw_562 mw_18 mw_563
theorem hdV_X8_takeCell : yX8_takeCell.cls = RX8 ∧ okD yX8_takeCell 0 := by decide +kernel
theorem dX11_put_7 : decode cX11_put 7 = .ok (.astore 4, 2) := by decide +kernel
theorem dX11_put_9 : decode cX11_put 9 = .ok (.aload_n 0, 1) := by decide +kernel
theorem dX11_put_10 : decode cX11_put 10 = .ok (.getfield 12, 3) := by decide +kernel
theorem dX11_put_13 : decode cX11_put 13 = .ok (.iload_n 1, 1) := by decide +kernel
theorem dX11_put_14 : decode cX11_put 14 = .ok (.invokevirtual 114, 3) := by decide +kernel
theorem dX11_put_17 : decode cX11_put 17 = .ok (.astore 5, 2) := by decide +kernel
theorem dX11_put_19 : decode cX11_put 19 = .ok (.aload 4, 2) := by decide +kernel
theorem dX11_put_21 : decode cX11_put 21 = .ok (.ifnull 18, 3) := by decide +kernel
theorem dX11_put_24 : decode cX11_put 24 = .ok (.aload 5, 2) := by decide +kernel
theorem dX11_put_26 : decode cX11_put 26 = .ok (.ifnull 13, 3) := by decide +kernel
theorem dX11_put_39 : decode cX11_put 39 = .ok (.iconst 0, 1) := by decide +kernel
theorem dX11_put_40 : decode cX11_put 40 = .ok (.ireturn, 1) := by decide +kernel
theorem mw_981 : Cond.code yX11_narrow cX11_narrow 7 (some .int) ∈ wsL_law := List.mem_of_getElem? (i := 981) (by decide +kernel)
theorem dX11_narrow_0 : decode cX11_narrow 0 = .ok (.aload_n 0, 1) := by decide +kernel
theorem dX11_narrow_1 : decode cX11_narrow 1 = .ok (.getfield 19, 3) := by decide +kernel
theorem dX11_narrow_4 : decode cX11_narrow 4 = .ok (.getfield 71, 3) := by decide +kernel
theorem dX11_narrow_7 : decode cX11_narrow 7 = .ok (.ifCond .le 7, 3) := by decide +kernel
theorem dX11_narrow_14 : decode cX11_narrow 14 = .ok (.iconst 0, 1) := by decide +kernel
theorem dX11_narrow_15 : decode cX11_narrow 15 = .ok (.istore 4, 2) := by decide +kernel
theorem dX11_narrow_17 : decode cX11_narrow 17 = .ok (.aload_n 0, 1) := by decide +kernel
theorem dX11_narrow_18 : decode cX11_narrow 18 = .ok (.getfield 19, 3) := by decide +kernel
theorem dX11_narrow_21 : decode cX11_narrow 21 = .ok (.invokevirtual 110, 3) := by decide +kernel
theorem dX11_narrow_24 : decode cX11_narrow 24 = .ok (.astore 5, 2) := by decide +kernel
theorem dX11_narrow_26 : decode cX11_narrow 26 = .ok (.aload_n 0, 1) := by decide +kernel
theorem dX11_narrow_27 : decode cX11_narrow 27 = .ok (.getfield 12, 3) := by decide +kernel
theorem dX11_narrow_30 : decode cX11_narrow 30 = .ok (.iload_n 1, 1) := by decide +kernel
theorem dX11_narrow_31 : decode cX11_narrow 31 = .ok (.iload_n 2, 1) := by decide +kernel
theorem dX11_narrow_32 : decode cX11_narrow 32 = .ok (.invokevirtual 189, 3) := by decide +kernel
theorem dX11_narrow_35 : decode cX11_narrow 35 = .ok (.astore 6, 2) := by decide +kernel
theorem dX11_narrow_37 : decode cX11_narrow 37 = .ok (.aload 6, 2) := by decide +kernel
theorem dX11_narrow_39 : decode cX11_narrow 39 = .ok (.ifnull 24, 3) := by decide +kernel
theorem dX11_narrow_63 : decode cX11_narrow 63 = .ok (.iconst (-1), 1) := by decide +kernel
theorem dX11_narrow_64 : decode cX11_narrow 64 = .ok (.ireturn, 1) := by decide +kernel
theorem mw_712 : Cond.code yX11_name cX11_name 6 (some .boolean) ∈ wsL_law := List.mem_of_getElem? (i := 712) (by decide +kernel)
theorem dX11_name_0 : decode cX11_name 0 = .ok (.aload_n 0, 1) := by decide +kernel
theorem dX11_name_1 : decode cX11_name 1 = .ok (.getfield 19, 3) := by decide +kernel
theorem dX11_name_4 : decode cX11_name 4 = .ok (.invokevirtual 157, 3) := by decide +kernel
theorem mw_715 : Cond.methodLink RX11 157 yX8_takeName ∈ wsL_law := List.mem_of_getElem? (i := 715) (by decide +kernel)
theorem mw_716 : Cond.instanceMethod yX8_takeName ∈ wsL_law := List.mem_of_getElem? (i := 716) (by decide +kernel)
theorem mw_717 : Cond.selects RX8 yX8_takeName yX8_takeName ∈ wsL_law := List.mem_of_getElem? (i := 717) (by decide +kernel)
theorem gV_X11_157 : GoodIn wsL_law (wsV RX11 157 RX8 yX8_takeName (wl yX8_takeName cX8_takeName 2 (some (.array .byte)))) := g_V mw_715 mw_716 mw_717 mw_18 mw_718
theorem hdV_X8_takeName : yX8_takeName.cls = RX8 ∧ okD yX8_takeName 0 := by decide +kernel
theorem dX11_name_7 : decode cX11_name 7 = .ok (.astore_n 3, 1) := by decide +kernel
theorem dX11_name_8 : decode cX11_name 8 = .ok (.aload_n 0, 1) := by decide +kernel
theorem dX11_name_9 : decode cX11_name 9 = .ok (.getfield 12, 3) := by decide +kernel
theorem dX11_name_12 : decode cX11_name 12 = .ok (.iload_n 1, 1) := by decide +kernel
theorem dX11_name_13 : decode cX11_name 13 = .ok (.invokevirtual 114, 3) := by decide +kernel
theorem dX11_name_16 : decode cX11_name 16 = .ok (.astore 4, 2) := by decide +kernel
theorem dX11_name_18 : decode cX11_name 18 = .ok (.aload_n 3, 1) := by decide +kernel
theorem dX11_name_19 : decode cX11_name 19 = .ok (.ifnull 17, 3) := by decide +kernel
theorem dX11_name_36 : decode cX11_name 36 = .ok (.iconst 0, 1) := by decide +kernel
theorem dX11_name_37 : decode cX11_name 37 = .ok (.ireturn, 1) := by decide +kernel
theorem mw_1199 : Cond.code yX11_find cX11_find 4 (some .int) ∈ wsL_law := List.mem_of_getElem? (i := 1199) (by decide +kernel)
theorem dX11_find_0 : decode cX11_find 0 = .ok (.aload_n 0, 1) := by decide +kernel
theorem dX11_find_1 : decode cX11_find 1 = .ok (.getfield 19, 3) := by decide +kernel
theorem dX11_find_4 : decode cX11_find 4 = .ok (.invokevirtual 157, 3) := by decide +kernel
theorem dX11_find_7 : decode cX11_find 7 = .ok (.astore_n 2, 1) := by decide +kernel
theorem dX11_find_8 : decode cX11_find 8 = .ok (.aload_n 0, 1) := by decide +kernel
theorem dX11_find_9 : decode cX11_find 9 = .ok (.getfield 12, 3) := by decide +kernel
theorem dX11_find_12 : decode cX11_find 12 = .ok (.iload_n 1, 1) := by decide +kernel
theorem dX11_find_13 : decode cX11_find 13 = .ok (.invokevirtual 114, 3) := by decide +kernel
theorem dX11_find_16 : decode cX11_find 16 = .ok (.astore_n 3, 1) := by decide +kernel
theorem dX11_find_17 : decode cX11_find 17 = .ok (.aload_n 2, 1) := by decide +kernel
theorem dX11_find_18 : decode cX11_find 18 = .ok (.ifnull 7, 3) := by decide +kernel
theorem dX11_find_25 : decode cX11_find 25 = .ok (.iconst (-1), 1) := by decide +kernel
theorem dX11_find_26 : decode cX11_find 26 = .ok (.ireturn, 1) := by decide +kernel
theorem mw_676 : Cond.code yX11_row cX11_row 4 (some .int) ∈ wsL_law := List.mem_of_getElem? (i := 676) (by decide +kernel)
theorem dX11_row_0 : decode cX11_row 0 = .ok (.aload_n 0, 1) := by decide +kernel
theorem dX11_row_1 : decode cX11_row 1 = .ok (.getfield 12, 3) := by decide +kernel
theorem dX11_row_4 : decode cX11_row 4 = .ok (.iload_n 1, 1) := by decide +kernel
theorem dX11_row_5 : decode cX11_row 5 = .ok (.invokevirtual 114, 3) := by decide +kernel
theorem dX11_row_8 : decode cX11_row 8 = .ok (.astore_n 2, 1) := by decide +kernel
theorem dX11_row_9 : decode cX11_row 9 = .ok (.iconst 0, 1) := by decide +kernel
theorem dX11_row_10 : decode cX11_row 10 = .ok (.istore_n 3, 1) := by decide +kernel
theorem dX11_row_11 : decode cX11_row 11 = .ok (.aload_n 2, 1) := by decide +kernel
theorem dX11_row_12 : decode cX11_row 12 = .ok (.ifnull 30, 3) := by decide +kernel
theorem dX11_row_42 : decode cX11_row 42 = .ok (.aload_n 2, 1) := by decide +kernel
theorem dX11_row_43 : decode cX11_row 43 = .ok (.ifnull 16, 3) := by decide +kernel
theorem dX11_row_59 : decode cX11_row 59 = .ok (.aload_n 0, 1) := by decide +kernel
theorem dX11_row_60 : decode cX11_row 60 = .ok (.getfield 19, 3) := by decide +kernel
theorem dX11_row_63 : decode cX11_row 63 = .ok (.iconst 0, 1) := by decide +kernel
theorem dX11_row_64 : decode cX11_row 64 = .ok (.putfield 71, 3) := by decide +kernel
theorem dX11_row_67 : decode cX11_row 67 = .ok (.aload_n 2, 1) := by decide +kernel
theorem dX11_row_68 : decode cX11_row 68 = .ok (.ifnull 21, 3) := by decide +kernel
theorem dX11_row_89 : decode cX11_row 89 = .ok (.iconst (-1), 1) := by decide +kernel
theorem dX11_row_90 : decode cX11_row 90 = .ok (.ireturn, 1) := by decide +kernel
theorem mw_244 : Cond.code yX11_end cX11_end 2 (some .boolean) ∈ wsL_law := List.mem_of_getElem? (i := 244) (by decide +kernel)
theorem dX11_end_0 : decode cX11_end 0 = .ok (.iload_n 1, 1) := by decide +kernel
theorem dX11_end_1 : decode cX11_end 1 = .ok (.ifCond .lt 14, 3) := by decide +kernel
theorem dX11_end_15 : decode cX11_end 15 = .ok (.iconst 0, 1) := by decide +kernel
theorem dX11_end_16 : decode cX11_end 16 = .ok (.ireturn, 1) := by decide +kernel
theorem dX11_end_4 : decode cX11_end 4 = .ok (.iload_n 1, 1) := by decide +kernel
theorem dX11_end_5 : decode cX11_end 5 = .ok (.aload_n 0, 1) := by decide +kernel
theorem dX11_end_6 : decode cX11_end 6 = .ok (.getfield 19, 3) := by decide +kernel
theorem dX11_end_9 : decode cX11_end 9 = .ok (.getfield 71, 3) := by decide +kernel
theorem dX11_end_12 : decode cX11_end 12 = .ok (.if_icmp .le 5, 3) := by decide +kernel
theorem dX11_end_17 : decode cX11_end 17 = .ok (.aload_n 0, 1) := by decide +kernel
theorem dX11_end_18 : decode cX11_end 18 = .ok (.getfield 19, 3) := by decide +kernel
theorem dX11_end_21 : decode cX11_end 21 = .ok (.iload_n 1, 1) := by decide +kernel
theorem dX11_end_22 : decode cX11_end 22 = .ok (.putfield 71, 3) := by decide +kernel
theorem dX11_end_25 : decode cX11_end 25 = .ok (.iconst 1, 1) := by decide +kernel
theorem dX11_end_26 : decode cX11_end 26 = .ok (.ireturn, 1) := by decide +kernel
theorem mw_544 : Cond.code yX11_fault cX11_fault 2 (some .int) ∈ wsL_law := List.mem_of_getElem? (i := 544) (by decide +kernel)
theorem dX11_fault_0 : decode cX11_fault 0 = .ok (.iload_n 1, 1) := by decide +kernel
theorem dX11_fault_1 : decode cX11_fault 1 = .ok (.tableswitch 75 0 4 #[35, 43, 51, 59, 67], 35) := by decide +kernel
theorem dX11_fault_76 : decode cX11_fault 76 = .ok (.iconst (-1), 1) := by decide +kernel
theorem dX11_fault_77 : decode cX11_fault 77 = .ok (.ireturn, 1) := by decide +kernel
theorem dX11_fault_36 : decode cX11_fault 36 = .ok (.aload_n 0, 1) := by decide +kernel
theorem dX11_fault_37 : decode cX11_fault 37 = .ok (.getfield 26, 3) := by decide +kernel
theorem dX11_fault_40 : decode cX11_fault 40 = .ok (.getfield 95, 3) := by decide +kernel
theorem mw_545 : Cond.fieldLink RX11 95 "TypedTables$Fault" "kind" "I" ∈ wsL_law := List.mem_of_getElem? (i := 545) (by decide +kernel)
theorem dX11_fault_43 : decode cX11_fault 43 = .ok (.ireturn, 1) := by decide +kernel
theorem dX11_fault_44 : decode cX11_fault 44 = .ok (.aload_n 0, 1) := by decide +kernel
theorem dX11_fault_45 : decode cX11_fault 45 = .ok (.getfield 26, 3) := by decide +kernel
theorem dX11_fault_48 : decode cX11_fault 48 = .ok (.getfield 98, 3) := by decide +kernel
theorem mw_546 : Cond.fieldLink RX11 98 "TypedTables$Fault" "place" "I" ∈ wsL_law := List.mem_of_getElem? (i := 546) (by decide +kernel)
theorem dX11_fault_51 : decode cX11_fault 51 = .ok (.ireturn, 1) := by decide +kernel
theorem dX11_fault_52 : decode cX11_fault 52 = .ok (.aload_n 0, 1) := by decide +kernel
theorem dX11_fault_53 : decode cX11_fault 53 = .ok (.getfield 26, 3) := by decide +kernel
theorem dX11_fault_56 : decode cX11_fault 56 = .ok (.getfield 101, 3) := by decide +kernel
theorem mw_547 : Cond.fieldLink RX11 101 "TypedTables$Fault" "line" "I" ∈ wsL_law := List.mem_of_getElem? (i := 547) (by decide +kernel)
theorem dX11_fault_59 : decode cX11_fault 59 = .ok (.ireturn, 1) := by decide +kernel
theorem dX11_fault_60 : decode cX11_fault 60 = .ok (.aload_n 0, 1) := by decide +kernel
theorem dX11_fault_61 : decode cX11_fault 61 = .ok (.getfield 26, 3) := by decide +kernel
theorem dX11_fault_64 : decode cX11_fault 64 = .ok (.getfield 104, 3) := by decide +kernel
theorem mw_548 : Cond.fieldLink RX11 104 "TypedTables$Fault" "column" "I" ∈ wsL_law := List.mem_of_getElem? (i := 548) (by decide +kernel)
theorem dX11_fault_67 : decode cX11_fault 67 = .ok (.ireturn, 1) := by decide +kernel
theorem dX11_fault_68 : decode cX11_fault 68 = .ok (.aload_n 0, 1) := by decide +kernel
theorem dX11_fault_69 : decode cX11_fault 69 = .ok (.getfield 26, 3) := by decide +kernel
theorem dX11_fault_72 : decode cX11_fault 72 = .ok (.getfield 107, 3) := by decide +kernel
theorem mw_549 : Cond.fieldLink RX11 107 "TypedTables$Fault" "cause" "I" ∈ wsL_law := List.mem_of_getElem? (i := 549) (by decide +kernel)
theorem dX11_fault_75 : decode cX11_fault 75 = .ok (.ireturn, 1) := by decide +kernel
theorem mw_1464 : Cond.code yX11_sign cX11_sign 2 (some .int) ∈ wsL_law := List.mem_of_getElem? (i := 1464) (by decide +kernel)
theorem dX11_sign_0 : decode cX11_sign 0 = .ok (.iload_n 1, 1) := by decide +kernel
theorem dX11_sign_1 : decode cX11_sign 1 = .ok (.ifCond .lt 14, 3) := by decide +kernel
theorem dX11_sign_15 : decode cX11_sign 15 = .ok (.iconst (-1), 1) := by decide +kernel
theorem dX11_sign_16 : decode cX11_sign 16 = .ok (.goto 12, 3) := by decide +kernel
theorem dX11_sign_28 : decode cX11_sign 28 = .ok (.ireturn, 1) := by decide +kernel
theorem dX11_sign_4 : decode cX11_sign 4 = .ok (.iload_n 1, 1) := by decide +kernel
theorem dX11_sign_5 : decode cX11_sign 5 = .ok (.aload_n 0, 1) := by decide +kernel
theorem dX11_sign_6 : decode cX11_sign 6 = .ok (.getfield 48, 3) := by decide +kernel
theorem dX11_sign_9 : decode cX11_sign 9 = .ok (.getfield 354, 3) := by decide +kernel
theorem mw_1405 : Cond.fieldLink RX11 354 "TypedTables$Writer" "length" "I" ∈ wsL_law := List.mem_of_getElem? (i := 1405) (by decide +kernel)
theorem dX11_sign_12 : decode cX11_sign 12 = .ok (.if_icmp .lt 7, 3) := by decide +kernel
theorem mw_231 : Cond.code yX8_add cX8_add 3 none ∈ wsL_law := List.mem_of_getElem? (i := 231) (by decide +kernel)
theorem dX8_add_0 : decode cX8_add 0 = .ok (.bipush 24, 2) := by decide +kernel
theorem dX8_add_2 : decode cX8_add 2 = .ok (.istore_n 2, 1) := by decide +kernel
theorem dX8_add_3 : decode cX8_add 3 = .ok (.iload_n 2, 1) := by decide +kernel
theorem dX8_add_4 : decode cX8_add 4 = .ok (.ifCond .lt 45, 3) := by decide +kernel
theorem dX8_add_7 : decode cX8_add 7 = .ok (.aload_n 0, 1) := by decide +kernel
theorem dX8_add_8 : decode cX8_add 8 = .ok (.getfield 15, 3) := by decide +kernel
theorem dX8_add_11 : decode cX8_add 11 = .ok (.sipush 800, 3) := by decide +kernel
theorem dX8_add_14 : decode cX8_add 14 = .ok (.if_icmp .ge 35, 3) := by decide +kernel
theorem dX8_add_17 : decode cX8_add 17 = .ok (.aload_n 0, 1) := by decide +kernel
theorem dX8_add_18 : decode cX8_add 18 = .ok (.getfield 9, 3) := by decide +kernel
theorem dX8_add_21 : decode cX8_add 21 = .ok (.aload_n 0, 1) := by decide +kernel
theorem dX8_add_22 : decode cX8_add 22 = .ok (.getfield 15, 3) := by decide +kernel
theorem dX8_add_25 : decode cX8_add 25 = .ok (.iload_n 1, 1) := by decide +kernel
theorem dX8_add_26 : decode cX8_add 26 = .ok (.iload_n 2, 1) := by decide +kernel
theorem dX8_add_27 : decode cX8_add 27 = .ok (.iushr, 1) := by decide +kernel
theorem dX8_add_28 : decode cX8_add 28 = .ok (.sipush 255, 3) := by decide +kernel
theorem dX8_add_31 : decode cX8_add 31 = .ok (.iand, 1) := by decide +kernel
theorem dX8_add_32 : decode cX8_add 32 = .ok (.iastore, 1) := by decide +kernel
theorem dX8_add_33 : decode cX8_add 33 = .ok (.aload_n 0, 1) := by decide +kernel
theorem dX8_add_34 : decode cX8_add 34 = .ok (.dup, 1) := by decide +kernel
theorem dX8_add_35 : decode cX8_add 35 = .ok (.getfield 15, 3) := by decide +kernel
theorem dX8_add_38 : decode cX8_add 38 = .ok (.iconst 1, 1) := by decide +kernel
theorem dX8_add_39 : decode cX8_add 39 = .ok (.iadd, 1) := by decide +kernel
theorem dX8_add_40 : decode cX8_add 40 = .ok (.putfield 15, 3) := by decide +kernel
theorem dX8_add_43 : decode cX8_add 43 = .ok (.iinc 2 (-8), 3) := by decide +kernel
theorem dX8_add_46 : decode cX8_add 46 = .ok (.goto (-43), 3) := by decide +kernel
theorem dX8_add_49 : decode cX8_add 49 = .ok (.return_, 1) := by decide +kernel
theorem mw_227 : Cond.code yX8_hasRoom cX8_hasRoom 2 (some .boolean) ∈ wsL_law := List.mem_of_getElem? (i := 227) (by decide +kernel)
theorem dX8_hasRoom_0 : decode cX8_hasRoom 0 = .ok (.aload_n 0, 1) := by decide +kernel
theorem dX8_hasRoom_1 : decode cX8_hasRoom 1 = .ok (.getfield 15, 3) := by decide +kernel
theorem dX8_hasRoom_4 : decode cX8_hasRoom 4 = .ok (.iconst 4, 1) := by decide +kernel
theorem dX8_hasRoom_5 : decode cX8_hasRoom 5 = .ok (.iload_n 1, 1) := by decide +kernel
theorem dX8_hasRoom_6 : decode cX8_hasRoom 6 = .ok (.imul, 1) := by decide +kernel
theorem dX8_hasRoom_7 : decode cX8_hasRoom 7 = .ok (.iadd, 1) := by decide +kernel
theorem dX8_hasRoom_8 : decode cX8_hasRoom 8 = .ok (.sipush 800, 3) := by decide +kernel
theorem dX8_hasRoom_11 : decode cX8_hasRoom 11 = .ok (.if_icmp .gt 7, 3) := by decide +kernel
theorem dX8_hasRoom_14 : decode cX8_hasRoom 14 = .ok (.iconst 1, 1) := by decide +kernel
theorem dX8_hasRoom_15 : decode cX8_hasRoom 15 = .ok (.goto 4, 3) := by decide +kernel
theorem dX8_hasRoom_19 : decode cX8_hasRoom 19 = .ok (.ireturn, 1) := by decide +kernel
theorem mw_222 : Cond.code yX11_feed cX11_feed 6 (some .int) ∈ wsL_law := List.mem_of_getElem? (i := 222) (by decide +kernel)
theorem dX11_feed_0 : decode cX11_feed 0 = .ok (.aload_n 0, 1) := by decide +kernel
theorem dX11_feed_1 : decode cX11_feed 1 = .ok (.getfield 19, 3) := by decide +kernel
theorem dX11_feed_4 : decode cX11_feed 4 = .ok (.iconst 5, 1) := by decide +kernel
theorem dX11_feed_5 : decode cX11_feed 5 = .ok (.invokevirtual 63, 3) := by decide +kernel
theorem mw_224 : Cond.methodLink RX11 63 yX8_hasRoom ∈ wsL_law := List.mem_of_getElem? (i := 224) (by decide +kernel)
theorem mw_225 : Cond.instanceMethod yX8_hasRoom ∈ wsL_law := List.mem_of_getElem? (i := 225) (by decide +kernel)
theorem mw_226 : Cond.selects RX8 yX8_hasRoom yX8_hasRoom ∈ wsL_law := List.mem_of_getElem? (i := 226) (by decide +kernel)
theorem gV_X11_63 : GoodIn wsL_law (wsV RX11 63 RX8 yX8_hasRoom (wl yX8_hasRoom cX8_hasRoom 2 (some .boolean))) := g_V mw_224 mw_225 mw_226 mw_18 mw_227
theorem hdV_X8_hasRoom : yX8_hasRoom.cls = RX8 ∧ okD yX8_hasRoom 1 := by decide +kernel
theorem dX11_feed_8 : decode cX11_feed 8 = .ok (.ifCond .ne 5, 3) := by decide +kernel
theorem dX11_feed_13 : decode cX11_feed 13 = .ok (.aload_n 0, 1) := by decide +kernel
theorem dX11_feed_14 : decode cX11_feed 14 = .ok (.getfield 19, 3) := by decide +kernel
theorem dX11_feed_17 : decode cX11_feed 17 = .ok (.iload_n 1, 1) := by decide +kernel
theorem dX11_feed_18 : decode cX11_feed 18 = .ok (.invokevirtual 67, 3) := by decide +kernel
theorem mw_228 : Cond.methodLink RX11 67 yX8_add ∈ wsL_law := List.mem_of_getElem? (i := 228) (by decide +kernel)
theorem mw_229 : Cond.instanceMethod yX8_add ∈ wsL_law := List.mem_of_getElem? (i := 229) (by decide +kernel)
theorem mw_230 : Cond.selects RX8 yX8_add yX8_add ∈ wsL_law := List.mem_of_getElem? (i := 230) (by decide +kernel)
theorem gV_X11_67 : GoodIn wsL_law (wsV RX11 67 RX8 yX8_add (wl yX8_add cX8_add 3 none)) := g_V mw_228 mw_229 mw_230 mw_18 mw_231
theorem hdV_X8_add : yX8_add.cls = RX8 ∧ okD yX8_add 1 := by decide +kernel
theorem dX11_feed_21 : decode cX11_feed 21 = .ok (.aload_n 0, 1) := by decide +kernel
theorem dX11_feed_22 : decode cX11_feed 22 = .ok (.getfield 19, 3) := by decide +kernel
theorem dX11_feed_25 : decode cX11_feed 25 = .ok (.iload_n 2, 1) := by decide +kernel
theorem dX11_feed_26 : decode cX11_feed 26 = .ok (.invokevirtual 67, 3) := by decide +kernel
theorem dX11_feed_29 : decode cX11_feed 29 = .ok (.aload_n 0, 1) := by decide +kernel
theorem dX11_feed_30 : decode cX11_feed 30 = .ok (.getfield 19, 3) := by decide +kernel
theorem dX11_feed_33 : decode cX11_feed 33 = .ok (.iload_n 3, 1) := by decide +kernel
theorem dX11_feed_34 : decode cX11_feed 34 = .ok (.invokevirtual 67, 3) := by decide +kernel
theorem dX11_feed_37 : decode cX11_feed 37 = .ok (.aload_n 0, 1) := by decide +kernel
theorem dX11_feed_38 : decode cX11_feed 38 = .ok (.getfield 19, 3) := by decide +kernel
theorem dX11_feed_41 : decode cX11_feed 41 = .ok (.iload 4, 2) := by decide +kernel
theorem dX11_feed_43 : decode cX11_feed 43 = .ok (.invokevirtual 67, 3) := by decide +kernel
theorem dX11_feed_46 : decode cX11_feed 46 = .ok (.aload_n 0, 1) := by decide +kernel
theorem dX11_feed_47 : decode cX11_feed 47 = .ok (.getfield 19, 3) := by decide +kernel
theorem dX11_feed_50 : decode cX11_feed 50 = .ok (.iload 5, 2) := by decide +kernel
theorem dX11_feed_52 : decode cX11_feed 52 = .ok (.invokevirtual 67, 3) := by decide +kernel
theorem dX11_feed_55 : decode cX11_feed 55 = .ok (.aload_n 0, 1) := by decide +kernel
theorem dX11_feed_56 : decode cX11_feed 56 = .ok (.getfield 19, 3) := by decide +kernel
theorem dX11_feed_59 : decode cX11_feed 59 = .ok (.getfield 71, 3) := by decide +kernel
theorem dX11_feed_62 : decode cX11_feed 62 = .ok (.ireturn, 1) := by decide +kernel
theorem mw_210 : Cond.code yX11_canBeDialect cX11_canBeDialect 2 (some .boolean) ∈ wsL_law := List.mem_of_getElem? (i := 210) (by decide +kernel)
theorem dX11_canBeDialect_0 : decode cX11_canBeDialect 0 = .ok (.iload_n 0, 1) := by decide +kernel
theorem dX11_canBeDialect_1 : decode cX11_canBeDialect 1 = .ok (.tableswitch 160 0 5 #[39, 69, 87, 102, 117, 132], 39) := by decide +kernel
theorem dX11_canBeDialect_161 : decode cX11_canBeDialect 161 = .ok (.iconst 0, 1) := by decide +kernel
theorem dX11_canBeDialect_162 : decode cX11_canBeDialect 162 = .ok (.ireturn, 1) := by decide +kernel
theorem dX11_canBeDialect_40 : decode cX11_canBeDialect 40 = .ok (.iload_n 1, 1) := by decide +kernel
theorem dX11_canBeDialect_41 : decode cX11_canBeDialect 41 = .ok (.bipush 44, 2) := by decide +kernel
theorem dX11_canBeDialect_43 : decode cX11_canBeDialect 43 = .ok (.if_icmp .eq 21, 3) := by decide +kernel
theorem dX11_canBeDialect_64 : decode cX11_canBeDialect 64 = .ok (.iconst 1, 1) := by decide +kernel
theorem dX11_canBeDialect_65 : decode cX11_canBeDialect 65 = .ok (.goto 4, 3) := by decide +kernel
theorem dX11_canBeDialect_69 : decode cX11_canBeDialect 69 = .ok (.ireturn, 1) := by decide +kernel
theorem dX11_canBeDialect_46 : decode cX11_canBeDialect 46 = .ok (.iload_n 1, 1) := by decide +kernel
theorem dX11_canBeDialect_47 : decode cX11_canBeDialect 47 = .ok (.bipush 59, 2) := by decide +kernel
theorem dX11_canBeDialect_49 : decode cX11_canBeDialect 49 = .ok (.if_icmp .eq 15, 3) := by decide +kernel
theorem dX11_canBeDialect_52 : decode cX11_canBeDialect 52 = .ok (.iload_n 1, 1) := by decide +kernel
theorem dX11_canBeDialect_53 : decode cX11_canBeDialect 53 = .ok (.bipush 124, 2) := by decide +kernel
theorem dX11_canBeDialect_55 : decode cX11_canBeDialect 55 = .ok (.if_icmp .eq 9, 3) := by decide +kernel
theorem dX11_canBeDialect_58 : decode cX11_canBeDialect 58 = .ok (.iload_n 1, 1) := by decide +kernel
theorem dX11_canBeDialect_59 : decode cX11_canBeDialect 59 = .ok (.bipush 9, 2) := by decide +kernel
theorem dX11_canBeDialect_61 : decode cX11_canBeDialect 61 = .ok (.if_icmp .ne 7, 3) := by decide +kernel
theorem dX11_canBeDialect_68 : decode cX11_canBeDialect 68 = .ok (.iconst 0, 1) := by decide +kernel
theorem dX11_canBeDialect_70 : decode cX11_canBeDialect 70 = .ok (.iload_n 1, 1) := by decide +kernel
theorem dX11_canBeDialect_71 : decode cX11_canBeDialect 71 = .ok (.bipush 34, 2) := by decide +kernel
theorem dX11_canBeDialect_73 : decode cX11_canBeDialect 73 = .ok (.if_icmp .eq 9, 3) := by decide +kernel
theorem dX11_canBeDialect_82 : decode cX11_canBeDialect 82 = .ok (.iconst 1, 1) := by decide +kernel
theorem dX11_canBeDialect_83 : decode cX11_canBeDialect 83 = .ok (.goto 4, 3) := by decide +kernel
theorem dX11_canBeDialect_87 : decode cX11_canBeDialect 87 = .ok (.ireturn, 1) := by decide +kernel
theorem dX11_canBeDialect_76 : decode cX11_canBeDialect 76 = .ok (.iload_n 1, 1) := by decide +kernel
theorem dX11_canBeDialect_77 : decode cX11_canBeDialect 77 = .ok (.bipush 39, 2) := by decide +kernel
theorem dX11_canBeDialect_79 : decode cX11_canBeDialect 79 = .ok (.if_icmp .ne 7, 3) := by decide +kernel
theorem dX11_canBeDialect_86 : decode cX11_canBeDialect 86 = .ok (.iconst 0, 1) := by decide +kernel
theorem dX11_canBeDialect_88 : decode cX11_canBeDialect 88 = .ok (.iload_n 1, 1) := by decide +kernel
theorem dX11_canBeDialect_89 : decode cX11_canBeDialect 89 = .ok (.ifCond .eq 8, 3) := by decide +kernel
theorem dX11_canBeDialect_97 : decode cX11_canBeDialect 97 = .ok (.iconst 1, 1) := by decide +kernel
theorem dX11_canBeDialect_98 : decode cX11_canBeDialect 98 = .ok (.goto 4, 3) := by decide +kernel
theorem dX11_canBeDialect_102 : decode cX11_canBeDialect 102 = .ok (.ireturn, 1) := by decide +kernel
theorem dX11_canBeDialect_92 : decode cX11_canBeDialect 92 = .ok (.iload_n 1, 1) := by decide +kernel
theorem dX11_canBeDialect_93 : decode cX11_canBeDialect 93 = .ok (.iconst 1, 1) := by decide +kernel
theorem dX11_canBeDialect_94 : decode cX11_canBeDialect 94 = .ok (.if_icmp .ne 7, 3) := by decide +kernel
theorem dX11_canBeDialect_101 : decode cX11_canBeDialect 101 = .ok (.iconst 0, 1) := by decide +kernel
theorem dX11_canBeDialect_103 : decode cX11_canBeDialect 103 = .ok (.iload_n 1, 1) := by decide +kernel
theorem dX11_canBeDialect_104 : decode cX11_canBeDialect 104 = .ok (.ifCond .eq 8, 3) := by decide +kernel
theorem dX11_canBeDialect_112 : decode cX11_canBeDialect 112 = .ok (.iconst 1, 1) := by decide +kernel
theorem dX11_canBeDialect_113 : decode cX11_canBeDialect 113 = .ok (.goto 4, 3) := by decide +kernel
theorem dX11_canBeDialect_117 : decode cX11_canBeDialect 117 = .ok (.ireturn, 1) := by decide +kernel
theorem dX11_canBeDialect_107 : decode cX11_canBeDialect 107 = .ok (.iload_n 1, 1) := by decide +kernel
theorem dX11_canBeDialect_108 : decode cX11_canBeDialect 108 = .ok (.iconst 1, 1) := by decide +kernel
theorem dX11_canBeDialect_109 : decode cX11_canBeDialect 109 = .ok (.if_icmp .ne 7, 3) := by decide +kernel
theorem dX11_canBeDialect_116 : decode cX11_canBeDialect 116 = .ok (.iconst 0, 1) := by decide +kernel
theorem dX11_canBeDialect_118 : decode cX11_canBeDialect 118 = .ok (.iload_n 1, 1) := by decide +kernel
theorem dX11_canBeDialect_119 : decode cX11_canBeDialect 119 = .ok (.ifCond .lt 12, 3) := by decide +kernel
theorem dX11_canBeDialect_131 : decode cX11_canBeDialect 131 = .ok (.iconst 0, 1) := by decide +kernel
theorem dX11_canBeDialect_132 : decode cX11_canBeDialect 132 = .ok (.ireturn, 1) := by decide +kernel
theorem dX11_canBeDialect_122 : decode cX11_canBeDialect 122 = .ok (.iload_n 1, 1) := by decide +kernel
theorem dX11_canBeDialect_123 : decode cX11_canBeDialect 123 = .ok (.iconst 3, 1) := by decide +kernel
theorem dX11_canBeDialect_124 : decode cX11_canBeDialect 124 = .ok (.if_icmp .gt 7, 3) := by decide +kernel
theorem dX11_canBeDialect_127 : decode cX11_canBeDialect 127 = .ok (.iconst 1, 1) := by decide +kernel
theorem dX11_canBeDialect_128 : decode cX11_canBeDialect 128 = .ok (.goto 4, 3) := by decide +kernel
theorem dX11_canBeDialect_133 : decode cX11_canBeDialect 133 = .ok (.iload_n 1, 1) := by decide +kernel
theorem dX11_canBeDialect_134 : decode cX11_canBeDialect 134 = .ok (.ifCond .eq 21, 3) := by decide +kernel
theorem dX11_canBeDialect_155 : decode cX11_canBeDialect 155 = .ok (.iconst 1, 1) := by decide +kernel
theorem dX11_canBeDialect_156 : decode cX11_canBeDialect 156 = .ok (.goto 4, 3) := by decide +kernel
theorem dX11_canBeDialect_160 : decode cX11_canBeDialect 160 = .ok (.ireturn, 1) := by decide +kernel
theorem dX11_canBeDialect_137 : decode cX11_canBeDialect 137 = .ok (.iload_n 1, 1) := by decide +kernel
theorem dX11_canBeDialect_138 : decode cX11_canBeDialect 138 = .ok (.bipush 35, 2) := by decide +kernel
theorem dX11_canBeDialect_140 : decode cX11_canBeDialect 140 = .ok (.if_icmp .eq 15, 3) := by decide +kernel
theorem dX11_canBeDialect_143 : decode cX11_canBeDialect 143 = .ok (.iload_n 1, 1) := by decide +kernel
theorem dX11_canBeDialect_144 : decode cX11_canBeDialect 144 = .ok (.bipush 37, 2) := by decide +kernel
theorem dX11_canBeDialect_146 : decode cX11_canBeDialect 146 = .ok (.if_icmp .eq 9, 3) := by decide +kernel
theorem dX11_canBeDialect_149 : decode cX11_canBeDialect 149 = .ok (.iload_n 1, 1) := by decide +kernel
theorem dX11_canBeDialect_150 : decode cX11_canBeDialect 150 = .ok (.bipush 42, 2) := by decide +kernel
theorem dX11_canBeDialect_152 : decode cX11_canBeDialect 152 = .ok (.if_icmp .ne 7, 3) := by decide +kernel
theorem dX11_canBeDialect_159 : decode cX11_canBeDialect 159 = .ok (.iconst 0, 1) := by decide +kernel
theorem mw_207 : Cond.code yX11_dialect cX11_dialect 3 (some .boolean) ∈ wsL_law := List.mem_of_getElem? (i := 207) (by decide +kernel)
theorem dX11_dialect_0 : decode cX11_dialect 0 = .ok (.iload_n 1, 1) := by decide +kernel
theorem dX11_dialect_1 : decode cX11_dialect 1 = .ok (.iload_n 2, 1) := by decide +kernel
theorem dX11_dialect_2 : decode cX11_dialect 2 = .ok (.invokestatic 59, 3) := by decide +kernel
theorem mw_208 : Cond.methodLink RX11 59 yX11_canBeDialect ∈ wsL_law := List.mem_of_getElem? (i := 208) (by decide +kernel)
theorem mw_2 : Cond.initialized RX11 ∈ wsL_law := List.mem_of_getElem? (i := 2) (by decide +kernel)
theorem mw_209 : Cond.static yX11_canBeDialect ∈ wsL_law := List.mem_of_getElem? (i := 209) (by decide +kernel)
theorem gS_X11_59 : GoodIn wsL_law (va_wsS RX11 59 yX11_canBeDialect (wl yX11_canBeDialect cX11_canBeDialect 2 (some .boolean))) := g_S mw_208 mw_209 mw_2 mw_210
theorem hdS_X11_canBeDialect : okD yX11_canBeDialect 2 := by decide +kernel
theorem dX11_dialect_5 : decode cX11_dialect 5 = .ok (.ifCond .ne 5, 3) := by decide +kernel
theorem dX11_dialect_10 : decode cX11_dialect 10 = .ok (.aload_n 0, 1) := by decide +kernel
theorem dX11_dialect_11 : decode cX11_dialect 11 = .ok (.getfield 12, 3) := by decide +kernel
theorem dX11_dialect_14 : decode cX11_dialect 14 = .ok (.getfield 32, 3) := by decide +kernel
theorem dX11_dialect_17 : decode cX11_dialect 17 = .ok (.iload_n 1, 1) := by decide +kernel
theorem dX11_dialect_18 : decode cX11_dialect 18 = .ok (.iload_n 2, 1) := by decide +kernel
theorem dX11_dialect_19 : decode cX11_dialect 19 = .ok (.iastore, 1) := by decide +kernel
theorem dX11_dialect_20 : decode cX11_dialect 20 = .ok (.iconst 1, 1) := by decide +kernel
theorem dX11_dialect_21 : decode cX11_dialect 21 = .ok (.ireturn, 1) := by decide +kernel
theorem dX11_dialect_8 : decode cX11_dialect 8 = .ok (.iconst 0, 1) := by decide +kernel
theorem dX11_dialect_9 : decode cX11_dialect 9 = .ok (.ireturn, 1) := by decide +kernel
theorem mw_1477 : Cond.code yX6_copyFrom cX6_copyFrom 3 none ∈ wsL_law := List.mem_of_getElem? (i := 1477) (by decide +kernel)
theorem dX6_copyFrom_0 : decode cX6_copyFrom 0 = .ok (.aload_n 1, 1) := by decide +kernel
theorem dX6_copyFrom_1 : decode cX6_copyFrom 1 = .ok (.getfield 9, 3) := by decide +kernel
theorem dX6_copyFrom_4 : decode cX6_copyFrom 4 = .ok (.iconst 0, 1) := by decide +kernel
theorem dX6_copyFrom_5 : decode cX6_copyFrom 5 = .ok (.aload_n 0, 1) := by decide +kernel
theorem dX6_copyFrom_6 : decode cX6_copyFrom 6 = .ok (.getfield 9, 3) := by decide +kernel
theorem dX6_copyFrom_9 : decode cX6_copyFrom 9 = .ok (.iconst 0, 1) := by decide +kernel
theorem dX6_copyFrom_10 : decode cX6_copyFrom 10 = .ok (.bipush 6, 2) := by decide +kernel
theorem dX6_copyFrom_12 : decode cX6_copyFrom 12 = .ok (.invokestatic 77, 3) := by decide +kernel
theorem mw_1478 : Cond.methodLink RX6 77 arraycopyName ∈ wsL_law := List.mem_of_getElem? (i := 1478) (by decide +kernel)
theorem mw_321 : Cond.native arraycopyName ∈ wsL_law := List.mem_of_getElem? (i := 321) (by decide +kernel)
theorem mw_322 : Cond.static arraycopyName ∈ wsL_law := List.mem_of_getElem? (i := 322) (by decide +kernel)
theorem mw_323 : Cond.initialized "java/lang/System" ∈ wsL_law := List.mem_of_getElem? (i := 323) (by decide +kernel)
theorem dX6_copyFrom_15 : decode cX6_copyFrom 15 = .ok (.iconst 0, 1) := by decide +kernel
theorem dX6_copyFrom_16 : decode cX6_copyFrom 16 = .ok (.istore_n 2, 1) := by decide +kernel
theorem dX6_copyFrom_17 : decode cX6_copyFrom 17 = .ok (.iload_n 2, 1) := by decide +kernel
theorem dX6_copyFrom_18 : decode cX6_copyFrom 18 = .ok (.iconst 3, 1) := by decide +kernel
theorem dX6_copyFrom_19 : decode cX6_copyFrom 19 = .ok (.if_icmp .ge 33, 3) := by decide +kernel
theorem dX6_copyFrom_22 : decode cX6_copyFrom 22 = .ok (.aload_n 0, 1) := by decide +kernel
theorem dX6_copyFrom_23 : decode cX6_copyFrom 23 = .ok (.getfield 17, 3) := by decide +kernel
theorem dX6_copyFrom_26 : decode cX6_copyFrom 26 = .ok (.iload_n 2, 1) := by decide +kernel
theorem dX6_copyFrom_27 : decode cX6_copyFrom 27 = .ok (.aload_n 1, 1) := by decide +kernel
theorem dX6_copyFrom_28 : decode cX6_copyFrom 28 = .ok (.getfield 17, 3) := by decide +kernel
theorem dX6_copyFrom_31 : decode cX6_copyFrom 31 = .ok (.iload_n 2, 1) := by decide +kernel
theorem dX6_copyFrom_32 : decode cX6_copyFrom 32 = .ok (.aaload, 1) := by decide +kernel
theorem dX6_copyFrom_33 : decode cX6_copyFrom 33 = .ok (.aastore, 1) := by decide +kernel
theorem dX6_copyFrom_34 : decode cX6_copyFrom 34 = .ok (.aload_n 0, 1) := by decide +kernel
theorem dX6_copyFrom_35 : decode cX6_copyFrom 35 = .ok (.getfield 23, 3) := by decide +kernel
theorem dX6_copyFrom_38 : decode cX6_copyFrom 38 = .ok (.iload_n 2, 1) := by decide +kernel
theorem dX6_copyFrom_39 : decode cX6_copyFrom 39 = .ok (.aload_n 1, 1) := by decide +kernel
theorem dX6_copyFrom_40 : decode cX6_copyFrom 40 = .ok (.getfield 23, 3) := by decide +kernel
theorem dX6_copyFrom_43 : decode cX6_copyFrom 43 = .ok (.iload_n 2, 1) := by decide +kernel
theorem dX6_copyFrom_44 : decode cX6_copyFrom 44 = .ok (.aaload, 1) := by decide +kernel
theorem dX6_copyFrom_45 : decode cX6_copyFrom 45 = .ok (.aastore, 1) := by decide +kernel
theorem dX6_copyFrom_46 : decode cX6_copyFrom 46 = .ok (.iinc 2 1, 3) := by decide +kernel
theorem dX6_copyFrom_49 : decode cX6_copyFrom 49 = .ok (.goto (-32), 3) := by decide +kernel
theorem dX6_copyFrom_52 : decode cX6_copyFrom 52 = .ok (.aload_n 0, 1) := by decide +kernel
theorem dX6_copyFrom_53 : decode cX6_copyFrom 53 = .ok (.iconst 0, 1) := by decide +kernel
theorem dX6_copyFrom_54 : decode cX6_copyFrom 54 = .ok (.putfield 33, 3) := by decide +kernel
theorem dX6_copyFrom_57 : decode cX6_copyFrom 57 = .ok (.return_, 1) := by decide +kernel
theorem mw_1473 : Cond.code yX11_image cX11_image 2 (some .boolean) ∈ wsL_law := List.mem_of_getElem? (i := 1473) (by decide +kernel)
theorem dX11_image_0 : decode cX11_image 0 = .ok (.iload_n 1, 1) := by decide +kernel
theorem dX11_image_1 : decode cX11_image 1 = .ok (.ifCond .eq 22, 3) := by decide +kernel
theorem dX11_image_23 : decode cX11_image 23 = .ok (.aload_n 0, 1) := by decide +kernel
theorem dX11_image_24 : decode cX11_image 24 = .ok (.getfield 55, 3) := by decide +kernel
theorem dX11_image_27 : decode cX11_image 27 = .ok (.ifCond .eq 14, 3) := by decide +kernel
theorem dX11_image_41 : decode cX11_image 41 = .ok (.aload_n 0, 1) := by decide +kernel
theorem dX11_image_42 : decode cX11_image 42 = .ok (.getfield 55, 3) := by decide +kernel
theorem dX11_image_45 : decode cX11_image 45 = .ok (.ireturn, 1) := by decide +kernel
theorem dX11_image_4 : decode cX11_image 4 = .ok (.aload_n 0, 1) := by decide +kernel
theorem dX11_image_5 : decode cX11_image 5 = .ok (.getfield 52, 3) := by decide +kernel
theorem dX11_image_8 : decode cX11_image 8 = .ok (.aload_n 0, 1) := by decide +kernel
theorem dX11_image_9 : decode cX11_image 9 = .ok (.getfield 12, 3) := by decide +kernel
theorem dX11_image_12 : decode cX11_image 12 = .ok (.invokevirtual 356, 3) := by decide +kernel
theorem mw_1474 : Cond.methodLink RX11 356 yX6_copyFrom ∈ wsL_law := List.mem_of_getElem? (i := 1474) (by decide +kernel)
theorem mw_1475 : Cond.instanceMethod yX6_copyFrom ∈ wsL_law := List.mem_of_getElem? (i := 1475) (by decide +kernel)
theorem mw_1476 : Cond.selects RX6 yX6_copyFrom yX6_copyFrom ∈ wsL_law := List.mem_of_getElem? (i := 1476) (by decide +kernel)
theorem gV_X11_356 : GoodIn wsL_law (wsV RX11 356 RX6 yX6_copyFrom (wl yX6_copyFrom cX6_copyFrom 3 none)) := g_V mw_1474 mw_1475 mw_1476 mw_14 mw_1477
theorem hdV_X6_copyFrom : yX6_copyFrom.cls = RX6 ∧ okD yX6_copyFrom 1 := by decide +kernel
theorem dX11_image_15 : decode cX11_image 15 = .ok (.aload_n 0, 1) := by decide +kernel
theorem dX11_image_16 : decode cX11_image 16 = .ok (.iconst 1, 1) := by decide +kernel
theorem dX11_image_17 : decode cX11_image 17 = .ok (.putfield 55, 3) := by decide +kernel
theorem dX11_image_20 : decode cX11_image 20 = .ok (.goto 21, 3) := by decide +kernel
theorem mw_1492 : Cond.code yX6_tablesThere cX6_tablesThere 3 (some .int) ∈ wsL_law := List.mem_of_getElem? (i := 1492) (by decide +kernel)
theorem dX6_tablesThere_0 : decode cX6_tablesThere 0 = .ok (.iconst 0, 1) := by decide +kernel
theorem dX6_tablesThere_1 : decode cX6_tablesThere 1 = .ok (.istore_n 1, 1) := by decide +kernel
theorem dX6_tablesThere_2 : decode cX6_tablesThere 2 = .ok (.iconst 0, 1) := by decide +kernel
theorem dX6_tablesThere_3 : decode cX6_tablesThere 3 = .ok (.istore_n 2, 1) := by decide +kernel
theorem dX6_tablesThere_4 : decode cX6_tablesThere 4 = .ok (.iload_n 2, 1) := by decide +kernel
theorem dX6_tablesThere_5 : decode cX6_tablesThere 5 = .ok (.iconst 3, 1) := by decide +kernel
theorem dX6_tablesThere_6 : decode cX6_tablesThere 6 = .ok (.if_icmp .ge 28, 3) := by decide +kernel
theorem dX6_tablesThere_9 : decode cX6_tablesThere 9 = .ok (.iload_n 1, 1) := by decide +kernel
theorem dX6_tablesThere_10 : decode cX6_tablesThere 10 = .ok (.aload_n 0, 1) := by decide +kernel
theorem dX6_tablesThere_11 : decode cX6_tablesThere 11 = .ok (.getfield 17, 3) := by decide +kernel
theorem dX6_tablesThere_14 : decode cX6_tablesThere 14 = .ok (.iload_n 2, 1) := by decide +kernel
theorem dX6_tablesThere_15 : decode cX6_tablesThere 15 = .ok (.aaload, 1) := by decide +kernel
theorem dX6_tablesThere_16 : decode cX6_tablesThere 16 = .ok (.ifnonnull 7, 3) := by decide +kernel
theorem dX6_tablesThere_19 : decode cX6_tablesThere 19 = .ok (.iconst 0, 1) := by decide +kernel
theorem dX6_tablesThere_20 : decode cX6_tablesThere 20 = .ok (.goto 6, 3) := by decide +kernel
theorem dX6_tablesThere_26 : decode cX6_tablesThere 26 = .ok (.ior, 1) := by decide +kernel
theorem dX6_tablesThere_27 : decode cX6_tablesThere 27 = .ok (.istore_n 1, 1) := by decide +kernel
theorem dX6_tablesThere_28 : decode cX6_tablesThere 28 = .ok (.iinc 2 1, 3) := by decide +kernel
theorem dX6_tablesThere_31 : decode cX6_tablesThere 31 = .ok (.goto (-27), 3) := by decide +kernel
theorem dX6_tablesThere_34 : decode cX6_tablesThere 34 = .ok (.iload_n 1, 1) := by decide +kernel
theorem dX6_tablesThere_35 : decode cX6_tablesThere 35 = .ok (.ireturn, 1) := by decide +kernel
theorem mw_1496 : Cond.code yX6_countCells cX6_countCells 4 (some .int) ∈ wsL_law := List.mem_of_getElem? (i := 1496) (by decide +kernel)
theorem dX6_countCells_0 : decode cX6_countCells 0 = .ok (.iconst 0, 1) := by decide +kernel
theorem dX6_countCells_1 : decode cX6_countCells 1 = .ok (.istore_n 1, 1) := by decide +kernel
theorem dX6_countCells_2 : decode cX6_countCells 2 = .ok (.iconst 0, 1) := by decide +kernel
theorem dX6_countCells_3 : decode cX6_countCells 3 = .ok (.istore_n 2, 1) := by decide +kernel
theorem dX6_countCells_4 : decode cX6_countCells 4 = .ok (.iload_n 2, 1) := by decide +kernel
theorem dX6_countCells_5 : decode cX6_countCells 5 = .ok (.iconst 3, 1) := by decide +kernel
theorem dX6_countCells_6 : decode cX6_countCells 6 = .ok (.if_icmp .ge 32, 3) := by decide +kernel
theorem dX6_countCells_9 : decode cX6_countCells 9 = .ok (.aload_n 0, 1) := by decide +kernel
theorem dX6_countCells_10 : decode cX6_countCells 10 = .ok (.getfield 17, 3) := by decide +kernel
theorem dX6_countCells_13 : decode cX6_countCells 13 = .ok (.iload_n 2, 1) := by decide +kernel
theorem dX6_countCells_14 : decode cX6_countCells 14 = .ok (.aaload, 1) := by decide +kernel
theorem dX6_countCells_15 : decode cX6_countCells 15 = .ok (.astore_n 3, 1) := by decide +kernel
theorem dX6_countCells_16 : decode cX6_countCells 16 = .ok (.iload_n 1, 1) := by decide +kernel
theorem dX6_countCells_17 : decode cX6_countCells 17 = .ok (.aload_n 3, 1) := by decide +kernel
theorem dX6_countCells_18 : decode cX6_countCells 18 = .ok (.ifnonnull 7, 3) := by decide +kernel
theorem dX6_countCells_21 : decode cX6_countCells 21 = .ok (.iconst 0, 1) := by decide +kernel
theorem dX6_countCells_22 : decode cX6_countCells 22 = .ok (.goto 8, 3) := by decide +kernel
theorem dX6_countCells_30 : decode cX6_countCells 30 = .ok (.iadd, 1) := by decide +kernel
theorem dX6_countCells_31 : decode cX6_countCells 31 = .ok (.istore_n 1, 1) := by decide +kernel
theorem dX6_countCells_32 : decode cX6_countCells 32 = .ok (.iinc 2 1, 3) := by decide +kernel
theorem dX6_countCells_35 : decode cX6_countCells 35 = .ok (.goto (-31), 3) := by decide +kernel
theorem dX6_countCells_38 : decode cX6_countCells 38 = .ok (.iload_n 1, 1) := by decide +kernel
theorem dX6_countCells_39 : decode cX6_countCells 39 = .ok (.ireturn, 1) := by decide +kernel
theorem mw_1487 : Cond.code yX11_look cX11_look 2 (some .int) ∈ wsL_law := List.mem_of_getElem? (i := 1487) (by decide +kernel)
theorem dX11_look_0 : decode cX11_look 0 = .ok (.iload_n 1, 1) := by decide +kernel
theorem dX11_look_1 : decode cX11_look 1 = .ok (.ifCond .lt 19, 3) := by decide +kernel
theorem dX11_look_20 : decode cX11_look 20 = .ok (.iload_n 1, 1) := by decide +kernel
theorem dX11_look_21 : decode cX11_look 21 = .ok (.tableswitch 75 6 10 #[35, 43, 51, 59, 67], 35) := by decide +kernel
theorem dX11_look_96 : decode cX11_look 96 = .ok (.iconst (-1), 1) := by decide +kernel
theorem dX11_look_97 : decode cX11_look 97 = .ok (.ireturn, 1) := by decide +kernel
theorem dX11_look_56 : decode cX11_look 56 = .ok (.aload_n 0, 1) := by decide +kernel
theorem dX11_look_57 : decode cX11_look 57 = .ok (.getfield 12, 3) := by decide +kernel
theorem dX11_look_60 : decode cX11_look 60 = .ok (.invokevirtual 360, 3) := by decide +kernel
theorem mw_1489 : Cond.methodLink RX11 360 yX6_tablesThere ∈ wsL_law := List.mem_of_getElem? (i := 1489) (by decide +kernel)
theorem mw_1490 : Cond.instanceMethod yX6_tablesThere ∈ wsL_law := List.mem_of_getElem? (i := 1490) (by decide +kernel)
theorem mw_1491 : Cond.selects RX6 yX6_tablesThere yX6_tablesThere ∈ wsL_law := List.mem_of_getElem? (i := 1491) (by decide +kernel)
theorem gV_X11_360 : GoodIn wsL_law (wsV RX11 360 RX6 yX6_tablesThere (wl yX6_tablesThere cX6_tablesThere 3 (some .int))) := g_V mw_1489 mw_1490 mw_1491 mw_14 mw_1492
theorem hdV_X6_tablesThere : yX6_tablesThere.cls = RX6 ∧ okD yX6_tablesThere 0 := by decide +kernel
theorem dX11_look_63 : decode cX11_look 63 = .ok (.ireturn, 1) := by decide +kernel
theorem dX11_look_64 : decode cX11_look 64 = .ok (.aload_n 0, 1) := by decide +kernel
theorem dX11_look_65 : decode cX11_look 65 = .ok (.getfield 12, 3) := by decide +kernel
theorem dX11_look_68 : decode cX11_look 68 = .ok (.getfield 199, 3) := by decide +kernel
theorem dX11_look_71 : decode cX11_look 71 = .ok (.ireturn, 1) := by decide +kernel
theorem dX11_look_72 : decode cX11_look 72 = .ok (.aload_n 0, 1) := by decide +kernel
theorem dX11_look_73 : decode cX11_look 73 = .ok (.getfield 19, 3) := by decide +kernel
theorem dX11_look_76 : decode cX11_look 76 = .ok (.getfield 71, 3) := by decide +kernel
theorem dX11_look_79 : decode cX11_look 79 = .ok (.ireturn, 1) := by decide +kernel
theorem dX11_look_80 : decode cX11_look 80 = .ok (.aload_n 0, 1) := by decide +kernel
theorem dX11_look_81 : decode cX11_look 81 = .ok (.getfield 12, 3) := by decide +kernel
theorem dX11_look_84 : decode cX11_look 84 = .ok (.invokevirtual 363, 3) := by decide +kernel
theorem mw_1493 : Cond.methodLink RX11 363 yX6_countCells ∈ wsL_law := List.mem_of_getElem? (i := 1493) (by decide +kernel)
theorem mw_1494 : Cond.instanceMethod yX6_countCells ∈ wsL_law := List.mem_of_getElem? (i := 1494) (by decide +kernel)
theorem mw_1495 : Cond.selects RX6 yX6_countCells yX6_countCells ∈ wsL_law := List.mem_of_getElem? (i := 1495) (by decide +kernel)
theorem gV_X11_363 : GoodIn wsL_law (wsV RX11 363 RX6 yX6_countCells (wl yX6_countCells cX6_countCells 4 (some .int))) := g_V mw_1493 mw_1494 mw_1495 mw_14 mw_1496
theorem hdV_X6_countCells : yX6_countCells.cls = RX6 ∧ okD yX6_countCells 0 := by decide +kernel
theorem dX11_look_87 : decode cX11_look 87 = .ok (.ireturn, 1) := by decide +kernel
theorem dX11_look_88 : decode cX11_look 88 = .ok (.aload_n 0, 1) := by decide +kernel
theorem dX11_look_89 : decode cX11_look 89 = .ok (.getfield 26, 3) := by decide +kernel
theorem dX11_look_92 : decode cX11_look 92 = .ok (.getfield 366, 3) := by decide +kernel
theorem mw_1488 : Cond.fieldLink RX11 366 "TypedTables$Fault" "readings" "I" ∈ wsL_law := List.mem_of_getElem? (i := 1488) (by decide +kernel)
theorem dX11_look_95 : decode cX11_look 95 = .ok (.ireturn, 1) := by decide +kernel
theorem dX11_look_4 : decode cX11_look 4 = .ok (.iload_n 1, 1) := by decide +kernel
theorem dX11_look_5 : decode cX11_look 5 = .ok (.bipush 6, 2) := by decide +kernel
theorem dX11_look_7 : decode cX11_look 7 = .ok (.if_icmp .ge 13, 3) := by decide +kernel
theorem dX11_look_10 : decode cX11_look 10 = .ok (.aload_n 0, 1) := by decide +kernel
theorem dX11_look_11 : decode cX11_look 11 = .ok (.getfield 12, 3) := by decide +kernel
theorem dX11_look_14 : decode cX11_look 14 = .ok (.getfield 32, 3) := by decide +kernel
theorem dX11_look_17 : decode cX11_look 17 = .ok (.iload_n 1, 1) := by decide +kernel
theorem dX11_look_18 : decode cX11_look 18 = .ok (.iaload, 1) := by decide +kernel
theorem dX11_look_19 : decode cX11_look 19 = .ok (.ireturn, 1) := by decide +kernel
set_option maxHeartbeats 4000000 in
set_option maxRecDepth 100000 in
theorem c_X4_toLine (l : Launch) (D : va_G) (κ : Nat → ClassId) (r0 : Nat) (t0 : Nat) (n1 : Nat) (f0 : Nat) (b0 : Nat) (r1 : Nat) (r2 : Nat) (r3 : Nat) (r4 : Nat) (t1 : Nat) : Cr l yX4_toLine (wl yX4_toLine cX4_toLine 1 (some .boolean)) { frames := 0, cells := 0, slots := 0, locals := 0 } D κ [.ref r0] (va_P D vwCl [(r0, .inr (4, [.ref t0, .ref n1, .ref f0, .ref b0, .int 0, .int (-1), .ref r1, .int 0, .ref r2, .ref r3, .int 0, .null, .ref r4, .int 0])), (t0, .inr (8, [.ref t1, .int 0]))]) (fun _ : Unit => some (.int 0)) (fun _ : Unit => True) := by
  refine cr_of (by decide +kernel) (Nat.le_of_ble_eq_true rfl) ?_
  intro p e s m args below meth c ls hx hb hr hml hts hown hlk hKK hK hI hl
  have hP : va_P D vwCl [(r0, .inr (4, [.ref t0, .ref n1, .ref f0, .ref b0, .int 0, .int (-1), .ref r1, .int 0, .ref r2, .ref r3, .int 0, .null, .ref r4, .int 0])), (t0, .inr (8, [.ref t1, .int 0]))] s.heap := hI
  have hFX : FX p s m args c cX4_toLine 1 RX4 := ⟨hx, hb, hml, hown, hts⟩
  have hl : lv_has ls 1 [(0, .ref r0)] := hl
  refine lv_aload_n hx hb dX4_toLine_0 rfl (lv_at hl 0 rfl) ?_
  refine va_get (D := D) (ci := 4) (v := .int 0) (C := RX4) (T := TX4) (N := 14) hx hb hts inlX4 hown hK hP 0 rfl rfl 4 (by decide) (hts _ mw_71) (fun _ h9 => h9) rfl dX4_toLine_1 ?_
  refine lv_aload_n hx hb dX4_toLine_4 rfl (lv_at hl 0 rfl) ?_
  refine va_get (D := D) (ci := 4) (v := .ref t0) (C := RX4) (T := TX4) (N := 14) hx hb hts inlX4 hown hK hP 0 rfl rfl 0 (by decide) (hts _ mw_81) (fun _ h9 => h9) rfl dX4_toLine_5 ?_
  refine va_get (D := D) (ci := 8) (v := .int 0) (C := RX8) (T := TX8) (N := 2) hx hb hts inlX8 hown hK hP 1 rfl rfl 1 (by decide) (hts _ mw_261) (fun _ h9 => h9) rfl dX4_toLine_8 ?_
  refine lv_icmp_ge (tgt := 120) hx hb dX4_toLine_11 (by decide) (fun c_1 => ?_) (fun c_1 => absurd (by decide) c_1)
  refine lv_iconst (v := 0) hx hb dX4_toLine_120 (by decide) ?_
  exact cr_iret hx hb hr hlk rfl () rfl trivial dX4_toLine_121
set_option maxHeartbeats 4000000 in
set_option maxRecDepth 100000 in
theorem c_X2_tell (l : Launch) (D : va_G) (κ : Nat → ClassId) (f0 : Nat) (t0 : Nat) (t1 : Nat) : Ct l yX2_tell (wl yX2_tell cX2_tell 7 none) { frames := 0, cells := 0, slots := 0, locals := 0 } D κ [.ref f0, .int 9, .int 0, .int (-1), .ref t0] [(f0, .inr (2, [.int 0, .int (-1), .int (-1), .int (-1), .int (-1), .int 0])), (t0, .inr (8, [.ref t1, .int 0]))] (fun _ => True) (fun _ : Unit => none) (fun _ : Unit => True) (fun _ : Unit => [(t0, .inr (8, [.ref t1, .int 0]))]) (fun _ _ => True) := by
  refine ct_of (by decide +kernel) (Nat.le_of_ble_eq_true rfl) ?_
  intro p e s m args below meth c A ls hx hb hr hml hts hown hlk hin hKK hK hA hP hD hS hI hl
  have hS : va_S A s.heap s.heap [] := hS
  have hFX : FX p s m args c cX2_tell 7 RX2 := ⟨hx, hb, hml, hown, hts⟩
  have hl : lv_has ls 7 [(0, .ref f0), (1, .int 9), (2, .int 0), (3, .int (-1)), (4, .ref t0)] := hl
  refine lv_aload_n hx hb dX2_tell_0 rfl (lv_at hl 0 rfl) ?_
  refine lv_iload_n hx hb dX2_tell_1 rfl (lv_at hl 1 rfl) ?_
  refine va_put (D := D) (ci := 2) (v := .int 9) (ty := tyX2 0) (C := RX2) (T := TX2) (N := 6) hx hb hts inlX2 tyX2 tyX2_ok nmX2 hown hK hP hD hS 0 rfl rfl 0 (by decide) (hts _ mw_56) (fun _ h9 => h9) rfl (tyX2_ok 0 (by decide)) rfl rfl (Nat.le_of_ble_eq_true rfl) dX2_tell_2 (fun H locs hP hD hS => ?_)
  have hP : va_P D vwCl [(f0, .inr (2, [.int 9, .int (-1), .int (-1), .int (-1), .int (-1), .int 0])), (t0, .inr (8, [.ref t1, .int 0]))] H := hP
  have hD : va_D A [(f0, .inr (2, [.int 9, .int (-1), .int (-1), .int (-1), .int (-1), .int 0])), (t0, .inr (8, [.ref t1, .int 0]))] := hD
  refine lv_aload_n hx hb dX2_tell_5 rfl (lv_at hl 0 rfl) ?_
  refine lv_iload_n hx hb dX2_tell_6 rfl (lv_at hl 2 rfl) ?_
  refine va_put (D := D) (ci := 2) (v := .int 0) (ty := tyX2 1) (C := RX2) (T := TX2) (N := 6) hx hb hts inlX2 tyX2 tyX2_ok nmX2 hown hK hP hD hS 0 rfl rfl 1 (by decide) (hts _ mw_57) (fun _ h9 => h9) rfl (tyX2_ok 1 (by decide)) rfl rfl (Nat.le_of_ble_eq_true rfl) dX2_tell_7 (fun H locs hP hD hS => ?_)
  have hP : va_P D vwCl [(f0, .inr (2, [.int 9, .int 0, .int (-1), .int (-1), .int (-1), .int 0])), (t0, .inr (8, [.ref t1, .int 0]))] H := hP
  have hD : va_D A [(f0, .inr (2, [.int 9, .int 0, .int (-1), .int (-1), .int (-1), .int 0])), (t0, .inr (8, [.ref t1, .int 0]))] := hD
  refine lv_aload_n hx hb dX2_tell_10 rfl (lv_at hl 0 rfl) ?_
  refine lv_iload_n hx hb dX2_tell_11 rfl (lv_at hl 3 rfl) ?_
  refine va_put (D := D) (ci := 2) (v := .int (-1)) (ty := tyX2 4) (C := RX2) (T := TX2) (N := 6) hx hb hts inlX2 tyX2 tyX2_ok nmX2 hown hK hP hD hS 0 rfl rfl 4 (by decide) (hts _ mw_60) (fun _ h9 => h9) rfl (tyX2_ok 4 (by decide)) rfl rfl (Nat.le_of_ble_eq_true rfl) dX2_tell_12 (fun H locs hP hD hS => ?_)
  have hP : va_P D vwCl [(f0, .inr (2, [.int 9, .int 0, .int (-1), .int (-1), .int (-1), .int 0])), (t0, .inr (8, [.ref t1, .int 0]))] H := hP
  have hD : va_D A [(f0, .inr (2, [.int 9, .int 0, .int (-1), .int (-1), .int (-1), .int 0])), (t0, .inr (8, [.ref t1, .int 0]))] := hD
  refine lv_aload_n hx hb dX2_tell_15 rfl (lv_at hl 0 rfl) ?_
  refine lv_iconst (v := 0) hx hb dX2_tell_16 (by decide) ?_
  refine va_put (D := D) (ci := 2) (v := .int 0) (ty := tyX2 2) (C := RX2) (T := TX2) (N := 6) hx hb hts inlX2 tyX2 tyX2_ok nmX2 hown hK hP hD hS 0 rfl rfl 2 (by decide) (hts _ mw_58) (fun _ h9 => h9) rfl (tyX2_ok 2 (by decide)) rfl rfl (Nat.le_of_ble_eq_true rfl) dX2_tell_17 (fun H locs hP hD hS => ?_)
  have hP : va_P D vwCl [(f0, .inr (2, [.int 9, .int 0, .int 0, .int (-1), .int (-1), .int 0])), (t0, .inr (8, [.ref t1, .int 0]))] H := hP
  have hD : va_D A [(f0, .inr (2, [.int 9, .int 0, .int 0, .int (-1), .int (-1), .int 0])), (t0, .inr (8, [.ref t1, .int 0]))] := hD
  refine lv_iconst (v := 0) hx hb dX2_tell_20 (by decide) ?_
  refine lv_istore (lv' := [(5, .int 0), (0, .ref f0), (1, .int 9), (2, .int 0), (3, .int (-1)), (4, .ref t0)]) hx hb dX2_tell_21 hl (by decide) rfl (fun ls hl => ?_)
  refine lv_iconst (v := 0) hx hb dX2_tell_23 (by decide) ?_
  refine lv_istore (lv' := [(6, .int 0), (5, .int 0), (0, .ref f0), (1, .int 9), (2, .int 0), (3, .int (-1)), (4, .ref t0)]) hx hb dX2_tell_24 hl (by decide) rfl (fun ls hl => ?_)
  refine lv_iload hx hb dX2_tell_26 (lv_at hl 0 rfl) ?_
  refine lv_iload_n hx hb dX2_tell_28 rfl (lv_at hl 4 rfl) ?_
  refine lv_icmp_ge (tgt := 77) hx hb dX2_tell_29 (by decide) (fun c_1 => ?_) (fun c_1 => absurd (by decide) c_1)
  refine lv_aload_n hx hb dX2_tell_77 rfl (lv_at hl 2 rfl) ?_
  refine lv_iload_n hx hb dX2_tell_78 rfl (lv_at hl 4 rfl) ?_
  refine lv_iload hx hb dX2_tell_79 (lv_at hl 1 rfl) ?_
  refine lv_isub hx hb dX2_tell_81 ?_
  refine ki (v := 0) (by decide) ?_
  refine va_put (D := D) (ci := 2) (v := .int 0) (ty := tyX2 3) (C := RX2) (T := TX2) (N := 6) hx hb hts inlX2 tyX2 tyX2_ok nmX2 hown hK hP hD hS 0 rfl rfl 3 (by decide) (hts _ mw_59) (fun _ h9 => h9) rfl (tyX2_ok 3 (by decide)) rfl rfl (Nat.le_of_ble_eq_true rfl) dX2_tell_82 (fun H locs hP hD hS => ?_)
  have hP : va_P D vwCl [(f0, .inr (2, [.int 9, .int 0, .int 0, .int 0, .int (-1), .int 0])), (t0, .inr (8, [.ref t1, .int 0]))] H := hP
  have hD : va_D A [(f0, .inr (2, [.int 9, .int 0, .int 0, .int 0, .int (-1), .int 0])), (t0, .inr (8, [.ref t1, .int 0]))] := hD
  refine lv_aload_n hx hb dX2_tell_85 rfl (lv_at hl 2 rfl) ?_
  refine lv_dup hx hb dX2_tell_86 rfl ?_
  refine va_get (D := D) (ci := 2) (v := .int 0) (C := RX2) (T := TX2) (N := 6) hx hb hts inlX2 hown hK hP 0 rfl rfl 5 (by decide) (hts _ mw_61) (fun _ h9 => h9) rfl dX2_tell_87 ?_
  refine lv_iconst (v := 1) hx hb dX2_tell_90 (by decide) ?_
  refine lv_iadd hx hb dX2_tell_91 ?_
  refine ki (v := 1) (by decide) ?_
  refine va_put (D := D) (ci := 2) (v := .int 1) (ty := tyX2 5) (C := RX2) (T := TX2) (N := 6) hx hb hts inlX2 tyX2 tyX2_ok nmX2 hown hK hP hD hS 0 rfl rfl 5 (by decide) (hts _ mw_61) (fun _ h9 => h9) rfl (tyX2_ok 5 (by decide)) rfl rfl (Nat.le_of_ble_eq_true rfl) dX2_tell_92 (fun H locs hP hD hS => ?_)
  have hP : va_P D vwCl [(f0, .inr (2, [.int 9, .int 0, .int 0, .int 0, .int (-1), .int 1])), (t0, .inr (8, [.ref t1, .int 0]))] H := hP
  have hD : va_D A [(f0, .inr (2, [.int 9, .int 0, .int 0, .int 0, .int (-1), .int 1])), (t0, .inr (8, [.ref t1, .int 0]))] := hD
  exact ct_vret hx hb hr hlk hS hP hD () rfl trivial [1] rfl (by decide) trivial (Nat.le_of_ble_eq_true rfl) (Nat.le_of_ble_eq_true rfl) dX2_tell_95
set_option maxHeartbeats 4000000 in
set_option maxRecDepth 100000 in
theorem c_X4_readLines (l : Launch) (D : va_G) (κ : Nat → ClassId) (r0 : Nat) (t0 : Nat) (n1 : Nat) (f0 : Nat) (b0 : Nat) (r1 : Nat) (r2 : Nat) (r3 : Nat) (r4 : Nat) (t1 : Nat) : Ct l yX4_readLines (wl yX4_readLines cX4_readLines 5 (some .boolean)) { frames := 1, cells := 0, slots := 0, locals := 26 } D κ [.ref r0, .null, .int 40] [(r0, .inr (4, [.ref t0, .ref n1, .ref f0, .ref b0, .int 0, .int (-1), .ref r1, .int 0, .ref r2, .ref r3, .int 0, .null, .ref r4, .int 0])), (t0, .inr (8, [.ref t1, .int 0])), (f0, .inr (2, [.int 0, .int (-1), .int (-1), .int (-1), .int (-1), .int 0]))] (fun _ => True) (fun _ : Unit => some (.int 0)) (fun _ : Unit => True) (fun _ : Unit => [(t0, .inr (8, [.ref t1, .int 0]))]) (fun _ _ => True) := by
  refine ct_of (by decide +kernel) (Nat.le_of_ble_eq_true rfl) ?_
  intro p e s m args below meth c A ls hx hb hr hml hts hown hlk hin hKK hK hA hP hD hS hI hl
  have hS : va_S A s.heap s.heap [] := hS
  have hFX : FX p s m args c cX4_readLines 5 RX4 := ⟨hx, hb, hml, hown, hts⟩
  have hl : lv_has ls 5 [(0, .ref r0), (1, .null), (2, .int 40)] := hl
  refine lv_aload_n hx hb dX4_readLines_0 rfl (lv_at hl 0 rfl) ?_
  refine lv_aload_nN hx hb dX4_readLines_1 rfl (lv_at hl 1 rfl) ?_
  refine va_put (D := D) (ci := 4) (v := .null) (ty := tyX4 11) (C := RX4) (T := TX4) (N := 14) hx hb hts inlX4 tyX4 tyX4_ok nmX4 hown hK hP hD hS 0 rfl rfl 11 (by decide) (hts _ mw_78) (fun _ h9 => h9) rfl (tyX4_ok 11 (by decide)) rfl rfl (Nat.le_of_ble_eq_true rfl) dX4_readLines_2 (fun H locs hP hD hS => ?_)
  have hP : va_P D vwCl [(r0, .inr (4, [.ref t0, .ref n1, .ref f0, .ref b0, .int 0, .int (-1), .ref r1, .int 0, .ref r2, .ref r3, .int 0, .null, .ref r4, .int 0])), (t0, .inr (8, [.ref t1, .int 0])), (f0, .inr (2, [.int 0, .int (-1), .int (-1), .int (-1), .int (-1), .int 0]))] H := hP
  have hD : va_D A [(r0, .inr (4, [.ref t0, .ref n1, .ref f0, .ref b0, .int 0, .int (-1), .ref r1, .int 0, .ref r2, .ref r3, .int 0, .null, .ref r4, .int 0])), (t0, .inr (8, [.ref t1, .int 0])), (f0, .inr (2, [.int 0, .int (-1), .int (-1), .int (-1), .int (-1), .int 0]))] := hD
  refine lv_aload_n hx hb dX4_readLines_5 rfl (lv_at hl 0 rfl) ?_
  refine lv_iconst (v := 0) hx hb dX4_readLines_6 (by decide) ?_
  refine va_put (D := D) (ci := 4) (v := .int 0) (ty := tyX4 4) (C := RX4) (T := TX4) (N := 14) hx hb hts inlX4 tyX4 tyX4_ok nmX4 hown hK hP hD hS 0 rfl rfl 4 (by decide) (hts _ mw_71) (fun _ h9 => h9) rfl (tyX4_ok 4 (by decide)) rfl rfl (Nat.le_of_ble_eq_true rfl) dX4_readLines_7 (fun H locs hP hD hS => ?_)
  have hP : va_P D vwCl [(r0, .inr (4, [.ref t0, .ref n1, .ref f0, .ref b0, .int 0, .int (-1), .ref r1, .int 0, .ref r2, .ref r3, .int 0, .null, .ref r4, .int 0])), (t0, .inr (8, [.ref t1, .int 0])), (f0, .inr (2, [.int 0, .int (-1), .int (-1), .int (-1), .int (-1), .int 0]))] H := hP
  have hD : va_D A [(r0, .inr (4, [.ref t0, .ref n1, .ref f0, .ref b0, .int 0, .int (-1), .ref r1, .int 0, .ref r2, .ref r3, .int 0, .null, .ref r4, .int 0])), (t0, .inr (8, [.ref t1, .int 0])), (f0, .inr (2, [.int 0, .int (-1), .int (-1), .int (-1), .int (-1), .int 0]))] := hD
  refine lv_aload_n hx hb dX4_readLines_10 rfl (lv_at hl 0 rfl) ?_
  refine lv_iconst (v := 0) hx hb dX4_readLines_11 (by decide) ?_
  refine va_put (D := D) (ci := 4) (v := .int 0) (ty := tyX4 13) (C := RX4) (T := TX4) (N := 14) hx hb hts inlX4 tyX4 tyX4_ok nmX4 hown hK hP hD hS 0 rfl rfl 13 (by decide) (hts _ mw_80) (fun _ h9 => h9) rfl (tyX4_ok 13 (by decide)) rfl rfl (Nat.le_of_ble_eq_true rfl) dX4_readLines_12 (fun H locs hP hD hS => ?_)
  have hP : va_P D vwCl [(r0, .inr (4, [.ref t0, .ref n1, .ref f0, .ref b0, .int 0, .int (-1), .ref r1, .int 0, .ref r2, .ref r3, .int 0, .null, .ref r4, .int 0])), (t0, .inr (8, [.ref t1, .int 0])), (f0, .inr (2, [.int 0, .int (-1), .int (-1), .int (-1), .int (-1), .int 0]))] H := hP
  have hD : va_D A [(r0, .inr (4, [.ref t0, .ref n1, .ref f0, .ref b0, .int 0, .int (-1), .ref r1, .int 0, .ref r2, .ref r3, .int 0, .null, .ref r4, .int 0])), (t0, .inr (8, [.ref t1, .int 0])), (f0, .inr (2, [.int 0, .int (-1), .int (-1), .int (-1), .int (-1), .int 0]))] := hD
  refine lv_iconst (v := 0) hx hb dX4_readLines_15 (by decide) ?_
  refine lv_istore_n (lv' := [(3, .int 0), (0, .ref r0), (1, .null), (2, .int 40)]) hx hb dX4_readLines_16 rfl hl (by decide) rfl (fun ls hl => ?_)
  refine lv_iload_n hx hb dX4_readLines_17 rfl (lv_at hl 0 rfl) ?_
  refine lv_sipush (v := 800) hx hb dX4_readLines_18 (by decide) ?_
  refine lv_icmp_gt (tgt := 77) hx hb dX4_readLines_21 (by decide) (fun c_1 => absurd c_1 (by decide)) (fun c_1 => ?_)
  refine lv_aload_n hx hb dX4_readLines_24 rfl (lv_at hl 1 rfl) ?_
  refine cr_V (As := []) (rest := []) hFX hKK (c_X4_toLine l D κ r0 t0 n1 f0 b0 r1 r2 r3 r4 t1) 0 gV_X4_66 hdV_X4_toLine rfl rfl ⟨Nat.le_of_ble_eq_true rfl, Nat.le_of_ble_eq_true rfl⟩ rfl rfl (Nat.le_of_ble_eq_true rfl) dX4_readLines_25 ⟨Nat.le_of_ble_eq_true rfl, Nat.le_of_ble_eq_true rfl⟩ hl.1 hP 0 4 rfl rfl rfl (hP.sub [0, 1] rfl) (fun _ hp_2 => ?_)
  refine W.eq (g2 := F0 m 28 ls [.int 0]) rfl ?_
  refine lv_if_eq (tgt := 77) hx hb dX4_readLines_28 (by decide) (fun c_3 => ?_) (fun c_3 => absurd (by decide) c_3)
  refine lv_iload_n hx hb dX4_readLines_77 rfl (lv_at hl 0 rfl) ?_
  refine lv_if_eq (tgt := 88) hx hb dX4_readLines_78 (by decide) (fun c_4 => ?_) (fun c_4 => absurd (by decide) c_4)
  refine lv_aload_n hx hb dX4_readLines_88 rfl (lv_at hl 1 rfl) ?_
  refine va_get (D := D) (ci := 4) (v := .ref f0) (C := RX4) (T := TX4) (N := 14) hx hb hts inlX4 hown hK hP 0 rfl rfl 2 (by decide) (hts _ mw_83) (fun _ h9 => h9) rfl dX4_readLines_89 ?_
  refine lv_bipush (v := 9) hx hb dX4_readLines_92 (by decide) ?_
  refine lv_aload_n hx hb dX4_readLines_94 rfl (lv_at hl 1 rfl) ?_
  refine va_get (D := D) (ci := 4) (v := .ref t0) (C := RX4) (T := TX4) (N := 14) hx hb hts inlX4 hown hK hP 0 rfl rfl 0 (by decide) (hts _ mw_81) (fun _ h9 => h9) rfl dX4_readLines_95 ?_
  refine va_get (D := D) (ci := 8) (v := .int 0) (C := RX8) (T := TX8) (N := 2) hx hb hts inlX8 hown hK hP 1 rfl rfl 1 (by decide) (hts _ mw_261) (fun _ h9 => h9) rfl dX4_readLines_98 ?_
  refine lv_iconst (v := (-1)) hx hb dX4_readLines_101 (by decide) ?_
  refine lv_aload_n hx hb dX4_readLines_102 rfl (lv_at hl 1 rfl) ?_
  refine va_get (D := D) (ci := 4) (v := .ref t0) (C := RX4) (T := TX4) (N := 14) hx hb hts inlX4 hown hK hP 0 rfl rfl 0 (by decide) (hts _ mw_81) (fun _ h9 => h9) rfl dX4_readLines_103 ?_
  refine ct_V (wr := [(r0, .inr (4, [.ref t0, .ref n1, .ref f0, .ref b0, .int 0, .int (-1), .ref r1, .int 0, .ref r2, .ref r3, .int 0, .null, .ref r4, .int 0]))]) (As := [.int 9, .int 0, .int (-1), .ref t0]) (rest := []) hFX hKK hP hD hS hA (c_X2_tell l D κ f0 t0 t1) 4 gV_X4_74 hdV_X2_tell ⟨Nat.le_of_ble_eq_true rfl, Nat.le_of_ble_eq_true rfl⟩ rfl rfl (Nat.le_of_ble_eq_true rfl) dX4_readLines_106 ⟨Nat.le_of_ble_eq_true rfl, Nat.le_of_ble_eq_true rfl⟩ hl.1 [2, 1] [0] rfl rfl (by decide) (by decide) (by decide) 2 2 rfl rfl rfl trivial (fun _ H locs hp_5 _ hP hD hS hz_ hk_ => ?_)
  have hP : va_P D vwCl [(r0, .inr (4, [.ref t0, .ref n1, .ref f0, .ref b0, .int 0, .int (-1), .ref r1, .int 0, .ref r2, .ref r3, .int 0, .null, .ref r4, .int 0])), (t0, .inr (8, [.ref t1, .int 0]))] H := hP
  have hD : va_D A [(r0, .inr (4, [.ref t0, .ref n1, .ref f0, .ref b0, .int 0, .int (-1), .ref r1, .int 0, .ref r2, .ref r3, .int 0, .null, .ref r4, .int 0])), (t0, .inr (8, [.ref t1, .int 0]))] := hD
  refine W.eq (g2 := F0 m 109 ls []) rfl ?_
  refine lv_iconst (v := 0) hx hb dX4_readLines_109 (by decide) ?_
  exact ct_iret hx hb hr hlk rfl hS hP hD () rfl trivial [1] rfl (by decide) trivial (Nat.le_of_ble_eq_true rfl) (Nat.le_of_ble_eq_true rfl) dX4_readLines_110
set_option maxHeartbeats 4000000 in
set_option maxRecDepth 100000 in
theorem c_X11_read (l : Launch) (D : va_G) (κ : Nat → ClassId) (x0 : Nat) (n0 : Nat) (t0 : Nat) (f0 : Nat) (r0 : Nat) (w0 : Nat) (k0 : Nat) (n1 : Nat) (b0 : Nat) (r1 : Nat) (r2 : Nat) (r3 : Nat) (r4 : Nat) (t1 : Nat) (n2 : Nat) (n3 : Nat) (n4 : Nat) (n5 : Nat) (za : Int32) : Ct l yX11_read (wl yX11_read cX11_read 4 (some .int)) { frames := 2, cells := 0, slots := 0, locals := 50 } D κ [.ref x0, .int za] [(x0, .inr (11, [.ref n0, .ref t0, .ref f0, .ref r0, .ref w0, .ref k0, .int 0])), (r0, .inr (4, [.ref t0, .ref n1, .ref f0, .ref b0, .int 0, .int (-1), .ref r1, .int 0, .ref r2, .ref r3, .int 0, .null, .ref r4, .int 0])), (t0, .inr (8, [.ref t1, .int 0])), (f0, .inr (2, [.int 0, .int (-1), .int (-1), .int (-1), .int (-1), .int 0])), (n0, .inr (6, [.ref n1, .ref n2, .ref n3, .ref n4, .ref n5, .int 0]))] (fun _ => True) (fun _ : Unit => some (.int (-1))) (fun _ : Unit => True) (fun _ : Unit => []) (fun _ _ => True) := by
  refine ct_of (by decide +kernel) (Nat.le_of_ble_eq_true rfl) ?_
  intro p e s m args below meth c A ls hx hb hr hml hts hown hlk hin hKK hK hA hP hD hS hI hl
  have hS : va_S A s.heap s.heap [] := hS
  have hFX : FX p s m args c cX11_read 4 RX11 := ⟨hx, hb, hml, hown, hts⟩
  have hl : lv_has ls 4 [(0, .ref x0), (1, .int za)] := hl
  refine lv_iload_n hx hb dX11_read_0 rfl (lv_at hl 1 rfl) ?_
  refine cr_S (As := [.int za]) (rest := []) hFX hKK (c_X6_isPlace l D κ za) 1 gS_X11_75 hdS_X6_isPlace rfl rfl ⟨Nat.le_of_ble_eq_true rfl, Nat.le_of_ble_eq_true rfl⟩ rfl rfl (Nat.le_of_ble_eq_true rfl) dX11_read_1 ⟨Nat.le_of_ble_eq_true rfl, Nat.le_of_ble_eq_true rfl⟩ hl.1 (hP.sub [] rfl) (fun r_1 hp_2 => ?_)
  have hp_2 : (r_1 = 1 ∧ ¬ za < 0 ∧ ¬ 3 ≤ za) ∨ (r_1 = 0 ∧ (za < 0 ∨ 3 ≤ za)) := hp_2
  rcases hp_2 with ⟨rfl, a_3, a_4⟩ | ⟨rfl, a_5⟩
  · refine W.eq (g2 := F0 m 4 ls [.int 1]) rfl ?_
    refine lv_if_eq (tgt := 24) hx hb dX11_read_4 (by decide) (fun c_6 => absurd c_6 (by decide)) (fun c_6 => ?_)
    refine lv_aload_n hx hb dX11_read_7 rfl (lv_at hl 0 rfl) ?_
    refine va_get (D := D) (ci := 11) (v := .ref r0) (C := RX11) (T := TX11) (N := 7) hx hb hts inlX11 hown hK hP 0 rfl rfl 3 (by decide) (hts _ mw_28) (fun _ h9 => h9) rfl dX11_read_8 ?_
    refine lv_null hx hb dX11_read_11 ?_
    refine lv_bipush (v := 40) hx hb dX11_read_12 (by decide) ?_
    refine ct_V (wr := [(x0, .inr (11, [.ref n0, .ref t0, .ref f0, .ref r0, .ref w0, .ref k0, .int 0])), (n0, .inr (6, [.ref n1, .ref n2, .ref n3, .ref n4, .ref n5, .int 0]))]) (As := [.null, .int 40]) (rest := []) hFX hKK hP hD hS hA (c_X4_readLines l D κ r0 t0 n1 f0 b0 r1 r2 r3 r4 t1) 2 gV_X11_78 hdV_X4_readLines ⟨Nat.le_of_ble_eq_true rfl, Nat.le_of_ble_eq_true rfl⟩ rfl rfl (Nat.le_of_ble_eq_true rfl) dX11_read_14 ⟨Nat.le_of_ble_eq_true rfl, Nat.le_of_ble_eq_true rfl⟩ hl.1 [1, 2, 3] [0, 4] rfl rfl (by decide) (by decide) (by decide) 1 4 rfl rfl rfl trivial (fun _ H locs hp_7 _ hP hD hS hz_ hk_ => ?_)
    have hP : va_P D vwCl [(x0, .inr (11, [.ref n0, .ref t0, .ref f0, .ref r0, .ref w0, .ref k0, .int 0])), (n0, .inr (6, [.ref n1, .ref n2, .ref n3, .ref n4, .ref n5, .int 0])), (t0, .inr (8, [.ref t1, .int 0]))] H := hP
    have hD : va_D A [(x0, .inr (11, [.ref n0, .ref t0, .ref f0, .ref r0, .ref w0, .ref k0, .int 0])), (n0, .inr (6, [.ref n1, .ref n2, .ref n3, .ref n4, .ref n5, .int 0])), (t0, .inr (8, [.ref t1, .int 0]))] := hD
    refine W.eq (g2 := F0 m 17 ls [.int 0]) rfl ?_
    refine lv_if_eq (tgt := 24) hx hb dX11_read_17 (by decide) (fun c_8 => ?_) (fun c_8 => absurd (by decide) c_8)
    refine lv_iconst (v := 0) hx hb dX11_read_24 (by decide) ?_
    refine lv_istore_n (lv' := [(2, .int 0), (0, .ref x0), (1, .int za)]) hx hb dX11_read_25 rfl hl (by decide) rfl (fun ls hl => ?_)
    refine lv_aload_n hx hb dX11_read_26 rfl (lv_at hl 1 rfl) ?_
    refine va_get (D := D) (ci := 11) (v := .ref t0) (C := RX11) (T := TX11) (N := 7) hx hb hts inlX11 hown hK hP 0 rfl rfl 1 (by decide) (hts _ mw_19) (fun _ h9 => h9) rfl dX11_read_27 ?_
    refine lv_iconst (v := 0) hx hb dX11_read_30 (by decide) ?_
    refine va_put (D := D) (ci := 8) (v := .int 0) (ty := tyX8 1) (C := RX8) (T := TX8) (N := 2) hx hb hts inlX8 tyX8 tyX8_ok nmX8 hown hK hP hD hS 2 rfl rfl 1 (by decide) (hts _ mw_223) (fun _ h9 => h9) rfl (tyX8_ok 1 (by decide)) rfl rfl (Nat.le_of_ble_eq_true rfl) dX11_read_31 (fun H locs hP hD hS => ?_)
    have hP : va_P D vwCl [(x0, .inr (11, [.ref n0, .ref t0, .ref f0, .ref r0, .ref w0, .ref k0, .int 0])), (n0, .inr (6, [.ref n1, .ref n2, .ref n3, .ref n4, .ref n5, .int 0])), (t0, .inr (8, [.ref t1, .int 0]))] H := hP
    have hD : va_D A [(x0, .inr (11, [.ref n0, .ref t0, .ref f0, .ref r0, .ref w0, .ref k0, .int 0])), (n0, .inr (6, [.ref n1, .ref n2, .ref n3, .ref n4, .ref n5, .int 0])), (t0, .inr (8, [.ref t1, .int 0]))] := hD
    refine lv_iload_n hx hb dX11_read_34 rfl (lv_at hl 0 rfl) ?_
    refine lv_if_eq (tgt := 48) hx hb dX11_read_35 (by decide) (fun c_9 => ?_) (fun c_9 => absurd (by decide) c_9)
    refine lv_null hx hb dX11_read_48 ?_
    refine lv_astore_nN (lv' := [(3, .null), (2, .int 0), (0, .ref x0), (1, .int za)]) hx hb dX11_read_49 rfl hl (by decide) rfl (fun ls hl => ?_)
    refine lv_aload_nN hx hb dX11_read_50 rfl (lv_at hl 0 rfl) ?_
    refine lv_ifnonnullN hx hb dX11_read_51 ?_
    refine lv_iconst (v := (-1)) hx hb dX11_read_54 (by decide) ?_
    exact ct_iret hx hb hr hlk rfl hS hP hD () rfl trivial [] rfl (by decide) trivial (Nat.le_of_ble_eq_true rfl) (Nat.le_of_ble_eq_true rfl) dX11_read_55
  · refine W.eq (g2 := F0 m 4 ls [.int 0]) rfl ?_
    refine lv_if_eq (tgt := 24) hx hb dX11_read_4 (by decide) (fun c_10 => ?_) (fun c_10 => absurd (by decide) c_10)
    refine lv_iconst (v := 0) hx hb dX11_read_24 (by decide) ?_
    refine lv_istore_n (lv' := [(2, .int 0), (0, .ref x0), (1, .int za)]) hx hb dX11_read_25 rfl hl (by decide) rfl (fun ls hl => ?_)
    refine lv_aload_n hx hb dX11_read_26 rfl (lv_at hl 1 rfl) ?_
    refine va_get (D := D) (ci := 11) (v := .ref t0) (C := RX11) (T := TX11) (N := 7) hx hb hts inlX11 hown hK hP 0 rfl rfl 1 (by decide) (hts _ mw_19) (fun _ h9 => h9) rfl dX11_read_27 ?_
    refine lv_iconst (v := 0) hx hb dX11_read_30 (by decide) ?_
    refine va_put (D := D) (ci := 8) (v := .int 0) (ty := tyX8 1) (C := RX8) (T := TX8) (N := 2) hx hb hts inlX8 tyX8 tyX8_ok nmX8 hown hK hP hD hS 2 rfl rfl 1 (by decide) (hts _ mw_223) (fun _ h9 => h9) rfl (tyX8_ok 1 (by decide)) rfl rfl (Nat.le_of_ble_eq_true rfl) dX11_read_31 (fun H locs hP hD hS => ?_)
    have hP : va_P D vwCl [(x0, .inr (11, [.ref n0, .ref t0, .ref f0, .ref r0, .ref w0, .ref k0, .int 0])), (r0, .inr (4, [.ref t0, .ref n1, .ref f0, .ref b0, .int 0, .int (-1), .ref r1, .int 0, .ref r2, .ref r3, .int 0, .null, .ref r4, .int 0])), (t0, .inr (8, [.ref t1, .int 0])), (f0, .inr (2, [.int 0, .int (-1), .int (-1), .int (-1), .int (-1), .int 0])), (n0, .inr (6, [.ref n1, .ref n2, .ref n3, .ref n4, .ref n5, .int 0]))] H := hP
    have hD : va_D A [(x0, .inr (11, [.ref n0, .ref t0, .ref f0, .ref r0, .ref w0, .ref k0, .int 0])), (r0, .inr (4, [.ref t0, .ref n1, .ref f0, .ref b0, .int 0, .int (-1), .ref r1, .int 0, .ref r2, .ref r3, .int 0, .null, .ref r4, .int 0])), (t0, .inr (8, [.ref t1, .int 0])), (f0, .inr (2, [.int 0, .int (-1), .int (-1), .int (-1), .int (-1), .int 0])), (n0, .inr (6, [.ref n1, .ref n2, .ref n3, .ref n4, .ref n5, .int 0]))] := hD
    refine lv_iload_n hx hb dX11_read_34 rfl (lv_at hl 0 rfl) ?_
    refine lv_if_eq (tgt := 48) hx hb dX11_read_35 (by decide) (fun c_11 => ?_) (fun c_11 => absurd (by decide) c_11)
    refine lv_null hx hb dX11_read_48 ?_
    refine lv_astore_nN (lv' := [(3, .null), (2, .int 0), (0, .ref x0), (1, .int za)]) hx hb dX11_read_49 rfl hl (by decide) rfl (fun ls hl => ?_)
    refine lv_aload_nN hx hb dX11_read_50 rfl (lv_at hl 0 rfl) ?_
    refine lv_ifnonnullN hx hb dX11_read_51 ?_
    refine lv_iconst (v := (-1)) hx hb dX11_read_54 (by decide) ?_
    exact ct_iret hx hb hr hlk rfl hS hP hD () rfl trivial [] rfl (by decide) trivial (Nat.le_of_ble_eq_true rfl) (Nat.le_of_ble_eq_true rfl) dX11_read_55
set_option maxHeartbeats 4000000 in
set_option maxRecDepth 100000 in
theorem c_X8_takeBytes (l : Launch) (D : va_G) (κ : Nat → ClassId) (t0 : Nat) (t1 : Nat) : Ct l yX8_takeBytes (wl yX8_takeBytes cX8_takeBytes 4 (some (.array .byte))) { frames := 0, cells := 1, slots := 0, locals := 0 } D κ [.ref t0] [(t0, .inr (8, [.ref t1, .int 0])), (t1, .inl (κ 0, 800, .inl (fun _ => 0)))] (fun _ => True) (fun q : Nat => some (.ref q)) (fun q : Nat => True) (fun q : Nat => [(t0, .inr (8, [.ref t1, .int 0])), (t1, .inl (κ 0, 800, .inl (fun _ => 0))), (q, .inl (κ 1, 0, .inl (fun _ => 0)))]) (fun _ _ => True) := by
  refine ct_of (by decide +kernel) (Nat.le_of_ble_eq_true rfl) ?_
  intro p e s m args below meth c A ls hx hb hr hml hts hown hlk hin hKK hK hA hP hD hS hI hl
  have hS : va_S A s.heap s.heap [] := hS
  have hFX : FX p s m args c cX8_takeBytes 4 RX8 := ⟨hx, hb, hml, hown, hts⟩
  have hl : lv_has ls 4 [(0, .ref t0)] := hl
  refine lv_aload_n hx hb dX8_takeBytes_0 rfl (lv_at hl 0 rfl) ?_
  refine va_get (D := D) (ci := 8) (v := .int 0) (C := RX8) (T := TX8) (N := 2) hx hb hts inlX8 hown hK hP 0 rfl rfl 1 (by decide) (hts _ mw_52) (fun _ h9 => h9) rfl dX8_takeBytes_1 ?_
  refine lv_istore_n (lv' := [(1, .int 0), (0, .ref t0)]) hx hb dX8_takeBytes_4 rfl hl (by decide) rfl (fun ls hl => ?_)
  refine lv_aload_n hx hb dX8_takeBytes_5 rfl (lv_at hl 1 rfl) ?_
  refine lv_iconst (v := 0) hx hb dX8_takeBytes_6 (by decide) ?_
  refine va_put (D := D) (ci := 8) (v := .int 0) (ty := tyX8 1) (C := RX8) (T := TX8) (N := 2) hx hb hts inlX8 tyX8 tyX8_ok nmX8 hown hK hP hD hS 0 rfl rfl 1 (by decide) (hts _ mw_52) (fun _ h9 => h9) rfl (tyX8_ok 1 (by decide)) rfl rfl (Nat.le_of_ble_eq_true rfl) dX8_takeBytes_7 (fun H locs hP hD hS => ?_)
  have hP : va_P D vwCl [(t0, .inr (8, [.ref t1, .int 0])), (t1, .inl (κ 0, 800, .inl (fun _ => 0)))] H := hP
  have hD : va_D A [(t0, .inr (8, [.ref t1, .int 0])), (t1, .inl (κ 0, 800, .inl (fun _ => 0)))] := hD
  refine lv_iload_n hx hb dX8_takeBytes_10 rfl (lv_at hl 0 rfl) ?_
  refine lv_bipush (v := 20) hx hb dX8_takeBytes_11 (by decide) ?_
  refine lv_icmp_le (tgt := 18) hx hb dX8_takeBytes_13 (by decide) (fun c_1 => ?_) (fun c_1 => absurd (by decide) c_1)
  refine lv_iload_n hx hb dX8_takeBytes_18 rfl (lv_at hl 0 rfl) ?_
  refine my_newa (atype := .byte) hx hb (hts _ mw_69) rfl hK hP hD hS hA 1 rfl (N' := 0) (a0 := (0, .inl (fun _ => 0))) (fun _ => rfl) (by decide) (by decide) (Nat.le_of_ble_eq_true rfl) (Nat.le_of_ble_eq_true rfl) (Nat.le_of_ble_eq_true rfl) dX8_takeBytes_19 (fun q_2 H hP hD hS => ?_)
  have hP : va_P D vwCl [(t0, .inr (8, [.ref t1, .int 0])), (t1, .inl (κ 0, 800, .inl (fun _ => 0))), (q_2, .inl (κ 1, 0, .inl (fun _ => 0)))] H := hP
  have hD : va_D A [(t0, .inr (8, [.ref t1, .int 0])), (t1, .inl (κ 0, 800, .inl (fun _ => 0))), (q_2, .inl (κ 1, 0, .inl (fun _ => 0)))] := hD
  refine lv_astore_n (lv' := [(2, .ref q_2), (1, .int 0), (0, .ref t0)]) hx hb dX8_takeBytes_21 rfl hl (by decide) rfl (fun ls hl => ?_)
  refine lv_iconst (v := 0) hx hb dX8_takeBytes_22 (by decide) ?_
  refine lv_istore_n (lv' := [(3, .int 0), (2, .ref q_2), (1, .int 0), (0, .ref t0)]) hx hb dX8_takeBytes_23 rfl hl (by decide) rfl (fun ls hl => ?_)
  refine lv_iload_n hx hb dX8_takeBytes_24 rfl (lv_at hl 0 rfl) ?_
  refine lv_iload_n hx hb dX8_takeBytes_25 rfl (lv_at hl 2 rfl) ?_
  refine lv_icmp_ge (tgt := 70) hx hb dX8_takeBytes_26 (by decide) (fun c_3 => ?_) (fun c_3 => absurd (by decide) c_3)
  refine lv_aload_n hx hb dX8_takeBytes_70 rfl (lv_at hl 1 rfl) ?_
  exact ct_aret hx hb hr (by first | exact Or.inl ⟨_, rfl⟩ | exact Or.inr ⟨_, rfl⟩) hlk (by first | exact Or.inl rfl | exact Or.inr ⟨_, rfl⟩) hS hP hD q_2 rfl trivial [0, 1, 2] rfl (by decide) trivial (Nat.le_of_ble_eq_true rfl) (Nat.le_of_ble_eq_true rfl) dX8_takeBytes_71
set_option maxHeartbeats 4000000 in
set_option maxRecDepth 100000 in
theorem c_X8_takeCell (l : Launch) (D : va_G) (κ : Nat → ClassId) (t0 : Nat) (t1 : Nat) : Ct l yX8_takeCell (wl yX8_takeCell cX8_takeCell 2 (some (.object "TypedTables$Cell"))) { frames := 2, cells := 2, slots := 3, locals := 42 } D κ [.ref t0] [(t0, .inr (8, [.ref t1, .int 0])), (t1, .inl (κ 0, 800, .inl (fun _ => 0)))] (fun _ => True) (fun u9 : Nat × Nat => some (.ref u9.1)) (fun u9 : Nat × Nat => True) (fun u9 : Nat × Nat => [(t0, .inr (8, [.ref t1, .int 0])), (t1, .inl (κ 0, 800, .inl (fun _ => 0))), (u9.1, .inr (0, [.ref u9.2, .int 0, .long 0])), (u9.2, .inl (κ 1, 0, .inl (fun _ => 0)))]) (fun _ _ => True) := by
  refine ct_of (by decide +kernel) (Nat.le_of_ble_eq_true rfl) ?_
  intro p e s m args below meth c A ls hx hb hr hml hts hown hlk hin hKK hK hA hP hD hS hI hl
  have hS : va_S A s.heap s.heap [] := hS
  have hFX : FX p s m args c cX8_takeCell 2 RX8 := ⟨hx, hb, hml, hown, hts⟩
  have hl : lv_has ls 2 [(0, .ref t0)] := hl
  refine lv_aload_n hx hb dX8_takeCell_0 rfl (lv_at hl 0 rfl) ?_
  refine ct_V (wr := []) (As := []) (rest := []) hFX hKK hP hD hS hA (c_X8_takeBytes l D κ t0 t1) 0 gV_X8_19 hdV_X8_takeBytes ⟨Nat.le_of_ble_eq_true rfl, Nat.le_of_ble_eq_true rfl⟩ rfl rfl (Nat.le_of_ble_eq_true rfl) dX8_takeCell_1 ⟨Nat.le_of_ble_eq_true rfl, Nat.le_of_ble_eq_true rfl⟩ hl.1 [0, 1] [] rfl rfl (by decide) (by decide) (by decide) 0 8 rfl rfl rfl trivial (fun q_1 H locs hp_2 _ hP hD hS hz_ hk_ => ?_)
  have hP : va_P D vwCl [(t0, .inr (8, [.ref t1, .int 0])), (t1, .inl (κ 0, 800, .inl (fun _ => 0))), (q_1, .inl (κ 1, 0, .inl (fun _ => 0)))] H := hP
  have hD : va_D A [(t0, .inr (8, [.ref t1, .int 0])), (t1, .inl (κ 0, 800, .inl (fun _ => 0))), (q_1, .inl (κ 1, 0, .inl (fun _ => 0)))] := hD
  refine W.eq (g2 := F0 m 4 ls [.ref q_1]) rfl ?_
  refine lv_astore_n (lv' := [(1, .ref q_1), (0, .ref t0)]) hx hb dX8_takeCell_4 rfl hl (by decide) rfl (fun ls hl => ?_)
  refine lv_aload_n hx hb dX8_takeCell_5 rfl (lv_at hl 0 rfl) ?_
  refine lv_ifnonnull (tgt := 13) hx hb dX8_takeCell_6 (by decide) ?_
  refine va_new (ci := 0) (fs := [.null, .int 0, .long 0]) (C := RX0) (T := TX0) (N := 3) hx hb hts inlX0 tyX0 tyX0_ok hown (hts _ mw_564) (hts _ mw_67) (hts _ mw_68) hK hP hD hS hA rfl (fun j hj => by rcases (show j = 0 ∨ j = 1 ∨ j = 2 by omega) with rfl | rfl | rfl <;> rfl) (Nat.le_of_ble_eq_true rfl) (Nat.le_of_ble_eq_true rfl) dX8_takeCell_13 (fun q_3 H hP hD hS => ?_)
  have hP : va_P D vwCl [(t0, .inr (8, [.ref t1, .int 0])), (t1, .inl (κ 0, 800, .inl (fun _ => 0))), (q_1, .inl (κ 1, 0, .inl (fun _ => 0))), (q_3, .inr (0, [.null, .int 0, .long 0]))] H := hP
  have hD : va_D A [(t0, .inr (8, [.ref t1, .int 0])), (t1, .inl (κ 0, 800, .inl (fun _ => 0))), (q_1, .inl (κ 1, 0, .inl (fun _ => 0))), (q_3, .inr (0, [.null, .int 0, .long 0]))] := hD
  refine lv_dup hx hb dX8_takeCell_16 rfl ?_
  refine lv_aload_n hx hb dX8_takeCell_17 rfl (lv_at hl 0 rfl) ?_
  refine ct_I (wr := [(t0, .inr (8, [.ref t1, .int 0])), (t1, .inl (κ 0, 800, .inl (fun _ => 0)))]) (As := [.ref q_1]) (rest := [.ref q_3]) hFX hKK hP hD hS hA (c_X0_init l D κ q_3 q_1) 1 mw_570 mw_85 mw_68 mw_86 hdI_X0_init ⟨Nat.le_of_ble_eq_true rfl, Nat.le_of_ble_eq_true rfl⟩ rfl rfl (Nat.le_of_ble_eq_true rfl) dX8_takeCell_18 ⟨Nat.le_of_ble_eq_true rfl, Nat.le_of_ble_eq_true rfl⟩ hl.1 [3, 2] [0, 1] rfl rfl (by decide) (by decide) (by decide) trivial (fun _ H locs hp_4 _ hP hD hS hz_ hk_ => ?_)
  have hP : va_P D vwCl [(t0, .inr (8, [.ref t1, .int 0])), (t1, .inl (κ 0, 800, .inl (fun _ => 0))), (q_3, .inr (0, [.ref q_1, .int 0, .long 0])), (q_1, .inl (κ 1, 0, .inl (fun _ => 0)))] H := hP
  have hD : va_D A [(t0, .inr (8, [.ref t1, .int 0])), (t1, .inl (κ 0, 800, .inl (fun _ => 0))), (q_3, .inr (0, [.ref q_1, .int 0, .long 0])), (q_1, .inl (κ 1, 0, .inl (fun _ => 0)))] := hD
  refine W.eq (g2 := F0 m 21 ls [.ref q_3]) rfl ?_
  exact ct_aret hx hb hr (by first | exact Or.inl ⟨_, rfl⟩ | exact Or.inr ⟨_, rfl⟩) hlk (by first | exact Or.inl rfl | exact Or.inr ⟨_, rfl⟩) hS hP hD (q_3, q_1) rfl trivial [0, 1, 2, 3] rfl (by decide) trivial (Nat.le_of_ble_eq_true rfl) (Nat.le_of_ble_eq_true rfl) dX8_takeCell_21
set_option maxHeartbeats 4000000 in
set_option maxRecDepth 100000 in
theorem c_X1_canBeName (l : Launch) (D : va_G) (κ : Nat → ClassId) (b1 : Nat) : Cr l yX1_canBeName (wl yX1_canBeName cX1_canBeName 2 (some .boolean)) { frames := 0, cells := 0, slots := 0, locals := 0 } D κ [.ref b1] (va_P D vwCl [(b1, .inl (κ 1, 0, .inl (fun _ => 0)))]) (fun _ : Unit => some (.int 0)) (fun _ : Unit => True) := by
  refine cr_of (by decide +kernel) (Nat.le_of_ble_eq_true rfl) ?_
  intro p e s m args below meth c ls hx hb hr hml hts hown hlk hKK hK hI hl
  have hP : va_P D vwCl [(b1, .inl (κ 1, 0, .inl (fun _ => 0)))] s.heap := hI
  have hFX : FX p s m args c cX1_canBeName 2 RX1 := ⟨hx, hb, hml, hown, hts⟩
  have hl : lv_has ls 2 [(0, .ref b1)] := hl
  refine lv_aload_n hx hb dX1_canBeName_0 rfl (lv_at hl 0 rfl) ?_
  refine va_alen hx hb hK hP 0 1 rfl rfl (v := 0) rfl dX1_canBeName_1 ?_
  refine lv_iconst (v := 1) hx hb dX1_canBeName_2 (by decide) ?_
  refine lv_icmp_lt (tgt := 13) hx hb dX1_canBeName_3 (by decide) (fun c_1 => ?_) (fun c_1 => absurd (by decide) c_1)
  refine lv_iconst (v := 0) hx hb dX1_canBeName_13 (by decide) ?_
  exact cr_iret hx hb hr hlk rfl () rfl trivial dX1_canBeName_14
set_option maxHeartbeats 4000000 in
set_option maxRecDepth 100000 in
theorem c_X8_takeName (l : Launch) (D : va_G) (κ : Nat → ClassId) (t0 : Nat) (t1 : Nat) : Ct l yX8_takeName (wl yX8_takeName cX8_takeName 2 (some (.array .byte))) { frames := 1, cells := 1, slots := 0, locals := 23 } D κ [.ref t0] [(t0, .inr (8, [.ref t1, .int 0])), (t1, .inl (κ 0, 800, .inl (fun _ => 0)))] (fun _ => True) (fun _ : Unit => some (.null)) (fun _ : Unit => True) (fun _ : Unit => [(t0, .inr (8, [.ref t1, .int 0])), (t1, .inl (κ 0, 800, .inl (fun _ => 0)))]) (fun _ _ => True) := by
  refine ct_of (by decide +kernel) (Nat.le_of_ble_eq_true rfl) ?_
  intro p e s m args below meth c A ls hx hb hr hml hts hown hlk hin hKK hK hA hP hD hS hI hl
  have hS : va_S A s.heap s.heap [] := hS
  have hFX : FX p s m args c cX8_takeName 2 RX8 := ⟨hx, hb, hml, hown, hts⟩
  have hl : lv_has ls 2 [(0, .ref t0)] := hl
  refine lv_aload_n hx hb dX8_takeName_0 rfl (lv_at hl 0 rfl) ?_
  refine ct_V (wr := []) (As := []) (rest := []) hFX hKK hP hD hS hA (c_X8_takeBytes l D κ t0 t1) 0 gV_X8_19 hdV_X8_takeBytes ⟨Nat.le_of_ble_eq_true rfl, Nat.le_of_ble_eq_true rfl⟩ rfl rfl (Nat.le_of_ble_eq_true rfl) dX8_takeName_1 ⟨Nat.le_of_ble_eq_true rfl, Nat.le_of_ble_eq_true rfl⟩ hl.1 [0, 1] [] rfl rfl (by decide) (by decide) (by decide) 0 8 rfl rfl rfl trivial (fun q_1 H locs hp_2 _ hP hD hS hz_ hk_ => ?_)
  have hP : va_P D vwCl [(t0, .inr (8, [.ref t1, .int 0])), (t1, .inl (κ 0, 800, .inl (fun _ => 0))), (q_1, .inl (κ 1, 0, .inl (fun _ => 0)))] H := hP
  have hD : va_D A [(t0, .inr (8, [.ref t1, .int 0])), (t1, .inl (κ 0, 800, .inl (fun _ => 0))), (q_1, .inl (κ 1, 0, .inl (fun _ => 0)))] := hD
  refine W.eq (g2 := F0 m 4 ls [.ref q_1]) rfl ?_
  refine lv_astore_n (lv' := [(1, .ref q_1), (0, .ref t0)]) hx hb dX8_takeName_4 rfl hl (by decide) rfl (fun ls hl => ?_)
  refine lv_aload_n hx hb dX8_takeName_5 rfl (lv_at hl 0 rfl) ?_
  refine lv_ifnull hx hb dX8_takeName_6 ?_
  refine lv_aload_n hx hb dX8_takeName_9 rfl (lv_at hl 0 rfl) ?_
  refine cr_S (As := [.ref q_1]) (rest := []) hFX hKK (c_X1_canBeName l D κ q_1) 1 gS_X8_28 hdS_X1_canBeName rfl rfl ⟨Nat.le_of_ble_eq_true rfl, Nat.le_of_ble_eq_true rfl⟩ rfl rfl (Nat.le_of_ble_eq_true rfl) dX8_takeName_10 ⟨Nat.le_of_ble_eq_true rfl, Nat.le_of_ble_eq_true rfl⟩ hl.1 (hP.sub [2] rfl) (fun _ hp_3 => ?_)
  refine W.eq (g2 := F0 m 13 ls [.int 0]) rfl ?_
  refine lv_if_ne (tgt := 20) hx hb dX8_takeName_13 (by decide) (fun c_4 => absurd (by decide) c_4) (fun c_4 => ?_)
  refine lv_null hx hb dX8_takeName_16 ?_
  refine lv_goto (tgt := 21) hx hb dX8_takeName_17 (by decide) ?_
  exact ct_aret hx hb hr (by first | exact Or.inl ⟨_, rfl⟩ | exact Or.inr ⟨_, rfl⟩) hlk (by first | exact Or.inl rfl | exact Or.inr ⟨_, rfl⟩) hS hP hD () rfl trivial [0, 1] rfl (by decide) trivial (Nat.le_of_ble_eq_true rfl) (Nat.le_of_ble_eq_true rfl) dX8_takeName_21
set_option maxHeartbeats 4000000 in
set_option maxRecDepth 100000 in
theorem c_X11_put (l : Launch) (D : va_G) (κ : Nat → ClassId) (x0 : Nat) (n0 : Nat) (t0 : Nat) (f0 : Nat) (r0 : Nat) (w0 : Nat) (k0 : Nat) (n1 : Nat) (n2 : Nat) (n3 : Nat) (n4 : Nat) (n5 : Nat) (t1 : Nat) (za : Int32) (zb : Int32) (zc : Int32) : Ct l yX11_put (wl yX11_put cX11_put 6 (some .boolean)) { frames := 3, cells := 2, slots := 3, locals := 63 } D κ [.ref x0, .int za, .int zb, .int zc] [(x0, .inr (11, [.ref n0, .ref t0, .ref f0, .ref r0, .ref w0, .ref k0, .int 0])), (n0, .inr (6, [.ref n1, .ref n2, .ref n3, .ref n4, .ref n5, .int 0])), (n2, .inl (κ 4, 3, .inr (.inr (.inr (.inr (fun _ => none)))))), (t0, .inr (8, [.ref t1, .int 0])), (t1, .inl (κ 0, 800, .inl (fun _ => 0)))] (fun _ => True) (fun _ : Unit => some (.int 0)) (fun _ : Unit => True) (fun _ : Unit => []) (fun _ _ => True) := by
  refine ct_of (by decide +kernel) (Nat.le_of_ble_eq_true rfl) ?_
  intro p e s m args below meth c A ls hx hb hr hml hts hown hlk hin hKK hK hA hP hD hS hI hl
  have hS : va_S A s.heap s.heap [] := hS
  have hFX : FX p s m args c cX11_put 6 RX11 := ⟨hx, hb, hml, hown, hts⟩
  have hl : lv_has ls 6 [(0, .ref x0), (1, .int za), (2, .int zb), (3, .int zc)] := hl
  refine lv_aload_n hx hb dX11_put_0 rfl (lv_at hl 0 rfl) ?_
  refine va_get (D := D) (ci := 11) (v := .ref t0) (C := RX11) (T := TX11) (N := 7) hx hb hts inlX11 hown hK hP 0 rfl rfl 1 (by decide) (hts _ mw_19) (fun _ h9 => h9) rfl dX11_put_1 ?_
  refine ct_V (wr := [(x0, .inr (11, [.ref n0, .ref t0, .ref f0, .ref r0, .ref w0, .ref k0, .int 0])), (n0, .inr (6, [.ref n1, .ref n2, .ref n3, .ref n4, .ref n5, .int 0])), (n2, .inl (κ 4, 3, .inr (.inr (.inr (.inr (fun _ => none))))))]) (As := []) (rest := []) hFX hKK hP hD hS hA (c_X8_takeCell l D κ t0 t1) 0 gV_X11_110 hdV_X8_takeCell ⟨Nat.le_of_ble_eq_true rfl, Nat.le_of_ble_eq_true rfl⟩ rfl rfl (Nat.le_of_ble_eq_true rfl) dX11_put_4 ⟨Nat.le_of_ble_eq_true rfl, Nat.le_of_ble_eq_true rfl⟩ hl.1 [3, 4] [0, 1, 2] rfl rfl (by decide) (by decide) (by decide) 3 8 rfl rfl rfl trivial (fun u_3 H locs hp_4 _ hP hD hS hz_ hk_ => ?_)
  obtain ⟨q_1, z_2⟩ := u_3
  have hP : va_P D vwCl [(x0, .inr (11, [.ref n0, .ref t0, .ref f0, .ref r0, .ref w0, .ref k0, .int 0])), (n0, .inr (6, [.ref n1, .ref n2, .ref n3, .ref n4, .ref n5, .int 0])), (n2, .inl (κ 4, 3, .inr (.inr (.inr (.inr (fun _ => none)))))), (t0, .inr (8, [.ref t1, .int 0])), (t1, .inl (κ 0, 800, .inl (fun _ => 0))), (q_1, .inr (0, [.ref z_2, .int 0, .long 0])), (z_2, .inl (κ 1, 0, .inl (fun _ => 0)))] H := hP
  have hD : va_D A [(x0, .inr (11, [.ref n0, .ref t0, .ref f0, .ref r0, .ref w0, .ref k0, .int 0])), (n0, .inr (6, [.ref n1, .ref n2, .ref n3, .ref n4, .ref n5, .int 0])), (n2, .inl (κ 4, 3, .inr (.inr (.inr (.inr (fun _ => none)))))), (t0, .inr (8, [.ref t1, .int 0])), (t1, .inl (κ 0, 800, .inl (fun _ => 0))), (q_1, .inr (0, [.ref z_2, .int 0, .long 0])), (z_2, .inl (κ 1, 0, .inl (fun _ => 0)))] := hD
  refine W.eq (g2 := F0 m 7 ls [.ref q_1]) rfl ?_
  refine lv_astore (lv' := [(4, .ref q_1), (0, .ref x0), (1, .int za), (2, .int zb), (3, .int zc)]) hx hb dX11_put_7 hl (by decide) rfl (fun ls hl => ?_)
  refine lv_aload_n hx hb dX11_put_9 rfl (lv_at hl 1 rfl) ?_
  refine va_get (D := D) (ci := 11) (v := .ref n0) (C := RX11) (T := TX11) (N := 7) hx hb hts inlX11 hown hK hP 0 rfl rfl 0 (by decide) (hts _ mw_15) (fun _ h9 => h9) rfl dX11_put_10 ?_
  refine lv_iload_n hx hb dX11_put_13 rfl (lv_at hl 2 rfl) ?_
  refine cr_V (As := [.int za]) (rest := []) hFX hKK (c_X6_sheetOf l D κ n0 n1 n2 n3 n4 n5 za) 1 gV_X11_114 hdV_X6_sheetOf rfl rfl ⟨Nat.le_of_ble_eq_true rfl, Nat.le_of_ble_eq_true rfl⟩ rfl rfl (Nat.le_of_ble_eq_true rfl) dX11_put_14 ⟨Nat.le_of_ble_eq_true rfl, Nat.le_of_ble_eq_true rfl⟩ hl.1 hP 1 6 rfl rfl rfl (hP.sub [1, 2] rfl) (fun _ hp_5 => ?_)
  refine W.eq (g2 := F0 m 17 ls [.null]) rfl ?_
  refine lv_astoreN (lv' := [(5, .null), (4, .ref q_1), (0, .ref x0), (1, .int za), (2, .int zb), (3, .int zc)]) hx hb dX11_put_17 hl (by decide) rfl (fun ls hl => ?_)
  refine lv_aload hx hb dX11_put_19 (lv_at hl 1 rfl) ?_
  refine lv_ifnull hx hb dX11_put_21 ?_
  refine lv_aloadN hx hb dX11_put_24 (lv_at hl 0 rfl) ?_
  refine lv_ifnullN (tgt := 39) hx hb dX11_put_26 (by decide) ?_
  refine lv_iconst (v := 0) hx hb dX11_put_39 (by decide) ?_
  exact ct_iret hx hb hr hlk rfl hS hP hD () rfl trivial [] rfl (by decide) trivial (Nat.le_of_ble_eq_true rfl) (Nat.le_of_ble_eq_true rfl) dX11_put_40
set_option maxHeartbeats 4000000 in
set_option maxRecDepth 100000 in
theorem c_X11_narrow (l : Launch) (D : va_G) (κ : Nat → ClassId) (x0 : Nat) (n0 : Nat) (t0 : Nat) (f0 : Nat) (r0 : Nat) (w0 : Nat) (k0 : Nat) (n1 : Nat) (n2 : Nat) (n3 : Nat) (n4 : Nat) (n5 : Nat) (t1 : Nat) (za : Int32) (zb : Int32) (zc : Int32) : Ct l yX11_narrow (wl yX11_narrow cX11_narrow 7 (some .int)) { frames := 3, cells := 2, slots := 3, locals := 65 } D κ [.ref x0, .int za, .int zb, .int zc] [(x0, .inr (11, [.ref n0, .ref t0, .ref f0, .ref r0, .ref w0, .ref k0, .int 0])), (n0, .inr (6, [.ref n1, .ref n2, .ref n3, .ref n4, .ref n5, .int 0])), (n2, .inl (κ 4, 3, .inr (.inr (.inr (.inr (fun _ => none)))))), (n3, .inl (κ 5, 3, .inr (.inr (.inr (.inr (fun _ => none)))))), (t0, .inr (8, [.ref t1, .int 0])), (t1, .inl (κ 0, 800, .inl (fun _ => 0)))] (fun _ => True) (fun _ : Unit => some (.int (-1))) (fun _ : Unit => True) (fun _ : Unit => []) (fun _ _ => True) := by
  refine ct_of (by decide +kernel) (Nat.le_of_ble_eq_true rfl) ?_
  intro p e s m args below meth c A ls hx hb hr hml hts hown hlk hin hKK hK hA hP hD hS hI hl
  have hS : va_S A s.heap s.heap [] := hS
  have hFX : FX p s m args c cX11_narrow 7 RX11 := ⟨hx, hb, hml, hown, hts⟩
  have hl : lv_has ls 7 [(0, .ref x0), (1, .int za), (2, .int zb), (3, .int zc)] := hl
  refine lv_aload_n hx hb dX11_narrow_0 rfl (lv_at hl 0 rfl) ?_
  refine va_get (D := D) (ci := 11) (v := .ref t0) (C := RX11) (T := TX11) (N := 7) hx hb hts inlX11 hown hK hP 0 rfl rfl 1 (by decide) (hts _ mw_19) (fun _ h9 => h9) rfl dX11_narrow_1 ?_
  refine va_get (D := D) (ci := 8) (v := .int 0) (C := RX8) (T := TX8) (N := 2) hx hb hts inlX8 hown hK hP 4 rfl rfl 1 (by decide) (hts _ mw_223) (fun _ h9 => h9) rfl dX11_narrow_4 ?_
  refine lv_if_le (tgt := 14) hx hb dX11_narrow_7 (by decide) (fun c_1 => ?_) (fun c_1 => absurd (by decide) c_1)
  refine lv_iconst (v := 0) hx hb dX11_narrow_14 (by decide) ?_
  refine lv_istore (lv' := [(4, .int 0), (0, .ref x0), (1, .int za), (2, .int zb), (3, .int zc)]) hx hb dX11_narrow_15 hl (by decide) rfl (fun ls hl => ?_)
  refine lv_aload_n hx hb dX11_narrow_17 rfl (lv_at hl 1 rfl) ?_
  refine va_get (D := D) (ci := 11) (v := .ref t0) (C := RX11) (T := TX11) (N := 7) hx hb hts inlX11 hown hK hP 0 rfl rfl 1 (by decide) (hts _ mw_19) (fun _ h9 => h9) rfl dX11_narrow_18 ?_
  refine ct_V (wr := [(x0, .inr (11, [.ref n0, .ref t0, .ref f0, .ref r0, .ref w0, .ref k0, .int 0])), (n0, .inr (6, [.ref n1, .ref n2, .ref n3, .ref n4, .ref n5, .int 0])), (n2, .inl (κ 4, 3, .inr (.inr (.inr (.inr (fun _ => none)))))), (n3, .inl (κ 5, 3, .inr (.inr (.inr (.inr (fun _ => none))))))]) (As := []) (rest := []) hFX hKK hP hD hS hA (c_X8_takeCell l D κ t0 t1) 0 gV_X11_110 hdV_X8_takeCell ⟨Nat.le_of_ble_eq_true rfl, Nat.le_of_ble_eq_true rfl⟩ rfl rfl (Nat.le_of_ble_eq_true rfl) dX11_narrow_21 ⟨Nat.le_of_ble_eq_true rfl, Nat.le_of_ble_eq_true rfl⟩ hl.1 [4, 5] [0, 1, 2, 3] rfl rfl (by decide) (by decide) (by decide) 4 8 rfl rfl rfl trivial (fun u_4 H locs hp_5 _ hP hD hS hz_ hk_ => ?_)
  obtain ⟨q_2, z_3⟩ := u_4
  have hP : va_P D vwCl [(x0, .inr (11, [.ref n0, .ref t0, .ref f0, .ref r0, .ref w0, .ref k0, .int 0])), (n0, .inr (6, [.ref n1, .ref n2, .ref n3, .ref n4, .ref n5, .int 0])), (n2, .inl (κ 4, 3, .inr (.inr (.inr (.inr (fun _ => none)))))), (n3, .inl (κ 5, 3, .inr (.inr (.inr (.inr (fun _ => none)))))), (t0, .inr (8, [.ref t1, .int 0])), (t1, .inl (κ 0, 800, .inl (fun _ => 0))), (q_2, .inr (0, [.ref z_3, .int 0, .long 0])), (z_3, .inl (κ 1, 0, .inl (fun _ => 0)))] H := hP
  have hD : va_D A [(x0, .inr (11, [.ref n0, .ref t0, .ref f0, .ref r0, .ref w0, .ref k0, .int 0])), (n0, .inr (6, [.ref n1, .ref n2, .ref n3, .ref n4, .ref n5, .int 0])), (n2, .inl (κ 4, 3, .inr (.inr (.inr (.inr (fun _ => none)))))), (n3, .inl (κ 5, 3, .inr (.inr (.inr (.inr (fun _ => none)))))), (t0, .inr (8, [.ref t1, .int 0])), (t1, .inl (κ 0, 800, .inl (fun _ => 0))), (q_2, .inr (0, [.ref z_3, .int 0, .long 0])), (z_3, .inl (κ 1, 0, .inl (fun _ => 0)))] := hD
  refine W.eq (g2 := F0 m 24 ls [.ref q_2]) rfl ?_
  refine lv_astore (lv' := [(5, .ref q_2), (4, .int 0), (0, .ref x0), (1, .int za), (2, .int zb), (3, .int zc)]) hx hb dX11_narrow_24 hl (by decide) rfl (fun ls hl => ?_)
  refine lv_aload_n hx hb dX11_narrow_26 rfl (lv_at hl 2 rfl) ?_
  refine va_get (D := D) (ci := 11) (v := .ref n0) (C := RX11) (T := TX11) (N := 7) hx hb hts inlX11 hown hK hP 0 rfl rfl 0 (by decide) (hts _ mw_15) (fun _ h9 => h9) rfl dX11_narrow_27 ?_
  refine lv_iload_n hx hb dX11_narrow_30 rfl (lv_at hl 3 rfl) ?_
  refine lv_iload_n hx hb dX11_narrow_31 rfl (lv_at hl 4 rfl) ?_
  refine cr_V (As := [.int za, .int zb]) (rest := []) hFX hKK (c_X6_stripOf l D κ n0 n1 n2 n3 n4 n5 za zb) 2 gV_X11_189 hdV_X6_stripOf rfl rfl ⟨Nat.le_of_ble_eq_true rfl, Nat.le_of_ble_eq_true rfl⟩ rfl rfl (Nat.le_of_ble_eq_true rfl) dX11_narrow_32 ⟨Nat.le_of_ble_eq_true rfl, Nat.le_of_ble_eq_true rfl⟩ hl.1 hP 1 6 rfl rfl rfl (hP.sub [1, 2, 3] rfl) (fun _ hp_6 => ?_)
  refine W.eq (g2 := F0 m 35 ls [.null]) rfl ?_
  refine lv_astoreN (lv' := [(6, .null), (5, .ref q_2), (4, .int 0), (0, .ref x0), (1, .int za), (2, .int zb), (3, .int zc)]) hx hb dX11_narrow_35 hl (by decide) rfl (fun ls hl => ?_)
  refine lv_aloadN hx hb dX11_narrow_37 (lv_at hl 0 rfl) ?_
  refine lv_ifnullN (tgt := 63) hx hb dX11_narrow_39 (by decide) ?_
  refine lv_iconst (v := (-1)) hx hb dX11_narrow_63 (by decide) ?_
  exact ct_iret hx hb hr hlk rfl hS hP hD () rfl trivial [] rfl (by decide) trivial (Nat.le_of_ble_eq_true rfl) (Nat.le_of_ble_eq_true rfl) dX11_narrow_64
set_option maxHeartbeats 4000000 in
set_option maxRecDepth 100000 in
theorem c_X11_name (l : Launch) (D : va_G) (κ : Nat → ClassId) (x0 : Nat) (n0 : Nat) (t0 : Nat) (f0 : Nat) (r0 : Nat) (w0 : Nat) (k0 : Nat) (n1 : Nat) (n2 : Nat) (n3 : Nat) (n4 : Nat) (n5 : Nat) (t1 : Nat) (za : Int32) (zb : Int32) : Ct l yX11_name (wl yX11_name cX11_name 6 (some .boolean)) { frames := 2, cells := 1, slots := 0, locals := 44 } D κ [.ref x0, .int za, .int zb] [(x0, .inr (11, [.ref n0, .ref t0, .ref f0, .ref r0, .ref w0, .ref k0, .int 0])), (n0, .inr (6, [.ref n1, .ref n2, .ref n3, .ref n4, .ref n5, .int 0])), (n2, .inl (κ 4, 3, .inr (.inr (.inr (.inr (fun _ => none)))))), (t0, .inr (8, [.ref t1, .int 0])), (t1, .inl (κ 0, 800, .inl (fun _ => 0)))] (fun _ => True) (fun _ : Unit => some (.int 0)) (fun _ : Unit => True) (fun _ : Unit => []) (fun _ _ => True) := by
  refine ct_of (by decide +kernel) (Nat.le_of_ble_eq_true rfl) ?_
  intro p e s m args below meth c A ls hx hb hr hml hts hown hlk hin hKK hK hA hP hD hS hI hl
  have hS : va_S A s.heap s.heap [] := hS
  have hFX : FX p s m args c cX11_name 6 RX11 := ⟨hx, hb, hml, hown, hts⟩
  have hl : lv_has ls 6 [(0, .ref x0), (1, .int za), (2, .int zb)] := hl
  refine lv_aload_n hx hb dX11_name_0 rfl (lv_at hl 0 rfl) ?_
  refine va_get (D := D) (ci := 11) (v := .ref t0) (C := RX11) (T := TX11) (N := 7) hx hb hts inlX11 hown hK hP 0 rfl rfl 1 (by decide) (hts _ mw_19) (fun _ h9 => h9) rfl dX11_name_1 ?_
  refine ct_V (wr := [(x0, .inr (11, [.ref n0, .ref t0, .ref f0, .ref r0, .ref w0, .ref k0, .int 0])), (n0, .inr (6, [.ref n1, .ref n2, .ref n3, .ref n4, .ref n5, .int 0])), (n2, .inl (κ 4, 3, .inr (.inr (.inr (.inr (fun _ => none))))))]) (As := []) (rest := []) hFX hKK hP hD hS hA (c_X8_takeName l D κ t0 t1) 0 gV_X11_157 hdV_X8_takeName ⟨Nat.le_of_ble_eq_true rfl, Nat.le_of_ble_eq_true rfl⟩ rfl rfl (Nat.le_of_ble_eq_true rfl) dX11_name_4 ⟨Nat.le_of_ble_eq_true rfl, Nat.le_of_ble_eq_true rfl⟩ hl.1 [3, 4] [0, 1, 2] rfl rfl (by decide) (by decide) (by decide) 3 8 rfl rfl rfl trivial (fun _ H locs hp_1 _ hP hD hS hz_ hk_ => ?_)
  have hP : va_P D vwCl [(x0, .inr (11, [.ref n0, .ref t0, .ref f0, .ref r0, .ref w0, .ref k0, .int 0])), (n0, .inr (6, [.ref n1, .ref n2, .ref n3, .ref n4, .ref n5, .int 0])), (n2, .inl (κ 4, 3, .inr (.inr (.inr (.inr (fun _ => none)))))), (t0, .inr (8, [.ref t1, .int 0])), (t1, .inl (κ 0, 800, .inl (fun _ => 0)))] H := hP
  have hD : va_D A [(x0, .inr (11, [.ref n0, .ref t0, .ref f0, .ref r0, .ref w0, .ref k0, .int 0])), (n0, .inr (6, [.ref n1, .ref n2, .ref n3, .ref n4, .ref n5, .int 0])), (n2, .inl (κ 4, 3, .inr (.inr (.inr (.inr (fun _ => none)))))), (t0, .inr (8, [.ref t1, .int 0])), (t1, .inl (κ 0, 800, .inl (fun _ => 0)))] := hD
  refine W.eq (g2 := F0 m 7 ls [.null]) rfl ?_
  refine lv_astore_nN (lv' := [(3, .null), (0, .ref x0), (1, .int za), (2, .int zb)]) hx hb dX11_name_7 rfl hl (by decide) rfl (fun ls hl => ?_)
  refine lv_aload_n hx hb dX11_name_8 rfl (lv_at hl 1 rfl) ?_
  refine va_get (D := D) (ci := 11) (v := .ref n0) (C := RX11) (T := TX11) (N := 7) hx hb hts inlX11 hown hK hP 0 rfl rfl 0 (by decide) (hts _ mw_15) (fun _ h9 => h9) rfl dX11_name_9 ?_
  refine lv_iload_n hx hb dX11_name_12 rfl (lv_at hl 2 rfl) ?_
  refine cr_V (As := [.int za]) (rest := []) hFX hKK (c_X6_sheetOf l D κ n0 n1 n2 n3 n4 n5 za) 1 gV_X11_114 hdV_X6_sheetOf rfl rfl ⟨Nat.le_of_ble_eq_true rfl, Nat.le_of_ble_eq_true rfl⟩ rfl rfl (Nat.le_of_ble_eq_true rfl) dX11_name_13 ⟨Nat.le_of_ble_eq_true rfl, Nat.le_of_ble_eq_true rfl⟩ hl.1 hP 1 6 rfl rfl rfl (hP.sub [1, 2] rfl) (fun _ hp_2 => ?_)
  refine W.eq (g2 := F0 m 16 ls [.null]) rfl ?_
  refine lv_astoreN (lv' := [(4, .null), (3, .null), (0, .ref x0), (1, .int za), (2, .int zb)]) hx hb dX11_name_16 hl (by decide) rfl (fun ls hl => ?_)
  refine lv_aload_nN hx hb dX11_name_18 rfl (lv_at hl 1 rfl) ?_
  refine lv_ifnullN (tgt := 36) hx hb dX11_name_19 (by decide) ?_
  refine lv_iconst (v := 0) hx hb dX11_name_36 (by decide) ?_
  exact ct_iret hx hb hr hlk rfl hS hP hD () rfl trivial [] rfl (by decide) trivial (Nat.le_of_ble_eq_true rfl) (Nat.le_of_ble_eq_true rfl) dX11_name_37
set_option maxHeartbeats 4000000 in
set_option maxRecDepth 100000 in
theorem c_X11_find (l : Launch) (D : va_G) (κ : Nat → ClassId) (x0 : Nat) (n0 : Nat) (t0 : Nat) (f0 : Nat) (r0 : Nat) (w0 : Nat) (k0 : Nat) (n1 : Nat) (n2 : Nat) (n3 : Nat) (n4 : Nat) (n5 : Nat) (t1 : Nat) (za : Int32) : Ct l yX11_find (wl yX11_find cX11_find 4 (some .int)) { frames := 2, cells := 1, slots := 0, locals := 44 } D κ [.ref x0, .int za] [(x0, .inr (11, [.ref n0, .ref t0, .ref f0, .ref r0, .ref w0, .ref k0, .int 0])), (n0, .inr (6, [.ref n1, .ref n2, .ref n3, .ref n4, .ref n5, .int 0])), (n2, .inl (κ 4, 3, .inr (.inr (.inr (.inr (fun _ => none)))))), (t0, .inr (8, [.ref t1, .int 0])), (t1, .inl (κ 0, 800, .inl (fun _ => 0)))] (fun _ => True) (fun _ : Unit => some (.int (-1))) (fun _ : Unit => True) (fun _ : Unit => []) (fun _ _ => True) := by
  refine ct_of (by decide +kernel) (Nat.le_of_ble_eq_true rfl) ?_
  intro p e s m args below meth c A ls hx hb hr hml hts hown hlk hin hKK hK hA hP hD hS hI hl
  have hS : va_S A s.heap s.heap [] := hS
  have hFX : FX p s m args c cX11_find 4 RX11 := ⟨hx, hb, hml, hown, hts⟩
  have hl : lv_has ls 4 [(0, .ref x0), (1, .int za)] := hl
  refine lv_aload_n hx hb dX11_find_0 rfl (lv_at hl 0 rfl) ?_
  refine va_get (D := D) (ci := 11) (v := .ref t0) (C := RX11) (T := TX11) (N := 7) hx hb hts inlX11 hown hK hP 0 rfl rfl 1 (by decide) (hts _ mw_19) (fun _ h9 => h9) rfl dX11_find_1 ?_
  refine ct_V (wr := [(x0, .inr (11, [.ref n0, .ref t0, .ref f0, .ref r0, .ref w0, .ref k0, .int 0])), (n0, .inr (6, [.ref n1, .ref n2, .ref n3, .ref n4, .ref n5, .int 0])), (n2, .inl (κ 4, 3, .inr (.inr (.inr (.inr (fun _ => none))))))]) (As := []) (rest := []) hFX hKK hP hD hS hA (c_X8_takeName l D κ t0 t1) 0 gV_X11_157 hdV_X8_takeName ⟨Nat.le_of_ble_eq_true rfl, Nat.le_of_ble_eq_true rfl⟩ rfl rfl (Nat.le_of_ble_eq_true rfl) dX11_find_4 ⟨Nat.le_of_ble_eq_true rfl, Nat.le_of_ble_eq_true rfl⟩ hl.1 [3, 4] [0, 1, 2] rfl rfl (by decide) (by decide) (by decide) 3 8 rfl rfl rfl trivial (fun _ H locs hp_1 _ hP hD hS hz_ hk_ => ?_)
  have hP : va_P D vwCl [(x0, .inr (11, [.ref n0, .ref t0, .ref f0, .ref r0, .ref w0, .ref k0, .int 0])), (n0, .inr (6, [.ref n1, .ref n2, .ref n3, .ref n4, .ref n5, .int 0])), (n2, .inl (κ 4, 3, .inr (.inr (.inr (.inr (fun _ => none)))))), (t0, .inr (8, [.ref t1, .int 0])), (t1, .inl (κ 0, 800, .inl (fun _ => 0)))] H := hP
  have hD : va_D A [(x0, .inr (11, [.ref n0, .ref t0, .ref f0, .ref r0, .ref w0, .ref k0, .int 0])), (n0, .inr (6, [.ref n1, .ref n2, .ref n3, .ref n4, .ref n5, .int 0])), (n2, .inl (κ 4, 3, .inr (.inr (.inr (.inr (fun _ => none)))))), (t0, .inr (8, [.ref t1, .int 0])), (t1, .inl (κ 0, 800, .inl (fun _ => 0)))] := hD
  refine W.eq (g2 := F0 m 7 ls [.null]) rfl ?_
  refine lv_astore_nN (lv' := [(2, .null), (0, .ref x0), (1, .int za)]) hx hb dX11_find_7 rfl hl (by decide) rfl (fun ls hl => ?_)
  refine lv_aload_n hx hb dX11_find_8 rfl (lv_at hl 1 rfl) ?_
  refine va_get (D := D) (ci := 11) (v := .ref n0) (C := RX11) (T := TX11) (N := 7) hx hb hts inlX11 hown hK hP 0 rfl rfl 0 (by decide) (hts _ mw_15) (fun _ h9 => h9) rfl dX11_find_9 ?_
  refine lv_iload_n hx hb dX11_find_12 rfl (lv_at hl 2 rfl) ?_
  refine cr_V (As := [.int za]) (rest := []) hFX hKK (c_X6_sheetOf l D κ n0 n1 n2 n3 n4 n5 za) 1 gV_X11_114 hdV_X6_sheetOf rfl rfl ⟨Nat.le_of_ble_eq_true rfl, Nat.le_of_ble_eq_true rfl⟩ rfl rfl (Nat.le_of_ble_eq_true rfl) dX11_find_13 ⟨Nat.le_of_ble_eq_true rfl, Nat.le_of_ble_eq_true rfl⟩ hl.1 hP 1 6 rfl rfl rfl (hP.sub [1, 2] rfl) (fun _ hp_2 => ?_)
  refine W.eq (g2 := F0 m 16 ls [.null]) rfl ?_
  refine lv_astore_nN (lv' := [(3, .null), (2, .null), (0, .ref x0), (1, .int za)]) hx hb dX11_find_16 rfl hl (by decide) rfl (fun ls hl => ?_)
  refine lv_aload_nN hx hb dX11_find_17 rfl (lv_at hl 1 rfl) ?_
  refine lv_ifnullN (tgt := 25) hx hb dX11_find_18 (by decide) ?_
  refine lv_iconst (v := (-1)) hx hb dX11_find_25 (by decide) ?_
  exact ct_iret hx hb hr hlk rfl hS hP hD () rfl trivial [] rfl (by decide) trivial (Nat.le_of_ble_eq_true rfl) (Nat.le_of_ble_eq_true rfl) dX11_find_26
set_option maxHeartbeats 4000000 in
set_option maxRecDepth 100000 in
theorem c_X11_row (l : Launch) (D : va_G) (κ : Nat → ClassId) (x0 : Nat) (n0 : Nat) (t0 : Nat) (f0 : Nat) (r0 : Nat) (w0 : Nat) (k0 : Nat) (n1 : Nat) (n2 : Nat) (n3 : Nat) (n4 : Nat) (n5 : Nat) (t1 : Nat) (za : Int32) : Ct l yX11_row (wl yX11_row cX11_row 4 (some .int)) { frames := 2, cells := 0, slots := 0, locals := 41 } D κ [.ref x0, .int za] [(x0, .inr (11, [.ref n0, .ref t0, .ref f0, .ref r0, .ref w0, .ref k0, .int 0])), (n0, .inr (6, [.ref n1, .ref n2, .ref n3, .ref n4, .ref n5, .int 0])), (n2, .inl (κ 4, 3, .inr (.inr (.inr (.inr (fun _ => none)))))), (t0, .inr (8, [.ref t1, .int 0]))] (fun _ => True) (fun _ : Unit => some (.int (-1))) (fun _ : Unit => True) (fun _ : Unit => []) (fun _ _ => True) := by
  refine ct_of (by decide +kernel) (Nat.le_of_ble_eq_true rfl) ?_
  intro p e s m args below meth c A ls hx hb hr hml hts hown hlk hin hKK hK hA hP hD hS hI hl
  have hS : va_S A s.heap s.heap [] := hS
  have hFX : FX p s m args c cX11_row 4 RX11 := ⟨hx, hb, hml, hown, hts⟩
  have hl : lv_has ls 4 [(0, .ref x0), (1, .int za)] := hl
  refine lv_aload_n hx hb dX11_row_0 rfl (lv_at hl 0 rfl) ?_
  refine va_get (D := D) (ci := 11) (v := .ref n0) (C := RX11) (T := TX11) (N := 7) hx hb hts inlX11 hown hK hP 0 rfl rfl 0 (by decide) (hts _ mw_15) (fun _ h9 => h9) rfl dX11_row_1 ?_
  refine lv_iload_n hx hb dX11_row_4 rfl (lv_at hl 1 rfl) ?_
  refine cr_V (As := [.int za]) (rest := []) hFX hKK (c_X6_sheetOf l D κ n0 n1 n2 n3 n4 n5 za) 1 gV_X11_114 hdV_X6_sheetOf rfl rfl ⟨Nat.le_of_ble_eq_true rfl, Nat.le_of_ble_eq_true rfl⟩ rfl rfl (Nat.le_of_ble_eq_true rfl) dX11_row_5 ⟨Nat.le_of_ble_eq_true rfl, Nat.le_of_ble_eq_true rfl⟩ hl.1 hP 1 6 rfl rfl rfl (hP.sub [1, 2] rfl) (fun _ hp_1 => ?_)
  refine W.eq (g2 := F0 m 8 ls [.null]) rfl ?_
  refine lv_astore_nN (lv' := [(2, .null), (0, .ref x0), (1, .int za)]) hx hb dX11_row_8 rfl hl (by decide) rfl (fun ls hl => ?_)
  refine lv_iconst (v := 0) hx hb dX11_row_9 (by decide) ?_
  refine lv_istore_n (lv' := [(3, .int 0), (2, .null), (0, .ref x0), (1, .int za)]) hx hb dX11_row_10 rfl hl (by decide) rfl (fun ls hl => ?_)
  refine lv_aload_nN hx hb dX11_row_11 rfl (lv_at hl 1 rfl) ?_
  refine lv_ifnullN (tgt := 42) hx hb dX11_row_12 (by decide) ?_
  refine lv_aload_nN hx hb dX11_row_42 rfl (lv_at hl 1 rfl) ?_
  refine lv_ifnullN (tgt := 59) hx hb dX11_row_43 (by decide) ?_
  refine lv_aload_n hx hb dX11_row_59 rfl (lv_at hl 2 rfl) ?_
  refine va_get (D := D) (ci := 11) (v := .ref t0) (C := RX11) (T := TX11) (N := 7) hx hb hts inlX11 hown hK hP 0 rfl rfl 1 (by decide) (hts _ mw_19) (fun _ h9 => h9) rfl dX11_row_60 ?_
  refine lv_iconst (v := 0) hx hb dX11_row_63 (by decide) ?_
  refine va_put (D := D) (ci := 8) (v := .int 0) (ty := tyX8 1) (C := RX8) (T := TX8) (N := 2) hx hb hts inlX8 tyX8 tyX8_ok nmX8 hown hK hP hD hS 3 rfl rfl 1 (by decide) (hts _ mw_223) (fun _ h9 => h9) rfl (tyX8_ok 1 (by decide)) rfl rfl (Nat.le_of_ble_eq_true rfl) dX11_row_64 (fun H locs hP hD hS => ?_)
  have hP : va_P D vwCl [(x0, .inr (11, [.ref n0, .ref t0, .ref f0, .ref r0, .ref w0, .ref k0, .int 0])), (n0, .inr (6, [.ref n1, .ref n2, .ref n3, .ref n4, .ref n5, .int 0])), (n2, .inl (κ 4, 3, .inr (.inr (.inr (.inr (fun _ => none)))))), (t0, .inr (8, [.ref t1, .int 0]))] H := hP
  have hD : va_D A [(x0, .inr (11, [.ref n0, .ref t0, .ref f0, .ref r0, .ref w0, .ref k0, .int 0])), (n0, .inr (6, [.ref n1, .ref n2, .ref n3, .ref n4, .ref n5, .int 0])), (n2, .inl (κ 4, 3, .inr (.inr (.inr (.inr (fun _ => none)))))), (t0, .inr (8, [.ref t1, .int 0]))] := hD
  refine lv_aload_nN hx hb dX11_row_67 rfl (lv_at hl 1 rfl) ?_
  refine lv_ifnullN (tgt := 89) hx hb dX11_row_68 (by decide) ?_
  refine lv_iconst (v := (-1)) hx hb dX11_row_89 (by decide) ?_
  exact ct_iret hx hb hr hlk rfl hS hP hD () rfl trivial [] rfl (by decide) trivial (Nat.le_of_ble_eq_true rfl) (Nat.le_of_ble_eq_true rfl) dX11_row_90
set_option maxHeartbeats 4000000 in
set_option maxRecDepth 100000 in
theorem c_X11_end (l : Launch) (D : va_G) (κ : Nat → ClassId) (x0 : Nat) (n0 : Nat) (t0 : Nat) (f0 : Nat) (r0 : Nat) (w0 : Nat) (k0 : Nat) (t1 : Nat) (za : Int32) : Ct l yX11_end (wl yX11_end cX11_end 2 (some .boolean)) { frames := 0, cells := 0, slots := 0, locals := 0 } D κ [.ref x0, .int za] [(x0, .inr (11, [.ref n0, .ref t0, .ref f0, .ref r0, .ref w0, .ref k0, .int 0])), (t0, .inr (8, [.ref t1, .int 0]))] (fun _ => True) (fun r : Int32 => some (.int r)) (fun r : Int32 => (r = 1 ∧ ¬ za < 0 ∧ za ≤ 0) ∨ (r = 0 ∧ (za < 0 ∨ ¬ za ≤ 0))) (fun r : Int32 => []) (fun _ _ => True) := by
  refine ct_of (by decide +kernel) (Nat.le_of_ble_eq_true rfl) ?_
  intro p e s m args below meth c A ls hx hb hr hml hts hown hlk hin hKK hK hA hP hD hS hI hl
  have hS : va_S A s.heap s.heap [] := hS
  have hFX : FX p s m args c cX11_end 2 RX11 := ⟨hx, hb, hml, hown, hts⟩
  have hl : lv_has ls 2 [(0, .ref x0), (1, .int za)] := hl
  refine lv_iload_n hx hb dX11_end_0 rfl (lv_at hl 1 rfl) ?_
  refine lv_if_lt (tgt := 15) hx hb dX11_end_1 (by decide) (fun c_1 => ?_) (fun c_1 => ?_)
  · refine lv_iconst (v := 0) hx hb dX11_end_15 (by decide) ?_
    exact ct_iret hx hb hr hlk rfl hS hP hD 0 rfl (by first | exact Or.inr ((⟨rfl, (by first | assumption | exact Or.inl (by assumption) | exact Or.inr (by assumption) | exact out_ne (by assumption) (by decide) (by decide) | (simp_all; done))⟩))) [] rfl (by decide) trivial (Nat.le_of_ble_eq_true rfl) (Nat.le_of_ble_eq_true rfl) dX11_end_16
  · refine lv_iload_n hx hb dX11_end_4 rfl (lv_at hl 1 rfl) ?_
    refine lv_aload_n hx hb dX11_end_5 rfl (lv_at hl 0 rfl) ?_
    refine va_get (D := D) (ci := 11) (v := .ref t0) (C := RX11) (T := TX11) (N := 7) hx hb hts inlX11 hown hK hP 0 rfl rfl 1 (by decide) (hts _ mw_19) (fun _ h9 => h9) rfl dX11_end_6 ?_
    refine va_get (D := D) (ci := 8) (v := .int 0) (C := RX8) (T := TX8) (N := 2) hx hb hts inlX8 hown hK hP 1 rfl rfl 1 (by decide) (hts _ mw_223) (fun _ h9 => h9) rfl dX11_end_9 ?_
    refine lv_icmp_le (tgt := 17) hx hb dX11_end_12 (by decide) (fun c_2 => ?_) (fun c_2 => ?_)
    · refine lv_aload_n hx hb dX11_end_17 rfl (lv_at hl 0 rfl) ?_
      refine va_get (D := D) (ci := 11) (v := .ref t0) (C := RX11) (T := TX11) (N := 7) hx hb hts inlX11 hown hK hP 0 rfl rfl 1 (by decide) (hts _ mw_19) (fun _ h9 => h9) rfl dX11_end_18 ?_
      refine lv_iload_n hx hb dX11_end_21 rfl (lv_at hl 1 rfl) ?_
      refine va_put (D := D) (ci := 8) (v := .int za) (ty := tyX8 1) (C := RX8) (T := TX8) (N := 2) hx hb hts inlX8 tyX8 tyX8_ok nmX8 hown hK hP hD hS 1 rfl rfl 1 (by decide) (hts _ mw_223) (fun _ h9 => h9) rfl (tyX8_ok 1 (by decide)) rfl rfl (Nat.le_of_ble_eq_true rfl) dX11_end_22 (fun H locs hP hD hS => ?_)
      have hP : va_P D vwCl [(x0, .inr (11, [.ref n0, .ref t0, .ref f0, .ref r0, .ref w0, .ref k0, .int 0])), (t0, .inr (8, [.ref t1, .int za]))] H := hP
      have hD : va_D A [(x0, .inr (11, [.ref n0, .ref t0, .ref f0, .ref r0, .ref w0, .ref k0, .int 0])), (t0, .inr (8, [.ref t1, .int za]))] := hD
      refine lv_iconst (v := 1) hx hb dX11_end_25 (by decide) ?_
      exact ct_iret hx hb hr hlk rfl hS hP hD 1 rfl (by first | exact Or.inl (⟨rfl, (by first | assumption | exact Or.inl (by assumption) | exact Or.inr (by assumption) | exact out_ne (by assumption) (by decide) (by decide) | (simp_all; done)), (by first | assumption | exact Or.inl (by assumption) | exact Or.inr (by assumption) | exact out_ne (by assumption) (by decide) (by decide) | (simp_all; done))⟩)) [] rfl (by decide) trivial (Nat.le_of_ble_eq_true rfl) (Nat.le_of_ble_eq_true rfl) dX11_end_26
    · refine lv_iconst (v := 0) hx hb dX11_end_15 (by decide) ?_
      exact ct_iret hx hb hr hlk rfl hS hP hD 0 rfl (by first | exact Or.inr ((⟨rfl, (by first | assumption | exact Or.inl (by assumption) | exact Or.inr (by assumption) | exact out_ne (by assumption) (by decide) (by decide) | (simp_all; done))⟩))) [] rfl (by decide) trivial (Nat.le_of_ble_eq_true rfl) (Nat.le_of_ble_eq_true rfl) dX11_end_16
set_option maxHeartbeats 4000000 in
set_option maxRecDepth 100000 in
theorem c_X11_fault (l : Launch) (D : va_G) (κ : Nat → ClassId) (x0 : Nat) (n0 : Nat) (t0 : Nat) (f0 : Nat) (r0 : Nat) (w0 : Nat) (k0 : Nat) (za : Int32) : Cr l yX11_fault (wl yX11_fault cX11_fault 2 (some .int)) { frames := 0, cells := 0, slots := 0, locals := 0 } D κ [.ref x0, .int za] (va_P D vwCl [(x0, .inr (11, [.ref n0, .ref t0, .ref f0, .ref r0, .ref w0, .ref k0, .int 0])), (f0, .inr (2, [.int 0, .int (-1), .int (-1), .int (-1), .int (-1), .int 0]))]) (fun r : Int32 => some (.int r)) (fun r : Int32 => (r = 0 ∧ za = 0) ∨ (r = (-1) ∧ ¬ za = 0)) := by
  refine cr_of (by decide +kernel) (Nat.le_of_ble_eq_true rfl) ?_
  intro p e s m args below meth c ls hx hb hr hml hts hown hlk hKK hK hI hl
  have hP : va_P D vwCl [(x0, .inr (11, [.ref n0, .ref t0, .ref f0, .ref r0, .ref w0, .ref k0, .int 0])), (f0, .inr (2, [.int 0, .int (-1), .int (-1), .int (-1), .int (-1), .int 0]))] s.heap := hI
  have hFX : FX p s m args c cX11_fault 2 RX11 := ⟨hx, hb, hml, hown, hts⟩
  have hl : lv_has ls 2 [(0, .ref x0), (1, .int za)] := hl
  refine lv_iload_n hx hb dX11_fault_0 rfl (lv_at hl 1 rfl) ?_
  rcases Classical.em (za.toInt < 0 ∨ 4 < za.toInt) with c_1 | c_1
  · refine lv_tableOut (tgt := 76) hx hb dX11_fault_1 c_1 (by decide) ?_
    refine lv_iconst (v := (-1)) hx hb dX11_fault_76 (by decide) ?_
    exact cr_iret hx hb hr hlk rfl (-1) rfl (by first | exact Or.inr ((⟨rfl, (by first | assumption | exact Or.inl (by assumption) | exact Or.inr (by assumption) | exact out_ne (by assumption) (by decide) (by decide) | (simp_all; done))⟩))) dX11_fault_77
  · have e_2 : za = 0 ∨ za = 1 ∨ za = 2 ∨ za = 3 ∨ za = 4 := by
      have q1 : ¬ za.toInt < 0 := fun h => c_1 (Or.inl h)
      have q2 : ¬ 4 < za.toInt := fun h => c_1 (Or.inr h)
      have q3 : ∀ v : Int32, za.toInt = v.toInt → za = v := fun v h => Int32.toInt_inj.mp h
      rcases (show za.toInt = 0 ∨ za.toInt = 1 ∨ za.toInt = 2 ∨ za.toInt = 3 ∨ za.toInt = 4 by omega) with h | h | h | h | h
      · exact Or.inl (q3 0 (h.trans (by decide)))
      · exact Or.inr (Or.inl (q3 1 (h.trans (by decide))))
      · exact Or.inr (Or.inr (Or.inl (q3 2 (h.trans (by decide)))))
      · exact Or.inr (Or.inr (Or.inr (Or.inl (q3 3 (h.trans (by decide))))))
      · exact Or.inr (Or.inr (Or.inr (Or.inr ((q3 4 (h.trans (by decide)))))))
    rcases e_2 with e_2 | e_2 | e_2 | e_2 | e_2
    · refine lv_tableIn (tgt := 36) hx hb dX11_fault_1 (by rw [e_2]; decide) (by rw [e_2]; decide) (by rw [e_2]; rfl) (by decide) ?_
      refine lv_aload_n hx hb dX11_fault_36 rfl (lv_at hl 0 rfl) ?_
      refine va_get (D := D) (ci := 11) (v := .ref f0) (C := RX11) (T := TX11) (N := 7) hx hb hts inlX11 hown hK hP 0 rfl rfl 2 (by decide) (hts _ mw_23) (fun _ h9 => h9) rfl dX11_fault_37 ?_
      refine va_get (D := D) (ci := 2) (v := .int 0) (C := RX2) (T := TX2) (N := 6) hx hb hts inlX2 hown hK hP 1 rfl rfl 0 (by decide) (hts _ mw_545) (fun _ h9 => h9) rfl dX11_fault_40 ?_
      exact cr_iret hx hb hr hlk rfl 0 rfl (by first | exact Or.inl (⟨rfl, (by first | assumption | exact Or.inl (by assumption) | exact Or.inr (by assumption) | exact out_ne (by assumption) (by decide) (by decide) | (simp_all; done))⟩)) dX11_fault_43
    · refine lv_tableIn (tgt := 44) hx hb dX11_fault_1 (by rw [e_2]; decide) (by rw [e_2]; decide) (by rw [e_2]; rfl) (by decide) ?_
      refine lv_aload_n hx hb dX11_fault_44 rfl (lv_at hl 0 rfl) ?_
      refine va_get (D := D) (ci := 11) (v := .ref f0) (C := RX11) (T := TX11) (N := 7) hx hb hts inlX11 hown hK hP 0 rfl rfl 2 (by decide) (hts _ mw_23) (fun _ h9 => h9) rfl dX11_fault_45 ?_
      refine va_get (D := D) (ci := 2) (v := .int (-1)) (C := RX2) (T := TX2) (N := 6) hx hb hts inlX2 hown hK hP 1 rfl rfl 1 (by decide) (hts _ mw_546) (fun _ h9 => h9) rfl dX11_fault_48 ?_
      exact cr_iret hx hb hr hlk rfl (-1) rfl (by first | exact Or.inr ((⟨rfl, (by first | assumption | exact Or.inl (by assumption) | exact Or.inr (by assumption) | exact out_ne (by assumption) (by decide) (by decide) | (simp_all; done))⟩))) dX11_fault_51
    · refine lv_tableIn (tgt := 52) hx hb dX11_fault_1 (by rw [e_2]; decide) (by rw [e_2]; decide) (by rw [e_2]; rfl) (by decide) ?_
      refine lv_aload_n hx hb dX11_fault_52 rfl (lv_at hl 0 rfl) ?_
      refine va_get (D := D) (ci := 11) (v := .ref f0) (C := RX11) (T := TX11) (N := 7) hx hb hts inlX11 hown hK hP 0 rfl rfl 2 (by decide) (hts _ mw_23) (fun _ h9 => h9) rfl dX11_fault_53 ?_
      refine va_get (D := D) (ci := 2) (v := .int (-1)) (C := RX2) (T := TX2) (N := 6) hx hb hts inlX2 hown hK hP 1 rfl rfl 2 (by decide) (hts _ mw_547) (fun _ h9 => h9) rfl dX11_fault_56 ?_
      exact cr_iret hx hb hr hlk rfl (-1) rfl (by first | exact Or.inr ((⟨rfl, (by first | assumption | exact Or.inl (by assumption) | exact Or.inr (by assumption) | exact out_ne (by assumption) (by decide) (by decide) | (simp_all; done))⟩))) dX11_fault_59
    · refine lv_tableIn (tgt := 60) hx hb dX11_fault_1 (by rw [e_2]; decide) (by rw [e_2]; decide) (by rw [e_2]; rfl) (by decide) ?_
      refine lv_aload_n hx hb dX11_fault_60 rfl (lv_at hl 0 rfl) ?_
      refine va_get (D := D) (ci := 11) (v := .ref f0) (C := RX11) (T := TX11) (N := 7) hx hb hts inlX11 hown hK hP 0 rfl rfl 2 (by decide) (hts _ mw_23) (fun _ h9 => h9) rfl dX11_fault_61 ?_
      refine va_get (D := D) (ci := 2) (v := .int (-1)) (C := RX2) (T := TX2) (N := 6) hx hb hts inlX2 hown hK hP 1 rfl rfl 3 (by decide) (hts _ mw_548) (fun _ h9 => h9) rfl dX11_fault_64 ?_
      exact cr_iret hx hb hr hlk rfl (-1) rfl (by first | exact Or.inr ((⟨rfl, (by first | assumption | exact Or.inl (by assumption) | exact Or.inr (by assumption) | exact out_ne (by assumption) (by decide) (by decide) | (simp_all; done))⟩))) dX11_fault_67
    · refine lv_tableIn (tgt := 68) hx hb dX11_fault_1 (by rw [e_2]; decide) (by rw [e_2]; decide) (by rw [e_2]; rfl) (by decide) ?_
      refine lv_aload_n hx hb dX11_fault_68 rfl (lv_at hl 0 rfl) ?_
      refine va_get (D := D) (ci := 11) (v := .ref f0) (C := RX11) (T := TX11) (N := 7) hx hb hts inlX11 hown hK hP 0 rfl rfl 2 (by decide) (hts _ mw_23) (fun _ h9 => h9) rfl dX11_fault_69 ?_
      refine va_get (D := D) (ci := 2) (v := .int (-1)) (C := RX2) (T := TX2) (N := 6) hx hb hts inlX2 hown hK hP 1 rfl rfl 4 (by decide) (hts _ mw_549) (fun _ h9 => h9) rfl dX11_fault_72 ?_
      exact cr_iret hx hb hr hlk rfl (-1) rfl (by first | exact Or.inr ((⟨rfl, (by first | assumption | exact Or.inl (by assumption) | exact Or.inr (by assumption) | exact out_ne (by assumption) (by decide) (by decide) | (simp_all; done))⟩))) dX11_fault_75
set_option maxHeartbeats 4000000 in
set_option maxRecDepth 100000 in
theorem c_X11_sign (l : Launch) (D : va_G) (κ : Nat → ClassId) (x0 : Nat) (n0 : Nat) (t0 : Nat) (f0 : Nat) (r0 : Nat) (w0 : Nat) (k0 : Nat) (n1 : Nat) (w1 : Nat) (za : Int32) : Cr l yX11_sign (wl yX11_sign cX11_sign 2 (some .int)) { frames := 0, cells := 0, slots := 0, locals := 0 } D κ [.ref x0, .int za] (va_P D vwCl [(x0, .inr (11, [.ref n0, .ref t0, .ref f0, .ref r0, .ref w0, .ref k0, .int 0])), (w0, .inr (10, [.ref n1, .ref w1, .int 0]))]) (fun _ : Unit => some (.int (-1))) (fun _ : Unit => True) := by
  refine cr_of (by decide +kernel) (Nat.le_of_ble_eq_true rfl) ?_
  intro p e s m args below meth c ls hx hb hr hml hts hown hlk hKK hK hI hl
  have hP : va_P D vwCl [(x0, .inr (11, [.ref n0, .ref t0, .ref f0, .ref r0, .ref w0, .ref k0, .int 0])), (w0, .inr (10, [.ref n1, .ref w1, .int 0]))] s.heap := hI
  have hFX : FX p s m args c cX11_sign 2 RX11 := ⟨hx, hb, hml, hown, hts⟩
  have hl : lv_has ls 2 [(0, .ref x0), (1, .int za)] := hl
  refine lv_iload_n hx hb dX11_sign_0 rfl (lv_at hl 1 rfl) ?_
  refine lv_if_lt (tgt := 15) hx hb dX11_sign_1 (by decide) (fun c_1 => ?_) (fun c_1 => ?_)
  · refine lv_iconst (v := (-1)) hx hb dX11_sign_15 (by decide) ?_
    refine lv_goto (tgt := 28) hx hb dX11_sign_16 (by decide) ?_
    exact cr_iret hx hb hr hlk rfl () rfl trivial dX11_sign_28
  · refine lv_iload_n hx hb dX11_sign_4 rfl (lv_at hl 1 rfl) ?_
    refine lv_aload_n hx hb dX11_sign_5 rfl (lv_at hl 0 rfl) ?_
    refine va_get (D := D) (ci := 11) (v := .ref w0) (C := RX11) (T := TX11) (N := 7) hx hb hts inlX11 hown hK hP 0 rfl rfl 4 (by decide) (hts _ mw_32) (fun _ h9 => h9) rfl dX11_sign_6 ?_
    refine va_get (D := D) (ci := 10) (v := .int 0) (C := RX10) (T := TX10) (N := 3) hx hb hts inlX10 hown hK hP 1 rfl rfl 2 (by decide) (hts _ mw_1405) (fun _ h9 => h9) rfl dX11_sign_9 ?_
    refine lv_icmp_lt (tgt := 19) hx hb dX11_sign_12 (by decide) (fun c_2 => absurd c_2 (nlt0 c_1)) (fun c_2 => ?_)
    refine lv_iconst (v := (-1)) hx hb dX11_sign_15 (by decide) ?_
    refine lv_goto (tgt := 28) hx hb dX11_sign_16 (by decide) ?_
    exact cr_iret hx hb hr hlk rfl () rfl trivial dX11_sign_28
set_option maxHeartbeats 4000000 in
set_option maxRecDepth 100000 in
theorem c_X8_add (l : Launch) (D : va_G) (κ : Nat → ClassId) (t0 : Nat) (t1 : Nat) (n : Nat) (f : Nat → Int32) (za : Int32) (hn : n + 4 ≤ 800) : Ct l yX8_add (wl yX8_add cX8_add 3 none) { frames := 0, cells := 0, slots := 0, locals := 0 } D κ [.ref t0, .int za] [(t0, .inr (8, [.ref t1, .int (nI n)])), (t1, .inl (κ 0, 800, .inl f))] (fun _ => True) (fun g : Nat → Int32 => none) (fun g : Nat → Int32 => True) (fun g : Nat → Int32 => [(t0, .inr (8, [.ref t1, .int (nI (n + 4))])), (t1, .inl (κ 0, 800, .inl g))]) (fun _ _ => True) := by
  refine ct_of (by decide +kernel) (Nat.le_of_ble_eq_true rfl) ?_
  intro p e s m args below meth c A ls hx hb hr hml hts hown hlk hin hKK hK hA hP hD hS hI hl
  have hS : va_S A s.heap s.heap [] := hS
  have hFX : FX p s m args c cX8_add 3 RX8 := ⟨hx, hb, hml, hown, hts⟩
  have hl : lv_has ls 3 [(0, .ref t0), (1, .int za)] := hl
  refine lv_bipush (v := 24) hx hb dX8_add_0 (by decide) ?_
  refine lv_istore_n (lv' := [(2, .int 24), (0, .ref t0), (1, .int za)]) hx hb dX8_add_2 rfl hl (by decide) rfl (fun ls hl => ?_)
  refine lv_iload_n hx hb dX8_add_3 rfl (lv_at hl 0 rfl) ?_
  refine lv_if_lt (tgt := 49) hx hb dX8_add_4 (by decide) (fun c_1 => absurd c_1 (by decide)) (fun c_1 => ?_)
  refine lv_aload_n hx hb dX8_add_7 rfl (lv_at hl 1 rfl) ?_
  refine va_get (D := D) (ci := 8) (v := .int (nI n)) (C := RX8) (T := TX8) (N := 2) hx hb hts inlX8 hown hK hP 0 rfl rfl 1 (by decide) (hts _ mw_52) (fun _ h9 => h9) rfl dX8_add_8 ?_
  refine lv_sipush (v := 800) hx hb dX8_add_11 (by decide) ?_
  refine lv_icmp_ge (tgt := 49) hx hb dX8_add_14 (by decide) (fun c_2 => absurd c_2 (nI_ge (a := n) (b := 800) (by omega) (by decide))) (fun c_2 => ?_)
  refine lv_aload_n hx hb dX8_add_17 rfl (lv_at hl 1 rfl) ?_
  refine va_get (D := D) (ci := 8) (v := .ref t1) (C := RX8) (T := TX8) (N := 2) hx hb hts inlX8 hown hK hP 0 rfl rfl 0 (by decide) (hts _ mw_51) (fun _ h9 => h9) rfl dX8_add_18 ?_
  refine lv_aload_n hx hb dX8_add_21 rfl (lv_at hl 1 rfl) ?_
  refine va_get (D := D) (ci := 8) (v := .int (nI n)) (C := RX8) (T := TX8) (N := 2) hx hb hts inlX8 hown hK hP 0 rfl rfl 1 (by decide) (hts _ mw_52) (fun _ h9 => h9) rfl dX8_add_22 ?_
  refine lv_iload_n hx hb dX8_add_25 rfl (lv_at hl 2 rfl) ?_
  refine lv_iload_n hx hb dX8_add_26 rfl (lv_at hl 0 rfl) ?_
  obtain ⟨x_3, ex_3⟩ : ∃ v9 : Int32, (za.toUInt32 >>> (Int32.toUInt32 24 &&& Int32.toUInt32 31)).toInt32 = v9 := ⟨_, rfl⟩
  refine lv_iushr (v := x_3) hx hb dX8_add_27 ex_3 ?_
  refine lv_sipush (v := 255) hx hb dX8_add_28 (by decide) ?_
  refine lv_iand hx hb dX8_add_31 ?_
  refine lv_topi (fun x_4 ex_4 => ?_)
  refine va_iast hx hb hK hP hD hS 1 0 rfl rfl (i := nI n) (x := x_4) (vp_in_nI (by omega) (by decide)) dX8_add_32 (fun H locs hP hD hS => ?_)
  have hP : va_P D vwCl [(t0, .inr (8, [.ref t1, .int (nI n)])), (t1, .inl (κ 0, 800, .inl (upd f ((nI n).toNatClampNeg) x_4)))] H := hP
  have hD : va_D A [(t0, .inr (8, [.ref t1, .int (nI n)])), (t1, .inl (κ 0, 800, .inl (upd f ((nI n).toNatClampNeg) x_4)))] := hD
  refine lv_aload_n hx hb dX8_add_33 rfl (lv_at hl 1 rfl) ?_
  refine lv_dup hx hb dX8_add_34 rfl ?_
  refine va_get (D := D) (ci := 8) (v := .int (nI n)) (C := RX8) (T := TX8) (N := 2) hx hb hts inlX8 hown hK hP 0 rfl rfl 1 (by decide) (hts _ mw_52) (fun _ h9 => h9) rfl dX8_add_35 ?_
  refine lv_iconst (v := 1) hx hb dX8_add_38 (by decide) ?_
  refine lv_iadd hx hb dX8_add_39 ?_
  refine ki (v := (nI (n + 1))) (nI_1 _) ?_
  refine va_put (D := D) (ci := 8) (v := .int (nI (n + 1))) (ty := tyX8 1) (C := RX8) (T := TX8) (N := 2) hx hb hts inlX8 tyX8 tyX8_ok nmX8 hown hK hP hD hS 0 rfl rfl 1 (by decide) (hts _ mw_52) (fun _ h9 => h9) rfl (tyX8_ok 1 (by decide)) rfl rfl (Nat.le_of_ble_eq_true rfl) dX8_add_40 (fun H locs hP hD hS => ?_)
  have hP : va_P D vwCl [(t0, .inr (8, [.ref t1, .int (nI (n + 1))])), (t1, .inl (κ 0, 800, .inl (upd f ((nI n).toNatClampNeg) x_4)))] H := hP
  have hD : va_D A [(t0, .inr (8, [.ref t1, .int (nI (n + 1))])), (t1, .inl (κ 0, 800, .inl (upd f ((nI n).toNatClampNeg) x_4)))] := hD
  refine lv_iinc (v := 16) (lv' := [(2, .int 16), (0, .ref t0), (1, .int za)]) hx hb dX8_add_43 hl (k := 0) rfl (by decide) (by decide) rfl (fun ls hl => ?_)
  refine lv_goto (tgt := 3) hx hb dX8_add_46 (by decide) ?_
  refine lv_iload_n hx hb dX8_add_3 rfl (lv_at hl 0 rfl) ?_
  refine lv_if_lt (tgt := 49) hx hb dX8_add_4 (by decide) (fun c_5 => absurd c_5 (by decide)) (fun c_5 => ?_)
  refine lv_aload_n hx hb dX8_add_7 rfl (lv_at hl 1 rfl) ?_
  refine va_get (D := D) (ci := 8) (v := .int (nI (n + 1))) (C := RX8) (T := TX8) (N := 2) hx hb hts inlX8 hown hK hP 0 rfl rfl 1 (by decide) (hts _ mw_52) (fun _ h9 => h9) rfl dX8_add_8 ?_
  refine lv_sipush (v := 800) hx hb dX8_add_11 (by decide) ?_
  refine lv_icmp_ge (tgt := 49) hx hb dX8_add_14 (by decide) (fun c_6 => absurd c_6 (nI_ge (a := (n + 1)) (b := 800) (by omega) (by decide))) (fun c_6 => ?_)
  refine lv_aload_n hx hb dX8_add_17 rfl (lv_at hl 1 rfl) ?_
  refine va_get (D := D) (ci := 8) (v := .ref t1) (C := RX8) (T := TX8) (N := 2) hx hb hts inlX8 hown hK hP 0 rfl rfl 0 (by decide) (hts _ mw_51) (fun _ h9 => h9) rfl dX8_add_18 ?_
  refine lv_aload_n hx hb dX8_add_21 rfl (lv_at hl 1 rfl) ?_
  refine va_get (D := D) (ci := 8) (v := .int (nI (n + 1))) (C := RX8) (T := TX8) (N := 2) hx hb hts inlX8 hown hK hP 0 rfl rfl 1 (by decide) (hts _ mw_52) (fun _ h9 => h9) rfl dX8_add_22 ?_
  refine lv_iload_n hx hb dX8_add_25 rfl (lv_at hl 2 rfl) ?_
  refine lv_iload_n hx hb dX8_add_26 rfl (lv_at hl 0 rfl) ?_
  obtain ⟨x_7, ex_7⟩ : ∃ v9 : Int32, (za.toUInt32 >>> (Int32.toUInt32 16 &&& Int32.toUInt32 31)).toInt32 = v9 := ⟨_, rfl⟩
  refine lv_iushr (v := x_7) hx hb dX8_add_27 ex_7 ?_
  refine lv_sipush (v := 255) hx hb dX8_add_28 (by decide) ?_
  refine lv_iand hx hb dX8_add_31 ?_
  refine lv_topi (fun x_8 ex_8 => ?_)
  refine va_iast hx hb hK hP hD hS 1 0 rfl rfl (i := nI (n + 1)) (x := x_8) (vp_in_nI (by omega) (by decide)) dX8_add_32 (fun H locs hP hD hS => ?_)
  have hP : va_P D vwCl [(t0, .inr (8, [.ref t1, .int (nI (n + 1))])), (t1, .inl (κ 0, 800, .inl (upd (upd f ((nI n).toNatClampNeg) x_4) ((nI (n + 1)).toNatClampNeg) x_8)))] H := hP
  have hD : va_D A [(t0, .inr (8, [.ref t1, .int (nI (n + 1))])), (t1, .inl (κ 0, 800, .inl (upd (upd f ((nI n).toNatClampNeg) x_4) ((nI (n + 1)).toNatClampNeg) x_8)))] := hD
  refine lv_aload_n hx hb dX8_add_33 rfl (lv_at hl 1 rfl) ?_
  refine lv_dup hx hb dX8_add_34 rfl ?_
  refine va_get (D := D) (ci := 8) (v := .int (nI (n + 1))) (C := RX8) (T := TX8) (N := 2) hx hb hts inlX8 hown hK hP 0 rfl rfl 1 (by decide) (hts _ mw_52) (fun _ h9 => h9) rfl dX8_add_35 ?_
  refine lv_iconst (v := 1) hx hb dX8_add_38 (by decide) ?_
  refine lv_iadd hx hb dX8_add_39 ?_
  refine ki (v := (nI (n + 1 + 1))) (nI_1 _) ?_
  refine va_put (D := D) (ci := 8) (v := .int (nI (n + 1 + 1))) (ty := tyX8 1) (C := RX8) (T := TX8) (N := 2) hx hb hts inlX8 tyX8 tyX8_ok nmX8 hown hK hP hD hS 0 rfl rfl 1 (by decide) (hts _ mw_52) (fun _ h9 => h9) rfl (tyX8_ok 1 (by decide)) rfl rfl (Nat.le_of_ble_eq_true rfl) dX8_add_40 (fun H locs hP hD hS => ?_)
  have hP : va_P D vwCl [(t0, .inr (8, [.ref t1, .int (nI (n + 1 + 1))])), (t1, .inl (κ 0, 800, .inl (upd (upd f ((nI n).toNatClampNeg) x_4) ((nI (n + 1)).toNatClampNeg) x_8)))] H := hP
  have hD : va_D A [(t0, .inr (8, [.ref t1, .int (nI (n + 1 + 1))])), (t1, .inl (κ 0, 800, .inl (upd (upd f ((nI n).toNatClampNeg) x_4) ((nI (n + 1)).toNatClampNeg) x_8)))] := hD
  refine lv_iinc (v := 8) (lv' := [(2, .int 8), (0, .ref t0), (1, .int za)]) hx hb dX8_add_43 hl (k := 0) rfl (by decide) (by decide) rfl (fun ls hl => ?_)
  refine lv_goto (tgt := 3) hx hb dX8_add_46 (by decide) ?_
  refine lv_iload_n hx hb dX8_add_3 rfl (lv_at hl 0 rfl) ?_
  refine lv_if_lt (tgt := 49) hx hb dX8_add_4 (by decide) (fun c_9 => absurd c_9 (by decide)) (fun c_9 => ?_)
  refine lv_aload_n hx hb dX8_add_7 rfl (lv_at hl 1 rfl) ?_
  refine va_get (D := D) (ci := 8) (v := .int (nI (n + 1 + 1))) (C := RX8) (T := TX8) (N := 2) hx hb hts inlX8 hown hK hP 0 rfl rfl 1 (by decide) (hts _ mw_52) (fun _ h9 => h9) rfl dX8_add_8 ?_
  refine lv_sipush (v := 800) hx hb dX8_add_11 (by decide) ?_
  refine lv_icmp_ge (tgt := 49) hx hb dX8_add_14 (by decide) (fun c_10 => absurd c_10 (nI_ge (a := (n + 1 + 1)) (b := 800) (by omega) (by decide))) (fun c_10 => ?_)
  refine lv_aload_n hx hb dX8_add_17 rfl (lv_at hl 1 rfl) ?_
  refine va_get (D := D) (ci := 8) (v := .ref t1) (C := RX8) (T := TX8) (N := 2) hx hb hts inlX8 hown hK hP 0 rfl rfl 0 (by decide) (hts _ mw_51) (fun _ h9 => h9) rfl dX8_add_18 ?_
  refine lv_aload_n hx hb dX8_add_21 rfl (lv_at hl 1 rfl) ?_
  refine va_get (D := D) (ci := 8) (v := .int (nI (n + 1 + 1))) (C := RX8) (T := TX8) (N := 2) hx hb hts inlX8 hown hK hP 0 rfl rfl 1 (by decide) (hts _ mw_52) (fun _ h9 => h9) rfl dX8_add_22 ?_
  refine lv_iload_n hx hb dX8_add_25 rfl (lv_at hl 2 rfl) ?_
  refine lv_iload_n hx hb dX8_add_26 rfl (lv_at hl 0 rfl) ?_
  obtain ⟨x_11, ex_11⟩ : ∃ v9 : Int32, (za.toUInt32 >>> (Int32.toUInt32 8 &&& Int32.toUInt32 31)).toInt32 = v9 := ⟨_, rfl⟩
  refine lv_iushr (v := x_11) hx hb dX8_add_27 ex_11 ?_
  refine lv_sipush (v := 255) hx hb dX8_add_28 (by decide) ?_
  refine lv_iand hx hb dX8_add_31 ?_
  refine lv_topi (fun x_12 ex_12 => ?_)
  refine va_iast hx hb hK hP hD hS 1 0 rfl rfl (i := nI (n + 1 + 1)) (x := x_12) (vp_in_nI (by omega) (by decide)) dX8_add_32 (fun H locs hP hD hS => ?_)
  have hP : va_P D vwCl [(t0, .inr (8, [.ref t1, .int (nI (n + 1 + 1))])), (t1, .inl (κ 0, 800, .inl (upd (upd (upd f ((nI n).toNatClampNeg) x_4) ((nI (n + 1)).toNatClampNeg) x_8) ((nI (n + 1 + 1)).toNatClampNeg) x_12)))] H := hP
  have hD : va_D A [(t0, .inr (8, [.ref t1, .int (nI (n + 1 + 1))])), (t1, .inl (κ 0, 800, .inl (upd (upd (upd f ((nI n).toNatClampNeg) x_4) ((nI (n + 1)).toNatClampNeg) x_8) ((nI (n + 1 + 1)).toNatClampNeg) x_12)))] := hD
  refine lv_aload_n hx hb dX8_add_33 rfl (lv_at hl 1 rfl) ?_
  refine lv_dup hx hb dX8_add_34 rfl ?_
  refine va_get (D := D) (ci := 8) (v := .int (nI (n + 1 + 1))) (C := RX8) (T := TX8) (N := 2) hx hb hts inlX8 hown hK hP 0 rfl rfl 1 (by decide) (hts _ mw_52) (fun _ h9 => h9) rfl dX8_add_35 ?_
  refine lv_iconst (v := 1) hx hb dX8_add_38 (by decide) ?_
  refine lv_iadd hx hb dX8_add_39 ?_
  refine ki (v := (nI (n + 1 + 1 + 1))) (nI_1 _) ?_
  refine va_put (D := D) (ci := 8) (v := .int (nI (n + 1 + 1 + 1))) (ty := tyX8 1) (C := RX8) (T := TX8) (N := 2) hx hb hts inlX8 tyX8 tyX8_ok nmX8 hown hK hP hD hS 0 rfl rfl 1 (by decide) (hts _ mw_52) (fun _ h9 => h9) rfl (tyX8_ok 1 (by decide)) rfl rfl (Nat.le_of_ble_eq_true rfl) dX8_add_40 (fun H locs hP hD hS => ?_)
  have hP : va_P D vwCl [(t0, .inr (8, [.ref t1, .int (nI (n + 1 + 1 + 1))])), (t1, .inl (κ 0, 800, .inl (upd (upd (upd f ((nI n).toNatClampNeg) x_4) ((nI (n + 1)).toNatClampNeg) x_8) ((nI (n + 1 + 1)).toNatClampNeg) x_12)))] H := hP
  have hD : va_D A [(t0, .inr (8, [.ref t1, .int (nI (n + 1 + 1 + 1))])), (t1, .inl (κ 0, 800, .inl (upd (upd (upd f ((nI n).toNatClampNeg) x_4) ((nI (n + 1)).toNatClampNeg) x_8) ((nI (n + 1 + 1)).toNatClampNeg) x_12)))] := hD
  refine lv_iinc (v := 0) (lv' := [(2, .int 0), (0, .ref t0), (1, .int za)]) hx hb dX8_add_43 hl (k := 0) rfl (by decide) (by decide) rfl (fun ls hl => ?_)
  refine lv_goto (tgt := 3) hx hb dX8_add_46 (by decide) ?_
  refine lv_iload_n hx hb dX8_add_3 rfl (lv_at hl 0 rfl) ?_
  refine lv_if_lt (tgt := 49) hx hb dX8_add_4 (by decide) (fun c_13 => absurd c_13 (by decide)) (fun c_13 => ?_)
  refine lv_aload_n hx hb dX8_add_7 rfl (lv_at hl 1 rfl) ?_
  refine va_get (D := D) (ci := 8) (v := .int (nI (n + 1 + 1 + 1))) (C := RX8) (T := TX8) (N := 2) hx hb hts inlX8 hown hK hP 0 rfl rfl 1 (by decide) (hts _ mw_52) (fun _ h9 => h9) rfl dX8_add_8 ?_
  refine lv_sipush (v := 800) hx hb dX8_add_11 (by decide) ?_
  refine lv_icmp_ge (tgt := 49) hx hb dX8_add_14 (by decide) (fun c_14 => absurd c_14 (nI_ge (a := (n + 1 + 1 + 1)) (b := 800) (by omega) (by decide))) (fun c_14 => ?_)
  refine lv_aload_n hx hb dX8_add_17 rfl (lv_at hl 1 rfl) ?_
  refine va_get (D := D) (ci := 8) (v := .ref t1) (C := RX8) (T := TX8) (N := 2) hx hb hts inlX8 hown hK hP 0 rfl rfl 0 (by decide) (hts _ mw_51) (fun _ h9 => h9) rfl dX8_add_18 ?_
  refine lv_aload_n hx hb dX8_add_21 rfl (lv_at hl 1 rfl) ?_
  refine va_get (D := D) (ci := 8) (v := .int (nI (n + 1 + 1 + 1))) (C := RX8) (T := TX8) (N := 2) hx hb hts inlX8 hown hK hP 0 rfl rfl 1 (by decide) (hts _ mw_52) (fun _ h9 => h9) rfl dX8_add_22 ?_
  refine lv_iload_n hx hb dX8_add_25 rfl (lv_at hl 2 rfl) ?_
  refine lv_iload_n hx hb dX8_add_26 rfl (lv_at hl 0 rfl) ?_
  obtain ⟨x_15, ex_15⟩ : ∃ v9 : Int32, (za.toUInt32 >>> (Int32.toUInt32 0 &&& Int32.toUInt32 31)).toInt32 = v9 := ⟨_, rfl⟩
  refine lv_iushr (v := x_15) hx hb dX8_add_27 ex_15 ?_
  refine lv_sipush (v := 255) hx hb dX8_add_28 (by decide) ?_
  refine lv_iand hx hb dX8_add_31 ?_
  refine lv_topi (fun x_16 ex_16 => ?_)
  refine va_iast hx hb hK hP hD hS 1 0 rfl rfl (i := nI (n + 1 + 1 + 1)) (x := x_16) (vp_in_nI (by omega) (by decide)) dX8_add_32 (fun H locs hP hD hS => ?_)
  have hP : va_P D vwCl [(t0, .inr (8, [.ref t1, .int (nI (n + 1 + 1 + 1))])), (t1, .inl (κ 0, 800, .inl (upd (upd (upd (upd f ((nI n).toNatClampNeg) x_4) ((nI (n + 1)).toNatClampNeg) x_8) ((nI (n + 1 + 1)).toNatClampNeg) x_12) ((nI (n + 1 + 1 + 1)).toNatClampNeg) x_16)))] H := hP
  have hD : va_D A [(t0, .inr (8, [.ref t1, .int (nI (n + 1 + 1 + 1))])), (t1, .inl (κ 0, 800, .inl (upd (upd (upd (upd f ((nI n).toNatClampNeg) x_4) ((nI (n + 1)).toNatClampNeg) x_8) ((nI (n + 1 + 1)).toNatClampNeg) x_12) ((nI (n + 1 + 1 + 1)).toNatClampNeg) x_16)))] := hD
  refine lv_aload_n hx hb dX8_add_33 rfl (lv_at hl 1 rfl) ?_
  refine lv_dup hx hb dX8_add_34 rfl ?_
  refine va_get (D := D) (ci := 8) (v := .int (nI (n + 1 + 1 + 1))) (C := RX8) (T := TX8) (N := 2) hx hb hts inlX8 hown hK hP 0 rfl rfl 1 (by decide) (hts _ mw_52) (fun _ h9 => h9) rfl dX8_add_35 ?_
  refine lv_iconst (v := 1) hx hb dX8_add_38 (by decide) ?_
  refine lv_iadd hx hb dX8_add_39 ?_
  refine ki (v := (nI (n + 1 + 1 + 1 + 1))) (nI_1 _) ?_
  refine va_put (D := D) (ci := 8) (v := .int (nI (n + 1 + 1 + 1 + 1))) (ty := tyX8 1) (C := RX8) (T := TX8) (N := 2) hx hb hts inlX8 tyX8 tyX8_ok nmX8 hown hK hP hD hS 0 rfl rfl 1 (by decide) (hts _ mw_52) (fun _ h9 => h9) rfl (tyX8_ok 1 (by decide)) rfl rfl (Nat.le_of_ble_eq_true rfl) dX8_add_40 (fun H locs hP hD hS => ?_)
  have hP : va_P D vwCl [(t0, .inr (8, [.ref t1, .int (nI (n + 1 + 1 + 1 + 1))])), (t1, .inl (κ 0, 800, .inl (upd (upd (upd (upd f ((nI n).toNatClampNeg) x_4) ((nI (n + 1)).toNatClampNeg) x_8) ((nI (n + 1 + 1)).toNatClampNeg) x_12) ((nI (n + 1 + 1 + 1)).toNatClampNeg) x_16)))] H := hP
  have hD : va_D A [(t0, .inr (8, [.ref t1, .int (nI (n + 1 + 1 + 1 + 1))])), (t1, .inl (κ 0, 800, .inl (upd (upd (upd (upd f ((nI n).toNatClampNeg) x_4) ((nI (n + 1)).toNatClampNeg) x_8) ((nI (n + 1 + 1)).toNatClampNeg) x_12) ((nI (n + 1 + 1 + 1)).toNatClampNeg) x_16)))] := hD
  refine lv_iinc (v := (-8)) (lv' := [(2, .int (-8)), (0, .ref t0), (1, .int za)]) hx hb dX8_add_43 hl (k := 0) rfl (by decide) (by decide) rfl (fun ls hl => ?_)
  refine lv_goto (tgt := 3) hx hb dX8_add_46 (by decide) ?_
  refine lv_iload_n hx hb dX8_add_3 rfl (lv_at hl 0 rfl) ?_
  refine lv_if_lt (tgt := 49) hx hb dX8_add_4 (by decide) (fun c_17 => ?_) (fun c_17 => absurd (by decide) c_17)
  exact ct_vret hx hb hr hlk hS hP hD (upd (upd (upd (upd f ((nI n).toNatClampNeg) x_4) ((nI (n + 1)).toNatClampNeg) x_8) ((nI (n + 1 + 1)).toNatClampNeg) x_12) ((nI (n + 1 + 1 + 1)).toNatClampNeg) x_16) rfl trivial [0, 1] rfl (by decide) trivial (Nat.le_of_ble_eq_true rfl) (Nat.le_of_ble_eq_true rfl) dX8_add_49
set_option maxHeartbeats 4000000 in
set_option maxRecDepth 100000 in
theorem c_X8_hasRoom (l : Launch) (D : va_G) (κ : Nat → ClassId) (t0 : Nat) (t1 : Nat) : Cr l yX8_hasRoom (wl yX8_hasRoom cX8_hasRoom 2 (some .boolean)) { frames := 0, cells := 0, slots := 0, locals := 0 } D κ [.ref t0, .int 5] (va_P D vwCl [(t0, .inr (8, [.ref t1, .int 0]))]) (fun _ : Unit => some (.int 1)) (fun _ : Unit => True) := by
  refine cr_of (by decide +kernel) (Nat.le_of_ble_eq_true rfl) ?_
  intro p e s m args below meth c ls hx hb hr hml hts hown hlk hKK hK hI hl
  have hP : va_P D vwCl [(t0, .inr (8, [.ref t1, .int 0]))] s.heap := hI
  have hFX : FX p s m args c cX8_hasRoom 2 RX8 := ⟨hx, hb, hml, hown, hts⟩
  have hl : lv_has ls 2 [(0, .ref t0), (1, .int 5)] := hl
  refine lv_aload_n hx hb dX8_hasRoom_0 rfl (lv_at hl 0 rfl) ?_
  refine va_get (D := D) (ci := 8) (v := .int 0) (C := RX8) (T := TX8) (N := 2) hx hb hts inlX8 hown hK hP 0 rfl rfl 1 (by decide) (hts _ mw_52) (fun _ h9 => h9) rfl dX8_hasRoom_1 ?_
  refine lv_iconst (v := 4) hx hb dX8_hasRoom_4 (by decide) ?_
  refine lv_iload_n hx hb dX8_hasRoom_5 rfl (lv_at hl 1 rfl) ?_
  refine lv_imul hx hb dX8_hasRoom_6 ?_
  refine ki (v := 20) (by decide) ?_
  refine lv_iadd hx hb dX8_hasRoom_7 ?_
  refine ki (v := 20) (by decide) ?_
  refine lv_sipush (v := 800) hx hb dX8_hasRoom_8 (by decide) ?_
  refine lv_icmp_gt (tgt := 18) hx hb dX8_hasRoom_11 (by decide) (fun c_1 => absurd c_1 (by decide)) (fun c_1 => ?_)
  refine lv_iconst (v := 1) hx hb dX8_hasRoom_14 (by decide) ?_
  refine lv_goto (tgt := 19) hx hb dX8_hasRoom_15 (by decide) ?_
  exact cr_iret hx hb hr hlk rfl () rfl trivial dX8_hasRoom_19
set_option maxHeartbeats 4000000 in
set_option maxRecDepth 100000 in
theorem c_X11_feed (l : Launch) (D : va_G) (κ : Nat → ClassId) (x0 : Nat) (n0 : Nat) (t0 : Nat) (f0 : Nat) (r0 : Nat) (w0 : Nat) (k0 : Nat) (t1 : Nat) (za : Int32) (zb : Int32) (zc : Int32) (zd : Int32) (ze : Int32) : Ct l yX11_feed (wl yX11_feed cX11_feed 6 (some .int)) { frames := 1, cells := 0, slots := 0, locals := 22 } D κ [.ref x0, .int za, .int zb, .int zc, .int zd, .int ze] [(x0, .inr (11, [.ref n0, .ref t0, .ref f0, .ref r0, .ref w0, .ref k0, .int 0])), (t0, .inr (8, [.ref t1, .int 0])), (t1, .inl (κ 0, 800, .inl (fun _ => 0)))] (fun _ => True) (fun _ : Unit => some (.int 20)) (fun _ : Unit => True) (fun _ : Unit => []) (fun _ _ => True) := by
  refine ct_of (by decide +kernel) (Nat.le_of_ble_eq_true rfl) ?_
  intro p e s m args below meth c A ls hx hb hr hml hts hown hlk hin hKK hK hA hP hD hS hI hl
  have hS : va_S A s.heap s.heap [] := hS
  have hFX : FX p s m args c cX11_feed 6 RX11 := ⟨hx, hb, hml, hown, hts⟩
  have hl : lv_has ls 6 [(0, .ref x0), (1, .int za), (2, .int zb), (3, .int zc), (4, .int zd), (5, .int ze)] := hl
  refine lv_aload_n hx hb dX11_feed_0 rfl (lv_at hl 0 rfl) ?_
  refine va_get (D := D) (ci := 11) (v := .ref t0) (C := RX11) (T := TX11) (N := 7) hx hb hts inlX11 hown hK hP 0 rfl rfl 1 (by decide) (hts _ mw_19) (fun _ h9 => h9) rfl dX11_feed_1 ?_
  refine lv_iconst (v := 5) hx hb dX11_feed_4 (by decide) ?_
  refine cr_V (As := [.int 5]) (rest := []) hFX hKK (c_X8_hasRoom l D κ t0 t1) 1 gV_X11_63 hdV_X8_hasRoom rfl rfl ⟨Nat.le_of_ble_eq_true rfl, Nat.le_of_ble_eq_true rfl⟩ rfl rfl (Nat.le_of_ble_eq_true rfl) dX11_feed_5 ⟨Nat.le_of_ble_eq_true rfl, Nat.le_of_ble_eq_true rfl⟩ hl.1 hP 1 8 rfl rfl rfl (hP.sub [1] rfl) (fun _ hp_1 => ?_)
  refine W.eq (g2 := F0 m 8 ls [.int 1]) rfl ?_
  refine lv_if_ne (tgt := 13) hx hb dX11_feed_8 (by decide) (fun c_2 => ?_) (fun c_2 => absurd c_2 (by decide))
  refine lv_aload_n hx hb dX11_feed_13 rfl (lv_at hl 0 rfl) ?_
  refine va_get (D := D) (ci := 11) (v := .ref t0) (C := RX11) (T := TX11) (N := 7) hx hb hts inlX11 hown hK hP 0 rfl rfl 1 (by decide) (hts _ mw_19) (fun _ h9 => h9) rfl dX11_feed_14 ?_
  refine lv_iload_n hx hb dX11_feed_17 rfl (lv_at hl 1 rfl) ?_
  refine ct_V (wr := [(x0, .inr (11, [.ref n0, .ref t0, .ref f0, .ref r0, .ref w0, .ref k0, .int 0]))]) (As := [.int za]) (rest := []) hFX hKK hP hD hS hA (c_X8_add l D κ t0 t1 0 (fun _ => 0) za (by omega)) 1 gV_X11_67 hdV_X8_add ⟨Nat.le_of_ble_eq_true rfl, Nat.le_of_ble_eq_true rfl⟩ rfl rfl (Nat.le_of_ble_eq_true rfl) dX11_feed_18 ⟨Nat.le_of_ble_eq_true rfl, Nat.le_of_ble_eq_true rfl⟩ hl.1 [1, 2] [0] rfl rfl (by decide) (by decide) (by decide) 1 8 rfl rfl rfl trivial (fun g_3 H locs hp_4 _ hP hD hS hz_ hk_ => ?_)
  have hP : va_P D vwCl [(x0, .inr (11, [.ref n0, .ref t0, .ref f0, .ref r0, .ref w0, .ref k0, .int 0])), (t0, .inr (8, [.ref t1, .int (nI (0 + 4))])), (t1, .inl (κ 0, 800, .inl g_3))] H := hP
  have hD : va_D A [(x0, .inr (11, [.ref n0, .ref t0, .ref f0, .ref r0, .ref w0, .ref k0, .int 0])), (t0, .inr (8, [.ref t1, .int (nI (0 + 4))])), (t1, .inl (κ 0, 800, .inl g_3))] := hD
  refine W.eq (g2 := F0 m 21 ls []) rfl ?_
  refine lv_aload_n hx hb dX11_feed_21 rfl (lv_at hl 0 rfl) ?_
  refine va_get (D := D) (ci := 11) (v := .ref t0) (C := RX11) (T := TX11) (N := 7) hx hb hts inlX11 hown hK hP 0 rfl rfl 1 (by decide) (hts _ mw_19) (fun _ h9 => h9) rfl dX11_feed_22 ?_
  refine lv_iload_n hx hb dX11_feed_25 rfl (lv_at hl 2 rfl) ?_
  refine ct_V (wr := [(x0, .inr (11, [.ref n0, .ref t0, .ref f0, .ref r0, .ref w0, .ref k0, .int 0]))]) (As := [.int zb]) (rest := []) hFX hKK hP hD hS hA (c_X8_add l D κ t0 t1 (0 + 4) g_3 zb (by omega)) 1 gV_X11_67 hdV_X8_add ⟨Nat.le_of_ble_eq_true rfl, Nat.le_of_ble_eq_true rfl⟩ rfl rfl (Nat.le_of_ble_eq_true rfl) dX11_feed_26 ⟨Nat.le_of_ble_eq_true rfl, Nat.le_of_ble_eq_true rfl⟩ hl.1 [1, 2] [0] rfl rfl (by decide) (by decide) (by decide) 1 8 rfl rfl rfl trivial (fun g_5 H locs hp_6 _ hP hD hS hz_ hk_ => ?_)
  have hP : va_P D vwCl [(x0, .inr (11, [.ref n0, .ref t0, .ref f0, .ref r0, .ref w0, .ref k0, .int 0])), (t0, .inr (8, [.ref t1, .int (nI ((0 + 4) + 4))])), (t1, .inl (κ 0, 800, .inl g_5))] H := hP
  have hD : va_D A [(x0, .inr (11, [.ref n0, .ref t0, .ref f0, .ref r0, .ref w0, .ref k0, .int 0])), (t0, .inr (8, [.ref t1, .int (nI ((0 + 4) + 4))])), (t1, .inl (κ 0, 800, .inl g_5))] := hD
  refine W.eq (g2 := F0 m 29 ls []) rfl ?_
  refine lv_aload_n hx hb dX11_feed_29 rfl (lv_at hl 0 rfl) ?_
  refine va_get (D := D) (ci := 11) (v := .ref t0) (C := RX11) (T := TX11) (N := 7) hx hb hts inlX11 hown hK hP 0 rfl rfl 1 (by decide) (hts _ mw_19) (fun _ h9 => h9) rfl dX11_feed_30 ?_
  refine lv_iload_n hx hb dX11_feed_33 rfl (lv_at hl 3 rfl) ?_
  refine ct_V (wr := [(x0, .inr (11, [.ref n0, .ref t0, .ref f0, .ref r0, .ref w0, .ref k0, .int 0]))]) (As := [.int zc]) (rest := []) hFX hKK hP hD hS hA (c_X8_add l D κ t0 t1 ((0 + 4) + 4) g_5 zc (by omega)) 1 gV_X11_67 hdV_X8_add ⟨Nat.le_of_ble_eq_true rfl, Nat.le_of_ble_eq_true rfl⟩ rfl rfl (Nat.le_of_ble_eq_true rfl) dX11_feed_34 ⟨Nat.le_of_ble_eq_true rfl, Nat.le_of_ble_eq_true rfl⟩ hl.1 [1, 2] [0] rfl rfl (by decide) (by decide) (by decide) 1 8 rfl rfl rfl trivial (fun g_7 H locs hp_8 _ hP hD hS hz_ hk_ => ?_)
  have hP : va_P D vwCl [(x0, .inr (11, [.ref n0, .ref t0, .ref f0, .ref r0, .ref w0, .ref k0, .int 0])), (t0, .inr (8, [.ref t1, .int (nI (((0 + 4) + 4) + 4))])), (t1, .inl (κ 0, 800, .inl g_7))] H := hP
  have hD : va_D A [(x0, .inr (11, [.ref n0, .ref t0, .ref f0, .ref r0, .ref w0, .ref k0, .int 0])), (t0, .inr (8, [.ref t1, .int (nI (((0 + 4) + 4) + 4))])), (t1, .inl (κ 0, 800, .inl g_7))] := hD
  refine W.eq (g2 := F0 m 37 ls []) rfl ?_
  refine lv_aload_n hx hb dX11_feed_37 rfl (lv_at hl 0 rfl) ?_
  refine va_get (D := D) (ci := 11) (v := .ref t0) (C := RX11) (T := TX11) (N := 7) hx hb hts inlX11 hown hK hP 0 rfl rfl 1 (by decide) (hts _ mw_19) (fun _ h9 => h9) rfl dX11_feed_38 ?_
  refine lv_iload hx hb dX11_feed_41 (lv_at hl 4 rfl) ?_
  refine ct_V (wr := [(x0, .inr (11, [.ref n0, .ref t0, .ref f0, .ref r0, .ref w0, .ref k0, .int 0]))]) (As := [.int zd]) (rest := []) hFX hKK hP hD hS hA (c_X8_add l D κ t0 t1 (((0 + 4) + 4) + 4) g_7 zd (by omega)) 1 gV_X11_67 hdV_X8_add ⟨Nat.le_of_ble_eq_true rfl, Nat.le_of_ble_eq_true rfl⟩ rfl rfl (Nat.le_of_ble_eq_true rfl) dX11_feed_43 ⟨Nat.le_of_ble_eq_true rfl, Nat.le_of_ble_eq_true rfl⟩ hl.1 [1, 2] [0] rfl rfl (by decide) (by decide) (by decide) 1 8 rfl rfl rfl trivial (fun g_9 H locs hp_10 _ hP hD hS hz_ hk_ => ?_)
  have hP : va_P D vwCl [(x0, .inr (11, [.ref n0, .ref t0, .ref f0, .ref r0, .ref w0, .ref k0, .int 0])), (t0, .inr (8, [.ref t1, .int (nI ((((0 + 4) + 4) + 4) + 4))])), (t1, .inl (κ 0, 800, .inl g_9))] H := hP
  have hD : va_D A [(x0, .inr (11, [.ref n0, .ref t0, .ref f0, .ref r0, .ref w0, .ref k0, .int 0])), (t0, .inr (8, [.ref t1, .int (nI ((((0 + 4) + 4) + 4) + 4))])), (t1, .inl (κ 0, 800, .inl g_9))] := hD
  refine W.eq (g2 := F0 m 46 ls []) rfl ?_
  refine lv_aload_n hx hb dX11_feed_46 rfl (lv_at hl 0 rfl) ?_
  refine va_get (D := D) (ci := 11) (v := .ref t0) (C := RX11) (T := TX11) (N := 7) hx hb hts inlX11 hown hK hP 0 rfl rfl 1 (by decide) (hts _ mw_19) (fun _ h9 => h9) rfl dX11_feed_47 ?_
  refine lv_iload hx hb dX11_feed_50 (lv_at hl 5 rfl) ?_
  refine ct_V (wr := [(x0, .inr (11, [.ref n0, .ref t0, .ref f0, .ref r0, .ref w0, .ref k0, .int 0]))]) (As := [.int ze]) (rest := []) hFX hKK hP hD hS hA (c_X8_add l D κ t0 t1 ((((0 + 4) + 4) + 4) + 4) g_9 ze (by omega)) 1 gV_X11_67 hdV_X8_add ⟨Nat.le_of_ble_eq_true rfl, Nat.le_of_ble_eq_true rfl⟩ rfl rfl (Nat.le_of_ble_eq_true rfl) dX11_feed_52 ⟨Nat.le_of_ble_eq_true rfl, Nat.le_of_ble_eq_true rfl⟩ hl.1 [1, 2] [0] rfl rfl (by decide) (by decide) (by decide) 1 8 rfl rfl rfl trivial (fun g_11 H locs hp_12 _ hP hD hS hz_ hk_ => ?_)
  have hP : va_P D vwCl [(x0, .inr (11, [.ref n0, .ref t0, .ref f0, .ref r0, .ref w0, .ref k0, .int 0])), (t0, .inr (8, [.ref t1, .int (nI (((((0 + 4) + 4) + 4) + 4) + 4))])), (t1, .inl (κ 0, 800, .inl g_11))] H := hP
  have hD : va_D A [(x0, .inr (11, [.ref n0, .ref t0, .ref f0, .ref r0, .ref w0, .ref k0, .int 0])), (t0, .inr (8, [.ref t1, .int (nI (((((0 + 4) + 4) + 4) + 4) + 4))])), (t1, .inl (κ 0, 800, .inl g_11))] := hD
  refine W.eq (g2 := F0 m 55 ls []) rfl ?_
  refine lv_aload_n hx hb dX11_feed_55 rfl (lv_at hl 0 rfl) ?_
  refine va_get (D := D) (ci := 11) (v := .ref t0) (C := RX11) (T := TX11) (N := 7) hx hb hts inlX11 hown hK hP 0 rfl rfl 1 (by decide) (hts _ mw_19) (fun _ h9 => h9) rfl dX11_feed_56 ?_
  refine va_get (D := D) (ci := 8) (v := .int (nI (((((0 + 4) + 4) + 4) + 4) + 4))) (C := RX8) (T := TX8) (N := 2) hx hb hts inlX8 hown hK hP 1 rfl rfl 1 (by decide) (hts _ mw_223) (fun _ h9 => h9) rfl dX11_feed_59 ?_
  exact ct_iret hx hb hr hlk rfl hS hP hD () rfl trivial [] rfl (by decide) trivial (Nat.le_of_ble_eq_true rfl) (Nat.le_of_ble_eq_true rfl) dX11_feed_62
set_option maxHeartbeats 4000000 in
set_option maxRecDepth 100000 in
theorem c_X11_canBeDialect (l : Launch) (D : va_G) (κ : Nat → ClassId) (za : Int32) (zb : Int32) : Cr l yX11_canBeDialect (wl yX11_canBeDialect cX11_canBeDialect 2 (some .boolean)) { frames := 0, cells := 0, slots := 0, locals := 0 } D κ [.int za, .int zb] (va_P D vwCl []) (fun r : Int32 => some (.int r)) (fun r : Int32 => (r = 1 ∧ canD za zb) ∨ (r = 0 ∧ ¬ canD za zb)) := by
  refine cr_of (by decide +kernel) (Nat.le_of_ble_eq_true rfl) ?_
  intro p e s m args below meth c ls hx hb hr hml hts hown hlk hKK hK hI hl
  have hP : va_P D vwCl [] s.heap := hI
  have hFX : FX p s m args c cX11_canBeDialect 2 RX11 := ⟨hx, hb, hml, hown, hts⟩
  have hl : lv_has ls 2 [(0, .int za), (1, .int zb)] := hl
  refine lv_iload_n hx hb dX11_canBeDialect_0 rfl (lv_at hl 0 rfl) ?_
  rcases Classical.em (za.toInt < 0 ∨ 5 < za.toInt) with c_1 | c_1
  · refine lv_tableOut (tgt := 161) hx hb dX11_canBeDialect_1 c_1 (by decide) ?_
    refine lv_iconst (v := 0) hx hb dX11_canBeDialect_161 (by decide) ?_
    exact cr_iret hx hb hr hlk rfl 0 rfl (by first | exact Or.inr ((⟨rfl, (by first | assumption | exact Or.inl (by assumption) | exact Or.inr (by assumption) | exact out_ne (by assumption) (by decide) (by decide) | exact canD_out (by assumption) | (simp_all [canD]; done))⟩))) dX11_canBeDialect_162
  · have e_2 : za = 0 ∨ za = 1 ∨ za = 2 ∨ za = 3 ∨ za = 4 ∨ za = 5 := by
      have q1 : ¬ za.toInt < 0 := fun h => c_1 (Or.inl h)
      have q2 : ¬ 5 < za.toInt := fun h => c_1 (Or.inr h)
      have q3 : ∀ v : Int32, za.toInt = v.toInt → za = v := fun v h => Int32.toInt_inj.mp h
      rcases (show za.toInt = 0 ∨ za.toInt = 1 ∨ za.toInt = 2 ∨ za.toInt = 3 ∨ za.toInt = 4 ∨ za.toInt = 5 by omega) with h | h | h | h | h | h
      · exact Or.inl (q3 0 (h.trans (by decide)))
      · exact Or.inr (Or.inl (q3 1 (h.trans (by decide))))
      · exact Or.inr (Or.inr (Or.inl (q3 2 (h.trans (by decide)))))
      · exact Or.inr (Or.inr (Or.inr (Or.inl (q3 3 (h.trans (by decide))))))
      · exact Or.inr (Or.inr (Or.inr (Or.inr (Or.inl (q3 4 (h.trans (by decide)))))))
      · exact Or.inr (Or.inr (Or.inr (Or.inr (Or.inr ((q3 5 (h.trans (by decide))))))))
    rcases e_2 with e_2 | e_2 | e_2 | e_2 | e_2 | e_2
    · refine lv_tableIn (tgt := 40) hx hb dX11_canBeDialect_1 (by rw [e_2]; decide) (by rw [e_2]; decide) (by rw [e_2]; rfl) (by decide) ?_
      refine lv_iload_n hx hb dX11_canBeDialect_40 rfl (lv_at hl 1 rfl) ?_
      refine lv_bipush (v := 44) hx hb dX11_canBeDialect_41 (by decide) ?_
      refine lv_icmp_eq (tgt := 64) hx hb dX11_canBeDialect_43 (by decide) (fun c_3 => ?_) (fun c_3 => ?_)
      · refine lv_iconst (v := 1) hx hb dX11_canBeDialect_64 (by decide) ?_
        refine lv_goto (tgt := 69) hx hb dX11_canBeDialect_65 (by decide) ?_
        exact cr_iret hx hb hr hlk rfl 1 rfl (by first | exact Or.inl (⟨rfl, (by first | assumption | exact Or.inl (by assumption) | exact Or.inr (by assumption) | exact out_ne (by assumption) (by decide) (by decide) | exact canD_out (by assumption) | (simp_all [canD]; done))⟩)) dX11_canBeDialect_69
      · refine lv_iload_n hx hb dX11_canBeDialect_46 rfl (lv_at hl 1 rfl) ?_
        refine lv_bipush (v := 59) hx hb dX11_canBeDialect_47 (by decide) ?_
        refine lv_icmp_eq (tgt := 64) hx hb dX11_canBeDialect_49 (by decide) (fun c_4 => ?_) (fun c_4 => ?_)
        · refine lv_iconst (v := 1) hx hb dX11_canBeDialect_64 (by decide) ?_
          refine lv_goto (tgt := 69) hx hb dX11_canBeDialect_65 (by decide) ?_
          exact cr_iret hx hb hr hlk rfl 1 rfl (by first | exact Or.inl (⟨rfl, (by first | assumption | exact Or.inl (by assumption) | exact Or.inr (by assumption) | exact out_ne (by assumption) (by decide) (by decide) | exact canD_out (by assumption) | (simp_all [canD]; done))⟩)) dX11_canBeDialect_69
        · refine lv_iload_n hx hb dX11_canBeDialect_52 rfl (lv_at hl 1 rfl) ?_
          refine lv_bipush (v := 124) hx hb dX11_canBeDialect_53 (by decide) ?_
          refine lv_icmp_eq (tgt := 64) hx hb dX11_canBeDialect_55 (by decide) (fun c_5 => ?_) (fun c_5 => ?_)
          · refine lv_iconst (v := 1) hx hb dX11_canBeDialect_64 (by decide) ?_
            refine lv_goto (tgt := 69) hx hb dX11_canBeDialect_65 (by decide) ?_
            exact cr_iret hx hb hr hlk rfl 1 rfl (by first | exact Or.inl (⟨rfl, (by first | assumption | exact Or.inl (by assumption) | exact Or.inr (by assumption) | exact out_ne (by assumption) (by decide) (by decide) | exact canD_out (by assumption) | (simp_all [canD]; done))⟩)) dX11_canBeDialect_69
          · refine lv_iload_n hx hb dX11_canBeDialect_58 rfl (lv_at hl 1 rfl) ?_
            refine lv_bipush (v := 9) hx hb dX11_canBeDialect_59 (by decide) ?_
            refine lv_icmp_ne (tgt := 68) hx hb dX11_canBeDialect_61 (by decide) (fun c_6 => ?_) (fun c_6 => ?_)
            · refine lv_iconst (v := 0) hx hb dX11_canBeDialect_68 (by decide) ?_
              exact cr_iret hx hb hr hlk rfl 0 rfl (by first | exact Or.inr ((⟨rfl, (by first | assumption | exact Or.inl (by assumption) | exact Or.inr (by assumption) | exact out_ne (by assumption) (by decide) (by decide) | exact canD_out (by assumption) | (simp_all [canD]; done))⟩))) dX11_canBeDialect_69
            · refine lv_iconst (v := 1) hx hb dX11_canBeDialect_64 (by decide) ?_
              refine lv_goto (tgt := 69) hx hb dX11_canBeDialect_65 (by decide) ?_
              exact cr_iret hx hb hr hlk rfl 1 rfl (by first | exact Or.inl (⟨rfl, (by first | assumption | exact Or.inl (by assumption) | exact Or.inr (by assumption) | exact out_ne (by assumption) (by decide) (by decide) | exact canD_out (by assumption) | (simp_all [canD]; done))⟩)) dX11_canBeDialect_69
    · refine lv_tableIn (tgt := 70) hx hb dX11_canBeDialect_1 (by rw [e_2]; decide) (by rw [e_2]; decide) (by rw [e_2]; rfl) (by decide) ?_
      refine lv_iload_n hx hb dX11_canBeDialect_70 rfl (lv_at hl 1 rfl) ?_
      refine lv_bipush (v := 34) hx hb dX11_canBeDialect_71 (by decide) ?_
      refine lv_icmp_eq (tgt := 82) hx hb dX11_canBeDialect_73 (by decide) (fun c_7 => ?_) (fun c_7 => ?_)
      · refine lv_iconst (v := 1) hx hb dX11_canBeDialect_82 (by decide) ?_
        refine lv_goto (tgt := 87) hx hb dX11_canBeDialect_83 (by decide) ?_
        exact cr_iret hx hb hr hlk rfl 1 rfl (by first | exact Or.inl (⟨rfl, (by first | assumption | exact Or.inl (by assumption) | exact Or.inr (by assumption) | exact out_ne (by assumption) (by decide) (by decide) | exact canD_out (by assumption) | (simp_all [canD]; done))⟩)) dX11_canBeDialect_87
      · refine lv_iload_n hx hb dX11_canBeDialect_76 rfl (lv_at hl 1 rfl) ?_
        refine lv_bipush (v := 39) hx hb dX11_canBeDialect_77 (by decide) ?_
        refine lv_icmp_ne (tgt := 86) hx hb dX11_canBeDialect_79 (by decide) (fun c_8 => ?_) (fun c_8 => ?_)
        · refine lv_iconst (v := 0) hx hb dX11_canBeDialect_86 (by decide) ?_
          exact cr_iret hx hb hr hlk rfl 0 rfl (by first | exact Or.inr ((⟨rfl, (by first | assumption | exact Or.inl (by assumption) | exact Or.inr (by assumption) | exact out_ne (by assumption) (by decide) (by decide) | exact canD_out (by assumption) | (simp_all [canD]; done))⟩))) dX11_canBeDialect_87
        · refine lv_iconst (v := 1) hx hb dX11_canBeDialect_82 (by decide) ?_
          refine lv_goto (tgt := 87) hx hb dX11_canBeDialect_83 (by decide) ?_
          exact cr_iret hx hb hr hlk rfl 1 rfl (by first | exact Or.inl (⟨rfl, (by first | assumption | exact Or.inl (by assumption) | exact Or.inr (by assumption) | exact out_ne (by assumption) (by decide) (by decide) | exact canD_out (by assumption) | (simp_all [canD]; done))⟩)) dX11_canBeDialect_87
    · refine lv_tableIn (tgt := 88) hx hb dX11_canBeDialect_1 (by rw [e_2]; decide) (by rw [e_2]; decide) (by rw [e_2]; rfl) (by decide) ?_
      refine lv_iload_n hx hb dX11_canBeDialect_88 rfl (lv_at hl 1 rfl) ?_
      refine lv_if_eq (tgt := 97) hx hb dX11_canBeDialect_89 (by decide) (fun c_9 => ?_) (fun c_9 => ?_)
      · refine lv_iconst (v := 1) hx hb dX11_canBeDialect_97 (by decide) ?_
        refine lv_goto (tgt := 102) hx hb dX11_canBeDialect_98 (by decide) ?_
        exact cr_iret hx hb hr hlk rfl 1 rfl (by first | exact Or.inl (⟨rfl, (by first | assumption | exact Or.inl (by assumption) | exact Or.inr (by assumption) | exact out_ne (by assumption) (by decide) (by decide) | exact canD_out (by assumption) | (simp_all [canD]; done))⟩)) dX11_canBeDialect_102
      · refine lv_iload_n hx hb dX11_canBeDialect_92 rfl (lv_at hl 1 rfl) ?_
        refine lv_iconst (v := 1) hx hb dX11_canBeDialect_93 (by decide) ?_
        refine lv_icmp_ne (tgt := 101) hx hb dX11_canBeDialect_94 (by decide) (fun c_10 => ?_) (fun c_10 => ?_)
        · refine lv_iconst (v := 0) hx hb dX11_canBeDialect_101 (by decide) ?_
          exact cr_iret hx hb hr hlk rfl 0 rfl (by first | exact Or.inr ((⟨rfl, (by first | assumption | exact Or.inl (by assumption) | exact Or.inr (by assumption) | exact out_ne (by assumption) (by decide) (by decide) | exact canD_out (by assumption) | (simp_all [canD]; done))⟩))) dX11_canBeDialect_102
        · refine lv_iconst (v := 1) hx hb dX11_canBeDialect_97 (by decide) ?_
          refine lv_goto (tgt := 102) hx hb dX11_canBeDialect_98 (by decide) ?_
          exact cr_iret hx hb hr hlk rfl 1 rfl (by first | exact Or.inl (⟨rfl, (by first | assumption | exact Or.inl (by assumption) | exact Or.inr (by assumption) | exact out_ne (by assumption) (by decide) (by decide) | exact canD_out (by assumption) | (simp_all [canD]; done))⟩)) dX11_canBeDialect_102
    · refine lv_tableIn (tgt := 103) hx hb dX11_canBeDialect_1 (by rw [e_2]; decide) (by rw [e_2]; decide) (by rw [e_2]; rfl) (by decide) ?_
      refine lv_iload_n hx hb dX11_canBeDialect_103 rfl (lv_at hl 1 rfl) ?_
      refine lv_if_eq (tgt := 112) hx hb dX11_canBeDialect_104 (by decide) (fun c_11 => ?_) (fun c_11 => ?_)
      · refine lv_iconst (v := 1) hx hb dX11_canBeDialect_112 (by decide) ?_
        refine lv_goto (tgt := 117) hx hb dX11_canBeDialect_113 (by decide) ?_
        exact cr_iret hx hb hr hlk rfl 1 rfl (by first | exact Or.inl (⟨rfl, (by first | assumption | exact Or.inl (by assumption) | exact Or.inr (by assumption) | exact out_ne (by assumption) (by decide) (by decide) | exact canD_out (by assumption) | (simp_all [canD]; done))⟩)) dX11_canBeDialect_117
      · refine lv_iload_n hx hb dX11_canBeDialect_107 rfl (lv_at hl 1 rfl) ?_
        refine lv_iconst (v := 1) hx hb dX11_canBeDialect_108 (by decide) ?_
        refine lv_icmp_ne (tgt := 116) hx hb dX11_canBeDialect_109 (by decide) (fun c_12 => ?_) (fun c_12 => ?_)
        · refine lv_iconst (v := 0) hx hb dX11_canBeDialect_116 (by decide) ?_
          exact cr_iret hx hb hr hlk rfl 0 rfl (by first | exact Or.inr ((⟨rfl, (by first | assumption | exact Or.inl (by assumption) | exact Or.inr (by assumption) | exact out_ne (by assumption) (by decide) (by decide) | exact canD_out (by assumption) | (simp_all [canD]; done))⟩))) dX11_canBeDialect_117
        · refine lv_iconst (v := 1) hx hb dX11_canBeDialect_112 (by decide) ?_
          refine lv_goto (tgt := 117) hx hb dX11_canBeDialect_113 (by decide) ?_
          exact cr_iret hx hb hr hlk rfl 1 rfl (by first | exact Or.inl (⟨rfl, (by first | assumption | exact Or.inl (by assumption) | exact Or.inr (by assumption) | exact out_ne (by assumption) (by decide) (by decide) | exact canD_out (by assumption) | (simp_all [canD]; done))⟩)) dX11_canBeDialect_117
    · refine lv_tableIn (tgt := 118) hx hb dX11_canBeDialect_1 (by rw [e_2]; decide) (by rw [e_2]; decide) (by rw [e_2]; rfl) (by decide) ?_
      refine lv_iload_n hx hb dX11_canBeDialect_118 rfl (lv_at hl 1 rfl) ?_
      refine lv_if_lt (tgt := 131) hx hb dX11_canBeDialect_119 (by decide) (fun c_13 => ?_) (fun c_13 => ?_)
      · refine lv_iconst (v := 0) hx hb dX11_canBeDialect_131 (by decide) ?_
        exact cr_iret hx hb hr hlk rfl 0 rfl (by first | exact Or.inr ((⟨rfl, (by first | assumption | exact Or.inl (by assumption) | exact Or.inr (by assumption) | exact out_ne (by assumption) (by decide) (by decide) | exact canD_out (by assumption) | (simp_all [canD]; done))⟩))) dX11_canBeDialect_132
      · refine lv_iload_n hx hb dX11_canBeDialect_122 rfl (lv_at hl 1 rfl) ?_
        refine lv_iconst (v := 3) hx hb dX11_canBeDialect_123 (by decide) ?_
        refine lv_icmp_gt (tgt := 131) hx hb dX11_canBeDialect_124 (by decide) (fun c_14 => ?_) (fun c_14 => ?_)
        · refine lv_iconst (v := 0) hx hb dX11_canBeDialect_131 (by decide) ?_
          exact cr_iret hx hb hr hlk rfl 0 rfl (by first | exact Or.inr ((⟨rfl, (by first | assumption | exact Or.inl (by assumption) | exact Or.inr (by assumption) | exact out_ne (by assumption) (by decide) (by decide) | exact canD_out (by assumption) | (simp_all [canD]; done))⟩))) dX11_canBeDialect_132
        · refine lv_iconst (v := 1) hx hb dX11_canBeDialect_127 (by decide) ?_
          refine lv_goto (tgt := 132) hx hb dX11_canBeDialect_128 (by decide) ?_
          exact cr_iret hx hb hr hlk rfl 1 rfl (by first | exact Or.inl (⟨rfl, (by first | assumption | exact Or.inl (by assumption) | exact Or.inr (by assumption) | exact out_ne (by assumption) (by decide) (by decide) | exact canD_out (by assumption) | (simp_all [canD]; done))⟩)) dX11_canBeDialect_132
    · refine lv_tableIn (tgt := 133) hx hb dX11_canBeDialect_1 (by rw [e_2]; decide) (by rw [e_2]; decide) (by rw [e_2]; rfl) (by decide) ?_
      refine lv_iload_n hx hb dX11_canBeDialect_133 rfl (lv_at hl 1 rfl) ?_
      refine lv_if_eq (tgt := 155) hx hb dX11_canBeDialect_134 (by decide) (fun c_15 => ?_) (fun c_15 => ?_)
      · refine lv_iconst (v := 1) hx hb dX11_canBeDialect_155 (by decide) ?_
        refine lv_goto (tgt := 160) hx hb dX11_canBeDialect_156 (by decide) ?_
        exact cr_iret hx hb hr hlk rfl 1 rfl (by first | exact Or.inl (⟨rfl, (by first | assumption | exact Or.inl (by assumption) | exact Or.inr (by assumption) | exact out_ne (by assumption) (by decide) (by decide) | exact canD_out (by assumption) | (simp_all [canD]; done))⟩)) dX11_canBeDialect_160
      · refine lv_iload_n hx hb dX11_canBeDialect_137 rfl (lv_at hl 1 rfl) ?_
        refine lv_bipush (v := 35) hx hb dX11_canBeDialect_138 (by decide) ?_
        refine lv_icmp_eq (tgt := 155) hx hb dX11_canBeDialect_140 (by decide) (fun c_16 => ?_) (fun c_16 => ?_)
        · refine lv_iconst (v := 1) hx hb dX11_canBeDialect_155 (by decide) ?_
          refine lv_goto (tgt := 160) hx hb dX11_canBeDialect_156 (by decide) ?_
          exact cr_iret hx hb hr hlk rfl 1 rfl (by first | exact Or.inl (⟨rfl, (by first | assumption | exact Or.inl (by assumption) | exact Or.inr (by assumption) | exact out_ne (by assumption) (by decide) (by decide) | exact canD_out (by assumption) | (simp_all [canD]; done))⟩)) dX11_canBeDialect_160
        · refine lv_iload_n hx hb dX11_canBeDialect_143 rfl (lv_at hl 1 rfl) ?_
          refine lv_bipush (v := 37) hx hb dX11_canBeDialect_144 (by decide) ?_
          refine lv_icmp_eq (tgt := 155) hx hb dX11_canBeDialect_146 (by decide) (fun c_17 => ?_) (fun c_17 => ?_)
          · refine lv_iconst (v := 1) hx hb dX11_canBeDialect_155 (by decide) ?_
            refine lv_goto (tgt := 160) hx hb dX11_canBeDialect_156 (by decide) ?_
            exact cr_iret hx hb hr hlk rfl 1 rfl (by first | exact Or.inl (⟨rfl, (by first | assumption | exact Or.inl (by assumption) | exact Or.inr (by assumption) | exact out_ne (by assumption) (by decide) (by decide) | exact canD_out (by assumption) | (simp_all [canD]; done))⟩)) dX11_canBeDialect_160
          · refine lv_iload_n hx hb dX11_canBeDialect_149 rfl (lv_at hl 1 rfl) ?_
            refine lv_bipush (v := 42) hx hb dX11_canBeDialect_150 (by decide) ?_
            refine lv_icmp_ne (tgt := 159) hx hb dX11_canBeDialect_152 (by decide) (fun c_18 => ?_) (fun c_18 => ?_)
            · refine lv_iconst (v := 0) hx hb dX11_canBeDialect_159 (by decide) ?_
              exact cr_iret hx hb hr hlk rfl 0 rfl (by first | exact Or.inr ((⟨rfl, (by first | assumption | exact Or.inl (by assumption) | exact Or.inr (by assumption) | exact out_ne (by assumption) (by decide) (by decide) | exact canD_out (by assumption) | (simp_all [canD]; done))⟩))) dX11_canBeDialect_160
            · refine lv_iconst (v := 1) hx hb dX11_canBeDialect_155 (by decide) ?_
              refine lv_goto (tgt := 160) hx hb dX11_canBeDialect_156 (by decide) ?_
              exact cr_iret hx hb hr hlk rfl 1 rfl (by first | exact Or.inl (⟨rfl, (by first | assumption | exact Or.inl (by assumption) | exact Or.inr (by assumption) | exact out_ne (by assumption) (by decide) (by decide) | exact canD_out (by assumption) | (simp_all [canD]; done))⟩)) dX11_canBeDialect_160
set_option maxHeartbeats 4000000 in
set_option maxRecDepth 100000 in
theorem c_X11_dialect (l : Launch) (D : va_G) (κ : Nat → ClassId) (x0 : Nat) (n0 : Nat) (t0 : Nat) (f0 : Nat) (r0 : Nat) (w0 : Nat) (k0 : Nat) (n1 : Nat) (n2 : Nat) (n3 : Nat) (n4 : Nat) (n5 : Nat) (za : Int32) (zb : Int32) : Ct l yX11_dialect (wl yX11_dialect cX11_dialect 3 (some .boolean)) { frames := 1, cells := 0, slots := 0, locals := 21 } D κ [.ref x0, .int za, .int zb] [(x0, .inr (11, [.ref n0, .ref t0, .ref f0, .ref r0, .ref w0, .ref k0, .int 0])), (n0, .inr (6, [.ref n1, .ref n2, .ref n3, .ref n4, .ref n5, .int 0])), (n1, .inl (κ 0, 6, .inl dial0))] (fun _ => True) (fun r : Int32 => some (.int r)) (fun r : Int32 => (r = 1 ∧ canD za zb) ∨ (r = 0 ∧ ¬ canD za zb)) (fun r : Int32 => []) (fun _ _ => True) := by
  refine ct_of (by decide +kernel) (Nat.le_of_ble_eq_true rfl) ?_
  intro p e s m args below meth c A ls hx hb hr hml hts hown hlk hin hKK hK hA hP hD hS hI hl
  have hS : va_S A s.heap s.heap [] := hS
  have hFX : FX p s m args c cX11_dialect 3 RX11 := ⟨hx, hb, hml, hown, hts⟩
  have hl : lv_has ls 3 [(0, .ref x0), (1, .int za), (2, .int zb)] := hl
  refine lv_iload_n hx hb dX11_dialect_0 rfl (lv_at hl 1 rfl) ?_
  refine lv_iload_n hx hb dX11_dialect_1 rfl (lv_at hl 2 rfl) ?_
  refine cr_S (As := [.int za, .int zb]) (rest := []) hFX hKK (c_X11_canBeDialect l D κ za zb) 2 gS_X11_59 hdS_X11_canBeDialect rfl rfl ⟨Nat.le_of_ble_eq_true rfl, Nat.le_of_ble_eq_true rfl⟩ rfl rfl (Nat.le_of_ble_eq_true rfl) dX11_dialect_2 ⟨Nat.le_of_ble_eq_true rfl, Nat.le_of_ble_eq_true rfl⟩ hl.1 (hP.sub [] rfl) (fun r_1 hp_2 => ?_)
  have hp_2 : (r_1 = 1 ∧ canD za zb) ∨ (r_1 = 0 ∧ ¬ canD za zb) := hp_2
  rcases hp_2 with ⟨rfl, a_3⟩ | ⟨rfl, a_4⟩
  · refine W.eq (g2 := F0 m 5 ls [.int 1]) rfl ?_
    refine lv_if_ne (tgt := 10) hx hb dX11_dialect_5 (by decide) (fun c_5 => ?_) (fun c_5 => absurd c_5 (by decide))
    refine lv_aload_n hx hb dX11_dialect_10 rfl (lv_at hl 0 rfl) ?_
    refine va_get (D := D) (ci := 11) (v := .ref n0) (C := RX11) (T := TX11) (N := 7) hx hb hts inlX11 hown hK hP 0 rfl rfl 0 (by decide) (hts _ mw_15) (fun _ h9 => h9) rfl dX11_dialect_11 ?_
    refine va_get (D := D) (ci := 6) (v := .ref n1) (C := RX6) (T := TX6) (N := 6) hx hb hts inlX6 hown hK hP 1 rfl rfl 0 (by decide) (hts _ mw_27) (fun _ h9 => h9) rfl dX11_dialect_14 ?_
    refine lv_iload_n hx hb dX11_dialect_17 rfl (lv_at hl 1 rfl) ?_
    refine lv_iload_n hx hb dX11_dialect_18 rfl (lv_at hl 2 rfl) ?_
    refine va_iast hx hb hK hP hD hS 2 0 rfl rfl (i := za) (x := zb) (canD_in (by assumption)) dX11_dialect_19 (fun H locs hP hD hS => ?_)
    have hP : va_P D vwCl [(x0, .inr (11, [.ref n0, .ref t0, .ref f0, .ref r0, .ref w0, .ref k0, .int 0])), (n0, .inr (6, [.ref n1, .ref n2, .ref n3, .ref n4, .ref n5, .int 0])), (n1, .inl (κ 0, 6, .inl (upd dial0 za.toNatClampNeg zb)))] H := hP
    have hD : va_D A [(x0, .inr (11, [.ref n0, .ref t0, .ref f0, .ref r0, .ref w0, .ref k0, .int 0])), (n0, .inr (6, [.ref n1, .ref n2, .ref n3, .ref n4, .ref n5, .int 0])), (n1, .inl (κ 0, 6, .inl (upd dial0 za.toNatClampNeg zb)))] := hD
    refine lv_iconst (v := 1) hx hb dX11_dialect_20 (by decide) ?_
    exact ct_iret hx hb hr hlk rfl hS hP hD 1 rfl (by first | exact Or.inl (⟨rfl, (by first | assumption | exact Or.inl (by assumption) | exact Or.inr (by assumption) | exact out_ne (by assumption) (by decide) (by decide) | (simp_all; done))⟩)) [] rfl (by decide) trivial (Nat.le_of_ble_eq_true rfl) (Nat.le_of_ble_eq_true rfl) dX11_dialect_21
  · refine W.eq (g2 := F0 m 5 ls [.int 0]) rfl ?_
    refine lv_if_ne (tgt := 10) hx hb dX11_dialect_5 (by decide) (fun c_6 => absurd (by decide) c_6) (fun c_6 => ?_)
    refine lv_iconst (v := 0) hx hb dX11_dialect_8 (by decide) ?_
    exact ct_iret hx hb hr hlk rfl hS hP hD 0 rfl (by first | exact Or.inr ((⟨rfl, (by first | assumption | exact Or.inl (by assumption) | exact Or.inr (by assumption) | exact out_ne (by assumption) (by decide) (by decide) | (simp_all; done))⟩))) [] rfl (by decide) trivial (Nat.le_of_ble_eq_true rfl) (Nat.le_of_ble_eq_true rfl) dX11_dialect_9
set_option maxHeartbeats 4000000 in
set_option maxRecDepth 100000 in
theorem c_X6_copyFrom (l : Launch) (D : va_G) (κ : Nat → ClassId) (k0 : Nat) (k1 : Nat) (k2 : Nat) (k3 : Nat) (k4 : Nat) (k5 : Nat) (n0 : Nat) (n1 : Nat) (n2 : Nat) (n3 : Nat) (n4 : Nat) (n5 : Nat) : Ct l yX6_copyFrom (wl yX6_copyFrom cX6_copyFrom 3 none) { frames := 1, cells := 0, slots := 0, locals := 18 } D κ [.ref k0, .ref n0] [(k0, .inr (6, [.ref k1, .ref k2, .ref k3, .ref k4, .ref k5, .int 0])), (k1, .inl (κ 0, 6, .inl dial0)), (k2, .inl (κ 4, 3, .inr (.inr (.inr (.inr (fun _ => none)))))), (k3, .inl (κ 5, 3, .inr (.inr (.inr (.inr (fun _ => none)))))), (k4, .inl (κ 0, 6, .inl (fun _ => 0))), (k5, .inl (κ 4, 6, .inr (.inr (.inr (.inr (fun _ => none)))))), (n0, .inr (6, [.ref n1, .ref n2, .ref n3, .ref n4, .ref n5, .int 0])), (n1, .inl (κ 0, 6, .inl dial0)), (n2, .inl (κ 4, 3, .inr (.inr (.inr (.inr (fun _ => none)))))), (n3, .inl (κ 5, 3, .inr (.inr (.inr (.inr (fun _ => none)))))), (n4, .inl (κ 0, 6, .inl (fun _ => 0))), (n5, .inl (κ 4, 6, .inr (.inr (.inr (.inr (fun _ => none))))))] (fun _ => True) (fun _ : Unit => none) (fun _ : Unit => True) (fun _ : Unit => []) (fun _ _ => True) := by
  refine ct_of (by decide +kernel) (Nat.le_of_ble_eq_true rfl) ?_
  intro p e s m args below meth c A ls hx hb hr hml hts hown hlk hin hKK hK hA hP hD hS hI hl
  have hS : va_S A s.heap s.heap [] := hS
  have hFX : FX p s m args c cX6_copyFrom 3 RX6 := ⟨hx, hb, hml, hown, hts⟩
  have hl : lv_has ls 3 [(0, .ref k0), (1, .ref n0)] := hl
  refine lv_aload_n hx hb dX6_copyFrom_0 rfl (lv_at hl 1 rfl) ?_
  refine va_get (D := D) (ci := 6) (v := .ref n1) (C := RX6) (T := TX6) (N := 6) hx hb hts inlX6 hown hK hP 6 rfl rfl 0 (by decide) (hts _ mw_40) (fun _ h9 => h9) rfl dX6_copyFrom_1 ?_
  refine lv_iconst (v := 0) hx hb dX6_copyFrom_4 (by decide) ?_
  refine lv_aload_n hx hb dX6_copyFrom_5 rfl (lv_at hl 0 rfl) ?_
  refine va_get (D := D) (ci := 6) (v := .ref k1) (C := RX6) (T := TX6) (N := 6) hx hb hts inlX6 hown hK hP 0 rfl rfl 0 (by decide) (hts _ mw_40) (fun _ h9 => h9) rfl dX6_copyFrom_6 ?_
  refine lv_iconst (v := 0) hx hb dX6_copyFrom_9 (by decide) ?_
  refine lv_bipush (v := 6) hx hb dX6_copyFrom_10 (by decide) ?_
  refine va_copyi hx hb (hml.trans hl.1.symm) hown (hts _ mw_1478) (hts _ mw_321) (hts _ mw_322) (hts _ mw_323) hK hP hD hS 7 1 0 0 rfl rfl rfl rfl rfl (sp := 0) (dp := 0) (n := 6) (by decide) (by decide) (by decide) (by decide) (by decide) (fun _ _ => rfl) (Nat.le_of_ble_eq_true rfl) (Nat.le_of_ble_eq_true rfl) dX6_copyFrom_12 (fun H locs hP hD hS => ?_)
  have hP : va_P D vwCl [(k0, .inr (6, [.ref k1, .ref k2, .ref k3, .ref k4, .ref k5, .int 0])), (k1, .inl (κ 0, 6, .inl (va_cpy dial0 dial0 0 0 6))), (k2, .inl (κ 4, 3, .inr (.inr (.inr (.inr (fun _ => none)))))), (k3, .inl (κ 5, 3, .inr (.inr (.inr (.inr (fun _ => none)))))), (k4, .inl (κ 0, 6, .inl (fun _ => 0))), (k5, .inl (κ 4, 6, .inr (.inr (.inr (.inr (fun _ => none)))))), (n0, .inr (6, [.ref n1, .ref n2, .ref n3, .ref n4, .ref n5, .int 0])), (n1, .inl (κ 0, 6, .inl dial0)), (n2, .inl (κ 4, 3, .inr (.inr (.inr (.inr (fun _ => none)))))), (n3, .inl (κ 5, 3, .inr (.inr (.inr (.inr (fun _ => none)))))), (n4, .inl (κ 0, 6, .inl (fun _ => 0))), (n5, .inl (κ 4, 6, .inr (.inr (.inr (.inr (fun _ => none))))))] H := hP
  have hD : va_D A [(k0, .inr (6, [.ref k1, .ref k2, .ref k3, .ref k4, .ref k5, .int 0])), (k1, .inl (κ 0, 6, .inl (va_cpy dial0 dial0 0 0 6))), (k2, .inl (κ 4, 3, .inr (.inr (.inr (.inr (fun _ => none)))))), (k3, .inl (κ 5, 3, .inr (.inr (.inr (.inr (fun _ => none)))))), (k4, .inl (κ 0, 6, .inl (fun _ => 0))), (k5, .inl (κ 4, 6, .inr (.inr (.inr (.inr (fun _ => none)))))), (n0, .inr (6, [.ref n1, .ref n2, .ref n3, .ref n4, .ref n5, .int 0])), (n1, .inl (κ 0, 6, .inl dial0)), (n2, .inl (κ 4, 3, .inr (.inr (.inr (.inr (fun _ => none)))))), (n3, .inl (κ 5, 3, .inr (.inr (.inr (.inr (fun _ => none)))))), (n4, .inl (κ 0, 6, .inl (fun _ => 0))), (n5, .inl (κ 4, 6, .inr (.inr (.inr (.inr (fun _ => none))))))] := hD
  refine lv_iconst (v := 0) hx hb dX6_copyFrom_15 (by decide) ?_
  refine lv_istore_n (lv' := [(2, .int 0), (0, .ref k0), (1, .ref n0)]) hx hb dX6_copyFrom_16 rfl hl (by decide) rfl (fun ls hl => ?_)
  refine lv_iload_n hx hb dX6_copyFrom_17 rfl (lv_at hl 0 rfl) ?_
  refine lv_iconst (v := 3) hx hb dX6_copyFrom_18 (by decide) ?_
  refine lv_icmp_ge (tgt := 52) hx hb dX6_copyFrom_19 (by decide) (fun c_1 => absurd c_1 (by decide)) (fun c_1 => ?_)
  refine lv_aload_n hx hb dX6_copyFrom_22 rfl (lv_at hl 1 rfl) ?_
  refine va_get (D := D) (ci := 6) (v := .ref k2) (C := RX6) (T := TX6) (N := 6) hx hb hts inlX6 hown hK hP 0 rfl rfl 1 (by decide) (hts _ mw_42) (fun _ h9 => h9) rfl dX6_copyFrom_23 ?_
  refine lv_iload_n hx hb dX6_copyFrom_26 rfl (lv_at hl 0 rfl) ?_
  refine lv_aload_n hx hb dX6_copyFrom_27 rfl (lv_at hl 2 rfl) ?_
  refine va_get (D := D) (ci := 6) (v := .ref n2) (C := RX6) (T := TX6) (N := 6) hx hb hts inlX6 hown hK hP 6 rfl rfl 1 (by decide) (hts _ mw_42) (fun _ h9 => h9) rfl dX6_copyFrom_28 ?_
  refine lv_iload_n hx hb dX6_copyFrom_31 rfl (lv_at hl 0 rfl) ?_
  refine va_aldq hx hb hK hP 8 4 rfl rfl (i := 0) (vp_k (by decide)) dX6_copyFrom_32 ?_
  refine kv (v := .null) rfl ?_
  refine va_astqN hx hb hK hP hD hS 2 4 rfl rfl (i := 0) (vp_k (by decide)) dX6_copyFrom_33 (fun H locs hP hD hS => ?_)
  have hP : va_P D vwCl [(k0, .inr (6, [.ref k1, .ref k2, .ref k3, .ref k4, .ref k5, .int 0])), (k1, .inl (κ 0, 6, .inl (va_cpy dial0 dial0 0 0 6))), (k2, .inl (κ 4, 3, .inr (.inr (.inr (.inr (va_up (fun _ => none) 0 none)))))), (k3, .inl (κ 5, 3, .inr (.inr (.inr (.inr (fun _ => none)))))), (k4, .inl (κ 0, 6, .inl (fun _ => 0))), (k5, .inl (κ 4, 6, .inr (.inr (.inr (.inr (fun _ => none)))))), (n0, .inr (6, [.ref n1, .ref n2, .ref n3, .ref n4, .ref n5, .int 0])), (n1, .inl (κ 0, 6, .inl dial0)), (n2, .inl (κ 4, 3, .inr (.inr (.inr (.inr (fun _ => none)))))), (n3, .inl (κ 5, 3, .inr (.inr (.inr (.inr (fun _ => none)))))), (n4, .inl (κ 0, 6, .inl (fun _ => 0))), (n5, .inl (κ 4, 6, .inr (.inr (.inr (.inr (fun _ => none))))))] H := hP
  have hD : va_D A [(k0, .inr (6, [.ref k1, .ref k2, .ref k3, .ref k4, .ref k5, .int 0])), (k1, .inl (κ 0, 6, .inl (va_cpy dial0 dial0 0 0 6))), (k2, .inl (κ 4, 3, .inr (.inr (.inr (.inr (va_up (fun _ => none) 0 none)))))), (k3, .inl (κ 5, 3, .inr (.inr (.inr (.inr (fun _ => none)))))), (k4, .inl (κ 0, 6, .inl (fun _ => 0))), (k5, .inl (κ 4, 6, .inr (.inr (.inr (.inr (fun _ => none)))))), (n0, .inr (6, [.ref n1, .ref n2, .ref n3, .ref n4, .ref n5, .int 0])), (n1, .inl (κ 0, 6, .inl dial0)), (n2, .inl (κ 4, 3, .inr (.inr (.inr (.inr (fun _ => none)))))), (n3, .inl (κ 5, 3, .inr (.inr (.inr (.inr (fun _ => none)))))), (n4, .inl (κ 0, 6, .inl (fun _ => 0))), (n5, .inl (κ 4, 6, .inr (.inr (.inr (.inr (fun _ => none))))))] := hD
  refine lv_aload_n hx hb dX6_copyFrom_34 rfl (lv_at hl 1 rfl) ?_
  refine va_get (D := D) (ci := 6) (v := .ref k3) (C := RX6) (T := TX6) (N := 6) hx hb hts inlX6 hown hK hP 0 rfl rfl 2 (by decide) (hts _ mw_44) (fun _ h9 => h9) rfl dX6_copyFrom_35 ?_
  refine lv_iload_n hx hb dX6_copyFrom_38 rfl (lv_at hl 0 rfl) ?_
  refine lv_aload_n hx hb dX6_copyFrom_39 rfl (lv_at hl 2 rfl) ?_
  refine va_get (D := D) (ci := 6) (v := .ref n3) (C := RX6) (T := TX6) (N := 6) hx hb hts inlX6 hown hK hP 6 rfl rfl 2 (by decide) (hts _ mw_44) (fun _ h9 => h9) rfl dX6_copyFrom_40 ?_
  refine lv_iload_n hx hb dX6_copyFrom_43 rfl (lv_at hl 0 rfl) ?_
  refine va_aldq hx hb hK hP 9 5 rfl rfl (i := 0) (vp_k (by decide)) dX6_copyFrom_44 ?_
  refine kv (v := .null) rfl ?_
  refine va_astqN hx hb hK hP hD hS 3 5 rfl rfl (i := 0) (vp_k (by decide)) dX6_copyFrom_45 (fun H locs hP hD hS => ?_)
  have hP : va_P D vwCl [(k0, .inr (6, [.ref k1, .ref k2, .ref k3, .ref k4, .ref k5, .int 0])), (k1, .inl (κ 0, 6, .inl (va_cpy dial0 dial0 0 0 6))), (k2, .inl (κ 4, 3, .inr (.inr (.inr (.inr (va_up (fun _ => none) 0 none)))))), (k3, .inl (κ 5, 3, .inr (.inr (.inr (.inr (va_up (fun _ => none) 0 none)))))), (k4, .inl (κ 0, 6, .inl (fun _ => 0))), (k5, .inl (κ 4, 6, .inr (.inr (.inr (.inr (fun _ => none)))))), (n0, .inr (6, [.ref n1, .ref n2, .ref n3, .ref n4, .ref n5, .int 0])), (n1, .inl (κ 0, 6, .inl dial0)), (n2, .inl (κ 4, 3, .inr (.inr (.inr (.inr (fun _ => none)))))), (n3, .inl (κ 5, 3, .inr (.inr (.inr (.inr (fun _ => none)))))), (n4, .inl (κ 0, 6, .inl (fun _ => 0))), (n5, .inl (κ 4, 6, .inr (.inr (.inr (.inr (fun _ => none))))))] H := hP
  have hD : va_D A [(k0, .inr (6, [.ref k1, .ref k2, .ref k3, .ref k4, .ref k5, .int 0])), (k1, .inl (κ 0, 6, .inl (va_cpy dial0 dial0 0 0 6))), (k2, .inl (κ 4, 3, .inr (.inr (.inr (.inr (va_up (fun _ => none) 0 none)))))), (k3, .inl (κ 5, 3, .inr (.inr (.inr (.inr (va_up (fun _ => none) 0 none)))))), (k4, .inl (κ 0, 6, .inl (fun _ => 0))), (k5, .inl (κ 4, 6, .inr (.inr (.inr (.inr (fun _ => none)))))), (n0, .inr (6, [.ref n1, .ref n2, .ref n3, .ref n4, .ref n5, .int 0])), (n1, .inl (κ 0, 6, .inl dial0)), (n2, .inl (κ 4, 3, .inr (.inr (.inr (.inr (fun _ => none)))))), (n3, .inl (κ 5, 3, .inr (.inr (.inr (.inr (fun _ => none)))))), (n4, .inl (κ 0, 6, .inl (fun _ => 0))), (n5, .inl (κ 4, 6, .inr (.inr (.inr (.inr (fun _ => none))))))] := hD
  refine lv_iinc (v := 1) (lv' := [(2, .int 1), (0, .ref k0), (1, .ref n0)]) hx hb dX6_copyFrom_46 hl (k := 0) rfl (by decide) (by decide) rfl (fun ls hl => ?_)
  refine lv_goto (tgt := 17) hx hb dX6_copyFrom_49 (by decide) ?_
  refine lv_iload_n hx hb dX6_copyFrom_17 rfl (lv_at hl 0 rfl) ?_
  refine lv_iconst (v := 3) hx hb dX6_copyFrom_18 (by decide) ?_
  refine lv_icmp_ge (tgt := 52) hx hb dX6_copyFrom_19 (by decide) (fun c_2 => absurd c_2 (by decide)) (fun c_2 => ?_)
  refine lv_aload_n hx hb dX6_copyFrom_22 rfl (lv_at hl 1 rfl) ?_
  refine va_get (D := D) (ci := 6) (v := .ref k2) (C := RX6) (T := TX6) (N := 6) hx hb hts inlX6 hown hK hP 0 rfl rfl 1 (by decide) (hts _ mw_42) (fun _ h9 => h9) rfl dX6_copyFrom_23 ?_
  refine lv_iload_n hx hb dX6_copyFrom_26 rfl (lv_at hl 0 rfl) ?_
  refine lv_aload_n hx hb dX6_copyFrom_27 rfl (lv_at hl 2 rfl) ?_
  refine va_get (D := D) (ci := 6) (v := .ref n2) (C := RX6) (T := TX6) (N := 6) hx hb hts inlX6 hown hK hP 6 rfl rfl 1 (by decide) (hts _ mw_42) (fun _ h9 => h9) rfl dX6_copyFrom_28 ?_
  refine lv_iload_n hx hb dX6_copyFrom_31 rfl (lv_at hl 0 rfl) ?_
  refine va_aldq hx hb hK hP 8 4 rfl rfl (i := 1) (vp_k (by decide)) dX6_copyFrom_32 ?_
  refine kv (v := .null) rfl ?_
  refine va_astqN hx hb hK hP hD hS 2 4 rfl rfl (i := 1) (vp_k (by decide)) dX6_copyFrom_33 (fun H locs hP hD hS => ?_)
  have hP : va_P D vwCl [(k0, .inr (6, [.ref k1, .ref k2, .ref k3, .ref k4, .ref k5, .int 0])), (k1, .inl (κ 0, 6, .inl (va_cpy dial0 dial0 0 0 6))), (k2, .inl (κ 4, 3, .inr (.inr (.inr (.inr (va_up (va_up (fun _ => none) 0 none) 1 none)))))), (k3, .inl (κ 5, 3, .inr (.inr (.inr (.inr (va_up (fun _ => none) 0 none)))))), (k4, .inl (κ 0, 6, .inl (fun _ => 0))), (k5, .inl (κ 4, 6, .inr (.inr (.inr (.inr (fun _ => none)))))), (n0, .inr (6, [.ref n1, .ref n2, .ref n3, .ref n4, .ref n5, .int 0])), (n1, .inl (κ 0, 6, .inl dial0)), (n2, .inl (κ 4, 3, .inr (.inr (.inr (.inr (fun _ => none)))))), (n3, .inl (κ 5, 3, .inr (.inr (.inr (.inr (fun _ => none)))))), (n4, .inl (κ 0, 6, .inl (fun _ => 0))), (n5, .inl (κ 4, 6, .inr (.inr (.inr (.inr (fun _ => none))))))] H := hP
  have hD : va_D A [(k0, .inr (6, [.ref k1, .ref k2, .ref k3, .ref k4, .ref k5, .int 0])), (k1, .inl (κ 0, 6, .inl (va_cpy dial0 dial0 0 0 6))), (k2, .inl (κ 4, 3, .inr (.inr (.inr (.inr (va_up (va_up (fun _ => none) 0 none) 1 none)))))), (k3, .inl (κ 5, 3, .inr (.inr (.inr (.inr (va_up (fun _ => none) 0 none)))))), (k4, .inl (κ 0, 6, .inl (fun _ => 0))), (k5, .inl (κ 4, 6, .inr (.inr (.inr (.inr (fun _ => none)))))), (n0, .inr (6, [.ref n1, .ref n2, .ref n3, .ref n4, .ref n5, .int 0])), (n1, .inl (κ 0, 6, .inl dial0)), (n2, .inl (κ 4, 3, .inr (.inr (.inr (.inr (fun _ => none)))))), (n3, .inl (κ 5, 3, .inr (.inr (.inr (.inr (fun _ => none)))))), (n4, .inl (κ 0, 6, .inl (fun _ => 0))), (n5, .inl (κ 4, 6, .inr (.inr (.inr (.inr (fun _ => none))))))] := hD
  refine lv_aload_n hx hb dX6_copyFrom_34 rfl (lv_at hl 1 rfl) ?_
  refine va_get (D := D) (ci := 6) (v := .ref k3) (C := RX6) (T := TX6) (N := 6) hx hb hts inlX6 hown hK hP 0 rfl rfl 2 (by decide) (hts _ mw_44) (fun _ h9 => h9) rfl dX6_copyFrom_35 ?_
  refine lv_iload_n hx hb dX6_copyFrom_38 rfl (lv_at hl 0 rfl) ?_
  refine lv_aload_n hx hb dX6_copyFrom_39 rfl (lv_at hl 2 rfl) ?_
  refine va_get (D := D) (ci := 6) (v := .ref n3) (C := RX6) (T := TX6) (N := 6) hx hb hts inlX6 hown hK hP 6 rfl rfl 2 (by decide) (hts _ mw_44) (fun _ h9 => h9) rfl dX6_copyFrom_40 ?_
  refine lv_iload_n hx hb dX6_copyFrom_43 rfl (lv_at hl 0 rfl) ?_
  refine va_aldq hx hb hK hP 9 5 rfl rfl (i := 1) (vp_k (by decide)) dX6_copyFrom_44 ?_
  refine kv (v := .null) rfl ?_
  refine va_astqN hx hb hK hP hD hS 3 5 rfl rfl (i := 1) (vp_k (by decide)) dX6_copyFrom_45 (fun H locs hP hD hS => ?_)
  have hP : va_P D vwCl [(k0, .inr (6, [.ref k1, .ref k2, .ref k3, .ref k4, .ref k5, .int 0])), (k1, .inl (κ 0, 6, .inl (va_cpy dial0 dial0 0 0 6))), (k2, .inl (κ 4, 3, .inr (.inr (.inr (.inr (va_up (va_up (fun _ => none) 0 none) 1 none)))))), (k3, .inl (κ 5, 3, .inr (.inr (.inr (.inr (va_up (va_up (fun _ => none) 0 none) 1 none)))))), (k4, .inl (κ 0, 6, .inl (fun _ => 0))), (k5, .inl (κ 4, 6, .inr (.inr (.inr (.inr (fun _ => none)))))), (n0, .inr (6, [.ref n1, .ref n2, .ref n3, .ref n4, .ref n5, .int 0])), (n1, .inl (κ 0, 6, .inl dial0)), (n2, .inl (κ 4, 3, .inr (.inr (.inr (.inr (fun _ => none)))))), (n3, .inl (κ 5, 3, .inr (.inr (.inr (.inr (fun _ => none)))))), (n4, .inl (κ 0, 6, .inl (fun _ => 0))), (n5, .inl (κ 4, 6, .inr (.inr (.inr (.inr (fun _ => none))))))] H := hP
  have hD : va_D A [(k0, .inr (6, [.ref k1, .ref k2, .ref k3, .ref k4, .ref k5, .int 0])), (k1, .inl (κ 0, 6, .inl (va_cpy dial0 dial0 0 0 6))), (k2, .inl (κ 4, 3, .inr (.inr (.inr (.inr (va_up (va_up (fun _ => none) 0 none) 1 none)))))), (k3, .inl (κ 5, 3, .inr (.inr (.inr (.inr (va_up (va_up (fun _ => none) 0 none) 1 none)))))), (k4, .inl (κ 0, 6, .inl (fun _ => 0))), (k5, .inl (κ 4, 6, .inr (.inr (.inr (.inr (fun _ => none)))))), (n0, .inr (6, [.ref n1, .ref n2, .ref n3, .ref n4, .ref n5, .int 0])), (n1, .inl (κ 0, 6, .inl dial0)), (n2, .inl (κ 4, 3, .inr (.inr (.inr (.inr (fun _ => none)))))), (n3, .inl (κ 5, 3, .inr (.inr (.inr (.inr (fun _ => none)))))), (n4, .inl (κ 0, 6, .inl (fun _ => 0))), (n5, .inl (κ 4, 6, .inr (.inr (.inr (.inr (fun _ => none))))))] := hD
  refine lv_iinc (v := 2) (lv' := [(2, .int 2), (0, .ref k0), (1, .ref n0)]) hx hb dX6_copyFrom_46 hl (k := 0) rfl (by decide) (by decide) rfl (fun ls hl => ?_)
  refine lv_goto (tgt := 17) hx hb dX6_copyFrom_49 (by decide) ?_
  refine lv_iload_n hx hb dX6_copyFrom_17 rfl (lv_at hl 0 rfl) ?_
  refine lv_iconst (v := 3) hx hb dX6_copyFrom_18 (by decide) ?_
  refine lv_icmp_ge (tgt := 52) hx hb dX6_copyFrom_19 (by decide) (fun c_3 => absurd c_3 (by decide)) (fun c_3 => ?_)
  refine lv_aload_n hx hb dX6_copyFrom_22 rfl (lv_at hl 1 rfl) ?_
  refine va_get (D := D) (ci := 6) (v := .ref k2) (C := RX6) (T := TX6) (N := 6) hx hb hts inlX6 hown hK hP 0 rfl rfl 1 (by decide) (hts _ mw_42) (fun _ h9 => h9) rfl dX6_copyFrom_23 ?_
  refine lv_iload_n hx hb dX6_copyFrom_26 rfl (lv_at hl 0 rfl) ?_
  refine lv_aload_n hx hb dX6_copyFrom_27 rfl (lv_at hl 2 rfl) ?_
  refine va_get (D := D) (ci := 6) (v := .ref n2) (C := RX6) (T := TX6) (N := 6) hx hb hts inlX6 hown hK hP 6 rfl rfl 1 (by decide) (hts _ mw_42) (fun _ h9 => h9) rfl dX6_copyFrom_28 ?_
  refine lv_iload_n hx hb dX6_copyFrom_31 rfl (lv_at hl 0 rfl) ?_
  refine va_aldq hx hb hK hP 8 4 rfl rfl (i := 2) (vp_k (by decide)) dX6_copyFrom_32 ?_
  refine kv (v := .null) rfl ?_
  refine va_astqN hx hb hK hP hD hS 2 4 rfl rfl (i := 2) (vp_k (by decide)) dX6_copyFrom_33 (fun H locs hP hD hS => ?_)
  have hP : va_P D vwCl [(k0, .inr (6, [.ref k1, .ref k2, .ref k3, .ref k4, .ref k5, .int 0])), (k1, .inl (κ 0, 6, .inl (va_cpy dial0 dial0 0 0 6))), (k2, .inl (κ 4, 3, .inr (.inr (.inr (.inr (va_up (va_up (va_up (fun _ => none) 0 none) 1 none) 2 none)))))), (k3, .inl (κ 5, 3, .inr (.inr (.inr (.inr (va_up (va_up (fun _ => none) 0 none) 1 none)))))), (k4, .inl (κ 0, 6, .inl (fun _ => 0))), (k5, .inl (κ 4, 6, .inr (.inr (.inr (.inr (fun _ => none)))))), (n0, .inr (6, [.ref n1, .ref n2, .ref n3, .ref n4, .ref n5, .int 0])), (n1, .inl (κ 0, 6, .inl dial0)), (n2, .inl (κ 4, 3, .inr (.inr (.inr (.inr (fun _ => none)))))), (n3, .inl (κ 5, 3, .inr (.inr (.inr (.inr (fun _ => none)))))), (n4, .inl (κ 0, 6, .inl (fun _ => 0))), (n5, .inl (κ 4, 6, .inr (.inr (.inr (.inr (fun _ => none))))))] H := hP
  have hD : va_D A [(k0, .inr (6, [.ref k1, .ref k2, .ref k3, .ref k4, .ref k5, .int 0])), (k1, .inl (κ 0, 6, .inl (va_cpy dial0 dial0 0 0 6))), (k2, .inl (κ 4, 3, .inr (.inr (.inr (.inr (va_up (va_up (va_up (fun _ => none) 0 none) 1 none) 2 none)))))), (k3, .inl (κ 5, 3, .inr (.inr (.inr (.inr (va_up (va_up (fun _ => none) 0 none) 1 none)))))), (k4, .inl (κ 0, 6, .inl (fun _ => 0))), (k5, .inl (κ 4, 6, .inr (.inr (.inr (.inr (fun _ => none)))))), (n0, .inr (6, [.ref n1, .ref n2, .ref n3, .ref n4, .ref n5, .int 0])), (n1, .inl (κ 0, 6, .inl dial0)), (n2, .inl (κ 4, 3, .inr (.inr (.inr (.inr (fun _ => none)))))), (n3, .inl (κ 5, 3, .inr (.inr (.inr (.inr (fun _ => none)))))), (n4, .inl (κ 0, 6, .inl (fun _ => 0))), (n5, .inl (κ 4, 6, .inr (.inr (.inr (.inr (fun _ => none))))))] := hD
  refine lv_aload_n hx hb dX6_copyFrom_34 rfl (lv_at hl 1 rfl) ?_
  refine va_get (D := D) (ci := 6) (v := .ref k3) (C := RX6) (T := TX6) (N := 6) hx hb hts inlX6 hown hK hP 0 rfl rfl 2 (by decide) (hts _ mw_44) (fun _ h9 => h9) rfl dX6_copyFrom_35 ?_
  refine lv_iload_n hx hb dX6_copyFrom_38 rfl (lv_at hl 0 rfl) ?_
  refine lv_aload_n hx hb dX6_copyFrom_39 rfl (lv_at hl 2 rfl) ?_
  refine va_get (D := D) (ci := 6) (v := .ref n3) (C := RX6) (T := TX6) (N := 6) hx hb hts inlX6 hown hK hP 6 rfl rfl 2 (by decide) (hts _ mw_44) (fun _ h9 => h9) rfl dX6_copyFrom_40 ?_
  refine lv_iload_n hx hb dX6_copyFrom_43 rfl (lv_at hl 0 rfl) ?_
  refine va_aldq hx hb hK hP 9 5 rfl rfl (i := 2) (vp_k (by decide)) dX6_copyFrom_44 ?_
  refine kv (v := .null) rfl ?_
  refine va_astqN hx hb hK hP hD hS 3 5 rfl rfl (i := 2) (vp_k (by decide)) dX6_copyFrom_45 (fun H locs hP hD hS => ?_)
  have hP : va_P D vwCl [(k0, .inr (6, [.ref k1, .ref k2, .ref k3, .ref k4, .ref k5, .int 0])), (k1, .inl (κ 0, 6, .inl (va_cpy dial0 dial0 0 0 6))), (k2, .inl (κ 4, 3, .inr (.inr (.inr (.inr (va_up (va_up (va_up (fun _ => none) 0 none) 1 none) 2 none)))))), (k3, .inl (κ 5, 3, .inr (.inr (.inr (.inr (va_up (va_up (va_up (fun _ => none) 0 none) 1 none) 2 none)))))), (k4, .inl (κ 0, 6, .inl (fun _ => 0))), (k5, .inl (κ 4, 6, .inr (.inr (.inr (.inr (fun _ => none)))))), (n0, .inr (6, [.ref n1, .ref n2, .ref n3, .ref n4, .ref n5, .int 0])), (n1, .inl (κ 0, 6, .inl dial0)), (n2, .inl (κ 4, 3, .inr (.inr (.inr (.inr (fun _ => none)))))), (n3, .inl (κ 5, 3, .inr (.inr (.inr (.inr (fun _ => none)))))), (n4, .inl (κ 0, 6, .inl (fun _ => 0))), (n5, .inl (κ 4, 6, .inr (.inr (.inr (.inr (fun _ => none))))))] H := hP
  have hD : va_D A [(k0, .inr (6, [.ref k1, .ref k2, .ref k3, .ref k4, .ref k5, .int 0])), (k1, .inl (κ 0, 6, .inl (va_cpy dial0 dial0 0 0 6))), (k2, .inl (κ 4, 3, .inr (.inr (.inr (.inr (va_up (va_up (va_up (fun _ => none) 0 none) 1 none) 2 none)))))), (k3, .inl (κ 5, 3, .inr (.inr (.inr (.inr (va_up (va_up (va_up (fun _ => none) 0 none) 1 none) 2 none)))))), (k4, .inl (κ 0, 6, .inl (fun _ => 0))), (k5, .inl (κ 4, 6, .inr (.inr (.inr (.inr (fun _ => none)))))), (n0, .inr (6, [.ref n1, .ref n2, .ref n3, .ref n4, .ref n5, .int 0])), (n1, .inl (κ 0, 6, .inl dial0)), (n2, .inl (κ 4, 3, .inr (.inr (.inr (.inr (fun _ => none)))))), (n3, .inl (κ 5, 3, .inr (.inr (.inr (.inr (fun _ => none)))))), (n4, .inl (κ 0, 6, .inl (fun _ => 0))), (n5, .inl (κ 4, 6, .inr (.inr (.inr (.inr (fun _ => none))))))] := hD
  refine lv_iinc (v := 3) (lv' := [(2, .int 3), (0, .ref k0), (1, .ref n0)]) hx hb dX6_copyFrom_46 hl (k := 0) rfl (by decide) (by decide) rfl (fun ls hl => ?_)
  refine lv_goto (tgt := 17) hx hb dX6_copyFrom_49 (by decide) ?_
  refine lv_iload_n hx hb dX6_copyFrom_17 rfl (lv_at hl 0 rfl) ?_
  refine lv_iconst (v := 3) hx hb dX6_copyFrom_18 (by decide) ?_
  refine lv_icmp_ge (tgt := 52) hx hb dX6_copyFrom_19 (by decide) (fun c_4 => ?_) (fun c_4 => absurd (by decide) c_4)
  refine lv_aload_n hx hb dX6_copyFrom_52 rfl (lv_at hl 1 rfl) ?_
  refine lv_iconst (v := 0) hx hb dX6_copyFrom_53 (by decide) ?_
  refine va_put (D := D) (ci := 6) (v := .int 0) (ty := tyX6 5) (C := RX6) (T := TX6) (N := 6) hx hb hts inlX6 tyX6 tyX6_ok nmX6 hown hK hP hD hS 0 rfl rfl 5 (by decide) (hts _ mw_47) (fun _ h9 => h9) rfl (tyX6_ok 5 (by decide)) rfl rfl (Nat.le_of_ble_eq_true rfl) dX6_copyFrom_54 (fun H locs hP hD hS => ?_)
  have hP : va_P D vwCl [(k0, .inr (6, [.ref k1, .ref k2, .ref k3, .ref k4, .ref k5, .int 0])), (k1, .inl (κ 0, 6, .inl (va_cpy dial0 dial0 0 0 6))), (k2, .inl (κ 4, 3, .inr (.inr (.inr (.inr (va_up (va_up (va_up (fun _ => none) 0 none) 1 none) 2 none)))))), (k3, .inl (κ 5, 3, .inr (.inr (.inr (.inr (va_up (va_up (va_up (fun _ => none) 0 none) 1 none) 2 none)))))), (k4, .inl (κ 0, 6, .inl (fun _ => 0))), (k5, .inl (κ 4, 6, .inr (.inr (.inr (.inr (fun _ => none)))))), (n0, .inr (6, [.ref n1, .ref n2, .ref n3, .ref n4, .ref n5, .int 0])), (n1, .inl (κ 0, 6, .inl dial0)), (n2, .inl (κ 4, 3, .inr (.inr (.inr (.inr (fun _ => none)))))), (n3, .inl (κ 5, 3, .inr (.inr (.inr (.inr (fun _ => none)))))), (n4, .inl (κ 0, 6, .inl (fun _ => 0))), (n5, .inl (κ 4, 6, .inr (.inr (.inr (.inr (fun _ => none))))))] H := hP
  have hD : va_D A [(k0, .inr (6, [.ref k1, .ref k2, .ref k3, .ref k4, .ref k5, .int 0])), (k1, .inl (κ 0, 6, .inl (va_cpy dial0 dial0 0 0 6))), (k2, .inl (κ 4, 3, .inr (.inr (.inr (.inr (va_up (va_up (va_up (fun _ => none) 0 none) 1 none) 2 none)))))), (k3, .inl (κ 5, 3, .inr (.inr (.inr (.inr (va_up (va_up (va_up (fun _ => none) 0 none) 1 none) 2 none)))))), (k4, .inl (κ 0, 6, .inl (fun _ => 0))), (k5, .inl (κ 4, 6, .inr (.inr (.inr (.inr (fun _ => none)))))), (n0, .inr (6, [.ref n1, .ref n2, .ref n3, .ref n4, .ref n5, .int 0])), (n1, .inl (κ 0, 6, .inl dial0)), (n2, .inl (κ 4, 3, .inr (.inr (.inr (.inr (fun _ => none)))))), (n3, .inl (κ 5, 3, .inr (.inr (.inr (.inr (fun _ => none)))))), (n4, .inl (κ 0, 6, .inl (fun _ => 0))), (n5, .inl (κ 4, 6, .inr (.inr (.inr (.inr (fun _ => none))))))] := hD
  exact ct_vret hx hb hr hlk hS hP hD () rfl trivial [] rfl (by decide) trivial (Nat.le_of_ble_eq_true rfl) (Nat.le_of_ble_eq_true rfl) dX6_copyFrom_57
set_option maxHeartbeats 4000000 in
set_option maxRecDepth 100000 in
theorem c_X11_image (l : Launch) (D : va_G) (κ : Nat → ClassId) (x0 : Nat) (n0 : Nat) (t0 : Nat) (f0 : Nat) (r0 : Nat) (w0 : Nat) (k0 : Nat) (n1 : Nat) (n2 : Nat) (n3 : Nat) (n4 : Nat) (n5 : Nat) (k1 : Nat) (k2 : Nat) (k3 : Nat) (k4 : Nat) (k5 : Nat) (za : Int32) : Ct l yX11_image (wl yX11_image cX11_image 2 (some .boolean)) { frames := 2, cells := 0, slots := 0, locals := 40 } D κ [.ref x0, .int za] [(x0, .inr (11, [.ref n0, .ref t0, .ref f0, .ref r0, .ref w0, .ref k0, .int 0])), (n0, .inr (6, [.ref n1, .ref n2, .ref n3, .ref n4, .ref n5, .int 0])), (n1, .inl (κ 0, 6, .inl dial0)), (n2, .inl (κ 4, 3, .inr (.inr (.inr (.inr (fun _ => none)))))), (n3, .inl (κ 5, 3, .inr (.inr (.inr (.inr (fun _ => none)))))), (n4, .inl (κ 0, 6, .inl (fun _ => 0))), (n5, .inl (κ 4, 6, .inr (.inr (.inr (.inr (fun _ => none)))))), (k0, .inr (6, [.ref k1, .ref k2, .ref k3, .ref k4, .ref k5, .int 0])), (k1, .inl (κ 0, 6, .inl dial0)), (k2, .inl (κ 4, 3, .inr (.inr (.inr (.inr (fun _ => none)))))), (k3, .inl (κ 5, 3, .inr (.inr (.inr (.inr (fun _ => none)))))), (k4, .inl (κ 0, 6, .inl (fun _ => 0))), (k5, .inl (κ 4, 6, .inr (.inr (.inr (.inr (fun _ => none))))))] (fun _ => True) (fun r : Int32 => some (.int r)) (fun r : Int32 => (r = 1 ∧ ¬ za = 0) ∨ (r = 0 ∧ za = 0)) (fun r : Int32 => []) (fun _ _ => True) := by
  refine ct_of (by decide +kernel) (Nat.le_of_ble_eq_true rfl) ?_
  intro p e s m args below meth c A ls hx hb hr hml hts hown hlk hin hKK hK hA hP hD hS hI hl
  have hS : va_S A s.heap s.heap [] := hS
  have hFX : FX p s m args c cX11_image 2 RX11 := ⟨hx, hb, hml, hown, hts⟩
  have hl : lv_has ls 2 [(0, .ref x0), (1, .int za)] := hl
  refine lv_iload_n hx hb dX11_image_0 rfl (lv_at hl 1 rfl) ?_
  refine lv_if_eq (tgt := 23) hx hb dX11_image_1 (by decide) (fun c_1 => ?_) (fun c_1 => ?_)
  · refine lv_aload_n hx hb dX11_image_23 rfl (lv_at hl 0 rfl) ?_
    refine va_get (D := D) (ci := 11) (v := .int 0) (C := RX11) (T := TX11) (N := 7) hx hb hts inlX11 hown hK hP 0 rfl rfl 6 (by decide) (hts _ mw_34) (fun _ h9 => h9) rfl dX11_image_24 ?_
    refine lv_if_eq (tgt := 41) hx hb dX11_image_27 (by decide) (fun c_2 => ?_) (fun c_2 => absurd (by decide) c_2)
    refine lv_aload_n hx hb dX11_image_41 rfl (lv_at hl 0 rfl) ?_
    refine va_get (D := D) (ci := 11) (v := .int 0) (C := RX11) (T := TX11) (N := 7) hx hb hts inlX11 hown hK hP 0 rfl rfl 6 (by decide) (hts _ mw_34) (fun _ h9 => h9) rfl dX11_image_42 ?_
    exact ct_iret hx hb hr hlk rfl hS hP hD 0 rfl (by first | exact Or.inr ((⟨rfl, (by first | assumption | exact Or.inl (by assumption) | exact Or.inr (by assumption) | exact out_ne (by assumption) (by decide) (by decide) | (simp_all; done))⟩))) [] rfl (by decide) trivial (Nat.le_of_ble_eq_true rfl) (Nat.le_of_ble_eq_true rfl) dX11_image_45
  · refine lv_aload_n hx hb dX11_image_4 rfl (lv_at hl 0 rfl) ?_
    refine va_get (D := D) (ci := 11) (v := .ref k0) (C := RX11) (T := TX11) (N := 7) hx hb hts inlX11 hown hK hP 0 rfl rfl 5 (by decide) (hts _ mw_33) (fun _ h9 => h9) rfl dX11_image_5 ?_
    refine lv_aload_n hx hb dX11_image_8 rfl (lv_at hl 0 rfl) ?_
    refine va_get (D := D) (ci := 11) (v := .ref n0) (C := RX11) (T := TX11) (N := 7) hx hb hts inlX11 hown hK hP 0 rfl rfl 0 (by decide) (hts _ mw_15) (fun _ h9 => h9) rfl dX11_image_9 ?_
    refine ct_V (wr := [(x0, .inr (11, [.ref n0, .ref t0, .ref f0, .ref r0, .ref w0, .ref k0, .int 0]))]) (As := [.ref n0]) (rest := []) hFX hKK hP hD hS hA (c_X6_copyFrom l D κ k0 k1 k2 k3 k4 k5 n0 n1 n2 n3 n4 n5) 1 gV_X11_356 hdV_X6_copyFrom ⟨Nat.le_of_ble_eq_true rfl, Nat.le_of_ble_eq_true rfl⟩ rfl rfl (Nat.le_of_ble_eq_true rfl) dX11_image_12 ⟨Nat.le_of_ble_eq_true rfl, Nat.le_of_ble_eq_true rfl⟩ hl.1 [7, 8, 9, 10, 11, 12, 1, 2, 3, 4, 5, 6] [0] rfl rfl (by decide) (by decide) (by decide) 7 6 rfl rfl rfl trivial (fun _ H locs hp_3 _ hP hD hS hz_ hk_ => ?_)
    have hP : va_P D vwCl [(x0, .inr (11, [.ref n0, .ref t0, .ref f0, .ref r0, .ref w0, .ref k0, .int 0]))] H := hP
    have hD : va_D A [(x0, .inr (11, [.ref n0, .ref t0, .ref f0, .ref r0, .ref w0, .ref k0, .int 0]))] := hD
    refine W.eq (g2 := F0 m 15 ls []) rfl ?_
    refine lv_aload_n hx hb dX11_image_15 rfl (lv_at hl 0 rfl) ?_
    refine lv_iconst (v := 1) hx hb dX11_image_16 (by decide) ?_
    refine va_put (D := D) (ci := 11) (v := .int 1) (ty := tyX11 6) (C := RX11) (T := TX11) (N := 7) hx hb hts inlX11 tyX11 tyX11_ok nmX11 hown hK hP hD hS 0 rfl rfl 6 (by decide) (hts _ mw_34) (fun _ h9 => h9) rfl (tyX11_ok 6 (by decide)) rfl rfl (Nat.le_of_ble_eq_true rfl) dX11_image_17 (fun H locs hP hD hS => ?_)
    have hP : va_P D vwCl [(x0, .inr (11, [.ref n0, .ref t0, .ref f0, .ref r0, .ref w0, .ref k0, .int 1]))] H := hP
    have hD : va_D A [(x0, .inr (11, [.ref n0, .ref t0, .ref f0, .ref r0, .ref w0, .ref k0, .int 1]))] := hD
    refine lv_goto (tgt := 41) hx hb dX11_image_20 (by decide) ?_
    refine lv_aload_n hx hb dX11_image_41 rfl (lv_at hl 0 rfl) ?_
    refine va_get (D := D) (ci := 11) (v := .int 1) (C := RX11) (T := TX11) (N := 7) hx hb hts inlX11 hown hK hP 0 rfl rfl 6 (by decide) (hts _ mw_34) (fun _ h9 => h9) rfl dX11_image_42 ?_
    exact ct_iret hx hb hr hlk rfl hS hP hD 1 rfl (by first | exact Or.inl (⟨rfl, (by first | assumption | exact Or.inl (by assumption) | exact Or.inr (by assumption) | exact out_ne (by assumption) (by decide) (by decide) | (simp_all; done))⟩)) [] rfl (by decide) trivial (Nat.le_of_ble_eq_true rfl) (Nat.le_of_ble_eq_true rfl) dX11_image_45
set_option maxHeartbeats 4000000 in
set_option maxRecDepth 100000 in
theorem c_X6_tablesThere (l : Launch) (D : va_G) (κ : Nat → ClassId) (n0 : Nat) (n1 : Nat) (n2 : Nat) (n3 : Nat) (n4 : Nat) (n5 : Nat) : Cr l yX6_tablesThere (wl yX6_tablesThere cX6_tablesThere 3 (some .int)) { frames := 0, cells := 0, slots := 0, locals := 0 } D κ [.ref n0] (va_P D vwCl [(n0, .inr (6, [.ref n1, .ref n2, .ref n3, .ref n4, .ref n5, .int 0])), (n2, .inl (κ 4, 3, .inr (.inr (.inr (.inr (fun _ => none))))))]) (fun _ : Unit => some (.int 0)) (fun _ : Unit => True) := by
  refine cr_of (by decide +kernel) (Nat.le_of_ble_eq_true rfl) ?_
  intro p e s m args below meth c ls hx hb hr hml hts hown hlk hKK hK hI hl
  have hP : va_P D vwCl [(n0, .inr (6, [.ref n1, .ref n2, .ref n3, .ref n4, .ref n5, .int 0])), (n2, .inl (κ 4, 3, .inr (.inr (.inr (.inr (fun _ => none))))))] s.heap := hI
  have hFX : FX p s m args c cX6_tablesThere 3 RX6 := ⟨hx, hb, hml, hown, hts⟩
  have hl : lv_has ls 3 [(0, .ref n0)] := hl
  refine lv_iconst (v := 0) hx hb dX6_tablesThere_0 (by decide) ?_
  refine lv_istore_n (lv' := [(1, .int 0), (0, .ref n0)]) hx hb dX6_tablesThere_1 rfl hl (by decide) rfl (fun ls hl => ?_)
  refine lv_iconst (v := 0) hx hb dX6_tablesThere_2 (by decide) ?_
  refine lv_istore_n (lv' := [(2, .int 0), (1, .int 0), (0, .ref n0)]) hx hb dX6_tablesThere_3 rfl hl (by decide) rfl (fun ls hl => ?_)
  refine lv_iload_n hx hb dX6_tablesThere_4 rfl (lv_at hl 0 rfl) ?_
  refine lv_iconst (v := 3) hx hb dX6_tablesThere_5 (by decide) ?_
  refine lv_icmp_ge (tgt := 34) hx hb dX6_tablesThere_6 (by decide) (fun c_1 => absurd c_1 (by decide)) (fun c_1 => ?_)
  refine lv_iload_n hx hb dX6_tablesThere_9 rfl (lv_at hl 1 rfl) ?_
  refine lv_aload_n hx hb dX6_tablesThere_10 rfl (lv_at hl 2 rfl) ?_
  refine va_get (D := D) (ci := 6) (v := .ref n2) (C := RX6) (T := TX6) (N := 6) hx hb hts inlX6 hown hK hP 0 rfl rfl 1 (by decide) (hts _ mw_42) (fun _ h9 => h9) rfl dX6_tablesThere_11 ?_
  refine lv_iload_n hx hb dX6_tablesThere_14 rfl (lv_at hl 0 rfl) ?_
  refine va_aldq hx hb hK hP 1 4 rfl rfl (i := 0) (vp_k (by decide)) dX6_tablesThere_15 ?_
  refine kv (v := .null) rfl ?_
  refine lv_ifnonnullN hx hb dX6_tablesThere_16 ?_
  refine lv_iconst (v := 0) hx hb dX6_tablesThere_19 (by decide) ?_
  refine lv_goto (tgt := 26) hx hb dX6_tablesThere_20 (by decide) ?_
  refine lv_ior hx hb dX6_tablesThere_26 ?_
  refine ki (v := 0) (by decide) ?_
  refine lv_istore_n (lv' := [(1, .int 0), (2, .int 0), (0, .ref n0)]) hx hb dX6_tablesThere_27 rfl hl (by decide) rfl (fun ls hl => ?_)
  refine lv_iinc (v := 1) (lv' := [(2, .int 1), (1, .int 0), (0, .ref n0)]) hx hb dX6_tablesThere_28 hl (k := 1) rfl (by decide) (by decide) rfl (fun ls hl => ?_)
  refine lv_goto (tgt := 4) hx hb dX6_tablesThere_31 (by decide) ?_
  refine lv_iload_n hx hb dX6_tablesThere_4 rfl (lv_at hl 0 rfl) ?_
  refine lv_iconst (v := 3) hx hb dX6_tablesThere_5 (by decide) ?_
  refine lv_icmp_ge (tgt := 34) hx hb dX6_tablesThere_6 (by decide) (fun c_2 => absurd c_2 (by decide)) (fun c_2 => ?_)
  refine lv_iload_n hx hb dX6_tablesThere_9 rfl (lv_at hl 1 rfl) ?_
  refine lv_aload_n hx hb dX6_tablesThere_10 rfl (lv_at hl 2 rfl) ?_
  refine va_get (D := D) (ci := 6) (v := .ref n2) (C := RX6) (T := TX6) (N := 6) hx hb hts inlX6 hown hK hP 0 rfl rfl 1 (by decide) (hts _ mw_42) (fun _ h9 => h9) rfl dX6_tablesThere_11 ?_
  refine lv_iload_n hx hb dX6_tablesThere_14 rfl (lv_at hl 0 rfl) ?_
  refine va_aldq hx hb hK hP 1 4 rfl rfl (i := 1) (vp_k (by decide)) dX6_tablesThere_15 ?_
  refine kv (v := .null) rfl ?_
  refine lv_ifnonnullN hx hb dX6_tablesThere_16 ?_
  refine lv_iconst (v := 0) hx hb dX6_tablesThere_19 (by decide) ?_
  refine lv_goto (tgt := 26) hx hb dX6_tablesThere_20 (by decide) ?_
  refine lv_ior hx hb dX6_tablesThere_26 ?_
  refine ki (v := 0) (by decide) ?_
  refine lv_istore_n (lv' := [(1, .int 0), (2, .int 1), (0, .ref n0)]) hx hb dX6_tablesThere_27 rfl hl (by decide) rfl (fun ls hl => ?_)
  refine lv_iinc (v := 2) (lv' := [(2, .int 2), (1, .int 0), (0, .ref n0)]) hx hb dX6_tablesThere_28 hl (k := 1) rfl (by decide) (by decide) rfl (fun ls hl => ?_)
  refine lv_goto (tgt := 4) hx hb dX6_tablesThere_31 (by decide) ?_
  refine lv_iload_n hx hb dX6_tablesThere_4 rfl (lv_at hl 0 rfl) ?_
  refine lv_iconst (v := 3) hx hb dX6_tablesThere_5 (by decide) ?_
  refine lv_icmp_ge (tgt := 34) hx hb dX6_tablesThere_6 (by decide) (fun c_3 => absurd c_3 (by decide)) (fun c_3 => ?_)
  refine lv_iload_n hx hb dX6_tablesThere_9 rfl (lv_at hl 1 rfl) ?_
  refine lv_aload_n hx hb dX6_tablesThere_10 rfl (lv_at hl 2 rfl) ?_
  refine va_get (D := D) (ci := 6) (v := .ref n2) (C := RX6) (T := TX6) (N := 6) hx hb hts inlX6 hown hK hP 0 rfl rfl 1 (by decide) (hts _ mw_42) (fun _ h9 => h9) rfl dX6_tablesThere_11 ?_
  refine lv_iload_n hx hb dX6_tablesThere_14 rfl (lv_at hl 0 rfl) ?_
  refine va_aldq hx hb hK hP 1 4 rfl rfl (i := 2) (vp_k (by decide)) dX6_tablesThere_15 ?_
  refine kv (v := .null) rfl ?_
  refine lv_ifnonnullN hx hb dX6_tablesThere_16 ?_
  refine lv_iconst (v := 0) hx hb dX6_tablesThere_19 (by decide) ?_
  refine lv_goto (tgt := 26) hx hb dX6_tablesThere_20 (by decide) ?_
  refine lv_ior hx hb dX6_tablesThere_26 ?_
  refine ki (v := 0) (by decide) ?_
  refine lv_istore_n (lv' := [(1, .int 0), (2, .int 2), (0, .ref n0)]) hx hb dX6_tablesThere_27 rfl hl (by decide) rfl (fun ls hl => ?_)
  refine lv_iinc (v := 3) (lv' := [(2, .int 3), (1, .int 0), (0, .ref n0)]) hx hb dX6_tablesThere_28 hl (k := 1) rfl (by decide) (by decide) rfl (fun ls hl => ?_)
  refine lv_goto (tgt := 4) hx hb dX6_tablesThere_31 (by decide) ?_
  refine lv_iload_n hx hb dX6_tablesThere_4 rfl (lv_at hl 0 rfl) ?_
  refine lv_iconst (v := 3) hx hb dX6_tablesThere_5 (by decide) ?_
  refine lv_icmp_ge (tgt := 34) hx hb dX6_tablesThere_6 (by decide) (fun c_4 => ?_) (fun c_4 => absurd (by decide) c_4)
  refine lv_iload_n hx hb dX6_tablesThere_34 rfl (lv_at hl 1 rfl) ?_
  exact cr_iret hx hb hr hlk rfl () rfl trivial dX6_tablesThere_35
set_option maxHeartbeats 4000000 in
set_option maxRecDepth 100000 in
theorem c_X6_countCells (l : Launch) (D : va_G) (κ : Nat → ClassId) (n0 : Nat) (n1 : Nat) (n2 : Nat) (n3 : Nat) (n4 : Nat) (n5 : Nat) : Cr l yX6_countCells (wl yX6_countCells cX6_countCells 4 (some .int)) { frames := 0, cells := 0, slots := 0, locals := 0 } D κ [.ref n0] (va_P D vwCl [(n0, .inr (6, [.ref n1, .ref n2, .ref n3, .ref n4, .ref n5, .int 0])), (n2, .inl (κ 4, 3, .inr (.inr (.inr (.inr (fun _ => none))))))]) (fun _ : Unit => some (.int 0)) (fun _ : Unit => True) := by
  refine cr_of (by decide +kernel) (Nat.le_of_ble_eq_true rfl) ?_
  intro p e s m args below meth c ls hx hb hr hml hts hown hlk hKK hK hI hl
  have hP : va_P D vwCl [(n0, .inr (6, [.ref n1, .ref n2, .ref n3, .ref n4, .ref n5, .int 0])), (n2, .inl (κ 4, 3, .inr (.inr (.inr (.inr (fun _ => none))))))] s.heap := hI
  have hFX : FX p s m args c cX6_countCells 4 RX6 := ⟨hx, hb, hml, hown, hts⟩
  have hl : lv_has ls 4 [(0, .ref n0)] := hl
  refine lv_iconst (v := 0) hx hb dX6_countCells_0 (by decide) ?_
  refine lv_istore_n (lv' := [(1, .int 0), (0, .ref n0)]) hx hb dX6_countCells_1 rfl hl (by decide) rfl (fun ls hl => ?_)
  refine lv_iconst (v := 0) hx hb dX6_countCells_2 (by decide) ?_
  refine lv_istore_n (lv' := [(2, .int 0), (1, .int 0), (0, .ref n0)]) hx hb dX6_countCells_3 rfl hl (by decide) rfl (fun ls hl => ?_)
  refine lv_iload_n hx hb dX6_countCells_4 rfl (lv_at hl 0 rfl) ?_
  refine lv_iconst (v := 3) hx hb dX6_countCells_5 (by decide) ?_
  refine lv_icmp_ge (tgt := 38) hx hb dX6_countCells_6 (by decide) (fun c_1 => absurd c_1 (by decide)) (fun c_1 => ?_)
  refine lv_aload_n hx hb dX6_countCells_9 rfl (lv_at hl 2 rfl) ?_
  refine va_get (D := D) (ci := 6) (v := .ref n2) (C := RX6) (T := TX6) (N := 6) hx hb hts inlX6 hown hK hP 0 rfl rfl 1 (by decide) (hts _ mw_42) (fun _ h9 => h9) rfl dX6_countCells_10 ?_
  refine lv_iload_n hx hb dX6_countCells_13 rfl (lv_at hl 0 rfl) ?_
  refine va_aldq hx hb hK hP 1 4 rfl rfl (i := 0) (vp_k (by decide)) dX6_countCells_14 ?_
  refine kv (v := .null) rfl ?_
  refine lv_astore_nN (lv' := [(3, .null), (2, .int 0), (1, .int 0), (0, .ref n0)]) hx hb dX6_countCells_15 rfl hl (by decide) rfl (fun ls hl => ?_)
  refine lv_iload_n hx hb dX6_countCells_16 rfl (lv_at hl 2 rfl) ?_
  refine lv_aload_nN hx hb dX6_countCells_17 rfl (lv_at hl 0 rfl) ?_
  refine lv_ifnonnullN hx hb dX6_countCells_18 ?_
  refine lv_iconst (v := 0) hx hb dX6_countCells_21 (by decide) ?_
  refine lv_goto (tgt := 30) hx hb dX6_countCells_22 (by decide) ?_
  refine lv_iadd hx hb dX6_countCells_30 ?_
  refine ki (v := 0) (by decide) ?_
  refine lv_istore_n (lv' := [(1, .int 0), (3, .null), (2, .int 0), (0, .ref n0)]) hx hb dX6_countCells_31 rfl hl (by decide) rfl (fun ls hl => ?_)
  refine lv_iinc (v := 1) (lv' := [(2, .int 1), (1, .int 0), (3, .null), (0, .ref n0)]) hx hb dX6_countCells_32 hl (k := 2) rfl (by decide) (by decide) rfl (fun ls hl => ?_)
  refine lv_goto (tgt := 4) hx hb dX6_countCells_35 (by decide) ?_
  refine lv_iload_n hx hb dX6_countCells_4 rfl (lv_at hl 0 rfl) ?_
  refine lv_iconst (v := 3) hx hb dX6_countCells_5 (by decide) ?_
  refine lv_icmp_ge (tgt := 38) hx hb dX6_countCells_6 (by decide) (fun c_2 => absurd c_2 (by decide)) (fun c_2 => ?_)
  refine lv_aload_n hx hb dX6_countCells_9 rfl (lv_at hl 3 rfl) ?_
  refine va_get (D := D) (ci := 6) (v := .ref n2) (C := RX6) (T := TX6) (N := 6) hx hb hts inlX6 hown hK hP 0 rfl rfl 1 (by decide) (hts _ mw_42) (fun _ h9 => h9) rfl dX6_countCells_10 ?_
  refine lv_iload_n hx hb dX6_countCells_13 rfl (lv_at hl 0 rfl) ?_
  refine va_aldq hx hb hK hP 1 4 rfl rfl (i := 1) (vp_k (by decide)) dX6_countCells_14 ?_
  refine kv (v := .null) rfl ?_
  refine lv_astore_nN (lv' := [(3, .null), (2, .int 1), (1, .int 0), (0, .ref n0)]) hx hb dX6_countCells_15 rfl hl (by decide) rfl (fun ls hl => ?_)
  refine lv_iload_n hx hb dX6_countCells_16 rfl (lv_at hl 2 rfl) ?_
  refine lv_aload_nN hx hb dX6_countCells_17 rfl (lv_at hl 0 rfl) ?_
  refine lv_ifnonnullN hx hb dX6_countCells_18 ?_
  refine lv_iconst (v := 0) hx hb dX6_countCells_21 (by decide) ?_
  refine lv_goto (tgt := 30) hx hb dX6_countCells_22 (by decide) ?_
  refine lv_iadd hx hb dX6_countCells_30 ?_
  refine ki (v := 0) (by decide) ?_
  refine lv_istore_n (lv' := [(1, .int 0), (3, .null), (2, .int 1), (0, .ref n0)]) hx hb dX6_countCells_31 rfl hl (by decide) rfl (fun ls hl => ?_)
  refine lv_iinc (v := 2) (lv' := [(2, .int 2), (1, .int 0), (3, .null), (0, .ref n0)]) hx hb dX6_countCells_32 hl (k := 2) rfl (by decide) (by decide) rfl (fun ls hl => ?_)
  refine lv_goto (tgt := 4) hx hb dX6_countCells_35 (by decide) ?_
  refine lv_iload_n hx hb dX6_countCells_4 rfl (lv_at hl 0 rfl) ?_
  refine lv_iconst (v := 3) hx hb dX6_countCells_5 (by decide) ?_
  refine lv_icmp_ge (tgt := 38) hx hb dX6_countCells_6 (by decide) (fun c_3 => absurd c_3 (by decide)) (fun c_3 => ?_)
  refine lv_aload_n hx hb dX6_countCells_9 rfl (lv_at hl 3 rfl) ?_
  refine va_get (D := D) (ci := 6) (v := .ref n2) (C := RX6) (T := TX6) (N := 6) hx hb hts inlX6 hown hK hP 0 rfl rfl 1 (by decide) (hts _ mw_42) (fun _ h9 => h9) rfl dX6_countCells_10 ?_
  refine lv_iload_n hx hb dX6_countCells_13 rfl (lv_at hl 0 rfl) ?_
  refine va_aldq hx hb hK hP 1 4 rfl rfl (i := 2) (vp_k (by decide)) dX6_countCells_14 ?_
  refine kv (v := .null) rfl ?_
  refine lv_astore_nN (lv' := [(3, .null), (2, .int 2), (1, .int 0), (0, .ref n0)]) hx hb dX6_countCells_15 rfl hl (by decide) rfl (fun ls hl => ?_)
  refine lv_iload_n hx hb dX6_countCells_16 rfl (lv_at hl 2 rfl) ?_
  refine lv_aload_nN hx hb dX6_countCells_17 rfl (lv_at hl 0 rfl) ?_
  refine lv_ifnonnullN hx hb dX6_countCells_18 ?_
  refine lv_iconst (v := 0) hx hb dX6_countCells_21 (by decide) ?_
  refine lv_goto (tgt := 30) hx hb dX6_countCells_22 (by decide) ?_
  refine lv_iadd hx hb dX6_countCells_30 ?_
  refine ki (v := 0) (by decide) ?_
  refine lv_istore_n (lv' := [(1, .int 0), (3, .null), (2, .int 2), (0, .ref n0)]) hx hb dX6_countCells_31 rfl hl (by decide) rfl (fun ls hl => ?_)
  refine lv_iinc (v := 3) (lv' := [(2, .int 3), (1, .int 0), (3, .null), (0, .ref n0)]) hx hb dX6_countCells_32 hl (k := 2) rfl (by decide) (by decide) rfl (fun ls hl => ?_)
  refine lv_goto (tgt := 4) hx hb dX6_countCells_35 (by decide) ?_
  refine lv_iload_n hx hb dX6_countCells_4 rfl (lv_at hl 0 rfl) ?_
  refine lv_iconst (v := 3) hx hb dX6_countCells_5 (by decide) ?_
  refine lv_icmp_ge (tgt := 38) hx hb dX6_countCells_6 (by decide) (fun c_4 => ?_) (fun c_4 => absurd (by decide) c_4)
  refine lv_iload_n hx hb dX6_countCells_38 rfl (lv_at hl 1 rfl) ?_
  exact cr_iret hx hb hr hlk rfl () rfl trivial dX6_countCells_39
set_option maxHeartbeats 4000000 in
set_option maxRecDepth 100000 in
theorem c_X11_look (l : Launch) (D : va_G) (κ : Nat → ClassId) (x0 : Nat) (n0 : Nat) (t0 : Nat) (f0 : Nat) (r0 : Nat) (w0 : Nat) (k0 : Nat) (n1 : Nat) (n2 : Nat) (n3 : Nat) (n4 : Nat) (n5 : Nat) (t1 : Nat) (za : Int32) : Cr l yX11_look (wl yX11_look cX11_look 2 (some .int)) { frames := 1, cells := 0, slots := 0, locals := 23 } D κ [.ref x0, .int za] (va_P D vwCl [(x0, .inr (11, [.ref n0, .ref t0, .ref f0, .ref r0, .ref w0, .ref k0, .int 0])), (n0, .inr (6, [.ref n1, .ref n2, .ref n3, .ref n4, .ref n5, .int 0])), (n1, .inl (κ 0, 6, .inl dial0)), (n2, .inl (κ 4, 3, .inr (.inr (.inr (.inr (fun _ => none)))))), (t0, .inr (8, [.ref t1, .int 0])), (f0, .inr (2, [.int 0, .int (-1), .int (-1), .int (-1), .int (-1), .int 0]))]) (fun r : Int32 => some (.int r)) (fun r : Int32 => r = lookF za) := by
  refine cr_of (by decide +kernel) (Nat.le_of_ble_eq_true rfl) ?_
  intro p e s m args below meth c ls hx hb hr hml hts hown hlk hKK hK hI hl
  have hP : va_P D vwCl [(x0, .inr (11, [.ref n0, .ref t0, .ref f0, .ref r0, .ref w0, .ref k0, .int 0])), (n0, .inr (6, [.ref n1, .ref n2, .ref n3, .ref n4, .ref n5, .int 0])), (n1, .inl (κ 0, 6, .inl dial0)), (n2, .inl (κ 4, 3, .inr (.inr (.inr (.inr (fun _ => none)))))), (t0, .inr (8, [.ref t1, .int 0])), (f0, .inr (2, [.int 0, .int (-1), .int (-1), .int (-1), .int (-1), .int 0]))] s.heap := hI
  have hFX : FX p s m args c cX11_look 2 RX11 := ⟨hx, hb, hml, hown, hts⟩
  have hl : lv_has ls 2 [(0, .ref x0), (1, .int za)] := hl
  refine lv_iload_n hx hb dX11_look_0 rfl (lv_at hl 1 rfl) ?_
  refine lv_if_lt (tgt := 20) hx hb dX11_look_1 (by decide) (fun c_1 => ?_) (fun c_1 => ?_)
  · refine lv_iload_n hx hb dX11_look_20 rfl (lv_at hl 1 rfl) ?_
    rcases Classical.em (za.toInt < 6 ∨ 10 < za.toInt) with c_2 | c_2
    · refine lv_tableOut (tgt := 96) hx hb dX11_look_21 c_2 (by decide) ?_
      refine lv_iconst (v := (-1)) hx hb dX11_look_96 (by decide) ?_
      exact cr_iret hx hb hr hlk rfl (-1) rfl (look_out c_2 (by first | exact Or.inl (by assumption) | exact Or.inr (by assumption))).symm dX11_look_97
    · have e_3 : za = 6 ∨ za = 7 ∨ za = 8 ∨ za = 9 ∨ za = 10 := by
        have q1 : ¬ za.toInt < 6 := fun h => c_2 (Or.inl h)
        have q2 : ¬ 10 < za.toInt := fun h => c_2 (Or.inr h)
        have q3 : ∀ v : Int32, za.toInt = v.toInt → za = v := fun v h => Int32.toInt_inj.mp h
        rcases (show za.toInt = 6 ∨ za.toInt = 7 ∨ za.toInt = 8 ∨ za.toInt = 9 ∨ za.toInt = 10 by omega) with h | h | h | h | h
        · exact Or.inl (q3 6 (h.trans (by decide)))
        · exact Or.inr (Or.inl (q3 7 (h.trans (by decide))))
        · exact Or.inr (Or.inr (Or.inl (q3 8 (h.trans (by decide)))))
        · exact Or.inr (Or.inr (Or.inr (Or.inl (q3 9 (h.trans (by decide))))))
        · exact Or.inr (Or.inr (Or.inr (Or.inr ((q3 10 (h.trans (by decide)))))))
      rcases e_3 with e_3 | e_3 | e_3 | e_3 | e_3
      · refine lv_tableIn (tgt := 56) hx hb dX11_look_21 (by rw [e_3]; decide) (by rw [e_3]; decide) (by rw [e_3]; rfl) (by decide) ?_
        refine lv_aload_n hx hb dX11_look_56 rfl (lv_at hl 0 rfl) ?_
        refine va_get (D := D) (ci := 11) (v := .ref n0) (C := RX11) (T := TX11) (N := 7) hx hb hts inlX11 hown hK hP 0 rfl rfl 0 (by decide) (hts _ mw_15) (fun _ h9 => h9) rfl dX11_look_57 ?_
        refine cr_V (As := []) (rest := []) hFX hKK (c_X6_tablesThere l D κ n0 n1 n2 n3 n4 n5) 0 gV_X11_360 hdV_X6_tablesThere rfl rfl ⟨Nat.le_of_ble_eq_true rfl, Nat.le_of_ble_eq_true rfl⟩ rfl rfl (Nat.le_of_ble_eq_true rfl) dX11_look_60 ⟨Nat.le_of_ble_eq_true rfl, Nat.le_of_ble_eq_true rfl⟩ hl.1 hP 1 6 rfl rfl rfl (hP.sub [1, 3] rfl) (fun _ hp_4 => ?_)
        refine W.eq (g2 := F0 m 63 ls [.int 0]) rfl ?_
        exact cr_iret hx hb hr hlk rfl 0 rfl (by rw [e_3]; decide) dX11_look_63
      · refine lv_tableIn (tgt := 64) hx hb dX11_look_21 (by rw [e_3]; decide) (by rw [e_3]; decide) (by rw [e_3]; rfl) (by decide) ?_
        refine lv_aload_n hx hb dX11_look_64 rfl (lv_at hl 0 rfl) ?_
        refine va_get (D := D) (ci := 11) (v := .ref n0) (C := RX11) (T := TX11) (N := 7) hx hb hts inlX11 hown hK hP 0 rfl rfl 0 (by decide) (hts _ mw_15) (fun _ h9 => h9) rfl dX11_look_65 ?_
        refine va_get (D := D) (ci := 6) (v := .int 0) (C := RX6) (T := TX6) (N := 6) hx hb hts inlX6 hown hK hP 1 rfl rfl 5 (by decide) (hts _ mw_969) (fun _ h9 => h9) rfl dX11_look_68 ?_
        exact cr_iret hx hb hr hlk rfl 0 rfl (by rw [e_3]; decide) dX11_look_71
      · refine lv_tableIn (tgt := 72) hx hb dX11_look_21 (by rw [e_3]; decide) (by rw [e_3]; decide) (by rw [e_3]; rfl) (by decide) ?_
        refine lv_aload_n hx hb dX11_look_72 rfl (lv_at hl 0 rfl) ?_
        refine va_get (D := D) (ci := 11) (v := .ref t0) (C := RX11) (T := TX11) (N := 7) hx hb hts inlX11 hown hK hP 0 rfl rfl 1 (by decide) (hts _ mw_19) (fun _ h9 => h9) rfl dX11_look_73 ?_
        refine va_get (D := D) (ci := 8) (v := .int 0) (C := RX8) (T := TX8) (N := 2) hx hb hts inlX8 hown hK hP 4 rfl rfl 1 (by decide) (hts _ mw_223) (fun _ h9 => h9) rfl dX11_look_76 ?_
        exact cr_iret hx hb hr hlk rfl 0 rfl (by rw [e_3]; decide) dX11_look_79
      · refine lv_tableIn (tgt := 80) hx hb dX11_look_21 (by rw [e_3]; decide) (by rw [e_3]; decide) (by rw [e_3]; rfl) (by decide) ?_
        refine lv_aload_n hx hb dX11_look_80 rfl (lv_at hl 0 rfl) ?_
        refine va_get (D := D) (ci := 11) (v := .ref n0) (C := RX11) (T := TX11) (N := 7) hx hb hts inlX11 hown hK hP 0 rfl rfl 0 (by decide) (hts _ mw_15) (fun _ h9 => h9) rfl dX11_look_81 ?_
        refine cr_V (As := []) (rest := []) hFX hKK (c_X6_countCells l D κ n0 n1 n2 n3 n4 n5) 0 gV_X11_363 hdV_X6_countCells rfl rfl ⟨Nat.le_of_ble_eq_true rfl, Nat.le_of_ble_eq_true rfl⟩ rfl rfl (Nat.le_of_ble_eq_true rfl) dX11_look_84 ⟨Nat.le_of_ble_eq_true rfl, Nat.le_of_ble_eq_true rfl⟩ hl.1 hP 1 6 rfl rfl rfl (hP.sub [1, 3] rfl) (fun _ hp_5 => ?_)
        refine W.eq (g2 := F0 m 87 ls [.int 0]) rfl ?_
        exact cr_iret hx hb hr hlk rfl 0 rfl (by rw [e_3]; decide) dX11_look_87
      · refine lv_tableIn (tgt := 88) hx hb dX11_look_21 (by rw [e_3]; decide) (by rw [e_3]; decide) (by rw [e_3]; rfl) (by decide) ?_
        refine lv_aload_n hx hb dX11_look_88 rfl (lv_at hl 0 rfl) ?_
        refine va_get (D := D) (ci := 11) (v := .ref f0) (C := RX11) (T := TX11) (N := 7) hx hb hts inlX11 hown hK hP 0 rfl rfl 2 (by decide) (hts _ mw_23) (fun _ h9 => h9) rfl dX11_look_89 ?_
        refine va_get (D := D) (ci := 2) (v := .int 0) (C := RX2) (T := TX2) (N := 6) hx hb hts inlX2 hown hK hP 5 rfl rfl 5 (by decide) (hts _ mw_1488) (fun _ h9 => h9) rfl dX11_look_92 ?_
        exact cr_iret hx hb hr hlk rfl 0 rfl (by rw [e_3]; decide) dX11_look_95
  · refine lv_iload_n hx hb dX11_look_4 rfl (lv_at hl 1 rfl) ?_
    refine lv_bipush (v := 6) hx hb dX11_look_5 (by decide) ?_
    refine lv_icmp_ge (tgt := 20) hx hb dX11_look_7 (by decide) (fun c_6 => ?_) (fun c_6 => ?_)
    · refine lv_iload_n hx hb dX11_look_20 rfl (lv_at hl 1 rfl) ?_
      rcases Classical.em (za.toInt < 6 ∨ 10 < za.toInt) with c_7 | c_7
      · refine lv_tableOut (tgt := 96) hx hb dX11_look_21 c_7 (by decide) ?_
        refine lv_iconst (v := (-1)) hx hb dX11_look_96 (by decide) ?_
        exact cr_iret hx hb hr hlk rfl (-1) rfl (look_out c_7 (by first | exact Or.inl (by assumption) | exact Or.inr (by assumption))).symm dX11_look_97
      · have e_8 : za = 6 ∨ za = 7 ∨ za = 8 ∨ za = 9 ∨ za = 10 := by
          have q1 : ¬ za.toInt < 6 := fun h => c_7 (Or.inl h)
          have q2 : ¬ 10 < za.toInt := fun h => c_7 (Or.inr h)
          have q3 : ∀ v : Int32, za.toInt = v.toInt → za = v := fun v h => Int32.toInt_inj.mp h
          rcases (show za.toInt = 6 ∨ za.toInt = 7 ∨ za.toInt = 8 ∨ za.toInt = 9 ∨ za.toInt = 10 by omega) with h | h | h | h | h
          · exact Or.inl (q3 6 (h.trans (by decide)))
          · exact Or.inr (Or.inl (q3 7 (h.trans (by decide))))
          · exact Or.inr (Or.inr (Or.inl (q3 8 (h.trans (by decide)))))
          · exact Or.inr (Or.inr (Or.inr (Or.inl (q3 9 (h.trans (by decide))))))
          · exact Or.inr (Or.inr (Or.inr (Or.inr ((q3 10 (h.trans (by decide)))))))
        rcases e_8 with e_8 | e_8 | e_8 | e_8 | e_8
        · refine lv_tableIn (tgt := 56) hx hb dX11_look_21 (by rw [e_8]; decide) (by rw [e_8]; decide) (by rw [e_8]; rfl) (by decide) ?_
          refine lv_aload_n hx hb dX11_look_56 rfl (lv_at hl 0 rfl) ?_
          refine va_get (D := D) (ci := 11) (v := .ref n0) (C := RX11) (T := TX11) (N := 7) hx hb hts inlX11 hown hK hP 0 rfl rfl 0 (by decide) (hts _ mw_15) (fun _ h9 => h9) rfl dX11_look_57 ?_
          refine cr_V (As := []) (rest := []) hFX hKK (c_X6_tablesThere l D κ n0 n1 n2 n3 n4 n5) 0 gV_X11_360 hdV_X6_tablesThere rfl rfl ⟨Nat.le_of_ble_eq_true rfl, Nat.le_of_ble_eq_true rfl⟩ rfl rfl (Nat.le_of_ble_eq_true rfl) dX11_look_60 ⟨Nat.le_of_ble_eq_true rfl, Nat.le_of_ble_eq_true rfl⟩ hl.1 hP 1 6 rfl rfl rfl (hP.sub [1, 3] rfl) (fun _ hp_9 => ?_)
          refine W.eq (g2 := F0 m 63 ls [.int 0]) rfl ?_
          exact cr_iret hx hb hr hlk rfl 0 rfl (by rw [e_8]; decide) dX11_look_63
        · refine lv_tableIn (tgt := 64) hx hb dX11_look_21 (by rw [e_8]; decide) (by rw [e_8]; decide) (by rw [e_8]; rfl) (by decide) ?_
          refine lv_aload_n hx hb dX11_look_64 rfl (lv_at hl 0 rfl) ?_
          refine va_get (D := D) (ci := 11) (v := .ref n0) (C := RX11) (T := TX11) (N := 7) hx hb hts inlX11 hown hK hP 0 rfl rfl 0 (by decide) (hts _ mw_15) (fun _ h9 => h9) rfl dX11_look_65 ?_
          refine va_get (D := D) (ci := 6) (v := .int 0) (C := RX6) (T := TX6) (N := 6) hx hb hts inlX6 hown hK hP 1 rfl rfl 5 (by decide) (hts _ mw_969) (fun _ h9 => h9) rfl dX11_look_68 ?_
          exact cr_iret hx hb hr hlk rfl 0 rfl (by rw [e_8]; decide) dX11_look_71
        · refine lv_tableIn (tgt := 72) hx hb dX11_look_21 (by rw [e_8]; decide) (by rw [e_8]; decide) (by rw [e_8]; rfl) (by decide) ?_
          refine lv_aload_n hx hb dX11_look_72 rfl (lv_at hl 0 rfl) ?_
          refine va_get (D := D) (ci := 11) (v := .ref t0) (C := RX11) (T := TX11) (N := 7) hx hb hts inlX11 hown hK hP 0 rfl rfl 1 (by decide) (hts _ mw_19) (fun _ h9 => h9) rfl dX11_look_73 ?_
          refine va_get (D := D) (ci := 8) (v := .int 0) (C := RX8) (T := TX8) (N := 2) hx hb hts inlX8 hown hK hP 4 rfl rfl 1 (by decide) (hts _ mw_223) (fun _ h9 => h9) rfl dX11_look_76 ?_
          exact cr_iret hx hb hr hlk rfl 0 rfl (by rw [e_8]; decide) dX11_look_79
        · refine lv_tableIn (tgt := 80) hx hb dX11_look_21 (by rw [e_8]; decide) (by rw [e_8]; decide) (by rw [e_8]; rfl) (by decide) ?_
          refine lv_aload_n hx hb dX11_look_80 rfl (lv_at hl 0 rfl) ?_
          refine va_get (D := D) (ci := 11) (v := .ref n0) (C := RX11) (T := TX11) (N := 7) hx hb hts inlX11 hown hK hP 0 rfl rfl 0 (by decide) (hts _ mw_15) (fun _ h9 => h9) rfl dX11_look_81 ?_
          refine cr_V (As := []) (rest := []) hFX hKK (c_X6_countCells l D κ n0 n1 n2 n3 n4 n5) 0 gV_X11_363 hdV_X6_countCells rfl rfl ⟨Nat.le_of_ble_eq_true rfl, Nat.le_of_ble_eq_true rfl⟩ rfl rfl (Nat.le_of_ble_eq_true rfl) dX11_look_84 ⟨Nat.le_of_ble_eq_true rfl, Nat.le_of_ble_eq_true rfl⟩ hl.1 hP 1 6 rfl rfl rfl (hP.sub [1, 3] rfl) (fun _ hp_10 => ?_)
          refine W.eq (g2 := F0 m 87 ls [.int 0]) rfl ?_
          exact cr_iret hx hb hr hlk rfl 0 rfl (by rw [e_8]; decide) dX11_look_87
        · refine lv_tableIn (tgt := 88) hx hb dX11_look_21 (by rw [e_8]; decide) (by rw [e_8]; decide) (by rw [e_8]; rfl) (by decide) ?_
          refine lv_aload_n hx hb dX11_look_88 rfl (lv_at hl 0 rfl) ?_
          refine va_get (D := D) (ci := 11) (v := .ref f0) (C := RX11) (T := TX11) (N := 7) hx hb hts inlX11 hown hK hP 0 rfl rfl 2 (by decide) (hts _ mw_23) (fun _ h9 => h9) rfl dX11_look_89 ?_
          refine va_get (D := D) (ci := 2) (v := .int 0) (C := RX2) (T := TX2) (N := 6) hx hb hts inlX2 hown hK hP 5 rfl rfl 5 (by decide) (hts _ mw_1488) (fun _ h9 => h9) rfl dX11_look_92 ?_
          exact cr_iret hx hb hr hlk rfl 0 rfl (by rw [e_8]; decide) dX11_look_95
    · refine lv_aload_n hx hb dX11_look_10 rfl (lv_at hl 0 rfl) ?_
      refine va_get (D := D) (ci := 11) (v := .ref n0) (C := RX11) (T := TX11) (N := 7) hx hb hts inlX11 hown hK hP 0 rfl rfl 0 (by decide) (hts _ mw_15) (fun _ h9 => h9) rfl dX11_look_11 ?_
      refine va_get (D := D) (ci := 6) (v := .ref n1) (C := RX6) (T := TX6) (N := 6) hx hb hts inlX6 hown hK hP 1 rfl rfl 0 (by decide) (hts _ mw_27) (fun _ h9 => h9) rfl dX11_look_14 ?_
      refine lv_iload_n hx hb dX11_look_17 rfl (lv_at hl 1 rfl) ?_
      refine va_iald hx hb hK hP 2 0 rfl rfl (i := za) (vp_of (M := 6) (n := 6) (by decide) (by assumption) (by assumption)) dX11_look_18 ?_
      refine lv_topi (fun x_11 ex_11 => ?_)
      exact cr_iret hx hb hr hlk rfl x_11 rfl (ex_11.trans (look_d (by assumption) (by assumption))) dX11_look_19
