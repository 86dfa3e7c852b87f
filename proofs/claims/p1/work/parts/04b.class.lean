theorem mw_93 : Cond.code yX0_kindOf cX0_kindOf 1 (some .int) ∈ wsL_law := List.mem_of_getElem? (i := 93) (by decide +kernel)
theorem dX0_kindOf_0 : decode cX0_kindOf 0 = .ok (.aload_n 0, 1) := by decide +kernel
theorem dX0_kindOf_1 : decode cX0_kindOf 1 = .ok (.arraylength, 1) := by decide +kernel
theorem dX0_kindOf_2 : decode cX0_kindOf 2 = .ok (.ifCond .ne 5, 3) := by decide +kernel
theorem dX0_kindOf_5 : decode cX0_kindOf 5 = .ok (.iconst 0, 1) := by decide +kernel
theorem dX0_kindOf_6 : decode cX0_kindOf 6 = .ok (.ireturn, 1) := by decide +kernel
theorem mw_164 : Cond.code yX0_numberOf cX0_numberOf 2 (some .long) ∈ wsL_law := List.mem_of_getElem? (i := 164) (by decide +kernel)
theorem dX0_numberOf_0 : decode cX0_numberOf 0 = .ok (.iload_n 1, 1) := by decide +kernel
theorem dX0_numberOf_1 : decode cX0_numberOf 1 = .ok (.tableswitch 70 1 4 #[31, 53, 59, 65], 31) := by decide +kernel
theorem dX0_numberOf_71 : decode cX0_numberOf 71 = .ok (.aload_n 0, 1) := by decide +kernel
theorem dX0_numberOf_72 : decode cX0_numberOf 72 = .ok (.arraylength, 1) := by decide +kernel
theorem dX0_numberOf_73 : decode cX0_numberOf 73 = .ok (.i2l, 1) := by decide +kernel
theorem dX0_numberOf_74 : decode cX0_numberOf 74 = .ok (.lreturn, 1) := by decide +kernel
theorem mw_86 : Cond.code yX0_init cX0_init 2 none ∈ wsL_law := List.mem_of_getElem? (i := 86) (by decide +kernel)
theorem dX0_init_0 : decode cX0_init 0 = .ok (.aload_n 0, 1) := by decide +kernel
theorem dX0_init_1 : decode cX0_init 1 = .ok (.invokespecial 3, 3) := by decide +kernel
theorem mw_87 : Cond.methodLink RX0 3 objectInit ∈ wsL_law := List.mem_of_getElem? (i := 87) (by decide +kernel)
theorem mw_10 : Cond.instanceMethod objectInit ∈ wsL_law := List.mem_of_getElem? (i := 10) (by decide +kernel)
theorem mw_11 : Cond.code objectInit ⟨#[0xb1]⟩ 1 none ∈ wsL_law := List.mem_of_getElem? (i := 11) (by decide +kernel)
theorem dX0_init_4 : decode cX0_init 4 = .ok (.aload_n 0, 1) := by decide +kernel
theorem dX0_init_5 : decode cX0_init 5 = .ok (.aload_n 1, 1) := by decide +kernel
theorem dX0_init_6 : decode cX0_init 6 = .ok (.putfield 9, 3) := by decide +kernel
theorem mw_88 : Cond.fieldLink RX0 9 "TypedTables$Cell" "bytes" "[B" ∈ wsL_law := List.mem_of_getElem? (i := 88) (by decide +kernel)
theorem dX0_init_9 : decode cX0_init 9 = .ok (.aload_n 0, 1) := by decide +kernel
theorem dX0_init_10 : decode cX0_init 10 = .ok (.aload_n 1, 1) := by decide +kernel
theorem dX0_init_11 : decode cX0_init 11 = .ok (.invokestatic 15, 3) := by decide +kernel
theorem mw_91 : Cond.methodLink RX0 15 yX0_kindOf ∈ wsL_law := List.mem_of_getElem? (i := 91) (by decide +kernel)
theorem mw_68 : Cond.initialized RX0 ∈ wsL_law := List.mem_of_getElem? (i := 68) (by decide +kernel)
theorem mw_92 : Cond.static yX0_kindOf ∈ wsL_law := List.mem_of_getElem? (i := 92) (by decide +kernel)
theorem gS_X0_15 : GoodIn wsL_law (va_wsS RX0 15 yX0_kindOf (wl yX0_kindOf cX0_kindOf 1 (some .int))) := g_S mw_91 mw_92 mw_68 mw_93
theorem hdS_X0_kindOf : okD yX0_kindOf 1 := by decide +kernel
theorem dX0_init_14 : decode cX0_init 14 = .ok (.putfield 19, 3) := by decide +kernel
theorem mw_89 : Cond.fieldLink RX0 19 "TypedTables$Cell" "kind" "I" ∈ wsL_law := List.mem_of_getElem? (i := 89) (by decide +kernel)
theorem dX0_init_17 : decode cX0_init 17 = .ok (.aload_n 0, 1) := by decide +kernel
theorem dX0_init_18 : decode cX0_init 18 = .ok (.aload_n 1, 1) := by decide +kernel
theorem dX0_init_19 : decode cX0_init 19 = .ok (.aload_n 0, 1) := by decide +kernel
theorem dX0_init_20 : decode cX0_init 20 = .ok (.getfield 19, 3) := by decide +kernel
theorem dX0_init_23 : decode cX0_init 23 = .ok (.invokestatic 23, 3) := by decide +kernel
theorem mw_162 : Cond.methodLink RX0 23 yX0_numberOf ∈ wsL_law := List.mem_of_getElem? (i := 162) (by decide +kernel)
theorem mw_163 : Cond.static yX0_numberOf ∈ wsL_law := List.mem_of_getElem? (i := 163) (by decide +kernel)
theorem gS_X0_23 : GoodIn wsL_law (va_wsS RX0 23 yX0_numberOf (wl yX0_numberOf cX0_numberOf 2 (some .long))) := g_S mw_162 mw_163 mw_68 mw_164
theorem hdS_X0_numberOf : okD yX0_numberOf 2 := by decide +kernel
theorem dX0_init_26 : decode cX0_init 26 = .ok (.putfield 27, 3) := by decide +kernel
theorem mw_90 : Cond.fieldLink RX0 27 "TypedTables$Cell" "number" "J" ∈ wsL_law := List.mem_of_getElem? (i := 90) (by decide +kernel)
theorem dX0_init_29 : decode cX0_init 29 = .ok (.return_, 1) := by decide +kernel
theorem mw_37 : Cond.code yX6_init cX6_init 1 none ∈ wsL_law := List.mem_of_getElem? (i := 37) (by decide +kernel)
theorem dX6_init_0 : decode cX6_init 0 = .ok (.aload_n 0, 1) := by decide +kernel
theorem dX6_init_1 : decode cX6_init 1 = .ok (.invokespecial 3, 3) := by decide +kernel
theorem mw_38 : Cond.methodLink RX6 3 objectInit ∈ wsL_law := List.mem_of_getElem? (i := 38) (by decide +kernel)
theorem dX6_init_4 : decode cX6_init 4 = .ok (.aload_n 0, 1) := by decide +kernel
theorem dX6_init_5 : decode cX6_init 5 = .ok (.bipush 6, 2) := by decide +kernel
theorem dX6_init_7 : decode cX6_init 7 = .ok (.newarray .int, 2) := by decide +kernel
theorem mw_39 : Cond.arrayClass .int ∈ wsL_law := List.mem_of_getElem? (i := 39) (by decide +kernel)
theorem dX6_init_9 : decode cX6_init 9 = .ok (.putfield 9, 3) := by decide +kernel
theorem mw_40 : Cond.fieldLink RX6 9 "TypedTables$State" "dialect" "[I" ∈ wsL_law := List.mem_of_getElem? (i := 40) (by decide +kernel)
theorem dX6_init_12 : decode cX6_init 12 = .ok (.aload_n 0, 1) := by decide +kernel
theorem dX6_init_13 : decode cX6_init 13 = .ok (.iconst 3, 1) := by decide +kernel
theorem dX6_init_14 : decode cX6_init 14 = .ok (.anewarray 15, 3) := by decide +kernel
theorem mw_41 : Cond.classLink RX6 15 RX5 ∈ wsL_law := List.mem_of_getElem? (i := 41) (by decide +kernel)
theorem dX6_init_17 : decode cX6_init 17 = .ok (.putfield 17, 3) := by decide +kernel
theorem dX6_init_20 : decode cX6_init 20 = .ok (.aload_n 0, 1) := by decide +kernel
theorem dX6_init_21 : decode cX6_init 21 = .ok (.iconst 3, 1) := by decide +kernel
theorem dX6_init_22 : decode cX6_init 22 = .ok (.anewarray 21, 3) := by decide +kernel
theorem mw_43 : Cond.classLink RX6 21 RX9 ∈ wsL_law := List.mem_of_getElem? (i := 43) (by decide +kernel)
theorem dX6_init_25 : decode cX6_init 25 = .ok (.putfield 23, 3) := by decide +kernel
theorem dX6_init_28 : decode cX6_init 28 = .ok (.aload_n 0, 1) := by decide +kernel
theorem dX6_init_29 : decode cX6_init 29 = .ok (.bipush 6, 2) := by decide +kernel
theorem dX6_init_31 : decode cX6_init 31 = .ok (.newarray .int, 2) := by decide +kernel
theorem dX6_init_33 : decode cX6_init 33 = .ok (.putfield 27, 3) := by decide +kernel
theorem mw_45 : Cond.fieldLink RX6 27 "TypedTables$State" "actTables" "[I" ∈ wsL_law := List.mem_of_getElem? (i := 45) (by decide +kernel)
theorem dX6_init_36 : decode cX6_init 36 = .ok (.aload_n 0, 1) := by decide +kernel
theorem dX6_init_37 : decode cX6_init 37 = .ok (.bipush 6, 2) := by decide +kernel
theorem dX6_init_39 : decode cX6_init 39 = .ok (.anewarray 15, 3) := by decide +kernel
theorem dX6_init_42 : decode cX6_init 42 = .ok (.putfield 30, 3) := by decide +kernel
theorem mw_46 : Cond.fieldLink RX6 30 "TypedTables$State" "actSheets" "[LTypedTables$Sheet;" ∈ wsL_law := List.mem_of_getElem? (i := 46) (by decide +kernel)
theorem dX6_init_45 : decode cX6_init 45 = .ok (.aload_n 0, 1) := by decide +kernel
theorem dX6_init_46 : decode cX6_init 46 = .ok (.iconst 0, 1) := by decide +kernel
theorem dX6_init_47 : decode cX6_init 47 = .ok (.putfield 33, 3) := by decide +kernel
theorem mw_47 : Cond.fieldLink RX6 33 "TypedTables$State" "acts" "I" ∈ wsL_law := List.mem_of_getElem? (i := 47) (by decide +kernel)
theorem dX6_init_50 : decode cX6_init 50 = .ok (.aload_n 0, 1) := by decide +kernel
theorem dX6_init_51 : decode cX6_init 51 = .ok (.getfield 9, 3) := by decide +kernel
theorem dX6_init_54 : decode cX6_init 54 = .ok (.iconst 0, 1) := by decide +kernel
theorem dX6_init_55 : decode cX6_init 55 = .ok (.bipush 44, 2) := by decide +kernel
theorem dX6_init_57 : decode cX6_init 57 = .ok (.iastore, 1) := by decide +kernel
theorem dX6_init_58 : decode cX6_init 58 = .ok (.aload_n 0, 1) := by decide +kernel
theorem dX6_init_59 : decode cX6_init 59 = .ok (.getfield 9, 3) := by decide +kernel
theorem dX6_init_62 : decode cX6_init 62 = .ok (.iconst 1, 1) := by decide +kernel
theorem dX6_init_63 : decode cX6_init 63 = .ok (.bipush 34, 2) := by decide +kernel
theorem dX6_init_65 : decode cX6_init 65 = .ok (.iastore, 1) := by decide +kernel
theorem dX6_init_66 : decode cX6_init 66 = .ok (.aload_n 0, 1) := by decide +kernel
theorem dX6_init_67 : decode cX6_init 67 = .ok (.getfield 9, 3) := by decide +kernel
theorem dX6_init_70 : decode cX6_init 70 = .ok (.iconst 2, 1) := by decide +kernel
theorem dX6_init_71 : decode cX6_init 71 = .ok (.iconst 1, 1) := by decide +kernel
theorem dX6_init_72 : decode cX6_init 72 = .ok (.iastore, 1) := by decide +kernel
theorem dX6_init_73 : decode cX6_init 73 = .ok (.return_, 1) := by decide +kernel
theorem mw_49 : Cond.code yX8_init cX8_init 1 none ∈ wsL_law := List.mem_of_getElem? (i := 49) (by decide +kernel)
theorem dX8_init_0 : decode cX8_init 0 = .ok (.aload_n 0, 1) := by decide +kernel
theorem dX8_init_1 : decode cX8_init 1 = .ok (.invokespecial 3, 3) := by decide +kernel
theorem mw_50 : Cond.methodLink RX8 3 objectInit ∈ wsL_law := List.mem_of_getElem? (i := 50) (by decide +kernel)
theorem dX8_init_4 : decode cX8_init 4 = .ok (.aload_n 0, 1) := by decide +kernel
theorem dX8_init_5 : decode cX8_init 5 = .ok (.sipush 800, 3) := by decide +kernel
theorem dX8_init_8 : decode cX8_init 8 = .ok (.newarray .int, 2) := by decide +kernel
theorem dX8_init_10 : decode cX8_init 10 = .ok (.putfield 9, 3) := by decide +kernel
theorem mw_51 : Cond.fieldLink RX8 9 "TypedTables$Tape" "bytes" "[I" ∈ wsL_law := List.mem_of_getElem? (i := 51) (by decide +kernel)
theorem dX8_init_13 : decode cX8_init 13 = .ok (.aload_n 0, 1) := by decide +kernel
theorem dX8_init_14 : decode cX8_init 14 = .ok (.iconst 0, 1) := by decide +kernel
theorem dX8_init_15 : decode cX8_init 15 = .ok (.putfield 15, 3) := by decide +kernel
theorem mw_52 : Cond.fieldLink RX8 15 "TypedTables$Tape" "length" "I" ∈ wsL_law := List.mem_of_getElem? (i := 52) (by decide +kernel)
theorem dX8_init_18 : decode cX8_init 18 = .ok (.return_, 1) := by decide +kernel
theorem mw_54 : Cond.code yX2_init cX2_init 1 none ∈ wsL_law := List.mem_of_getElem? (i := 54) (by decide +kernel)
theorem dX2_init_0 : decode cX2_init 0 = .ok (.aload_n 0, 1) := by decide +kernel
theorem dX2_init_1 : decode cX2_init 1 = .ok (.invokespecial 3, 3) := by decide +kernel
theorem mw_55 : Cond.methodLink RX2 3 objectInit ∈ wsL_law := List.mem_of_getElem? (i := 55) (by decide +kernel)
theorem dX2_init_4 : decode cX2_init 4 = .ok (.aload_n 0, 1) := by decide +kernel
theorem dX2_init_5 : decode cX2_init 5 = .ok (.iconst 0, 1) := by decide +kernel
theorem dX2_init_6 : decode cX2_init 6 = .ok (.putfield 9, 3) := by decide +kernel
theorem mw_56 : Cond.fieldLink RX2 9 "TypedTables$Fault" "kind" "I" ∈ wsL_law := List.mem_of_getElem? (i := 56) (by decide +kernel)
theorem dX2_init_9 : decode cX2_init 9 = .ok (.aload_n 0, 1) := by decide +kernel
theorem dX2_init_10 : decode cX2_init 10 = .ok (.iconst (-1), 1) := by decide +kernel
theorem dX2_init_11 : decode cX2_init 11 = .ok (.putfield 15, 3) := by decide +kernel
theorem mw_57 : Cond.fieldLink RX2 15 "TypedTables$Fault" "place" "I" ∈ wsL_law := List.mem_of_getElem? (i := 57) (by decide +kernel)
theorem dX2_init_14 : decode cX2_init 14 = .ok (.aload_n 0, 1) := by decide +kernel
theorem dX2_init_15 : decode cX2_init 15 = .ok (.iconst (-1), 1) := by decide +kernel
theorem dX2_init_16 : decode cX2_init 16 = .ok (.putfield 18, 3) := by decide +kernel
theorem mw_58 : Cond.fieldLink RX2 18 "TypedTables$Fault" "line" "I" ∈ wsL_law := List.mem_of_getElem? (i := 58) (by decide +kernel)
theorem dX2_init_19 : decode cX2_init 19 = .ok (.aload_n 0, 1) := by decide +kernel
theorem dX2_init_20 : decode cX2_init 20 = .ok (.iconst (-1), 1) := by decide +kernel
theorem dX2_init_21 : decode cX2_init 21 = .ok (.putfield 21, 3) := by decide +kernel
theorem mw_59 : Cond.fieldLink RX2 21 "TypedTables$Fault" "column" "I" ∈ wsL_law := List.mem_of_getElem? (i := 59) (by decide +kernel)
theorem dX2_init_24 : decode cX2_init 24 = .ok (.aload_n 0, 1) := by decide +kernel
theorem dX2_init_25 : decode cX2_init 25 = .ok (.iconst (-1), 1) := by decide +kernel
theorem dX2_init_26 : decode cX2_init 26 = .ok (.putfield 24, 3) := by decide +kernel
theorem mw_60 : Cond.fieldLink RX2 24 "TypedTables$Fault" "cause" "I" ∈ wsL_law := List.mem_of_getElem? (i := 60) (by decide +kernel)
theorem dX2_init_29 : decode cX2_init 29 = .ok (.aload_n 0, 1) := by decide +kernel
theorem dX2_init_30 : decode cX2_init 30 = .ok (.iconst 0, 1) := by decide +kernel
theorem dX2_init_31 : decode cX2_init 31 = .ok (.putfield 27, 3) := by decide +kernel
theorem mw_61 : Cond.fieldLink RX2 27 "TypedTables$Fault" "readings" "I" ∈ wsL_law := List.mem_of_getElem? (i := 61) (by decide +kernel)
theorem dX2_init_34 : decode cX2_init 34 = .ok (.return_, 1) := by decide +kernel
theorem mw_178 : Cond.code yX10_init cX10_init 2 none ∈ wsL_law := List.mem_of_getElem? (i := 178) (by decide +kernel)
theorem dX10_init_0 : decode cX10_init 0 = .ok (.aload_n 0, 1) := by decide +kernel
theorem dX10_init_1 : decode cX10_init 1 = .ok (.invokespecial 3, 3) := by decide +kernel
theorem mw_179 : Cond.methodLink RX10 3 objectInit ∈ wsL_law := List.mem_of_getElem? (i := 179) (by decide +kernel)
theorem dX10_init_4 : decode cX10_init 4 = .ok (.aload_n 0, 1) := by decide +kernel
theorem dX10_init_5 : decode cX10_init 5 = .ok (.sipush 6000, 3) := by decide +kernel
theorem dX10_init_8 : decode cX10_init 8 = .ok (.newarray .byte, 2) := by decide +kernel
theorem mw_69 : Cond.arrayClass .byte ∈ wsL_law := List.mem_of_getElem? (i := 69) (by decide +kernel)
theorem dX10_init_10 : decode cX10_init 10 = .ok (.putfield 9, 3) := by decide +kernel
theorem mw_180 : Cond.fieldLink RX10 9 "TypedTables$Writer" "bytes" "[B" ∈ wsL_law := List.mem_of_getElem? (i := 180) (by decide +kernel)
theorem dX10_init_13 : decode cX10_init 13 = .ok (.aload_n 0, 1) := by decide +kernel
theorem dX10_init_14 : decode cX10_init 14 = .ok (.iconst 0, 1) := by decide +kernel
theorem dX10_init_15 : decode cX10_init 15 = .ok (.putfield 15, 3) := by decide +kernel
theorem mw_181 : Cond.fieldLink RX10 15 "TypedTables$Writer" "length" "I" ∈ wsL_law := List.mem_of_getElem? (i := 181) (by decide +kernel)
theorem dX10_init_18 : decode cX10_init 18 = .ok (.aload_n 0, 1) := by decide +kernel
theorem dX10_init_19 : decode cX10_init 19 = .ok (.aload_n 1, 1) := by decide +kernel
theorem dX10_init_20 : decode cX10_init 20 = .ok (.putfield 19, 3) := by decide +kernel
theorem mw_182 : Cond.fieldLink RX10 19 "TypedTables$Writer" "dialect" "[I" ∈ wsL_law := List.mem_of_getElem? (i := 182) (by decide +kernel)
theorem dX10_init_23 : decode cX10_init 23 = .ok (.return_, 1) := by decide +kernel
theorem mw_64 : Cond.code yX4_init cX4_init 4 none ∈ wsL_law := List.mem_of_getElem? (i := 64) (by decide +kernel)
theorem dX4_init_0 : decode cX4_init 0 = .ok (.aload_n 0, 1) := by decide +kernel
theorem dX4_init_1 : decode cX4_init 1 = .ok (.invokespecial 3, 3) := by decide +kernel
theorem mw_65 : Cond.methodLink RX4 3 objectInit ∈ wsL_law := List.mem_of_getElem? (i := 65) (by decide +kernel)
theorem dX4_init_4 : decode cX4_init 4 = .ok (.aload_n 0, 1) := by decide +kernel
theorem dX4_init_5 : decode cX4_init 5 = .ok (.new 9, 3) := by decide +kernel
theorem mw_66 : Cond.classLink RX4 9 RX0 ∈ wsL_law := List.mem_of_getElem? (i := 66) (by decide +kernel)
theorem mw_67 : Cond.instantiable RX0 3 ∈ wsL_law := List.mem_of_getElem? (i := 67) (by decide +kernel)
theorem dX4_init_8 : decode cX4_init 8 = .ok (.dup, 1) := by decide +kernel
theorem dX4_init_9 : decode cX4_init 9 = .ok (.iconst 0, 1) := by decide +kernel
theorem dX4_init_10 : decode cX4_init 10 = .ok (.newarray .byte, 2) := by decide +kernel
theorem dX4_init_12 : decode cX4_init 12 = .ok (.invokespecial 11, 3) := by decide +kernel
theorem hdI_X0_init : yX0_init.name = "<init>" ∧ okD yX0_init 1 := by decide +kernel
theorem mw_84 : Cond.methodLink RX4 11 yX0_init ∈ wsL_law := List.mem_of_getElem? (i := 84) (by decide +kernel)
theorem mw_85 : Cond.instanceMethod yX0_init ∈ wsL_law := List.mem_of_getElem? (i := 85) (by decide +kernel)
theorem dX4_init_15 : decode cX4_init 15 = .ok (.putfield 14, 3) := by decide +kernel
theorem mw_70 : Cond.fieldLink RX4 14 "TypedTables$Reader" "blank" "LTypedTables$Cell;" ∈ wsL_law := List.mem_of_getElem? (i := 70) (by decide +kernel)
theorem dX4_init_18 : decode cX4_init 18 = .ok (.aload_n 0, 1) := by decide +kernel
theorem dX4_init_19 : decode cX4_init 19 = .ok (.iconst 0, 1) := by decide +kernel
theorem dX4_init_20 : decode cX4_init 20 = .ok (.putfield 20, 3) := by decide +kernel
theorem mw_71 : Cond.fieldLink RX4 20 "TypedTables$Reader" "at" "I" ∈ wsL_law := List.mem_of_getElem? (i := 71) (by decide +kernel)
theorem dX4_init_23 : decode cX4_init 23 = .ok (.aload_n 0, 1) := by decide +kernel
theorem dX4_init_24 : decode cX4_init 24 = .ok (.iconst (-1), 1) := by decide +kernel
theorem dX4_init_25 : decode cX4_init 25 = .ok (.putfield 24, 3) := by decide +kernel
theorem mw_72 : Cond.fieldLink RX4 24 "TypedTables$Reader" "cause" "I" ∈ wsL_law := List.mem_of_getElem? (i := 72) (by decide +kernel)
theorem dX4_init_28 : decode cX4_init 28 = .ok (.aload_n 0, 1) := by decide +kernel
theorem dX4_init_29 : decode cX4_init 29 = .ok (.bipush 20, 2) := by decide +kernel
theorem dX4_init_31 : decode cX4_init 31 = .ok (.newarray .byte, 2) := by decide +kernel
theorem dX4_init_33 : decode cX4_init 33 = .ok (.putfield 27, 3) := by decide +kernel
theorem mw_73 : Cond.fieldLink RX4 27 "TypedTables$Reader" "work" "[B" ∈ wsL_law := List.mem_of_getElem? (i := 73) (by decide +kernel)
theorem dX4_init_36 : decode cX4_init 36 = .ok (.aload_n 0, 1) := by decide +kernel
theorem dX4_init_37 : decode cX4_init 37 = .ok (.iconst 0, 1) := by decide +kernel
theorem dX4_init_38 : decode cX4_init 38 = .ok (.putfield 31, 3) := by decide +kernel
theorem mw_74 : Cond.fieldLink RX4 31 "TypedTables$Reader" "size" "I" ∈ wsL_law := List.mem_of_getElem? (i := 74) (by decide +kernel)
theorem dX4_init_41 : decode cX4_init 41 = .ok (.aload_n 0, 1) := by decide +kernel
theorem dX4_init_42 : decode cX4_init 42 = .ok (.bipush 8, 2) := by decide +kernel
theorem dX4_init_44 : decode cX4_init 44 = .ok (.anewarray 9, 3) := by decide +kernel
theorem dX4_init_47 : decode cX4_init 47 = .ok (.putfield 34, 3) := by decide +kernel
theorem mw_75 : Cond.fieldLink RX4 34 "TypedTables$Reader" "fields" "[LTypedTables$Cell;" ∈ wsL_law := List.mem_of_getElem? (i := 75) (by decide +kernel)
theorem dX4_init_50 : decode cX4_init 50 = .ok (.aload_n 0, 1) := by decide +kernel
theorem dX4_init_51 : decode cX4_init 51 = .ok (.bipush 8, 2) := by decide +kernel
theorem dX4_init_53 : decode cX4_init 53 = .ok (.newarray .int, 2) := by decide +kernel
theorem dX4_init_55 : decode cX4_init 55 = .ok (.putfield 38, 3) := by decide +kernel
theorem mw_76 : Cond.fieldLink RX4 38 "TypedTables$Reader" "starts" "[I" ∈ wsL_law := List.mem_of_getElem? (i := 76) (by decide +kernel)
theorem dX4_init_58 : decode cX4_init 58 = .ok (.aload_n 0, 1) := by decide +kernel
theorem dX4_init_59 : decode cX4_init 59 = .ok (.iconst 0, 1) := by decide +kernel
theorem dX4_init_60 : decode cX4_init 60 = .ok (.putfield 42, 3) := by decide +kernel
theorem mw_77 : Cond.fieldLink RX4 42 "TypedTables$Reader" "count" "I" ∈ wsL_law := List.mem_of_getElem? (i := 77) (by decide +kernel)
theorem dX4_init_63 : decode cX4_init 63 = .ok (.aload_n 0, 1) := by decide +kernel
theorem dX4_init_64 : decode cX4_init 64 = .ok (.aconst_null, 1) := by decide +kernel
theorem dX4_init_65 : decode cX4_init 65 = .ok (.putfield 45, 3) := by decide +kernel
theorem mw_78 : Cond.fieldLink RX4 45 "TypedTables$Reader" "columns" "[LTypedTables$Column;" ∈ wsL_law := List.mem_of_getElem? (i := 78) (by decide +kernel)
theorem dX4_init_68 : decode cX4_init 68 = .ok (.aload_n 0, 1) := by decide +kernel
theorem dX4_init_69 : decode cX4_init 69 = .ok (.sipush 320, 3) := by decide +kernel
theorem dX4_init_72 : decode cX4_init 72 = .ok (.anewarray 9, 3) := by decide +kernel
theorem dX4_init_75 : decode cX4_init 75 = .ok (.putfield 49, 3) := by decide +kernel
theorem mw_79 : Cond.fieldLink RX4 49 "TypedTables$Reader" "cells" "[LTypedTables$Cell;" ∈ wsL_law := List.mem_of_getElem? (i := 79) (by decide +kernel)
theorem dX4_init_78 : decode cX4_init 78 = .ok (.aload_n 0, 1) := by decide +kernel
theorem dX4_init_79 : decode cX4_init 79 = .ok (.iconst 0, 1) := by decide +kernel
theorem dX4_init_80 : decode cX4_init 80 = .ok (.putfield 52, 3) := by decide +kernel
theorem mw_80 : Cond.fieldLink RX4 52 "TypedTables$Reader" "rows" "I" ∈ wsL_law := List.mem_of_getElem? (i := 80) (by decide +kernel)
theorem dX4_init_83 : decode cX4_init 83 = .ok (.aload_n 0, 1) := by decide +kernel
theorem dX4_init_84 : decode cX4_init 84 = .ok (.aload_n 1, 1) := by decide +kernel
theorem dX4_init_85 : decode cX4_init 85 = .ok (.putfield 55, 3) := by decide +kernel
theorem mw_81 : Cond.fieldLink RX4 55 "TypedTables$Reader" "tape" "LTypedTables$Tape;" ∈ wsL_law := List.mem_of_getElem? (i := 81) (by decide +kernel)
theorem dX4_init_88 : decode cX4_init 88 = .ok (.aload_n 0, 1) := by decide +kernel
theorem dX4_init_89 : decode cX4_init 89 = .ok (.aload_n 2, 1) := by decide +kernel
theorem dX4_init_90 : decode cX4_init 90 = .ok (.putfield 59, 3) := by decide +kernel
theorem mw_82 : Cond.fieldLink RX4 59 "TypedTables$Reader" "dialect" "[I" ∈ wsL_law := List.mem_of_getElem? (i := 82) (by decide +kernel)
theorem dX4_init_93 : decode cX4_init 93 = .ok (.aload_n 0, 1) := by decide +kernel
theorem dX4_init_94 : decode cX4_init 94 = .ok (.aload_n 3, 1) := by decide +kernel
theorem dX4_init_95 : decode cX4_init 95 = .ok (.putfield 62, 3) := by decide +kernel
theorem mw_83 : Cond.fieldLink RX4 62 "TypedTables$Reader" "fault" "LTypedTables$Fault;" ∈ wsL_law := List.mem_of_getElem? (i := 83) (by decide +kernel)
theorem dX4_init_98 : decode cX4_init 98 = .ok (.return_, 1) := by decide +kernel
theorem mw_8 : Cond.code yX11_init cX11_init 1 none ∈ wsL_law := List.mem_of_getElem? (i := 8) (by decide +kernel)
theorem dX11_init_0 : decode cX11_init 0 = .ok (.aload_n 0, 1) := by decide +kernel
theorem dX11_init_1 : decode cX11_init 1 = .ok (.invokespecial 3, 3) := by decide +kernel
theorem mw_9 : Cond.methodLink RX11 3 objectInit ∈ wsL_law := List.mem_of_getElem? (i := 9) (by decide +kernel)
theorem dX11_init_4 : decode cX11_init 4 = .ok (.aload_n 0, 1) := by decide +kernel
theorem dX11_init_5 : decode cX11_init 5 = .ok (.new 9, 3) := by decide +kernel
theorem mw_12 : Cond.classLink RX11 9 RX6 ∈ wsL_law := List.mem_of_getElem? (i := 12) (by decide +kernel)
theorem mw_13 : Cond.instantiable RX6 6 ∈ wsL_law := List.mem_of_getElem? (i := 13) (by decide +kernel)
theorem dX11_init_8 : decode cX11_init 8 = .ok (.dup, 1) := by decide +kernel
theorem dX11_init_9 : decode cX11_init 9 = .ok (.invokespecial 11, 3) := by decide +kernel
theorem hdI_X6_init : yX6_init.name = "<init>" ∧ okD yX6_init 0 := by decide +kernel
theorem mw_35 : Cond.methodLink RX11 11 yX6_init ∈ wsL_law := List.mem_of_getElem? (i := 35) (by decide +kernel)
theorem mw_36 : Cond.instanceMethod yX6_init ∈ wsL_law := List.mem_of_getElem? (i := 36) (by decide +kernel)
theorem dX11_init_12 : decode cX11_init 12 = .ok (.putfield 12, 3) := by decide +kernel
theorem dX11_init_15 : decode cX11_init 15 = .ok (.aload_n 0, 1) := by decide +kernel
theorem dX11_init_16 : decode cX11_init 16 = .ok (.new 16, 3) := by decide +kernel
theorem mw_16 : Cond.classLink RX11 16 RX8 ∈ wsL_law := List.mem_of_getElem? (i := 16) (by decide +kernel)
theorem mw_17 : Cond.instantiable RX8 2 ∈ wsL_law := List.mem_of_getElem? (i := 17) (by decide +kernel)
theorem mw_18 : Cond.initialized RX8 ∈ wsL_law := List.mem_of_getElem? (i := 18) (by decide +kernel)
theorem dX11_init_19 : decode cX11_init 19 = .ok (.dup, 1) := by decide +kernel
theorem dX11_init_20 : decode cX11_init 20 = .ok (.invokespecial 18, 3) := by decide +kernel
theorem hdI_X8_init : yX8_init.name = "<init>" ∧ okD yX8_init 0 := by decide +kernel
theorem nw_X11_18 : Cond.methodLinkNest RX11 18 yX8_init RX11 ∈ nwL := by decide +kernel
theorem mw_48 : Cond.instanceMethod yX8_init ∈ wsL_law := List.mem_of_getElem? (i := 48) (by decide +kernel)
theorem dX11_init_23 : decode cX11_init 23 = .ok (.putfield 19, 3) := by decide +kernel
theorem mw_19 : Cond.fieldLink RX11 19 "TypedTables" "tape" "LTypedTables$Tape;" ∈ wsL_law := List.mem_of_getElem? (i := 19) (by decide +kernel)
theorem dX11_init_26 : decode cX11_init 26 = .ok (.aload_n 0, 1) := by decide +kernel
theorem dX11_init_27 : decode cX11_init 27 = .ok (.new 23, 3) := by decide +kernel
theorem mw_20 : Cond.classLink RX11 23 RX2 ∈ wsL_law := List.mem_of_getElem? (i := 20) (by decide +kernel)
theorem mw_21 : Cond.instantiable RX2 6 ∈ wsL_law := List.mem_of_getElem? (i := 21) (by decide +kernel)
theorem mw_22 : Cond.initialized RX2 ∈ wsL_law := List.mem_of_getElem? (i := 22) (by decide +kernel)
theorem dX11_init_30 : decode cX11_init 30 = .ok (.dup, 1) := by decide +kernel
theorem dX11_init_31 : decode cX11_init 31 = .ok (.invokespecial 25, 3) := by decide +kernel
theorem hdI_X2_init : yX2_init.name = "<init>" ∧ okD yX2_init 0 := by decide +kernel
theorem nw_X11_25 : Cond.methodLinkNest RX11 25 yX2_init RX11 ∈ nwL := by decide +kernel
theorem mw_53 : Cond.instanceMethod yX2_init ∈ wsL_law := List.mem_of_getElem? (i := 53) (by decide +kernel)
theorem dX11_init_34 : decode cX11_init 34 = .ok (.putfield 26, 3) := by decide +kernel
theorem mw_23 : Cond.fieldLink RX11 26 "TypedTables" "latest" "LTypedTables$Fault;" ∈ wsL_law := List.mem_of_getElem? (i := 23) (by decide +kernel)
theorem dX11_init_37 : decode cX11_init 37 = .ok (.aload_n 0, 1) := by decide +kernel
theorem dX11_init_38 : decode cX11_init 38 = .ok (.new 30, 3) := by decide +kernel
theorem mw_24 : Cond.classLink RX11 30 RX4 ∈ wsL_law := List.mem_of_getElem? (i := 24) (by decide +kernel)
theorem mw_25 : Cond.instantiable RX4 14 ∈ wsL_law := List.mem_of_getElem? (i := 25) (by decide +kernel)
theorem mw_26 : Cond.initialized RX4 ∈ wsL_law := List.mem_of_getElem? (i := 26) (by decide +kernel)
theorem dX11_init_41 : decode cX11_init 41 = .ok (.dup, 1) := by decide +kernel
theorem dX11_init_42 : decode cX11_init 42 = .ok (.aload_n 0, 1) := by decide +kernel
theorem dX11_init_43 : decode cX11_init 43 = .ok (.getfield 19, 3) := by decide +kernel
theorem dX11_init_46 : decode cX11_init 46 = .ok (.aload_n 0, 1) := by decide +kernel
theorem dX11_init_47 : decode cX11_init 47 = .ok (.getfield 12, 3) := by decide +kernel
theorem dX11_init_50 : decode cX11_init 50 = .ok (.getfield 32, 3) := by decide +kernel
theorem mw_27 : Cond.fieldLink RX11 32 "TypedTables$State" "dialect" "[I" ∈ wsL_law := List.mem_of_getElem? (i := 27) (by decide +kernel)
theorem dX11_init_53 : decode cX11_init 53 = .ok (.aload_n 0, 1) := by decide +kernel
theorem dX11_init_54 : decode cX11_init 54 = .ok (.getfield 26, 3) := by decide +kernel
theorem dX11_init_57 : decode cX11_init 57 = .ok (.invokespecial 36, 3) := by decide +kernel
theorem hdI_X4_init : yX4_init.name = "<init>" ∧ okD yX4_init 3 := by decide +kernel
theorem mw_62 : Cond.methodLink RX11 36 yX4_init ∈ wsL_law := List.mem_of_getElem? (i := 62) (by decide +kernel)
theorem mw_63 : Cond.instanceMethod yX4_init ∈ wsL_law := List.mem_of_getElem? (i := 63) (by decide +kernel)
theorem dX11_init_60 : decode cX11_init 60 = .ok (.putfield 39, 3) := by decide +kernel
theorem mw_28 : Cond.fieldLink RX11 39 "TypedTables" "reader" "LTypedTables$Reader;" ∈ wsL_law := List.mem_of_getElem? (i := 28) (by decide +kernel)
theorem dX11_init_63 : decode cX11_init 63 = .ok (.aload_n 0, 1) := by decide +kernel
theorem dX11_init_64 : decode cX11_init 64 = .ok (.new 43, 3) := by decide +kernel
theorem mw_29 : Cond.classLink RX11 43 RX10 ∈ wsL_law := List.mem_of_getElem? (i := 29) (by decide +kernel)
theorem mw_30 : Cond.instantiable RX10 3 ∈ wsL_law := List.mem_of_getElem? (i := 30) (by decide +kernel)
theorem mw_31 : Cond.initialized RX10 ∈ wsL_law := List.mem_of_getElem? (i := 31) (by decide +kernel)
theorem dX11_init_67 : decode cX11_init 67 = .ok (.dup, 1) := by decide +kernel
theorem dX11_init_68 : decode cX11_init 68 = .ok (.aload_n 0, 1) := by decide +kernel
theorem dX11_init_69 : decode cX11_init 69 = .ok (.getfield 12, 3) := by decide +kernel
theorem dX11_init_72 : decode cX11_init 72 = .ok (.getfield 32, 3) := by decide +kernel
theorem dX11_init_75 : decode cX11_init 75 = .ok (.invokespecial 45, 3) := by decide +kernel
theorem hdI_X10_init : yX10_init.name = "<init>" ∧ okD yX10_init 1 := by decide +kernel
theorem mw_176 : Cond.methodLink RX11 45 yX10_init ∈ wsL_law := List.mem_of_getElem? (i := 176) (by decide +kernel)
theorem mw_177 : Cond.instanceMethod yX10_init ∈ wsL_law := List.mem_of_getElem? (i := 177) (by decide +kernel)
theorem dX11_init_78 : decode cX11_init 78 = .ok (.putfield 48, 3) := by decide +kernel
theorem mw_32 : Cond.fieldLink RX11 48 "TypedTables" "writer" "LTypedTables$Writer;" ∈ wsL_law := List.mem_of_getElem? (i := 32) (by decide +kernel)
theorem dX11_init_81 : decode cX11_init 81 = .ok (.aload_n 0, 1) := by decide +kernel
theorem dX11_init_82 : decode cX11_init 82 = .ok (.new 9, 3) := by decide +kernel
theorem dX11_init_85 : decode cX11_init 85 = .ok (.dup, 1) := by decide +kernel
theorem dX11_init_86 : decode cX11_init 86 = .ok (.invokespecial 11, 3) := by decide +kernel
theorem dX11_init_89 : decode cX11_init 89 = .ok (.putfield 52, 3) := by decide +kernel
theorem mw_33 : Cond.fieldLink RX11 52 "TypedTables" "kept" "LTypedTables$State;" ∈ wsL_law := List.mem_of_getElem? (i := 33) (by decide +kernel)
theorem dX11_init_92 : decode cX11_init 92 = .ok (.aload_n 0, 1) := by decide +kernel
theorem dX11_init_93 : decode cX11_init 93 = .ok (.iconst 0, 1) := by decide +kernel
theorem dX11_init_94 : decode cX11_init 94 = .ok (.putfield 55, 3) := by decide +kernel
theorem mw_34 : Cond.fieldLink RX11 55 "TypedTables" "hasImage" "Z" ∈ wsL_law := List.mem_of_getElem? (i := 34) (by decide +kernel)
theorem dX11_init_97 : decode cX11_init 97 = .ok (.return_, 1) := by decide +kernel
set_option maxHeartbeats 4000000 in
set_option maxRecDepth 100000 in
theorem c_X0_kindOf (l : Launch) (D : va_G) (κ : Nat → ClassId) (b1 : Nat) : Cr l yX0_kindOf (wl yX0_kindOf cX0_kindOf 1 (some .int)) { frames := 0, cells := 0, slots := 0, locals := 0 } D κ [.ref b1] (va_P D vwCl [(b1, .inl (κ 1, 0, .inl (fun _ => 0)))]) (fun _ : Unit => some (.int 0)) (fun _ : Unit => True) := by
  refine cr_of (by decide +kernel) (Nat.le_of_ble_eq_true rfl) ?_
  intro p e s m args below meth c ls hx hb hr hml hts hown hlk hKK hK hI hl
  have hP : va_P D vwCl [(b1, .inl (κ 1, 0, .inl (fun _ => 0)))] s.heap := hI
  have hFX : FX p s m args c cX0_kindOf 1 RX0 := ⟨hx, hb, hml, hown, hts⟩
  have hl : lv_has ls 1 [(0, .ref b1)] := hl
  refine lv_aload_n hx hb dX0_kindOf_0 rfl (lv_at hl 0 rfl) ?_
  refine va_alen hx hb hK hP 0 1 rfl rfl (v := 0) rfl dX0_kindOf_1 ?_
  refine lv_if_ne (tgt := 7) hx hb dX0_kindOf_2 (by decide) (fun c_1 => absurd (by decide) c_1) (fun c_1 => ?_)
  refine lv_iconst (v := 0) hx hb dX0_kindOf_5 (by decide) ?_
  exact cr_iret hx hb hr hlk rfl () rfl trivial dX0_kindOf_6
set_option maxHeartbeats 4000000 in
set_option maxRecDepth 100000 in
theorem c_X0_numberOf (l : Launch) (D : va_G) (κ : Nat → ClassId) (b1 : Nat) : Cr l yX0_numberOf (wl yX0_numberOf cX0_numberOf 2 (some .long)) { frames := 0, cells := 0, slots := 0, locals := 0 } D κ [.ref b1, .int 0] (va_P D vwCl [(b1, .inl (κ 1, 0, .inl (fun _ => 0)))]) (fun _ : Unit => some (.long 0)) (fun _ : Unit => True) := by
  refine cr_of (by decide +kernel) (Nat.le_of_ble_eq_true rfl) ?_
  intro p e s m args below meth c ls hx hb hr hml hts hown hlk hKK hK hI hl
  have hP : va_P D vwCl [(b1, .inl (κ 1, 0, .inl (fun _ => 0)))] s.heap := hI
  have hFX : FX p s m args c cX0_numberOf 2 RX0 := ⟨hx, hb, hml, hown, hts⟩
  have hl : lv_has ls 2 [(0, .ref b1), (1, .int 0)] := hl
  refine lv_iload_n hx hb dX0_numberOf_0 rfl (lv_at hl 1 rfl) ?_
  refine lv_tableOut (tgt := 71) hx hb dX0_numberOf_1 (by decide) (by decide) ?_
  refine lv_aload_n hx hb dX0_numberOf_71 rfl (lv_at hl 0 rfl) ?_
  refine va_alen hx hb hK hP 0 1 rfl rfl (v := 0) rfl dX0_numberOf_72 ?_
  refine lv_i2l (v := 0) hx hb dX0_numberOf_73 (by decide) ?_
  exact cr_lret hx hb hr hlk () rfl trivial dX0_numberOf_74
set_option maxHeartbeats 4000000 in
set_option maxRecDepth 100000 in
theorem c_X0_init (l : Launch) (D : va_G) (κ : Nat → ClassId) (b0 : Nat) (b1 : Nat) : Ct l yX0_init (wl yX0_init cX0_init 2 none) { frames := 1, cells := 0, slots := 0, locals := 21 } D κ [.ref b0, .ref b1] [(b0, .inr (0, [.null, .int 0, .long 0])), (b1, .inl (κ 1, 0, .inl (fun _ => 0)))] (fun _ => True) (fun _ : Unit => none) (fun _ : Unit => True) (fun _ : Unit => [(b0, .inr (0, [.ref b1, .int 0, .long 0])), (b1, .inl (κ 1, 0, .inl (fun _ => 0)))]) (fun _ _ => True) := by
  refine ct_of (by decide +kernel) (Nat.le_of_ble_eq_true rfl) ?_
  intro p e s m args below meth c A ls hx hb hr hml hts hown hlk hin hKK hK hA hP hD hS hI hl
  have hS : va_S A s.heap s.heap [] := hS
  have hFX : FX p s m args c cX0_init 2 RX0 := ⟨hx, hb, hml, hown, hts⟩
  have hl : lv_has ls 2 [(0, .ref b0), (1, .ref b1)] := hl
  refine lv_aload_n hx hb dX0_init_0 rfl (lv_at hl 0 rfl) ?_
  refine W.objInit hx hb hown (hts _ mw_87) (hts _ mw_10) (hts _ mw_11) rfl (by rw [hml]; exact hl.1) rfl dX0_init_1 (Nat.le_of_ble_eq_true rfl) (Nat.le_of_ble_eq_true rfl) ?_
  refine W.eq (g2 := F0 m 4 ls []) rfl ?_
  refine lv_aload_n hx hb dX0_init_4 rfl (lv_at hl 0 rfl) ?_
  refine lv_aload_n hx hb dX0_init_5 rfl (lv_at hl 1 rfl) ?_
  refine va_putF (D := D) (ci := 0) (v := .ref b1) (ty := tyX0 0) (C := RX0) (T := TX0) (N := 3) hx hb hts inlX0 tyX0 tyX0_ok nmX0 hown hK hP hD hS 0 rfl rfl 0 (by decide) (hts _ mw_88) (fun _ h9 => h9) rfl hin rfl (tyX0_ok 0 (by decide)) rfl rfl (Nat.le_of_ble_eq_true rfl) dX0_init_6 (fun H locs hP hD hS => ?_)
  have hP : va_P D vwCl [(b0, .inr (0, [.ref b1, .int 0, .long 0])), (b1, .inl (κ 1, 0, .inl (fun _ => 0)))] H := hP
  have hD : va_D A [(b0, .inr (0, [.ref b1, .int 0, .long 0])), (b1, .inl (κ 1, 0, .inl (fun _ => 0)))] := hD
  refine lv_aload_n hx hb dX0_init_9 rfl (lv_at hl 0 rfl) ?_
  refine lv_aload_n hx hb dX0_init_10 rfl (lv_at hl 1 rfl) ?_
  refine cr_S (As := [.ref b1]) (rest := [.ref b0]) hFX hKK (c_X0_kindOf l D κ b1) 1 gS_X0_15 hdS_X0_kindOf rfl rfl ⟨Nat.le_of_ble_eq_true rfl, Nat.le_of_ble_eq_true rfl⟩ rfl rfl (Nat.le_of_ble_eq_true rfl) dX0_init_11 ⟨Nat.le_of_ble_eq_true rfl, Nat.le_of_ble_eq_true rfl⟩ hl.1 (hP.sub [1] rfl) (fun _ hp_1 => ?_)
  refine W.eq (g2 := F0 m 14 ls [.int 0, .ref b0]) rfl ?_
  refine va_putF (D := D) (ci := 0) (v := .int 0) (ty := tyX0 1) (C := RX0) (T := TX0) (N := 3) hx hb hts inlX0 tyX0 tyX0_ok nmX0 hown hK hP hD hS 0 rfl rfl 1 (by decide) (hts _ mw_89) (fun _ h9 => h9) rfl hin rfl (tyX0_ok 1 (by decide)) rfl rfl (Nat.le_of_ble_eq_true rfl) dX0_init_14 (fun H locs hP hD hS => ?_)
  have hP : va_P D vwCl [(b0, .inr (0, [.ref b1, .int 0, .long 0])), (b1, .inl (κ 1, 0, .inl (fun _ => 0)))] H := hP
  have hD : va_D A [(b0, .inr (0, [.ref b1, .int 0, .long 0])), (b1, .inl (κ 1, 0, .inl (fun _ => 0)))] := hD
  refine lv_aload_n hx hb dX0_init_17 rfl (lv_at hl 0 rfl) ?_
  refine lv_aload_n hx hb dX0_init_18 rfl (lv_at hl 1 rfl) ?_
  refine lv_aload_n hx hb dX0_init_19 rfl (lv_at hl 0 rfl) ?_
  refine va_get (D := D) (ci := 0) (v := .int 0) (C := RX0) (T := TX0) (N := 3) hx hb hts inlX0 hown hK hP 0 rfl rfl 1 (by decide) (hts _ mw_89) (fun _ h9 => h9) rfl dX0_init_20 ?_
  refine cr_S (As := [.ref b1, .int 0]) (rest := [.ref b0]) hFX hKK (c_X0_numberOf l D κ b1) 2 gS_X0_23 hdS_X0_numberOf rfl rfl ⟨Nat.le_of_ble_eq_true rfl, Nat.le_of_ble_eq_true rfl⟩ rfl rfl (Nat.le_of_ble_eq_true rfl) dX0_init_23 ⟨Nat.le_of_ble_eq_true rfl, Nat.le_of_ble_eq_true rfl⟩ hl.1 (hP.sub [1] rfl) (fun _ hp_2 => ?_)
  refine W.eq (g2 := F0 m 26 ls [.long 0, .ref b0]) rfl ?_
  refine va_putF (D := D) (ci := 0) (v := .long 0) (ty := tyX0 2) (C := RX0) (T := TX0) (N := 3) hx hb hts inlX0 tyX0 tyX0_ok nmX0 hown hK hP hD hS 0 rfl rfl 2 (by decide) (hts _ mw_90) (fun _ h9 => h9) rfl hin rfl (tyX0_ok 2 (by decide)) rfl rfl (Nat.le_of_ble_eq_true rfl) dX0_init_26 (fun H locs hP hD hS => ?_)
  have hP : va_P D vwCl [(b0, .inr (0, [.ref b1, .int 0, .long 0])), (b1, .inl (κ 1, 0, .inl (fun _ => 0)))] H := hP
  have hD : va_D A [(b0, .inr (0, [.ref b1, .int 0, .long 0])), (b1, .inl (κ 1, 0, .inl (fun _ => 0)))] := hD
  exact ct_vret hx hb hr hlk hS hP hD () rfl trivial [0, 1] rfl (by decide) trivial (Nat.le_of_ble_eq_true rfl) (Nat.le_of_ble_eq_true rfl) dX0_init_29
set_option maxHeartbeats 4000000 in
set_option maxRecDepth 100000 in
theorem c_X6_init (l : Launch) (D : va_G) (κ : Nat → ClassId) (n0 : Nat) : Ct l yX6_init (wl yX6_init cX6_init 1 none) { frames := 1, cells := 5, slots := 24, locals := 12 } D κ [.ref n0] [(n0, .inr (6, [.null, .null, .null, .null, .null, .int 0]))] (fun _ => True) (fun u9 : Nat × Nat × Nat × Nat × Nat => none) (fun u9 : Nat × Nat × Nat × Nat × Nat => True) (fun u9 : Nat × Nat × Nat × Nat × Nat => [(n0, .inr (6, [.ref u9.1, .ref u9.2.1, .ref u9.2.2.1, .ref u9.2.2.2.1, .ref u9.2.2.2.2, .int 0])), (u9.1, .inl (κ 0, 6, .inl dial0)), (u9.2.1, .inl (κ 4, 3, .inr (.inr (.inr (.inr (fun _ => none)))))), (u9.2.2.1, .inl (κ 5, 3, .inr (.inr (.inr (.inr (fun _ => none)))))), (u9.2.2.2.1, .inl (κ 0, 6, .inl (fun _ => 0))), (u9.2.2.2.2, .inl (κ 4, 6, .inr (.inr (.inr (.inr (fun _ => none))))))]) (fun _ _ => True) := by
  refine ct_of (by decide +kernel) (Nat.le_of_ble_eq_true rfl) ?_
  intro p e s m args below meth c A ls hx hb hr hml hts hown hlk hin hKK hK hA hP hD hS hI hl
  have hS : va_S A s.heap s.heap [] := hS
  have hFX : FX p s m args c cX6_init 1 RX6 := ⟨hx, hb, hml, hown, hts⟩
  have hl : lv_has ls 1 [(0, .ref n0)] := hl
  refine lv_aload_n hx hb dX6_init_0 rfl (lv_at hl 0 rfl) ?_
  refine W.objInit hx hb hown (hts _ mw_38) (hts _ mw_10) (hts _ mw_11) rfl (by rw [hml]; exact hl.1) rfl dX6_init_1 (Nat.le_of_ble_eq_true rfl) (Nat.le_of_ble_eq_true rfl) ?_
  refine W.eq (g2 := F0 m 4 ls []) rfl ?_
  refine lv_aload_n hx hb dX6_init_4 rfl (lv_at hl 0 rfl) ?_
  refine lv_bipush (v := 6) hx hb dX6_init_5 (by decide) ?_
  refine my_newa (atype := .int) hx hb (hts _ mw_39) rfl hK hP hD hS hA 0 rfl (N' := 6) (a0 := (6, .inl (fun _ => 0))) (fun _ => rfl) (by decide) (by decide) (Nat.le_of_ble_eq_true rfl) (Nat.le_of_ble_eq_true rfl) (Nat.le_of_ble_eq_true rfl) dX6_init_7 (fun q_1 H hP hD hS => ?_)
  have hP : va_P D vwCl [(n0, .inr (6, [.null, .null, .null, .null, .null, .int 0])), (q_1, .inl (κ 0, 6, .inl (fun _ => 0)))] H := hP
  have hD : va_D A [(n0, .inr (6, [.null, .null, .null, .null, .null, .int 0])), (q_1, .inl (κ 0, 6, .inl (fun _ => 0)))] := hD
  refine va_putF (D := D) (ci := 6) (v := .ref q_1) (ty := tyX6 0) (C := RX6) (T := TX6) (N := 6) hx hb hts inlX6 tyX6 tyX6_ok nmX6 hown hK hP hD hS 0 rfl rfl 0 (by decide) (hts _ mw_40) (fun _ h9 => h9) rfl hin rfl (tyX6_ok 0 (by decide)) rfl rfl (Nat.le_of_ble_eq_true rfl) dX6_init_9 (fun H locs hP hD hS => ?_)
  have hP : va_P D vwCl [(n0, .inr (6, [.ref q_1, .null, .null, .null, .null, .int 0])), (q_1, .inl (κ 0, 6, .inl (fun _ => 0)))] H := hP
  have hD : va_D A [(n0, .inr (6, [.ref q_1, .null, .null, .null, .null, .int 0])), (q_1, .inl (κ 0, 6, .inl (fun _ => 0)))] := hD
  refine lv_aload_n hx hb dX6_init_12 rfl (lv_at hl 0 rfl) ?_
  refine lv_iconst (v := 3) hx hb dX6_init_13 (by decide) ?_
  refine my_newq hx hb hown (hts _ mw_41) hKK.2.2.2.1 hK hP hD hS hA 4 rfl (N' := 3) (by decide) (by decide) (Nat.le_of_ble_eq_true rfl) (Nat.le_of_ble_eq_true rfl) (Nat.le_of_ble_eq_true rfl) dX6_init_14 (fun q_2 H hP hD hS => ?_)
  have hP : va_P D vwCl [(n0, .inr (6, [.ref q_1, .null, .null, .null, .null, .int 0])), (q_1, .inl (κ 0, 6, .inl (fun _ => 0))), (q_2, .inl (κ 4, 3, .inr (.inr (.inr (.inr (fun _ => none))))))] H := hP
  have hD : va_D A [(n0, .inr (6, [.ref q_1, .null, .null, .null, .null, .int 0])), (q_1, .inl (κ 0, 6, .inl (fun _ => 0))), (q_2, .inl (κ 4, 3, .inr (.inr (.inr (.inr (fun _ => none))))))] := hD
  refine va_putF (D := D) (ci := 6) (v := .ref q_2) (ty := tyX6 1) (C := RX6) (T := TX6) (N := 6) hx hb hts inlX6 tyX6 tyX6_ok nmX6 hown hK hP hD hS 0 rfl rfl 1 (by decide) (hts _ mw_42) (fun _ h9 => h9) rfl hin rfl (tyX6_ok 1 (by decide)) rfl rfl (Nat.le_of_ble_eq_true rfl) dX6_init_17 (fun H locs hP hD hS => ?_)
  have hP : va_P D vwCl [(n0, .inr (6, [.ref q_1, .ref q_2, .null, .null, .null, .int 0])), (q_1, .inl (κ 0, 6, .inl (fun _ => 0))), (q_2, .inl (κ 4, 3, .inr (.inr (.inr (.inr (fun _ => none))))))] H := hP
  have hD : va_D A [(n0, .inr (6, [.ref q_1, .ref q_2, .null, .null, .null, .int 0])), (q_1, .inl (κ 0, 6, .inl (fun _ => 0))), (q_2, .inl (κ 4, 3, .inr (.inr (.inr (.inr (fun _ => none))))))] := hD
  refine lv_aload_n hx hb dX6_init_20 rfl (lv_at hl 0 rfl) ?_
  refine lv_iconst (v := 3) hx hb dX6_init_21 (by decide) ?_
  refine my_newq hx hb hown (hts _ mw_43) hKK.2.2.2.2.1 hK hP hD hS hA 5 rfl (N' := 3) (by decide) (by decide) (Nat.le_of_ble_eq_true rfl) (Nat.le_of_ble_eq_true rfl) (Nat.le_of_ble_eq_true rfl) dX6_init_22 (fun q_3 H hP hD hS => ?_)
  have hP : va_P D vwCl [(n0, .inr (6, [.ref q_1, .ref q_2, .null, .null, .null, .int 0])), (q_1, .inl (κ 0, 6, .inl (fun _ => 0))), (q_2, .inl (κ 4, 3, .inr (.inr (.inr (.inr (fun _ => none)))))), (q_3, .inl (κ 5, 3, .inr (.inr (.inr (.inr (fun _ => none))))))] H := hP
  have hD : va_D A [(n0, .inr (6, [.ref q_1, .ref q_2, .null, .null, .null, .int 0])), (q_1, .inl (κ 0, 6, .inl (fun _ => 0))), (q_2, .inl (κ 4, 3, .inr (.inr (.inr (.inr (fun _ => none)))))), (q_3, .inl (κ 5, 3, .inr (.inr (.inr (.inr (fun _ => none))))))] := hD
  refine va_putF (D := D) (ci := 6) (v := .ref q_3) (ty := tyX6 2) (C := RX6) (T := TX6) (N := 6) hx hb hts inlX6 tyX6 tyX6_ok nmX6 hown hK hP hD hS 0 rfl rfl 2 (by decide) (hts _ mw_44) (fun _ h9 => h9) rfl hin rfl (tyX6_ok 2 (by decide)) rfl rfl (Nat.le_of_ble_eq_true rfl) dX6_init_25 (fun H locs hP hD hS => ?_)
  have hP : va_P D vwCl [(n0, .inr (6, [.ref q_1, .ref q_2, .ref q_3, .null, .null, .int 0])), (q_1, .inl (κ 0, 6, .inl (fun _ => 0))), (q_2, .inl (κ 4, 3, .inr (.inr (.inr (.inr (fun _ => none)))))), (q_3, .inl (κ 5, 3, .inr (.inr (.inr (.inr (fun _ => none))))))] H := hP
  have hD : va_D A [(n0, .inr (6, [.ref q_1, .ref q_2, .ref q_3, .null, .null, .int 0])), (q_1, .inl (κ 0, 6, .inl (fun _ => 0))), (q_2, .inl (κ 4, 3, .inr (.inr (.inr (.inr (fun _ => none)))))), (q_3, .inl (κ 5, 3, .inr (.inr (.inr (.inr (fun _ => none))))))] := hD
  refine lv_aload_n hx hb dX6_init_28 rfl (lv_at hl 0 rfl) ?_
  refine lv_bipush (v := 6) hx hb dX6_init_29 (by decide) ?_
  refine my_newa (atype := .int) hx hb (hts _ mw_39) rfl hK hP hD hS hA 0 rfl (N' := 6) (a0 := (6, .inl (fun _ => 0))) (fun _ => rfl) (by decide) (by decide) (Nat.le_of_ble_eq_true rfl) (Nat.le_of_ble_eq_true rfl) (Nat.le_of_ble_eq_true rfl) dX6_init_31 (fun q_4 H hP hD hS => ?_)
  have hP : va_P D vwCl [(n0, .inr (6, [.ref q_1, .ref q_2, .ref q_3, .null, .null, .int 0])), (q_1, .inl (κ 0, 6, .inl (fun _ => 0))), (q_2, .inl (κ 4, 3, .inr (.inr (.inr (.inr (fun _ => none)))))), (q_3, .inl (κ 5, 3, .inr (.inr (.inr (.inr (fun _ => none)))))), (q_4, .inl (κ 0, 6, .inl (fun _ => 0)))] H := hP
  have hD : va_D A [(n0, .inr (6, [.ref q_1, .ref q_2, .ref q_3, .null, .null, .int 0])), (q_1, .inl (κ 0, 6, .inl (fun _ => 0))), (q_2, .inl (κ 4, 3, .inr (.inr (.inr (.inr (fun _ => none)))))), (q_3, .inl (κ 5, 3, .inr (.inr (.inr (.inr (fun _ => none)))))), (q_4, .inl (κ 0, 6, .inl (fun _ => 0)))] := hD
  refine va_putF (D := D) (ci := 6) (v := .ref q_4) (ty := tyX6 3) (C := RX6) (T := TX6) (N := 6) hx hb hts inlX6 tyX6 tyX6_ok nmX6 hown hK hP hD hS 0 rfl rfl 3 (by decide) (hts _ mw_45) (fun _ h9 => h9) rfl hin rfl (tyX6_ok 3 (by decide)) rfl rfl (Nat.le_of_ble_eq_true rfl) dX6_init_33 (fun H locs hP hD hS => ?_)
  have hP : va_P D vwCl [(n0, .inr (6, [.ref q_1, .ref q_2, .ref q_3, .ref q_4, .null, .int 0])), (q_1, .inl (κ 0, 6, .inl (fun _ => 0))), (q_2, .inl (κ 4, 3, .inr (.inr (.inr (.inr (fun _ => none)))))), (q_3, .inl (κ 5, 3, .inr (.inr (.inr (.inr (fun _ => none)))))), (q_4, .inl (κ 0, 6, .inl (fun _ => 0)))] H := hP
  have hD : va_D A [(n0, .inr (6, [.ref q_1, .ref q_2, .ref q_3, .ref q_4, .null, .int 0])), (q_1, .inl (κ 0, 6, .inl (fun _ => 0))), (q_2, .inl (κ 4, 3, .inr (.inr (.inr (.inr (fun _ => none)))))), (q_3, .inl (κ 5, 3, .inr (.inr (.inr (.inr (fun _ => none)))))), (q_4, .inl (κ 0, 6, .inl (fun _ => 0)))] := hD
  refine lv_aload_n hx hb dX6_init_36 rfl (lv_at hl 0 rfl) ?_
  refine lv_bipush (v := 6) hx hb dX6_init_37 (by decide) ?_
  refine my_newq hx hb hown (hts _ mw_41) hKK.2.2.2.1 hK hP hD hS hA 4 rfl (N' := 6) (by decide) (by decide) (Nat.le_of_ble_eq_true rfl) (Nat.le_of_ble_eq_true rfl) (Nat.le_of_ble_eq_true rfl) dX6_init_39 (fun q_5 H hP hD hS => ?_)
  have hP : va_P D vwCl [(n0, .inr (6, [.ref q_1, .ref q_2, .ref q_3, .ref q_4, .null, .int 0])), (q_1, .inl (κ 0, 6, .inl (fun _ => 0))), (q_2, .inl (κ 4, 3, .inr (.inr (.inr (.inr (fun _ => none)))))), (q_3, .inl (κ 5, 3, .inr (.inr (.inr (.inr (fun _ => none)))))), (q_4, .inl (κ 0, 6, .inl (fun _ => 0))), (q_5, .inl (κ 4, 6, .inr (.inr (.inr (.inr (fun _ => none))))))] H := hP
  have hD : va_D A [(n0, .inr (6, [.ref q_1, .ref q_2, .ref q_3, .ref q_4, .null, .int 0])), (q_1, .inl (κ 0, 6, .inl (fun _ => 0))), (q_2, .inl (κ 4, 3, .inr (.inr (.inr (.inr (fun _ => none)))))), (q_3, .inl (κ 5, 3, .inr (.inr (.inr (.inr (fun _ => none)))))), (q_4, .inl (κ 0, 6, .inl (fun _ => 0))), (q_5, .inl (κ 4, 6, .inr (.inr (.inr (.inr (fun _ => none))))))] := hD
  refine va_putF (D := D) (ci := 6) (v := .ref q_5) (ty := tyX6 4) (C := RX6) (T := TX6) (N := 6) hx hb hts inlX6 tyX6 tyX6_ok nmX6 hown hK hP hD hS 0 rfl rfl 4 (by decide) (hts _ mw_46) (fun _ h9 => h9) rfl hin rfl (tyX6_ok 4 (by decide)) rfl rfl (Nat.le_of_ble_eq_true rfl) dX6_init_42 (fun H locs hP hD hS => ?_)
  have hP : va_P D vwCl [(n0, .inr (6, [.ref q_1, .ref q_2, .ref q_3, .ref q_4, .ref q_5, .int 0])), (q_1, .inl (κ 0, 6, .inl (fun _ => 0))), (q_2, .inl (κ 4, 3, .inr (.inr (.inr (.inr (fun _ => none)))))), (q_3, .inl (κ 5, 3, .inr (.inr (.inr (.inr (fun _ => none)))))), (q_4, .inl (κ 0, 6, .inl (fun _ => 0))), (q_5, .inl (κ 4, 6, .inr (.inr (.inr (.inr (fun _ => none))))))] H := hP
  have hD : va_D A [(n0, .inr (6, [.ref q_1, .ref q_2, .ref q_3, .ref q_4, .ref q_5, .int 0])), (q_1, .inl (κ 0, 6, .inl (fun _ => 0))), (q_2, .inl (κ 4, 3, .inr (.inr (.inr (.inr (fun _ => none)))))), (q_3, .inl (κ 5, 3, .inr (.inr (.inr (.inr (fun _ => none)))))), (q_4, .inl (κ 0, 6, .inl (fun _ => 0))), (q_5, .inl (κ 4, 6, .inr (.inr (.inr (.inr (fun _ => none))))))] := hD
  refine lv_aload_n hx hb dX6_init_45 rfl (lv_at hl 0 rfl) ?_
  refine lv_iconst (v := 0) hx hb dX6_init_46 (by decide) ?_
  refine va_put (D := D) (ci := 6) (v := .int 0) (ty := tyX6 5) (C := RX6) (T := TX6) (N := 6) hx hb hts inlX6 tyX6 tyX6_ok nmX6 hown hK hP hD hS 0 rfl rfl 5 (by decide) (hts _ mw_47) (fun _ h9 => h9) rfl (tyX6_ok 5 (by decide)) rfl rfl (Nat.le_of_ble_eq_true rfl) dX6_init_47 (fun H locs hP hD hS => ?_)
  have hP : va_P D vwCl [(n0, .inr (6, [.ref q_1, .ref q_2, .ref q_3, .ref q_4, .ref q_5, .int 0])), (q_1, .inl (κ 0, 6, .inl (fun _ => 0))), (q_2, .inl (κ 4, 3, .inr (.inr (.inr (.inr (fun _ => none)))))), (q_3, .inl (κ 5, 3, .inr (.inr (.inr (.inr (fun _ => none)))))), (q_4, .inl (κ 0, 6, .inl (fun _ => 0))), (q_5, .inl (κ 4, 6, .inr (.inr (.inr (.inr (fun _ => none))))))] H := hP
  have hD : va_D A [(n0, .inr (6, [.ref q_1, .ref q_2, .ref q_3, .ref q_4, .ref q_5, .int 0])), (q_1, .inl (κ 0, 6, .inl (fun _ => 0))), (q_2, .inl (κ 4, 3, .inr (.inr (.inr (.inr (fun _ => none)))))), (q_3, .inl (κ 5, 3, .inr (.inr (.inr (.inr (fun _ => none)))))), (q_4, .inl (κ 0, 6, .inl (fun _ => 0))), (q_5, .inl (κ 4, 6, .inr (.inr (.inr (.inr (fun _ => none))))))] := hD
  refine lv_aload_n hx hb dX6_init_50 rfl (lv_at hl 0 rfl) ?_
  refine va_get (D := D) (ci := 6) (v := .ref q_1) (C := RX6) (T := TX6) (N := 6) hx hb hts inlX6 hown hK hP 0 rfl rfl 0 (by decide) (hts _ mw_40) (fun _ h9 => h9) rfl dX6_init_51 ?_
  refine lv_iconst (v := 0) hx hb dX6_init_54 (by decide) ?_
  refine lv_bipush (v := 44) hx hb dX6_init_55 (by decide) ?_
  refine va_iast hx hb hK hP hD hS 1 0 rfl rfl (i := 0) (x := 44) (vp_k (by decide)) dX6_init_57 (fun H locs hP hD hS => ?_)
  have hP : va_P D vwCl [(n0, .inr (6, [.ref q_1, .ref q_2, .ref q_3, .ref q_4, .ref q_5, .int 0])), (q_1, .inl (κ 0, 6, .inl (upd (fun _ => 0) 0 44))), (q_2, .inl (κ 4, 3, .inr (.inr (.inr (.inr (fun _ => none)))))), (q_3, .inl (κ 5, 3, .inr (.inr (.inr (.inr (fun _ => none)))))), (q_4, .inl (κ 0, 6, .inl (fun _ => 0))), (q_5, .inl (κ 4, 6, .inr (.inr (.inr (.inr (fun _ => none))))))] H := hP
  have hD : va_D A [(n0, .inr (6, [.ref q_1, .ref q_2, .ref q_3, .ref q_4, .ref q_5, .int 0])), (q_1, .inl (κ 0, 6, .inl (upd (fun _ => 0) 0 44))), (q_2, .inl (κ 4, 3, .inr (.inr (.inr (.inr (fun _ => none)))))), (q_3, .inl (κ 5, 3, .inr (.inr (.inr (.inr (fun _ => none)))))), (q_4, .inl (κ 0, 6, .inl (fun _ => 0))), (q_5, .inl (κ 4, 6, .inr (.inr (.inr (.inr (fun _ => none))))))] := hD
  refine lv_aload_n hx hb dX6_init_58 rfl (lv_at hl 0 rfl) ?_
  refine va_get (D := D) (ci := 6) (v := .ref q_1) (C := RX6) (T := TX6) (N := 6) hx hb hts inlX6 hown hK hP 0 rfl rfl 0 (by decide) (hts _ mw_40) (fun _ h9 => h9) rfl dX6_init_59 ?_
  refine lv_iconst (v := 1) hx hb dX6_init_62 (by decide) ?_
  refine lv_bipush (v := 34) hx hb dX6_init_63 (by decide) ?_
  refine va_iast hx hb hK hP hD hS 1 0 rfl rfl (i := 1) (x := 34) (vp_k (by decide)) dX6_init_65 (fun H locs hP hD hS => ?_)
  have hP : va_P D vwCl [(n0, .inr (6, [.ref q_1, .ref q_2, .ref q_3, .ref q_4, .ref q_5, .int 0])), (q_1, .inl (κ 0, 6, .inl (upd (upd (fun _ => 0) 0 44) 1 34))), (q_2, .inl (κ 4, 3, .inr (.inr (.inr (.inr (fun _ => none)))))), (q_3, .inl (κ 5, 3, .inr (.inr (.inr (.inr (fun _ => none)))))), (q_4, .inl (κ 0, 6, .inl (fun _ => 0))), (q_5, .inl (κ 4, 6, .inr (.inr (.inr (.inr (fun _ => none))))))] H := hP
  have hD : va_D A [(n0, .inr (6, [.ref q_1, .ref q_2, .ref q_3, .ref q_4, .ref q_5, .int 0])), (q_1, .inl (κ 0, 6, .inl (upd (upd (fun _ => 0) 0 44) 1 34))), (q_2, .inl (κ 4, 3, .inr (.inr (.inr (.inr (fun _ => none)))))), (q_3, .inl (κ 5, 3, .inr (.inr (.inr (.inr (fun _ => none)))))), (q_4, .inl (κ 0, 6, .inl (fun _ => 0))), (q_5, .inl (κ 4, 6, .inr (.inr (.inr (.inr (fun _ => none))))))] := hD
  refine lv_aload_n hx hb dX6_init_66 rfl (lv_at hl 0 rfl) ?_
  refine va_get (D := D) (ci := 6) (v := .ref q_1) (C := RX6) (T := TX6) (N := 6) hx hb hts inlX6 hown hK hP 0 rfl rfl 0 (by decide) (hts _ mw_40) (fun _ h9 => h9) rfl dX6_init_67 ?_
  refine lv_iconst (v := 2) hx hb dX6_init_70 (by decide) ?_
  refine lv_iconst (v := 1) hx hb dX6_init_71 (by decide) ?_
  refine va_iast hx hb hK hP hD hS 1 0 rfl rfl (i := 2) (x := 1) (vp_k (by decide)) dX6_init_72 (fun H locs hP hD hS => ?_)
  have hP : va_P D vwCl [(n0, .inr (6, [.ref q_1, .ref q_2, .ref q_3, .ref q_4, .ref q_5, .int 0])), (q_1, .inl (κ 0, 6, .inl (upd (upd (upd (fun _ => 0) 0 44) 1 34) 2 1))), (q_2, .inl (κ 4, 3, .inr (.inr (.inr (.inr (fun _ => none)))))), (q_3, .inl (κ 5, 3, .inr (.inr (.inr (.inr (fun _ => none)))))), (q_4, .inl (κ 0, 6, .inl (fun _ => 0))), (q_5, .inl (κ 4, 6, .inr (.inr (.inr (.inr (fun _ => none))))))] H := hP
  have hD : va_D A [(n0, .inr (6, [.ref q_1, .ref q_2, .ref q_3, .ref q_4, .ref q_5, .int 0])), (q_1, .inl (κ 0, 6, .inl (upd (upd (upd (fun _ => 0) 0 44) 1 34) 2 1))), (q_2, .inl (κ 4, 3, .inr (.inr (.inr (.inr (fun _ => none)))))), (q_3, .inl (κ 5, 3, .inr (.inr (.inr (.inr (fun _ => none)))))), (q_4, .inl (κ 0, 6, .inl (fun _ => 0))), (q_5, .inl (κ 4, 6, .inr (.inr (.inr (.inr (fun _ => none))))))] := hD
  exact ct_vret hx hb hr hlk hS hP hD (q_1, q_2, q_3, q_4, q_5) rfl trivial [0, 1, 2, 3, 4, 5] rfl (by decide) trivial (Nat.le_of_ble_eq_true rfl) (Nat.le_of_ble_eq_true rfl) dX6_init_73
set_option maxHeartbeats 4000000 in
set_option maxRecDepth 100000 in
theorem c_X8_init (l : Launch) (D : va_G) (κ : Nat → ClassId) (t0 : Nat) : Ct l yX8_init (wl yX8_init cX8_init 1 none) { frames := 1, cells := 1, slots := 800, locals := 12 } D κ [.ref t0] [(t0, .inr (8, [.null, .int 0]))] (fun _ => True) (fun t1 : Nat => none) (fun t1 : Nat => True) (fun t1 : Nat => [(t0, .inr (8, [.ref t1, .int 0])), (t1, .inl (κ 0, 800, .inl (fun _ => 0)))]) (fun _ _ => True) := by
  refine ct_of (by decide +kernel) (Nat.le_of_ble_eq_true rfl) ?_
  intro p e s m args below meth c A ls hx hb hr hml hts hown hlk hin hKK hK hA hP hD hS hI hl
  have hS : va_S A s.heap s.heap [] := hS
  have hFX : FX p s m args c cX8_init 1 RX8 := ⟨hx, hb, hml, hown, hts⟩
  have hl : lv_has ls 1 [(0, .ref t0)] := hl
  refine lv_aload_n hx hb dX8_init_0 rfl (lv_at hl 0 rfl) ?_
  refine W.objInit hx hb hown (hts _ mw_50) (hts _ mw_10) (hts _ mw_11) rfl (by rw [hml]; exact hl.1) rfl dX8_init_1 (Nat.le_of_ble_eq_true rfl) (Nat.le_of_ble_eq_true rfl) ?_
  refine W.eq (g2 := F0 m 4 ls []) rfl ?_
  refine lv_aload_n hx hb dX8_init_4 rfl (lv_at hl 0 rfl) ?_
  refine lv_sipush (v := 800) hx hb dX8_init_5 (by decide) ?_
  refine my_newa (atype := .int) hx hb (hts _ mw_39) rfl hK hP hD hS hA 0 rfl (N' := 800) (a0 := (800, .inl (fun _ => 0))) (fun _ => rfl) (by decide) (by decide) (Nat.le_of_ble_eq_true rfl) (Nat.le_of_ble_eq_true rfl) (Nat.le_of_ble_eq_true rfl) dX8_init_8 (fun q_1 H hP hD hS => ?_)
  have hP : va_P D vwCl [(t0, .inr (8, [.null, .int 0])), (q_1, .inl (κ 0, 800, .inl (fun _ => 0)))] H := hP
  have hD : va_D A [(t0, .inr (8, [.null, .int 0])), (q_1, .inl (κ 0, 800, .inl (fun _ => 0)))] := hD
  refine va_putF (D := D) (ci := 8) (v := .ref q_1) (ty := tyX8 0) (C := RX8) (T := TX8) (N := 2) hx hb hts inlX8 tyX8 tyX8_ok nmX8 hown hK hP hD hS 0 rfl rfl 0 (by decide) (hts _ mw_51) (fun _ h9 => h9) rfl hin rfl (tyX8_ok 0 (by decide)) rfl rfl (Nat.le_of_ble_eq_true rfl) dX8_init_10 (fun H locs hP hD hS => ?_)
  have hP : va_P D vwCl [(t0, .inr (8, [.ref q_1, .int 0])), (q_1, .inl (κ 0, 800, .inl (fun _ => 0)))] H := hP
  have hD : va_D A [(t0, .inr (8, [.ref q_1, .int 0])), (q_1, .inl (κ 0, 800, .inl (fun _ => 0)))] := hD
  refine lv_aload_n hx hb dX8_init_13 rfl (lv_at hl 0 rfl) ?_
  refine lv_iconst (v := 0) hx hb dX8_init_14 (by decide) ?_
  refine va_put (D := D) (ci := 8) (v := .int 0) (ty := tyX8 1) (C := RX8) (T := TX8) (N := 2) hx hb hts inlX8 tyX8 tyX8_ok nmX8 hown hK hP hD hS 0 rfl rfl 1 (by decide) (hts _ mw_52) (fun _ h9 => h9) rfl (tyX8_ok 1 (by decide)) rfl rfl (Nat.le_of_ble_eq_true rfl) dX8_init_15 (fun H locs hP hD hS => ?_)
  have hP : va_P D vwCl [(t0, .inr (8, [.ref q_1, .int 0])), (q_1, .inl (κ 0, 800, .inl (fun _ => 0)))] H := hP
  have hD : va_D A [(t0, .inr (8, [.ref q_1, .int 0])), (q_1, .inl (κ 0, 800, .inl (fun _ => 0)))] := hD
  exact ct_vret hx hb hr hlk hS hP hD q_1 rfl trivial [0, 1] rfl (by decide) trivial (Nat.le_of_ble_eq_true rfl) (Nat.le_of_ble_eq_true rfl) dX8_init_18
set_option maxHeartbeats 4000000 in
set_option maxRecDepth 100000 in
theorem c_X2_init (l : Launch) (D : va_G) (κ : Nat → ClassId) (f0 : Nat) : Ct l yX2_init (wl yX2_init cX2_init 1 none) { frames := 1, cells := 0, slots := 0, locals := 12 } D κ [.ref f0] [(f0, .inr (2, [.int 0, .int 0, .int 0, .int 0, .int 0, .int 0]))] (fun _ => True) (fun _ : Unit => none) (fun _ : Unit => True) (fun _ : Unit => [(f0, .inr (2, [.int 0, .int (-1), .int (-1), .int (-1), .int (-1), .int 0]))]) (fun _ _ => True) := by
  refine ct_of (by decide +kernel) (Nat.le_of_ble_eq_true rfl) ?_
  intro p e s m args below meth c A ls hx hb hr hml hts hown hlk hin hKK hK hA hP hD hS hI hl
  have hS : va_S A s.heap s.heap [] := hS
  have hFX : FX p s m args c cX2_init 1 RX2 := ⟨hx, hb, hml, hown, hts⟩
  have hl : lv_has ls 1 [(0, .ref f0)] := hl
  refine lv_aload_n hx hb dX2_init_0 rfl (lv_at hl 0 rfl) ?_
  refine W.objInit hx hb hown (hts _ mw_55) (hts _ mw_10) (hts _ mw_11) rfl (by rw [hml]; exact hl.1) rfl dX2_init_1 (Nat.le_of_ble_eq_true rfl) (Nat.le_of_ble_eq_true rfl) ?_
  refine W.eq (g2 := F0 m 4 ls []) rfl ?_
  refine lv_aload_n hx hb dX2_init_4 rfl (lv_at hl 0 rfl) ?_
  refine lv_iconst (v := 0) hx hb dX2_init_5 (by decide) ?_
  refine va_put (D := D) (ci := 2) (v := .int 0) (ty := tyX2 0) (C := RX2) (T := TX2) (N := 6) hx hb hts inlX2 tyX2 tyX2_ok nmX2 hown hK hP hD hS 0 rfl rfl 0 (by decide) (hts _ mw_56) (fun _ h9 => h9) rfl (tyX2_ok 0 (by decide)) rfl rfl (Nat.le_of_ble_eq_true rfl) dX2_init_6 (fun H locs hP hD hS => ?_)
  have hP : va_P D vwCl [(f0, .inr (2, [.int 0, .int 0, .int 0, .int 0, .int 0, .int 0]))] H := hP
  have hD : va_D A [(f0, .inr (2, [.int 0, .int 0, .int 0, .int 0, .int 0, .int 0]))] := hD
  refine lv_aload_n hx hb dX2_init_9 rfl (lv_at hl 0 rfl) ?_
  refine lv_iconst (v := (-1)) hx hb dX2_init_10 (by decide) ?_
  refine va_put (D := D) (ci := 2) (v := .int (-1)) (ty := tyX2 1) (C := RX2) (T := TX2) (N := 6) hx hb hts inlX2 tyX2 tyX2_ok nmX2 hown hK hP hD hS 0 rfl rfl 1 (by decide) (hts _ mw_57) (fun _ h9 => h9) rfl (tyX2_ok 1 (by decide)) rfl rfl (Nat.le_of_ble_eq_true rfl) dX2_init_11 (fun H locs hP hD hS => ?_)
  have hP : va_P D vwCl [(f0, .inr (2, [.int 0, .int (-1), .int 0, .int 0, .int 0, .int 0]))] H := hP
  have hD : va_D A [(f0, .inr (2, [.int 0, .int (-1), .int 0, .int 0, .int 0, .int 0]))] := hD
  refine lv_aload_n hx hb dX2_init_14 rfl (lv_at hl 0 rfl) ?_
  refine lv_iconst (v := (-1)) hx hb dX2_init_15 (by decide) ?_
  refine va_put (D := D) (ci := 2) (v := .int (-1)) (ty := tyX2 2) (C := RX2) (T := TX2) (N := 6) hx hb hts inlX2 tyX2 tyX2_ok nmX2 hown hK hP hD hS 0 rfl rfl 2 (by decide) (hts _ mw_58) (fun _ h9 => h9) rfl (tyX2_ok 2 (by decide)) rfl rfl (Nat.le_of_ble_eq_true rfl) dX2_init_16 (fun H locs hP hD hS => ?_)
  have hP : va_P D vwCl [(f0, .inr (2, [.int 0, .int (-1), .int (-1), .int 0, .int 0, .int 0]))] H := hP
  have hD : va_D A [(f0, .inr (2, [.int 0, .int (-1), .int (-1), .int 0, .int 0, .int 0]))] := hD
  refine lv_aload_n hx hb dX2_init_19 rfl (lv_at hl 0 rfl) ?_
  refine lv_iconst (v := (-1)) hx hb dX2_init_20 (by decide) ?_
  refine va_put (D := D) (ci := 2) (v := .int (-1)) (ty := tyX2 3) (C := RX2) (T := TX2) (N := 6) hx hb hts inlX2 tyX2 tyX2_ok nmX2 hown hK hP hD hS 0 rfl rfl 3 (by decide) (hts _ mw_59) (fun _ h9 => h9) rfl (tyX2_ok 3 (by decide)) rfl rfl (Nat.le_of_ble_eq_true rfl) dX2_init_21 (fun H locs hP hD hS => ?_)
  have hP : va_P D vwCl [(f0, .inr (2, [.int 0, .int (-1), .int (-1), .int (-1), .int 0, .int 0]))] H := hP
  have hD : va_D A [(f0, .inr (2, [.int 0, .int (-1), .int (-1), .int (-1), .int 0, .int 0]))] := hD
  refine lv_aload_n hx hb dX2_init_24 rfl (lv_at hl 0 rfl) ?_
  refine lv_iconst (v := (-1)) hx hb dX2_init_25 (by decide) ?_
  refine va_put (D := D) (ci := 2) (v := .int (-1)) (ty := tyX2 4) (C := RX2) (T := TX2) (N := 6) hx hb hts inlX2 tyX2 tyX2_ok nmX2 hown hK hP hD hS 0 rfl rfl 4 (by decide) (hts _ mw_60) (fun _ h9 => h9) rfl (tyX2_ok 4 (by decide)) rfl rfl (Nat.le_of_ble_eq_true rfl) dX2_init_26 (fun H locs hP hD hS => ?_)
  have hP : va_P D vwCl [(f0, .inr (2, [.int 0, .int (-1), .int (-1), .int (-1), .int (-1), .int 0]))] H := hP
  have hD : va_D A [(f0, .inr (2, [.int 0, .int (-1), .int (-1), .int (-1), .int (-1), .int 0]))] := hD
  refine lv_aload_n hx hb dX2_init_29 rfl (lv_at hl 0 rfl) ?_
  refine lv_iconst (v := 0) hx hb dX2_init_30 (by decide) ?_
  refine va_put (D := D) (ci := 2) (v := .int 0) (ty := tyX2 5) (C := RX2) (T := TX2) (N := 6) hx hb hts inlX2 tyX2 tyX2_ok nmX2 hown hK hP hD hS 0 rfl rfl 5 (by decide) (hts _ mw_61) (fun _ h9 => h9) rfl (tyX2_ok 5 (by decide)) rfl rfl (Nat.le_of_ble_eq_true rfl) dX2_init_31 (fun H locs hP hD hS => ?_)
  have hP : va_P D vwCl [(f0, .inr (2, [.int 0, .int (-1), .int (-1), .int (-1), .int (-1), .int 0]))] H := hP
  have hD : va_D A [(f0, .inr (2, [.int 0, .int (-1), .int (-1), .int (-1), .int (-1), .int 0]))] := hD
  exact ct_vret hx hb hr hlk hS hP hD () rfl trivial [0] rfl (by decide) trivial (Nat.le_of_ble_eq_true rfl) (Nat.le_of_ble_eq_true rfl) dX2_init_34
set_option maxHeartbeats 4000000 in
set_option maxRecDepth 100000 in
theorem c_X10_init (l : Launch) (D : va_G) (κ : Nat → ClassId) (w0 : Nat) (n1 : Nat) : Ct l yX10_init (wl yX10_init cX10_init 2 none) { frames := 1, cells := 1, slots := 6000, locals := 12 } D κ [.ref w0, .ref n1] [(w0, .inr (10, [.null, .null, .int 0]))] (fun _ => True) (fun w1 : Nat => none) (fun w1 : Nat => True) (fun w1 : Nat => [(w0, .inr (10, [.ref n1, .ref w1, .int 0])), (w1, .inl (κ 1, 6000, .inl (fun _ => 0)))]) (fun _ _ => True) := by
  refine ct_of (by decide +kernel) (Nat.le_of_ble_eq_true rfl) ?_
  intro p e s m args below meth c A ls hx hb hr hml hts hown hlk hin hKK hK hA hP hD hS hI hl
  have hS : va_S A s.heap s.heap [] := hS
  have hFX : FX p s m args c cX10_init 2 RX10 := ⟨hx, hb, hml, hown, hts⟩
  have hl : lv_has ls 2 [(0, .ref w0), (1, .ref n1)] := hl
  refine lv_aload_n hx hb dX10_init_0 rfl (lv_at hl 0 rfl) ?_
  refine W.objInit hx hb hown (hts _ mw_179) (hts _ mw_10) (hts _ mw_11) rfl (by rw [hml]; exact hl.1) rfl dX10_init_1 (Nat.le_of_ble_eq_true rfl) (Nat.le_of_ble_eq_true rfl) ?_
  refine W.eq (g2 := F0 m 4 ls []) rfl ?_
  refine lv_aload_n hx hb dX10_init_4 rfl (lv_at hl 0 rfl) ?_
  refine lv_sipush (v := 6000) hx hb dX10_init_5 (by decide) ?_
  refine my_newa (atype := .byte) hx hb (hts _ mw_69) rfl hK hP hD hS hA 1 rfl (N' := 6000) (a0 := (6000, .inl (fun _ => 0))) (fun _ => rfl) (by decide) (by decide) (Nat.le_of_ble_eq_true rfl) (Nat.le_of_ble_eq_true rfl) (Nat.le_of_ble_eq_true rfl) dX10_init_8 (fun q_1 H hP hD hS => ?_)
  have hP : va_P D vwCl [(w0, .inr (10, [.null, .null, .int 0])), (q_1, .inl (κ 1, 6000, .inl (fun _ => 0)))] H := hP
  have hD : va_D A [(w0, .inr (10, [.null, .null, .int 0])), (q_1, .inl (κ 1, 6000, .inl (fun _ => 0)))] := hD
  refine va_putF (D := D) (ci := 10) (v := .ref q_1) (ty := tyX10 1) (C := RX10) (T := TX10) (N := 3) hx hb hts inlX10 tyX10 tyX10_ok nmX10 hown hK hP hD hS 0 rfl rfl 1 (by decide) (hts _ mw_180) (fun _ h9 => h9) rfl hin rfl (tyX10_ok 1 (by decide)) rfl rfl (Nat.le_of_ble_eq_true rfl) dX10_init_10 (fun H locs hP hD hS => ?_)
  have hP : va_P D vwCl [(w0, .inr (10, [.null, .ref q_1, .int 0])), (q_1, .inl (κ 1, 6000, .inl (fun _ => 0)))] H := hP
  have hD : va_D A [(w0, .inr (10, [.null, .ref q_1, .int 0])), (q_1, .inl (κ 1, 6000, .inl (fun _ => 0)))] := hD
  refine lv_aload_n hx hb dX10_init_13 rfl (lv_at hl 0 rfl) ?_
  refine lv_iconst (v := 0) hx hb dX10_init_14 (by decide) ?_
  refine va_put (D := D) (ci := 10) (v := .int 0) (ty := tyX10 2) (C := RX10) (T := TX10) (N := 3) hx hb hts inlX10 tyX10 tyX10_ok nmX10 hown hK hP hD hS 0 rfl rfl 2 (by decide) (hts _ mw_181) (fun _ h9 => h9) rfl (tyX10_ok 2 (by decide)) rfl rfl (Nat.le_of_ble_eq_true rfl) dX10_init_15 (fun H locs hP hD hS => ?_)
  have hP : va_P D vwCl [(w0, .inr (10, [.null, .ref q_1, .int 0])), (q_1, .inl (κ 1, 6000, .inl (fun _ => 0)))] H := hP
  have hD : va_D A [(w0, .inr (10, [.null, .ref q_1, .int 0])), (q_1, .inl (κ 1, 6000, .inl (fun _ => 0)))] := hD
  refine lv_aload_n hx hb dX10_init_18 rfl (lv_at hl 0 rfl) ?_
  refine lv_aload_n hx hb dX10_init_19 rfl (lv_at hl 1 rfl) ?_
  refine va_putF (D := D) (ci := 10) (v := .ref n1) (ty := tyX10 0) (C := RX10) (T := TX10) (N := 3) hx hb hts inlX10 tyX10 tyX10_ok nmX10 hown hK hP hD hS 0 rfl rfl 0 (by decide) (hts _ mw_182) (fun _ h9 => h9) rfl hin rfl (tyX10_ok 0 (by decide)) rfl rfl (Nat.le_of_ble_eq_true rfl) dX10_init_20 (fun H locs hP hD hS => ?_)
  have hP : va_P D vwCl [(w0, .inr (10, [.ref n1, .ref q_1, .int 0])), (q_1, .inl (κ 1, 6000, .inl (fun _ => 0)))] H := hP
  have hD : va_D A [(w0, .inr (10, [.ref n1, .ref q_1, .int 0])), (q_1, .inl (κ 1, 6000, .inl (fun _ => 0)))] := hD
  exact ct_vret hx hb hr hlk hS hP hD q_1 rfl trivial [0, 1] rfl (by decide) trivial (Nat.le_of_ble_eq_true rfl) (Nat.le_of_ble_eq_true rfl) dX10_init_23
set_option maxHeartbeats 4000000 in
set_option maxRecDepth 100000 in
theorem c_X4_init (l : Launch) (D : va_G) (κ : Nat → ClassId) (r0 : Nat) (t0 : Nat) (n1 : Nat) (f0 : Nat) : Ct l yX4_init (wl yX4_init cX4_init 4 none) { frames := 2, cells := 6, slots := 359, locals := 42 } D κ [.ref r0, .ref t0, .ref n1, .ref f0] [(r0, .inr (4, [.null, .null, .null, .null, .int 0, .int 0, .null, .int 0, .null, .null, .int 0, .null, .null, .int 0]))] (fun _ => True) (fun u9 : Nat × Nat × Nat × Nat × Nat × Nat => none) (fun u9 : Nat × Nat × Nat × Nat × Nat × Nat => True) (fun u9 : Nat × Nat × Nat × Nat × Nat × Nat => [(r0, .inr (4, [.ref t0, .ref n1, .ref f0, .ref u9.1, .int 0, .int (-1), .ref u9.2.2.1, .int 0, .ref u9.2.2.2.1, .ref u9.2.2.2.2.1, .int 0, .null, .ref u9.2.2.2.2.2, .int 0])), (u9.1, .inr (0, [.ref u9.2.1, .int 0, .long 0])), (u9.2.1, .inl (κ 1, 0, .inl (fun _ => 0))), (u9.2.2.1, .inl (κ 1, 20, .inl (fun _ => 0))), (u9.2.2.2.1, .inl (κ 2, 8, .inr (.inr (.inr (.inr (fun _ => none)))))), (u9.2.2.2.2.1, .inl (κ 0, 8, .inl (fun _ => 0))), (u9.2.2.2.2.2, .inl (κ 2, 320, .inr (.inr (.inr (.inr (fun _ => none))))))]) (fun _ _ => True) := by
  refine ct_of (by decide +kernel) (Nat.le_of_ble_eq_true rfl) ?_
  intro p e s m args below meth c A ls hx hb hr hml hts hown hlk hin hKK hK hA hP hD hS hI hl
  have hS : va_S A s.heap s.heap [] := hS
  have hFX : FX p s m args c cX4_init 4 RX4 := ⟨hx, hb, hml, hown, hts⟩
  have hl : lv_has ls 4 [(0, .ref r0), (1, .ref t0), (2, .ref n1), (3, .ref f0)] := hl
  refine lv_aload_n hx hb dX4_init_0 rfl (lv_at hl 0 rfl) ?_
  refine W.objInit hx hb hown (hts _ mw_65) (hts _ mw_10) (hts _ mw_11) rfl (by rw [hml]; exact hl.1) rfl dX4_init_1 (Nat.le_of_ble_eq_true rfl) (Nat.le_of_ble_eq_true rfl) ?_
  refine W.eq (g2 := F0 m 4 ls []) rfl ?_
  refine lv_aload_n hx hb dX4_init_4 rfl (lv_at hl 0 rfl) ?_
  refine va_new (ci := 0) (fs := [.null, .int 0, .long 0]) (C := RX0) (T := TX0) (N := 3) hx hb hts inlX0 tyX0 tyX0_ok hown (hts _ mw_66) (hts _ mw_67) (hts _ mw_68) hK hP hD hS hA rfl (fun j hj => by rcases (show j = 0 ∨ j = 1 ∨ j = 2 by omega) with rfl | rfl | rfl <;> rfl) (Nat.le_of_ble_eq_true rfl) (Nat.le_of_ble_eq_true rfl) dX4_init_5 (fun q_1 H hP hD hS => ?_)
  have hP : va_P D vwCl [(r0, .inr (4, [.null, .null, .null, .null, .int 0, .int 0, .null, .int 0, .null, .null, .int 0, .null, .null, .int 0])), (q_1, .inr (0, [.null, .int 0, .long 0]))] H := hP
  have hD : va_D A [(r0, .inr (4, [.null, .null, .null, .null, .int 0, .int 0, .null, .int 0, .null, .null, .int 0, .null, .null, .int 0])), (q_1, .inr (0, [.null, .int 0, .long 0]))] := hD
  refine lv_dup hx hb dX4_init_8 rfl ?_
  refine lv_iconst (v := 0) hx hb dX4_init_9 (by decide) ?_
  refine my_newa (atype := .byte) hx hb (hts _ mw_69) rfl hK hP hD hS hA 1 rfl (N' := 0) (a0 := (0, .inl (fun _ => 0))) (fun _ => rfl) (by decide) (by decide) (Nat.le_of_ble_eq_true rfl) (Nat.le_of_ble_eq_true rfl) (Nat.le_of_ble_eq_true rfl) dX4_init_10 (fun q_2 H hP hD hS => ?_)
  have hP : va_P D vwCl [(r0, .inr (4, [.null, .null, .null, .null, .int 0, .int 0, .null, .int 0, .null, .null, .int 0, .null, .null, .int 0])), (q_1, .inr (0, [.null, .int 0, .long 0])), (q_2, .inl (κ 1, 0, .inl (fun _ => 0)))] H := hP
  have hD : va_D A [(r0, .inr (4, [.null, .null, .null, .null, .int 0, .int 0, .null, .int 0, .null, .null, .int 0, .null, .null, .int 0])), (q_1, .inr (0, [.null, .int 0, .long 0])), (q_2, .inl (κ 1, 0, .inl (fun _ => 0)))] := hD
  refine ct_I (wr := [(r0, .inr (4, [.null, .null, .null, .null, .int 0, .int 0, .null, .int 0, .null, .null, .int 0, .null, .null, .int 0]))]) (As := [.ref q_2]) (rest := [.ref q_1, .ref r0]) hFX hKK hP hD hS hA (c_X0_init l D κ q_1 q_2) 1 mw_84 mw_85 mw_68 mw_86 hdI_X0_init ⟨Nat.le_of_ble_eq_true rfl, Nat.le_of_ble_eq_true rfl⟩ rfl rfl (Nat.le_of_ble_eq_true rfl) dX4_init_12 ⟨Nat.le_of_ble_eq_true rfl, Nat.le_of_ble_eq_true rfl⟩ hl.1 [1, 2] [0] rfl rfl (by decide) (by decide) (by decide) trivial (fun _ H locs hp_3 _ hP hD hS hz_ hk_ => ?_)
  have hP : va_P D vwCl [(r0, .inr (4, [.null, .null, .null, .null, .int 0, .int 0, .null, .int 0, .null, .null, .int 0, .null, .null, .int 0])), (q_1, .inr (0, [.ref q_2, .int 0, .long 0])), (q_2, .inl (κ 1, 0, .inl (fun _ => 0)))] H := hP
  have hD : va_D A [(r0, .inr (4, [.null, .null, .null, .null, .int 0, .int 0, .null, .int 0, .null, .null, .int 0, .null, .null, .int 0])), (q_1, .inr (0, [.ref q_2, .int 0, .long 0])), (q_2, .inl (κ 1, 0, .inl (fun _ => 0)))] := hD
  refine W.eq (g2 := F0 m 15 ls [.ref q_1, .ref r0]) rfl ?_
  refine va_putF (D := D) (ci := 4) (v := .ref q_1) (ty := tyX4 3) (C := RX4) (T := TX4) (N := 14) hx hb hts inlX4 tyX4 tyX4_ok nmX4 hown hK hP hD hS 0 rfl rfl 3 (by decide) (hts _ mw_70) (fun _ h9 => h9) rfl hin rfl (tyX4_ok 3 (by decide)) rfl rfl (Nat.le_of_ble_eq_true rfl) dX4_init_15 (fun H locs hP hD hS => ?_)
  have hP : va_P D vwCl [(r0, .inr (4, [.null, .null, .null, .ref q_1, .int 0, .int 0, .null, .int 0, .null, .null, .int 0, .null, .null, .int 0])), (q_1, .inr (0, [.ref q_2, .int 0, .long 0])), (q_2, .inl (κ 1, 0, .inl (fun _ => 0)))] H := hP
  have hD : va_D A [(r0, .inr (4, [.null, .null, .null, .ref q_1, .int 0, .int 0, .null, .int 0, .null, .null, .int 0, .null, .null, .int 0])), (q_1, .inr (0, [.ref q_2, .int 0, .long 0])), (q_2, .inl (κ 1, 0, .inl (fun _ => 0)))] := hD
  refine lv_aload_n hx hb dX4_init_18 rfl (lv_at hl 0 rfl) ?_
  refine lv_iconst (v := 0) hx hb dX4_init_19 (by decide) ?_
  refine va_put (D := D) (ci := 4) (v := .int 0) (ty := tyX4 4) (C := RX4) (T := TX4) (N := 14) hx hb hts inlX4 tyX4 tyX4_ok nmX4 hown hK hP hD hS 0 rfl rfl 4 (by decide) (hts _ mw_71) (fun _ h9 => h9) rfl (tyX4_ok 4 (by decide)) rfl rfl (Nat.le_of_ble_eq_true rfl) dX4_init_20 (fun H locs hP hD hS => ?_)
  have hP : va_P D vwCl [(r0, .inr (4, [.null, .null, .null, .ref q_1, .int 0, .int 0, .null, .int 0, .null, .null, .int 0, .null, .null, .int 0])), (q_1, .inr (0, [.ref q_2, .int 0, .long 0])), (q_2, .inl (κ 1, 0, .inl (fun _ => 0)))] H := hP
  have hD : va_D A [(r0, .inr (4, [.null, .null, .null, .ref q_1, .int 0, .int 0, .null, .int 0, .null, .null, .int 0, .null, .null, .int 0])), (q_1, .inr (0, [.ref q_2, .int 0, .long 0])), (q_2, .inl (κ 1, 0, .inl (fun _ => 0)))] := hD
  refine lv_aload_n hx hb dX4_init_23 rfl (lv_at hl 0 rfl) ?_
  refine lv_iconst (v := (-1)) hx hb dX4_init_24 (by decide) ?_
  refine va_put (D := D) (ci := 4) (v := .int (-1)) (ty := tyX4 5) (C := RX4) (T := TX4) (N := 14) hx hb hts inlX4 tyX4 tyX4_ok nmX4 hown hK hP hD hS 0 rfl rfl 5 (by decide) (hts _ mw_72) (fun _ h9 => h9) rfl (tyX4_ok 5 (by decide)) rfl rfl (Nat.le_of_ble_eq_true rfl) dX4_init_25 (fun H locs hP hD hS => ?_)
  have hP : va_P D vwCl [(r0, .inr (4, [.null, .null, .null, .ref q_1, .int 0, .int (-1), .null, .int 0, .null, .null, .int 0, .null, .null, .int 0])), (q_1, .inr (0, [.ref q_2, .int 0, .long 0])), (q_2, .inl (κ 1, 0, .inl (fun _ => 0)))] H := hP
  have hD : va_D A [(r0, .inr (4, [.null, .null, .null, .ref q_1, .int 0, .int (-1), .null, .int 0, .null, .null, .int 0, .null, .null, .int 0])), (q_1, .inr (0, [.ref q_2, .int 0, .long 0])), (q_2, .inl (κ 1, 0, .inl (fun _ => 0)))] := hD
  refine lv_aload_n hx hb dX4_init_28 rfl (lv_at hl 0 rfl) ?_
  refine lv_bipush (v := 20) hx hb dX4_init_29 (by decide) ?_
  refine my_newa (atype := .byte) hx hb (hts _ mw_69) rfl hK hP hD hS hA 1 rfl (N' := 20) (a0 := (20, .inl (fun _ => 0))) (fun _ => rfl) (by decide) (by decide) (Nat.le_of_ble_eq_true rfl) (Nat.le_of_ble_eq_true rfl) (Nat.le_of_ble_eq_true rfl) dX4_init_31 (fun q_4 H hP hD hS => ?_)
  have hP : va_P D vwCl [(r0, .inr (4, [.null, .null, .null, .ref q_1, .int 0, .int (-1), .null, .int 0, .null, .null, .int 0, .null, .null, .int 0])), (q_1, .inr (0, [.ref q_2, .int 0, .long 0])), (q_2, .inl (κ 1, 0, .inl (fun _ => 0))), (q_4, .inl (κ 1, 20, .inl (fun _ => 0)))] H := hP
  have hD : va_D A [(r0, .inr (4, [.null, .null, .null, .ref q_1, .int 0, .int (-1), .null, .int 0, .null, .null, .int 0, .null, .null, .int 0])), (q_1, .inr (0, [.ref q_2, .int 0, .long 0])), (q_2, .inl (κ 1, 0, .inl (fun _ => 0))), (q_4, .inl (κ 1, 20, .inl (fun _ => 0)))] := hD
  refine va_putF (D := D) (ci := 4) (v := .ref q_4) (ty := tyX4 6) (C := RX4) (T := TX4) (N := 14) hx hb hts inlX4 tyX4 tyX4_ok nmX4 hown hK hP hD hS 0 rfl rfl 6 (by decide) (hts _ mw_73) (fun _ h9 => h9) rfl hin rfl (tyX4_ok 6 (by decide)) rfl rfl (Nat.le_of_ble_eq_true rfl) dX4_init_33 (fun H locs hP hD hS => ?_)
  have hP : va_P D vwCl [(r0, .inr (4, [.null, .null, .null, .ref q_1, .int 0, .int (-1), .ref q_4, .int 0, .null, .null, .int 0, .null, .null, .int 0])), (q_1, .inr (0, [.ref q_2, .int 0, .long 0])), (q_2, .inl (κ 1, 0, .inl (fun _ => 0))), (q_4, .inl (κ 1, 20, .inl (fun _ => 0)))] H := hP
  have hD : va_D A [(r0, .inr (4, [.null, .null, .null, .ref q_1, .int 0, .int (-1), .ref q_4, .int 0, .null, .null, .int 0, .null, .null, .int 0])), (q_1, .inr (0, [.ref q_2, .int 0, .long 0])), (q_2, .inl (κ 1, 0, .inl (fun _ => 0))), (q_4, .inl (κ 1, 20, .inl (fun _ => 0)))] := hD
  refine lv_aload_n hx hb dX4_init_36 rfl (lv_at hl 0 rfl) ?_
  refine lv_iconst (v := 0) hx hb dX4_init_37 (by decide) ?_
  refine va_put (D := D) (ci := 4) (v := .int 0) (ty := tyX4 7) (C := RX4) (T := TX4) (N := 14) hx hb hts inlX4 tyX4 tyX4_ok nmX4 hown hK hP hD hS 0 rfl rfl 7 (by decide) (hts _ mw_74) (fun _ h9 => h9) rfl (tyX4_ok 7 (by decide)) rfl rfl (Nat.le_of_ble_eq_true rfl) dX4_init_38 (fun H locs hP hD hS => ?_)
  have hP : va_P D vwCl [(r0, .inr (4, [.null, .null, .null, .ref q_1, .int 0, .int (-1), .ref q_4, .int 0, .null, .null, .int 0, .null, .null, .int 0])), (q_1, .inr (0, [.ref q_2, .int 0, .long 0])), (q_2, .inl (κ 1, 0, .inl (fun _ => 0))), (q_4, .inl (κ 1, 20, .inl (fun _ => 0)))] H := hP
  have hD : va_D A [(r0, .inr (4, [.null, .null, .null, .ref q_1, .int 0, .int (-1), .ref q_4, .int 0, .null, .null, .int 0, .null, .null, .int 0])), (q_1, .inr (0, [.ref q_2, .int 0, .long 0])), (q_2, .inl (κ 1, 0, .inl (fun _ => 0))), (q_4, .inl (κ 1, 20, .inl (fun _ => 0)))] := hD
  refine lv_aload_n hx hb dX4_init_41 rfl (lv_at hl 0 rfl) ?_
  refine lv_bipush (v := 8) hx hb dX4_init_42 (by decide) ?_
  refine my_newq hx hb hown (hts _ mw_66) hKK.2.1 hK hP hD hS hA 2 rfl (N' := 8) (by decide) (by decide) (Nat.le_of_ble_eq_true rfl) (Nat.le_of_ble_eq_true rfl) (Nat.le_of_ble_eq_true rfl) dX4_init_44 (fun q_5 H hP hD hS => ?_)
  have hP : va_P D vwCl [(r0, .inr (4, [.null, .null, .null, .ref q_1, .int 0, .int (-1), .ref q_4, .int 0, .null, .null, .int 0, .null, .null, .int 0])), (q_1, .inr (0, [.ref q_2, .int 0, .long 0])), (q_2, .inl (κ 1, 0, .inl (fun _ => 0))), (q_4, .inl (κ 1, 20, .inl (fun _ => 0))), (q_5, .inl (κ 2, 8, .inr (.inr (.inr (.inr (fun _ => none))))))] H := hP
  have hD : va_D A [(r0, .inr (4, [.null, .null, .null, .ref q_1, .int 0, .int (-1), .ref q_4, .int 0, .null, .null, .int 0, .null, .null, .int 0])), (q_1, .inr (0, [.ref q_2, .int 0, .long 0])), (q_2, .inl (κ 1, 0, .inl (fun _ => 0))), (q_4, .inl (κ 1, 20, .inl (fun _ => 0))), (q_5, .inl (κ 2, 8, .inr (.inr (.inr (.inr (fun _ => none))))))] := hD
  refine va_putF (D := D) (ci := 4) (v := .ref q_5) (ty := tyX4 8) (C := RX4) (T := TX4) (N := 14) hx hb hts inlX4 tyX4 tyX4_ok nmX4 hown hK hP hD hS 0 rfl rfl 8 (by decide) (hts _ mw_75) (fun _ h9 => h9) rfl hin rfl (tyX4_ok 8 (by decide)) rfl rfl (Nat.le_of_ble_eq_true rfl) dX4_init_47 (fun H locs hP hD hS => ?_)
  have hP : va_P D vwCl [(r0, .inr (4, [.null, .null, .null, .ref q_1, .int 0, .int (-1), .ref q_4, .int 0, .ref q_5, .null, .int 0, .null, .null, .int 0])), (q_1, .inr (0, [.ref q_2, .int 0, .long 0])), (q_2, .inl (κ 1, 0, .inl (fun _ => 0))), (q_4, .inl (κ 1, 20, .inl (fun _ => 0))), (q_5, .inl (κ 2, 8, .inr (.inr (.inr (.inr (fun _ => none))))))] H := hP
  have hD : va_D A [(r0, .inr (4, [.null, .null, .null, .ref q_1, .int 0, .int (-1), .ref q_4, .int 0, .ref q_5, .null, .int 0, .null, .null, .int 0])), (q_1, .inr (0, [.ref q_2, .int 0, .long 0])), (q_2, .inl (κ 1, 0, .inl (fun _ => 0))), (q_4, .inl (κ 1, 20, .inl (fun _ => 0))), (q_5, .inl (κ 2, 8, .inr (.inr (.inr (.inr (fun _ => none))))))] := hD
  refine lv_aload_n hx hb dX4_init_50 rfl (lv_at hl 0 rfl) ?_
  refine lv_bipush (v := 8) hx hb dX4_init_51 (by decide) ?_
  refine my_newa (atype := .int) hx hb (hts _ mw_39) rfl hK hP hD hS hA 0 rfl (N' := 8) (a0 := (8, .inl (fun _ => 0))) (fun _ => rfl) (by decide) (by decide) (Nat.le_of_ble_eq_true rfl) (Nat.le_of_ble_eq_true rfl) (Nat.le_of_ble_eq_true rfl) dX4_init_53 (fun q_6 H hP hD hS => ?_)
  have hP : va_P D vwCl [(r0, .inr (4, [.null, .null, .null, .ref q_1, .int 0, .int (-1), .ref q_4, .int 0, .ref q_5, .null, .int 0, .null, .null, .int 0])), (q_1, .inr (0, [.ref q_2, .int 0, .long 0])), (q_2, .inl (κ 1, 0, .inl (fun _ => 0))), (q_4, .inl (κ 1, 20, .inl (fun _ => 0))), (q_5, .inl (κ 2, 8, .inr (.inr (.inr (.inr (fun _ => none)))))), (q_6, .inl (κ 0, 8, .inl (fun _ => 0)))] H := hP
  have hD : va_D A [(r0, .inr (4, [.null, .null, .null, .ref q_1, .int 0, .int (-1), .ref q_4, .int 0, .ref q_5, .null, .int 0, .null, .null, .int 0])), (q_1, .inr (0, [.ref q_2, .int 0, .long 0])), (q_2, .inl (κ 1, 0, .inl (fun _ => 0))), (q_4, .inl (κ 1, 20, .inl (fun _ => 0))), (q_5, .inl (κ 2, 8, .inr (.inr (.inr (.inr (fun _ => none)))))), (q_6, .inl (κ 0, 8, .inl (fun _ => 0)))] := hD
  refine va_putF (D := D) (ci := 4) (v := .ref q_6) (ty := tyX4 9) (C := RX4) (T := TX4) (N := 14) hx hb hts inlX4 tyX4 tyX4_ok nmX4 hown hK hP hD hS 0 rfl rfl 9 (by decide) (hts _ mw_76) (fun _ h9 => h9) rfl hin rfl (tyX4_ok 9 (by decide)) rfl rfl (Nat.le_of_ble_eq_true rfl) dX4_init_55 (fun H locs hP hD hS => ?_)
  have hP : va_P D vwCl [(r0, .inr (4, [.null, .null, .null, .ref q_1, .int 0, .int (-1), .ref q_4, .int 0, .ref q_5, .ref q_6, .int 0, .null, .null, .int 0])), (q_1, .inr (0, [.ref q_2, .int 0, .long 0])), (q_2, .inl (κ 1, 0, .inl (fun _ => 0))), (q_4, .inl (κ 1, 20, .inl (fun _ => 0))), (q_5, .inl (κ 2, 8, .inr (.inr (.inr (.inr (fun _ => none)))))), (q_6, .inl (κ 0, 8, .inl (fun _ => 0)))] H := hP
  have hD : va_D A [(r0, .inr (4, [.null, .null, .null, .ref q_1, .int 0, .int (-1), .ref q_4, .int 0, .ref q_5, .ref q_6, .int 0, .null, .null, .int 0])), (q_1, .inr (0, [.ref q_2, .int 0, .long 0])), (q_2, .inl (κ 1, 0, .inl (fun _ => 0))), (q_4, .inl (κ 1, 20, .inl (fun _ => 0))), (q_5, .inl (κ 2, 8, .inr (.inr (.inr (.inr (fun _ => none)))))), (q_6, .inl (κ 0, 8, .inl (fun _ => 0)))] := hD
  refine lv_aload_n hx hb dX4_init_58 rfl (lv_at hl 0 rfl) ?_
  refine lv_iconst (v := 0) hx hb dX4_init_59 (by decide) ?_
  refine va_put (D := D) (ci := 4) (v := .int 0) (ty := tyX4 10) (C := RX4) (T := TX4) (N := 14) hx hb hts inlX4 tyX4 tyX4_ok nmX4 hown hK hP hD hS 0 rfl rfl 10 (by decide) (hts _ mw_77) (fun _ h9 => h9) rfl (tyX4_ok 10 (by decide)) rfl rfl (Nat.le_of_ble_eq_true rfl) dX4_init_60 (fun H locs hP hD hS => ?_)
  have hP : va_P D vwCl [(r0, .inr (4, [.null, .null, .null, .ref q_1, .int 0, .int (-1), .ref q_4, .int 0, .ref q_5, .ref q_6, .int 0, .null, .null, .int 0])), (q_1, .inr (0, [.ref q_2, .int 0, .long 0])), (q_2, .inl (κ 1, 0, .inl (fun _ => 0))), (q_4, .inl (κ 1, 20, .inl (fun _ => 0))), (q_5, .inl (κ 2, 8, .inr (.inr (.inr (.inr (fun _ => none)))))), (q_6, .inl (κ 0, 8, .inl (fun _ => 0)))] H := hP
  have hD : va_D A [(r0, .inr (4, [.null, .null, .null, .ref q_1, .int 0, .int (-1), .ref q_4, .int 0, .ref q_5, .ref q_6, .int 0, .null, .null, .int 0])), (q_1, .inr (0, [.ref q_2, .int 0, .long 0])), (q_2, .inl (κ 1, 0, .inl (fun _ => 0))), (q_4, .inl (κ 1, 20, .inl (fun _ => 0))), (q_5, .inl (κ 2, 8, .inr (.inr (.inr (.inr (fun _ => none)))))), (q_6, .inl (κ 0, 8, .inl (fun _ => 0)))] := hD
  refine lv_aload_n hx hb dX4_init_63 rfl (lv_at hl 0 rfl) ?_
  refine lv_null hx hb dX4_init_64 ?_
  refine va_put (D := D) (ci := 4) (v := .null) (ty := tyX4 11) (C := RX4) (T := TX4) (N := 14) hx hb hts inlX4 tyX4 tyX4_ok nmX4 hown hK hP hD hS 0 rfl rfl 11 (by decide) (hts _ mw_78) (fun _ h9 => h9) rfl (tyX4_ok 11 (by decide)) rfl rfl (Nat.le_of_ble_eq_true rfl) dX4_init_65 (fun H locs hP hD hS => ?_)
  have hP : va_P D vwCl [(r0, .inr (4, [.null, .null, .null, .ref q_1, .int 0, .int (-1), .ref q_4, .int 0, .ref q_5, .ref q_6, .int 0, .null, .null, .int 0])), (q_1, .inr (0, [.ref q_2, .int 0, .long 0])), (q_2, .inl (κ 1, 0, .inl (fun _ => 0))), (q_4, .inl (κ 1, 20, .inl (fun _ => 0))), (q_5, .inl (κ 2, 8, .inr (.inr (.inr (.inr (fun _ => none)))))), (q_6, .inl (κ 0, 8, .inl (fun _ => 0)))] H := hP
  have hD : va_D A [(r0, .inr (4, [.null, .null, .null, .ref q_1, .int 0, .int (-1), .ref q_4, .int 0, .ref q_5, .ref q_6, .int 0, .null, .null, .int 0])), (q_1, .inr (0, [.ref q_2, .int 0, .long 0])), (q_2, .inl (κ 1, 0, .inl (fun _ => 0))), (q_4, .inl (κ 1, 20, .inl (fun _ => 0))), (q_5, .inl (κ 2, 8, .inr (.inr (.inr (.inr (fun _ => none)))))), (q_6, .inl (κ 0, 8, .inl (fun _ => 0)))] := hD
  refine lv_aload_n hx hb dX4_init_68 rfl (lv_at hl 0 rfl) ?_
  refine lv_sipush (v := 320) hx hb dX4_init_69 (by decide) ?_
  refine my_newq hx hb hown (hts _ mw_66) hKK.2.1 hK hP hD hS hA 2 rfl (N' := 320) (by decide) (by decide) (Nat.le_of_ble_eq_true rfl) (Nat.le_of_ble_eq_true rfl) (Nat.le_of_ble_eq_true rfl) dX4_init_72 (fun q_7 H hP hD hS => ?_)
  have hP : va_P D vwCl [(r0, .inr (4, [.null, .null, .null, .ref q_1, .int 0, .int (-1), .ref q_4, .int 0, .ref q_5, .ref q_6, .int 0, .null, .null, .int 0])), (q_1, .inr (0, [.ref q_2, .int 0, .long 0])), (q_2, .inl (κ 1, 0, .inl (fun _ => 0))), (q_4, .inl (κ 1, 20, .inl (fun _ => 0))), (q_5, .inl (κ 2, 8, .inr (.inr (.inr (.inr (fun _ => none)))))), (q_6, .inl (κ 0, 8, .inl (fun _ => 0))), (q_7, .inl (κ 2, 320, .inr (.inr (.inr (.inr (fun _ => none))))))] H := hP
  have hD : va_D A [(r0, .inr (4, [.null, .null, .null, .ref q_1, .int 0, .int (-1), .ref q_4, .int 0, .ref q_5, .ref q_6, .int 0, .null, .null, .int 0])), (q_1, .inr (0, [.ref q_2, .int 0, .long 0])), (q_2, .inl (κ 1, 0, .inl (fun _ => 0))), (q_4, .inl (κ 1, 20, .inl (fun _ => 0))), (q_5, .inl (κ 2, 8, .inr (.inr (.inr (.inr (fun _ => none)))))), (q_6, .inl (κ 0, 8, .inl (fun _ => 0))), (q_7, .inl (κ 2, 320, .inr (.inr (.inr (.inr (fun _ => none))))))] := hD
  refine va_putF (D := D) (ci := 4) (v := .ref q_7) (ty := tyX4 12) (C := RX4) (T := TX4) (N := 14) hx hb hts inlX4 tyX4 tyX4_ok nmX4 hown hK hP hD hS 0 rfl rfl 12 (by decide) (hts _ mw_79) (fun _ h9 => h9) rfl hin rfl (tyX4_ok 12 (by decide)) rfl rfl (Nat.le_of_ble_eq_true rfl) dX4_init_75 (fun H locs hP hD hS => ?_)
  have hP : va_P D vwCl [(r0, .inr (4, [.null, .null, .null, .ref q_1, .int 0, .int (-1), .ref q_4, .int 0, .ref q_5, .ref q_6, .int 0, .null, .ref q_7, .int 0])), (q_1, .inr (0, [.ref q_2, .int 0, .long 0])), (q_2, .inl (κ 1, 0, .inl (fun _ => 0))), (q_4, .inl (κ 1, 20, .inl (fun _ => 0))), (q_5, .inl (κ 2, 8, .inr (.inr (.inr (.inr (fun _ => none)))))), (q_6, .inl (κ 0, 8, .inl (fun _ => 0))), (q_7, .inl (κ 2, 320, .inr (.inr (.inr (.inr (fun _ => none))))))] H := hP
  have hD : va_D A [(r0, .inr (4, [.null, .null, .null, .ref q_1, .int 0, .int (-1), .ref q_4, .int 0, .ref q_5, .ref q_6, .int 0, .null, .ref q_7, .int 0])), (q_1, .inr (0, [.ref q_2, .int 0, .long 0])), (q_2, .inl (κ 1, 0, .inl (fun _ => 0))), (q_4, .inl (κ 1, 20, .inl (fun _ => 0))), (q_5, .inl (κ 2, 8, .inr (.inr (.inr (.inr (fun _ => none)))))), (q_6, .inl (κ 0, 8, .inl (fun _ => 0))), (q_7, .inl (κ 2, 320, .inr (.inr (.inr (.inr (fun _ => none))))))] := hD
  refine lv_aload_n hx hb dX4_init_78 rfl (lv_at hl 0 rfl) ?_
  refine lv_iconst (v := 0) hx hb dX4_init_79 (by decide) ?_
  refine va_put (D := D) (ci := 4) (v := .int 0) (ty := tyX4 13) (C := RX4) (T := TX4) (N := 14) hx hb hts inlX4 tyX4 tyX4_ok nmX4 hown hK hP hD hS 0 rfl rfl 13 (by decide) (hts _ mw_80) (fun _ h9 => h9) rfl (tyX4_ok 13 (by decide)) rfl rfl (Nat.le_of_ble_eq_true rfl) dX4_init_80 (fun H locs hP hD hS => ?_)
  have hP : va_P D vwCl [(r0, .inr (4, [.null, .null, .null, .ref q_1, .int 0, .int (-1), .ref q_4, .int 0, .ref q_5, .ref q_6, .int 0, .null, .ref q_7, .int 0])), (q_1, .inr (0, [.ref q_2, .int 0, .long 0])), (q_2, .inl (κ 1, 0, .inl (fun _ => 0))), (q_4, .inl (κ 1, 20, .inl (fun _ => 0))), (q_5, .inl (κ 2, 8, .inr (.inr (.inr (.inr (fun _ => none)))))), (q_6, .inl (κ 0, 8, .inl (fun _ => 0))), (q_7, .inl (κ 2, 320, .inr (.inr (.inr (.inr (fun _ => none))))))] H := hP
  have hD : va_D A [(r0, .inr (4, [.null, .null, .null, .ref q_1, .int 0, .int (-1), .ref q_4, .int 0, .ref q_5, .ref q_6, .int 0, .null, .ref q_7, .int 0])), (q_1, .inr (0, [.ref q_2, .int 0, .long 0])), (q_2, .inl (κ 1, 0, .inl (fun _ => 0))), (q_4, .inl (κ 1, 20, .inl (fun _ => 0))), (q_5, .inl (κ 2, 8, .inr (.inr (.inr (.inr (fun _ => none)))))), (q_6, .inl (κ 0, 8, .inl (fun _ => 0))), (q_7, .inl (κ 2, 320, .inr (.inr (.inr (.inr (fun _ => none))))))] := hD
  refine lv_aload_n hx hb dX4_init_83 rfl (lv_at hl 0 rfl) ?_
  refine lv_aload_n hx hb dX4_init_84 rfl (lv_at hl 1 rfl) ?_
  refine va_putF (D := D) (ci := 4) (v := .ref t0) (ty := tyX4 0) (C := RX4) (T := TX4) (N := 14) hx hb hts inlX4 tyX4 tyX4_ok nmX4 hown hK hP hD hS 0 rfl rfl 0 (by decide) (hts _ mw_81) (fun _ h9 => h9) rfl hin rfl (tyX4_ok 0 (by decide)) rfl rfl (Nat.le_of_ble_eq_true rfl) dX4_init_85 (fun H locs hP hD hS => ?_)
  have hP : va_P D vwCl [(r0, .inr (4, [.ref t0, .null, .null, .ref q_1, .int 0, .int (-1), .ref q_4, .int 0, .ref q_5, .ref q_6, .int 0, .null, .ref q_7, .int 0])), (q_1, .inr (0, [.ref q_2, .int 0, .long 0])), (q_2, .inl (κ 1, 0, .inl (fun _ => 0))), (q_4, .inl (κ 1, 20, .inl (fun _ => 0))), (q_5, .inl (κ 2, 8, .inr (.inr (.inr (.inr (fun _ => none)))))), (q_6, .inl (κ 0, 8, .inl (fun _ => 0))), (q_7, .inl (κ 2, 320, .inr (.inr (.inr (.inr (fun _ => none))))))] H := hP
  have hD : va_D A [(r0, .inr (4, [.ref t0, .null, .null, .ref q_1, .int 0, .int (-1), .ref q_4, .int 0, .ref q_5, .ref q_6, .int 0, .null, .ref q_7, .int 0])), (q_1, .inr (0, [.ref q_2, .int 0, .long 0])), (q_2, .inl (κ 1, 0, .inl (fun _ => 0))), (q_4, .inl (κ 1, 20, .inl (fun _ => 0))), (q_5, .inl (κ 2, 8, .inr (.inr (.inr (.inr (fun _ => none)))))), (q_6, .inl (κ 0, 8, .inl (fun _ => 0))), (q_7, .inl (κ 2, 320, .inr (.inr (.inr (.inr (fun _ => none))))))] := hD
  refine lv_aload_n hx hb dX4_init_88 rfl (lv_at hl 0 rfl) ?_
  refine lv_aload_n hx hb dX4_init_89 rfl (lv_at hl 2 rfl) ?_
  refine va_putF (D := D) (ci := 4) (v := .ref n1) (ty := tyX4 1) (C := RX4) (T := TX4) (N := 14) hx hb hts inlX4 tyX4 tyX4_ok nmX4 hown hK hP hD hS 0 rfl rfl 1 (by decide) (hts _ mw_82) (fun _ h9 => h9) rfl hin rfl (tyX4_ok 1 (by decide)) rfl rfl (Nat.le_of_ble_eq_true rfl) dX4_init_90 (fun H locs hP hD hS => ?_)
  have hP : va_P D vwCl [(r0, .inr (4, [.ref t0, .ref n1, .null, .ref q_1, .int 0, .int (-1), .ref q_4, .int 0, .ref q_5, .ref q_6, .int 0, .null, .ref q_7, .int 0])), (q_1, .inr (0, [.ref q_2, .int 0, .long 0])), (q_2, .inl (κ 1, 0, .inl (fun _ => 0))), (q_4, .inl (κ 1, 20, .inl (fun _ => 0))), (q_5, .inl (κ 2, 8, .inr (.inr (.inr (.inr (fun _ => none)))))), (q_6, .inl (κ 0, 8, .inl (fun _ => 0))), (q_7, .inl (κ 2, 320, .inr (.inr (.inr (.inr (fun _ => none))))))] H := hP
  have hD : va_D A [(r0, .inr (4, [.ref t0, .ref n1, .null, .ref q_1, .int 0, .int (-1), .ref q_4, .int 0, .ref q_5, .ref q_6, .int 0, .null, .ref q_7, .int 0])), (q_1, .inr (0, [.ref q_2, .int 0, .long 0])), (q_2, .inl (κ 1, 0, .inl (fun _ => 0))), (q_4, .inl (κ 1, 20, .inl (fun _ => 0))), (q_5, .inl (κ 2, 8, .inr (.inr (.inr (.inr (fun _ => none)))))), (q_6, .inl (κ 0, 8, .inl (fun _ => 0))), (q_7, .inl (κ 2, 320, .inr (.inr (.inr (.inr (fun _ => none))))))] := hD
  refine lv_aload_n hx hb dX4_init_93 rfl (lv_at hl 0 rfl) ?_
  refine lv_aload_n hx hb dX4_init_94 rfl (lv_at hl 3 rfl) ?_
  refine va_putF (D := D) (ci := 4) (v := .ref f0) (ty := tyX4 2) (C := RX4) (T := TX4) (N := 14) hx hb hts inlX4 tyX4 tyX4_ok nmX4 hown hK hP hD hS 0 rfl rfl 2 (by decide) (hts _ mw_83) (fun _ h9 => h9) rfl hin rfl (tyX4_ok 2 (by decide)) rfl rfl (Nat.le_of_ble_eq_true rfl) dX4_init_95 (fun H locs hP hD hS => ?_)
  have hP : va_P D vwCl [(r0, .inr (4, [.ref t0, .ref n1, .ref f0, .ref q_1, .int 0, .int (-1), .ref q_4, .int 0, .ref q_5, .ref q_6, .int 0, .null, .ref q_7, .int 0])), (q_1, .inr (0, [.ref q_2, .int 0, .long 0])), (q_2, .inl (κ 1, 0, .inl (fun _ => 0))), (q_4, .inl (κ 1, 20, .inl (fun _ => 0))), (q_5, .inl (κ 2, 8, .inr (.inr (.inr (.inr (fun _ => none)))))), (q_6, .inl (κ 0, 8, .inl (fun _ => 0))), (q_7, .inl (κ 2, 320, .inr (.inr (.inr (.inr (fun _ => none))))))] H := hP
  have hD : va_D A [(r0, .inr (4, [.ref t0, .ref n1, .ref f0, .ref q_1, .int 0, .int (-1), .ref q_4, .int 0, .ref q_5, .ref q_6, .int 0, .null, .ref q_7, .int 0])), (q_1, .inr (0, [.ref q_2, .int 0, .long 0])), (q_2, .inl (κ 1, 0, .inl (fun _ => 0))), (q_4, .inl (κ 1, 20, .inl (fun _ => 0))), (q_5, .inl (κ 2, 8, .inr (.inr (.inr (.inr (fun _ => none)))))), (q_6, .inl (κ 0, 8, .inl (fun _ => 0))), (q_7, .inl (κ 2, 320, .inr (.inr (.inr (.inr (fun _ => none))))))] := hD
  exact ct_vret hx hb hr hlk hS hP hD (q_1, q_2, q_4, q_5, q_6, q_7) rfl trivial [0, 1, 2, 3, 4, 5, 6] rfl (by decide) trivial (Nat.le_of_ble_eq_true rfl) (Nat.le_of_ble_eq_true rfl) dX4_init_98
set_option maxHeartbeats 4000000 in
set_option maxRecDepth 100000 in
theorem c_X11_init (l : Launch) (D : va_G) (κ : Nat → ClassId) (x0 : Nat) : Ct l yX11_init (wl yX11_init cX11_init 1 none) { frames := 3, cells := 24, slots := 7244, locals := 65 } D κ [.ref x0] [(x0, .inr (11, [.null, .null, .null, .null, .null, .null, .int 0]))] (fun _ => True) (fun u9 : Nat × Nat × Nat × Nat × Nat × Nat × Nat × Nat × Nat × Nat × Nat × Nat × Nat × Nat × Nat × Nat × Nat × Nat × Nat × Nat × Nat × Nat × Nat × Nat => none) (fun u9 : Nat × Nat × Nat × Nat × Nat × Nat × Nat × Nat × Nat × Nat × Nat × Nat × Nat × Nat × Nat × Nat × Nat × Nat × Nat × Nat × Nat × Nat × Nat × Nat => True) (fun u9 : Nat × Nat × Nat × Nat × Nat × Nat × Nat × Nat × Nat × Nat × Nat × Nat × Nat × Nat × Nat × Nat × Nat × Nat × Nat × Nat × Nat × Nat × Nat × Nat => [(x0, .inr (11, [.ref u9.1, .ref u9.2.1, .ref u9.2.2.1, .ref u9.2.2.2.1, .ref u9.2.2.2.2.1, .ref u9.2.2.2.2.2.1, .int 0])), (u9.1, .inr (6, [.ref u9.2.2.2.2.2.2.1, .ref u9.2.2.2.2.2.2.2.1, .ref u9.2.2.2.2.2.2.2.2.1, .ref u9.2.2.2.2.2.2.2.2.2.1, .ref u9.2.2.2.2.2.2.2.2.2.2.1, .int 0])), (u9.2.2.2.2.2.2.1, .inl (κ 0, 6, .inl dial0)), (u9.2.2.2.2.2.2.2.1, .inl (κ 4, 3, .inr (.inr (.inr (.inr (fun _ => none)))))), (u9.2.2.2.2.2.2.2.2.1, .inl (κ 5, 3, .inr (.inr (.inr (.inr (fun _ => none)))))), (u9.2.2.2.2.2.2.2.2.2.1, .inl (κ 0, 6, .inl (fun _ => 0))), (u9.2.2.2.2.2.2.2.2.2.2.1, .inl (κ 4, 6, .inr (.inr (.inr (.inr (fun _ => none)))))), (u9.2.1, .inr (8, [.ref u9.2.2.2.2.2.2.2.2.2.2.2.1, .int 0])), (u9.2.2.2.2.2.2.2.2.2.2.2.1, .inl (κ 0, 800, .inl (fun _ => 0))), (u9.2.2.1, .inr (2, [.int 0, .int (-1), .int (-1), .int (-1), .int (-1), .int 0])), (u9.2.2.2.1, .inr (4, [.ref u9.2.1, .ref u9.2.2.2.2.2.2.1, .ref u9.2.2.1, .ref u9.2.2.2.2.2.2.2.2.2.2.2.2.1, .int 0, .int (-1), .ref u9.2.2.2.2.2.2.2.2.2.2.2.2.2.1, .int 0, .ref u9.2.2.2.2.2.2.2.2.2.2.2.2.2.2.1, .ref u9.2.2.2.2.2.2.2.2.2.2.2.2.2.2.2.1, .int 0, .null, .ref u9.2.2.2.2.2.2.2.2.2.2.2.2.2.2.2.2.1, .int 0])), (u9.2.2.2.2.2.2.2.2.2.2.2.2.1, .inr (0, [.ref u9.2.2.2.2.2.2.2.2.2.2.2.2.2.2.2.2.2.1, .int 0, .long 0])), (u9.2.2.2.2.2.2.2.2.2.2.2.2.2.2.2.2.2.1, .inl (κ 1, 0, .inl (fun _ => 0))), (u9.2.2.2.2.2.2.2.2.2.2.2.2.2.1, .inl (κ 1, 20, .inl (fun _ => 0))), (u9.2.2.2.2.2.2.2.2.2.2.2.2.2.2.1, .inl (κ 2, 8, .inr (.inr (.inr (.inr (fun _ => none)))))), (u9.2.2.2.2.2.2.2.2.2.2.2.2.2.2.2.1, .inl (κ 0, 8, .inl (fun _ => 0))), (u9.2.2.2.2.2.2.2.2.2.2.2.2.2.2.2.2.1, .inl (κ 2, 320, .inr (.inr (.inr (.inr (fun _ => none)))))), (u9.2.2.2.2.1, .inr (10, [.ref u9.2.2.2.2.2.2.1, .ref u9.2.2.2.2.2.2.2.2.2.2.2.2.2.2.2.2.2.2.1, .int 0])), (u9.2.2.2.2.2.2.2.2.2.2.2.2.2.2.2.2.2.2.1, .inl (κ 1, 6000, .inl (fun _ => 0))), (u9.2.2.2.2.2.1, .inr (6, [.ref u9.2.2.2.2.2.2.2.2.2.2.2.2.2.2.2.2.2.2.2.1, .ref u9.2.2.2.2.2.2.2.2.2.2.2.2.2.2.2.2.2.2.2.2.1, .ref u9.2.2.2.2.2.2.2.2.2.2.2.2.2.2.2.2.2.2.2.2.2.1, .ref u9.2.2.2.2.2.2.2.2.2.2.2.2.2.2.2.2.2.2.2.2.2.2.1, .ref u9.2.2.2.2.2.2.2.2.2.2.2.2.2.2.2.2.2.2.2.2.2.2.2, .int 0])), (u9.2.2.2.2.2.2.2.2.2.2.2.2.2.2.2.2.2.2.2.1, .inl (κ 0, 6, .inl dial0)), (u9.2.2.2.2.2.2.2.2.2.2.2.2.2.2.2.2.2.2.2.2.1, .inl (κ 4, 3, .inr (.inr (.inr (.inr (fun _ => none)))))), (u9.2.2.2.2.2.2.2.2.2.2.2.2.2.2.2.2.2.2.2.2.2.1, .inl (κ 5, 3, .inr (.inr (.inr (.inr (fun _ => none)))))), (u9.2.2.2.2.2.2.2.2.2.2.2.2.2.2.2.2.2.2.2.2.2.2.1, .inl (κ 0, 6, .inl (fun _ => 0))), (u9.2.2.2.2.2.2.2.2.2.2.2.2.2.2.2.2.2.2.2.2.2.2.2, .inl (κ 4, 6, .inr (.inr (.inr (.inr (fun _ => none))))))]) (fun _ _ => True) := by
  refine ct_of (by decide +kernel) (Nat.le_of_ble_eq_true rfl) ?_
  intro p e s m args below meth c A ls hx hb hr hml hts hown hlk hin hKK hK hA hP hD hS hI hl
  have hS : va_S A s.heap s.heap [] := hS
  have hFX : FX p s m args c cX11_init 1 RX11 := ⟨hx, hb, hml, hown, hts⟩
  have hl : lv_has ls 1 [(0, .ref x0)] := hl
  refine lv_aload_n hx hb dX11_init_0 rfl (lv_at hl 0 rfl) ?_
  refine W.objInit hx hb hown (hts _ mw_9) (hts _ mw_10) (hts _ mw_11) rfl (by rw [hml]; exact hl.1) rfl dX11_init_1 (Nat.le_of_ble_eq_true rfl) (Nat.le_of_ble_eq_true rfl) ?_
  refine W.eq (g2 := F0 m 4 ls []) rfl ?_
  refine lv_aload_n hx hb dX11_init_4 rfl (lv_at hl 0 rfl) ?_
  refine va_new (ci := 6) (fs := [.null, .null, .null, .null, .null, .int 0]) (C := RX6) (T := TX6) (N := 6) hx hb hts inlX6 tyX6 tyX6_ok hown (hts _ mw_12) (hts _ mw_13) (hts _ mw_14) hK hP hD hS hA rfl (fun j hj => by rcases (show j = 0 ∨ j = 1 ∨ j = 2 ∨ j = 3 ∨ j = 4 ∨ j = 5 by omega) with rfl | rfl | rfl | rfl | rfl | rfl <;> rfl) (Nat.le_of_ble_eq_true rfl) (Nat.le_of_ble_eq_true rfl) dX11_init_5 (fun q_1 H hP hD hS => ?_)
  have hP : va_P D vwCl [(x0, .inr (11, [.null, .null, .null, .null, .null, .null, .int 0])), (q_1, .inr (6, [.null, .null, .null, .null, .null, .int 0]))] H := hP
  have hD : va_D A [(x0, .inr (11, [.null, .null, .null, .null, .null, .null, .int 0])), (q_1, .inr (6, [.null, .null, .null, .null, .null, .int 0]))] := hD
  refine lv_dup hx hb dX11_init_8 rfl ?_
  refine ct_I (wr := [(x0, .inr (11, [.null, .null, .null, .null, .null, .null, .int 0]))]) (As := []) (rest := [.ref q_1, .ref x0]) hFX hKK hP hD hS hA (c_X6_init l D κ q_1) 0 mw_35 mw_36 mw_14 mw_37 hdI_X6_init ⟨Nat.le_of_ble_eq_true rfl, Nat.le_of_ble_eq_true rfl⟩ rfl rfl (Nat.le_of_ble_eq_true rfl) dX11_init_9 ⟨Nat.le_of_ble_eq_true rfl, Nat.le_of_ble_eq_true rfl⟩ hl.1 [1] [0] rfl rfl (by decide) (by decide) (by decide) trivial (fun u_7 H locs hp_8 _ hP hD hS hz_ hk_ => ?_)
  obtain ⟨n1_2, n2_3, n3_4, n4_5, n5_6⟩ := u_7
  have hP : va_P D vwCl [(x0, .inr (11, [.null, .null, .null, .null, .null, .null, .int 0])), (q_1, .inr (6, [.ref n1_2, .ref n2_3, .ref n3_4, .ref n4_5, .ref n5_6, .int 0])), (n1_2, .inl (κ 0, 6, .inl dial0)), (n2_3, .inl (κ 4, 3, .inr (.inr (.inr (.inr (fun _ => none)))))), (n3_4, .inl (κ 5, 3, .inr (.inr (.inr (.inr (fun _ => none)))))), (n4_5, .inl (κ 0, 6, .inl (fun _ => 0))), (n5_6, .inl (κ 4, 6, .inr (.inr (.inr (.inr (fun _ => none))))))] H := hP
  have hD : va_D A [(x0, .inr (11, [.null, .null, .null, .null, .null, .null, .int 0])), (q_1, .inr (6, [.ref n1_2, .ref n2_3, .ref n3_4, .ref n4_5, .ref n5_6, .int 0])), (n1_2, .inl (κ 0, 6, .inl dial0)), (n2_3, .inl (κ 4, 3, .inr (.inr (.inr (.inr (fun _ => none)))))), (n3_4, .inl (κ 5, 3, .inr (.inr (.inr (.inr (fun _ => none)))))), (n4_5, .inl (κ 0, 6, .inl (fun _ => 0))), (n5_6, .inl (κ 4, 6, .inr (.inr (.inr (.inr (fun _ => none))))))] := hD
  refine W.eq (g2 := F0 m 12 ls [.ref q_1, .ref x0]) rfl ?_
  refine va_putF (D := D) (ci := 11) (v := .ref q_1) (ty := tyX11 0) (C := RX11) (T := TX11) (N := 7) hx hb hts inlX11 tyX11 tyX11_ok nmX11 hown hK hP hD hS 0 rfl rfl 0 (by decide) (hts _ mw_15) (fun _ h9 => h9) rfl hin rfl (tyX11_ok 0 (by decide)) rfl rfl (Nat.le_of_ble_eq_true rfl) dX11_init_12 (fun H locs hP hD hS => ?_)
  have hP : va_P D vwCl [(x0, .inr (11, [.ref q_1, .null, .null, .null, .null, .null, .int 0])), (q_1, .inr (6, [.ref n1_2, .ref n2_3, .ref n3_4, .ref n4_5, .ref n5_6, .int 0])), (n1_2, .inl (κ 0, 6, .inl dial0)), (n2_3, .inl (κ 4, 3, .inr (.inr (.inr (.inr (fun _ => none)))))), (n3_4, .inl (κ 5, 3, .inr (.inr (.inr (.inr (fun _ => none)))))), (n4_5, .inl (κ 0, 6, .inl (fun _ => 0))), (n5_6, .inl (κ 4, 6, .inr (.inr (.inr (.inr (fun _ => none))))))] H := hP
  have hD : va_D A [(x0, .inr (11, [.ref q_1, .null, .null, .null, .null, .null, .int 0])), (q_1, .inr (6, [.ref n1_2, .ref n2_3, .ref n3_4, .ref n4_5, .ref n5_6, .int 0])), (n1_2, .inl (κ 0, 6, .inl dial0)), (n2_3, .inl (κ 4, 3, .inr (.inr (.inr (.inr (fun _ => none)))))), (n3_4, .inl (κ 5, 3, .inr (.inr (.inr (.inr (fun _ => none)))))), (n4_5, .inl (κ 0, 6, .inl (fun _ => 0))), (n5_6, .inl (κ 4, 6, .inr (.inr (.inr (.inr (fun _ => none))))))] := hD
  refine lv_aload_n hx hb dX11_init_15 rfl (lv_at hl 0 rfl) ?_
  refine va_new (ci := 8) (fs := [.null, .int 0]) (C := RX8) (T := TX8) (N := 2) hx hb hts inlX8 tyX8 tyX8_ok hown (hts _ mw_16) (hts _ mw_17) (hts _ mw_18) hK hP hD hS hA rfl (fun j hj => by rcases (show j = 0 ∨ j = 1 by omega) with rfl | rfl <;> rfl) (Nat.le_of_ble_eq_true rfl) (Nat.le_of_ble_eq_true rfl) dX11_init_16 (fun q_9 H hP hD hS => ?_)
  have hP : va_P D vwCl [(x0, .inr (11, [.ref q_1, .null, .null, .null, .null, .null, .int 0])), (q_1, .inr (6, [.ref n1_2, .ref n2_3, .ref n3_4, .ref n4_5, .ref n5_6, .int 0])), (n1_2, .inl (κ 0, 6, .inl dial0)), (n2_3, .inl (κ 4, 3, .inr (.inr (.inr (.inr (fun _ => none)))))), (n3_4, .inl (κ 5, 3, .inr (.inr (.inr (.inr (fun _ => none)))))), (n4_5, .inl (κ 0, 6, .inl (fun _ => 0))), (n5_6, .inl (κ 4, 6, .inr (.inr (.inr (.inr (fun _ => none)))))), (q_9, .inr (8, [.null, .int 0]))] H := hP
  have hD : va_D A [(x0, .inr (11, [.ref q_1, .null, .null, .null, .null, .null, .int 0])), (q_1, .inr (6, [.ref n1_2, .ref n2_3, .ref n3_4, .ref n4_5, .ref n5_6, .int 0])), (n1_2, .inl (κ 0, 6, .inl dial0)), (n2_3, .inl (κ 4, 3, .inr (.inr (.inr (.inr (fun _ => none)))))), (n3_4, .inl (κ 5, 3, .inr (.inr (.inr (.inr (fun _ => none)))))), (n4_5, .inl (κ 0, 6, .inl (fun _ => 0))), (n5_6, .inl (κ 4, 6, .inr (.inr (.inr (.inr (fun _ => none)))))), (q_9, .inr (8, [.null, .int 0]))] := hD
  refine lv_dup hx hb dX11_init_19 rfl ?_
  refine ct_IN (wr := [(x0, .inr (11, [.ref q_1, .null, .null, .null, .null, .null, .int 0])), (q_1, .inr (6, [.ref n1_2, .ref n2_3, .ref n3_4, .ref n4_5, .ref n5_6, .int 0])), (n1_2, .inl (κ 0, 6, .inl dial0)), (n2_3, .inl (κ 4, 3, .inr (.inr (.inr (.inr (fun _ => none)))))), (n3_4, .inl (κ 5, 3, .inr (.inr (.inr (.inr (fun _ => none)))))), (n4_5, .inl (κ 0, 6, .inl (fun _ => 0))), (n5_6, .inl (κ 4, 6, .inr (.inr (.inr (.inr (fun _ => none))))))]) (As := []) (rest := [.ref q_9, .ref x0]) hFX hKK hP hD hS hA (c_X8_init l D κ q_9) 0 nw_X11_18 mw_48 mw_18 mw_49 hdI_X8_init ⟨Nat.le_of_ble_eq_true rfl, Nat.le_of_ble_eq_true rfl⟩ rfl rfl (Nat.le_of_ble_eq_true rfl) dX11_init_20 ⟨Nat.le_of_ble_eq_true rfl, Nat.le_of_ble_eq_true rfl⟩ hl.1 [7] [0, 1, 2, 3, 4, 5, 6] rfl rfl (by decide) (by decide) (by decide) trivial (fun t1_10 H locs hp_11 _ hP hD hS hz_ hk_ => ?_)
  have hP : va_P D vwCl [(x0, .inr (11, [.ref q_1, .null, .null, .null, .null, .null, .int 0])), (q_1, .inr (6, [.ref n1_2, .ref n2_3, .ref n3_4, .ref n4_5, .ref n5_6, .int 0])), (n1_2, .inl (κ 0, 6, .inl dial0)), (n2_3, .inl (κ 4, 3, .inr (.inr (.inr (.inr (fun _ => none)))))), (n3_4, .inl (κ 5, 3, .inr (.inr (.inr (.inr (fun _ => none)))))), (n4_5, .inl (κ 0, 6, .inl (fun _ => 0))), (n5_6, .inl (κ 4, 6, .inr (.inr (.inr (.inr (fun _ => none)))))), (q_9, .inr (8, [.ref t1_10, .int 0])), (t1_10, .inl (κ 0, 800, .inl (fun _ => 0)))] H := hP
  have hD : va_D A [(x0, .inr (11, [.ref q_1, .null, .null, .null, .null, .null, .int 0])), (q_1, .inr (6, [.ref n1_2, .ref n2_3, .ref n3_4, .ref n4_5, .ref n5_6, .int 0])), (n1_2, .inl (κ 0, 6, .inl dial0)), (n2_3, .inl (κ 4, 3, .inr (.inr (.inr (.inr (fun _ => none)))))), (n3_4, .inl (κ 5, 3, .inr (.inr (.inr (.inr (fun _ => none)))))), (n4_5, .inl (κ 0, 6, .inl (fun _ => 0))), (n5_6, .inl (κ 4, 6, .inr (.inr (.inr (.inr (fun _ => none)))))), (q_9, .inr (8, [.ref t1_10, .int 0])), (t1_10, .inl (κ 0, 800, .inl (fun _ => 0)))] := hD
  refine W.eq (g2 := F0 m 23 ls [.ref q_9, .ref x0]) rfl ?_
  refine va_putF (D := D) (ci := 11) (v := .ref q_9) (ty := tyX11 1) (C := RX11) (T := TX11) (N := 7) hx hb hts inlX11 tyX11 tyX11_ok nmX11 hown hK hP hD hS 0 rfl rfl 1 (by decide) (hts _ mw_19) (fun _ h9 => h9) rfl hin rfl (tyX11_ok 1 (by decide)) rfl rfl (Nat.le_of_ble_eq_true rfl) dX11_init_23 (fun H locs hP hD hS => ?_)
  have hP : va_P D vwCl [(x0, .inr (11, [.ref q_1, .ref q_9, .null, .null, .null, .null, .int 0])), (q_1, .inr (6, [.ref n1_2, .ref n2_3, .ref n3_4, .ref n4_5, .ref n5_6, .int 0])), (n1_2, .inl (κ 0, 6, .inl dial0)), (n2_3, .inl (κ 4, 3, .inr (.inr (.inr (.inr (fun _ => none)))))), (n3_4, .inl (κ 5, 3, .inr (.inr (.inr (.inr (fun _ => none)))))), (n4_5, .inl (κ 0, 6, .inl (fun _ => 0))), (n5_6, .inl (κ 4, 6, .inr (.inr (.inr (.inr (fun _ => none)))))), (q_9, .inr (8, [.ref t1_10, .int 0])), (t1_10, .inl (κ 0, 800, .inl (fun _ => 0)))] H := hP
  have hD : va_D A [(x0, .inr (11, [.ref q_1, .ref q_9, .null, .null, .null, .null, .int 0])), (q_1, .inr (6, [.ref n1_2, .ref n2_3, .ref n3_4, .ref n4_5, .ref n5_6, .int 0])), (n1_2, .inl (κ 0, 6, .inl dial0)), (n2_3, .inl (κ 4, 3, .inr (.inr (.inr (.inr (fun _ => none)))))), (n3_4, .inl (κ 5, 3, .inr (.inr (.inr (.inr (fun _ => none)))))), (n4_5, .inl (κ 0, 6, .inl (fun _ => 0))), (n5_6, .inl (κ 4, 6, .inr (.inr (.inr (.inr (fun _ => none)))))), (q_9, .inr (8, [.ref t1_10, .int 0])), (t1_10, .inl (κ 0, 800, .inl (fun _ => 0)))] := hD
  refine lv_aload_n hx hb dX11_init_26 rfl (lv_at hl 0 rfl) ?_
  refine va_new (ci := 2) (fs := [.int 0, .int 0, .int 0, .int 0, .int 0, .int 0]) (C := RX2) (T := TX2) (N := 6) hx hb hts inlX2 tyX2 tyX2_ok hown (hts _ mw_20) (hts _ mw_21) (hts _ mw_22) hK hP hD hS hA rfl (fun j hj => by rcases (show j = 0 ∨ j = 1 ∨ j = 2 ∨ j = 3 ∨ j = 4 ∨ j = 5 by omega) with rfl | rfl | rfl | rfl | rfl | rfl <;> rfl) (Nat.le_of_ble_eq_true rfl) (Nat.le_of_ble_eq_true rfl) dX11_init_27 (fun q_12 H hP hD hS => ?_)
  have hP : va_P D vwCl [(x0, .inr (11, [.ref q_1, .ref q_9, .null, .null, .null, .null, .int 0])), (q_1, .inr (6, [.ref n1_2, .ref n2_3, .ref n3_4, .ref n4_5, .ref n5_6, .int 0])), (n1_2, .inl (κ 0, 6, .inl dial0)), (n2_3, .inl (κ 4, 3, .inr (.inr (.inr (.inr (fun _ => none)))))), (n3_4, .inl (κ 5, 3, .inr (.inr (.inr (.inr (fun _ => none)))))), (n4_5, .inl (κ 0, 6, .inl (fun _ => 0))), (n5_6, .inl (κ 4, 6, .inr (.inr (.inr (.inr (fun _ => none)))))), (q_9, .inr (8, [.ref t1_10, .int 0])), (t1_10, .inl (κ 0, 800, .inl (fun _ => 0))), (q_12, .inr (2, [.int 0, .int 0, .int 0, .int 0, .int 0, .int 0]))] H := hP
  have hD : va_D A [(x0, .inr (11, [.ref q_1, .ref q_9, .null, .null, .null, .null, .int 0])), (q_1, .inr (6, [.ref n1_2, .ref n2_3, .ref n3_4, .ref n4_5, .ref n5_6, .int 0])), (n1_2, .inl (κ 0, 6, .inl dial0)), (n2_3, .inl (κ 4, 3, .inr (.inr (.inr (.inr (fun _ => none)))))), (n3_4, .inl (κ 5, 3, .inr (.inr (.inr (.inr (fun _ => none)))))), (n4_5, .inl (κ 0, 6, .inl (fun _ => 0))), (n5_6, .inl (κ 4, 6, .inr (.inr (.inr (.inr (fun _ => none)))))), (q_9, .inr (8, [.ref t1_10, .int 0])), (t1_10, .inl (κ 0, 800, .inl (fun _ => 0))), (q_12, .inr (2, [.int 0, .int 0, .int 0, .int 0, .int 0, .int 0]))] := hD
  refine lv_dup hx hb dX11_init_30 rfl ?_
  refine ct_IN (wr := [(x0, .inr (11, [.ref q_1, .ref q_9, .null, .null, .null, .null, .int 0])), (q_1, .inr (6, [.ref n1_2, .ref n2_3, .ref n3_4, .ref n4_5, .ref n5_6, .int 0])), (n1_2, .inl (κ 0, 6, .inl dial0)), (n2_3, .inl (κ 4, 3, .inr (.inr (.inr (.inr (fun _ => none)))))), (n3_4, .inl (κ 5, 3, .inr (.inr (.inr (.inr (fun _ => none)))))), (n4_5, .inl (κ 0, 6, .inl (fun _ => 0))), (n5_6, .inl (κ 4, 6, .inr (.inr (.inr (.inr (fun _ => none)))))), (q_9, .inr (8, [.ref t1_10, .int 0])), (t1_10, .inl (κ 0, 800, .inl (fun _ => 0)))]) (As := []) (rest := [.ref q_12, .ref x0]) hFX hKK hP hD hS hA (c_X2_init l D κ q_12) 0 nw_X11_25 mw_53 mw_22 mw_54 hdI_X2_init ⟨Nat.le_of_ble_eq_true rfl, Nat.le_of_ble_eq_true rfl⟩ rfl rfl (Nat.le_of_ble_eq_true rfl) dX11_init_31 ⟨Nat.le_of_ble_eq_true rfl, Nat.le_of_ble_eq_true rfl⟩ hl.1 [9] [0, 1, 2, 3, 4, 5, 6, 7, 8] rfl rfl (by decide) (by decide) (by decide) trivial (fun _ H locs hp_13 _ hP hD hS hz_ hk_ => ?_)
  have hP : va_P D vwCl [(x0, .inr (11, [.ref q_1, .ref q_9, .null, .null, .null, .null, .int 0])), (q_1, .inr (6, [.ref n1_2, .ref n2_3, .ref n3_4, .ref n4_5, .ref n5_6, .int 0])), (n1_2, .inl (κ 0, 6, .inl dial0)), (n2_3, .inl (κ 4, 3, .inr (.inr (.inr (.inr (fun _ => none)))))), (n3_4, .inl (κ 5, 3, .inr (.inr (.inr (.inr (fun _ => none)))))), (n4_5, .inl (κ 0, 6, .inl (fun _ => 0))), (n5_6, .inl (κ 4, 6, .inr (.inr (.inr (.inr (fun _ => none)))))), (q_9, .inr (8, [.ref t1_10, .int 0])), (t1_10, .inl (κ 0, 800, .inl (fun _ => 0))), (q_12, .inr (2, [.int 0, .int (-1), .int (-1), .int (-1), .int (-1), .int 0]))] H := hP
  have hD : va_D A [(x0, .inr (11, [.ref q_1, .ref q_9, .null, .null, .null, .null, .int 0])), (q_1, .inr (6, [.ref n1_2, .ref n2_3, .ref n3_4, .ref n4_5, .ref n5_6, .int 0])), (n1_2, .inl (κ 0, 6, .inl dial0)), (n2_3, .inl (κ 4, 3, .inr (.inr (.inr (.inr (fun _ => none)))))), (n3_4, .inl (κ 5, 3, .inr (.inr (.inr (.inr (fun _ => none)))))), (n4_5, .inl (κ 0, 6, .inl (fun _ => 0))), (n5_6, .inl (κ 4, 6, .inr (.inr (.inr (.inr (fun _ => none)))))), (q_9, .inr (8, [.ref t1_10, .int 0])), (t1_10, .inl (κ 0, 800, .inl (fun _ => 0))), (q_12, .inr (2, [.int 0, .int (-1), .int (-1), .int (-1), .int (-1), .int 0]))] := hD
  refine W.eq (g2 := F0 m 34 ls [.ref q_12, .ref x0]) rfl ?_
  refine va_putF (D := D) (ci := 11) (v := .ref q_12) (ty := tyX11 2) (C := RX11) (T := TX11) (N := 7) hx hb hts inlX11 tyX11 tyX11_ok nmX11 hown hK hP hD hS 0 rfl rfl 2 (by decide) (hts _ mw_23) (fun _ h9 => h9) rfl hin rfl (tyX11_ok 2 (by decide)) rfl rfl (Nat.le_of_ble_eq_true rfl) dX11_init_34 (fun H locs hP hD hS => ?_)
  have hP : va_P D vwCl [(x0, .inr (11, [.ref q_1, .ref q_9, .ref q_12, .null, .null, .null, .int 0])), (q_1, .inr (6, [.ref n1_2, .ref n2_3, .ref n3_4, .ref n4_5, .ref n5_6, .int 0])), (n1_2, .inl (κ 0, 6, .inl dial0)), (n2_3, .inl (κ 4, 3, .inr (.inr (.inr (.inr (fun _ => none)))))), (n3_4, .inl (κ 5, 3, .inr (.inr (.inr (.inr (fun _ => none)))))), (n4_5, .inl (κ 0, 6, .inl (fun _ => 0))), (n5_6, .inl (κ 4, 6, .inr (.inr (.inr (.inr (fun _ => none)))))), (q_9, .inr (8, [.ref t1_10, .int 0])), (t1_10, .inl (κ 0, 800, .inl (fun _ => 0))), (q_12, .inr (2, [.int 0, .int (-1), .int (-1), .int (-1), .int (-1), .int 0]))] H := hP
  have hD : va_D A [(x0, .inr (11, [.ref q_1, .ref q_9, .ref q_12, .null, .null, .null, .int 0])), (q_1, .inr (6, [.ref n1_2, .ref n2_3, .ref n3_4, .ref n4_5, .ref n5_6, .int 0])), (n1_2, .inl (κ 0, 6, .inl dial0)), (n2_3, .inl (κ 4, 3, .inr (.inr (.inr (.inr (fun _ => none)))))), (n3_4, .inl (κ 5, 3, .inr (.inr (.inr (.inr (fun _ => none)))))), (n4_5, .inl (κ 0, 6, .inl (fun _ => 0))), (n5_6, .inl (κ 4, 6, .inr (.inr (.inr (.inr (fun _ => none)))))), (q_9, .inr (8, [.ref t1_10, .int 0])), (t1_10, .inl (κ 0, 800, .inl (fun _ => 0))), (q_12, .inr (2, [.int 0, .int (-1), .int (-1), .int (-1), .int (-1), .int 0]))] := hD
  refine lv_aload_n hx hb dX11_init_37 rfl (lv_at hl 0 rfl) ?_
  refine va_new (ci := 4) (fs := [.null, .null, .null, .null, .int 0, .int 0, .null, .int 0, .null, .null, .int 0, .null, .null, .int 0]) (C := RX4) (T := TX4) (N := 14) hx hb hts inlX4 tyX4 tyX4_ok hown (hts _ mw_24) (hts _ mw_25) (hts _ mw_26) hK hP hD hS hA rfl (fun j hj => by rcases (show j = 0 ∨ j = 1 ∨ j = 2 ∨ j = 3 ∨ j = 4 ∨ j = 5 ∨ j = 6 ∨ j = 7 ∨ j = 8 ∨ j = 9 ∨ j = 10 ∨ j = 11 ∨ j = 12 ∨ j = 13 by omega) with rfl | rfl | rfl | rfl | rfl | rfl | rfl | rfl | rfl | rfl | rfl | rfl | rfl | rfl <;> rfl) (Nat.le_of_ble_eq_true rfl) (Nat.le_of_ble_eq_true rfl) dX11_init_38 (fun q_14 H hP hD hS => ?_)
  have hP : va_P D vwCl [(x0, .inr (11, [.ref q_1, .ref q_9, .ref q_12, .null, .null, .null, .int 0])), (q_1, .inr (6, [.ref n1_2, .ref n2_3, .ref n3_4, .ref n4_5, .ref n5_6, .int 0])), (n1_2, .inl (κ 0, 6, .inl dial0)), (n2_3, .inl (κ 4, 3, .inr (.inr (.inr (.inr (fun _ => none)))))), (n3_4, .inl (κ 5, 3, .inr (.inr (.inr (.inr (fun _ => none)))))), (n4_5, .inl (κ 0, 6, .inl (fun _ => 0))), (n5_6, .inl (κ 4, 6, .inr (.inr (.inr (.inr (fun _ => none)))))), (q_9, .inr (8, [.ref t1_10, .int 0])), (t1_10, .inl (κ 0, 800, .inl (fun _ => 0))), (q_12, .inr (2, [.int 0, .int (-1), .int (-1), .int (-1), .int (-1), .int 0])), (q_14, .inr (4, [.null, .null, .null, .null, .int 0, .int 0, .null, .int 0, .null, .null, .int 0, .null, .null, .int 0]))] H := hP
  have hD : va_D A [(x0, .inr (11, [.ref q_1, .ref q_9, .ref q_12, .null, .null, .null, .int 0])), (q_1, .inr (6, [.ref n1_2, .ref n2_3, .ref n3_4, .ref n4_5, .ref n5_6, .int 0])), (n1_2, .inl (κ 0, 6, .inl dial0)), (n2_3, .inl (κ 4, 3, .inr (.inr (.inr (.inr (fun _ => none)))))), (n3_4, .inl (κ 5, 3, .inr (.inr (.inr (.inr (fun _ => none)))))), (n4_5, .inl (κ 0, 6, .inl (fun _ => 0))), (n5_6, .inl (κ 4, 6, .inr (.inr (.inr (.inr (fun _ => none)))))), (q_9, .inr (8, [.ref t1_10, .int 0])), (t1_10, .inl (κ 0, 800, .inl (fun _ => 0))), (q_12, .inr (2, [.int 0, .int (-1), .int (-1), .int (-1), .int (-1), .int 0])), (q_14, .inr (4, [.null, .null, .null, .null, .int 0, .int 0, .null, .int 0, .null, .null, .int 0, .null, .null, .int 0]))] := hD
  refine lv_dup hx hb dX11_init_41 rfl ?_
  refine lv_aload_n hx hb dX11_init_42 rfl (lv_at hl 0 rfl) ?_
  refine va_get (D := D) (ci := 11) (v := .ref q_9) (C := RX11) (T := TX11) (N := 7) hx hb hts inlX11 hown hK hP 0 rfl rfl 1 (by decide) (hts _ mw_19) (fun _ h9 => h9) rfl dX11_init_43 ?_
  refine lv_aload_n hx hb dX11_init_46 rfl (lv_at hl 0 rfl) ?_
  refine va_get (D := D) (ci := 11) (v := .ref q_1) (C := RX11) (T := TX11) (N := 7) hx hb hts inlX11 hown hK hP 0 rfl rfl 0 (by decide) (hts _ mw_15) (fun _ h9 => h9) rfl dX11_init_47 ?_
  refine va_get (D := D) (ci := 6) (v := .ref n1_2) (C := RX6) (T := TX6) (N := 6) hx hb hts inlX6 hown hK hP 1 rfl rfl 0 (by decide) (hts _ mw_27) (fun _ h9 => h9) rfl dX11_init_50 ?_
  refine lv_aload_n hx hb dX11_init_53 rfl (lv_at hl 0 rfl) ?_
  refine va_get (D := D) (ci := 11) (v := .ref q_12) (C := RX11) (T := TX11) (N := 7) hx hb hts inlX11 hown hK hP 0 rfl rfl 2 (by decide) (hts _ mw_23) (fun _ h9 => h9) rfl dX11_init_54 ?_
  refine ct_I (wr := [(x0, .inr (11, [.ref q_1, .ref q_9, .ref q_12, .null, .null, .null, .int 0])), (q_1, .inr (6, [.ref n1_2, .ref n2_3, .ref n3_4, .ref n4_5, .ref n5_6, .int 0])), (n1_2, .inl (κ 0, 6, .inl dial0)), (n2_3, .inl (κ 4, 3, .inr (.inr (.inr (.inr (fun _ => none)))))), (n3_4, .inl (κ 5, 3, .inr (.inr (.inr (.inr (fun _ => none)))))), (n4_5, .inl (κ 0, 6, .inl (fun _ => 0))), (n5_6, .inl (κ 4, 6, .inr (.inr (.inr (.inr (fun _ => none)))))), (q_9, .inr (8, [.ref t1_10, .int 0])), (t1_10, .inl (κ 0, 800, .inl (fun _ => 0))), (q_12, .inr (2, [.int 0, .int (-1), .int (-1), .int (-1), .int (-1), .int 0]))]) (As := [.ref q_9, .ref n1_2, .ref q_12]) (rest := [.ref q_14, .ref x0]) hFX hKK hP hD hS hA (c_X4_init l D κ q_14 q_9 n1_2 q_12) 3 mw_62 mw_63 mw_26 mw_64 hdI_X4_init ⟨Nat.le_of_ble_eq_true rfl, Nat.le_of_ble_eq_true rfl⟩ rfl rfl (Nat.le_of_ble_eq_true rfl) dX11_init_57 ⟨Nat.le_of_ble_eq_true rfl, Nat.le_of_ble_eq_true rfl⟩ hl.1 [10] [0, 1, 2, 3, 4, 5, 6, 7, 8, 9] rfl rfl (by decide) (by decide) (by decide) trivial (fun u_21 H locs hp_22 _ hP hD hS hz_ hk_ => ?_)
  obtain ⟨b0_15, b1_16, r1_17, r2_18, r3_19, r4_20⟩ := u_21
  have hP : va_P D vwCl [(x0, .inr (11, [.ref q_1, .ref q_9, .ref q_12, .null, .null, .null, .int 0])), (q_1, .inr (6, [.ref n1_2, .ref n2_3, .ref n3_4, .ref n4_5, .ref n5_6, .int 0])), (n1_2, .inl (κ 0, 6, .inl dial0)), (n2_3, .inl (κ 4, 3, .inr (.inr (.inr (.inr (fun _ => none)))))), (n3_4, .inl (κ 5, 3, .inr (.inr (.inr (.inr (fun _ => none)))))), (n4_5, .inl (κ 0, 6, .inl (fun _ => 0))), (n5_6, .inl (κ 4, 6, .inr (.inr (.inr (.inr (fun _ => none)))))), (q_9, .inr (8, [.ref t1_10, .int 0])), (t1_10, .inl (κ 0, 800, .inl (fun _ => 0))), (q_12, .inr (2, [.int 0, .int (-1), .int (-1), .int (-1), .int (-1), .int 0])), (q_14, .inr (4, [.ref q_9, .ref n1_2, .ref q_12, .ref b0_15, .int 0, .int (-1), .ref r1_17, .int 0, .ref r2_18, .ref r3_19, .int 0, .null, .ref r4_20, .int 0])), (b0_15, .inr (0, [.ref b1_16, .int 0, .long 0])), (b1_16, .inl (κ 1, 0, .inl (fun _ => 0))), (r1_17, .inl (κ 1, 20, .inl (fun _ => 0))), (r2_18, .inl (κ 2, 8, .inr (.inr (.inr (.inr (fun _ => none)))))), (r3_19, .inl (κ 0, 8, .inl (fun _ => 0))), (r4_20, .inl (κ 2, 320, .inr (.inr (.inr (.inr (fun _ => none))))))] H := hP
  have hD : va_D A [(x0, .inr (11, [.ref q_1, .ref q_9, .ref q_12, .null, .null, .null, .int 0])), (q_1, .inr (6, [.ref n1_2, .ref n2_3, .ref n3_4, .ref n4_5, .ref n5_6, .int 0])), (n1_2, .inl (κ 0, 6, .inl dial0)), (n2_3, .inl (κ 4, 3, .inr (.inr (.inr (.inr (fun _ => none)))))), (n3_4, .inl (κ 5, 3, .inr (.inr (.inr (.inr (fun _ => none)))))), (n4_5, .inl (κ 0, 6, .inl (fun _ => 0))), (n5_6, .inl (κ 4, 6, .inr (.inr (.inr (.inr (fun _ => none)))))), (q_9, .inr (8, [.ref t1_10, .int 0])), (t1_10, .inl (κ 0, 800, .inl (fun _ => 0))), (q_12, .inr (2, [.int 0, .int (-1), .int (-1), .int (-1), .int (-1), .int 0])), (q_14, .inr (4, [.ref q_9, .ref n1_2, .ref q_12, .ref b0_15, .int 0, .int (-1), .ref r1_17, .int 0, .ref r2_18, .ref r3_19, .int 0, .null, .ref r4_20, .int 0])), (b0_15, .inr (0, [.ref b1_16, .int 0, .long 0])), (b1_16, .inl (κ 1, 0, .inl (fun _ => 0))), (r1_17, .inl (κ 1, 20, .inl (fun _ => 0))), (r2_18, .inl (κ 2, 8, .inr (.inr (.inr (.inr (fun _ => none)))))), (r3_19, .inl (κ 0, 8, .inl (fun _ => 0))), (r4_20, .inl (κ 2, 320, .inr (.inr (.inr (.inr (fun _ => none))))))] := hD
  refine W.eq (g2 := F0 m 60 ls [.ref q_14, .ref x0]) rfl ?_
  refine va_putF (D := D) (ci := 11) (v := .ref q_14) (ty := tyX11 3) (C := RX11) (T := TX11) (N := 7) hx hb hts inlX11 tyX11 tyX11_ok nmX11 hown hK hP hD hS 0 rfl rfl 3 (by decide) (hts _ mw_28) (fun _ h9 => h9) rfl hin rfl (tyX11_ok 3 (by decide)) rfl rfl (Nat.le_of_ble_eq_true rfl) dX11_init_60 (fun H locs hP hD hS => ?_)
  have hP : va_P D vwCl [(x0, .inr (11, [.ref q_1, .ref q_9, .ref q_12, .ref q_14, .null, .null, .int 0])), (q_1, .inr (6, [.ref n1_2, .ref n2_3, .ref n3_4, .ref n4_5, .ref n5_6, .int 0])), (n1_2, .inl (κ 0, 6, .inl dial0)), (n2_3, .inl (κ 4, 3, .inr (.inr (.inr (.inr (fun _ => none)))))), (n3_4, .inl (κ 5, 3, .inr (.inr (.inr (.inr (fun _ => none)))))), (n4_5, .inl (κ 0, 6, .inl (fun _ => 0))), (n5_6, .inl (κ 4, 6, .inr (.inr (.inr (.inr (fun _ => none)))))), (q_9, .inr (8, [.ref t1_10, .int 0])), (t1_10, .inl (κ 0, 800, .inl (fun _ => 0))), (q_12, .inr (2, [.int 0, .int (-1), .int (-1), .int (-1), .int (-1), .int 0])), (q_14, .inr (4, [.ref q_9, .ref n1_2, .ref q_12, .ref b0_15, .int 0, .int (-1), .ref r1_17, .int 0, .ref r2_18, .ref r3_19, .int 0, .null, .ref r4_20, .int 0])), (b0_15, .inr (0, [.ref b1_16, .int 0, .long 0])), (b1_16, .inl (κ 1, 0, .inl (fun _ => 0))), (r1_17, .inl (κ 1, 20, .inl (fun _ => 0))), (r2_18, .inl (κ 2, 8, .inr (.inr (.inr (.inr (fun _ => none)))))), (r3_19, .inl (κ 0, 8, .inl (fun _ => 0))), (r4_20, .inl (κ 2, 320, .inr (.inr (.inr (.inr (fun _ => none))))))] H := hP
  have hD : va_D A [(x0, .inr (11, [.ref q_1, .ref q_9, .ref q_12, .ref q_14, .null, .null, .int 0])), (q_1, .inr (6, [.ref n1_2, .ref n2_3, .ref n3_4, .ref n4_5, .ref n5_6, .int 0])), (n1_2, .inl (κ 0, 6, .inl dial0)), (n2_3, .inl (κ 4, 3, .inr (.inr (.inr (.inr (fun _ => none)))))), (n3_4, .inl (κ 5, 3, .inr (.inr (.inr (.inr (fun _ => none)))))), (n4_5, .inl (κ 0, 6, .inl (fun _ => 0))), (n5_6, .inl (κ 4, 6, .inr (.inr (.inr (.inr (fun _ => none)))))), (q_9, .inr (8, [.ref t1_10, .int 0])), (t1_10, .inl (κ 0, 800, .inl (fun _ => 0))), (q_12, .inr (2, [.int 0, .int (-1), .int (-1), .int (-1), .int (-1), .int 0])), (q_14, .inr (4, [.ref q_9, .ref n1_2, .ref q_12, .ref b0_15, .int 0, .int (-1), .ref r1_17, .int 0, .ref r2_18, .ref r3_19, .int 0, .null, .ref r4_20, .int 0])), (b0_15, .inr (0, [.ref b1_16, .int 0, .long 0])), (b1_16, .inl (κ 1, 0, .inl (fun _ => 0))), (r1_17, .inl (κ 1, 20, .inl (fun _ => 0))), (r2_18, .inl (κ 2, 8, .inr (.inr (.inr (.inr (fun _ => none)))))), (r3_19, .inl (κ 0, 8, .inl (fun _ => 0))), (r4_20, .inl (κ 2, 320, .inr (.inr (.inr (.inr (fun _ => none))))))] := hD
  refine lv_aload_n hx hb dX11_init_63 rfl (lv_at hl 0 rfl) ?_
  refine va_new (ci := 10) (fs := [.null, .null, .int 0]) (C := RX10) (T := TX10) (N := 3) hx hb hts inlX10 tyX10 tyX10_ok hown (hts _ mw_29) (hts _ mw_30) (hts _ mw_31) hK hP hD hS hA rfl (fun j hj => by rcases (show j = 0 ∨ j = 1 ∨ j = 2 by omega) with rfl | rfl | rfl <;> rfl) (Nat.le_of_ble_eq_true rfl) (Nat.le_of_ble_eq_true rfl) dX11_init_64 (fun q_23 H hP hD hS => ?_)
  have hP : va_P D vwCl [(x0, .inr (11, [.ref q_1, .ref q_9, .ref q_12, .ref q_14, .null, .null, .int 0])), (q_1, .inr (6, [.ref n1_2, .ref n2_3, .ref n3_4, .ref n4_5, .ref n5_6, .int 0])), (n1_2, .inl (κ 0, 6, .inl dial0)), (n2_3, .inl (κ 4, 3, .inr (.inr (.inr (.inr (fun _ => none)))))), (n3_4, .inl (κ 5, 3, .inr (.inr (.inr (.inr (fun _ => none)))))), (n4_5, .inl (κ 0, 6, .inl (fun _ => 0))), (n5_6, .inl (κ 4, 6, .inr (.inr (.inr (.inr (fun _ => none)))))), (q_9, .inr (8, [.ref t1_10, .int 0])), (t1_10, .inl (κ 0, 800, .inl (fun _ => 0))), (q_12, .inr (2, [.int 0, .int (-1), .int (-1), .int (-1), .int (-1), .int 0])), (q_14, .inr (4, [.ref q_9, .ref n1_2, .ref q_12, .ref b0_15, .int 0, .int (-1), .ref r1_17, .int 0, .ref r2_18, .ref r3_19, .int 0, .null, .ref r4_20, .int 0])), (b0_15, .inr (0, [.ref b1_16, .int 0, .long 0])), (b1_16, .inl (κ 1, 0, .inl (fun _ => 0))), (r1_17, .inl (κ 1, 20, .inl (fun _ => 0))), (r2_18, .inl (κ 2, 8, .inr (.inr (.inr (.inr (fun _ => none)))))), (r3_19, .inl (κ 0, 8, .inl (fun _ => 0))), (r4_20, .inl (κ 2, 320, .inr (.inr (.inr (.inr (fun _ => none)))))), (q_23, .inr (10, [.null, .null, .int 0]))] H := hP
  have hD : va_D A [(x0, .inr (11, [.ref q_1, .ref q_9, .ref q_12, .ref q_14, .null, .null, .int 0])), (q_1, .inr (6, [.ref n1_2, .ref n2_3, .ref n3_4, .ref n4_5, .ref n5_6, .int 0])), (n1_2, .inl (κ 0, 6, .inl dial0)), (n2_3, .inl (κ 4, 3, .inr (.inr (.inr (.inr (fun _ => none)))))), (n3_4, .inl (κ 5, 3, .inr (.inr (.inr (.inr (fun _ => none)))))), (n4_5, .inl (κ 0, 6, .inl (fun _ => 0))), (n5_6, .inl (κ 4, 6, .inr (.inr (.inr (.inr (fun _ => none)))))), (q_9, .inr (8, [.ref t1_10, .int 0])), (t1_10, .inl (κ 0, 800, .inl (fun _ => 0))), (q_12, .inr (2, [.int 0, .int (-1), .int (-1), .int (-1), .int (-1), .int 0])), (q_14, .inr (4, [.ref q_9, .ref n1_2, .ref q_12, .ref b0_15, .int 0, .int (-1), .ref r1_17, .int 0, .ref r2_18, .ref r3_19, .int 0, .null, .ref r4_20, .int 0])), (b0_15, .inr (0, [.ref b1_16, .int 0, .long 0])), (b1_16, .inl (κ 1, 0, .inl (fun _ => 0))), (r1_17, .inl (κ 1, 20, .inl (fun _ => 0))), (r2_18, .inl (κ 2, 8, .inr (.inr (.inr (.inr (fun _ => none)))))), (r3_19, .inl (κ 0, 8, .inl (fun _ => 0))), (r4_20, .inl (κ 2, 320, .inr (.inr (.inr (.inr (fun _ => none)))))), (q_23, .inr (10, [.null, .null, .int 0]))] := hD
  refine lv_dup hx hb dX11_init_67 rfl ?_
  refine lv_aload_n hx hb dX11_init_68 rfl (lv_at hl 0 rfl) ?_
  refine va_get (D := D) (ci := 11) (v := .ref q_1) (C := RX11) (T := TX11) (N := 7) hx hb hts inlX11 hown hK hP 0 rfl rfl 0 (by decide) (hts _ mw_15) (fun _ h9 => h9) rfl dX11_init_69 ?_
  refine va_get (D := D) (ci := 6) (v := .ref n1_2) (C := RX6) (T := TX6) (N := 6) hx hb hts inlX6 hown hK hP 1 rfl rfl 0 (by decide) (hts _ mw_27) (fun _ h9 => h9) rfl dX11_init_72 ?_
  refine ct_I (wr := [(x0, .inr (11, [.ref q_1, .ref q_9, .ref q_12, .ref q_14, .null, .null, .int 0])), (q_1, .inr (6, [.ref n1_2, .ref n2_3, .ref n3_4, .ref n4_5, .ref n5_6, .int 0])), (n1_2, .inl (κ 0, 6, .inl dial0)), (n2_3, .inl (κ 4, 3, .inr (.inr (.inr (.inr (fun _ => none)))))), (n3_4, .inl (κ 5, 3, .inr (.inr (.inr (.inr (fun _ => none)))))), (n4_5, .inl (κ 0, 6, .inl (fun _ => 0))), (n5_6, .inl (κ 4, 6, .inr (.inr (.inr (.inr (fun _ => none)))))), (q_9, .inr (8, [.ref t1_10, .int 0])), (t1_10, .inl (κ 0, 800, .inl (fun _ => 0))), (q_12, .inr (2, [.int 0, .int (-1), .int (-1), .int (-1), .int (-1), .int 0])), (q_14, .inr (4, [.ref q_9, .ref n1_2, .ref q_12, .ref b0_15, .int 0, .int (-1), .ref r1_17, .int 0, .ref r2_18, .ref r3_19, .int 0, .null, .ref r4_20, .int 0])), (b0_15, .inr (0, [.ref b1_16, .int 0, .long 0])), (b1_16, .inl (κ 1, 0, .inl (fun _ => 0))), (r1_17, .inl (κ 1, 20, .inl (fun _ => 0))), (r2_18, .inl (κ 2, 8, .inr (.inr (.inr (.inr (fun _ => none)))))), (r3_19, .inl (κ 0, 8, .inl (fun _ => 0))), (r4_20, .inl (κ 2, 320, .inr (.inr (.inr (.inr (fun _ => none))))))]) (As := [.ref n1_2]) (rest := [.ref q_23, .ref x0]) hFX hKK hP hD hS hA (c_X10_init l D κ q_23 n1_2) 1 mw_176 mw_177 mw_31 mw_178 hdI_X10_init ⟨Nat.le_of_ble_eq_true rfl, Nat.le_of_ble_eq_true rfl⟩ rfl rfl (Nat.le_of_ble_eq_true rfl) dX11_init_75 ⟨Nat.le_of_ble_eq_true rfl, Nat.le_of_ble_eq_true rfl⟩ hl.1 [17] [0, 1, 2, 3, 4, 5, 6, 7, 8, 9, 10, 11, 12, 13, 14, 15, 16] rfl rfl (by decide) (by decide) (by decide) trivial (fun w1_24 H locs hp_25 _ hP hD hS hz_ hk_ => ?_)
  have hP : va_P D vwCl [(x0, .inr (11, [.ref q_1, .ref q_9, .ref q_12, .ref q_14, .null, .null, .int 0])), (q_1, .inr (6, [.ref n1_2, .ref n2_3, .ref n3_4, .ref n4_5, .ref n5_6, .int 0])), (n1_2, .inl (κ 0, 6, .inl dial0)), (n2_3, .inl (κ 4, 3, .inr (.inr (.inr (.inr (fun _ => none)))))), (n3_4, .inl (κ 5, 3, .inr (.inr (.inr (.inr (fun _ => none)))))), (n4_5, .inl (κ 0, 6, .inl (fun _ => 0))), (n5_6, .inl (κ 4, 6, .inr (.inr (.inr (.inr (fun _ => none)))))), (q_9, .inr (8, [.ref t1_10, .int 0])), (t1_10, .inl (κ 0, 800, .inl (fun _ => 0))), (q_12, .inr (2, [.int 0, .int (-1), .int (-1), .int (-1), .int (-1), .int 0])), (q_14, .inr (4, [.ref q_9, .ref n1_2, .ref q_12, .ref b0_15, .int 0, .int (-1), .ref r1_17, .int 0, .ref r2_18, .ref r3_19, .int 0, .null, .ref r4_20, .int 0])), (b0_15, .inr (0, [.ref b1_16, .int 0, .long 0])), (b1_16, .inl (κ 1, 0, .inl (fun _ => 0))), (r1_17, .inl (κ 1, 20, .inl (fun _ => 0))), (r2_18, .inl (κ 2, 8, .inr (.inr (.inr (.inr (fun _ => none)))))), (r3_19, .inl (κ 0, 8, .inl (fun _ => 0))), (r4_20, .inl (κ 2, 320, .inr (.inr (.inr (.inr (fun _ => none)))))), (q_23, .inr (10, [.ref n1_2, .ref w1_24, .int 0])), (w1_24, .inl (κ 1, 6000, .inl (fun _ => 0)))] H := hP
  have hD : va_D A [(x0, .inr (11, [.ref q_1, .ref q_9, .ref q_12, .ref q_14, .null, .null, .int 0])), (q_1, .inr (6, [.ref n1_2, .ref n2_3, .ref n3_4, .ref n4_5, .ref n5_6, .int 0])), (n1_2, .inl (κ 0, 6, .inl dial0)), (n2_3, .inl (κ 4, 3, .inr (.inr (.inr (.inr (fun _ => none)))))), (n3_4, .inl (κ 5, 3, .inr (.inr (.inr (.inr (fun _ => none)))))), (n4_5, .inl (κ 0, 6, .inl (fun _ => 0))), (n5_6, .inl (κ 4, 6, .inr (.inr (.inr (.inr (fun _ => none)))))), (q_9, .inr (8, [.ref t1_10, .int 0])), (t1_10, .inl (κ 0, 800, .inl (fun _ => 0))), (q_12, .inr (2, [.int 0, .int (-1), .int (-1), .int (-1), .int (-1), .int 0])), (q_14, .inr (4, [.ref q_9, .ref n1_2, .ref q_12, .ref b0_15, .int 0, .int (-1), .ref r1_17, .int 0, .ref r2_18, .ref r3_19, .int 0, .null, .ref r4_20, .int 0])), (b0_15, .inr (0, [.ref b1_16, .int 0, .long 0])), (b1_16, .inl (κ 1, 0, .inl (fun _ => 0))), (r1_17, .inl (κ 1, 20, .inl (fun _ => 0))), (r2_18, .inl (κ 2, 8, .inr (.inr (.inr (.inr (fun _ => none)))))), (r3_19, .inl (κ 0, 8, .inl (fun _ => 0))), (r4_20, .inl (κ 2, 320, .inr (.inr (.inr (.inr (fun _ => none)))))), (q_23, .inr (10, [.ref n1_2, .ref w1_24, .int 0])), (w1_24, .inl (κ 1, 6000, .inl (fun _ => 0)))] := hD
  refine W.eq (g2 := F0 m 78 ls [.ref q_23, .ref x0]) rfl ?_
  refine va_putF (D := D) (ci := 11) (v := .ref q_23) (ty := tyX11 4) (C := RX11) (T := TX11) (N := 7) hx hb hts inlX11 tyX11 tyX11_ok nmX11 hown hK hP hD hS 0 rfl rfl 4 (by decide) (hts _ mw_32) (fun _ h9 => h9) rfl hin rfl (tyX11_ok 4 (by decide)) rfl rfl (Nat.le_of_ble_eq_true rfl) dX11_init_78 (fun H locs hP hD hS => ?_)
  have hP : va_P D vwCl [(x0, .inr (11, [.ref q_1, .ref q_9, .ref q_12, .ref q_14, .ref q_23, .null, .int 0])), (q_1, .inr (6, [.ref n1_2, .ref n2_3, .ref n3_4, .ref n4_5, .ref n5_6, .int 0])), (n1_2, .inl (κ 0, 6, .inl dial0)), (n2_3, .inl (κ 4, 3, .inr (.inr (.inr (.inr (fun _ => none)))))), (n3_4, .inl (κ 5, 3, .inr (.inr (.inr (.inr (fun _ => none)))))), (n4_5, .inl (κ 0, 6, .inl (fun _ => 0))), (n5_6, .inl (κ 4, 6, .inr (.inr (.inr (.inr (fun _ => none)))))), (q_9, .inr (8, [.ref t1_10, .int 0])), (t1_10, .inl (κ 0, 800, .inl (fun _ => 0))), (q_12, .inr (2, [.int 0, .int (-1), .int (-1), .int (-1), .int (-1), .int 0])), (q_14, .inr (4, [.ref q_9, .ref n1_2, .ref q_12, .ref b0_15, .int 0, .int (-1), .ref r1_17, .int 0, .ref r2_18, .ref r3_19, .int 0, .null, .ref r4_20, .int 0])), (b0_15, .inr (0, [.ref b1_16, .int 0, .long 0])), (b1_16, .inl (κ 1, 0, .inl (fun _ => 0))), (r1_17, .inl (κ 1, 20, .inl (fun _ => 0))), (r2_18, .inl (κ 2, 8, .inr (.inr (.inr (.inr (fun _ => none)))))), (r3_19, .inl (κ 0, 8, .inl (fun _ => 0))), (r4_20, .inl (κ 2, 320, .inr (.inr (.inr (.inr (fun _ => none)))))), (q_23, .inr (10, [.ref n1_2, .ref w1_24, .int 0])), (w1_24, .inl (κ 1, 6000, .inl (fun _ => 0)))] H := hP
  have hD : va_D A [(x0, .inr (11, [.ref q_1, .ref q_9, .ref q_12, .ref q_14, .ref q_23, .null, .int 0])), (q_1, .inr (6, [.ref n1_2, .ref n2_3, .ref n3_4, .ref n4_5, .ref n5_6, .int 0])), (n1_2, .inl (κ 0, 6, .inl dial0)), (n2_3, .inl (κ 4, 3, .inr (.inr (.inr (.inr (fun _ => none)))))), (n3_4, .inl (κ 5, 3, .inr (.inr (.inr (.inr (fun _ => none)))))), (n4_5, .inl (κ 0, 6, .inl (fun _ => 0))), (n5_6, .inl (κ 4, 6, .inr (.inr (.inr (.inr (fun _ => none)))))), (q_9, .inr (8, [.ref t1_10, .int 0])), (t1_10, .inl (κ 0, 800, .inl (fun _ => 0))), (q_12, .inr (2, [.int 0, .int (-1), .int (-1), .int (-1), .int (-1), .int 0])), (q_14, .inr (4, [.ref q_9, .ref n1_2, .ref q_12, .ref b0_15, .int 0, .int (-1), .ref r1_17, .int 0, .ref r2_18, .ref r3_19, .int 0, .null, .ref r4_20, .int 0])), (b0_15, .inr (0, [.ref b1_16, .int 0, .long 0])), (b1_16, .inl (κ 1, 0, .inl (fun _ => 0))), (r1_17, .inl (κ 1, 20, .inl (fun _ => 0))), (r2_18, .inl (κ 2, 8, .inr (.inr (.inr (.inr (fun _ => none)))))), (r3_19, .inl (κ 0, 8, .inl (fun _ => 0))), (r4_20, .inl (κ 2, 320, .inr (.inr (.inr (.inr (fun _ => none)))))), (q_23, .inr (10, [.ref n1_2, .ref w1_24, .int 0])), (w1_24, .inl (κ 1, 6000, .inl (fun _ => 0)))] := hD
  refine lv_aload_n hx hb dX11_init_81 rfl (lv_at hl 0 rfl) ?_
  refine va_new (ci := 6) (fs := [.null, .null, .null, .null, .null, .int 0]) (C := RX6) (T := TX6) (N := 6) hx hb hts inlX6 tyX6 tyX6_ok hown (hts _ mw_12) (hts _ mw_13) (hts _ mw_14) hK hP hD hS hA rfl (fun j hj => by rcases (show j = 0 ∨ j = 1 ∨ j = 2 ∨ j = 3 ∨ j = 4 ∨ j = 5 by omega) with rfl | rfl | rfl | rfl | rfl | rfl <;> rfl) (Nat.le_of_ble_eq_true rfl) (Nat.le_of_ble_eq_true rfl) dX11_init_82 (fun q_26 H hP hD hS => ?_)
  have hP : va_P D vwCl [(x0, .inr (11, [.ref q_1, .ref q_9, .ref q_12, .ref q_14, .ref q_23, .null, .int 0])), (q_1, .inr (6, [.ref n1_2, .ref n2_3, .ref n3_4, .ref n4_5, .ref n5_6, .int 0])), (n1_2, .inl (κ 0, 6, .inl dial0)), (n2_3, .inl (κ 4, 3, .inr (.inr (.inr (.inr (fun _ => none)))))), (n3_4, .inl (κ 5, 3, .inr (.inr (.inr (.inr (fun _ => none)))))), (n4_5, .inl (κ 0, 6, .inl (fun _ => 0))), (n5_6, .inl (κ 4, 6, .inr (.inr (.inr (.inr (fun _ => none)))))), (q_9, .inr (8, [.ref t1_10, .int 0])), (t1_10, .inl (κ 0, 800, .inl (fun _ => 0))), (q_12, .inr (2, [.int 0, .int (-1), .int (-1), .int (-1), .int (-1), .int 0])), (q_14, .inr (4, [.ref q_9, .ref n1_2, .ref q_12, .ref b0_15, .int 0, .int (-1), .ref r1_17, .int 0, .ref r2_18, .ref r3_19, .int 0, .null, .ref r4_20, .int 0])), (b0_15, .inr (0, [.ref b1_16, .int 0, .long 0])), (b1_16, .inl (κ 1, 0, .inl (fun _ => 0))), (r1_17, .inl (κ 1, 20, .inl (fun _ => 0))), (r2_18, .inl (κ 2, 8, .inr (.inr (.inr (.inr (fun _ => none)))))), (r3_19, .inl (κ 0, 8, .inl (fun _ => 0))), (r4_20, .inl (κ 2, 320, .inr (.inr (.inr (.inr (fun _ => none)))))), (q_23, .inr (10, [.ref n1_2, .ref w1_24, .int 0])), (w1_24, .inl (κ 1, 6000, .inl (fun _ => 0))), (q_26, .inr (6, [.null, .null, .null, .null, .null, .int 0]))] H := hP
  have hD : va_D A [(x0, .inr (11, [.ref q_1, .ref q_9, .ref q_12, .ref q_14, .ref q_23, .null, .int 0])), (q_1, .inr (6, [.ref n1_2, .ref n2_3, .ref n3_4, .ref n4_5, .ref n5_6, .int 0])), (n1_2, .inl (κ 0, 6, .inl dial0)), (n2_3, .inl (κ 4, 3, .inr (.inr (.inr (.inr (fun _ => none)))))), (n3_4, .inl (κ 5, 3, .inr (.inr (.inr (.inr (fun _ => none)))))), (n4_5, .inl (κ 0, 6, .inl (fun _ => 0))), (n5_6, .inl (κ 4, 6, .inr (.inr (.inr (.inr (fun _ => none)))))), (q_9, .inr (8, [.ref t1_10, .int 0])), (t1_10, .inl (κ 0, 800, .inl (fun _ => 0))), (q_12, .inr (2, [.int 0, .int (-1), .int (-1), .int (-1), .int (-1), .int 0])), (q_14, .inr (4, [.ref q_9, .ref n1_2, .ref q_12, .ref b0_15, .int 0, .int (-1), .ref r1_17, .int 0, .ref r2_18, .ref r3_19, .int 0, .null, .ref r4_20, .int 0])), (b0_15, .inr (0, [.ref b1_16, .int 0, .long 0])), (b1_16, .inl (κ 1, 0, .inl (fun _ => 0))), (r1_17, .inl (κ 1, 20, .inl (fun _ => 0))), (r2_18, .inl (κ 2, 8, .inr (.inr (.inr (.inr (fun _ => none)))))), (r3_19, .inl (κ 0, 8, .inl (fun _ => 0))), (r4_20, .inl (κ 2, 320, .inr (.inr (.inr (.inr (fun _ => none)))))), (q_23, .inr (10, [.ref n1_2, .ref w1_24, .int 0])), (w1_24, .inl (κ 1, 6000, .inl (fun _ => 0))), (q_26, .inr (6, [.null, .null, .null, .null, .null, .int 0]))] := hD
  refine lv_dup hx hb dX11_init_85 rfl ?_
  refine ct_I (wr := [(x0, .inr (11, [.ref q_1, .ref q_9, .ref q_12, .ref q_14, .ref q_23, .null, .int 0])), (q_1, .inr (6, [.ref n1_2, .ref n2_3, .ref n3_4, .ref n4_5, .ref n5_6, .int 0])), (n1_2, .inl (κ 0, 6, .inl dial0)), (n2_3, .inl (κ 4, 3, .inr (.inr (.inr (.inr (fun _ => none)))))), (n3_4, .inl (κ 5, 3, .inr (.inr (.inr (.inr (fun _ => none)))))), (n4_5, .inl (κ 0, 6, .inl (fun _ => 0))), (n5_6, .inl (κ 4, 6, .inr (.inr (.inr (.inr (fun _ => none)))))), (q_9, .inr (8, [.ref t1_10, .int 0])), (t1_10, .inl (κ 0, 800, .inl (fun _ => 0))), (q_12, .inr (2, [.int 0, .int (-1), .int (-1), .int (-1), .int (-1), .int 0])), (q_14, .inr (4, [.ref q_9, .ref n1_2, .ref q_12, .ref b0_15, .int 0, .int (-1), .ref r1_17, .int 0, .ref r2_18, .ref r3_19, .int 0, .null, .ref r4_20, .int 0])), (b0_15, .inr (0, [.ref b1_16, .int 0, .long 0])), (b1_16, .inl (κ 1, 0, .inl (fun _ => 0))), (r1_17, .inl (κ 1, 20, .inl (fun _ => 0))), (r2_18, .inl (κ 2, 8, .inr (.inr (.inr (.inr (fun _ => none)))))), (r3_19, .inl (κ 0, 8, .inl (fun _ => 0))), (r4_20, .inl (κ 2, 320, .inr (.inr (.inr (.inr (fun _ => none)))))), (q_23, .inr (10, [.ref n1_2, .ref w1_24, .int 0])), (w1_24, .inl (κ 1, 6000, .inl (fun _ => 0)))]) (As := []) (rest := [.ref q_26, .ref x0]) hFX hKK hP hD hS hA (c_X6_init l D κ q_26) 0 mw_35 mw_36 mw_14 mw_37 hdI_X6_init ⟨Nat.le_of_ble_eq_true rfl, Nat.le_of_ble_eq_true rfl⟩ rfl rfl (Nat.le_of_ble_eq_true rfl) dX11_init_86 ⟨Nat.le_of_ble_eq_true rfl, Nat.le_of_ble_eq_true rfl⟩ hl.1 [19] [0, 1, 2, 3, 4, 5, 6, 7, 8, 9, 10, 11, 12, 13, 14, 15, 16, 17, 18] rfl rfl (by decide) (by decide) (by decide) trivial (fun u_32 H locs hp_33 _ hP hD hS hz_ hk_ => ?_)
  obtain ⟨n1_27, n2_28, n3_29, n4_30, n5_31⟩ := u_32
  have hP : va_P D vwCl [(x0, .inr (11, [.ref q_1, .ref q_9, .ref q_12, .ref q_14, .ref q_23, .null, .int 0])), (q_1, .inr (6, [.ref n1_2, .ref n2_3, .ref n3_4, .ref n4_5, .ref n5_6, .int 0])), (n1_2, .inl (κ 0, 6, .inl dial0)), (n2_3, .inl (κ 4, 3, .inr (.inr (.inr (.inr (fun _ => none)))))), (n3_4, .inl (κ 5, 3, .inr (.inr (.inr (.inr (fun _ => none)))))), (n4_5, .inl (κ 0, 6, .inl (fun _ => 0))), (n5_6, .inl (κ 4, 6, .inr (.inr (.inr (.inr (fun _ => none)))))), (q_9, .inr (8, [.ref t1_10, .int 0])), (t1_10, .inl (κ 0, 800, .inl (fun _ => 0))), (q_12, .inr (2, [.int 0, .int (-1), .int (-1), .int (-1), .int (-1), .int 0])), (q_14, .inr (4, [.ref q_9, .ref n1_2, .ref q_12, .ref b0_15, .int 0, .int (-1), .ref r1_17, .int 0, .ref r2_18, .ref r3_19, .int 0, .null, .ref r4_20, .int 0])), (b0_15, .inr (0, [.ref b1_16, .int 0, .long 0])), (b1_16, .inl (κ 1, 0, .inl (fun _ => 0))), (r1_17, .inl (κ 1, 20, .inl (fun _ => 0))), (r2_18, .inl (κ 2, 8, .inr (.inr (.inr (.inr (fun _ => none)))))), (r3_19, .inl (κ 0, 8, .inl (fun _ => 0))), (r4_20, .inl (κ 2, 320, .inr (.inr (.inr (.inr (fun _ => none)))))), (q_23, .inr (10, [.ref n1_2, .ref w1_24, .int 0])), (w1_24, .inl (κ 1, 6000, .inl (fun _ => 0))), (q_26, .inr (6, [.ref n1_27, .ref n2_28, .ref n3_29, .ref n4_30, .ref n5_31, .int 0])), (n1_27, .inl (κ 0, 6, .inl dial0)), (n2_28, .inl (κ 4, 3, .inr (.inr (.inr (.inr (fun _ => none)))))), (n3_29, .inl (κ 5, 3, .inr (.inr (.inr (.inr (fun _ => none)))))), (n4_30, .inl (κ 0, 6, .inl (fun _ => 0))), (n5_31, .inl (κ 4, 6, .inr (.inr (.inr (.inr (fun _ => none))))))] H := hP
  have hD : va_D A [(x0, .inr (11, [.ref q_1, .ref q_9, .ref q_12, .ref q_14, .ref q_23, .null, .int 0])), (q_1, .inr (6, [.ref n1_2, .ref n2_3, .ref n3_4, .ref n4_5, .ref n5_6, .int 0])), (n1_2, .inl (κ 0, 6, .inl dial0)), (n2_3, .inl (κ 4, 3, .inr (.inr (.inr (.inr (fun _ => none)))))), (n3_4, .inl (κ 5, 3, .inr (.inr (.inr (.inr (fun _ => none)))))), (n4_5, .inl (κ 0, 6, .inl (fun _ => 0))), (n5_6, .inl (κ 4, 6, .inr (.inr (.inr (.inr (fun _ => none)))))), (q_9, .inr (8, [.ref t1_10, .int 0])), (t1_10, .inl (κ 0, 800, .inl (fun _ => 0))), (q_12, .inr (2, [.int 0, .int (-1), .int (-1), .int (-1), .int (-1), .int 0])), (q_14, .inr (4, [.ref q_9, .ref n1_2, .ref q_12, .ref b0_15, .int 0, .int (-1), .ref r1_17, .int 0, .ref r2_18, .ref r3_19, .int 0, .null, .ref r4_20, .int 0])), (b0_15, .inr (0, [.ref b1_16, .int 0, .long 0])), (b1_16, .inl (κ 1, 0, .inl (fun _ => 0))), (r1_17, .inl (κ 1, 20, .inl (fun _ => 0))), (r2_18, .inl (κ 2, 8, .inr (.inr (.inr (.inr (fun _ => none)))))), (r3_19, .inl (κ 0, 8, .inl (fun _ => 0))), (r4_20, .inl (κ 2, 320, .inr (.inr (.inr (.inr (fun _ => none)))))), (q_23, .inr (10, [.ref n1_2, .ref w1_24, .int 0])), (w1_24, .inl (κ 1, 6000, .inl (fun _ => 0))), (q_26, .inr (6, [.ref n1_27, .ref n2_28, .ref n3_29, .ref n4_30, .ref n5_31, .int 0])), (n1_27, .inl (κ 0, 6, .inl dial0)), (n2_28, .inl (κ 4, 3, .inr (.inr (.inr (.inr (fun _ => none)))))), (n3_29, .inl (κ 5, 3, .inr (.inr (.inr (.inr (fun _ => none)))))), (n4_30, .inl (κ 0, 6, .inl (fun _ => 0))), (n5_31, .inl (κ 4, 6, .inr (.inr (.inr (.inr (fun _ => none))))))] := hD
  refine W.eq (g2 := F0 m 89 ls [.ref q_26, .ref x0]) rfl ?_
  refine va_putF (D := D) (ci := 11) (v := .ref q_26) (ty := tyX11 5) (C := RX11) (T := TX11) (N := 7) hx hb hts inlX11 tyX11 tyX11_ok nmX11 hown hK hP hD hS 0 rfl rfl 5 (by decide) (hts _ mw_33) (fun _ h9 => h9) rfl hin rfl (tyX11_ok 5 (by decide)) rfl rfl (Nat.le_of_ble_eq_true rfl) dX11_init_89 (fun H locs hP hD hS => ?_)
  have hP : va_P D vwCl [(x0, .inr (11, [.ref q_1, .ref q_9, .ref q_12, .ref q_14, .ref q_23, .ref q_26, .int 0])), (q_1, .inr (6, [.ref n1_2, .ref n2_3, .ref n3_4, .ref n4_5, .ref n5_6, .int 0])), (n1_2, .inl (κ 0, 6, .inl dial0)), (n2_3, .inl (κ 4, 3, .inr (.inr (.inr (.inr (fun _ => none)))))), (n3_4, .inl (κ 5, 3, .inr (.inr (.inr (.inr (fun _ => none)))))), (n4_5, .inl (κ 0, 6, .inl (fun _ => 0))), (n5_6, .inl (κ 4, 6, .inr (.inr (.inr (.inr (fun _ => none)))))), (q_9, .inr (8, [.ref t1_10, .int 0])), (t1_10, .inl (κ 0, 800, .inl (fun _ => 0))), (q_12, .inr (2, [.int 0, .int (-1), .int (-1), .int (-1), .int (-1), .int 0])), (q_14, .inr (4, [.ref q_9, .ref n1_2, .ref q_12, .ref b0_15, .int 0, .int (-1), .ref r1_17, .int 0, .ref r2_18, .ref r3_19, .int 0, .null, .ref r4_20, .int 0])), (b0_15, .inr (0, [.ref b1_16, .int 0, .long 0])), (b1_16, .inl (κ 1, 0, .inl (fun _ => 0))), (r1_17, .inl (κ 1, 20, .inl (fun _ => 0))), (r2_18, .inl (κ 2, 8, .inr (.inr (.inr (.inr (fun _ => none)))))), (r3_19, .inl (κ 0, 8, .inl (fun _ => 0))), (r4_20, .inl (κ 2, 320, .inr (.inr (.inr (.inr (fun _ => none)))))), (q_23, .inr (10, [.ref n1_2, .ref w1_24, .int 0])), (w1_24, .inl (κ 1, 6000, .inl (fun _ => 0))), (q_26, .inr (6, [.ref n1_27, .ref n2_28, .ref n3_29, .ref n4_30, .ref n5_31, .int 0])), (n1_27, .inl (κ 0, 6, .inl dial0)), (n2_28, .inl (κ 4, 3, .inr (.inr (.inr (.inr (fun _ => none)))))), (n3_29, .inl (κ 5, 3, .inr (.inr (.inr (.inr (fun _ => none)))))), (n4_30, .inl (κ 0, 6, .inl (fun _ => 0))), (n5_31, .inl (κ 4, 6, .inr (.inr (.inr (.inr (fun _ => none))))))] H := hP
  have hD : va_D A [(x0, .inr (11, [.ref q_1, .ref q_9, .ref q_12, .ref q_14, .ref q_23, .ref q_26, .int 0])), (q_1, .inr (6, [.ref n1_2, .ref n2_3, .ref n3_4, .ref n4_5, .ref n5_6, .int 0])), (n1_2, .inl (κ 0, 6, .inl dial0)), (n2_3, .inl (κ 4, 3, .inr (.inr (.inr (.inr (fun _ => none)))))), (n3_4, .inl (κ 5, 3, .inr (.inr (.inr (.inr (fun _ => none)))))), (n4_5, .inl (κ 0, 6, .inl (fun _ => 0))), (n5_6, .inl (κ 4, 6, .inr (.inr (.inr (.inr (fun _ => none)))))), (q_9, .inr (8, [.ref t1_10, .int 0])), (t1_10, .inl (κ 0, 800, .inl (fun _ => 0))), (q_12, .inr (2, [.int 0, .int (-1), .int (-1), .int (-1), .int (-1), .int 0])), (q_14, .inr (4, [.ref q_9, .ref n1_2, .ref q_12, .ref b0_15, .int 0, .int (-1), .ref r1_17, .int 0, .ref r2_18, .ref r3_19, .int 0, .null, .ref r4_20, .int 0])), (b0_15, .inr (0, [.ref b1_16, .int 0, .long 0])), (b1_16, .inl (κ 1, 0, .inl (fun _ => 0))), (r1_17, .inl (κ 1, 20, .inl (fun _ => 0))), (r2_18, .inl (κ 2, 8, .inr (.inr (.inr (.inr (fun _ => none)))))), (r3_19, .inl (κ 0, 8, .inl (fun _ => 0))), (r4_20, .inl (κ 2, 320, .inr (.inr (.inr (.inr (fun _ => none)))))), (q_23, .inr (10, [.ref n1_2, .ref w1_24, .int 0])), (w1_24, .inl (κ 1, 6000, .inl (fun _ => 0))), (q_26, .inr (6, [.ref n1_27, .ref n2_28, .ref n3_29, .ref n4_30, .ref n5_31, .int 0])), (n1_27, .inl (κ 0, 6, .inl dial0)), (n2_28, .inl (κ 4, 3, .inr (.inr (.inr (.inr (fun _ => none)))))), (n3_29, .inl (κ 5, 3, .inr (.inr (.inr (.inr (fun _ => none)))))), (n4_30, .inl (κ 0, 6, .inl (fun _ => 0))), (n5_31, .inl (κ 4, 6, .inr (.inr (.inr (.inr (fun _ => none))))))] := hD
  refine lv_aload_n hx hb dX11_init_92 rfl (lv_at hl 0 rfl) ?_
  refine lv_iconst (v := 0) hx hb dX11_init_93 (by decide) ?_
  refine va_put (D := D) (ci := 11) (v := .int 0) (ty := tyX11 6) (C := RX11) (T := TX11) (N := 7) hx hb hts inlX11 tyX11 tyX11_ok nmX11 hown hK hP hD hS 0 rfl rfl 6 (by decide) (hts _ mw_34) (fun _ h9 => h9) rfl (tyX11_ok 6 (by decide)) rfl rfl (Nat.le_of_ble_eq_true rfl) dX11_init_94 (fun H locs hP hD hS => ?_)
  have hP : va_P D vwCl [(x0, .inr (11, [.ref q_1, .ref q_9, .ref q_12, .ref q_14, .ref q_23, .ref q_26, .int 0])), (q_1, .inr (6, [.ref n1_2, .ref n2_3, .ref n3_4, .ref n4_5, .ref n5_6, .int 0])), (n1_2, .inl (κ 0, 6, .inl dial0)), (n2_3, .inl (κ 4, 3, .inr (.inr (.inr (.inr (fun _ => none)))))), (n3_4, .inl (κ 5, 3, .inr (.inr (.inr (.inr (fun _ => none)))))), (n4_5, .inl (κ 0, 6, .inl (fun _ => 0))), (n5_6, .inl (κ 4, 6, .inr (.inr (.inr (.inr (fun _ => none)))))), (q_9, .inr (8, [.ref t1_10, .int 0])), (t1_10, .inl (κ 0, 800, .inl (fun _ => 0))), (q_12, .inr (2, [.int 0, .int (-1), .int (-1), .int (-1), .int (-1), .int 0])), (q_14, .inr (4, [.ref q_9, .ref n1_2, .ref q_12, .ref b0_15, .int 0, .int (-1), .ref r1_17, .int 0, .ref r2_18, .ref r3_19, .int 0, .null, .ref r4_20, .int 0])), (b0_15, .inr (0, [.ref b1_16, .int 0, .long 0])), (b1_16, .inl (κ 1, 0, .inl (fun _ => 0))), (r1_17, .inl (κ 1, 20, .inl (fun _ => 0))), (r2_18, .inl (κ 2, 8, .inr (.inr (.inr (.inr (fun _ => none)))))), (r3_19, .inl (κ 0, 8, .inl (fun _ => 0))), (r4_20, .inl (κ 2, 320, .inr (.inr (.inr (.inr (fun _ => none)))))), (q_23, .inr (10, [.ref n1_2, .ref w1_24, .int 0])), (w1_24, .inl (κ 1, 6000, .inl (fun _ => 0))), (q_26, .inr (6, [.ref n1_27, .ref n2_28, .ref n3_29, .ref n4_30, .ref n5_31, .int 0])), (n1_27, .inl (κ 0, 6, .inl dial0)), (n2_28, .inl (κ 4, 3, .inr (.inr (.inr (.inr (fun _ => none)))))), (n3_29, .inl (κ 5, 3, .inr (.inr (.inr (.inr (fun _ => none)))))), (n4_30, .inl (κ 0, 6, .inl (fun _ => 0))), (n5_31, .inl (κ 4, 6, .inr (.inr (.inr (.inr (fun _ => none))))))] H := hP
  have hD : va_D A [(x0, .inr (11, [.ref q_1, .ref q_9, .ref q_12, .ref q_14, .ref q_23, .ref q_26, .int 0])), (q_1, .inr (6, [.ref n1_2, .ref n2_3, .ref n3_4, .ref n4_5, .ref n5_6, .int 0])), (n1_2, .inl (κ 0, 6, .inl dial0)), (n2_3, .inl (κ 4, 3, .inr (.inr (.inr (.inr (fun _ => none)))))), (n3_4, .inl (κ 5, 3, .inr (.inr (.inr (.inr (fun _ => none)))))), (n4_5, .inl (κ 0, 6, .inl (fun _ => 0))), (n5_6, .inl (κ 4, 6, .inr (.inr (.inr (.inr (fun _ => none)))))), (q_9, .inr (8, [.ref t1_10, .int 0])), (t1_10, .inl (κ 0, 800, .inl (fun _ => 0))), (q_12, .inr (2, [.int 0, .int (-1), .int (-1), .int (-1), .int (-1), .int 0])), (q_14, .inr (4, [.ref q_9, .ref n1_2, .ref q_12, .ref b0_15, .int 0, .int (-1), .ref r1_17, .int 0, .ref r2_18, .ref r3_19, .int 0, .null, .ref r4_20, .int 0])), (b0_15, .inr (0, [.ref b1_16, .int 0, .long 0])), (b1_16, .inl (κ 1, 0, .inl (fun _ => 0))), (r1_17, .inl (κ 1, 20, .inl (fun _ => 0))), (r2_18, .inl (κ 2, 8, .inr (.inr (.inr (.inr (fun _ => none)))))), (r3_19, .inl (κ 0, 8, .inl (fun _ => 0))), (r4_20, .inl (κ 2, 320, .inr (.inr (.inr (.inr (fun _ => none)))))), (q_23, .inr (10, [.ref n1_2, .ref w1_24, .int 0])), (w1_24, .inl (κ 1, 6000, .inl (fun _ => 0))), (q_26, .inr (6, [.ref n1_27, .ref n2_28, .ref n3_29, .ref n4_30, .ref n5_31, .int 0])), (n1_27, .inl (κ 0, 6, .inl dial0)), (n2_28, .inl (κ 4, 3, .inr (.inr (.inr (.inr (fun _ => none)))))), (n3_29, .inl (κ 5, 3, .inr (.inr (.inr (.inr (fun _ => none)))))), (n4_30, .inl (κ 0, 6, .inl (fun _ => 0))), (n5_31, .inl (κ 4, 6, .inr (.inr (.inr (.inr (fun _ => none))))))] := hD
  exact ct_vret hx hb hr hlk hS hP hD (q_1, q_9, q_12, q_14, q_23, q_26, n1_2, n2_3, n3_4, n4_5, n5_6, t1_10, b0_15, r1_17, r2_18, r3_19, r4_20, b1_16, w1_24, n1_27, n2_28, n3_29, n4_30, n5_31) rfl trivial [0, 1, 2, 3, 4, 5, 6, 7, 8, 9, 10, 11, 12, 13, 14, 15, 16, 17, 18, 19, 20, 21, 22, 23, 24] rfl (by decide) trivial (Nat.le_of_ble_eq_true rfl) (Nat.le_of_ble_eq_true rfl) dX11_init_97
