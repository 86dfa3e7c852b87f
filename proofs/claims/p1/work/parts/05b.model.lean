theorem nD0 {a b : Int32} (e : a = 0) (h0 : ¬ b = 44) (h1 : ¬ b = 59) (h2 : ¬ b = 124) (h3 : ¬ b = 9) : ¬ canD a b := by
  subst e
  rintro (⟨h, q⟩ | ⟨h, q⟩ | ⟨h, q⟩ | ⟨h, q⟩ | ⟨h, q, _⟩ | ⟨h, q⟩)
  · rcases q with q | q | q | q
    · exact h0 q
    · exact h1 q
    · exact h2 q
    · exact h3 q
  · exact absurd h (by decide)
  · exact absurd h (by decide)
  · exact absurd h (by decide)
  · exact absurd h (by decide)
  · exact absurd h (by decide)
theorem nD1 {a b : Int32} (e : a = 1) (h0 : ¬ b = 34) (h1 : ¬ b = 39) : ¬ canD a b := by
  subst e
  rintro (⟨h, q⟩ | ⟨h, q⟩ | ⟨h, q⟩ | ⟨h, q⟩ | ⟨h, q, _⟩ | ⟨h, q⟩)
  · exact absurd h (by decide)
  · rcases q with q | q
    · exact h0 q
    · exact h1 q
  · exact absurd h (by decide)
  · exact absurd h (by decide)
  · exact absurd h (by decide)
  · exact absurd h (by decide)
theorem nD2 {a b : Int32} (e : a = 2) (h0 : ¬ b = 0) (h1 : ¬ b = 1) : ¬ canD a b := by
  subst e
  rintro (⟨h, q⟩ | ⟨h, q⟩ | ⟨h, q⟩ | ⟨h, q⟩ | ⟨h, q, _⟩ | ⟨h, q⟩)
  · exact absurd h (by decide)
  · exact absurd h (by decide)
  · rcases q with q | q
    · exact h0 q
    · exact h1 q
  · exact absurd h (by decide)
  · exact absurd h (by decide)
  · exact absurd h (by decide)
theorem nD3 {a b : Int32} (e : a = 3) (h0 : ¬ b = 0) (h1 : ¬ b = 1) : ¬ canD a b := by
  subst e
  rintro (⟨h, q⟩ | ⟨h, q⟩ | ⟨h, q⟩ | ⟨h, q⟩ | ⟨h, q, _⟩ | ⟨h, q⟩)
  · exact absurd h (by decide)
  · exact absurd h (by decide)
  · exact absurd h (by decide)
  · rcases q with q | q
    · exact h0 q
    · exact h1 q
  · exact absurd h (by decide)
  · exact absurd h (by decide)
theorem nD5 {a b : Int32} (e : a = 5) (h0 : ¬ b = 0) (h1 : ¬ b = 35) (h2 : ¬ b = 37) (h3 : ¬ b = 42) : ¬ canD a b := by
  subst e
  rintro (⟨h, q⟩ | ⟨h, q⟩ | ⟨h, q⟩ | ⟨h, q⟩ | ⟨h, q, _⟩ | ⟨h, q⟩)
  · exact absurd h (by decide)
  · exact absurd h (by decide)
  · exact absurd h (by decide)
  · exact absurd h (by decide)
  · exact absurd h (by decide)
  · rcases q with q | q | q | q
    · exact h0 q
    · exact h1 q
    · exact h2 q
    · exact h3 q
theorem mw_1469 : Cond.code yX12_sign cX12_sign 2 (some .int) ∈ wsL_law := List.mem_of_getElem? (i := 1469) (by decide +kernel)
theorem dX12_sign_0 : decode cX12_sign 0 = .ok (.iload_n 1, 1) := by decide +kernel
theorem dX12_sign_1 : decode cX12_sign 1 = .ok (.i2l, 1) := by decide +kernel
theorem dX12_sign_2 : decode cX12_sign 2 = .ok (.lconst 0, 1) := by decide +kernel
theorem dX12_sign_3 : decode cX12_sign 3 = .ok (.aload_n 0, 1) := by decide +kernel
theorem dX12_sign_4 : decode cX12_sign 4 = .ok (.getfield 442, 3) := by decide +kernel
theorem mw_1446 : Cond.fieldLink RX12 442 "TypedTablesModel" "signs" "I" ∈ wsL_law := List.mem_of_getElem? (i := 1446) (by decide +kernel)
theorem dX12_sign_7 : decode cX12_sign 7 = .ok (.iconst 1, 1) := by decide +kernel
theorem dX12_sign_8 : decode cX12_sign 8 = .ok (.isub, 1) := by decide +kernel
theorem dX12_sign_9 : decode cX12_sign 9 = .ok (.i2l, 1) := by decide +kernel
theorem dX12_sign_10 : decode cX12_sign 10 = .ok (.invokestatic 62, 3) := by decide +kernel
theorem dX12_sign_13 : decode cX12_sign 13 = .ok (.ifCond .eq 12, 3) := by decide +kernel
theorem dX12_sign_25 : decode cX12_sign 25 = .ok (.iconst (-1), 1) := by decide +kernel
theorem dX12_sign_26 : decode cX12_sign 26 = .ok (.ireturn, 1) := by decide +kernel
theorem mw_553 : Cond.code yX12_fault cX12_fault 2 (some .int) ∈ wsL_law := List.mem_of_getElem? (i := 553) (by decide +kernel)
theorem dX12_fault_0 : decode cX12_fault 0 = .ok (.iload_n 1, 1) := by decide +kernel
theorem dX12_fault_1 : decode cX12_fault 1 = .ok (.i2l, 1) := by decide +kernel
theorem dX12_fault_2 : decode cX12_fault 2 = .ok (.lconst 0, 1) := by decide +kernel
theorem dX12_fault_3 : decode cX12_fault 3 = .ok (.ldc2_w 135, 3) := by decide +kernel
theorem mw_554 : Cond.constantLong RX12 135 (4) ∈ wsL_law := List.mem_of_getElem? (i := 554) (by decide +kernel)
theorem dX12_fault_6 : decode cX12_fault 6 = .ok (.invokestatic 62, 3) := by decide +kernel
theorem dX12_fault_9 : decode cX12_fault 9 = .ok (.ifCond .ne 5, 3) := by decide +kernel
theorem dX12_fault_14 : decode cX12_fault 14 = .ok (.iload_n 1, 1) := by decide +kernel
theorem dX12_fault_15 : decode cX12_fault 15 = .ok (.ifCond .ne 8, 3) := by decide +kernel
theorem dX12_fault_23 : decode cX12_fault 23 = .ok (.aload_n 0, 1) := by decide +kernel
theorem dX12_fault_24 : decode cX12_fault 24 = .ok (.getfield 192, 3) := by decide +kernel
theorem mw_418 : Cond.fieldLink RX12 192 "TypedTablesModel" "faultKind" "I" ∈ wsL_law := List.mem_of_getElem? (i := 418) (by decide +kernel)
theorem dX12_fault_27 : decode cX12_fault 27 = .ok (.ifCond .ne 5, 3) := by decide +kernel
theorem dX12_fault_30 : decode cX12_fault 30 = .ok (.iconst (-1), 1) := by decide +kernel
theorem dX12_fault_31 : decode cX12_fault 31 = .ok (.ireturn, 1) := by decide +kernel
theorem dX12_fault_18 : decode cX12_fault 18 = .ok (.aload_n 0, 1) := by decide +kernel
theorem dX12_fault_19 : decode cX12_fault 19 = .ok (.getfield 192, 3) := by decide +kernel
theorem dX12_fault_22 : decode cX12_fault 22 = .ok (.ireturn, 1) := by decide +kernel
theorem dX12_fault_12 : decode cX12_fault 12 = .ok (.iconst (-1), 1) := by decide +kernel
theorem dX12_fault_13 : decode cX12_fault 13 = .ok (.ireturn, 1) := by decide +kernel
theorem mw_1501 : Cond.code yX12_look cX12_look 4 (some .int) ∈ wsL_law := List.mem_of_getElem? (i := 1501) (by decide +kernel)
theorem dX12_look_0 : decode cX12_look 0 = .ok (.iload_n 1, 1) := by decide +kernel
theorem dX12_look_1 : decode cX12_look 1 = .ok (.i2l, 1) := by decide +kernel
theorem dX12_look_2 : decode cX12_look 2 = .ok (.lconst 0, 1) := by decide +kernel
theorem dX12_look_3 : decode cX12_look 3 = .ok (.ldc2_w 325, 3) := by decide +kernel
theorem mw_772 : Cond.constantLong RX12 325 (5) ∈ wsL_law := List.mem_of_getElem? (i := 772) (by decide +kernel)
theorem dX12_look_6 : decode cX12_look 6 = .ok (.invokestatic 62, 3) := by decide +kernel
theorem dX12_look_9 : decode cX12_look 9 = .ok (.ifCond .eq 14, 3) := by decide +kernel
theorem dX12_look_12 : decode cX12_look 12 = .ok (.aload_n 0, 1) := by decide +kernel
theorem dX12_look_13 : decode cX12_look 13 = .ok (.getfield 9, 3) := by decide +kernel
theorem dX12_look_16 : decode cX12_look 16 = .ok (.sipush 21369, 3) := by decide +kernel
theorem dX12_look_19 : decode cX12_look 19 = .ok (.iload_n 1, 1) := by decide +kernel
theorem dX12_look_20 : decode cX12_look 20 = .ok (.iadd, 1) := by decide +kernel
theorem dX12_look_21 : decode cX12_look 21 = .ok (.iaload, 1) := by decide +kernel
theorem dX12_look_22 : decode cX12_look 22 = .ok (.ireturn, 1) := by decide +kernel
theorem dX12_look_23 : decode cX12_look 23 = .ok (.iconst 0, 1) := by decide +kernel
theorem dX12_look_24 : decode cX12_look 24 = .ok (.istore_n 2, 1) := by decide +kernel
theorem dX12_look_25 : decode cX12_look 25 = .ok (.iload_n 1, 1) := by decide +kernel
theorem dX12_look_26 : decode cX12_look 26 = .ok (.tableswitch 118 6 10 #[34, 64, 69, 74, 113], 34) := by decide +kernel
theorem dX12_look_144 : decode cX12_look 144 = .ok (.iconst (-1), 1) := by decide +kernel
theorem dX12_look_145 : decode cX12_look 145 = .ok (.ireturn, 1) := by decide +kernel
theorem dX12_look_60 : decode cX12_look 60 = .ok (.iconst 0, 1) := by decide +kernel
theorem dX12_look_61 : decode cX12_look 61 = .ok (.istore_n 3, 1) := by decide +kernel
theorem dX12_look_62 : decode cX12_look 62 = .ok (.iload_n 3, 1) := by decide +kernel
theorem dX12_look_63 : decode cX12_look 63 = .ok (.iconst 3, 1) := by decide +kernel
theorem dX12_look_64 : decode cX12_look 64 = .ok (.if_icmp .ge 24, 3) := by decide +kernel
theorem dX12_look_67 : decode cX12_look 67 = .ok (.iload_n 2, 1) := by decide +kernel
theorem dX12_look_68 : decode cX12_look 68 = .ok (.aload_n 0, 1) := by decide +kernel
theorem dX12_look_69 : decode cX12_look 69 = .ok (.getfield 9, 3) := by decide +kernel
theorem dX12_look_72 : decode cX12_look 72 = .ok (.iload_n 3, 1) := by decide +kernel
theorem dX12_look_73 : decode cX12_look 73 = .ok (.iconst 0, 1) := by decide +kernel
theorem dX12_look_74 : decode cX12_look 74 = .ok (.invokestatic 66, 3) := by decide +kernel
theorem dX12_look_77 : decode cX12_look 77 = .ok (.iaload, 1) := by decide +kernel
theorem dX12_look_78 : decode cX12_look 78 = .ok (.iload_n 3, 1) := by decide +kernel
theorem dX12_look_79 : decode cX12_look 79 = .ok (.ishl, 1) := by decide +kernel
theorem dX12_look_80 : decode cX12_look 80 = .ok (.ior, 1) := by decide +kernel
theorem dX12_look_81 : decode cX12_look 81 = .ok (.istore_n 2, 1) := by decide +kernel
theorem dX12_look_82 : decode cX12_look 82 = .ok (.iinc 3 1, 3) := by decide +kernel
theorem dX12_look_85 : decode cX12_look 85 = .ok (.goto (-23), 3) := by decide +kernel
theorem dX12_look_88 : decode cX12_look 88 = .ok (.iload_n 2, 1) := by decide +kernel
theorem dX12_look_89 : decode cX12_look 89 = .ok (.ireturn, 1) := by decide +kernel
theorem dX12_look_90 : decode cX12_look 90 = .ok (.aload_n 0, 1) := by decide +kernel
theorem dX12_look_91 : decode cX12_look 91 = .ok (.getfield 74, 3) := by decide +kernel
theorem dX12_look_94 : decode cX12_look 94 = .ok (.ireturn, 1) := by decide +kernel
theorem dX12_look_95 : decode cX12_look 95 = .ok (.aload_n 0, 1) := by decide +kernel
theorem dX12_look_96 : decode cX12_look 96 = .ok (.getfield 83, 3) := by decide +kernel
theorem mw_236 : Cond.fieldLink RX12 83 "TypedTablesModel" "taped" "I" ∈ wsL_law := List.mem_of_getElem? (i := 236) (by decide +kernel)
theorem dX12_look_99 : decode cX12_look 99 = .ok (.ireturn, 1) := by decide +kernel
theorem dX12_look_100 : decode cX12_look 100 = .ok (.iconst 0, 1) := by decide +kernel
theorem dX12_look_101 : decode cX12_look 101 = .ok (.istore_n 3, 1) := by decide +kernel
theorem dX12_look_102 : decode cX12_look 102 = .ok (.iload_n 3, 1) := by decide +kernel
theorem dX12_look_103 : decode cX12_look 103 = .ok (.iconst 3, 1) := by decide +kernel
theorem dX12_look_104 : decode cX12_look 104 = .ok (.if_icmp .ge 33, 3) := by decide +kernel
theorem dX12_look_107 : decode cX12_look 107 = .ok (.iload_n 2, 1) := by decide +kernel
theorem dX12_look_108 : decode cX12_look 108 = .ok (.aload_n 0, 1) := by decide +kernel
theorem dX12_look_109 : decode cX12_look 109 = .ok (.getfield 9, 3) := by decide +kernel
theorem dX12_look_112 : decode cX12_look 112 = .ok (.iload_n 3, 1) := by decide +kernel
theorem dX12_look_113 : decode cX12_look 113 = .ok (.iconst 1, 1) := by decide +kernel
theorem dX12_look_114 : decode cX12_look 114 = .ok (.invokestatic 66, 3) := by decide +kernel
theorem dX12_look_117 : decode cX12_look 117 = .ok (.iaload, 1) := by decide +kernel
theorem dX12_look_118 : decode cX12_look 118 = .ok (.aload_n 0, 1) := by decide +kernel
theorem dX12_look_119 : decode cX12_look 119 = .ok (.getfield 9, 3) := by decide +kernel
theorem dX12_look_122 : decode cX12_look 122 = .ok (.iload_n 3, 1) := by decide +kernel
theorem dX12_look_123 : decode cX12_look 123 = .ok (.iconst 2, 1) := by decide +kernel
theorem dX12_look_124 : decode cX12_look 124 = .ok (.invokestatic 66, 3) := by decide +kernel
theorem dX12_look_127 : decode cX12_look 127 = .ok (.iaload, 1) := by decide +kernel
theorem dX12_look_128 : decode cX12_look 128 = .ok (.imul, 1) := by decide +kernel
theorem dX12_look_129 : decode cX12_look 129 = .ok (.iadd, 1) := by decide +kernel
theorem dX12_look_130 : decode cX12_look 130 = .ok (.istore_n 2, 1) := by decide +kernel
theorem dX12_look_131 : decode cX12_look 131 = .ok (.iinc 3 1, 3) := by decide +kernel
theorem dX12_look_134 : decode cX12_look 134 = .ok (.goto (-32), 3) := by decide +kernel
theorem dX12_look_137 : decode cX12_look 137 = .ok (.iload_n 2, 1) := by decide +kernel
theorem dX12_look_138 : decode cX12_look 138 = .ok (.ireturn, 1) := by decide +kernel
theorem dX12_look_139 : decode cX12_look 139 = .ok (.aload_n 0, 1) := by decide +kernel
theorem dX12_look_140 : decode cX12_look 140 = .ok (.getfield 283, 3) := by decide +kernel
theorem mw_528 : Cond.fieldLink RX12 283 "TypedTablesModel" "faults" "I" ∈ wsL_law := List.mem_of_getElem? (i := 528) (by decide +kernel)
theorem dX12_look_143 : decode cX12_look 143 = .ok (.ireturn, 1) := by decide +kernel
theorem mw_185 : Cond.code yX12_init cX12_init 1 none ∈ wsL_law := List.mem_of_getElem? (i := 185) (by decide +kernel)
theorem dX12_init_0 : decode cX12_init 0 = .ok (.aload_n 0, 1) := by decide +kernel
theorem dX12_init_1 : decode cX12_init 1 = .ok (.invokespecial 3, 3) := by decide +kernel
theorem mw_186 : Cond.methodLink RX12 3 objectInit ∈ wsL_law := List.mem_of_getElem? (i := 186) (by decide +kernel)
theorem dX12_init_4 : decode cX12_init 4 = .ok (.aload_n 0, 1) := by decide +kernel
theorem dX12_init_5 : decode cX12_init 5 = .ok (.sipush 21375, 3) := by decide +kernel
theorem dX12_init_8 : decode cX12_init 8 = .ok (.newarray .int, 2) := by decide +kernel
theorem dX12_init_10 : decode cX12_init 10 = .ok (.putfield 9, 3) := by decide +kernel
theorem dX12_init_13 : decode cX12_init 13 = .ok (.aload_n 0, 1) := by decide +kernel
theorem dX12_init_14 : decode cX12_init 14 = .ok (.sipush 21375, 3) := by decide +kernel
theorem dX12_init_17 : decode cX12_init 17 = .ok (.newarray .int, 2) := by decide +kernel
theorem dX12_init_19 : decode cX12_init 19 = .ok (.putfield 13, 3) := by decide +kernel
theorem mw_188 : Cond.fieldLink RX12 13 "TypedTablesModel" "kept" "[I" ∈ wsL_law := List.mem_of_getElem? (i := 188) (by decide +kernel)
theorem dX12_init_22 : decode cX12_init 22 = .ok (.aload_n 0, 1) := by decide +kernel
theorem dX12_init_23 : decode cX12_init 23 = .ok (.ldc 16, 2) := by decide +kernel
theorem mw_189 : Cond.constant RX12 16 (128214) ∈ wsL_law := List.mem_of_getElem? (i := 189) (by decide +kernel)
theorem dX12_init_25 : decode cX12_init 25 = .ok (.newarray .int, 2) := by decide +kernel
theorem dX12_init_27 : decode cX12_init 27 = .ok (.putfield 17, 3) := by decide +kernel
theorem mw_190 : Cond.fieldLink RX12 17 "TypedTablesModel" "undos" "[I" ∈ wsL_law := List.mem_of_getElem? (i := 190) (by decide +kernel)
theorem dX12_init_30 : decode cX12_init 30 = .ok (.aload_n 0, 1) := by decide +kernel
theorem dX12_init_31 : decode cX12_init 31 = .ok (.sipush 800, 3) := by decide +kernel
theorem dX12_init_34 : decode cX12_init 34 = .ok (.newarray .int, 2) := by decide +kernel
theorem dX12_init_36 : decode cX12_init 36 = .ok (.putfield 20, 3) := by decide +kernel
theorem mw_191 : Cond.fieldLink RX12 20 "TypedTablesModel" "tape" "[I" ∈ wsL_law := List.mem_of_getElem? (i := 191) (by decide +kernel)
theorem dX12_init_39 : decode cX12_init 39 = .ok (.aload_n 0, 1) := by decide +kernel
theorem dX12_init_40 : decode cX12_init 40 = .ok (.iconst (-1), 1) := by decide +kernel
theorem dX12_init_41 : decode cX12_init 41 = .ok (.putfield 23, 3) := by decide +kernel
theorem mw_192 : Cond.fieldLink RX12 23 "TypedTablesModel" "faultPlace" "I" ∈ wsL_law := List.mem_of_getElem? (i := 192) (by decide +kernel)
theorem dX12_init_44 : decode cX12_init 44 = .ok (.aload_n 0, 1) := by decide +kernel
theorem dX12_init_45 : decode cX12_init 45 = .ok (.iconst (-1), 1) := by decide +kernel
theorem dX12_init_46 : decode cX12_init 46 = .ok (.putfield 27, 3) := by decide +kernel
theorem mw_193 : Cond.fieldLink RX12 27 "TypedTablesModel" "faultCause" "I" ∈ wsL_law := List.mem_of_getElem? (i := 193) (by decide +kernel)
theorem dX12_init_49 : decode cX12_init 49 = .ok (.aload_n 0, 1) := by decide +kernel
theorem dX12_init_50 : decode cX12_init 50 = .ok (.sipush 189, 3) := by decide +kernel
theorem dX12_init_53 : decode cX12_init 53 = .ok (.newarray .int, 2) := by decide +kernel
theorem dX12_init_55 : decode cX12_init 55 = .ok (.putfield 30, 3) := by decide +kernel
theorem mw_194 : Cond.fieldLink RX12 30 "TypedTablesModel" "field" "[I" ∈ wsL_law := List.mem_of_getElem? (i := 194) (by decide +kernel)
theorem dX12_init_58 : decode cX12_init 58 = .ok (.aload_n 0, 1) := by decide +kernel
theorem dX12_init_59 : decode cX12_init 59 = .ok (.bipush 9, 2) := by decide +kernel
theorem dX12_init_61 : decode cX12_init 61 = .ok (.newarray .int, 2) := by decide +kernel
theorem dX12_init_63 : decode cX12_init 63 = .ok (.putfield 33, 3) := by decide +kernel
theorem mw_195 : Cond.fieldLink RX12 33 "TypedTablesModel" "fieldAt" "[I" ∈ wsL_law := List.mem_of_getElem? (i := 195) (by decide +kernel)
theorem dX12_init_66 : decode cX12_init 66 = .ok (.aload_n 0, 1) := by decide +kernel
theorem dX12_init_67 : decode cX12_init 67 = .ok (.bipush 9, 2) := by decide +kernel
theorem dX12_init_69 : decode cX12_init 69 = .ok (.newarray .int, 2) := by decide +kernel
theorem dX12_init_71 : decode cX12_init 71 = .ok (.putfield 36, 3) := by decide +kernel
theorem mw_196 : Cond.fieldLink RX12 36 "TypedTablesModel" "parted" "[I" ∈ wsL_law := List.mem_of_getElem? (i := 196) (by decide +kernel)
theorem dX12_init_74 : decode cX12_init 74 = .ok (.aload_n 0, 1) := by decide +kernel
theorem dX12_init_75 : decode cX12_init 75 = .ok (.sipush 7123, 3) := by decide +kernel
theorem dX12_init_78 : decode cX12_init 78 = .ok (.newarray .int, 2) := by decide +kernel
theorem dX12_init_80 : decode cX12_init 80 = .ok (.putfield 39, 3) := by decide +kernel
theorem mw_197 : Cond.fieldLink RX12 39 "TypedTablesModel" "draft" "[I" ∈ wsL_law := List.mem_of_getElem? (i := 197) (by decide +kernel)
theorem dX12_init_83 : decode cX12_init 83 = .ok (.aload_n 0, 1) := by decide +kernel
theorem dX12_init_84 : decode cX12_init 84 = .ok (.sipush 801, 3) := by decide +kernel
theorem dX12_init_87 : decode cX12_init 87 = .ok (.newarray .int, 2) := by decide +kernel
theorem dX12_init_89 : decode cX12_init 89 = .ok (.putfield 42, 3) := by decide +kernel
theorem mw_198 : Cond.fieldLink RX12 42 "TypedTablesModel" "told" "[I" ∈ wsL_law := List.mem_of_getElem? (i := 198) (by decide +kernel)
theorem dX12_init_92 : decode cX12_init 92 = .ok (.aload_n 0, 1) := by decide +kernel
theorem dX12_init_93 : decode cX12_init 93 = .ok (.bipush 40, 2) := by decide +kernel
theorem dX12_init_95 : decode cX12_init 95 = .ok (.newarray .int, 2) := by decide +kernel
theorem dX12_init_97 : decode cX12_init 97 = .ok (.putfield 45, 3) := by decide +kernel
theorem mw_199 : Cond.fieldLink RX12 45 "TypedTablesModel" "next" "[I" ∈ wsL_law := List.mem_of_getElem? (i := 199) (by decide +kernel)
theorem dX12_init_100 : decode cX12_init 100 = .ok (.aload_n 0, 1) := by decide +kernel
theorem dX12_init_101 : decode cX12_init 101 = .ok (.bipush 40, 2) := by decide +kernel
theorem dX12_init_103 : decode cX12_init 103 = .ok (.newarray .int, 2) := by decide +kernel
theorem dX12_init_105 : decode cX12_init 105 = .ok (.putfield 48, 3) := by decide +kernel
theorem mw_200 : Cond.fieldLink RX12 48 "TypedTablesModel" "proofRow" "[I" ∈ wsL_law := List.mem_of_getElem? (i := 200) (by decide +kernel)
theorem dX12_init_108 : decode cX12_init 108 = .ok (.aload_n 0, 1) := by decide +kernel
theorem dX12_init_109 : decode cX12_init 109 = .ok (.bipush 40, 2) := by decide +kernel
theorem dX12_init_111 : decode cX12_init 111 = .ok (.newarray .int, 2) := by decide +kernel
theorem dX12_init_113 : decode cX12_init 113 = .ok (.putfield 51, 3) := by decide +kernel
theorem mw_201 : Cond.fieldLink RX12 51 "TypedTablesModel" "proofType" "[I" ∈ wsL_law := List.mem_of_getElem? (i := 201) (by decide +kernel)
theorem dX12_init_116 : decode cX12_init 116 = .ok (.aload_n 0, 1) := by decide +kernel
theorem dX12_init_117 : decode cX12_init 117 = .ok (.sipush 6000, 3) := by decide +kernel
theorem dX12_init_120 : decode cX12_init 120 = .ok (.newarray .int, 2) := by decide +kernel
theorem dX12_init_122 : decode cX12_init 122 = .ok (.putfield 54, 3) := by decide +kernel
theorem mw_202 : Cond.fieldLink RX12 54 "TypedTablesModel" "text" "[I" ∈ wsL_law := List.mem_of_getElem? (i := 202) (by decide +kernel)
theorem dX12_init_125 : decode cX12_init 125 = .ok (.aload_n 0, 1) := by decide +kernel
theorem dX12_init_126 : decode cX12_init 126 = .ok (.sipush 400, 3) := by decide +kernel
theorem dX12_init_129 : decode cX12_init 129 = .ok (.newarray .int, 2) := by decide +kernel
theorem dX12_init_131 : decode cX12_init 131 = .ok (.putfield 57, 3) := by decide +kernel
theorem mw_203 : Cond.fieldLink RX12 57 "TypedTablesModel" "line" "[I" ∈ wsL_law := List.mem_of_getElem? (i := 203) (by decide +kernel)
theorem dX12_init_134 : decode cX12_init 134 = .ok (.aload_n 0, 1) := by decide +kernel
theorem dX12_init_135 : decode cX12_init 135 = .ok (.getfield 9, 3) := by decide +kernel
theorem dX12_init_138 : decode cX12_init 138 = .ok (.sipush 21369, 3) := by decide +kernel
theorem dX12_init_141 : decode cX12_init 141 = .ok (.bipush 44, 2) := by decide +kernel
theorem dX12_init_143 : decode cX12_init 143 = .ok (.iastore, 1) := by decide +kernel
theorem dX12_init_144 : decode cX12_init 144 = .ok (.aload_n 0, 1) := by decide +kernel
theorem dX12_init_145 : decode cX12_init 145 = .ok (.getfield 9, 3) := by decide +kernel
theorem dX12_init_148 : decode cX12_init 148 = .ok (.sipush 21370, 3) := by decide +kernel
theorem dX12_init_151 : decode cX12_init 151 = .ok (.bipush 34, 2) := by decide +kernel
theorem dX12_init_153 : decode cX12_init 153 = .ok (.iastore, 1) := by decide +kernel
theorem dX12_init_154 : decode cX12_init 154 = .ok (.aload_n 0, 1) := by decide +kernel
theorem dX12_init_155 : decode cX12_init 155 = .ok (.getfield 9, 3) := by decide +kernel
theorem dX12_init_158 : decode cX12_init 158 = .ok (.sipush 21371, 3) := by decide +kernel
theorem dX12_init_161 : decode cX12_init 161 = .ok (.iconst 1, 1) := by decide +kernel
theorem dX12_init_162 : decode cX12_init 162 = .ok (.iastore, 1) := by decide +kernel
theorem dX12_init_163 : decode cX12_init 163 = .ok (.return_, 1) := by decide +kernel
theorem mw_240 : Cond.code yX12_comes cX12_comes 3 none ∈ wsL_law := List.mem_of_getElem? (i := 240) (by decide +kernel)
theorem dX12_comes_0 : decode cX12_comes 0 = .ok (.bipush 24, 2) := by decide +kernel
theorem dX12_comes_2 : decode cX12_comes 2 = .ok (.istore_n 2, 1) := by decide +kernel
theorem dX12_comes_3 : decode cX12_comes 3 = .ok (.iload_n 2, 1) := by decide +kernel
theorem dX12_comes_4 : decode cX12_comes 4 = .ok (.ifCond .lt 35, 3) := by decide +kernel
theorem dX12_comes_7 : decode cX12_comes 7 = .ok (.aload_n 0, 1) := by decide +kernel
theorem dX12_comes_8 : decode cX12_comes 8 = .ok (.getfield 20, 3) := by decide +kernel
theorem dX12_comes_11 : decode cX12_comes 11 = .ok (.aload_n 0, 1) := by decide +kernel
theorem dX12_comes_12 : decode cX12_comes 12 = .ok (.getfield 83, 3) := by decide +kernel
theorem dX12_comes_15 : decode cX12_comes 15 = .ok (.iload_n 1, 1) := by decide +kernel
theorem dX12_comes_16 : decode cX12_comes 16 = .ok (.iload_n 2, 1) := by decide +kernel
theorem dX12_comes_17 : decode cX12_comes 17 = .ok (.iushr, 1) := by decide +kernel
theorem dX12_comes_18 : decode cX12_comes 18 = .ok (.sipush 255, 3) := by decide +kernel
theorem dX12_comes_21 : decode cX12_comes 21 = .ok (.iand, 1) := by decide +kernel
theorem dX12_comes_22 : decode cX12_comes 22 = .ok (.iastore, 1) := by decide +kernel
theorem dX12_comes_23 : decode cX12_comes 23 = .ok (.aload_n 0, 1) := by decide +kernel
theorem dX12_comes_24 : decode cX12_comes 24 = .ok (.dup, 1) := by decide +kernel
theorem dX12_comes_25 : decode cX12_comes 25 = .ok (.getfield 83, 3) := by decide +kernel
theorem dX12_comes_28 : decode cX12_comes 28 = .ok (.iconst 1, 1) := by decide +kernel
theorem dX12_comes_29 : decode cX12_comes 29 = .ok (.iadd, 1) := by decide +kernel
theorem dX12_comes_30 : decode cX12_comes 30 = .ok (.putfield 83, 3) := by decide +kernel
theorem dX12_comes_33 : decode cX12_comes 33 = .ok (.iinc 2 (-8), 3) := by decide +kernel
theorem dX12_comes_36 : decode cX12_comes 36 = .ok (.goto (-33), 3) := by decide +kernel
theorem dX12_comes_39 : decode cX12_comes 39 = .ok (.return_, 1) := by decide +kernel
theorem mw_235 : Cond.code yX12_feed cX12_feed 6 (some .int) ∈ wsL_law := List.mem_of_getElem? (i := 235) (by decide +kernel)
theorem dX12_feed_0 : decode cX12_feed 0 = .ok (.aload_n 0, 1) := by decide +kernel
theorem dX12_feed_1 : decode cX12_feed 1 = .ok (.getfield 83, 3) := by decide +kernel
theorem dX12_feed_4 : decode cX12_feed 4 = .ok (.bipush 20, 2) := by decide +kernel
theorem dX12_feed_6 : decode cX12_feed 6 = .ok (.iadd, 1) := by decide +kernel
theorem dX12_feed_7 : decode cX12_feed 7 = .ok (.sipush 800, 3) := by decide +kernel
theorem dX12_feed_10 : decode cX12_feed 10 = .ok (.if_icmp .le 5, 3) := by decide +kernel
theorem dX12_feed_15 : decode cX12_feed 15 = .ok (.aload_n 0, 1) := by decide +kernel
theorem dX12_feed_16 : decode cX12_feed 16 = .ok (.iload_n 1, 1) := by decide +kernel
theorem dX12_feed_17 : decode cX12_feed 17 = .ok (.invokevirtual 86, 3) := by decide +kernel
theorem mw_237 : Cond.methodLink RX12 86 yX12_comes ∈ wsL_law := List.mem_of_getElem? (i := 237) (by decide +kernel)
theorem mw_238 : Cond.instanceMethod yX12_comes ∈ wsL_law := List.mem_of_getElem? (i := 238) (by decide +kernel)
theorem mw_239 : Cond.selects RX12 yX12_comes yX12_comes ∈ wsL_law := List.mem_of_getElem? (i := 239) (by decide +kernel)
theorem gV_X12_86 : GoodIn wsL_law (wsV RX12 86 RX12 yX12_comes (wl yX12_comes cX12_comes 3 none)) := g_V mw_237 mw_238 mw_239 mw_5 mw_240
theorem hdV_X12_comes : yX12_comes.cls = RX12 ∧ okD yX12_comes 1 := by decide +kernel
theorem dX12_feed_20 : decode cX12_feed 20 = .ok (.aload_n 0, 1) := by decide +kernel
theorem dX12_feed_21 : decode cX12_feed 21 = .ok (.iload_n 2, 1) := by decide +kernel
theorem dX12_feed_22 : decode cX12_feed 22 = .ok (.invokevirtual 86, 3) := by decide +kernel
theorem dX12_feed_25 : decode cX12_feed 25 = .ok (.aload_n 0, 1) := by decide +kernel
theorem dX12_feed_26 : decode cX12_feed 26 = .ok (.iload_n 3, 1) := by decide +kernel
theorem dX12_feed_27 : decode cX12_feed 27 = .ok (.invokevirtual 86, 3) := by decide +kernel
theorem dX12_feed_30 : decode cX12_feed 30 = .ok (.aload_n 0, 1) := by decide +kernel
theorem dX12_feed_31 : decode cX12_feed 31 = .ok (.iload 4, 2) := by decide +kernel
theorem dX12_feed_33 : decode cX12_feed 33 = .ok (.invokevirtual 86, 3) := by decide +kernel
theorem dX12_feed_36 : decode cX12_feed 36 = .ok (.aload_n 0, 1) := by decide +kernel
theorem dX12_feed_37 : decode cX12_feed 37 = .ok (.iload 5, 2) := by decide +kernel
theorem dX12_feed_39 : decode cX12_feed 39 = .ok (.invokevirtual 86, 3) := by decide +kernel
theorem dX12_feed_42 : decode cX12_feed 42 = .ok (.aload_n 0, 1) := by decide +kernel
theorem dX12_feed_43 : decode cX12_feed 43 = .ok (.getfield 83, 3) := by decide +kernel
theorem dX12_feed_46 : decode cX12_feed 46 = .ok (.ireturn, 1) := by decide +kernel
theorem mw_248 : Cond.code yX12_end cX12_end 2 (some .boolean) ∈ wsL_law := List.mem_of_getElem? (i := 248) (by decide +kernel)
theorem dX12_end_0 : decode cX12_end 0 = .ok (.iload_n 1, 1) := by decide +kernel
theorem dX12_end_1 : decode cX12_end 1 = .ok (.i2l, 1) := by decide +kernel
theorem dX12_end_2 : decode cX12_end 2 = .ok (.lconst 0, 1) := by decide +kernel
theorem dX12_end_3 : decode cX12_end 3 = .ok (.aload_n 0, 1) := by decide +kernel
theorem dX12_end_4 : decode cX12_end 4 = .ok (.getfield 83, 3) := by decide +kernel
theorem dX12_end_7 : decode cX12_end 7 = .ok (.i2l, 1) := by decide +kernel
theorem dX12_end_8 : decode cX12_end 8 = .ok (.invokestatic 62, 3) := by decide +kernel
theorem dX12_end_11 : decode cX12_end 11 = .ok (.ifCond .ne 5, 3) := by decide +kernel
theorem dX12_end_16 : decode cX12_end 16 = .ok (.aload_n 0, 1) := by decide +kernel
theorem dX12_end_17 : decode cX12_end 17 = .ok (.iload_n 1, 1) := by decide +kernel
theorem dX12_end_18 : decode cX12_end 18 = .ok (.putfield 83, 3) := by decide +kernel
theorem dX12_end_21 : decode cX12_end 21 = .ok (.iconst 1, 1) := by decide +kernel
theorem dX12_end_22 : decode cX12_end 22 = .ok (.ireturn, 1) := by decide +kernel
theorem dX12_end_14 : decode cX12_end 14 = .ok (.iconst 0, 1) := by decide +kernel
theorem dX12_end_15 : decode cX12_end 15 = .ok (.ireturn, 1) := by decide +kernel
theorem mw_417 : Cond.code yX12_beginsReading cX12_beginsReading 1 none ∈ wsL_law := List.mem_of_getElem? (i := 417) (by decide +kernel)
theorem dX12_beginsReading_0 : decode cX12_beginsReading 0 = .ok (.aload_n 0, 1) := by decide +kernel
theorem dX12_beginsReading_1 : decode cX12_beginsReading 1 = .ok (.iconst 0, 1) := by decide +kernel
theorem dX12_beginsReading_2 : decode cX12_beginsReading 2 = .ok (.putfield 192, 3) := by decide +kernel
theorem dX12_beginsReading_5 : decode cX12_beginsReading 5 = .ok (.aload_n 0, 1) := by decide +kernel
theorem dX12_beginsReading_6 : decode cX12_beginsReading 6 = .ok (.iconst (-1), 1) := by decide +kernel
theorem dX12_beginsReading_7 : decode cX12_beginsReading 7 = .ok (.putfield 23, 3) := by decide +kernel
theorem dX12_beginsReading_10 : decode cX12_beginsReading 10 = .ok (.aload_n 0, 1) := by decide +kernel
theorem dX12_beginsReading_11 : decode cX12_beginsReading 11 = .ok (.iconst (-1), 1) := by decide +kernel
theorem dX12_beginsReading_12 : decode cX12_beginsReading 12 = .ok (.putfield 27, 3) := by decide +kernel
theorem dX12_beginsReading_15 : decode cX12_beginsReading 15 = .ok (.return_, 1) := by decide +kernel
theorem mw_427 : Cond.code yX12_passes cX12_passes 2 (some .boolean) ∈ wsL_law := List.mem_of_getElem? (i := 427) (by decide +kernel)
theorem dX12_passes_0 : decode cX12_passes 0 = .ok (.aload_n 0, 1) := by decide +kernel
theorem dX12_passes_1 : decode cX12_passes 1 = .ok (.getfield 195, 3) := by decide +kernel
theorem mw_423 : Cond.fieldLink RX12 195 "TypedTablesModel" "pos" "I" ∈ wsL_law := List.mem_of_getElem? (i := 423) (by decide +kernel)
theorem dX12_passes_4 : decode cX12_passes 4 = .ok (.aload_n 0, 1) := by decide +kernel
theorem dX12_passes_5 : decode cX12_passes 5 = .ok (.getfield 83, 3) := by decide +kernel
theorem dX12_passes_8 : decode cX12_passes 8 = .ok (.if_icmp .ge 122, 3) := by decide +kernel
theorem dX12_passes_130 : decode cX12_passes 130 = .ok (.iconst 0, 1) := by decide +kernel
theorem dX12_passes_131 : decode cX12_passes 131 = .ok (.ireturn, 1) := by decide +kernel
theorem mw_441 : Cond.code yX12_wrong cX12_wrong 4 (some .boolean) ∈ wsL_law := List.mem_of_getElem? (i := 441) (by decide +kernel)
theorem dX12_wrong_0 : decode cX12_wrong 0 = .ok (.aload_n 0, 1) := by decide +kernel
theorem dX12_wrong_1 : decode cX12_wrong 1 = .ok (.iload_n 1, 1) := by decide +kernel
theorem dX12_wrong_2 : decode cX12_wrong 2 = .ok (.putfield 192, 3) := by decide +kernel
theorem dX12_wrong_5 : decode cX12_wrong 5 = .ok (.aload_n 0, 1) := by decide +kernel
theorem dX12_wrong_6 : decode cX12_wrong 6 = .ok (.iload_n 2, 1) := by decide +kernel
theorem dX12_wrong_7 : decode cX12_wrong 7 = .ok (.putfield 23, 3) := by decide +kernel
theorem dX12_wrong_10 : decode cX12_wrong 10 = .ok (.aload_n 0, 1) := by decide +kernel
theorem dX12_wrong_11 : decode cX12_wrong 11 = .ok (.iload_n 3, 1) := by decide +kernel
theorem dX12_wrong_12 : decode cX12_wrong 12 = .ok (.putfield 27, 3) := by decide +kernel
theorem dX12_wrong_15 : decode cX12_wrong 15 = .ok (.iconst 0, 1) := by decide +kernel
theorem dX12_wrong_16 : decode cX12_wrong 16 = .ok (.ireturn, 1) := by decide +kernel
theorem mw_422 : Cond.code yX12_readsTable cX12_readsTable 3 (some .boolean) ∈ wsL_law := List.mem_of_getElem? (i := 422) (by decide +kernel)
theorem dX12_readsTable_0 : decode cX12_readsTable 0 = .ok (.iconst 0, 1) := by decide +kernel
theorem dX12_readsTable_1 : decode cX12_readsTable 1 = .ok (.istore_n 1, 1) := by decide +kernel
theorem dX12_readsTable_2 : decode cX12_readsTable 2 = .ok (.iload_n 1, 1) := by decide +kernel
theorem dX12_readsTable_3 : decode cX12_readsTable 3 = .ok (.sipush 7123, 3) := by decide +kernel
theorem dX12_readsTable_6 : decode cX12_readsTable 6 = .ok (.if_icmp .ge 16, 3) := by decide +kernel
theorem dX12_readsTable_9 : decode cX12_readsTable 9 = .ok (.aload_n 0, 1) := by decide +kernel
theorem dX12_readsTable_10 : decode cX12_readsTable 10 = .ok (.getfield 39, 3) := by decide +kernel
theorem dX12_readsTable_13 : decode cX12_readsTable 13 = .ok (.iload_n 1, 1) := by decide +kernel
theorem dX12_readsTable_14 : decode cX12_readsTable 14 = .ok (.iconst 0, 1) := by decide +kernel
theorem dX12_readsTable_15 : decode cX12_readsTable 15 = .ok (.iastore, 1) := by decide +kernel
theorem dX12_readsTable_16 : decode cX12_readsTable 16 = .ok (.iinc 1 1, 3) := by decide +kernel
theorem dX12_readsTable_19 : decode cX12_readsTable 19 = .ok (.goto (-17), 3) := by decide +kernel
theorem dX12_readsTable_22 : decode cX12_readsTable 22 = .ok (.aload_n 0, 1) := by decide +kernel
theorem dX12_readsTable_23 : decode cX12_readsTable 23 = .ok (.getfield 39, 3) := by decide +kernel
theorem dX12_readsTable_26 : decode cX12_readsTable 26 = .ok (.iconst 0, 1) := by decide +kernel
theorem dX12_readsTable_27 : decode cX12_readsTable 27 = .ok (.iconst 1, 1) := by decide +kernel
theorem dX12_readsTable_28 : decode cX12_readsTable 28 = .ok (.iastore, 1) := by decide +kernel
theorem dX12_readsTable_29 : decode cX12_readsTable 29 = .ok (.aload_n 0, 1) := by decide +kernel
theorem dX12_readsTable_30 : decode cX12_readsTable 30 = .ok (.iconst 0, 1) := by decide +kernel
theorem dX12_readsTable_31 : decode cX12_readsTable 31 = .ok (.putfield 195, 3) := by decide +kernel
theorem dX12_readsTable_34 : decode cX12_readsTable 34 = .ok (.aload_n 0, 1) := by decide +kernel
theorem dX12_readsTable_35 : decode cX12_readsTable 35 = .ok (.invokevirtual 252, 3) := by decide +kernel
theorem mw_424 : Cond.methodLink RX12 252 yX12_passes ∈ wsL_law := List.mem_of_getElem? (i := 424) (by decide +kernel)
theorem mw_425 : Cond.instanceMethod yX12_passes ∈ wsL_law := List.mem_of_getElem? (i := 425) (by decide +kernel)
theorem mw_426 : Cond.selects RX12 yX12_passes yX12_passes ∈ wsL_law := List.mem_of_getElem? (i := 426) (by decide +kernel)
theorem gV_X12_252 : GoodIn wsL_law (wsV RX12 252 RX12 yX12_passes (wl yX12_passes cX12_passes 2 (some .boolean))) := g_V mw_424 mw_425 mw_426 mw_5 mw_427
theorem hdV_X12_passes : yX12_passes.cls = RX12 ∧ okD yX12_passes 0 := by decide +kernel
theorem dX12_readsTable_38 : decode cX12_readsTable 38 = .ok (.ifCond .eq 160, 3) := by decide +kernel
theorem dX12_readsTable_198 : decode cX12_readsTable 198 = .ok (.aload_n 0, 1) := by decide +kernel
theorem dX12_readsTable_199 : decode cX12_readsTable 199 = .ok (.getfield 39, 3) := by decide +kernel
theorem dX12_readsTable_202 : decode cX12_readsTable 202 = .ok (.iconst 1, 1) := by decide +kernel
theorem dX12_readsTable_203 : decode cX12_readsTable 203 = .ok (.iaload, 1) := by decide +kernel
theorem dX12_readsTable_204 : decode cX12_readsTable 204 = .ok (.ifCond .gt 17, 3) := by decide +kernel
theorem dX12_readsTable_207 : decode cX12_readsTable 207 = .ok (.aload_n 0, 1) := by decide +kernel
theorem dX12_readsTable_208 : decode cX12_readsTable 208 = .ok (.bipush 9, 2) := by decide +kernel
theorem dX12_readsTable_210 : decode cX12_readsTable 210 = .ok (.aload_n 0, 1) := by decide +kernel
theorem dX12_readsTable_211 : decode cX12_readsTable 211 = .ok (.getfield 83, 3) := by decide +kernel
theorem dX12_readsTable_214 : decode cX12_readsTable 214 = .ok (.iconst (-1), 1) := by decide +kernel
theorem dX12_readsTable_215 : decode cX12_readsTable 215 = .ok (.invokevirtual 210, 3) := by decide +kernel
theorem mw_438 : Cond.methodLink RX12 210 yX12_wrong ∈ wsL_law := List.mem_of_getElem? (i := 438) (by decide +kernel)
theorem mw_439 : Cond.instanceMethod yX12_wrong ∈ wsL_law := List.mem_of_getElem? (i := 439) (by decide +kernel)
theorem mw_440 : Cond.selects RX12 yX12_wrong yX12_wrong ∈ wsL_law := List.mem_of_getElem? (i := 440) (by decide +kernel)
theorem gV_X12_210 : GoodIn wsL_law (wsV RX12 210 RX12 yX12_wrong (wl yX12_wrong cX12_wrong 4 (some .boolean))) := g_V mw_438 mw_439 mw_440 mw_5 mw_441
theorem hdV_X12_wrong : yX12_wrong.cls = RX12 ∧ okD yX12_wrong 3 := by decide +kernel
theorem dX12_readsTable_218 : decode cX12_readsTable 218 = .ok (.ifCond .eq 7, 3) := by decide +kernel
theorem dX12_readsTable_225 : decode cX12_readsTable 225 = .ok (.iconst 0, 1) := by decide +kernel
theorem dX12_readsTable_226 : decode cX12_readsTable 226 = .ok (.ireturn, 1) := by decide +kernel
theorem mw_525 : Cond.code yX12_endsReading cX12_endsReading 4 (some .boolean) ∈ wsL_law := List.mem_of_getElem? (i := 525) (by decide +kernel)
theorem dX12_endsReading_0 : decode cX12_endsReading 0 = .ok (.aload_n 0, 1) := by decide +kernel
theorem dX12_endsReading_1 : decode cX12_endsReading 1 = .ok (.iconst (-1), 1) := by decide +kernel
theorem dX12_endsReading_2 : decode cX12_endsReading 2 = .ok (.putfield 277, 3) := by decide +kernel
theorem mw_526 : Cond.fieldLink RX12 277 "TypedTablesModel" "faultLine" "I" ∈ wsL_law := List.mem_of_getElem? (i := 526) (by decide +kernel)
theorem dX12_endsReading_5 : decode cX12_endsReading 5 = .ok (.aload_n 0, 1) := by decide +kernel
theorem dX12_endsReading_6 : decode cX12_endsReading 6 = .ok (.iconst (-1), 1) := by decide +kernel
theorem dX12_endsReading_7 : decode cX12_endsReading 7 = .ok (.putfield 280, 3) := by decide +kernel
theorem mw_527 : Cond.fieldLink RX12 280 "TypedTablesModel" "faultColumn" "I" ∈ wsL_law := List.mem_of_getElem? (i := 527) (by decide +kernel)
theorem dX12_endsReading_10 : decode cX12_endsReading 10 = .ok (.iload_n 1, 1) := by decide +kernel
theorem dX12_endsReading_11 : decode cX12_endsReading 11 = .ok (.ifCond .ne 92, 3) := by decide +kernel
theorem dX12_endsReading_14 : decode cX12_endsReading 14 = .ok (.aload_n 0, 1) := by decide +kernel
theorem dX12_endsReading_15 : decode cX12_endsReading 15 = .ok (.dup, 1) := by decide +kernel
theorem dX12_endsReading_16 : decode cX12_endsReading 16 = .ok (.getfield 283, 3) := by decide +kernel
theorem dX12_endsReading_19 : decode cX12_endsReading 19 = .ok (.iconst 1, 1) := by decide +kernel
theorem dX12_endsReading_20 : decode cX12_endsReading 20 = .ok (.iadd, 1) := by decide +kernel
theorem dX12_endsReading_21 : decode cX12_endsReading 21 = .ok (.putfield 283, 3) := by decide +kernel
theorem dX12_endsReading_24 : decode cX12_endsReading 24 = .ok (.aload_n 0, 1) := by decide +kernel
theorem dX12_endsReading_25 : decode cX12_endsReading 25 = .ok (.iconst 0, 1) := by decide +kernel
theorem dX12_endsReading_26 : decode cX12_endsReading 26 = .ok (.putfield 277, 3) := by decide +kernel
theorem dX12_endsReading_29 : decode cX12_endsReading 29 = .ok (.aload_n 0, 1) := by decide +kernel
theorem dX12_endsReading_30 : decode cX12_endsReading 30 = .ok (.iconst 0, 1) := by decide +kernel
theorem dX12_endsReading_31 : decode cX12_endsReading 31 = .ok (.putfield 280, 3) := by decide +kernel
theorem dX12_endsReading_34 : decode cX12_endsReading 34 = .ok (.iconst 0, 1) := by decide +kernel
theorem dX12_endsReading_35 : decode cX12_endsReading 35 = .ok (.istore_n 2, 1) := by decide +kernel
theorem dX12_endsReading_36 : decode cX12_endsReading 36 = .ok (.iload_n 2, 1) := by decide +kernel
theorem dX12_endsReading_37 : decode cX12_endsReading 37 = .ok (.aload_n 0, 1) := by decide +kernel
theorem dX12_endsReading_38 : decode cX12_endsReading 38 = .ok (.getfield 23, 3) := by decide +kernel
theorem dX12_endsReading_41 : decode cX12_endsReading 41 = .ok (.if_icmp .ge 62, 3) := by decide +kernel
theorem dX12_endsReading_103 : decode cX12_endsReading 103 = .ok (.aload_n 0, 1) := by decide +kernel
theorem dX12_endsReading_104 : decode cX12_endsReading 104 = .ok (.iconst 0, 1) := by decide +kernel
theorem dX12_endsReading_105 : decode cX12_endsReading 105 = .ok (.putfield 83, 3) := by decide +kernel
theorem dX12_endsReading_108 : decode cX12_endsReading 108 = .ok (.iload_n 1, 1) := by decide +kernel
theorem dX12_endsReading_109 : decode cX12_endsReading 109 = .ok (.ireturn, 1) := by decide +kernel
theorem mw_412 : Cond.code yX12_read cX12_read 3 (some .int) ∈ wsL_law := List.mem_of_getElem? (i := 412) (by decide +kernel)
theorem dX12_read_0 : decode cX12_read 0 = .ok (.iload_n 1, 1) := by decide +kernel
theorem dX12_read_1 : decode cX12_read 1 = .ok (.i2l, 1) := by decide +kernel
theorem dX12_read_2 : decode cX12_read 2 = .ok (.lconst 0, 1) := by decide +kernel
theorem dX12_read_3 : decode cX12_read 3 = .ok (.ldc2_w 60, 3) := by decide +kernel
theorem dX12_read_6 : decode cX12_read 6 = .ok (.invokestatic 62, 3) := by decide +kernel
theorem dX12_read_9 : decode cX12_read 9 = .ok (.ifCond .ne 10, 3) := by decide +kernel
theorem dX12_read_19 : decode cX12_read 19 = .ok (.aload_n 0, 1) := by decide +kernel
theorem dX12_read_20 : decode cX12_read 20 = .ok (.invokevirtual 286, 3) := by decide +kernel
theorem mw_414 : Cond.methodLink RX12 286 yX12_beginsReading ∈ wsL_law := List.mem_of_getElem? (i := 414) (by decide +kernel)
theorem mw_415 : Cond.instanceMethod yX12_beginsReading ∈ wsL_law := List.mem_of_getElem? (i := 415) (by decide +kernel)
theorem mw_416 : Cond.selects RX12 yX12_beginsReading yX12_beginsReading ∈ wsL_law := List.mem_of_getElem? (i := 416) (by decide +kernel)
theorem gV_X12_286 : GoodIn wsL_law (wsV RX12 286 RX12 yX12_beginsReading (wl yX12_beginsReading cX12_beginsReading 1 none)) := g_V mw_414 mw_415 mw_416 mw_5 mw_417
theorem hdV_X12_beginsReading : yX12_beginsReading.cls = RX12 ∧ okD yX12_beginsReading 0 := by decide +kernel
theorem dX12_read_23 : decode cX12_read 23 = .ok (.aload_n 0, 1) := by decide +kernel
theorem dX12_read_24 : decode cX12_read 24 = .ok (.aload_n 0, 1) := by decide +kernel
theorem dX12_read_25 : decode cX12_read 25 = .ok (.invokevirtual 289, 3) := by decide +kernel
theorem mw_419 : Cond.methodLink RX12 289 yX12_readsTable ∈ wsL_law := List.mem_of_getElem? (i := 419) (by decide +kernel)
theorem mw_420 : Cond.instanceMethod yX12_readsTable ∈ wsL_law := List.mem_of_getElem? (i := 420) (by decide +kernel)
theorem mw_421 : Cond.selects RX12 yX12_readsTable yX12_readsTable ∈ wsL_law := List.mem_of_getElem? (i := 421) (by decide +kernel)
theorem gV_X12_289 : GoodIn wsL_law (wsV RX12 289 RX12 yX12_readsTable (wl yX12_readsTable cX12_readsTable 3 (some .boolean))) := g_V mw_419 mw_420 mw_421 mw_5 mw_422
theorem hdV_X12_readsTable : yX12_readsTable.cls = RX12 ∧ okD yX12_readsTable 0 := by decide +kernel
theorem dX12_read_28 : decode cX12_read 28 = .ok (.invokevirtual 292, 3) := by decide +kernel
theorem mw_522 : Cond.methodLink RX12 292 yX12_endsReading ∈ wsL_law := List.mem_of_getElem? (i := 522) (by decide +kernel)
theorem mw_523 : Cond.instanceMethod yX12_endsReading ∈ wsL_law := List.mem_of_getElem? (i := 523) (by decide +kernel)
theorem mw_524 : Cond.selects RX12 yX12_endsReading yX12_endsReading ∈ wsL_law := List.mem_of_getElem? (i := 524) (by decide +kernel)
theorem gV_X12_292 : GoodIn wsL_law (wsV RX12 292 RX12 yX12_endsReading (wl yX12_endsReading cX12_endsReading 4 (some .boolean))) := g_V mw_522 mw_523 mw_524 mw_5 mw_525
theorem hdV_X12_endsReading : yX12_endsReading.cls = RX12 ∧ okD yX12_endsReading 1 := by decide +kernel
theorem dX12_read_31 : decode cX12_read 31 = .ok (.ifCond .ne 5, 3) := by decide +kernel
theorem dX12_read_34 : decode cX12_read 34 = .ok (.iconst (-1), 1) := by decide +kernel
theorem dX12_read_35 : decode cX12_read 35 = .ok (.ireturn, 1) := by decide +kernel
theorem dX12_read_12 : decode cX12_read 12 = .ok (.aload_n 0, 1) := by decide +kernel
theorem dX12_read_13 : decode cX12_read 13 = .ok (.iconst 0, 1) := by decide +kernel
theorem dX12_read_14 : decode cX12_read 14 = .ok (.putfield 83, 3) := by decide +kernel
theorem dX12_read_17 : decode cX12_read 17 = .ok (.iconst (-1), 1) := by decide +kernel
theorem dX12_read_18 : decode cX12_read 18 = .ok (.ireturn, 1) := by decide +kernel
theorem mw_615 : Cond.code yX12_laysTape cX12_laysTape 2 none ∈ wsL_law := List.mem_of_getElem? (i := 615) (by decide +kernel)
theorem dX12_laysTape_0 : decode cX12_laysTape 0 = .ok (.aload_n 0, 1) := by decide +kernel
theorem dX12_laysTape_1 : decode cX12_laysTape 1 = .ok (.getfield 42, 3) := by decide +kernel
theorem dX12_laysTape_4 : decode cX12_laysTape 4 = .ok (.iconst 0, 1) := by decide +kernel
theorem dX12_laysTape_5 : decode cX12_laysTape 5 = .ok (.aload_n 0, 1) := by decide +kernel
theorem dX12_laysTape_6 : decode cX12_laysTape 6 = .ok (.getfield 83, 3) := by decide +kernel
theorem dX12_laysTape_9 : decode cX12_laysTape 9 = .ok (.iastore, 1) := by decide +kernel
theorem dX12_laysTape_10 : decode cX12_laysTape 10 = .ok (.iconst 0, 1) := by decide +kernel
theorem dX12_laysTape_11 : decode cX12_laysTape 11 = .ok (.istore_n 1, 1) := by decide +kernel
theorem dX12_laysTape_12 : decode cX12_laysTape 12 = .ok (.iload_n 1, 1) := by decide +kernel
theorem dX12_laysTape_13 : decode cX12_laysTape 13 = .ok (.aload_n 0, 1) := by decide +kernel
theorem dX12_laysTape_14 : decode cX12_laysTape 14 = .ok (.getfield 83, 3) := by decide +kernel
theorem dX12_laysTape_17 : decode cX12_laysTape 17 = .ok (.if_icmp .ge 23, 3) := by decide +kernel
theorem dX12_laysTape_40 : decode cX12_laysTape 40 = .ok (.aload_n 0, 1) := by decide +kernel
theorem dX12_laysTape_41 : decode cX12_laysTape 41 = .ok (.iconst 0, 1) := by decide +kernel
theorem dX12_laysTape_42 : decode cX12_laysTape 42 = .ok (.putfield 83, 3) := by decide +kernel
theorem dX12_laysTape_45 : decode cX12_laysTape 45 = .ok (.return_, 1) := by decide +kernel
theorem mw_611 : Cond.code yX12_put cX12_put 5 (some .boolean) ∈ wsL_law := List.mem_of_getElem? (i := 611) (by decide +kernel)
theorem dX12_put_0 : decode cX12_put 0 = .ok (.aload_n 0, 1) := by decide +kernel
theorem dX12_put_1 : decode cX12_put 1 = .ok (.invokevirtual 306, 3) := by decide +kernel
theorem mw_612 : Cond.methodLink RX12 306 yX12_laysTape ∈ wsL_law := List.mem_of_getElem? (i := 612) (by decide +kernel)
theorem mw_613 : Cond.instanceMethod yX12_laysTape ∈ wsL_law := List.mem_of_getElem? (i := 613) (by decide +kernel)
theorem mw_614 : Cond.selects RX12 yX12_laysTape yX12_laysTape ∈ wsL_law := List.mem_of_getElem? (i := 614) (by decide +kernel)
theorem gV_X12_306 : GoodIn wsL_law (wsV RX12 306 RX12 yX12_laysTape (wl yX12_laysTape cX12_laysTape 2 none)) := g_V mw_612 mw_613 mw_614 mw_5 mw_615
theorem hdV_X12_laysTape : yX12_laysTape.cls = RX12 ∧ okD yX12_laysTape 0 := by decide +kernel
theorem dX12_put_4 : decode cX12_put 4 = .ok (.aload_n 0, 1) := by decide +kernel
theorem dX12_put_5 : decode cX12_put 5 = .ok (.iload_n 1, 1) := by decide +kernel
theorem dX12_put_6 : decode cX12_put 6 = .ok (.iload_n 2, 1) := by decide +kernel
theorem dX12_put_7 : decode cX12_put 7 = .ok (.invokevirtual 309, 3) := by decide +kernel
theorem dX12_put_10 : decode cX12_put 10 = .ok (.ifCond .eq 33, 3) := by decide +kernel
theorem dX12_put_43 : decode cX12_put 43 = .ok (.iconst 0, 1) := by decide +kernel
theorem dX12_put_44 : decode cX12_put 44 = .ok (.ireturn, 1) := by decide +kernel
theorem mw_731 : Cond.code yX12_name cX12_name 5 (some .boolean) ∈ wsL_law := List.mem_of_getElem? (i := 731) (by decide +kernel)
theorem dX12_name_0 : decode cX12_name 0 = .ok (.aload_n 0, 1) := by decide +kernel
theorem dX12_name_1 : decode cX12_name 1 = .ok (.invokevirtual 306, 3) := by decide +kernel
theorem dX12_name_4 : decode cX12_name 4 = .ok (.aload_n 0, 1) := by decide +kernel
theorem dX12_name_5 : decode cX12_name 5 = .ok (.iload_n 1, 1) := by decide +kernel
theorem dX12_name_6 : decode cX12_name 6 = .ok (.iload_n 2, 1) := by decide +kernel
theorem dX12_name_7 : decode cX12_name 7 = .ok (.invokevirtual 312, 3) := by decide +kernel
theorem dX12_name_10 : decode cX12_name 10 = .ok (.ifCond .eq 14, 3) := by decide +kernel
theorem dX12_name_24 : decode cX12_name 24 = .ok (.iconst 0, 1) := by decide +kernel
theorem dX12_name_25 : decode cX12_name 25 = .ok (.ireturn, 1) := by decide +kernel
theorem mw_1203 : Cond.code yX12_find cX12_find 2 (some .int) ∈ wsL_law := List.mem_of_getElem? (i := 1203) (by decide +kernel)
theorem dX12_find_0 : decode cX12_find 0 = .ok (.aload_n 0, 1) := by decide +kernel
theorem dX12_find_1 : decode cX12_find 1 = .ok (.invokevirtual 306, 3) := by decide +kernel
theorem dX12_find_4 : decode cX12_find 4 = .ok (.aload_n 0, 1) := by decide +kernel
theorem dX12_find_5 : decode cX12_find 5 = .ok (.iload_n 1, 1) := by decide +kernel
theorem dX12_find_6 : decode cX12_find 6 = .ok (.invokevirtual 70, 3) := by decide +kernel
theorem dX12_find_9 : decode cX12_find 9 = .ok (.ifCond .eq 16, 3) := by decide +kernel
theorem dX12_find_25 : decode cX12_find 25 = .ok (.iconst (-1), 1) := by decide +kernel
theorem dX12_find_26 : decode cX12_find 26 = .ok (.ireturn, 1) := by decide +kernel
theorem mw_1027 : Cond.code yX12_narrow cX12_narrow 6 (some .int) ∈ wsL_law := List.mem_of_getElem? (i := 1027) (by decide +kernel)
theorem dX12_narrow_0 : decode cX12_narrow 0 = .ok (.aload_n 0, 1) := by decide +kernel
theorem dX12_narrow_1 : decode cX12_narrow 1 = .ok (.invokevirtual 306, 3) := by decide +kernel
theorem dX12_narrow_4 : decode cX12_narrow 4 = .ok (.aload_n 0, 1) := by decide +kernel
theorem dX12_narrow_5 : decode cX12_narrow 5 = .ok (.iload_n 1, 1) := by decide +kernel
theorem dX12_narrow_6 : decode cX12_narrow 6 = .ok (.iload_n 2, 1) := by decide +kernel
theorem dX12_narrow_7 : decode cX12_narrow 7 = .ok (.invokevirtual 336, 3) := by decide +kernel
theorem dX12_narrow_10 : decode cX12_narrow 10 = .ok (.ifCond .eq 15, 3) := by decide +kernel
theorem dX12_narrow_25 : decode cX12_narrow 25 = .ok (.iconst (-1), 1) := by decide +kernel
theorem dX12_narrow_26 : decode cX12_narrow 26 = .ok (.ireturn, 1) := by decide +kernel
theorem mw_691 : Cond.code yX12_row cX12_row 4 (some .int) ∈ wsL_law := List.mem_of_getElem? (i := 691) (by decide +kernel)
theorem dX12_row_0 : decode cX12_row 0 = .ok (.aload_n 0, 1) := by decide +kernel
theorem dX12_row_1 : decode cX12_row 1 = .ok (.iload_n 1, 1) := by decide +kernel
theorem dX12_row_2 : decode cX12_row 2 = .ok (.invokevirtual 70, 3) := by decide +kernel
theorem dX12_row_5 : decode cX12_row 5 = .ok (.ifCond .ne 10, 3) := by decide +kernel
theorem dX12_row_8 : decode cX12_row 8 = .ok (.aload_n 0, 1) := by decide +kernel
theorem dX12_row_9 : decode cX12_row 9 = .ok (.iconst 0, 1) := by decide +kernel
theorem dX12_row_10 : decode cX12_row 10 = .ok (.putfield 83, 3) := by decide +kernel
theorem dX12_row_13 : decode cX12_row 13 = .ok (.iconst (-1), 1) := by decide +kernel
theorem dX12_row_14 : decode cX12_row 14 = .ok (.ireturn, 1) := by decide +kernel
theorem mw_214 : Cond.code yX12_dialect cX12_dialect 4 (some .boolean) ∈ wsL_law := List.mem_of_getElem? (i := 214) (by decide +kernel)
theorem dX12_dialect_0 : decode cX12_dialect 0 = .ok (.iload_n 1, 1) := by decide +kernel
theorem dX12_dialect_1 : decode cX12_dialect 1 = .ok (.tableswitch 155 0 5 #[39, 72, 93, 93, 111, 124], 39) := by decide +kernel
theorem dX12_dialect_156 : decode cX12_dialect 156 = .ok (.iconst 0, 1) := by decide +kernel
theorem dX12_dialect_157 : decode cX12_dialect 157 = .ok (.istore_n 3, 1) := by decide +kernel
theorem dX12_dialect_158 : decode cX12_dialect 158 = .ok (.iload_n 3, 1) := by decide +kernel
theorem dX12_dialect_159 : decode cX12_dialect 159 = .ok (.ifCond .eq 14, 3) := by decide +kernel
theorem dX12_dialect_173 : decode cX12_dialect 173 = .ok (.iload_n 3, 1) := by decide +kernel
theorem dX12_dialect_174 : decode cX12_dialect 174 = .ok (.ireturn, 1) := by decide +kernel
theorem dX12_dialect_40 : decode cX12_dialect 40 = .ok (.iload_n 2, 1) := by decide +kernel
theorem dX12_dialect_41 : decode cX12_dialect 41 = .ok (.bipush 44, 2) := by decide +kernel
theorem dX12_dialect_43 : decode cX12_dialect 43 = .ok (.if_icmp .eq 21, 3) := by decide +kernel
theorem dX12_dialect_64 : decode cX12_dialect 64 = .ok (.iconst 1, 1) := by decide +kernel
theorem dX12_dialect_65 : decode cX12_dialect 65 = .ok (.goto 4, 3) := by decide +kernel
theorem dX12_dialect_69 : decode cX12_dialect 69 = .ok (.istore_n 3, 1) := by decide +kernel
theorem dX12_dialect_70 : decode cX12_dialect 70 = .ok (.goto 88, 3) := by decide +kernel
theorem dX12_dialect_162 : decode cX12_dialect 162 = .ok (.aload_n 0, 1) := by decide +kernel
theorem dX12_dialect_163 : decode cX12_dialect 163 = .ok (.getfield 9, 3) := by decide +kernel
theorem dX12_dialect_166 : decode cX12_dialect 166 = .ok (.sipush 21369, 3) := by decide +kernel
theorem dX12_dialect_169 : decode cX12_dialect 169 = .ok (.iload_n 1, 1) := by decide +kernel
theorem dX12_dialect_170 : decode cX12_dialect 170 = .ok (.iadd, 1) := by decide +kernel
theorem dX12_dialect_171 : decode cX12_dialect 171 = .ok (.iload_n 2, 1) := by decide +kernel
theorem dX12_dialect_172 : decode cX12_dialect 172 = .ok (.iastore, 1) := by decide +kernel
theorem dX12_dialect_46 : decode cX12_dialect 46 = .ok (.iload_n 2, 1) := by decide +kernel
theorem dX12_dialect_47 : decode cX12_dialect 47 = .ok (.bipush 59, 2) := by decide +kernel
theorem dX12_dialect_49 : decode cX12_dialect 49 = .ok (.if_icmp .eq 15, 3) := by decide +kernel
theorem dX12_dialect_52 : decode cX12_dialect 52 = .ok (.iload_n 2, 1) := by decide +kernel
theorem dX12_dialect_53 : decode cX12_dialect 53 = .ok (.bipush 124, 2) := by decide +kernel
theorem dX12_dialect_55 : decode cX12_dialect 55 = .ok (.if_icmp .eq 9, 3) := by decide +kernel
theorem dX12_dialect_58 : decode cX12_dialect 58 = .ok (.iload_n 2, 1) := by decide +kernel
theorem dX12_dialect_59 : decode cX12_dialect 59 = .ok (.bipush 9, 2) := by decide +kernel
theorem dX12_dialect_61 : decode cX12_dialect 61 = .ok (.if_icmp .ne 7, 3) := by decide +kernel
theorem dX12_dialect_68 : decode cX12_dialect 68 = .ok (.iconst 0, 1) := by decide +kernel
theorem dX12_dialect_73 : decode cX12_dialect 73 = .ok (.iload_n 2, 1) := by decide +kernel
theorem dX12_dialect_74 : decode cX12_dialect 74 = .ok (.bipush 34, 2) := by decide +kernel
theorem dX12_dialect_76 : decode cX12_dialect 76 = .ok (.if_icmp .eq 9, 3) := by decide +kernel
theorem dX12_dialect_85 : decode cX12_dialect 85 = .ok (.iconst 1, 1) := by decide +kernel
theorem dX12_dialect_86 : decode cX12_dialect 86 = .ok (.goto 4, 3) := by decide +kernel
theorem dX12_dialect_90 : decode cX12_dialect 90 = .ok (.istore_n 3, 1) := by decide +kernel
theorem dX12_dialect_91 : decode cX12_dialect 91 = .ok (.goto 67, 3) := by decide +kernel
theorem dX12_dialect_79 : decode cX12_dialect 79 = .ok (.iload_n 2, 1) := by decide +kernel
theorem dX12_dialect_80 : decode cX12_dialect 80 = .ok (.bipush 39, 2) := by decide +kernel
theorem dX12_dialect_82 : decode cX12_dialect 82 = .ok (.if_icmp .ne 7, 3) := by decide +kernel
theorem dX12_dialect_89 : decode cX12_dialect 89 = .ok (.iconst 0, 1) := by decide +kernel
theorem dX12_dialect_94 : decode cX12_dialect 94 = .ok (.iload_n 2, 1) := by decide +kernel
theorem dX12_dialect_95 : decode cX12_dialect 95 = .ok (.ifCond .eq 8, 3) := by decide +kernel
theorem dX12_dialect_103 : decode cX12_dialect 103 = .ok (.iconst 1, 1) := by decide +kernel
theorem dX12_dialect_104 : decode cX12_dialect 104 = .ok (.goto 4, 3) := by decide +kernel
theorem dX12_dialect_108 : decode cX12_dialect 108 = .ok (.istore_n 3, 1) := by decide +kernel
theorem dX12_dialect_109 : decode cX12_dialect 109 = .ok (.goto 49, 3) := by decide +kernel
theorem dX12_dialect_98 : decode cX12_dialect 98 = .ok (.iload_n 2, 1) := by decide +kernel
theorem dX12_dialect_99 : decode cX12_dialect 99 = .ok (.iconst 1, 1) := by decide +kernel
theorem dX12_dialect_100 : decode cX12_dialect 100 = .ok (.if_icmp .ne 7, 3) := by decide +kernel
theorem dX12_dialect_107 : decode cX12_dialect 107 = .ok (.iconst 0, 1) := by decide +kernel
theorem dX12_dialect_112 : decode cX12_dialect 112 = .ok (.iload_n 2, 1) := by decide +kernel
theorem dX12_dialect_113 : decode cX12_dialect 113 = .ok (.i2l, 1) := by decide +kernel
theorem dX12_dialect_114 : decode cX12_dialect 114 = .ok (.lconst 0, 1) := by decide +kernel
theorem dX12_dialect_115 : decode cX12_dialect 115 = .ok (.ldc2_w 81, 3) := by decide +kernel
theorem mw_215 : Cond.constantLong RX12 81 (3) ∈ wsL_law := List.mem_of_getElem? (i := 215) (by decide +kernel)
theorem dX12_dialect_118 : decode cX12_dialect 118 = .ok (.invokestatic 62, 3) := by decide +kernel
theorem dX12_dialect_121 : decode cX12_dialect 121 = .ok (.istore_n 3, 1) := by decide +kernel
theorem dX12_dialect_122 : decode cX12_dialect 122 = .ok (.goto 36, 3) := by decide +kernel
theorem dX12_dialect_125 : decode cX12_dialect 125 = .ok (.iload_n 2, 1) := by decide +kernel
theorem dX12_dialect_126 : decode cX12_dialect 126 = .ok (.ifCond .eq 21, 3) := by decide +kernel
theorem dX12_dialect_147 : decode cX12_dialect 147 = .ok (.iconst 1, 1) := by decide +kernel
theorem dX12_dialect_148 : decode cX12_dialect 148 = .ok (.goto 4, 3) := by decide +kernel
theorem dX12_dialect_152 : decode cX12_dialect 152 = .ok (.istore_n 3, 1) := by decide +kernel
theorem dX12_dialect_153 : decode cX12_dialect 153 = .ok (.goto 5, 3) := by decide +kernel
theorem dX12_dialect_129 : decode cX12_dialect 129 = .ok (.iload_n 2, 1) := by decide +kernel
theorem dX12_dialect_130 : decode cX12_dialect 130 = .ok (.bipush 35, 2) := by decide +kernel
theorem dX12_dialect_132 : decode cX12_dialect 132 = .ok (.if_icmp .eq 15, 3) := by decide +kernel
theorem dX12_dialect_135 : decode cX12_dialect 135 = .ok (.iload_n 2, 1) := by decide +kernel
theorem dX12_dialect_136 : decode cX12_dialect 136 = .ok (.bipush 37, 2) := by decide +kernel
theorem dX12_dialect_138 : decode cX12_dialect 138 = .ok (.if_icmp .eq 9, 3) := by decide +kernel
theorem dX12_dialect_141 : decode cX12_dialect 141 = .ok (.iload_n 2, 1) := by decide +kernel
theorem dX12_dialect_142 : decode cX12_dialect 142 = .ok (.bipush 42, 2) := by decide +kernel
theorem dX12_dialect_144 : decode cX12_dialect 144 = .ok (.if_icmp .ne 7, 3) := by decide +kernel
theorem dX12_dialect_151 : decode cX12_dialect 151 = .ok (.iconst 0, 1) := by decide +kernel
theorem mw_1482 : Cond.code yX12_image cX12_image 3 (some .boolean) ∈ wsL_law := List.mem_of_getElem? (i := 1482) (by decide +kernel)
theorem dX12_image_0 : decode cX12_image 0 = .ok (.iload_n 1, 1) := by decide +kernel
theorem dX12_image_1 : decode cX12_image 1 = .ok (.ifCond .ne 12, 3) := by decide +kernel
theorem dX12_image_13 : decode cX12_image 13 = .ok (.iconst 0, 1) := by decide +kernel
theorem dX12_image_14 : decode cX12_image 14 = .ok (.istore_n 2, 1) := by decide +kernel
theorem dX12_image_15 : decode cX12_image 15 = .ok (.iload_n 2, 1) := by decide +kernel
theorem dX12_image_16 : decode cX12_image 16 = .ok (.sipush 21375, 3) := by decide +kernel
theorem dX12_image_19 : decode cX12_image 19 = .ok (.if_icmp .ge 40, 3) := by decide +kernel
theorem dX12_image_22 : decode cX12_image 22 = .ok (.iload_n 1, 1) := by decide +kernel
theorem dX12_image_23 : decode cX12_image 23 = .ok (.ifCond .eq 18, 3) := by decide +kernel
theorem dX12_image_26 : decode cX12_image 26 = .ok (.aload_n 0, 1) := by decide +kernel
theorem dX12_image_27 : decode cX12_image 27 = .ok (.getfield 13, 3) := by decide +kernel
theorem dX12_image_30 : decode cX12_image 30 = .ok (.iload_n 2, 1) := by decide +kernel
theorem dX12_image_31 : decode cX12_image 31 = .ok (.aload_n 0, 1) := by decide +kernel
theorem dX12_image_32 : decode cX12_image 32 = .ok (.getfield 9, 3) := by decide +kernel
theorem dX12_image_35 : decode cX12_image 35 = .ok (.iload_n 2, 1) := by decide +kernel
theorem dX12_image_36 : decode cX12_image 36 = .ok (.iaload, 1) := by decide +kernel
theorem dX12_image_37 : decode cX12_image 37 = .ok (.iastore, 1) := by decide +kernel
theorem dX12_image_38 : decode cX12_image 38 = .ok (.goto 15, 3) := by decide +kernel
theorem dX12_image_53 : decode cX12_image 53 = .ok (.iinc 2 1, 3) := by decide +kernel
theorem dX12_image_56 : decode cX12_image 56 = .ok (.goto (-41), 3) := by decide +kernel
theorem dX12_image_59 : decode cX12_image 59 = .ok (.iload_n 1, 1) := by decide +kernel
theorem dX12_image_60 : decode cX12_image 60 = .ok (.ifCond .ne 8, 3) := by decide +kernel
theorem dX12_image_68 : decode cX12_image 68 = .ok (.aload_n 0, 1) := by decide +kernel
theorem dX12_image_69 : decode cX12_image 69 = .ok (.iconst 1, 1) := by decide +kernel
theorem dX12_image_70 : decode cX12_image 70 = .ok (.putfield 452, 3) := by decide +kernel
theorem mw_1483 : Cond.fieldLink RX12 452 "TypedTablesModel" "hasImage" "Z" ∈ wsL_law := List.mem_of_getElem? (i := 1483) (by decide +kernel)
theorem dX12_image_73 : decode cX12_image 73 = .ok (.iconst 1, 1) := by decide +kernel
theorem dX12_image_74 : decode cX12_image 74 = .ok (.ireturn, 1) := by decide +kernel
theorem dX12_image_4 : decode cX12_image 4 = .ok (.aload_n 0, 1) := by decide +kernel
theorem dX12_image_5 : decode cX12_image 5 = .ok (.getfield 452, 3) := by decide +kernel
theorem dX12_image_8 : decode cX12_image 8 = .ok (.ifCond .ne 5, 3) := by decide +kernel
theorem dX12_image_11 : decode cX12_image 11 = .ok (.iconst 0, 1) := by decide +kernel
theorem dX12_image_12 : decode cX12_image 12 = .ok (.ireturn, 1) := by decide +kernel
set_option maxHeartbeats 4000000 in
set_option maxRecDepth 100000 in
theorem c_X12_sign (l : Launch) (D : va_G) (κ : Nat → ClassId) (m0 : Nat) (a0 : Nat) (a1 : Nat) (a2 : Nat) (a5 : Nat) (a14 : Nat) (a15 : Nat) (a16 : Nat) (a17 : Nat) (a20 : Nat) (a21 : Nat) (a23 : Nat) (a24 : Nat) (a25 : Nat) (a28 : Nat) (za : Int32) : Cr l yX12_sign (wl yX12_sign cX12_sign 2 (some .int)) { frames := 1, cells := 0, slots := 0, locals := 25 } D κ [.ref m0, .int za] (va_P D vwCl [(m0, .inr (12, [.ref a0, .ref a1, .ref a2, .int 0, .int 0, .ref a5, .int 0, .int 0, .int (-1), .int (-1), .int 0, .int 0, .int 0, .int 0, .ref a14, .ref a15, .ref a16, .ref a17, .int 0, .int 0, .ref a20, .ref a21, .int 0, .ref a23, .ref a24, .ref a25, .int 0, .int 0, .ref a28, .int 0])), (a25, .inl (κ 0, 6000, .inl (fun _ => 0)))]) (fun _ : Unit => some (.int (-1))) (fun _ : Unit => True) := by
  refine cr_of (by decide +kernel) (Nat.le_of_ble_eq_true rfl) ?_
  intro p e s m args below meth c ls hx hb hr hml hts hown hlk hKK hK hI hl
  have hP : va_P D vwCl [(m0, .inr (12, [.ref a0, .ref a1, .ref a2, .int 0, .int 0, .ref a5, .int 0, .int 0, .int (-1), .int (-1), .int 0, .int 0, .int 0, .int 0, .ref a14, .ref a15, .ref a16, .ref a17, .int 0, .int 0, .ref a20, .ref a21, .int 0, .ref a23, .ref a24, .ref a25, .int 0, .int 0, .ref a28, .int 0])), (a25, .inl (κ 0, 6000, .inl (fun _ => 0)))] s.heap := hI
  have hFX : FX p s m args c cX12_sign 2 RX12 := ⟨hx, hb, hml, hown, hts⟩
  have hl : lv_has ls 2 [(0, .ref m0), (1, .int za)] := hl
  refine lv_iload_n hx hb dX12_sign_0 rfl (lv_at hl 1 rfl) ?_
  refine lv_i2l (v := za.toInt64) hx hb dX12_sign_1 rfl ?_
  refine lv_lconst (v := 0) hx hb dX12_sign_2 (by decide) ?_
  refine lv_aload_n hx hb dX12_sign_3 rfl (lv_at hl 0 rfl) ?_
  refine va_get (D := D) (ci := 12) (v := .int 0) (C := RX12) (T := TX12) (N := 30) hx hb hts inlX12 hown hK hP 0 rfl rfl 26 (by decide) (hts _ mw_1446) (fun _ h9 => h9) rfl dX12_sign_4 ?_
  refine lv_iconst (v := 1) hx hb dX12_sign_7 (by decide) ?_
  refine lv_isub hx hb dX12_sign_8 ?_
  refine ki (v := (-1)) (by decide) ?_
  refine lv_i2l (v := (-1)) hx hb dX12_sign_9 (by decide) ?_
  refine cr_S (As := [.long za.toInt64, .long 0, .long (-1)]) (rest := []) hFX hKK (c_X12_isIn l D κ za.toInt64 0 (-1)) 3 gS_X12_62 hdS_X12_isIn rfl rfl ⟨Nat.le_of_ble_eq_true rfl, Nat.le_of_ble_eq_true rfl⟩ rfl rfl (Nat.le_of_ble_eq_true rfl) dX12_sign_10 ⟨Nat.le_of_ble_eq_true rfl, Nat.le_of_ble_eq_true rfl⟩ hl.1 (hP.sub [] rfl) (fun r_1 hp_2 => ?_)
  have hp_2 : (r_1 = 1 ∧ ¬ lg_cmp za.toInt64 (0 : Int64) < 0 ∧ ¬ 0 < lg_cmp za.toInt64 (-1 : Int64)) ∨ (r_1 = 0 ∧ (lg_cmp za.toInt64 (0 : Int64) < 0 ∨ 0 < lg_cmp za.toInt64 (-1 : Int64))) := hp_2
  rcases hp_2 with ⟨rfl, a_3, a_4⟩ | ⟨rfl, a_5⟩
  · refine W.eq (g2 := F0 m 13 ls [.int 1]) rfl ?_
    refine lv_if_eq (tgt := 25) hx hb dX12_sign_13 (by decide) (fun c_6 => absurd c_6 (by decide)) (fun c_6 => ?_)
    exact absurd (in_of (lo := 0) (hi := -1) (a := 0) (b := -1) (by decide) (by decide) (by assumption) (by assumption)) (by omega)
  · refine W.eq (g2 := F0 m 13 ls [.int 0]) rfl ?_
    refine lv_if_eq (tgt := 25) hx hb dX12_sign_13 (by decide) (fun c_7 => ?_) (fun c_7 => absurd (by decide) c_7)
    refine lv_iconst (v := (-1)) hx hb dX12_sign_25 (by decide) ?_
    exact cr_iret hx hb hr hlk rfl () rfl trivial dX12_sign_26
set_option maxHeartbeats 4000000 in
set_option maxRecDepth 100000 in
theorem c_X12_fault (l : Launch) (D : va_G) (κ : Nat → ClassId) (m0 : Nat) (a0 : Nat) (a1 : Nat) (a2 : Nat) (a5 : Nat) (a14 : Nat) (a15 : Nat) (a16 : Nat) (a17 : Nat) (a20 : Nat) (a21 : Nat) (a23 : Nat) (a24 : Nat) (a25 : Nat) (a28 : Nat) (za : Int32) : Cr l yX12_fault (wl yX12_fault cX12_fault 2 (some .int)) { frames := 1, cells := 0, slots := 0, locals := 25 } D κ [.ref m0, .int za] (va_P D vwCl [(m0, .inr (12, [.ref a0, .ref a1, .ref a2, .int 0, .int 0, .ref a5, .int 0, .int 0, .int (-1), .int (-1), .int 0, .int 0, .int 0, .int 0, .ref a14, .ref a15, .ref a16, .ref a17, .int 0, .int 0, .ref a20, .ref a21, .int 0, .ref a23, .ref a24, .ref a25, .int 0, .int 0, .ref a28, .int 0]))]) (fun r : Int32 => some (.int r)) (fun r : Int32 => (r = 0 ∧ za = 0) ∨ (r = (-1) ∧ ¬ za = 0)) := by
  refine cr_of (by decide +kernel) (Nat.le_of_ble_eq_true rfl) ?_
  intro p e s m args below meth c ls hx hb hr hml hts hown hlk hKK hK hI hl
  have hP : va_P D vwCl [(m0, .inr (12, [.ref a0, .ref a1, .ref a2, .int 0, .int 0, .ref a5, .int 0, .int 0, .int (-1), .int (-1), .int 0, .int 0, .int 0, .int 0, .ref a14, .ref a15, .ref a16, .ref a17, .int 0, .int 0, .ref a20, .ref a21, .int 0, .ref a23, .ref a24, .ref a25, .int 0, .int 0, .ref a28, .int 0]))] s.heap := hI
  have hFX : FX p s m args c cX12_fault 2 RX12 := ⟨hx, hb, hml, hown, hts⟩
  have hl : lv_has ls 2 [(0, .ref m0), (1, .int za)] := hl
  refine lv_iload_n hx hb dX12_fault_0 rfl (lv_at hl 1 rfl) ?_
  refine lv_i2l (v := za.toInt64) hx hb dX12_fault_1 rfl ?_
  refine lv_lconst (v := 0) hx hb dX12_fault_2 (by decide) ?_
  refine lv_ldc2 hx hb hown (hts _ mw_554) dX12_fault_3 ?_
  refine cr_S (As := [.long za.toInt64, .long 0, .long 4]) (rest := []) hFX hKK (c_X12_isIn l D κ za.toInt64 0 4) 3 gS_X12_62 hdS_X12_isIn rfl rfl ⟨Nat.le_of_ble_eq_true rfl, Nat.le_of_ble_eq_true rfl⟩ rfl rfl (Nat.le_of_ble_eq_true rfl) dX12_fault_6 ⟨Nat.le_of_ble_eq_true rfl, Nat.le_of_ble_eq_true rfl⟩ hl.1 (hP.sub [] rfl) (fun r_1 hp_2 => ?_)
  have hp_2 : (r_1 = 1 ∧ ¬ lg_cmp za.toInt64 (0 : Int64) < 0 ∧ ¬ 0 < lg_cmp za.toInt64 (4 : Int64)) ∨ (r_1 = 0 ∧ (lg_cmp za.toInt64 (0 : Int64) < 0 ∨ 0 < lg_cmp za.toInt64 (4 : Int64))) := hp_2
  rcases hp_2 with ⟨rfl, a_3, a_4⟩ | ⟨rfl, a_5⟩
  · refine W.eq (g2 := F0 m 9 ls [.int 1]) rfl ?_
    refine lv_if_ne (tgt := 14) hx hb dX12_fault_9 (by decide) (fun c_6 => ?_) (fun c_6 => absurd c_6 (by decide))
    refine lv_iload_n hx hb dX12_fault_14 rfl (lv_at hl 1 rfl) ?_
    refine lv_if_ne (tgt := 23) hx hb dX12_fault_15 (by decide) (fun c_7 => ?_) (fun c_7 => ?_)
    · refine lv_aload_n hx hb dX12_fault_23 rfl (lv_at hl 0 rfl) ?_
      refine va_get (D := D) (ci := 12) (v := .int 0) (C := RX12) (T := TX12) (N := 30) hx hb hts inlX12 hown hK hP 0 rfl rfl 7 (by decide) (hts _ mw_418) (fun _ h9 => h9) rfl dX12_fault_24 ?_
      refine lv_if_ne (tgt := 32) hx hb dX12_fault_27 (by decide) (fun c_8 => absurd (by decide) c_8) (fun c_8 => ?_)
      refine lv_iconst (v := (-1)) hx hb dX12_fault_30 (by decide) ?_
      exact cr_iret hx hb hr hlk rfl (-1) rfl (by first | exact Or.inr ((⟨rfl, (by first | assumption | exact Or.inl (by assumption) | exact Or.inr (by assumption) | exact out_ne (by assumption) (by decide) (by decide) | exact out_ne (in_no (lo := 0) (hi := 4) (a := 0) (b := 4) (by decide) (by decide) (by assumption)) (by decide) (by decide) | (simp_all; done))⟩))) dX12_fault_31
    · refine lv_aload_n hx hb dX12_fault_18 rfl (lv_at hl 0 rfl) ?_
      refine va_get (D := D) (ci := 12) (v := .int 0) (C := RX12) (T := TX12) (N := 30) hx hb hts inlX12 hown hK hP 0 rfl rfl 7 (by decide) (hts _ mw_418) (fun _ h9 => h9) rfl dX12_fault_19 ?_
      exact cr_iret hx hb hr hlk rfl 0 rfl (by first | exact Or.inl (⟨rfl, (by first | assumption | exact Or.inl (by assumption) | exact Or.inr (by assumption) | exact out_ne (by assumption) (by decide) (by decide) | exact out_ne (in_no (lo := 0) (hi := 4) (a := 0) (b := 4) (by decide) (by decide) (by assumption)) (by decide) (by decide) | (simp_all; done))⟩)) dX12_fault_22
  · refine W.eq (g2 := F0 m 9 ls [.int 0]) rfl ?_
    refine lv_if_ne (tgt := 14) hx hb dX12_fault_9 (by decide) (fun c_9 => absurd (by decide) c_9) (fun c_9 => ?_)
    refine lv_iconst (v := (-1)) hx hb dX12_fault_12 (by decide) ?_
    exact cr_iret hx hb hr hlk rfl (-1) rfl (by first | exact Or.inr ((⟨rfl, (by first | assumption | exact Or.inl (by assumption) | exact Or.inr (by assumption) | exact out_ne (by assumption) (by decide) (by decide) | exact out_ne (in_no (lo := 0) (hi := 4) (a := 0) (b := 4) (by decide) (by decide) (by assumption)) (by decide) (by decide) | (simp_all; done))⟩))) dX12_fault_13
set_option maxHeartbeats 4000000 in
set_option maxRecDepth 100000 in
theorem c_X12_look (l : Launch) (D : va_G) (κ : Nat → ClassId) (m0 : Nat) (a0 : Nat) (a1 : Nat) (a2 : Nat) (a5 : Nat) (a14 : Nat) (a15 : Nat) (a16 : Nat) (a17 : Nat) (a20 : Nat) (a21 : Nat) (a23 : Nat) (a24 : Nat) (a25 : Nat) (a28 : Nat) (za : Int32) : Cr l yX12_look (wl yX12_look cX12_look 4 (some .int)) { frames := 1, cells := 0, slots := 0, locals := 25 } D κ [.ref m0, .int za] (va_P D vwCl [(m0, .inr (12, [.ref a0, .ref a1, .ref a2, .int 0, .int 0, .ref a5, .int 0, .int 0, .int (-1), .int (-1), .int 0, .int 0, .int 0, .int 0, .ref a14, .ref a15, .ref a16, .ref a17, .int 0, .int 0, .ref a20, .ref a21, .int 0, .ref a23, .ref a24, .ref a25, .int 0, .int 0, .ref a28, .int 0])), (a0, .inl (κ 0, 21375, .inl wf0))]) (fun r : Int32 => some (.int r)) (fun r : Int32 => r = lookF za) := by
  refine cr_of (by decide +kernel) (Nat.le_of_ble_eq_true rfl) ?_
  intro p e s m args below meth c ls hx hb hr hml hts hown hlk hKK hK hI hl
  have hP : va_P D vwCl [(m0, .inr (12, [.ref a0, .ref a1, .ref a2, .int 0, .int 0, .ref a5, .int 0, .int 0, .int (-1), .int (-1), .int 0, .int 0, .int 0, .int 0, .ref a14, .ref a15, .ref a16, .ref a17, .int 0, .int 0, .ref a20, .ref a21, .int 0, .ref a23, .ref a24, .ref a25, .int 0, .int 0, .ref a28, .int 0])), (a0, .inl (κ 0, 21375, .inl wf0))] s.heap := hI
  have hFX : FX p s m args c cX12_look 4 RX12 := ⟨hx, hb, hml, hown, hts⟩
  have hl : lv_has ls 4 [(0, .ref m0), (1, .int za)] := hl
  refine lv_iload_n hx hb dX12_look_0 rfl (lv_at hl 1 rfl) ?_
  refine lv_i2l (v := za.toInt64) hx hb dX12_look_1 rfl ?_
  refine lv_lconst (v := 0) hx hb dX12_look_2 (by decide) ?_
  refine lv_ldc2 hx hb hown (hts _ mw_772) dX12_look_3 ?_
  refine cr_S (As := [.long za.toInt64, .long 0, .long 5]) (rest := []) hFX hKK (c_X12_isIn l D κ za.toInt64 0 5) 3 gS_X12_62 hdS_X12_isIn rfl rfl ⟨Nat.le_of_ble_eq_true rfl, Nat.le_of_ble_eq_true rfl⟩ rfl rfl (Nat.le_of_ble_eq_true rfl) dX12_look_6 ⟨Nat.le_of_ble_eq_true rfl, Nat.le_of_ble_eq_true rfl⟩ hl.1 (hP.sub [] rfl) (fun r_1 hp_2 => ?_)
  have hp_2 : (r_1 = 1 ∧ ¬ lg_cmp za.toInt64 (0 : Int64) < 0 ∧ ¬ 0 < lg_cmp za.toInt64 (5 : Int64)) ∨ (r_1 = 0 ∧ (lg_cmp za.toInt64 (0 : Int64) < 0 ∨ 0 < lg_cmp za.toInt64 (5 : Int64))) := hp_2
  rcases hp_2 with ⟨rfl, a_3, a_4⟩ | ⟨rfl, a_5⟩
  · refine W.eq (g2 := F0 m 9 ls [.int 1]) rfl ?_
    refine lv_if_eq (tgt := 23) hx hb dX12_look_9 (by decide) (fun c_6 => absurd c_6 (by decide)) (fun c_6 => ?_)
    refine lv_aload_n hx hb dX12_look_12 rfl (lv_at hl 0 rfl) ?_
    refine va_get (D := D) (ci := 12) (v := .ref a0) (C := RX12) (T := TX12) (N := 30) hx hb hts inlX12 hown hK hP 0 rfl rfl 0 (by decide) (hts _ mw_187) (fun _ h9 => h9) rfl dX12_look_13 ?_
    refine lv_sipush (v := 21369) hx hb dX12_look_16 (by decide) ?_
    refine lv_iload_n hx hb dX12_look_19 rfl (lv_at hl 1 rfl) ?_
    refine lv_iadd hx hb dX12_look_20 ?_
    refine lv_topi (fun x_7 ex_7 => ?_)
    refine va_iald hx hb hK hP 1 0 rfl rfl (i := x_7) (look_i (by assumption) (by assumption) ex_7) dX12_look_21 ?_
    refine lv_topi (fun x_8 ex_8 => ?_)
    exact cr_iret hx hb hr hlk rfl x_8 rfl (ex_8.trans (look_m (by assumption) (by assumption) ex_7)) dX12_look_22
  · refine W.eq (g2 := F0 m 9 ls [.int 0]) rfl ?_
    refine lv_if_eq (tgt := 23) hx hb dX12_look_9 (by decide) (fun c_9 => ?_) (fun c_9 => absurd (by decide) c_9)
    refine lv_iconst (v := 0) hx hb dX12_look_23 (by decide) ?_
    refine lv_istore_n (lv' := [(2, .int 0), (0, .ref m0), (1, .int za)]) hx hb dX12_look_24 rfl hl (by decide) rfl (fun ls hl => ?_)
    refine lv_iload_n hx hb dX12_look_25 rfl (lv_at hl 2 rfl) ?_
    rcases Classical.em (za.toInt < 6 ∨ 10 < za.toInt) with c_10 | c_10
    · refine lv_tableOut (tgt := 144) hx hb dX12_look_26 c_10 (by decide) ?_
      refine lv_iconst (v := (-1)) hx hb dX12_look_144 (by decide) ?_
      exact cr_iret hx hb hr hlk rfl (-1) rfl (look_o2 c_10 (in_no (lo := 0) (hi := 5) (a := 0) (b := 5) (by decide) (by decide) (by assumption))).symm dX12_look_145
    · have e_11 : za = 6 ∨ za = 7 ∨ za = 8 ∨ za = 9 ∨ za = 10 := by
        have q1 : ¬ za.toInt < 6 := fun h => c_10 (Or.inl h)
        have q2 : ¬ 10 < za.toInt := fun h => c_10 (Or.inr h)
        have q3 : ∀ v : Int32, za.toInt = v.toInt → za = v := fun v h => Int32.toInt_inj.mp h
        rcases (show za.toInt = 6 ∨ za.toInt = 7 ∨ za.toInt = 8 ∨ za.toInt = 9 ∨ za.toInt = 10 by omega) with h | h | h | h | h
        · exact Or.inl (q3 6 (h.trans (by decide)))
        · exact Or.inr (Or.inl (q3 7 (h.trans (by decide))))
        · exact Or.inr (Or.inr (Or.inl (q3 8 (h.trans (by decide)))))
        · exact Or.inr (Or.inr (Or.inr (Or.inl (q3 9 (h.trans (by decide))))))
        · exact Or.inr (Or.inr (Or.inr (Or.inr ((q3 10 (h.trans (by decide)))))))
      rcases e_11 with e_11 | e_11 | e_11 | e_11 | e_11
      · refine lv_tableIn (tgt := 60) hx hb dX12_look_26 (by rw [e_11]; decide) (by rw [e_11]; decide) (by rw [e_11]; rfl) (by decide) ?_
        refine lv_iconst (v := 0) hx hb dX12_look_60 (by decide) ?_
        refine lv_istore_n (lv' := [(3, .int 0), (2, .int 0), (0, .ref m0), (1, .int za)]) hx hb dX12_look_61 rfl hl (by decide) rfl (fun ls hl => ?_)
        refine lv_iload_n hx hb dX12_look_62 rfl (lv_at hl 0 rfl) ?_
        refine lv_iconst (v := 3) hx hb dX12_look_63 (by decide) ?_
        refine lv_icmp_ge (tgt := 88) hx hb dX12_look_64 (by decide) (fun c_12 => absurd c_12 (by decide)) (fun c_12 => ?_)
        refine lv_iload_n hx hb dX12_look_67 rfl (lv_at hl 1 rfl) ?_
        refine lv_aload_n hx hb dX12_look_68 rfl (lv_at hl 2 rfl) ?_
        refine va_get (D := D) (ci := 12) (v := .ref a0) (C := RX12) (T := TX12) (N := 30) hx hb hts inlX12 hown hK hP 0 rfl rfl 0 (by decide) (hts _ mw_187) (fun _ h9 => h9) rfl dX12_look_69 ?_
        refine lv_iload_n hx hb dX12_look_72 rfl (lv_at hl 0 rfl) ?_
        refine lv_iconst (v := 0) hx hb dX12_look_73 (by decide) ?_
        refine cr_S (As := [.int 0, .int 0]) (rest := [.ref a0, .int 0]) hFX hKK (c_X12_at l D κ 0 0) 2 gS_X12_66 hdS_X12_at rfl rfl ⟨Nat.le_of_ble_eq_true rfl, Nat.le_of_ble_eq_true rfl⟩ rfl rfl (Nat.le_of_ble_eq_true rfl) dX12_look_74 ⟨Nat.le_of_ble_eq_true rfl, Nat.le_of_ble_eq_true rfl⟩ hl.1 (hP.sub [] rfl) (fun r_13 hp_14 => ?_)
        have hp_14 : r_13 = 7123 * (0 : Int32) + (0 : Int32) := hp_14
        obtain rfl : r_13 = 0 := hp_14.trans (by decide)
        refine W.eq (g2 := F0 m 77 ls [.int 0, .ref a0, .int 0]) rfl ?_
        refine va_iald hx hb hK hP 1 0 rfl rfl (i := 0) (vp_k (by decide)) dX12_look_77 ?_
        refine kv (v := .int 0) rfl ?_
        refine lv_iload_n hx hb dX12_look_78 rfl (lv_at hl 0 rfl) ?_
        refine lv_ishl hx hb dX12_look_79 ?_
        refine ki (v := 0) (by decide) ?_
        refine lv_ior hx hb dX12_look_80 ?_
        refine ki (v := 0) (by decide) ?_
        refine lv_istore_n (lv' := [(2, .int 0), (3, .int 0), (0, .ref m0), (1, .int za)]) hx hb dX12_look_81 rfl hl (by decide) rfl (fun ls hl => ?_)
        refine lv_iinc (v := 1) (lv' := [(3, .int 1), (2, .int 0), (0, .ref m0), (1, .int za)]) hx hb dX12_look_82 hl (k := 1) rfl (by decide) (by decide) rfl (fun ls hl => ?_)
        refine lv_goto (tgt := 62) hx hb dX12_look_85 (by decide) ?_
        refine lv_iload_n hx hb dX12_look_62 rfl (lv_at hl 0 rfl) ?_
        refine lv_iconst (v := 3) hx hb dX12_look_63 (by decide) ?_
        refine lv_icmp_ge (tgt := 88) hx hb dX12_look_64 (by decide) (fun c_15 => absurd c_15 (by decide)) (fun c_15 => ?_)
        refine lv_iload_n hx hb dX12_look_67 rfl (lv_at hl 1 rfl) ?_
        refine lv_aload_n hx hb dX12_look_68 rfl (lv_at hl 2 rfl) ?_
        refine va_get (D := D) (ci := 12) (v := .ref a0) (C := RX12) (T := TX12) (N := 30) hx hb hts inlX12 hown hK hP 0 rfl rfl 0 (by decide) (hts _ mw_187) (fun _ h9 => h9) rfl dX12_look_69 ?_
        refine lv_iload_n hx hb dX12_look_72 rfl (lv_at hl 0 rfl) ?_
        refine lv_iconst (v := 0) hx hb dX12_look_73 (by decide) ?_
        refine cr_S (As := [.int 1, .int 0]) (rest := [.ref a0, .int 0]) hFX hKK (c_X12_at l D κ 1 0) 2 gS_X12_66 hdS_X12_at rfl rfl ⟨Nat.le_of_ble_eq_true rfl, Nat.le_of_ble_eq_true rfl⟩ rfl rfl (Nat.le_of_ble_eq_true rfl) dX12_look_74 ⟨Nat.le_of_ble_eq_true rfl, Nat.le_of_ble_eq_true rfl⟩ hl.1 (hP.sub [] rfl) (fun r_16 hp_17 => ?_)
        have hp_17 : r_16 = 7123 * (1 : Int32) + (0 : Int32) := hp_17
        obtain rfl : r_16 = 7123 := hp_17.trans (by decide)
        refine W.eq (g2 := F0 m 77 ls [.int 7123, .ref a0, .int 0]) rfl ?_
        refine va_iald hx hb hK hP 1 0 rfl rfl (i := 7123) (vp_k (by decide)) dX12_look_77 ?_
        refine kv (v := .int 0) rfl ?_
        refine lv_iload_n hx hb dX12_look_78 rfl (lv_at hl 0 rfl) ?_
        refine lv_ishl hx hb dX12_look_79 ?_
        refine ki (v := 0) (by decide) ?_
        refine lv_ior hx hb dX12_look_80 ?_
        refine ki (v := 0) (by decide) ?_
        refine lv_istore_n (lv' := [(2, .int 0), (3, .int 1), (0, .ref m0), (1, .int za)]) hx hb dX12_look_81 rfl hl (by decide) rfl (fun ls hl => ?_)
        refine lv_iinc (v := 2) (lv' := [(3, .int 2), (2, .int 0), (0, .ref m0), (1, .int za)]) hx hb dX12_look_82 hl (k := 1) rfl (by decide) (by decide) rfl (fun ls hl => ?_)
        refine lv_goto (tgt := 62) hx hb dX12_look_85 (by decide) ?_
        refine lv_iload_n hx hb dX12_look_62 rfl (lv_at hl 0 rfl) ?_
        refine lv_iconst (v := 3) hx hb dX12_look_63 (by decide) ?_
        refine lv_icmp_ge (tgt := 88) hx hb dX12_look_64 (by decide) (fun c_18 => absurd c_18 (by decide)) (fun c_18 => ?_)
        refine lv_iload_n hx hb dX12_look_67 rfl (lv_at hl 1 rfl) ?_
        refine lv_aload_n hx hb dX12_look_68 rfl (lv_at hl 2 rfl) ?_
        refine va_get (D := D) (ci := 12) (v := .ref a0) (C := RX12) (T := TX12) (N := 30) hx hb hts inlX12 hown hK hP 0 rfl rfl 0 (by decide) (hts _ mw_187) (fun _ h9 => h9) rfl dX12_look_69 ?_
        refine lv_iload_n hx hb dX12_look_72 rfl (lv_at hl 0 rfl) ?_
        refine lv_iconst (v := 0) hx hb dX12_look_73 (by decide) ?_
        refine cr_S (As := [.int 2, .int 0]) (rest := [.ref a0, .int 0]) hFX hKK (c_X12_at l D κ 2 0) 2 gS_X12_66 hdS_X12_at rfl rfl ⟨Nat.le_of_ble_eq_true rfl, Nat.le_of_ble_eq_true rfl⟩ rfl rfl (Nat.le_of_ble_eq_true rfl) dX12_look_74 ⟨Nat.le_of_ble_eq_true rfl, Nat.le_of_ble_eq_true rfl⟩ hl.1 (hP.sub [] rfl) (fun r_19 hp_20 => ?_)
        have hp_20 : r_19 = 7123 * (2 : Int32) + (0 : Int32) := hp_20
        obtain rfl : r_19 = 14246 := hp_20.trans (by decide)
        refine W.eq (g2 := F0 m 77 ls [.int 14246, .ref a0, .int 0]) rfl ?_
        refine va_iald hx hb hK hP 1 0 rfl rfl (i := 14246) (vp_k (by decide)) dX12_look_77 ?_
        refine kv (v := .int 0) rfl ?_
        refine lv_iload_n hx hb dX12_look_78 rfl (lv_at hl 0 rfl) ?_
        refine lv_ishl hx hb dX12_look_79 ?_
        refine ki (v := 0) (by decide) ?_
        refine lv_ior hx hb dX12_look_80 ?_
        refine ki (v := 0) (by decide) ?_
        refine lv_istore_n (lv' := [(2, .int 0), (3, .int 2), (0, .ref m0), (1, .int za)]) hx hb dX12_look_81 rfl hl (by decide) rfl (fun ls hl => ?_)
        refine lv_iinc (v := 3) (lv' := [(3, .int 3), (2, .int 0), (0, .ref m0), (1, .int za)]) hx hb dX12_look_82 hl (k := 1) rfl (by decide) (by decide) rfl (fun ls hl => ?_)
        refine lv_goto (tgt := 62) hx hb dX12_look_85 (by decide) ?_
        refine lv_iload_n hx hb dX12_look_62 rfl (lv_at hl 0 rfl) ?_
        refine lv_iconst (v := 3) hx hb dX12_look_63 (by decide) ?_
        refine lv_icmp_ge (tgt := 88) hx hb dX12_look_64 (by decide) (fun c_21 => ?_) (fun c_21 => absurd (by decide) c_21)
        refine lv_iload_n hx hb dX12_look_88 rfl (lv_at hl 1 rfl) ?_
        exact cr_iret hx hb hr hlk rfl 0 rfl (by rw [e_11]; decide) dX12_look_89
      · refine lv_tableIn (tgt := 90) hx hb dX12_look_26 (by rw [e_11]; decide) (by rw [e_11]; decide) (by rw [e_11]; rfl) (by decide) ?_
        refine lv_aload_n hx hb dX12_look_90 rfl (lv_at hl 1 rfl) ?_
        refine va_get (D := D) (ci := 12) (v := .int 0) (C := RX12) (T := TX12) (N := 30) hx hb hts inlX12 hown hK hP 0 rfl rfl 3 (by decide) (hts _ mw_533) (fun _ h9 => h9) rfl dX12_look_91 ?_
        exact cr_iret hx hb hr hlk rfl 0 rfl (by rw [e_11]; decide) dX12_look_94
      · refine lv_tableIn (tgt := 95) hx hb dX12_look_26 (by rw [e_11]; decide) (by rw [e_11]; decide) (by rw [e_11]; rfl) (by decide) ?_
        refine lv_aload_n hx hb dX12_look_95 rfl (lv_at hl 1 rfl) ?_
        refine va_get (D := D) (ci := 12) (v := .int 0) (C := RX12) (T := TX12) (N := 30) hx hb hts inlX12 hown hK hP 0 rfl rfl 6 (by decide) (hts _ mw_236) (fun _ h9 => h9) rfl dX12_look_96 ?_
        exact cr_iret hx hb hr hlk rfl 0 rfl (by rw [e_11]; decide) dX12_look_99
      · refine lv_tableIn (tgt := 100) hx hb dX12_look_26 (by rw [e_11]; decide) (by rw [e_11]; decide) (by rw [e_11]; rfl) (by decide) ?_
        refine lv_iconst (v := 0) hx hb dX12_look_100 (by decide) ?_
        refine lv_istore_n (lv' := [(3, .int 0), (2, .int 0), (0, .ref m0), (1, .int za)]) hx hb dX12_look_101 rfl hl (by decide) rfl (fun ls hl => ?_)
        refine lv_iload_n hx hb dX12_look_102 rfl (lv_at hl 0 rfl) ?_
        refine lv_iconst (v := 3) hx hb dX12_look_103 (by decide) ?_
        refine lv_icmp_ge (tgt := 137) hx hb dX12_look_104 (by decide) (fun c_22 => absurd c_22 (by decide)) (fun c_22 => ?_)
        refine lv_iload_n hx hb dX12_look_107 rfl (lv_at hl 1 rfl) ?_
        refine lv_aload_n hx hb dX12_look_108 rfl (lv_at hl 2 rfl) ?_
        refine va_get (D := D) (ci := 12) (v := .ref a0) (C := RX12) (T := TX12) (N := 30) hx hb hts inlX12 hown hK hP 0 rfl rfl 0 (by decide) (hts _ mw_187) (fun _ h9 => h9) rfl dX12_look_109 ?_
        refine lv_iload_n hx hb dX12_look_112 rfl (lv_at hl 0 rfl) ?_
        refine lv_iconst (v := 1) hx hb dX12_look_113 (by decide) ?_
        refine cr_S (As := [.int 0, .int 1]) (rest := [.ref a0, .int 0]) hFX hKK (c_X12_at l D κ 0 1) 2 gS_X12_66 hdS_X12_at rfl rfl ⟨Nat.le_of_ble_eq_true rfl, Nat.le_of_ble_eq_true rfl⟩ rfl rfl (Nat.le_of_ble_eq_true rfl) dX12_look_114 ⟨Nat.le_of_ble_eq_true rfl, Nat.le_of_ble_eq_true rfl⟩ hl.1 (hP.sub [] rfl) (fun r_23 hp_24 => ?_)
        have hp_24 : r_23 = 7123 * (0 : Int32) + (1 : Int32) := hp_24
        obtain rfl : r_23 = 1 := hp_24.trans (by decide)
        refine W.eq (g2 := F0 m 117 ls [.int 1, .ref a0, .int 0]) rfl ?_
        refine va_iald hx hb hK hP 1 0 rfl rfl (i := 1) (vp_k (by decide)) dX12_look_117 ?_
        refine kv (v := .int 0) rfl ?_
        refine lv_aload_n hx hb dX12_look_118 rfl (lv_at hl 2 rfl) ?_
        refine va_get (D := D) (ci := 12) (v := .ref a0) (C := RX12) (T := TX12) (N := 30) hx hb hts inlX12 hown hK hP 0 rfl rfl 0 (by decide) (hts _ mw_187) (fun _ h9 => h9) rfl dX12_look_119 ?_
        refine lv_iload_n hx hb dX12_look_122 rfl (lv_at hl 0 rfl) ?_
        refine lv_iconst (v := 2) hx hb dX12_look_123 (by decide) ?_
        refine cr_S (As := [.int 0, .int 2]) (rest := [.ref a0, .int 0, .int 0]) hFX hKK (c_X12_at l D κ 0 2) 2 gS_X12_66 hdS_X12_at rfl rfl ⟨Nat.le_of_ble_eq_true rfl, Nat.le_of_ble_eq_true rfl⟩ rfl rfl (Nat.le_of_ble_eq_true rfl) dX12_look_124 ⟨Nat.le_of_ble_eq_true rfl, Nat.le_of_ble_eq_true rfl⟩ hl.1 (hP.sub [] rfl) (fun r_25 hp_26 => ?_)
        have hp_26 : r_25 = 7123 * (0 : Int32) + (2 : Int32) := hp_26
        obtain rfl : r_25 = 2 := hp_26.trans (by decide)
        refine W.eq (g2 := F0 m 127 ls [.int 2, .ref a0, .int 0, .int 0]) rfl ?_
        refine va_iald hx hb hK hP 1 0 rfl rfl (i := 2) (vp_k (by decide)) dX12_look_127 ?_
        refine kv (v := .int 0) rfl ?_
        refine lv_imul hx hb dX12_look_128 ?_
        refine ki (v := 0) (by decide) ?_
        refine lv_iadd hx hb dX12_look_129 ?_
        refine ki (v := 0) (by decide) ?_
        refine lv_istore_n (lv' := [(2, .int 0), (3, .int 0), (0, .ref m0), (1, .int za)]) hx hb dX12_look_130 rfl hl (by decide) rfl (fun ls hl => ?_)
        refine lv_iinc (v := 1) (lv' := [(3, .int 1), (2, .int 0), (0, .ref m0), (1, .int za)]) hx hb dX12_look_131 hl (k := 1) rfl (by decide) (by decide) rfl (fun ls hl => ?_)
        refine lv_goto (tgt := 102) hx hb dX12_look_134 (by decide) ?_
        refine lv_iload_n hx hb dX12_look_102 rfl (lv_at hl 0 rfl) ?_
        refine lv_iconst (v := 3) hx hb dX12_look_103 (by decide) ?_
        refine lv_icmp_ge (tgt := 137) hx hb dX12_look_104 (by decide) (fun c_27 => absurd c_27 (by decide)) (fun c_27 => ?_)
        refine lv_iload_n hx hb dX12_look_107 rfl (lv_at hl 1 rfl) ?_
        refine lv_aload_n hx hb dX12_look_108 rfl (lv_at hl 2 rfl) ?_
        refine va_get (D := D) (ci := 12) (v := .ref a0) (C := RX12) (T := TX12) (N := 30) hx hb hts inlX12 hown hK hP 0 rfl rfl 0 (by decide) (hts _ mw_187) (fun _ h9 => h9) rfl dX12_look_109 ?_
        refine lv_iload_n hx hb dX12_look_112 rfl (lv_at hl 0 rfl) ?_
        refine lv_iconst (v := 1) hx hb dX12_look_113 (by decide) ?_
        refine cr_S (As := [.int 1, .int 1]) (rest := [.ref a0, .int 0]) hFX hKK (c_X12_at l D κ 1 1) 2 gS_X12_66 hdS_X12_at rfl rfl ⟨Nat.le_of_ble_eq_true rfl, Nat.le_of_ble_eq_true rfl⟩ rfl rfl (Nat.le_of_ble_eq_true rfl) dX12_look_114 ⟨Nat.le_of_ble_eq_true rfl, Nat.le_of_ble_eq_true rfl⟩ hl.1 (hP.sub [] rfl) (fun r_28 hp_29 => ?_)
        have hp_29 : r_28 = 7123 * (1 : Int32) + (1 : Int32) := hp_29
        obtain rfl : r_28 = 7124 := hp_29.trans (by decide)
        refine W.eq (g2 := F0 m 117 ls [.int 7124, .ref a0, .int 0]) rfl ?_
        refine va_iald hx hb hK hP 1 0 rfl rfl (i := 7124) (vp_k (by decide)) dX12_look_117 ?_
        refine kv (v := .int 0) rfl ?_
        refine lv_aload_n hx hb dX12_look_118 rfl (lv_at hl 2 rfl) ?_
        refine va_get (D := D) (ci := 12) (v := .ref a0) (C := RX12) (T := TX12) (N := 30) hx hb hts inlX12 hown hK hP 0 rfl rfl 0 (by decide) (hts _ mw_187) (fun _ h9 => h9) rfl dX12_look_119 ?_
        refine lv_iload_n hx hb dX12_look_122 rfl (lv_at hl 0 rfl) ?_
        refine lv_iconst (v := 2) hx hb dX12_look_123 (by decide) ?_
        refine cr_S (As := [.int 1, .int 2]) (rest := [.ref a0, .int 0, .int 0]) hFX hKK (c_X12_at l D κ 1 2) 2 gS_X12_66 hdS_X12_at rfl rfl ⟨Nat.le_of_ble_eq_true rfl, Nat.le_of_ble_eq_true rfl⟩ rfl rfl (Nat.le_of_ble_eq_true rfl) dX12_look_124 ⟨Nat.le_of_ble_eq_true rfl, Nat.le_of_ble_eq_true rfl⟩ hl.1 (hP.sub [] rfl) (fun r_30 hp_31 => ?_)
        have hp_31 : r_30 = 7123 * (1 : Int32) + (2 : Int32) := hp_31
        obtain rfl : r_30 = 7125 := hp_31.trans (by decide)
        refine W.eq (g2 := F0 m 127 ls [.int 7125, .ref a0, .int 0, .int 0]) rfl ?_
        refine va_iald hx hb hK hP 1 0 rfl rfl (i := 7125) (vp_k (by decide)) dX12_look_127 ?_
        refine kv (v := .int 0) rfl ?_
        refine lv_imul hx hb dX12_look_128 ?_
        refine ki (v := 0) (by decide) ?_
        refine lv_iadd hx hb dX12_look_129 ?_
        refine ki (v := 0) (by decide) ?_
        refine lv_istore_n (lv' := [(2, .int 0), (3, .int 1), (0, .ref m0), (1, .int za)]) hx hb dX12_look_130 rfl hl (by decide) rfl (fun ls hl => ?_)
        refine lv_iinc (v := 2) (lv' := [(3, .int 2), (2, .int 0), (0, .ref m0), (1, .int za)]) hx hb dX12_look_131 hl (k := 1) rfl (by decide) (by decide) rfl (fun ls hl => ?_)
        refine lv_goto (tgt := 102) hx hb dX12_look_134 (by decide) ?_
        refine lv_iload_n hx hb dX12_look_102 rfl (lv_at hl 0 rfl) ?_
        refine lv_iconst (v := 3) hx hb dX12_look_103 (by decide) ?_
        refine lv_icmp_ge (tgt := 137) hx hb dX12_look_104 (by decide) (fun c_32 => absurd c_32 (by decide)) (fun c_32 => ?_)
        refine lv_iload_n hx hb dX12_look_107 rfl (lv_at hl 1 rfl) ?_
        refine lv_aload_n hx hb dX12_look_108 rfl (lv_at hl 2 rfl) ?_
        refine va_get (D := D) (ci := 12) (v := .ref a0) (C := RX12) (T := TX12) (N := 30) hx hb hts inlX12 hown hK hP 0 rfl rfl 0 (by decide) (hts _ mw_187) (fun _ h9 => h9) rfl dX12_look_109 ?_
        refine lv_iload_n hx hb dX12_look_112 rfl (lv_at hl 0 rfl) ?_
        refine lv_iconst (v := 1) hx hb dX12_look_113 (by decide) ?_
        refine cr_S (As := [.int 2, .int 1]) (rest := [.ref a0, .int 0]) hFX hKK (c_X12_at l D κ 2 1) 2 gS_X12_66 hdS_X12_at rfl rfl ⟨Nat.le_of_ble_eq_true rfl, Nat.le_of_ble_eq_true rfl⟩ rfl rfl (Nat.le_of_ble_eq_true rfl) dX12_look_114 ⟨Nat.le_of_ble_eq_true rfl, Nat.le_of_ble_eq_true rfl⟩ hl.1 (hP.sub [] rfl) (fun r_33 hp_34 => ?_)
        have hp_34 : r_33 = 7123 * (2 : Int32) + (1 : Int32) := hp_34
        obtain rfl : r_33 = 14247 := hp_34.trans (by decide)
        refine W.eq (g2 := F0 m 117 ls [.int 14247, .ref a0, .int 0]) rfl ?_
        refine va_iald hx hb hK hP 1 0 rfl rfl (i := 14247) (vp_k (by decide)) dX12_look_117 ?_
        refine kv (v := .int 0) rfl ?_
        refine lv_aload_n hx hb dX12_look_118 rfl (lv_at hl 2 rfl) ?_
        refine va_get (D := D) (ci := 12) (v := .ref a0) (C := RX12) (T := TX12) (N := 30) hx hb hts inlX12 hown hK hP 0 rfl rfl 0 (by decide) (hts _ mw_187) (fun _ h9 => h9) rfl dX12_look_119 ?_
        refine lv_iload_n hx hb dX12_look_122 rfl (lv_at hl 0 rfl) ?_
        refine lv_iconst (v := 2) hx hb dX12_look_123 (by decide) ?_
        refine cr_S (As := [.int 2, .int 2]) (rest := [.ref a0, .int 0, .int 0]) hFX hKK (c_X12_at l D κ 2 2) 2 gS_X12_66 hdS_X12_at rfl rfl ⟨Nat.le_of_ble_eq_true rfl, Nat.le_of_ble_eq_true rfl⟩ rfl rfl (Nat.le_of_ble_eq_true rfl) dX12_look_124 ⟨Nat.le_of_ble_eq_true rfl, Nat.le_of_ble_eq_true rfl⟩ hl.1 (hP.sub [] rfl) (fun r_35 hp_36 => ?_)
        have hp_36 : r_35 = 7123 * (2 : Int32) + (2 : Int32) := hp_36
        obtain rfl : r_35 = 14248 := hp_36.trans (by decide)
        refine W.eq (g2 := F0 m 127 ls [.int 14248, .ref a0, .int 0, .int 0]) rfl ?_
        refine va_iald hx hb hK hP 1 0 rfl rfl (i := 14248) (vp_k (by decide)) dX12_look_127 ?_
        refine kv (v := .int 0) rfl ?_
        refine lv_imul hx hb dX12_look_128 ?_
        refine ki (v := 0) (by decide) ?_
        refine lv_iadd hx hb dX12_look_129 ?_
        refine ki (v := 0) (by decide) ?_
        refine lv_istore_n (lv' := [(2, .int 0), (3, .int 2), (0, .ref m0), (1, .int za)]) hx hb dX12_look_130 rfl hl (by decide) rfl (fun ls hl => ?_)
        refine lv_iinc (v := 3) (lv' := [(3, .int 3), (2, .int 0), (0, .ref m0), (1, .int za)]) hx hb dX12_look_131 hl (k := 1) rfl (by decide) (by decide) rfl (fun ls hl => ?_)
        refine lv_goto (tgt := 102) hx hb dX12_look_134 (by decide) ?_
        refine lv_iload_n hx hb dX12_look_102 rfl (lv_at hl 0 rfl) ?_
        refine lv_iconst (v := 3) hx hb dX12_look_103 (by decide) ?_
        refine lv_icmp_ge (tgt := 137) hx hb dX12_look_104 (by decide) (fun c_37 => ?_) (fun c_37 => absurd (by decide) c_37)
        refine lv_iload_n hx hb dX12_look_137 rfl (lv_at hl 1 rfl) ?_
        exact cr_iret hx hb hr hlk rfl 0 rfl (by rw [e_11]; decide) dX12_look_138
      · refine lv_tableIn (tgt := 139) hx hb dX12_look_26 (by rw [e_11]; decide) (by rw [e_11]; decide) (by rw [e_11]; rfl) (by decide) ?_
        refine lv_aload_n hx hb dX12_look_139 rfl (lv_at hl 1 rfl) ?_
        refine va_get (D := D) (ci := 12) (v := .int 0) (C := RX12) (T := TX12) (N := 30) hx hb hts inlX12 hown hK hP 0 rfl rfl 10 (by decide) (hts _ mw_528) (fun _ h9 => h9) rfl dX12_look_140 ?_
        exact cr_iret hx hb hr hlk rfl 0 rfl (by rw [e_11]; decide) dX12_look_143
set_option maxHeartbeats 4000000 in
set_option maxRecDepth 100000 in
theorem c_X12_init (l : Launch) (D : va_G) (κ : Nat → ClassId) (m0 : Nat) : Ct l yX12_init (wl yX12_init cX12_init 1 none) { frames := 1, cells := 14, slots := 186415, locals := 12 } D κ [.ref m0] [(m0, .inr (12, [.null, .null, .null, .int 0, .int 0, .null, .int 0, .int 0, .int 0, .int 0, .int 0, .int 0, .int 0, .int 0, .null, .null, .null, .null, .int 0, .int 0, .null, .null, .int 0, .null, .null, .null, .int 0, .int 0, .null, .int 0]))] (fun _ => True) (fun u9 : Nat × Nat × Nat × Nat × Nat × Nat × Nat × Nat × Nat × Nat × Nat × Nat × Nat × Nat => none) (fun u9 : Nat × Nat × Nat × Nat × Nat × Nat × Nat × Nat × Nat × Nat × Nat × Nat × Nat × Nat => True) (fun u9 : Nat × Nat × Nat × Nat × Nat × Nat × Nat × Nat × Nat × Nat × Nat × Nat × Nat × Nat => [(m0, .inr (12, [.ref u9.1, .ref u9.2.1, .ref u9.2.2.1, .int 0, .int 0, .ref u9.2.2.2.1, .int 0, .int 0, .int (-1), .int (-1), .int 0, .int 0, .int 0, .int 0, .ref u9.2.2.2.2.1, .ref u9.2.2.2.2.2.1, .ref u9.2.2.2.2.2.2.1, .ref u9.2.2.2.2.2.2.2.1, .int 0, .int 0, .ref u9.2.2.2.2.2.2.2.2.1, .ref u9.2.2.2.2.2.2.2.2.2.1, .int 0, .ref u9.2.2.2.2.2.2.2.2.2.2.1, .ref u9.2.2.2.2.2.2.2.2.2.2.2.1, .ref u9.2.2.2.2.2.2.2.2.2.2.2.2.1, .int 0, .int 0, .ref u9.2.2.2.2.2.2.2.2.2.2.2.2.2, .int 0])), (u9.1, .inl (κ 0, 21375, .inl wf0)), (u9.2.1, .inl (κ 0, 21375, .inl (fun _ => 0))), (u9.2.2.1, .inl (κ 0, 128214, .inl (fun _ => 0))), (u9.2.2.2.1, .inl (κ 0, 800, .inl (fun _ => 0))), (u9.2.2.2.2.1, .inl (κ 0, 189, .inl (fun _ => 0))), (u9.2.2.2.2.2.1, .inl (κ 0, 9, .inl (fun _ => 0))), (u9.2.2.2.2.2.2.1, .inl (κ 0, 9, .inl (fun _ => 0))), (u9.2.2.2.2.2.2.2.1, .inl (κ 0, 7123, .inl (fun _ => 0))), (u9.2.2.2.2.2.2.2.2.1, .inl (κ 0, 801, .inl (fun _ => 0))), (u9.2.2.2.2.2.2.2.2.2.1, .inl (κ 0, 40, .inl (fun _ => 0))), (u9.2.2.2.2.2.2.2.2.2.2.1, .inl (κ 0, 40, .inl (fun _ => 0))), (u9.2.2.2.2.2.2.2.2.2.2.2.1, .inl (κ 0, 40, .inl (fun _ => 0))), (u9.2.2.2.2.2.2.2.2.2.2.2.2.1, .inl (κ 0, 6000, .inl (fun _ => 0))), (u9.2.2.2.2.2.2.2.2.2.2.2.2.2, .inl (κ 0, 400, .inl (fun _ => 0)))]) (fun _ _ => True) := by
  refine ct_of (by decide +kernel) (Nat.le_of_ble_eq_true rfl) ?_
  intro p e s m args below meth c A ls hx hb hr hml hts hown hlk hin hKK hK hA hP hD hS hI hl
  have hS : va_S A s.heap s.heap [] := hS
  have hFX : FX p s m args c cX12_init 1 RX12 := ⟨hx, hb, hml, hown, hts⟩
  have hl : lv_has ls 1 [(0, .ref m0)] := hl
  refine lv_aload_n hx hb dX12_init_0 rfl (lv_at hl 0 rfl) ?_
  refine W.objInit hx hb hown (hts _ mw_186) (hts _ mw_10) (hts _ mw_11) rfl (by rw [hml]; exact hl.1) rfl dX12_init_1 (Nat.le_of_ble_eq_true rfl) (Nat.le_of_ble_eq_true rfl) ?_
  refine W.eq (g2 := F0 m 4 ls []) rfl ?_
  refine lv_aload_n hx hb dX12_init_4 rfl (lv_at hl 0 rfl) ?_
  refine lv_sipush (v := 21375) hx hb dX12_init_5 (by decide) ?_
  refine my_newa (atype := .int) hx hb (hts _ mw_39) rfl hK hP hD hS hA 0 rfl (N' := 21375) (a0 := (21375, .inl (fun _ => 0))) (fun _ => rfl) (by decide) (by decide) (Nat.le_of_ble_eq_true rfl) (Nat.le_of_ble_eq_true rfl) (Nat.le_of_ble_eq_true rfl) dX12_init_8 (fun q_1 H hP hD hS => ?_)
  have hP : va_P D vwCl [(m0, .inr (12, [.null, .null, .null, .int 0, .int 0, .null, .int 0, .int 0, .int 0, .int 0, .int 0, .int 0, .int 0, .int 0, .null, .null, .null, .null, .int 0, .int 0, .null, .null, .int 0, .null, .null, .null, .int 0, .int 0, .null, .int 0])), (q_1, .inl (κ 0, 21375, .inl (fun _ => 0)))] H := hP
  have hD : va_D A [(m0, .inr (12, [.null, .null, .null, .int 0, .int 0, .null, .int 0, .int 0, .int 0, .int 0, .int 0, .int 0, .int 0, .int 0, .null, .null, .null, .null, .int 0, .int 0, .null, .null, .int 0, .null, .null, .null, .int 0, .int 0, .null, .int 0])), (q_1, .inl (κ 0, 21375, .inl (fun _ => 0)))] := hD
  refine va_putF (D := D) (ci := 12) (v := .ref q_1) (ty := tyX12 0) (C := RX12) (T := TX12) (N := 30) hx hb hts inlX12 tyX12 tyX12_ok nmX12 hown hK hP hD hS 0 rfl rfl 0 (by decide) (hts _ mw_187) (fun _ h9 => h9) rfl hin rfl (tyX12_ok 0 (by decide)) rfl rfl (Nat.le_of_ble_eq_true rfl) dX12_init_10 (fun H locs hP hD hS => ?_)
  have hP : va_P D vwCl [(m0, .inr (12, [.ref q_1, .null, .null, .int 0, .int 0, .null, .int 0, .int 0, .int 0, .int 0, .int 0, .int 0, .int 0, .int 0, .null, .null, .null, .null, .int 0, .int 0, .null, .null, .int 0, .null, .null, .null, .int 0, .int 0, .null, .int 0])), (q_1, .inl (κ 0, 21375, .inl (fun _ => 0)))] H := hP
  have hD : va_D A [(m0, .inr (12, [.ref q_1, .null, .null, .int 0, .int 0, .null, .int 0, .int 0, .int 0, .int 0, .int 0, .int 0, .int 0, .int 0, .null, .null, .null, .null, .int 0, .int 0, .null, .null, .int 0, .null, .null, .null, .int 0, .int 0, .null, .int 0])), (q_1, .inl (κ 0, 21375, .inl (fun _ => 0)))] := hD
  refine lv_aload_n hx hb dX12_init_13 rfl (lv_at hl 0 rfl) ?_
  refine lv_sipush (v := 21375) hx hb dX12_init_14 (by decide) ?_
  refine my_newa (atype := .int) hx hb (hts _ mw_39) rfl hK hP hD hS hA 0 rfl (N' := 21375) (a0 := (21375, .inl (fun _ => 0))) (fun _ => rfl) (by decide) (by decide) (Nat.le_of_ble_eq_true rfl) (Nat.le_of_ble_eq_true rfl) (Nat.le_of_ble_eq_true rfl) dX12_init_17 (fun q_2 H hP hD hS => ?_)
  have hP : va_P D vwCl [(m0, .inr (12, [.ref q_1, .null, .null, .int 0, .int 0, .null, .int 0, .int 0, .int 0, .int 0, .int 0, .int 0, .int 0, .int 0, .null, .null, .null, .null, .int 0, .int 0, .null, .null, .int 0, .null, .null, .null, .int 0, .int 0, .null, .int 0])), (q_1, .inl (κ 0, 21375, .inl (fun _ => 0))), (q_2, .inl (κ 0, 21375, .inl (fun _ => 0)))] H := hP
  have hD : va_D A [(m0, .inr (12, [.ref q_1, .null, .null, .int 0, .int 0, .null, .int 0, .int 0, .int 0, .int 0, .int 0, .int 0, .int 0, .int 0, .null, .null, .null, .null, .int 0, .int 0, .null, .null, .int 0, .null, .null, .null, .int 0, .int 0, .null, .int 0])), (q_1, .inl (κ 0, 21375, .inl (fun _ => 0))), (q_2, .inl (κ 0, 21375, .inl (fun _ => 0)))] := hD
  refine va_putF (D := D) (ci := 12) (v := .ref q_2) (ty := tyX12 1) (C := RX12) (T := TX12) (N := 30) hx hb hts inlX12 tyX12 tyX12_ok nmX12 hown hK hP hD hS 0 rfl rfl 1 (by decide) (hts _ mw_188) (fun _ h9 => h9) rfl hin rfl (tyX12_ok 1 (by decide)) rfl rfl (Nat.le_of_ble_eq_true rfl) dX12_init_19 (fun H locs hP hD hS => ?_)
  have hP : va_P D vwCl [(m0, .inr (12, [.ref q_1, .ref q_2, .null, .int 0, .int 0, .null, .int 0, .int 0, .int 0, .int 0, .int 0, .int 0, .int 0, .int 0, .null, .null, .null, .null, .int 0, .int 0, .null, .null, .int 0, .null, .null, .null, .int 0, .int 0, .null, .int 0])), (q_1, .inl (κ 0, 21375, .inl (fun _ => 0))), (q_2, .inl (κ 0, 21375, .inl (fun _ => 0)))] H := hP
  have hD : va_D A [(m0, .inr (12, [.ref q_1, .ref q_2, .null, .int 0, .int 0, .null, .int 0, .int 0, .int 0, .int 0, .int 0, .int 0, .int 0, .int 0, .null, .null, .null, .null, .int 0, .int 0, .null, .null, .int 0, .null, .null, .null, .int 0, .int 0, .null, .int 0])), (q_1, .inl (κ 0, 21375, .inl (fun _ => 0))), (q_2, .inl (κ 0, 21375, .inl (fun _ => 0)))] := hD
  refine lv_aload_n hx hb dX12_init_22 rfl (lv_at hl 0 rfl) ?_
  refine lv_ldc hx hb hown (hts _ mw_189) dX12_init_23 ?_
  refine my_newa (atype := .int) hx hb (hts _ mw_39) rfl hK hP hD hS hA 0 rfl (N' := 128214) (a0 := (128214, .inl (fun _ => 0))) (fun _ => rfl) (by decide) (by decide) (Nat.le_of_ble_eq_true rfl) (Nat.le_of_ble_eq_true rfl) (Nat.le_of_ble_eq_true rfl) dX12_init_25 (fun q_3 H hP hD hS => ?_)
  have hP : va_P D vwCl [(m0, .inr (12, [.ref q_1, .ref q_2, .null, .int 0, .int 0, .null, .int 0, .int 0, .int 0, .int 0, .int 0, .int 0, .int 0, .int 0, .null, .null, .null, .null, .int 0, .int 0, .null, .null, .int 0, .null, .null, .null, .int 0, .int 0, .null, .int 0])), (q_1, .inl (κ 0, 21375, .inl (fun _ => 0))), (q_2, .inl (κ 0, 21375, .inl (fun _ => 0))), (q_3, .inl (κ 0, 128214, .inl (fun _ => 0)))] H := hP
  have hD : va_D A [(m0, .inr (12, [.ref q_1, .ref q_2, .null, .int 0, .int 0, .null, .int 0, .int 0, .int 0, .int 0, .int 0, .int 0, .int 0, .int 0, .null, .null, .null, .null, .int 0, .int 0, .null, .null, .int 0, .null, .null, .null, .int 0, .int 0, .null, .int 0])), (q_1, .inl (κ 0, 21375, .inl (fun _ => 0))), (q_2, .inl (κ 0, 21375, .inl (fun _ => 0))), (q_3, .inl (κ 0, 128214, .inl (fun _ => 0)))] := hD
  refine va_putF (D := D) (ci := 12) (v := .ref q_3) (ty := tyX12 2) (C := RX12) (T := TX12) (N := 30) hx hb hts inlX12 tyX12 tyX12_ok nmX12 hown hK hP hD hS 0 rfl rfl 2 (by decide) (hts _ mw_190) (fun _ h9 => h9) rfl hin rfl (tyX12_ok 2 (by decide)) rfl rfl (Nat.le_of_ble_eq_true rfl) dX12_init_27 (fun H locs hP hD hS => ?_)
  have hP : va_P D vwCl [(m0, .inr (12, [.ref q_1, .ref q_2, .ref q_3, .int 0, .int 0, .null, .int 0, .int 0, .int 0, .int 0, .int 0, .int 0, .int 0, .int 0, .null, .null, .null, .null, .int 0, .int 0, .null, .null, .int 0, .null, .null, .null, .int 0, .int 0, .null, .int 0])), (q_1, .inl (κ 0, 21375, .inl (fun _ => 0))), (q_2, .inl (κ 0, 21375, .inl (fun _ => 0))), (q_3, .inl (κ 0, 128214, .inl (fun _ => 0)))] H := hP
  have hD : va_D A [(m0, .inr (12, [.ref q_1, .ref q_2, .ref q_3, .int 0, .int 0, .null, .int 0, .int 0, .int 0, .int 0, .int 0, .int 0, .int 0, .int 0, .null, .null, .null, .null, .int 0, .int 0, .null, .null, .int 0, .null, .null, .null, .int 0, .int 0, .null, .int 0])), (q_1, .inl (κ 0, 21375, .inl (fun _ => 0))), (q_2, .inl (κ 0, 21375, .inl (fun _ => 0))), (q_3, .inl (κ 0, 128214, .inl (fun _ => 0)))] := hD
  refine lv_aload_n hx hb dX12_init_30 rfl (lv_at hl 0 rfl) ?_
  refine lv_sipush (v := 800) hx hb dX12_init_31 (by decide) ?_
  refine my_newa (atype := .int) hx hb (hts _ mw_39) rfl hK hP hD hS hA 0 rfl (N' := 800) (a0 := (800, .inl (fun _ => 0))) (fun _ => rfl) (by decide) (by decide) (Nat.le_of_ble_eq_true rfl) (Nat.le_of_ble_eq_true rfl) (Nat.le_of_ble_eq_true rfl) dX12_init_34 (fun q_4 H hP hD hS => ?_)
  have hP : va_P D vwCl [(m0, .inr (12, [.ref q_1, .ref q_2, .ref q_3, .int 0, .int 0, .null, .int 0, .int 0, .int 0, .int 0, .int 0, .int 0, .int 0, .int 0, .null, .null, .null, .null, .int 0, .int 0, .null, .null, .int 0, .null, .null, .null, .int 0, .int 0, .null, .int 0])), (q_1, .inl (κ 0, 21375, .inl (fun _ => 0))), (q_2, .inl (κ 0, 21375, .inl (fun _ => 0))), (q_3, .inl (κ 0, 128214, .inl (fun _ => 0))), (q_4, .inl (κ 0, 800, .inl (fun _ => 0)))] H := hP
  have hD : va_D A [(m0, .inr (12, [.ref q_1, .ref q_2, .ref q_3, .int 0, .int 0, .null, .int 0, .int 0, .int 0, .int 0, .int 0, .int 0, .int 0, .int 0, .null, .null, .null, .null, .int 0, .int 0, .null, .null, .int 0, .null, .null, .null, .int 0, .int 0, .null, .int 0])), (q_1, .inl (κ 0, 21375, .inl (fun _ => 0))), (q_2, .inl (κ 0, 21375, .inl (fun _ => 0))), (q_3, .inl (κ 0, 128214, .inl (fun _ => 0))), (q_4, .inl (κ 0, 800, .inl (fun _ => 0)))] := hD
  refine va_putF (D := D) (ci := 12) (v := .ref q_4) (ty := tyX12 5) (C := RX12) (T := TX12) (N := 30) hx hb hts inlX12 tyX12 tyX12_ok nmX12 hown hK hP hD hS 0 rfl rfl 5 (by decide) (hts _ mw_191) (fun _ h9 => h9) rfl hin rfl (tyX12_ok 5 (by decide)) rfl rfl (Nat.le_of_ble_eq_true rfl) dX12_init_36 (fun H locs hP hD hS => ?_)
  have hP : va_P D vwCl [(m0, .inr (12, [.ref q_1, .ref q_2, .ref q_3, .int 0, .int 0, .ref q_4, .int 0, .int 0, .int 0, .int 0, .int 0, .int 0, .int 0, .int 0, .null, .null, .null, .null, .int 0, .int 0, .null, .null, .int 0, .null, .null, .null, .int 0, .int 0, .null, .int 0])), (q_1, .inl (κ 0, 21375, .inl (fun _ => 0))), (q_2, .inl (κ 0, 21375, .inl (fun _ => 0))), (q_3, .inl (κ 0, 128214, .inl (fun _ => 0))), (q_4, .inl (κ 0, 800, .inl (fun _ => 0)))] H := hP
  have hD : va_D A [(m0, .inr (12, [.ref q_1, .ref q_2, .ref q_3, .int 0, .int 0, .ref q_4, .int 0, .int 0, .int 0, .int 0, .int 0, .int 0, .int 0, .int 0, .null, .null, .null, .null, .int 0, .int 0, .null, .null, .int 0, .null, .null, .null, .int 0, .int 0, .null, .int 0])), (q_1, .inl (κ 0, 21375, .inl (fun _ => 0))), (q_2, .inl (κ 0, 21375, .inl (fun _ => 0))), (q_3, .inl (κ 0, 128214, .inl (fun _ => 0))), (q_4, .inl (κ 0, 800, .inl (fun _ => 0)))] := hD
  refine lv_aload_n hx hb dX12_init_39 rfl (lv_at hl 0 rfl) ?_
  refine lv_iconst (v := (-1)) hx hb dX12_init_40 (by decide) ?_
  refine va_put (D := D) (ci := 12) (v := .int (-1)) (ty := tyX12 8) (C := RX12) (T := TX12) (N := 30) hx hb hts inlX12 tyX12 tyX12_ok nmX12 hown hK hP hD hS 0 rfl rfl 8 (by decide) (hts _ mw_192) (fun _ h9 => h9) rfl (tyX12_ok 8 (by decide)) rfl rfl (Nat.le_of_ble_eq_true rfl) dX12_init_41 (fun H locs hP hD hS => ?_)
  have hP : va_P D vwCl [(m0, .inr (12, [.ref q_1, .ref q_2, .ref q_3, .int 0, .int 0, .ref q_4, .int 0, .int 0, .int (-1), .int 0, .int 0, .int 0, .int 0, .int 0, .null, .null, .null, .null, .int 0, .int 0, .null, .null, .int 0, .null, .null, .null, .int 0, .int 0, .null, .int 0])), (q_1, .inl (κ 0, 21375, .inl (fun _ => 0))), (q_2, .inl (κ 0, 21375, .inl (fun _ => 0))), (q_3, .inl (κ 0, 128214, .inl (fun _ => 0))), (q_4, .inl (κ 0, 800, .inl (fun _ => 0)))] H := hP
  have hD : va_D A [(m0, .inr (12, [.ref q_1, .ref q_2, .ref q_3, .int 0, .int 0, .ref q_4, .int 0, .int 0, .int (-1), .int 0, .int 0, .int 0, .int 0, .int 0, .null, .null, .null, .null, .int 0, .int 0, .null, .null, .int 0, .null, .null, .null, .int 0, .int 0, .null, .int 0])), (q_1, .inl (κ 0, 21375, .inl (fun _ => 0))), (q_2, .inl (κ 0, 21375, .inl (fun _ => 0))), (q_3, .inl (κ 0, 128214, .inl (fun _ => 0))), (q_4, .inl (κ 0, 800, .inl (fun _ => 0)))] := hD
  refine lv_aload_n hx hb dX12_init_44 rfl (lv_at hl 0 rfl) ?_
  refine lv_iconst (v := (-1)) hx hb dX12_init_45 (by decide) ?_
  refine va_put (D := D) (ci := 12) (v := .int (-1)) (ty := tyX12 9) (C := RX12) (T := TX12) (N := 30) hx hb hts inlX12 tyX12 tyX12_ok nmX12 hown hK hP hD hS 0 rfl rfl 9 (by decide) (hts _ mw_193) (fun _ h9 => h9) rfl (tyX12_ok 9 (by decide)) rfl rfl (Nat.le_of_ble_eq_true rfl) dX12_init_46 (fun H locs hP hD hS => ?_)
  have hP : va_P D vwCl [(m0, .inr (12, [.ref q_1, .ref q_2, .ref q_3, .int 0, .int 0, .ref q_4, .int 0, .int 0, .int (-1), .int (-1), .int 0, .int 0, .int 0, .int 0, .null, .null, .null, .null, .int 0, .int 0, .null, .null, .int 0, .null, .null, .null, .int 0, .int 0, .null, .int 0])), (q_1, .inl (κ 0, 21375, .inl (fun _ => 0))), (q_2, .inl (κ 0, 21375, .inl (fun _ => 0))), (q_3, .inl (κ 0, 128214, .inl (fun _ => 0))), (q_4, .inl (κ 0, 800, .inl (fun _ => 0)))] H := hP
  have hD : va_D A [(m0, .inr (12, [.ref q_1, .ref q_2, .ref q_3, .int 0, .int 0, .ref q_4, .int 0, .int 0, .int (-1), .int (-1), .int 0, .int 0, .int 0, .int 0, .null, .null, .null, .null, .int 0, .int 0, .null, .null, .int 0, .null, .null, .null, .int 0, .int 0, .null, .int 0])), (q_1, .inl (κ 0, 21375, .inl (fun _ => 0))), (q_2, .inl (κ 0, 21375, .inl (fun _ => 0))), (q_3, .inl (κ 0, 128214, .inl (fun _ => 0))), (q_4, .inl (κ 0, 800, .inl (fun _ => 0)))] := hD
  refine lv_aload_n hx hb dX12_init_49 rfl (lv_at hl 0 rfl) ?_
  refine lv_sipush (v := 189) hx hb dX12_init_50 (by decide) ?_
  refine my_newa (atype := .int) hx hb (hts _ mw_39) rfl hK hP hD hS hA 0 rfl (N' := 189) (a0 := (189, .inl (fun _ => 0))) (fun _ => rfl) (by decide) (by decide) (Nat.le_of_ble_eq_true rfl) (Nat.le_of_ble_eq_true rfl) (Nat.le_of_ble_eq_true rfl) dX12_init_53 (fun q_5 H hP hD hS => ?_)
  have hP : va_P D vwCl [(m0, .inr (12, [.ref q_1, .ref q_2, .ref q_3, .int 0, .int 0, .ref q_4, .int 0, .int 0, .int (-1), .int (-1), .int 0, .int 0, .int 0, .int 0, .null, .null, .null, .null, .int 0, .int 0, .null, .null, .int 0, .null, .null, .null, .int 0, .int 0, .null, .int 0])), (q_1, .inl (κ 0, 21375, .inl (fun _ => 0))), (q_2, .inl (κ 0, 21375, .inl (fun _ => 0))), (q_3, .inl (κ 0, 128214, .inl (fun _ => 0))), (q_4, .inl (κ 0, 800, .inl (fun _ => 0))), (q_5, .inl (κ 0, 189, .inl (fun _ => 0)))] H := hP
  have hD : va_D A [(m0, .inr (12, [.ref q_1, .ref q_2, .ref q_3, .int 0, .int 0, .ref q_4, .int 0, .int 0, .int (-1), .int (-1), .int 0, .int 0, .int 0, .int 0, .null, .null, .null, .null, .int 0, .int 0, .null, .null, .int 0, .null, .null, .null, .int 0, .int 0, .null, .int 0])), (q_1, .inl (κ 0, 21375, .inl (fun _ => 0))), (q_2, .inl (κ 0, 21375, .inl (fun _ => 0))), (q_3, .inl (κ 0, 128214, .inl (fun _ => 0))), (q_4, .inl (κ 0, 800, .inl (fun _ => 0))), (q_5, .inl (κ 0, 189, .inl (fun _ => 0)))] := hD
  refine va_putF (D := D) (ci := 12) (v := .ref q_5) (ty := tyX12 14) (C := RX12) (T := TX12) (N := 30) hx hb hts inlX12 tyX12 tyX12_ok nmX12 hown hK hP hD hS 0 rfl rfl 14 (by decide) (hts _ mw_194) (fun _ h9 => h9) rfl hin rfl (tyX12_ok 14 (by decide)) rfl rfl (Nat.le_of_ble_eq_true rfl) dX12_init_55 (fun H locs hP hD hS => ?_)
  have hP : va_P D vwCl [(m0, .inr (12, [.ref q_1, .ref q_2, .ref q_3, .int 0, .int 0, .ref q_4, .int 0, .int 0, .int (-1), .int (-1), .int 0, .int 0, .int 0, .int 0, .ref q_5, .null, .null, .null, .int 0, .int 0, .null, .null, .int 0, .null, .null, .null, .int 0, .int 0, .null, .int 0])), (q_1, .inl (κ 0, 21375, .inl (fun _ => 0))), (q_2, .inl (κ 0, 21375, .inl (fun _ => 0))), (q_3, .inl (κ 0, 128214, .inl (fun _ => 0))), (q_4, .inl (κ 0, 800, .inl (fun _ => 0))), (q_5, .inl (κ 0, 189, .inl (fun _ => 0)))] H := hP
  have hD : va_D A [(m0, .inr (12, [.ref q_1, .ref q_2, .ref q_3, .int 0, .int 0, .ref q_4, .int 0, .int 0, .int (-1), .int (-1), .int 0, .int 0, .int 0, .int 0, .ref q_5, .null, .null, .null, .int 0, .int 0, .null, .null, .int 0, .null, .null, .null, .int 0, .int 0, .null, .int 0])), (q_1, .inl (κ 0, 21375, .inl (fun _ => 0))), (q_2, .inl (κ 0, 21375, .inl (fun _ => 0))), (q_3, .inl (κ 0, 128214, .inl (fun _ => 0))), (q_4, .inl (κ 0, 800, .inl (fun _ => 0))), (q_5, .inl (κ 0, 189, .inl (fun _ => 0)))] := hD
  refine lv_aload_n hx hb dX12_init_58 rfl (lv_at hl 0 rfl) ?_
  refine lv_bipush (v := 9) hx hb dX12_init_59 (by decide) ?_
  refine my_newa (atype := .int) hx hb (hts _ mw_39) rfl hK hP hD hS hA 0 rfl (N' := 9) (a0 := (9, .inl (fun _ => 0))) (fun _ => rfl) (by decide) (by decide) (Nat.le_of_ble_eq_true rfl) (Nat.le_of_ble_eq_true rfl) (Nat.le_of_ble_eq_true rfl) dX12_init_61 (fun q_6 H hP hD hS => ?_)
  have hP : va_P D vwCl [(m0, .inr (12, [.ref q_1, .ref q_2, .ref q_3, .int 0, .int 0, .ref q_4, .int 0, .int 0, .int (-1), .int (-1), .int 0, .int 0, .int 0, .int 0, .ref q_5, .null, .null, .null, .int 0, .int 0, .null, .null, .int 0, .null, .null, .null, .int 0, .int 0, .null, .int 0])), (q_1, .inl (κ 0, 21375, .inl (fun _ => 0))), (q_2, .inl (κ 0, 21375, .inl (fun _ => 0))), (q_3, .inl (κ 0, 128214, .inl (fun _ => 0))), (q_4, .inl (κ 0, 800, .inl (fun _ => 0))), (q_5, .inl (κ 0, 189, .inl (fun _ => 0))), (q_6, .inl (κ 0, 9, .inl (fun _ => 0)))] H := hP
  have hD : va_D A [(m0, .inr (12, [.ref q_1, .ref q_2, .ref q_3, .int 0, .int 0, .ref q_4, .int 0, .int 0, .int (-1), .int (-1), .int 0, .int 0, .int 0, .int 0, .ref q_5, .null, .null, .null, .int 0, .int 0, .null, .null, .int 0, .null, .null, .null, .int 0, .int 0, .null, .int 0])), (q_1, .inl (κ 0, 21375, .inl (fun _ => 0))), (q_2, .inl (κ 0, 21375, .inl (fun _ => 0))), (q_3, .inl (κ 0, 128214, .inl (fun _ => 0))), (q_4, .inl (κ 0, 800, .inl (fun _ => 0))), (q_5, .inl (κ 0, 189, .inl (fun _ => 0))), (q_6, .inl (κ 0, 9, .inl (fun _ => 0)))] := hD
  refine va_putF (D := D) (ci := 12) (v := .ref q_6) (ty := tyX12 15) (C := RX12) (T := TX12) (N := 30) hx hb hts inlX12 tyX12 tyX12_ok nmX12 hown hK hP hD hS 0 rfl rfl 15 (by decide) (hts _ mw_195) (fun _ h9 => h9) rfl hin rfl (tyX12_ok 15 (by decide)) rfl rfl (Nat.le_of_ble_eq_true rfl) dX12_init_63 (fun H locs hP hD hS => ?_)
  have hP : va_P D vwCl [(m0, .inr (12, [.ref q_1, .ref q_2, .ref q_3, .int 0, .int 0, .ref q_4, .int 0, .int 0, .int (-1), .int (-1), .int 0, .int 0, .int 0, .int 0, .ref q_5, .ref q_6, .null, .null, .int 0, .int 0, .null, .null, .int 0, .null, .null, .null, .int 0, .int 0, .null, .int 0])), (q_1, .inl (κ 0, 21375, .inl (fun _ => 0))), (q_2, .inl (κ 0, 21375, .inl (fun _ => 0))), (q_3, .inl (κ 0, 128214, .inl (fun _ => 0))), (q_4, .inl (κ 0, 800, .inl (fun _ => 0))), (q_5, .inl (κ 0, 189, .inl (fun _ => 0))), (q_6, .inl (κ 0, 9, .inl (fun _ => 0)))] H := hP
  have hD : va_D A [(m0, .inr (12, [.ref q_1, .ref q_2, .ref q_3, .int 0, .int 0, .ref q_4, .int 0, .int 0, .int (-1), .int (-1), .int 0, .int 0, .int 0, .int 0, .ref q_5, .ref q_6, .null, .null, .int 0, .int 0, .null, .null, .int 0, .null, .null, .null, .int 0, .int 0, .null, .int 0])), (q_1, .inl (κ 0, 21375, .inl (fun _ => 0))), (q_2, .inl (κ 0, 21375, .inl (fun _ => 0))), (q_3, .inl (κ 0, 128214, .inl (fun _ => 0))), (q_4, .inl (κ 0, 800, .inl (fun _ => 0))), (q_5, .inl (κ 0, 189, .inl (fun _ => 0))), (q_6, .inl (κ 0, 9, .inl (fun _ => 0)))] := hD
  refine lv_aload_n hx hb dX12_init_66 rfl (lv_at hl 0 rfl) ?_
  refine lv_bipush (v := 9) hx hb dX12_init_67 (by decide) ?_
  refine my_newa (atype := .int) hx hb (hts _ mw_39) rfl hK hP hD hS hA 0 rfl (N' := 9) (a0 := (9, .inl (fun _ => 0))) (fun _ => rfl) (by decide) (by decide) (Nat.le_of_ble_eq_true rfl) (Nat.le_of_ble_eq_true rfl) (Nat.le_of_ble_eq_true rfl) dX12_init_69 (fun q_7 H hP hD hS => ?_)
  have hP : va_P D vwCl [(m0, .inr (12, [.ref q_1, .ref q_2, .ref q_3, .int 0, .int 0, .ref q_4, .int 0, .int 0, .int (-1), .int (-1), .int 0, .int 0, .int 0, .int 0, .ref q_5, .ref q_6, .null, .null, .int 0, .int 0, .null, .null, .int 0, .null, .null, .null, .int 0, .int 0, .null, .int 0])), (q_1, .inl (κ 0, 21375, .inl (fun _ => 0))), (q_2, .inl (κ 0, 21375, .inl (fun _ => 0))), (q_3, .inl (κ 0, 128214, .inl (fun _ => 0))), (q_4, .inl (κ 0, 800, .inl (fun _ => 0))), (q_5, .inl (κ 0, 189, .inl (fun _ => 0))), (q_6, .inl (κ 0, 9, .inl (fun _ => 0))), (q_7, .inl (κ 0, 9, .inl (fun _ => 0)))] H := hP
  have hD : va_D A [(m0, .inr (12, [.ref q_1, .ref q_2, .ref q_3, .int 0, .int 0, .ref q_4, .int 0, .int 0, .int (-1), .int (-1), .int 0, .int 0, .int 0, .int 0, .ref q_5, .ref q_6, .null, .null, .int 0, .int 0, .null, .null, .int 0, .null, .null, .null, .int 0, .int 0, .null, .int 0])), (q_1, .inl (κ 0, 21375, .inl (fun _ => 0))), (q_2, .inl (κ 0, 21375, .inl (fun _ => 0))), (q_3, .inl (κ 0, 128214, .inl (fun _ => 0))), (q_4, .inl (κ 0, 800, .inl (fun _ => 0))), (q_5, .inl (κ 0, 189, .inl (fun _ => 0))), (q_6, .inl (κ 0, 9, .inl (fun _ => 0))), (q_7, .inl (κ 0, 9, .inl (fun _ => 0)))] := hD
  refine va_putF (D := D) (ci := 12) (v := .ref q_7) (ty := tyX12 16) (C := RX12) (T := TX12) (N := 30) hx hb hts inlX12 tyX12 tyX12_ok nmX12 hown hK hP hD hS 0 rfl rfl 16 (by decide) (hts _ mw_196) (fun _ h9 => h9) rfl hin rfl (tyX12_ok 16 (by decide)) rfl rfl (Nat.le_of_ble_eq_true rfl) dX12_init_71 (fun H locs hP hD hS => ?_)
  have hP : va_P D vwCl [(m0, .inr (12, [.ref q_1, .ref q_2, .ref q_3, .int 0, .int 0, .ref q_4, .int 0, .int 0, .int (-1), .int (-1), .int 0, .int 0, .int 0, .int 0, .ref q_5, .ref q_6, .ref q_7, .null, .int 0, .int 0, .null, .null, .int 0, .null, .null, .null, .int 0, .int 0, .null, .int 0])), (q_1, .inl (κ 0, 21375, .inl (fun _ => 0))), (q_2, .inl (κ 0, 21375, .inl (fun _ => 0))), (q_3, .inl (κ 0, 128214, .inl (fun _ => 0))), (q_4, .inl (κ 0, 800, .inl (fun _ => 0))), (q_5, .inl (κ 0, 189, .inl (fun _ => 0))), (q_6, .inl (κ 0, 9, .inl (fun _ => 0))), (q_7, .inl (κ 0, 9, .inl (fun _ => 0)))] H := hP
  have hD : va_D A [(m0, .inr (12, [.ref q_1, .ref q_2, .ref q_3, .int 0, .int 0, .ref q_4, .int 0, .int 0, .int (-1), .int (-1), .int 0, .int 0, .int 0, .int 0, .ref q_5, .ref q_6, .ref q_7, .null, .int 0, .int 0, .null, .null, .int 0, .null, .null, .null, .int 0, .int 0, .null, .int 0])), (q_1, .inl (κ 0, 21375, .inl (fun _ => 0))), (q_2, .inl (κ 0, 21375, .inl (fun _ => 0))), (q_3, .inl (κ 0, 128214, .inl (fun _ => 0))), (q_4, .inl (κ 0, 800, .inl (fun _ => 0))), (q_5, .inl (κ 0, 189, .inl (fun _ => 0))), (q_6, .inl (κ 0, 9, .inl (fun _ => 0))), (q_7, .inl (κ 0, 9, .inl (fun _ => 0)))] := hD
  refine lv_aload_n hx hb dX12_init_74 rfl (lv_at hl 0 rfl) ?_
  refine lv_sipush (v := 7123) hx hb dX12_init_75 (by decide) ?_
  refine my_newa (atype := .int) hx hb (hts _ mw_39) rfl hK hP hD hS hA 0 rfl (N' := 7123) (a0 := (7123, .inl (fun _ => 0))) (fun _ => rfl) (by decide) (by decide) (Nat.le_of_ble_eq_true rfl) (Nat.le_of_ble_eq_true rfl) (Nat.le_of_ble_eq_true rfl) dX12_init_78 (fun q_8 H hP hD hS => ?_)
  have hP : va_P D vwCl [(m0, .inr (12, [.ref q_1, .ref q_2, .ref q_3, .int 0, .int 0, .ref q_4, .int 0, .int 0, .int (-1), .int (-1), .int 0, .int 0, .int 0, .int 0, .ref q_5, .ref q_6, .ref q_7, .null, .int 0, .int 0, .null, .null, .int 0, .null, .null, .null, .int 0, .int 0, .null, .int 0])), (q_1, .inl (κ 0, 21375, .inl (fun _ => 0))), (q_2, .inl (κ 0, 21375, .inl (fun _ => 0))), (q_3, .inl (κ 0, 128214, .inl (fun _ => 0))), (q_4, .inl (κ 0, 800, .inl (fun _ => 0))), (q_5, .inl (κ 0, 189, .inl (fun _ => 0))), (q_6, .inl (κ 0, 9, .inl (fun _ => 0))), (q_7, .inl (κ 0, 9, .inl (fun _ => 0))), (q_8, .inl (κ 0, 7123, .inl (fun _ => 0)))] H := hP
  have hD : va_D A [(m0, .inr (12, [.ref q_1, .ref q_2, .ref q_3, .int 0, .int 0, .ref q_4, .int 0, .int 0, .int (-1), .int (-1), .int 0, .int 0, .int 0, .int 0, .ref q_5, .ref q_6, .ref q_7, .null, .int 0, .int 0, .null, .null, .int 0, .null, .null, .null, .int 0, .int 0, .null, .int 0])), (q_1, .inl (κ 0, 21375, .inl (fun _ => 0))), (q_2, .inl (κ 0, 21375, .inl (fun _ => 0))), (q_3, .inl (κ 0, 128214, .inl (fun _ => 0))), (q_4, .inl (κ 0, 800, .inl (fun _ => 0))), (q_5, .inl (κ 0, 189, .inl (fun _ => 0))), (q_6, .inl (κ 0, 9, .inl (fun _ => 0))), (q_7, .inl (κ 0, 9, .inl (fun _ => 0))), (q_8, .inl (κ 0, 7123, .inl (fun _ => 0)))] := hD
  refine va_putF (D := D) (ci := 12) (v := .ref q_8) (ty := tyX12 17) (C := RX12) (T := TX12) (N := 30) hx hb hts inlX12 tyX12 tyX12_ok nmX12 hown hK hP hD hS 0 rfl rfl 17 (by decide) (hts _ mw_197) (fun _ h9 => h9) rfl hin rfl (tyX12_ok 17 (by decide)) rfl rfl (Nat.le_of_ble_eq_true rfl) dX12_init_80 (fun H locs hP hD hS => ?_)
  have hP : va_P D vwCl [(m0, .inr (12, [.ref q_1, .ref q_2, .ref q_3, .int 0, .int 0, .ref q_4, .int 0, .int 0, .int (-1), .int (-1), .int 0, .int 0, .int 0, .int 0, .ref q_5, .ref q_6, .ref q_7, .ref q_8, .int 0, .int 0, .null, .null, .int 0, .null, .null, .null, .int 0, .int 0, .null, .int 0])), (q_1, .inl (κ 0, 21375, .inl (fun _ => 0))), (q_2, .inl (κ 0, 21375, .inl (fun _ => 0))), (q_3, .inl (κ 0, 128214, .inl (fun _ => 0))), (q_4, .inl (κ 0, 800, .inl (fun _ => 0))), (q_5, .inl (κ 0, 189, .inl (fun _ => 0))), (q_6, .inl (κ 0, 9, .inl (fun _ => 0))), (q_7, .inl (κ 0, 9, .inl (fun _ => 0))), (q_8, .inl (κ 0, 7123, .inl (fun _ => 0)))] H := hP
  have hD : va_D A [(m0, .inr (12, [.ref q_1, .ref q_2, .ref q_3, .int 0, .int 0, .ref q_4, .int 0, .int 0, .int (-1), .int (-1), .int 0, .int 0, .int 0, .int 0, .ref q_5, .ref q_6, .ref q_7, .ref q_8, .int 0, .int 0, .null, .null, .int 0, .null, .null, .null, .int 0, .int 0, .null, .int 0])), (q_1, .inl (κ 0, 21375, .inl (fun _ => 0))), (q_2, .inl (κ 0, 21375, .inl (fun _ => 0))), (q_3, .inl (κ 0, 128214, .inl (fun _ => 0))), (q_4, .inl (κ 0, 800, .inl (fun _ => 0))), (q_5, .inl (κ 0, 189, .inl (fun _ => 0))), (q_6, .inl (κ 0, 9, .inl (fun _ => 0))), (q_7, .inl (κ 0, 9, .inl (fun _ => 0))), (q_8, .inl (κ 0, 7123, .inl (fun _ => 0)))] := hD
  refine lv_aload_n hx hb dX12_init_83 rfl (lv_at hl 0 rfl) ?_
  refine lv_sipush (v := 801) hx hb dX12_init_84 (by decide) ?_
  refine my_newa (atype := .int) hx hb (hts _ mw_39) rfl hK hP hD hS hA 0 rfl (N' := 801) (a0 := (801, .inl (fun _ => 0))) (fun _ => rfl) (by decide) (by decide) (Nat.le_of_ble_eq_true rfl) (Nat.le_of_ble_eq_true rfl) (Nat.le_of_ble_eq_true rfl) dX12_init_87 (fun q_9 H hP hD hS => ?_)
  have hP : va_P D vwCl [(m0, .inr (12, [.ref q_1, .ref q_2, .ref q_3, .int 0, .int 0, .ref q_4, .int 0, .int 0, .int (-1), .int (-1), .int 0, .int 0, .int 0, .int 0, .ref q_5, .ref q_6, .ref q_7, .ref q_8, .int 0, .int 0, .null, .null, .int 0, .null, .null, .null, .int 0, .int 0, .null, .int 0])), (q_1, .inl (κ 0, 21375, .inl (fun _ => 0))), (q_2, .inl (κ 0, 21375, .inl (fun _ => 0))), (q_3, .inl (κ 0, 128214, .inl (fun _ => 0))), (q_4, .inl (κ 0, 800, .inl (fun _ => 0))), (q_5, .inl (κ 0, 189, .inl (fun _ => 0))), (q_6, .inl (κ 0, 9, .inl (fun _ => 0))), (q_7, .inl (κ 0, 9, .inl (fun _ => 0))), (q_8, .inl (κ 0, 7123, .inl (fun _ => 0))), (q_9, .inl (κ 0, 801, .inl (fun _ => 0)))] H := hP
  have hD : va_D A [(m0, .inr (12, [.ref q_1, .ref q_2, .ref q_3, .int 0, .int 0, .ref q_4, .int 0, .int 0, .int (-1), .int (-1), .int 0, .int 0, .int 0, .int 0, .ref q_5, .ref q_6, .ref q_7, .ref q_8, .int 0, .int 0, .null, .null, .int 0, .null, .null, .null, .int 0, .int 0, .null, .int 0])), (q_1, .inl (κ 0, 21375, .inl (fun _ => 0))), (q_2, .inl (κ 0, 21375, .inl (fun _ => 0))), (q_3, .inl (κ 0, 128214, .inl (fun _ => 0))), (q_4, .inl (κ 0, 800, .inl (fun _ => 0))), (q_5, .inl (κ 0, 189, .inl (fun _ => 0))), (q_6, .inl (κ 0, 9, .inl (fun _ => 0))), (q_7, .inl (κ 0, 9, .inl (fun _ => 0))), (q_8, .inl (κ 0, 7123, .inl (fun _ => 0))), (q_9, .inl (κ 0, 801, .inl (fun _ => 0)))] := hD
  refine va_putF (D := D) (ci := 12) (v := .ref q_9) (ty := tyX12 20) (C := RX12) (T := TX12) (N := 30) hx hb hts inlX12 tyX12 tyX12_ok nmX12 hown hK hP hD hS 0 rfl rfl 20 (by decide) (hts _ mw_198) (fun _ h9 => h9) rfl hin rfl (tyX12_ok 20 (by decide)) rfl rfl (Nat.le_of_ble_eq_true rfl) dX12_init_89 (fun H locs hP hD hS => ?_)
  have hP : va_P D vwCl [(m0, .inr (12, [.ref q_1, .ref q_2, .ref q_3, .int 0, .int 0, .ref q_4, .int 0, .int 0, .int (-1), .int (-1), .int 0, .int 0, .int 0, .int 0, .ref q_5, .ref q_6, .ref q_7, .ref q_8, .int 0, .int 0, .ref q_9, .null, .int 0, .null, .null, .null, .int 0, .int 0, .null, .int 0])), (q_1, .inl (κ 0, 21375, .inl (fun _ => 0))), (q_2, .inl (κ 0, 21375, .inl (fun _ => 0))), (q_3, .inl (κ 0, 128214, .inl (fun _ => 0))), (q_4, .inl (κ 0, 800, .inl (fun _ => 0))), (q_5, .inl (κ 0, 189, .inl (fun _ => 0))), (q_6, .inl (κ 0, 9, .inl (fun _ => 0))), (q_7, .inl (κ 0, 9, .inl (fun _ => 0))), (q_8, .inl (κ 0, 7123, .inl (fun _ => 0))), (q_9, .inl (κ 0, 801, .inl (fun _ => 0)))] H := hP
  have hD : va_D A [(m0, .inr (12, [.ref q_1, .ref q_2, .ref q_3, .int 0, .int 0, .ref q_4, .int 0, .int 0, .int (-1), .int (-1), .int 0, .int 0, .int 0, .int 0, .ref q_5, .ref q_6, .ref q_7, .ref q_8, .int 0, .int 0, .ref q_9, .null, .int 0, .null, .null, .null, .int 0, .int 0, .null, .int 0])), (q_1, .inl (κ 0, 21375, .inl (fun _ => 0))), (q_2, .inl (κ 0, 21375, .inl (fun _ => 0))), (q_3, .inl (κ 0, 128214, .inl (fun _ => 0))), (q_4, .inl (κ 0, 800, .inl (fun _ => 0))), (q_5, .inl (κ 0, 189, .inl (fun _ => 0))), (q_6, .inl (κ 0, 9, .inl (fun _ => 0))), (q_7, .inl (κ 0, 9, .inl (fun _ => 0))), (q_8, .inl (κ 0, 7123, .inl (fun _ => 0))), (q_9, .inl (κ 0, 801, .inl (fun _ => 0)))] := hD
  refine lv_aload_n hx hb dX12_init_92 rfl (lv_at hl 0 rfl) ?_
  refine lv_bipush (v := 40) hx hb dX12_init_93 (by decide) ?_
  refine my_newa (atype := .int) hx hb (hts _ mw_39) rfl hK hP hD hS hA 0 rfl (N' := 40) (a0 := (40, .inl (fun _ => 0))) (fun _ => rfl) (by decide) (by decide) (Nat.le_of_ble_eq_true rfl) (Nat.le_of_ble_eq_true rfl) (Nat.le_of_ble_eq_true rfl) dX12_init_95 (fun q_10 H hP hD hS => ?_)
  have hP : va_P D vwCl [(m0, .inr (12, [.ref q_1, .ref q_2, .ref q_3, .int 0, .int 0, .ref q_4, .int 0, .int 0, .int (-1), .int (-1), .int 0, .int 0, .int 0, .int 0, .ref q_5, .ref q_6, .ref q_7, .ref q_8, .int 0, .int 0, .ref q_9, .null, .int 0, .null, .null, .null, .int 0, .int 0, .null, .int 0])), (q_1, .inl (κ 0, 21375, .inl (fun _ => 0))), (q_2, .inl (κ 0, 21375, .inl (fun _ => 0))), (q_3, .inl (κ 0, 128214, .inl (fun _ => 0))), (q_4, .inl (κ 0, 800, .inl (fun _ => 0))), (q_5, .inl (κ 0, 189, .inl (fun _ => 0))), (q_6, .inl (κ 0, 9, .inl (fun _ => 0))), (q_7, .inl (κ 0, 9, .inl (fun _ => 0))), (q_8, .inl (κ 0, 7123, .inl (fun _ => 0))), (q_9, .inl (κ 0, 801, .inl (fun _ => 0))), (q_10, .inl (κ 0, 40, .inl (fun _ => 0)))] H := hP
  have hD : va_D A [(m0, .inr (12, [.ref q_1, .ref q_2, .ref q_3, .int 0, .int 0, .ref q_4, .int 0, .int 0, .int (-1), .int (-1), .int 0, .int 0, .int 0, .int 0, .ref q_5, .ref q_6, .ref q_7, .ref q_8, .int 0, .int 0, .ref q_9, .null, .int 0, .null, .null, .null, .int 0, .int 0, .null, .int 0])), (q_1, .inl (κ 0, 21375, .inl (fun _ => 0))), (q_2, .inl (κ 0, 21375, .inl (fun _ => 0))), (q_3, .inl (κ 0, 128214, .inl (fun _ => 0))), (q_4, .inl (κ 0, 800, .inl (fun _ => 0))), (q_5, .inl (κ 0, 189, .inl (fun _ => 0))), (q_6, .inl (κ 0, 9, .inl (fun _ => 0))), (q_7, .inl (κ 0, 9, .inl (fun _ => 0))), (q_8, .inl (κ 0, 7123, .inl (fun _ => 0))), (q_9, .inl (κ 0, 801, .inl (fun _ => 0))), (q_10, .inl (κ 0, 40, .inl (fun _ => 0)))] := hD
  refine va_putF (D := D) (ci := 12) (v := .ref q_10) (ty := tyX12 21) (C := RX12) (T := TX12) (N := 30) hx hb hts inlX12 tyX12 tyX12_ok nmX12 hown hK hP hD hS 0 rfl rfl 21 (by decide) (hts _ mw_199) (fun _ h9 => h9) rfl hin rfl (tyX12_ok 21 (by decide)) rfl rfl (Nat.le_of_ble_eq_true rfl) dX12_init_97 (fun H locs hP hD hS => ?_)
  have hP : va_P D vwCl [(m0, .inr (12, [.ref q_1, .ref q_2, .ref q_3, .int 0, .int 0, .ref q_4, .int 0, .int 0, .int (-1), .int (-1), .int 0, .int 0, .int 0, .int 0, .ref q_5, .ref q_6, .ref q_7, .ref q_8, .int 0, .int 0, .ref q_9, .ref q_10, .int 0, .null, .null, .null, .int 0, .int 0, .null, .int 0])), (q_1, .inl (κ 0, 21375, .inl (fun _ => 0))), (q_2, .inl (κ 0, 21375, .inl (fun _ => 0))), (q_3, .inl (κ 0, 128214, .inl (fun _ => 0))), (q_4, .inl (κ 0, 800, .inl (fun _ => 0))), (q_5, .inl (κ 0, 189, .inl (fun _ => 0))), (q_6, .inl (κ 0, 9, .inl (fun _ => 0))), (q_7, .inl (κ 0, 9, .inl (fun _ => 0))), (q_8, .inl (κ 0, 7123, .inl (fun _ => 0))), (q_9, .inl (κ 0, 801, .inl (fun _ => 0))), (q_10, .inl (κ 0, 40, .inl (fun _ => 0)))] H := hP
  have hD : va_D A [(m0, .inr (12, [.ref q_1, .ref q_2, .ref q_3, .int 0, .int 0, .ref q_4, .int 0, .int 0, .int (-1), .int (-1), .int 0, .int 0, .int 0, .int 0, .ref q_5, .ref q_6, .ref q_7, .ref q_8, .int 0, .int 0, .ref q_9, .ref q_10, .int 0, .null, .null, .null, .int 0, .int 0, .null, .int 0])), (q_1, .inl (κ 0, 21375, .inl (fun _ => 0))), (q_2, .inl (κ 0, 21375, .inl (fun _ => 0))), (q_3, .inl (κ 0, 128214, .inl (fun _ => 0))), (q_4, .inl (κ 0, 800, .inl (fun _ => 0))), (q_5, .inl (κ 0, 189, .inl (fun _ => 0))), (q_6, .inl (κ 0, 9, .inl (fun _ => 0))), (q_7, .inl (κ 0, 9, .inl (fun _ => 0))), (q_8, .inl (κ 0, 7123, .inl (fun _ => 0))), (q_9, .inl (κ 0, 801, .inl (fun _ => 0))), (q_10, .inl (κ 0, 40, .inl (fun _ => 0)))] := hD
  refine lv_aload_n hx hb dX12_init_100 rfl (lv_at hl 0 rfl) ?_
  refine lv_bipush (v := 40) hx hb dX12_init_101 (by decide) ?_
  refine my_newa (atype := .int) hx hb (hts _ mw_39) rfl hK hP hD hS hA 0 rfl (N' := 40) (a0 := (40, .inl (fun _ => 0))) (fun _ => rfl) (by decide) (by decide) (Nat.le_of_ble_eq_true rfl) (Nat.le_of_ble_eq_true rfl) (Nat.le_of_ble_eq_true rfl) dX12_init_103 (fun q_11 H hP hD hS => ?_)
  have hP : va_P D vwCl [(m0, .inr (12, [.ref q_1, .ref q_2, .ref q_3, .int 0, .int 0, .ref q_4, .int 0, .int 0, .int (-1), .int (-1), .int 0, .int 0, .int 0, .int 0, .ref q_5, .ref q_6, .ref q_7, .ref q_8, .int 0, .int 0, .ref q_9, .ref q_10, .int 0, .null, .null, .null, .int 0, .int 0, .null, .int 0])), (q_1, .inl (κ 0, 21375, .inl (fun _ => 0))), (q_2, .inl (κ 0, 21375, .inl (fun _ => 0))), (q_3, .inl (κ 0, 128214, .inl (fun _ => 0))), (q_4, .inl (κ 0, 800, .inl (fun _ => 0))), (q_5, .inl (κ 0, 189, .inl (fun _ => 0))), (q_6, .inl (κ 0, 9, .inl (fun _ => 0))), (q_7, .inl (κ 0, 9, .inl (fun _ => 0))), (q_8, .inl (κ 0, 7123, .inl (fun _ => 0))), (q_9, .inl (κ 0, 801, .inl (fun _ => 0))), (q_10, .inl (κ 0, 40, .inl (fun _ => 0))), (q_11, .inl (κ 0, 40, .inl (fun _ => 0)))] H := hP
  have hD : va_D A [(m0, .inr (12, [.ref q_1, .ref q_2, .ref q_3, .int 0, .int 0, .ref q_4, .int 0, .int 0, .int (-1), .int (-1), .int 0, .int 0, .int 0, .int 0, .ref q_5, .ref q_6, .ref q_7, .ref q_8, .int 0, .int 0, .ref q_9, .ref q_10, .int 0, .null, .null, .null, .int 0, .int 0, .null, .int 0])), (q_1, .inl (κ 0, 21375, .inl (fun _ => 0))), (q_2, .inl (κ 0, 21375, .inl (fun _ => 0))), (q_3, .inl (κ 0, 128214, .inl (fun _ => 0))), (q_4, .inl (κ 0, 800, .inl (fun _ => 0))), (q_5, .inl (κ 0, 189, .inl (fun _ => 0))), (q_6, .inl (κ 0, 9, .inl (fun _ => 0))), (q_7, .inl (κ 0, 9, .inl (fun _ => 0))), (q_8, .inl (κ 0, 7123, .inl (fun _ => 0))), (q_9, .inl (κ 0, 801, .inl (fun _ => 0))), (q_10, .inl (κ 0, 40, .inl (fun _ => 0))), (q_11, .inl (κ 0, 40, .inl (fun _ => 0)))] := hD
  refine va_putF (D := D) (ci := 12) (v := .ref q_11) (ty := tyX12 23) (C := RX12) (T := TX12) (N := 30) hx hb hts inlX12 tyX12 tyX12_ok nmX12 hown hK hP hD hS 0 rfl rfl 23 (by decide) (hts _ mw_200) (fun _ h9 => h9) rfl hin rfl (tyX12_ok 23 (by decide)) rfl rfl (Nat.le_of_ble_eq_true rfl) dX12_init_105 (fun H locs hP hD hS => ?_)
  have hP : va_P D vwCl [(m0, .inr (12, [.ref q_1, .ref q_2, .ref q_3, .int 0, .int 0, .ref q_4, .int 0, .int 0, .int (-1), .int (-1), .int 0, .int 0, .int 0, .int 0, .ref q_5, .ref q_6, .ref q_7, .ref q_8, .int 0, .int 0, .ref q_9, .ref q_10, .int 0, .ref q_11, .null, .null, .int 0, .int 0, .null, .int 0])), (q_1, .inl (κ 0, 21375, .inl (fun _ => 0))), (q_2, .inl (κ 0, 21375, .inl (fun _ => 0))), (q_3, .inl (κ 0, 128214, .inl (fun _ => 0))), (q_4, .inl (κ 0, 800, .inl (fun _ => 0))), (q_5, .inl (κ 0, 189, .inl (fun _ => 0))), (q_6, .inl (κ 0, 9, .inl (fun _ => 0))), (q_7, .inl (κ 0, 9, .inl (fun _ => 0))), (q_8, .inl (κ 0, 7123, .inl (fun _ => 0))), (q_9, .inl (κ 0, 801, .inl (fun _ => 0))), (q_10, .inl (κ 0, 40, .inl (fun _ => 0))), (q_11, .inl (κ 0, 40, .inl (fun _ => 0)))] H := hP
  have hD : va_D A [(m0, .inr (12, [.ref q_1, .ref q_2, .ref q_3, .int 0, .int 0, .ref q_4, .int 0, .int 0, .int (-1), .int (-1), .int 0, .int 0, .int 0, .int 0, .ref q_5, .ref q_6, .ref q_7, .ref q_8, .int 0, .int 0, .ref q_9, .ref q_10, .int 0, .ref q_11, .null, .null, .int 0, .int 0, .null, .int 0])), (q_1, .inl (κ 0, 21375, .inl (fun _ => 0))), (q_2, .inl (κ 0, 21375, .inl (fun _ => 0))), (q_3, .inl (κ 0, 128214, .inl (fun _ => 0))), (q_4, .inl (κ 0, 800, .inl (fun _ => 0))), (q_5, .inl (κ 0, 189, .inl (fun _ => 0))), (q_6, .inl (κ 0, 9, .inl (fun _ => 0))), (q_7, .inl (κ 0, 9, .inl (fun _ => 0))), (q_8, .inl (κ 0, 7123, .inl (fun _ => 0))), (q_9, .inl (κ 0, 801, .inl (fun _ => 0))), (q_10, .inl (κ 0, 40, .inl (fun _ => 0))), (q_11, .inl (κ 0, 40, .inl (fun _ => 0)))] := hD
  refine lv_aload_n hx hb dX12_init_108 rfl (lv_at hl 0 rfl) ?_
  refine lv_bipush (v := 40) hx hb dX12_init_109 (by decide) ?_
  refine my_newa (atype := .int) hx hb (hts _ mw_39) rfl hK hP hD hS hA 0 rfl (N' := 40) (a0 := (40, .inl (fun _ => 0))) (fun _ => rfl) (by decide) (by decide) (Nat.le_of_ble_eq_true rfl) (Nat.le_of_ble_eq_true rfl) (Nat.le_of_ble_eq_true rfl) dX12_init_111 (fun q_12 H hP hD hS => ?_)
  have hP : va_P D vwCl [(m0, .inr (12, [.ref q_1, .ref q_2, .ref q_3, .int 0, .int 0, .ref q_4, .int 0, .int 0, .int (-1), .int (-1), .int 0, .int 0, .int 0, .int 0, .ref q_5, .ref q_6, .ref q_7, .ref q_8, .int 0, .int 0, .ref q_9, .ref q_10, .int 0, .ref q_11, .null, .null, .int 0, .int 0, .null, .int 0])), (q_1, .inl (κ 0, 21375, .inl (fun _ => 0))), (q_2, .inl (κ 0, 21375, .inl (fun _ => 0))), (q_3, .inl (κ 0, 128214, .inl (fun _ => 0))), (q_4, .inl (κ 0, 800, .inl (fun _ => 0))), (q_5, .inl (κ 0, 189, .inl (fun _ => 0))), (q_6, .inl (κ 0, 9, .inl (fun _ => 0))), (q_7, .inl (κ 0, 9, .inl (fun _ => 0))), (q_8, .inl (κ 0, 7123, .inl (fun _ => 0))), (q_9, .inl (κ 0, 801, .inl (fun _ => 0))), (q_10, .inl (κ 0, 40, .inl (fun _ => 0))), (q_11, .inl (κ 0, 40, .inl (fun _ => 0))), (q_12, .inl (κ 0, 40, .inl (fun _ => 0)))] H := hP
  have hD : va_D A [(m0, .inr (12, [.ref q_1, .ref q_2, .ref q_3, .int 0, .int 0, .ref q_4, .int 0, .int 0, .int (-1), .int (-1), .int 0, .int 0, .int 0, .int 0, .ref q_5, .ref q_6, .ref q_7, .ref q_8, .int 0, .int 0, .ref q_9, .ref q_10, .int 0, .ref q_11, .null, .null, .int 0, .int 0, .null, .int 0])), (q_1, .inl (κ 0, 21375, .inl (fun _ => 0))), (q_2, .inl (κ 0, 21375, .inl (fun _ => 0))), (q_3, .inl (κ 0, 128214, .inl (fun _ => 0))), (q_4, .inl (κ 0, 800, .inl (fun _ => 0))), (q_5, .inl (κ 0, 189, .inl (fun _ => 0))), (q_6, .inl (κ 0, 9, .inl (fun _ => 0))), (q_7, .inl (κ 0, 9, .inl (fun _ => 0))), (q_8, .inl (κ 0, 7123, .inl (fun _ => 0))), (q_9, .inl (κ 0, 801, .inl (fun _ => 0))), (q_10, .inl (κ 0, 40, .inl (fun _ => 0))), (q_11, .inl (κ 0, 40, .inl (fun _ => 0))), (q_12, .inl (κ 0, 40, .inl (fun _ => 0)))] := hD
  refine va_putF (D := D) (ci := 12) (v := .ref q_12) (ty := tyX12 24) (C := RX12) (T := TX12) (N := 30) hx hb hts inlX12 tyX12 tyX12_ok nmX12 hown hK hP hD hS 0 rfl rfl 24 (by decide) (hts _ mw_201) (fun _ h9 => h9) rfl hin rfl (tyX12_ok 24 (by decide)) rfl rfl (Nat.le_of_ble_eq_true rfl) dX12_init_113 (fun H locs hP hD hS => ?_)
  have hP : va_P D vwCl [(m0, .inr (12, [.ref q_1, .ref q_2, .ref q_3, .int 0, .int 0, .ref q_4, .int 0, .int 0, .int (-1), .int (-1), .int 0, .int 0, .int 0, .int 0, .ref q_5, .ref q_6, .ref q_7, .ref q_8, .int 0, .int 0, .ref q_9, .ref q_10, .int 0, .ref q_11, .ref q_12, .null, .int 0, .int 0, .null, .int 0])), (q_1, .inl (κ 0, 21375, .inl (fun _ => 0))), (q_2, .inl (κ 0, 21375, .inl (fun _ => 0))), (q_3, .inl (κ 0, 128214, .inl (fun _ => 0))), (q_4, .inl (κ 0, 800, .inl (fun _ => 0))), (q_5, .inl (κ 0, 189, .inl (fun _ => 0))), (q_6, .inl (κ 0, 9, .inl (fun _ => 0))), (q_7, .inl (κ 0, 9, .inl (fun _ => 0))), (q_8, .inl (κ 0, 7123, .inl (fun _ => 0))), (q_9, .inl (κ 0, 801, .inl (fun _ => 0))), (q_10, .inl (κ 0, 40, .inl (fun _ => 0))), (q_11, .inl (κ 0, 40, .inl (fun _ => 0))), (q_12, .inl (κ 0, 40, .inl (fun _ => 0)))] H := hP
  have hD : va_D A [(m0, .inr (12, [.ref q_1, .ref q_2, .ref q_3, .int 0, .int 0, .ref q_4, .int 0, .int 0, .int (-1), .int (-1), .int 0, .int 0, .int 0, .int 0, .ref q_5, .ref q_6, .ref q_7, .ref q_8, .int 0, .int 0, .ref q_9, .ref q_10, .int 0, .ref q_11, .ref q_12, .null, .int 0, .int 0, .null, .int 0])), (q_1, .inl (κ 0, 21375, .inl (fun _ => 0))), (q_2, .inl (κ 0, 21375, .inl (fun _ => 0))), (q_3, .inl (κ 0, 128214, .inl (fun _ => 0))), (q_4, .inl (κ 0, 800, .inl (fun _ => 0))), (q_5, .inl (κ 0, 189, .inl (fun _ => 0))), (q_6, .inl (κ 0, 9, .inl (fun _ => 0))), (q_7, .inl (κ 0, 9, .inl (fun _ => 0))), (q_8, .inl (κ 0, 7123, .inl (fun _ => 0))), (q_9, .inl (κ 0, 801, .inl (fun _ => 0))), (q_10, .inl (κ 0, 40, .inl (fun _ => 0))), (q_11, .inl (κ 0, 40, .inl (fun _ => 0))), (q_12, .inl (κ 0, 40, .inl (fun _ => 0)))] := hD
  refine lv_aload_n hx hb dX12_init_116 rfl (lv_at hl 0 rfl) ?_
  refine lv_sipush (v := 6000) hx hb dX12_init_117 (by decide) ?_
  refine my_newa (atype := .int) hx hb (hts _ mw_39) rfl hK hP hD hS hA 0 rfl (N' := 6000) (a0 := (6000, .inl (fun _ => 0))) (fun _ => rfl) (by decide) (by decide) (Nat.le_of_ble_eq_true rfl) (Nat.le_of_ble_eq_true rfl) (Nat.le_of_ble_eq_true rfl) dX12_init_120 (fun q_13 H hP hD hS => ?_)
  have hP : va_P D vwCl [(m0, .inr (12, [.ref q_1, .ref q_2, .ref q_3, .int 0, .int 0, .ref q_4, .int 0, .int 0, .int (-1), .int (-1), .int 0, .int 0, .int 0, .int 0, .ref q_5, .ref q_6, .ref q_7, .ref q_8, .int 0, .int 0, .ref q_9, .ref q_10, .int 0, .ref q_11, .ref q_12, .null, .int 0, .int 0, .null, .int 0])), (q_1, .inl (κ 0, 21375, .inl (fun _ => 0))), (q_2, .inl (κ 0, 21375, .inl (fun _ => 0))), (q_3, .inl (κ 0, 128214, .inl (fun _ => 0))), (q_4, .inl (κ 0, 800, .inl (fun _ => 0))), (q_5, .inl (κ 0, 189, .inl (fun _ => 0))), (q_6, .inl (κ 0, 9, .inl (fun _ => 0))), (q_7, .inl (κ 0, 9, .inl (fun _ => 0))), (q_8, .inl (κ 0, 7123, .inl (fun _ => 0))), (q_9, .inl (κ 0, 801, .inl (fun _ => 0))), (q_10, .inl (κ 0, 40, .inl (fun _ => 0))), (q_11, .inl (κ 0, 40, .inl (fun _ => 0))), (q_12, .inl (κ 0, 40, .inl (fun _ => 0))), (q_13, .inl (κ 0, 6000, .inl (fun _ => 0)))] H := hP
  have hD : va_D A [(m0, .inr (12, [.ref q_1, .ref q_2, .ref q_3, .int 0, .int 0, .ref q_4, .int 0, .int 0, .int (-1), .int (-1), .int 0, .int 0, .int 0, .int 0, .ref q_5, .ref q_6, .ref q_7, .ref q_8, .int 0, .int 0, .ref q_9, .ref q_10, .int 0, .ref q_11, .ref q_12, .null, .int 0, .int 0, .null, .int 0])), (q_1, .inl (κ 0, 21375, .inl (fun _ => 0))), (q_2, .inl (κ 0, 21375, .inl (fun _ => 0))), (q_3, .inl (κ 0, 128214, .inl (fun _ => 0))), (q_4, .inl (κ 0, 800, .inl (fun _ => 0))), (q_5, .inl (κ 0, 189, .inl (fun _ => 0))), (q_6, .inl (κ 0, 9, .inl (fun _ => 0))), (q_7, .inl (κ 0, 9, .inl (fun _ => 0))), (q_8, .inl (κ 0, 7123, .inl (fun _ => 0))), (q_9, .inl (κ 0, 801, .inl (fun _ => 0))), (q_10, .inl (κ 0, 40, .inl (fun _ => 0))), (q_11, .inl (κ 0, 40, .inl (fun _ => 0))), (q_12, .inl (κ 0, 40, .inl (fun _ => 0))), (q_13, .inl (κ 0, 6000, .inl (fun _ => 0)))] := hD
  refine va_putF (D := D) (ci := 12) (v := .ref q_13) (ty := tyX12 25) (C := RX12) (T := TX12) (N := 30) hx hb hts inlX12 tyX12 tyX12_ok nmX12 hown hK hP hD hS 0 rfl rfl 25 (by decide) (hts _ mw_202) (fun _ h9 => h9) rfl hin rfl (tyX12_ok 25 (by decide)) rfl rfl (Nat.le_of_ble_eq_true rfl) dX12_init_122 (fun H locs hP hD hS => ?_)
  have hP : va_P D vwCl [(m0, .inr (12, [.ref q_1, .ref q_2, .ref q_3, .int 0, .int 0, .ref q_4, .int 0, .int 0, .int (-1), .int (-1), .int 0, .int 0, .int 0, .int 0, .ref q_5, .ref q_6, .ref q_7, .ref q_8, .int 0, .int 0, .ref q_9, .ref q_10, .int 0, .ref q_11, .ref q_12, .ref q_13, .int 0, .int 0, .null, .int 0])), (q_1, .inl (κ 0, 21375, .inl (fun _ => 0))), (q_2, .inl (κ 0, 21375, .inl (fun _ => 0))), (q_3, .inl (κ 0, 128214, .inl (fun _ => 0))), (q_4, .inl (κ 0, 800, .inl (fun _ => 0))), (q_5, .inl (κ 0, 189, .inl (fun _ => 0))), (q_6, .inl (κ 0, 9, .inl (fun _ => 0))), (q_7, .inl (κ 0, 9, .inl (fun _ => 0))), (q_8, .inl (κ 0, 7123, .inl (fun _ => 0))), (q_9, .inl (κ 0, 801, .inl (fun _ => 0))), (q_10, .inl (κ 0, 40, .inl (fun _ => 0))), (q_11, .inl (κ 0, 40, .inl (fun _ => 0))), (q_12, .inl (κ 0, 40, .inl (fun _ => 0))), (q_13, .inl (κ 0, 6000, .inl (fun _ => 0)))] H := hP
  have hD : va_D A [(m0, .inr (12, [.ref q_1, .ref q_2, .ref q_3, .int 0, .int 0, .ref q_4, .int 0, .int 0, .int (-1), .int (-1), .int 0, .int 0, .int 0, .int 0, .ref q_5, .ref q_6, .ref q_7, .ref q_8, .int 0, .int 0, .ref q_9, .ref q_10, .int 0, .ref q_11, .ref q_12, .ref q_13, .int 0, .int 0, .null, .int 0])), (q_1, .inl (κ 0, 21375, .inl (fun _ => 0))), (q_2, .inl (κ 0, 21375, .inl (fun _ => 0))), (q_3, .inl (κ 0, 128214, .inl (fun _ => 0))), (q_4, .inl (κ 0, 800, .inl (fun _ => 0))), (q_5, .inl (κ 0, 189, .inl (fun _ => 0))), (q_6, .inl (κ 0, 9, .inl (fun _ => 0))), (q_7, .inl (κ 0, 9, .inl (fun _ => 0))), (q_8, .inl (κ 0, 7123, .inl (fun _ => 0))), (q_9, .inl (κ 0, 801, .inl (fun _ => 0))), (q_10, .inl (κ 0, 40, .inl (fun _ => 0))), (q_11, .inl (κ 0, 40, .inl (fun _ => 0))), (q_12, .inl (κ 0, 40, .inl (fun _ => 0))), (q_13, .inl (κ 0, 6000, .inl (fun _ => 0)))] := hD
  refine lv_aload_n hx hb dX12_init_125 rfl (lv_at hl 0 rfl) ?_
  refine lv_sipush (v := 400) hx hb dX12_init_126 (by decide) ?_
  refine my_newa (atype := .int) hx hb (hts _ mw_39) rfl hK hP hD hS hA 0 rfl (N' := 400) (a0 := (400, .inl (fun _ => 0))) (fun _ => rfl) (by decide) (by decide) (Nat.le_of_ble_eq_true rfl) (Nat.le_of_ble_eq_true rfl) (Nat.le_of_ble_eq_true rfl) dX12_init_129 (fun q_14 H hP hD hS => ?_)
  have hP : va_P D vwCl [(m0, .inr (12, [.ref q_1, .ref q_2, .ref q_3, .int 0, .int 0, .ref q_4, .int 0, .int 0, .int (-1), .int (-1), .int 0, .int 0, .int 0, .int 0, .ref q_5, .ref q_6, .ref q_7, .ref q_8, .int 0, .int 0, .ref q_9, .ref q_10, .int 0, .ref q_11, .ref q_12, .ref q_13, .int 0, .int 0, .null, .int 0])), (q_1, .inl (κ 0, 21375, .inl (fun _ => 0))), (q_2, .inl (κ 0, 21375, .inl (fun _ => 0))), (q_3, .inl (κ 0, 128214, .inl (fun _ => 0))), (q_4, .inl (κ 0, 800, .inl (fun _ => 0))), (q_5, .inl (κ 0, 189, .inl (fun _ => 0))), (q_6, .inl (κ 0, 9, .inl (fun _ => 0))), (q_7, .inl (κ 0, 9, .inl (fun _ => 0))), (q_8, .inl (κ 0, 7123, .inl (fun _ => 0))), (q_9, .inl (κ 0, 801, .inl (fun _ => 0))), (q_10, .inl (κ 0, 40, .inl (fun _ => 0))), (q_11, .inl (κ 0, 40, .inl (fun _ => 0))), (q_12, .inl (κ 0, 40, .inl (fun _ => 0))), (q_13, .inl (κ 0, 6000, .inl (fun _ => 0))), (q_14, .inl (κ 0, 400, .inl (fun _ => 0)))] H := hP
  have hD : va_D A [(m0, .inr (12, [.ref q_1, .ref q_2, .ref q_3, .int 0, .int 0, .ref q_4, .int 0, .int 0, .int (-1), .int (-1), .int 0, .int 0, .int 0, .int 0, .ref q_5, .ref q_6, .ref q_7, .ref q_8, .int 0, .int 0, .ref q_9, .ref q_10, .int 0, .ref q_11, .ref q_12, .ref q_13, .int 0, .int 0, .null, .int 0])), (q_1, .inl (κ 0, 21375, .inl (fun _ => 0))), (q_2, .inl (κ 0, 21375, .inl (fun _ => 0))), (q_3, .inl (κ 0, 128214, .inl (fun _ => 0))), (q_4, .inl (κ 0, 800, .inl (fun _ => 0))), (q_5, .inl (κ 0, 189, .inl (fun _ => 0))), (q_6, .inl (κ 0, 9, .inl (fun _ => 0))), (q_7, .inl (κ 0, 9, .inl (fun _ => 0))), (q_8, .inl (κ 0, 7123, .inl (fun _ => 0))), (q_9, .inl (κ 0, 801, .inl (fun _ => 0))), (q_10, .inl (κ 0, 40, .inl (fun _ => 0))), (q_11, .inl (κ 0, 40, .inl (fun _ => 0))), (q_12, .inl (κ 0, 40, .inl (fun _ => 0))), (q_13, .inl (κ 0, 6000, .inl (fun _ => 0))), (q_14, .inl (κ 0, 400, .inl (fun _ => 0)))] := hD
  refine va_putF (D := D) (ci := 12) (v := .ref q_14) (ty := tyX12 28) (C := RX12) (T := TX12) (N := 30) hx hb hts inlX12 tyX12 tyX12_ok nmX12 hown hK hP hD hS 0 rfl rfl 28 (by decide) (hts _ mw_203) (fun _ h9 => h9) rfl hin rfl (tyX12_ok 28 (by decide)) rfl rfl (Nat.le_of_ble_eq_true rfl) dX12_init_131 (fun H locs hP hD hS => ?_)
  have hP : va_P D vwCl [(m0, .inr (12, [.ref q_1, .ref q_2, .ref q_3, .int 0, .int 0, .ref q_4, .int 0, .int 0, .int (-1), .int (-1), .int 0, .int 0, .int 0, .int 0, .ref q_5, .ref q_6, .ref q_7, .ref q_8, .int 0, .int 0, .ref q_9, .ref q_10, .int 0, .ref q_11, .ref q_12, .ref q_13, .int 0, .int 0, .ref q_14, .int 0])), (q_1, .inl (κ 0, 21375, .inl (fun _ => 0))), (q_2, .inl (κ 0, 21375, .inl (fun _ => 0))), (q_3, .inl (κ 0, 128214, .inl (fun _ => 0))), (q_4, .inl (κ 0, 800, .inl (fun _ => 0))), (q_5, .inl (κ 0, 189, .inl (fun _ => 0))), (q_6, .inl (κ 0, 9, .inl (fun _ => 0))), (q_7, .inl (κ 0, 9, .inl (fun _ => 0))), (q_8, .inl (κ 0, 7123, .inl (fun _ => 0))), (q_9, .inl (κ 0, 801, .inl (fun _ => 0))), (q_10, .inl (κ 0, 40, .inl (fun _ => 0))), (q_11, .inl (κ 0, 40, .inl (fun _ => 0))), (q_12, .inl (κ 0, 40, .inl (fun _ => 0))), (q_13, .inl (κ 0, 6000, .inl (fun _ => 0))), (q_14, .inl (κ 0, 400, .inl (fun _ => 0)))] H := hP
  have hD : va_D A [(m0, .inr (12, [.ref q_1, .ref q_2, .ref q_3, .int 0, .int 0, .ref q_4, .int 0, .int 0, .int (-1), .int (-1), .int 0, .int 0, .int 0, .int 0, .ref q_5, .ref q_6, .ref q_7, .ref q_8, .int 0, .int 0, .ref q_9, .ref q_10, .int 0, .ref q_11, .ref q_12, .ref q_13, .int 0, .int 0, .ref q_14, .int 0])), (q_1, .inl (κ 0, 21375, .inl (fun _ => 0))), (q_2, .inl (κ 0, 21375, .inl (fun _ => 0))), (q_3, .inl (κ 0, 128214, .inl (fun _ => 0))), (q_4, .inl (κ 0, 800, .inl (fun _ => 0))), (q_5, .inl (κ 0, 189, .inl (fun _ => 0))), (q_6, .inl (κ 0, 9, .inl (fun _ => 0))), (q_7, .inl (κ 0, 9, .inl (fun _ => 0))), (q_8, .inl (κ 0, 7123, .inl (fun _ => 0))), (q_9, .inl (κ 0, 801, .inl (fun _ => 0))), (q_10, .inl (κ 0, 40, .inl (fun _ => 0))), (q_11, .inl (κ 0, 40, .inl (fun _ => 0))), (q_12, .inl (κ 0, 40, .inl (fun _ => 0))), (q_13, .inl (κ 0, 6000, .inl (fun _ => 0))), (q_14, .inl (κ 0, 400, .inl (fun _ => 0)))] := hD
  refine lv_aload_n hx hb dX12_init_134 rfl (lv_at hl 0 rfl) ?_
  refine va_get (D := D) (ci := 12) (v := .ref q_1) (C := RX12) (T := TX12) (N := 30) hx hb hts inlX12 hown hK hP 0 rfl rfl 0 (by decide) (hts _ mw_187) (fun _ h9 => h9) rfl dX12_init_135 ?_
  refine lv_sipush (v := 21369) hx hb dX12_init_138 (by decide) ?_
  refine lv_bipush (v := 44) hx hb dX12_init_141 (by decide) ?_
  refine va_iast hx hb hK hP hD hS 1 0 rfl rfl (i := 21369) (x := 44) (vp_k (by decide)) dX12_init_143 (fun H locs hP hD hS => ?_)
  have hP : va_P D vwCl [(m0, .inr (12, [.ref q_1, .ref q_2, .ref q_3, .int 0, .int 0, .ref q_4, .int 0, .int 0, .int (-1), .int (-1), .int 0, .int 0, .int 0, .int 0, .ref q_5, .ref q_6, .ref q_7, .ref q_8, .int 0, .int 0, .ref q_9, .ref q_10, .int 0, .ref q_11, .ref q_12, .ref q_13, .int 0, .int 0, .ref q_14, .int 0])), (q_1, .inl (κ 0, 21375, .inl (upd (fun _ => 0) 21369 44))), (q_2, .inl (κ 0, 21375, .inl (fun _ => 0))), (q_3, .inl (κ 0, 128214, .inl (fun _ => 0))), (q_4, .inl (κ 0, 800, .inl (fun _ => 0))), (q_5, .inl (κ 0, 189, .inl (fun _ => 0))), (q_6, .inl (κ 0, 9, .inl (fun _ => 0))), (q_7, .inl (κ 0, 9, .inl (fun _ => 0))), (q_8, .inl (κ 0, 7123, .inl (fun _ => 0))), (q_9, .inl (κ 0, 801, .inl (fun _ => 0))), (q_10, .inl (κ 0, 40, .inl (fun _ => 0))), (q_11, .inl (κ 0, 40, .inl (fun _ => 0))), (q_12, .inl (κ 0, 40, .inl (fun _ => 0))), (q_13, .inl (κ 0, 6000, .inl (fun _ => 0))), (q_14, .inl (κ 0, 400, .inl (fun _ => 0)))] H := hP
  have hD : va_D A [(m0, .inr (12, [.ref q_1, .ref q_2, .ref q_3, .int 0, .int 0, .ref q_4, .int 0, .int 0, .int (-1), .int (-1), .int 0, .int 0, .int 0, .int 0, .ref q_5, .ref q_6, .ref q_7, .ref q_8, .int 0, .int 0, .ref q_9, .ref q_10, .int 0, .ref q_11, .ref q_12, .ref q_13, .int 0, .int 0, .ref q_14, .int 0])), (q_1, .inl (κ 0, 21375, .inl (upd (fun _ => 0) 21369 44))), (q_2, .inl (κ 0, 21375, .inl (fun _ => 0))), (q_3, .inl (κ 0, 128214, .inl (fun _ => 0))), (q_4, .inl (κ 0, 800, .inl (fun _ => 0))), (q_5, .inl (κ 0, 189, .inl (fun _ => 0))), (q_6, .inl (κ 0, 9, .inl (fun _ => 0))), (q_7, .inl (κ 0, 9, .inl (fun _ => 0))), (q_8, .inl (κ 0, 7123, .inl (fun _ => 0))), (q_9, .inl (κ 0, 801, .inl (fun _ => 0))), (q_10, .inl (κ 0, 40, .inl (fun _ => 0))), (q_11, .inl (κ 0, 40, .inl (fun _ => 0))), (q_12, .inl (κ 0, 40, .inl (fun _ => 0))), (q_13, .inl (κ 0, 6000, .inl (fun _ => 0))), (q_14, .inl (κ 0, 400, .inl (fun _ => 0)))] := hD
  refine lv_aload_n hx hb dX12_init_144 rfl (lv_at hl 0 rfl) ?_
  refine va_get (D := D) (ci := 12) (v := .ref q_1) (C := RX12) (T := TX12) (N := 30) hx hb hts inlX12 hown hK hP 0 rfl rfl 0 (by decide) (hts _ mw_187) (fun _ h9 => h9) rfl dX12_init_145 ?_
  refine lv_sipush (v := 21370) hx hb dX12_init_148 (by decide) ?_
  refine lv_bipush (v := 34) hx hb dX12_init_151 (by decide) ?_
  refine va_iast hx hb hK hP hD hS 1 0 rfl rfl (i := 21370) (x := 34) (vp_k (by decide)) dX12_init_153 (fun H locs hP hD hS => ?_)
  have hP : va_P D vwCl [(m0, .inr (12, [.ref q_1, .ref q_2, .ref q_3, .int 0, .int 0, .ref q_4, .int 0, .int 0, .int (-1), .int (-1), .int 0, .int 0, .int 0, .int 0, .ref q_5, .ref q_6, .ref q_7, .ref q_8, .int 0, .int 0, .ref q_9, .ref q_10, .int 0, .ref q_11, .ref q_12, .ref q_13, .int 0, .int 0, .ref q_14, .int 0])), (q_1, .inl (κ 0, 21375, .inl (upd (upd (fun _ => 0) 21369 44) 21370 34))), (q_2, .inl (κ 0, 21375, .inl (fun _ => 0))), (q_3, .inl (κ 0, 128214, .inl (fun _ => 0))), (q_4, .inl (κ 0, 800, .inl (fun _ => 0))), (q_5, .inl (κ 0, 189, .inl (fun _ => 0))), (q_6, .inl (κ 0, 9, .inl (fun _ => 0))), (q_7, .inl (κ 0, 9, .inl (fun _ => 0))), (q_8, .inl (κ 0, 7123, .inl (fun _ => 0))), (q_9, .inl (κ 0, 801, .inl (fun _ => 0))), (q_10, .inl (κ 0, 40, .inl (fun _ => 0))), (q_11, .inl (κ 0, 40, .inl (fun _ => 0))), (q_12, .inl (κ 0, 40, .inl (fun _ => 0))), (q_13, .inl (κ 0, 6000, .inl (fun _ => 0))), (q_14, .inl (κ 0, 400, .inl (fun _ => 0)))] H := hP
  have hD : va_D A [(m0, .inr (12, [.ref q_1, .ref q_2, .ref q_3, .int 0, .int 0, .ref q_4, .int 0, .int 0, .int (-1), .int (-1), .int 0, .int 0, .int 0, .int 0, .ref q_5, .ref q_6, .ref q_7, .ref q_8, .int 0, .int 0, .ref q_9, .ref q_10, .int 0, .ref q_11, .ref q_12, .ref q_13, .int 0, .int 0, .ref q_14, .int 0])), (q_1, .inl (κ 0, 21375, .inl (upd (upd (fun _ => 0) 21369 44) 21370 34))), (q_2, .inl (κ 0, 21375, .inl (fun _ => 0))), (q_3, .inl (κ 0, 128214, .inl (fun _ => 0))), (q_4, .inl (κ 0, 800, .inl (fun _ => 0))), (q_5, .inl (κ 0, 189, .inl (fun _ => 0))), (q_6, .inl (κ 0, 9, .inl (fun _ => 0))), (q_7, .inl (κ 0, 9, .inl (fun _ => 0))), (q_8, .inl (κ 0, 7123, .inl (fun _ => 0))), (q_9, .inl (κ 0, 801, .inl (fun _ => 0))), (q_10, .inl (κ 0, 40, .inl (fun _ => 0))), (q_11, .inl (κ 0, 40, .inl (fun _ => 0))), (q_12, .inl (κ 0, 40, .inl (fun _ => 0))), (q_13, .inl (κ 0, 6000, .inl (fun _ => 0))), (q_14, .inl (κ 0, 400, .inl (fun _ => 0)))] := hD
  refine lv_aload_n hx hb dX12_init_154 rfl (lv_at hl 0 rfl) ?_
  refine va_get (D := D) (ci := 12) (v := .ref q_1) (C := RX12) (T := TX12) (N := 30) hx hb hts inlX12 hown hK hP 0 rfl rfl 0 (by decide) (hts _ mw_187) (fun _ h9 => h9) rfl dX12_init_155 ?_
  refine lv_sipush (v := 21371) hx hb dX12_init_158 (by decide) ?_
  refine lv_iconst (v := 1) hx hb dX12_init_161 (by decide) ?_
  refine va_iast hx hb hK hP hD hS 1 0 rfl rfl (i := 21371) (x := 1) (vp_k (by decide)) dX12_init_162 (fun H locs hP hD hS => ?_)
  have hP : va_P D vwCl [(m0, .inr (12, [.ref q_1, .ref q_2, .ref q_3, .int 0, .int 0, .ref q_4, .int 0, .int 0, .int (-1), .int (-1), .int 0, .int 0, .int 0, .int 0, .ref q_5, .ref q_6, .ref q_7, .ref q_8, .int 0, .int 0, .ref q_9, .ref q_10, .int 0, .ref q_11, .ref q_12, .ref q_13, .int 0, .int 0, .ref q_14, .int 0])), (q_1, .inl (κ 0, 21375, .inl (upd (upd (upd (fun _ => 0) 21369 44) 21370 34) 21371 1))), (q_2, .inl (κ 0, 21375, .inl (fun _ => 0))), (q_3, .inl (κ 0, 128214, .inl (fun _ => 0))), (q_4, .inl (κ 0, 800, .inl (fun _ => 0))), (q_5, .inl (κ 0, 189, .inl (fun _ => 0))), (q_6, .inl (κ 0, 9, .inl (fun _ => 0))), (q_7, .inl (κ 0, 9, .inl (fun _ => 0))), (q_8, .inl (κ 0, 7123, .inl (fun _ => 0))), (q_9, .inl (κ 0, 801, .inl (fun _ => 0))), (q_10, .inl (κ 0, 40, .inl (fun _ => 0))), (q_11, .inl (κ 0, 40, .inl (fun _ => 0))), (q_12, .inl (κ 0, 40, .inl (fun _ => 0))), (q_13, .inl (κ 0, 6000, .inl (fun _ => 0))), (q_14, .inl (κ 0, 400, .inl (fun _ => 0)))] H := hP
  have hD : va_D A [(m0, .inr (12, [.ref q_1, .ref q_2, .ref q_3, .int 0, .int 0, .ref q_4, .int 0, .int 0, .int (-1), .int (-1), .int 0, .int 0, .int 0, .int 0, .ref q_5, .ref q_6, .ref q_7, .ref q_8, .int 0, .int 0, .ref q_9, .ref q_10, .int 0, .ref q_11, .ref q_12, .ref q_13, .int 0, .int 0, .ref q_14, .int 0])), (q_1, .inl (κ 0, 21375, .inl (upd (upd (upd (fun _ => 0) 21369 44) 21370 34) 21371 1))), (q_2, .inl (κ 0, 21375, .inl (fun _ => 0))), (q_3, .inl (κ 0, 128214, .inl (fun _ => 0))), (q_4, .inl (κ 0, 800, .inl (fun _ => 0))), (q_5, .inl (κ 0, 189, .inl (fun _ => 0))), (q_6, .inl (κ 0, 9, .inl (fun _ => 0))), (q_7, .inl (κ 0, 9, .inl (fun _ => 0))), (q_8, .inl (κ 0, 7123, .inl (fun _ => 0))), (q_9, .inl (κ 0, 801, .inl (fun _ => 0))), (q_10, .inl (κ 0, 40, .inl (fun _ => 0))), (q_11, .inl (κ 0, 40, .inl (fun _ => 0))), (q_12, .inl (κ 0, 40, .inl (fun _ => 0))), (q_13, .inl (κ 0, 6000, .inl (fun _ => 0))), (q_14, .inl (κ 0, 400, .inl (fun _ => 0)))] := hD
  exact ct_vret hx hb hr hlk hS hP hD (q_1, q_2, q_3, q_4, q_5, q_6, q_7, q_8, q_9, q_10, q_11, q_12, q_13, q_14) rfl trivial [0, 1, 2, 3, 4, 5, 6, 7, 8, 9, 10, 11, 12, 13, 14] rfl (by decide) trivial (Nat.le_of_ble_eq_true rfl) (Nat.le_of_ble_eq_true rfl) dX12_init_163
set_option maxHeartbeats 4000000 in
set_option maxRecDepth 100000 in
theorem c_X12_comes (l : Launch) (D : va_G) (κ : Nat → ClassId) (m0 : Nat) (a0 : Nat) (a1 : Nat) (a2 : Nat) (a5 : Nat) (a14 : Nat) (a15 : Nat) (a16 : Nat) (a17 : Nat) (a20 : Nat) (a21 : Nat) (a23 : Nat) (a24 : Nat) (a25 : Nat) (a28 : Nat) (n : Nat) (f : Nat → Int32) (za : Int32) (hn : n + 4 ≤ 800) : Ct l yX12_comes (wl yX12_comes cX12_comes 3 none) { frames := 0, cells := 0, slots := 0, locals := 0 } D κ [.ref m0, .int za] [(m0, .inr (12, [.ref a0, .ref a1, .ref a2, .int 0, .int 0, .ref a5, .int (nI n), .int 0, .int (-1), .int (-1), .int 0, .int 0, .int 0, .int 0, .ref a14, .ref a15, .ref a16, .ref a17, .int 0, .int 0, .ref a20, .ref a21, .int 0, .ref a23, .ref a24, .ref a25, .int 0, .int 0, .ref a28, .int 0])), (a5, .inl (κ 0, 800, .inl f))] (fun _ => True) (fun g : Nat → Int32 => none) (fun g : Nat → Int32 => True) (fun g : Nat → Int32 => [(m0, .inr (12, [.ref a0, .ref a1, .ref a2, .int 0, .int 0, .ref a5, .int (nI (n + 4)), .int 0, .int (-1), .int (-1), .int 0, .int 0, .int 0, .int 0, .ref a14, .ref a15, .ref a16, .ref a17, .int 0, .int 0, .ref a20, .ref a21, .int 0, .ref a23, .ref a24, .ref a25, .int 0, .int 0, .ref a28, .int 0])), (a5, .inl (κ 0, 800, .inl g))]) (fun _ _ => True) := by
  refine ct_of (by decide +kernel) (Nat.le_of_ble_eq_true rfl) ?_
  intro p e s m args below meth c A ls hx hb hr hml hts hown hlk hin hKK hK hA hP hD hS hI hl
  have hS : va_S A s.heap s.heap [] := hS
  have hFX : FX p s m args c cX12_comes 3 RX12 := ⟨hx, hb, hml, hown, hts⟩
  have hl : lv_has ls 3 [(0, .ref m0), (1, .int za)] := hl
  refine lv_bipush (v := 24) hx hb dX12_comes_0 (by decide) ?_
  refine lv_istore_n (lv' := [(2, .int 24), (0, .ref m0), (1, .int za)]) hx hb dX12_comes_2 rfl hl (by decide) rfl (fun ls hl => ?_)
  refine lv_iload_n hx hb dX12_comes_3 rfl (lv_at hl 0 rfl) ?_
  refine lv_if_lt (tgt := 39) hx hb dX12_comes_4 (by decide) (fun c_1 => absurd c_1 (by decide)) (fun c_1 => ?_)
  refine lv_aload_n hx hb dX12_comes_7 rfl (lv_at hl 1 rfl) ?_
  refine va_get (D := D) (ci := 12) (v := .ref a5) (C := RX12) (T := TX12) (N := 30) hx hb hts inlX12 hown hK hP 0 rfl rfl 5 (by decide) (hts _ mw_191) (fun _ h9 => h9) rfl dX12_comes_8 ?_
  refine lv_aload_n hx hb dX12_comes_11 rfl (lv_at hl 1 rfl) ?_
  refine va_get (D := D) (ci := 12) (v := .int (nI n)) (C := RX12) (T := TX12) (N := 30) hx hb hts inlX12 hown hK hP 0 rfl rfl 6 (by decide) (hts _ mw_236) (fun _ h9 => h9) rfl dX12_comes_12 ?_
  refine lv_iload_n hx hb dX12_comes_15 rfl (lv_at hl 2 rfl) ?_
  refine lv_iload_n hx hb dX12_comes_16 rfl (lv_at hl 0 rfl) ?_
  obtain ⟨x_2, ex_2⟩ : ∃ v9 : Int32, (za.toUInt32 >>> (Int32.toUInt32 24 &&& Int32.toUInt32 31)).toInt32 = v9 := ⟨_, rfl⟩
  refine lv_iushr (v := x_2) hx hb dX12_comes_17 ex_2 ?_
  refine lv_sipush (v := 255) hx hb dX12_comes_18 (by decide) ?_
  refine lv_iand hx hb dX12_comes_21 ?_
  refine lv_topi (fun x_3 ex_3 => ?_)
  refine va_iast hx hb hK hP hD hS 1 0 rfl rfl (i := nI n) (x := x_3) (vp_in_nI (by omega) (by decide)) dX12_comes_22 (fun H locs hP hD hS => ?_)
  have hP : va_P D vwCl [(m0, .inr (12, [.ref a0, .ref a1, .ref a2, .int 0, .int 0, .ref a5, .int (nI n), .int 0, .int (-1), .int (-1), .int 0, .int 0, .int 0, .int 0, .ref a14, .ref a15, .ref a16, .ref a17, .int 0, .int 0, .ref a20, .ref a21, .int 0, .ref a23, .ref a24, .ref a25, .int 0, .int 0, .ref a28, .int 0])), (a5, .inl (κ 0, 800, .inl (upd f ((nI n).toNatClampNeg) x_3)))] H := hP
  have hD : va_D A [(m0, .inr (12, [.ref a0, .ref a1, .ref a2, .int 0, .int 0, .ref a5, .int (nI n), .int 0, .int (-1), .int (-1), .int 0, .int 0, .int 0, .int 0, .ref a14, .ref a15, .ref a16, .ref a17, .int 0, .int 0, .ref a20, .ref a21, .int 0, .ref a23, .ref a24, .ref a25, .int 0, .int 0, .ref a28, .int 0])), (a5, .inl (κ 0, 800, .inl (upd f ((nI n).toNatClampNeg) x_3)))] := hD
  refine lv_aload_n hx hb dX12_comes_23 rfl (lv_at hl 1 rfl) ?_
  refine lv_dup hx hb dX12_comes_24 rfl ?_
  refine va_get (D := D) (ci := 12) (v := .int (nI n)) (C := RX12) (T := TX12) (N := 30) hx hb hts inlX12 hown hK hP 0 rfl rfl 6 (by decide) (hts _ mw_236) (fun _ h9 => h9) rfl dX12_comes_25 ?_
  refine lv_iconst (v := 1) hx hb dX12_comes_28 (by decide) ?_
  refine lv_iadd hx hb dX12_comes_29 ?_
  refine ki (v := (nI (n + 1))) (nI_1 _) ?_
  refine va_put (D := D) (ci := 12) (v := .int (nI (n + 1))) (ty := tyX12 6) (C := RX12) (T := TX12) (N := 30) hx hb hts inlX12 tyX12 tyX12_ok nmX12 hown hK hP hD hS 0 rfl rfl 6 (by decide) (hts _ mw_236) (fun _ h9 => h9) rfl (tyX12_ok 6 (by decide)) rfl rfl (Nat.le_of_ble_eq_true rfl) dX12_comes_30 (fun H locs hP hD hS => ?_)
  have hP : va_P D vwCl [(m0, .inr (12, [.ref a0, .ref a1, .ref a2, .int 0, .int 0, .ref a5, .int (nI (n + 1)), .int 0, .int (-1), .int (-1), .int 0, .int 0, .int 0, .int 0, .ref a14, .ref a15, .ref a16, .ref a17, .int 0, .int 0, .ref a20, .ref a21, .int 0, .ref a23, .ref a24, .ref a25, .int 0, .int 0, .ref a28, .int 0])), (a5, .inl (κ 0, 800, .inl (upd f ((nI n).toNatClampNeg) x_3)))] H := hP
  have hD : va_D A [(m0, .inr (12, [.ref a0, .ref a1, .ref a2, .int 0, .int 0, .ref a5, .int (nI (n + 1)), .int 0, .int (-1), .int (-1), .int 0, .int 0, .int 0, .int 0, .ref a14, .ref a15, .ref a16, .ref a17, .int 0, .int 0, .ref a20, .ref a21, .int 0, .ref a23, .ref a24, .ref a25, .int 0, .int 0, .ref a28, .int 0])), (a5, .inl (κ 0, 800, .inl (upd f ((nI n).toNatClampNeg) x_3)))] := hD
  refine lv_iinc (v := 16) (lv' := [(2, .int 16), (0, .ref m0), (1, .int za)]) hx hb dX12_comes_33 hl (k := 0) rfl (by decide) (by decide) rfl (fun ls hl => ?_)
  refine lv_goto (tgt := 3) hx hb dX12_comes_36 (by decide) ?_
  refine lv_iload_n hx hb dX12_comes_3 rfl (lv_at hl 0 rfl) ?_
  refine lv_if_lt (tgt := 39) hx hb dX12_comes_4 (by decide) (fun c_4 => absurd c_4 (by decide)) (fun c_4 => ?_)
  refine lv_aload_n hx hb dX12_comes_7 rfl (lv_at hl 1 rfl) ?_
  refine va_get (D := D) (ci := 12) (v := .ref a5) (C := RX12) (T := TX12) (N := 30) hx hb hts inlX12 hown hK hP 0 rfl rfl 5 (by decide) (hts _ mw_191) (fun _ h9 => h9) rfl dX12_comes_8 ?_
  refine lv_aload_n hx hb dX12_comes_11 rfl (lv_at hl 1 rfl) ?_
  refine va_get (D := D) (ci := 12) (v := .int (nI (n + 1))) (C := RX12) (T := TX12) (N := 30) hx hb hts inlX12 hown hK hP 0 rfl rfl 6 (by decide) (hts _ mw_236) (fun _ h9 => h9) rfl dX12_comes_12 ?_
  refine lv_iload_n hx hb dX12_comes_15 rfl (lv_at hl 2 rfl) ?_
  refine lv_iload_n hx hb dX12_comes_16 rfl (lv_at hl 0 rfl) ?_
  obtain ⟨x_5, ex_5⟩ : ∃ v9 : Int32, (za.toUInt32 >>> (Int32.toUInt32 16 &&& Int32.toUInt32 31)).toInt32 = v9 := ⟨_, rfl⟩
  refine lv_iushr (v := x_5) hx hb dX12_comes_17 ex_5 ?_
  refine lv_sipush (v := 255) hx hb dX12_comes_18 (by decide) ?_
  refine lv_iand hx hb dX12_comes_21 ?_
  refine lv_topi (fun x_6 ex_6 => ?_)
  refine va_iast hx hb hK hP hD hS 1 0 rfl rfl (i := nI (n + 1)) (x := x_6) (vp_in_nI (by omega) (by decide)) dX12_comes_22 (fun H locs hP hD hS => ?_)
  have hP : va_P D vwCl [(m0, .inr (12, [.ref a0, .ref a1, .ref a2, .int 0, .int 0, .ref a5, .int (nI (n + 1)), .int 0, .int (-1), .int (-1), .int 0, .int 0, .int 0, .int 0, .ref a14, .ref a15, .ref a16, .ref a17, .int 0, .int 0, .ref a20, .ref a21, .int 0, .ref a23, .ref a24, .ref a25, .int 0, .int 0, .ref a28, .int 0])), (a5, .inl (κ 0, 800, .inl (upd (upd f ((nI n).toNatClampNeg) x_3) ((nI (n + 1)).toNatClampNeg) x_6)))] H := hP
  have hD : va_D A [(m0, .inr (12, [.ref a0, .ref a1, .ref a2, .int 0, .int 0, .ref a5, .int (nI (n + 1)), .int 0, .int (-1), .int (-1), .int 0, .int 0, .int 0, .int 0, .ref a14, .ref a15, .ref a16, .ref a17, .int 0, .int 0, .ref a20, .ref a21, .int 0, .ref a23, .ref a24, .ref a25, .int 0, .int 0, .ref a28, .int 0])), (a5, .inl (κ 0, 800, .inl (upd (upd f ((nI n).toNatClampNeg) x_3) ((nI (n + 1)).toNatClampNeg) x_6)))] := hD
  refine lv_aload_n hx hb dX12_comes_23 rfl (lv_at hl 1 rfl) ?_
  refine lv_dup hx hb dX12_comes_24 rfl ?_
  refine va_get (D := D) (ci := 12) (v := .int (nI (n + 1))) (C := RX12) (T := TX12) (N := 30) hx hb hts inlX12 hown hK hP 0 rfl rfl 6 (by decide) (hts _ mw_236) (fun _ h9 => h9) rfl dX12_comes_25 ?_
  refine lv_iconst (v := 1) hx hb dX12_comes_28 (by decide) ?_
  refine lv_iadd hx hb dX12_comes_29 ?_
  refine ki (v := (nI (n + 1 + 1))) (nI_1 _) ?_
  refine va_put (D := D) (ci := 12) (v := .int (nI (n + 1 + 1))) (ty := tyX12 6) (C := RX12) (T := TX12) (N := 30) hx hb hts inlX12 tyX12 tyX12_ok nmX12 hown hK hP hD hS 0 rfl rfl 6 (by decide) (hts _ mw_236) (fun _ h9 => h9) rfl (tyX12_ok 6 (by decide)) rfl rfl (Nat.le_of_ble_eq_true rfl) dX12_comes_30 (fun H locs hP hD hS => ?_)
  have hP : va_P D vwCl [(m0, .inr (12, [.ref a0, .ref a1, .ref a2, .int 0, .int 0, .ref a5, .int (nI (n + 1 + 1)), .int 0, .int (-1), .int (-1), .int 0, .int 0, .int 0, .int 0, .ref a14, .ref a15, .ref a16, .ref a17, .int 0, .int 0, .ref a20, .ref a21, .int 0, .ref a23, .ref a24, .ref a25, .int 0, .int 0, .ref a28, .int 0])), (a5, .inl (κ 0, 800, .inl (upd (upd f ((nI n).toNatClampNeg) x_3) ((nI (n + 1)).toNatClampNeg) x_6)))] H := hP
  have hD : va_D A [(m0, .inr (12, [.ref a0, .ref a1, .ref a2, .int 0, .int 0, .ref a5, .int (nI (n + 1 + 1)), .int 0, .int (-1), .int (-1), .int 0, .int 0, .int 0, .int 0, .ref a14, .ref a15, .ref a16, .ref a17, .int 0, .int 0, .ref a20, .ref a21, .int 0, .ref a23, .ref a24, .ref a25, .int 0, .int 0, .ref a28, .int 0])), (a5, .inl (κ 0, 800, .inl (upd (upd f ((nI n).toNatClampNeg) x_3) ((nI (n + 1)).toNatClampNeg) x_6)))] := hD
  refine lv_iinc (v := 8) (lv' := [(2, .int 8), (0, .ref m0), (1, .int za)]) hx hb dX12_comes_33 hl (k := 0) rfl (by decide) (by decide) rfl (fun ls hl => ?_)
  refine lv_goto (tgt := 3) hx hb dX12_comes_36 (by decide) ?_
  refine lv_iload_n hx hb dX12_comes_3 rfl (lv_at hl 0 rfl) ?_
  refine lv_if_lt (tgt := 39) hx hb dX12_comes_4 (by decide) (fun c_7 => absurd c_7 (by decide)) (fun c_7 => ?_)
  refine lv_aload_n hx hb dX12_comes_7 rfl (lv_at hl 1 rfl) ?_
  refine va_get (D := D) (ci := 12) (v := .ref a5) (C := RX12) (T := TX12) (N := 30) hx hb hts inlX12 hown hK hP 0 rfl rfl 5 (by decide) (hts _ mw_191) (fun _ h9 => h9) rfl dX12_comes_8 ?_
  refine lv_aload_n hx hb dX12_comes_11 rfl (lv_at hl 1 rfl) ?_
  refine va_get (D := D) (ci := 12) (v := .int (nI (n + 1 + 1))) (C := RX12) (T := TX12) (N := 30) hx hb hts inlX12 hown hK hP 0 rfl rfl 6 (by decide) (hts _ mw_236) (fun _ h9 => h9) rfl dX12_comes_12 ?_
  refine lv_iload_n hx hb dX12_comes_15 rfl (lv_at hl 2 rfl) ?_
  refine lv_iload_n hx hb dX12_comes_16 rfl (lv_at hl 0 rfl) ?_
  obtain ⟨x_8, ex_8⟩ : ∃ v9 : Int32, (za.toUInt32 >>> (Int32.toUInt32 8 &&& Int32.toUInt32 31)).toInt32 = v9 := ⟨_, rfl⟩
  refine lv_iushr (v := x_8) hx hb dX12_comes_17 ex_8 ?_
  refine lv_sipush (v := 255) hx hb dX12_comes_18 (by decide) ?_
  refine lv_iand hx hb dX12_comes_21 ?_
  refine lv_topi (fun x_9 ex_9 => ?_)
  refine va_iast hx hb hK hP hD hS 1 0 rfl rfl (i := nI (n + 1 + 1)) (x := x_9) (vp_in_nI (by omega) (by decide)) dX12_comes_22 (fun H locs hP hD hS => ?_)
  have hP : va_P D vwCl [(m0, .inr (12, [.ref a0, .ref a1, .ref a2, .int 0, .int 0, .ref a5, .int (nI (n + 1 + 1)), .int 0, .int (-1), .int (-1), .int 0, .int 0, .int 0, .int 0, .ref a14, .ref a15, .ref a16, .ref a17, .int 0, .int 0, .ref a20, .ref a21, .int 0, .ref a23, .ref a24, .ref a25, .int 0, .int 0, .ref a28, .int 0])), (a5, .inl (κ 0, 800, .inl (upd (upd (upd f ((nI n).toNatClampNeg) x_3) ((nI (n + 1)).toNatClampNeg) x_6) ((nI (n + 1 + 1)).toNatClampNeg) x_9)))] H := hP
  have hD : va_D A [(m0, .inr (12, [.ref a0, .ref a1, .ref a2, .int 0, .int 0, .ref a5, .int (nI (n + 1 + 1)), .int 0, .int (-1), .int (-1), .int 0, .int 0, .int 0, .int 0, .ref a14, .ref a15, .ref a16, .ref a17, .int 0, .int 0, .ref a20, .ref a21, .int 0, .ref a23, .ref a24, .ref a25, .int 0, .int 0, .ref a28, .int 0])), (a5, .inl (κ 0, 800, .inl (upd (upd (upd f ((nI n).toNatClampNeg) x_3) ((nI (n + 1)).toNatClampNeg) x_6) ((nI (n + 1 + 1)).toNatClampNeg) x_9)))] := hD
  refine lv_aload_n hx hb dX12_comes_23 rfl (lv_at hl 1 rfl) ?_
  refine lv_dup hx hb dX12_comes_24 rfl ?_
  refine va_get (D := D) (ci := 12) (v := .int (nI (n + 1 + 1))) (C := RX12) (T := TX12) (N := 30) hx hb hts inlX12 hown hK hP 0 rfl rfl 6 (by decide) (hts _ mw_236) (fun _ h9 => h9) rfl dX12_comes_25 ?_
  refine lv_iconst (v := 1) hx hb dX12_comes_28 (by decide) ?_
  refine lv_iadd hx hb dX12_comes_29 ?_
  refine ki (v := (nI (n + 1 + 1 + 1))) (nI_1 _) ?_
  refine va_put (D := D) (ci := 12) (v := .int (nI (n + 1 + 1 + 1))) (ty := tyX12 6) (C := RX12) (T := TX12) (N := 30) hx hb hts inlX12 tyX12 tyX12_ok nmX12 hown hK hP hD hS 0 rfl rfl 6 (by decide) (hts _ mw_236) (fun _ h9 => h9) rfl (tyX12_ok 6 (by decide)) rfl rfl (Nat.le_of_ble_eq_true rfl) dX12_comes_30 (fun H locs hP hD hS => ?_)
  have hP : va_P D vwCl [(m0, .inr (12, [.ref a0, .ref a1, .ref a2, .int 0, .int 0, .ref a5, .int (nI (n + 1 + 1 + 1)), .int 0, .int (-1), .int (-1), .int 0, .int 0, .int 0, .int 0, .ref a14, .ref a15, .ref a16, .ref a17, .int 0, .int 0, .ref a20, .ref a21, .int 0, .ref a23, .ref a24, .ref a25, .int 0, .int 0, .ref a28, .int 0])), (a5, .inl (κ 0, 800, .inl (upd (upd (upd f ((nI n).toNatClampNeg) x_3) ((nI (n + 1)).toNatClampNeg) x_6) ((nI (n + 1 + 1)).toNatClampNeg) x_9)))] H := hP
  have hD : va_D A [(m0, .inr (12, [.ref a0, .ref a1, .ref a2, .int 0, .int 0, .ref a5, .int (nI (n + 1 + 1 + 1)), .int 0, .int (-1), .int (-1), .int 0, .int 0, .int 0, .int 0, .ref a14, .ref a15, .ref a16, .ref a17, .int 0, .int 0, .ref a20, .ref a21, .int 0, .ref a23, .ref a24, .ref a25, .int 0, .int 0, .ref a28, .int 0])), (a5, .inl (κ 0, 800, .inl (upd (upd (upd f ((nI n).toNatClampNeg) x_3) ((nI (n + 1)).toNatClampNeg) x_6) ((nI (n + 1 + 1)).toNatClampNeg) x_9)))] := hD
  refine lv_iinc (v := 0) (lv' := [(2, .int 0), (0, .ref m0), (1, .int za)]) hx hb dX12_comes_33 hl (k := 0) rfl (by decide) (by decide) rfl (fun ls hl => ?_)
  refine lv_goto (tgt := 3) hx hb dX12_comes_36 (by decide) ?_
  refine lv_iload_n hx hb dX12_comes_3 rfl (lv_at hl 0 rfl) ?_
  refine lv_if_lt (tgt := 39) hx hb dX12_comes_4 (by decide) (fun c_10 => absurd c_10 (by decide)) (fun c_10 => ?_)
  refine lv_aload_n hx hb dX12_comes_7 rfl (lv_at hl 1 rfl) ?_
  refine va_get (D := D) (ci := 12) (v := .ref a5) (C := RX12) (T := TX12) (N := 30) hx hb hts inlX12 hown hK hP 0 rfl rfl 5 (by decide) (hts _ mw_191) (fun _ h9 => h9) rfl dX12_comes_8 ?_
  refine lv_aload_n hx hb dX12_comes_11 rfl (lv_at hl 1 rfl) ?_
  refine va_get (D := D) (ci := 12) (v := .int (nI (n + 1 + 1 + 1))) (C := RX12) (T := TX12) (N := 30) hx hb hts inlX12 hown hK hP 0 rfl rfl 6 (by decide) (hts _ mw_236) (fun _ h9 => h9) rfl dX12_comes_12 ?_
  refine lv_iload_n hx hb dX12_comes_15 rfl (lv_at hl 2 rfl) ?_
  refine lv_iload_n hx hb dX12_comes_16 rfl (lv_at hl 0 rfl) ?_
  obtain ⟨x_11, ex_11⟩ : ∃ v9 : Int32, (za.toUInt32 >>> (Int32.toUInt32 0 &&& Int32.toUInt32 31)).toInt32 = v9 := ⟨_, rfl⟩
  refine lv_iushr (v := x_11) hx hb dX12_comes_17 ex_11 ?_
  refine lv_sipush (v := 255) hx hb dX12_comes_18 (by decide) ?_
  refine lv_iand hx hb dX12_comes_21 ?_
  refine lv_topi (fun x_12 ex_12 => ?_)
  refine va_iast hx hb hK hP hD hS 1 0 rfl rfl (i := nI (n + 1 + 1 + 1)) (x := x_12) (vp_in_nI (by omega) (by decide)) dX12_comes_22 (fun H locs hP hD hS => ?_)
  have hP : va_P D vwCl [(m0, .inr (12, [.ref a0, .ref a1, .ref a2, .int 0, .int 0, .ref a5, .int (nI (n + 1 + 1 + 1)), .int 0, .int (-1), .int (-1), .int 0, .int 0, .int 0, .int 0, .ref a14, .ref a15, .ref a16, .ref a17, .int 0, .int 0, .ref a20, .ref a21, .int 0, .ref a23, .ref a24, .ref a25, .int 0, .int 0, .ref a28, .int 0])), (a5, .inl (κ 0, 800, .inl (upd (upd (upd (upd f ((nI n).toNatClampNeg) x_3) ((nI (n + 1)).toNatClampNeg) x_6) ((nI (n + 1 + 1)).toNatClampNeg) x_9) ((nI (n + 1 + 1 + 1)).toNatClampNeg) x_12)))] H := hP
  have hD : va_D A [(m0, .inr (12, [.ref a0, .ref a1, .ref a2, .int 0, .int 0, .ref a5, .int (nI (n + 1 + 1 + 1)), .int 0, .int (-1), .int (-1), .int 0, .int 0, .int 0, .int 0, .ref a14, .ref a15, .ref a16, .ref a17, .int 0, .int 0, .ref a20, .ref a21, .int 0, .ref a23, .ref a24, .ref a25, .int 0, .int 0, .ref a28, .int 0])), (a5, .inl (κ 0, 800, .inl (upd (upd (upd (upd f ((nI n).toNatClampNeg) x_3) ((nI (n + 1)).toNatClampNeg) x_6) ((nI (n + 1 + 1)).toNatClampNeg) x_9) ((nI (n + 1 + 1 + 1)).toNatClampNeg) x_12)))] := hD
  refine lv_aload_n hx hb dX12_comes_23 rfl (lv_at hl 1 rfl) ?_
  refine lv_dup hx hb dX12_comes_24 rfl ?_
  refine va_get (D := D) (ci := 12) (v := .int (nI (n + 1 + 1 + 1))) (C := RX12) (T := TX12) (N := 30) hx hb hts inlX12 hown hK hP 0 rfl rfl 6 (by decide) (hts _ mw_236) (fun _ h9 => h9) rfl dX12_comes_25 ?_
  refine lv_iconst (v := 1) hx hb dX12_comes_28 (by decide) ?_
  refine lv_iadd hx hb dX12_comes_29 ?_
  refine ki (v := (nI (n + 1 + 1 + 1 + 1))) (nI_1 _) ?_
  refine va_put (D := D) (ci := 12) (v := .int (nI (n + 1 + 1 + 1 + 1))) (ty := tyX12 6) (C := RX12) (T := TX12) (N := 30) hx hb hts inlX12 tyX12 tyX12_ok nmX12 hown hK hP hD hS 0 rfl rfl 6 (by decide) (hts _ mw_236) (fun _ h9 => h9) rfl (tyX12_ok 6 (by decide)) rfl rfl (Nat.le_of_ble_eq_true rfl) dX12_comes_30 (fun H locs hP hD hS => ?_)
  have hP : va_P D vwCl [(m0, .inr (12, [.ref a0, .ref a1, .ref a2, .int 0, .int 0, .ref a5, .int (nI (n + 1 + 1 + 1 + 1)), .int 0, .int (-1), .int (-1), .int 0, .int 0, .int 0, .int 0, .ref a14, .ref a15, .ref a16, .ref a17, .int 0, .int 0, .ref a20, .ref a21, .int 0, .ref a23, .ref a24, .ref a25, .int 0, .int 0, .ref a28, .int 0])), (a5, .inl (κ 0, 800, .inl (upd (upd (upd (upd f ((nI n).toNatClampNeg) x_3) ((nI (n + 1)).toNatClampNeg) x_6) ((nI (n + 1 + 1)).toNatClampNeg) x_9) ((nI (n + 1 + 1 + 1)).toNatClampNeg) x_12)))] H := hP
  have hD : va_D A [(m0, .inr (12, [.ref a0, .ref a1, .ref a2, .int 0, .int 0, .ref a5, .int (nI (n + 1 + 1 + 1 + 1)), .int 0, .int (-1), .int (-1), .int 0, .int 0, .int 0, .int 0, .ref a14, .ref a15, .ref a16, .ref a17, .int 0, .int 0, .ref a20, .ref a21, .int 0, .ref a23, .ref a24, .ref a25, .int 0, .int 0, .ref a28, .int 0])), (a5, .inl (κ 0, 800, .inl (upd (upd (upd (upd f ((nI n).toNatClampNeg) x_3) ((nI (n + 1)).toNatClampNeg) x_6) ((nI (n + 1 + 1)).toNatClampNeg) x_9) ((nI (n + 1 + 1 + 1)).toNatClampNeg) x_12)))] := hD
  refine lv_iinc (v := (-8)) (lv' := [(2, .int (-8)), (0, .ref m0), (1, .int za)]) hx hb dX12_comes_33 hl (k := 0) rfl (by decide) (by decide) rfl (fun ls hl => ?_)
  refine lv_goto (tgt := 3) hx hb dX12_comes_36 (by decide) ?_
  refine lv_iload_n hx hb dX12_comes_3 rfl (lv_at hl 0 rfl) ?_
  refine lv_if_lt (tgt := 39) hx hb dX12_comes_4 (by decide) (fun c_13 => ?_) (fun c_13 => absurd (by decide) c_13)
  exact ct_vret hx hb hr hlk hS hP hD (upd (upd (upd (upd f ((nI n).toNatClampNeg) x_3) ((nI (n + 1)).toNatClampNeg) x_6) ((nI (n + 1 + 1)).toNatClampNeg) x_9) ((nI (n + 1 + 1 + 1)).toNatClampNeg) x_12) rfl trivial [0, 1] rfl (by decide) trivial (Nat.le_of_ble_eq_true rfl) (Nat.le_of_ble_eq_true rfl) dX12_comes_39
set_option maxHeartbeats 4000000 in
set_option maxRecDepth 100000 in
theorem c_X12_feed (l : Launch) (D : va_G) (κ : Nat → ClassId) (m0 : Nat) (a0 : Nat) (a1 : Nat) (a2 : Nat) (a5 : Nat) (a14 : Nat) (a15 : Nat) (a16 : Nat) (a17 : Nat) (a20 : Nat) (a21 : Nat) (a23 : Nat) (a24 : Nat) (a25 : Nat) (a28 : Nat) (za : Int32) (zb : Int32) (zc : Int32) (zd : Int32) (ze : Int32) : Ct l yX12_feed (wl yX12_feed cX12_feed 6 (some .int)) { frames := 1, cells := 0, slots := 0, locals := 22 } D κ [.ref m0, .int za, .int zb, .int zc, .int zd, .int ze] [(m0, .inr (12, [.ref a0, .ref a1, .ref a2, .int 0, .int 0, .ref a5, .int 0, .int 0, .int (-1), .int (-1), .int 0, .int 0, .int 0, .int 0, .ref a14, .ref a15, .ref a16, .ref a17, .int 0, .int 0, .ref a20, .ref a21, .int 0, .ref a23, .ref a24, .ref a25, .int 0, .int 0, .ref a28, .int 0])), (a5, .inl (κ 0, 800, .inl (fun _ => 0)))] (fun _ => True) (fun _ : Unit => some (.int 20)) (fun _ : Unit => True) (fun _ : Unit => []) (fun _ _ => True) := by
  refine ct_of (by decide +kernel) (Nat.le_of_ble_eq_true rfl) ?_
  intro p e s m args below meth c A ls hx hb hr hml hts hown hlk hin hKK hK hA hP hD hS hI hl
  have hS : va_S A s.heap s.heap [] := hS
  have hFX : FX p s m args c cX12_feed 6 RX12 := ⟨hx, hb, hml, hown, hts⟩
  have hl : lv_has ls 6 [(0, .ref m0), (1, .int za), (2, .int zb), (3, .int zc), (4, .int zd), (5, .int ze)] := hl
  refine lv_aload_n hx hb dX12_feed_0 rfl (lv_at hl 0 rfl) ?_
  refine va_get (D := D) (ci := 12) (v := .int 0) (C := RX12) (T := TX12) (N := 30) hx hb hts inlX12 hown hK hP 0 rfl rfl 6 (by decide) (hts _ mw_236) (fun _ h9 => h9) rfl dX12_feed_1 ?_
  refine lv_bipush (v := 20) hx hb dX12_feed_4 (by decide) ?_
  refine lv_iadd hx hb dX12_feed_6 ?_
  refine ki (v := 20) (by decide) ?_
  refine lv_sipush (v := 800) hx hb dX12_feed_7 (by decide) ?_
  refine lv_icmp_le (tgt := 15) hx hb dX12_feed_10 (by decide) (fun c_1 => ?_) (fun c_1 => absurd (by decide) c_1)
  refine lv_aload_n hx hb dX12_feed_15 rfl (lv_at hl 0 rfl) ?_
  refine lv_iload_n hx hb dX12_feed_16 rfl (lv_at hl 1 rfl) ?_
  refine ct_V (wr := []) (As := [.int za]) (rest := []) hFX hKK hP hD hS hA (c_X12_comes l D κ m0 a0 a1 a2 a5 a14 a15 a16 a17 a20 a21 a23 a24 a25 a28 0 (fun _ => 0) za (by omega)) 1 gV_X12_86 hdV_X12_comes ⟨Nat.le_of_ble_eq_true rfl, Nat.le_of_ble_eq_true rfl⟩ rfl rfl (Nat.le_of_ble_eq_true rfl) dX12_feed_17 ⟨Nat.le_of_ble_eq_true rfl, Nat.le_of_ble_eq_true rfl⟩ hl.1 [0, 1] [] rfl rfl (by decide) (by decide) (by decide) 0 12 rfl rfl rfl trivial (fun g_2 H locs hp_3 _ hP hD hS hz_ hk_ => ?_)
  have hP : va_P D vwCl [(m0, .inr (12, [.ref a0, .ref a1, .ref a2, .int 0, .int 0, .ref a5, .int (nI (0 + 4)), .int 0, .int (-1), .int (-1), .int 0, .int 0, .int 0, .int 0, .ref a14, .ref a15, .ref a16, .ref a17, .int 0, .int 0, .ref a20, .ref a21, .int 0, .ref a23, .ref a24, .ref a25, .int 0, .int 0, .ref a28, .int 0])), (a5, .inl (κ 0, 800, .inl g_2))] H := hP
  have hD : va_D A [(m0, .inr (12, [.ref a0, .ref a1, .ref a2, .int 0, .int 0, .ref a5, .int (nI (0 + 4)), .int 0, .int (-1), .int (-1), .int 0, .int 0, .int 0, .int 0, .ref a14, .ref a15, .ref a16, .ref a17, .int 0, .int 0, .ref a20, .ref a21, .int 0, .ref a23, .ref a24, .ref a25, .int 0, .int 0, .ref a28, .int 0])), (a5, .inl (κ 0, 800, .inl g_2))] := hD
  refine W.eq (g2 := F0 m 20 ls []) rfl ?_
  refine lv_aload_n hx hb dX12_feed_20 rfl (lv_at hl 0 rfl) ?_
  refine lv_iload_n hx hb dX12_feed_21 rfl (lv_at hl 2 rfl) ?_
  refine ct_V (wr := []) (As := [.int zb]) (rest := []) hFX hKK hP hD hS hA (c_X12_comes l D κ m0 a0 a1 a2 a5 a14 a15 a16 a17 a20 a21 a23 a24 a25 a28 (0 + 4) g_2 zb (by omega)) 1 gV_X12_86 hdV_X12_comes ⟨Nat.le_of_ble_eq_true rfl, Nat.le_of_ble_eq_true rfl⟩ rfl rfl (Nat.le_of_ble_eq_true rfl) dX12_feed_22 ⟨Nat.le_of_ble_eq_true rfl, Nat.le_of_ble_eq_true rfl⟩ hl.1 [0, 1] [] rfl rfl (by decide) (by decide) (by decide) 0 12 rfl rfl rfl trivial (fun g_4 H locs hp_5 _ hP hD hS hz_ hk_ => ?_)
  have hP : va_P D vwCl [(m0, .inr (12, [.ref a0, .ref a1, .ref a2, .int 0, .int 0, .ref a5, .int (nI ((0 + 4) + 4)), .int 0, .int (-1), .int (-1), .int 0, .int 0, .int 0, .int 0, .ref a14, .ref a15, .ref a16, .ref a17, .int 0, .int 0, .ref a20, .ref a21, .int 0, .ref a23, .ref a24, .ref a25, .int 0, .int 0, .ref a28, .int 0])), (a5, .inl (κ 0, 800, .inl g_4))] H := hP
  have hD : va_D A [(m0, .inr (12, [.ref a0, .ref a1, .ref a2, .int 0, .int 0, .ref a5, .int (nI ((0 + 4) + 4)), .int 0, .int (-1), .int (-1), .int 0, .int 0, .int 0, .int 0, .ref a14, .ref a15, .ref a16, .ref a17, .int 0, .int 0, .ref a20, .ref a21, .int 0, .ref a23, .ref a24, .ref a25, .int 0, .int 0, .ref a28, .int 0])), (a5, .inl (κ 0, 800, .inl g_4))] := hD
  refine W.eq (g2 := F0 m 25 ls []) rfl ?_
  refine lv_aload_n hx hb dX12_feed_25 rfl (lv_at hl 0 rfl) ?_
  refine lv_iload_n hx hb dX12_feed_26 rfl (lv_at hl 3 rfl) ?_
  refine ct_V (wr := []) (As := [.int zc]) (rest := []) hFX hKK hP hD hS hA (c_X12_comes l D κ m0 a0 a1 a2 a5 a14 a15 a16 a17 a20 a21 a23 a24 a25 a28 ((0 + 4) + 4) g_4 zc (by omega)) 1 gV_X12_86 hdV_X12_comes ⟨Nat.le_of_ble_eq_true rfl, Nat.le_of_ble_eq_true rfl⟩ rfl rfl (Nat.le_of_ble_eq_true rfl) dX12_feed_27 ⟨Nat.le_of_ble_eq_true rfl, Nat.le_of_ble_eq_true rfl⟩ hl.1 [0, 1] [] rfl rfl (by decide) (by decide) (by decide) 0 12 rfl rfl rfl trivial (fun g_6 H locs hp_7 _ hP hD hS hz_ hk_ => ?_)
  have hP : va_P D vwCl [(m0, .inr (12, [.ref a0, .ref a1, .ref a2, .int 0, .int 0, .ref a5, .int (nI (((0 + 4) + 4) + 4)), .int 0, .int (-1), .int (-1), .int 0, .int 0, .int 0, .int 0, .ref a14, .ref a15, .ref a16, .ref a17, .int 0, .int 0, .ref a20, .ref a21, .int 0, .ref a23, .ref a24, .ref a25, .int 0, .int 0, .ref a28, .int 0])), (a5, .inl (κ 0, 800, .inl g_6))] H := hP
  have hD : va_D A [(m0, .inr (12, [.ref a0, .ref a1, .ref a2, .int 0, .int 0, .ref a5, .int (nI (((0 + 4) + 4) + 4)), .int 0, .int (-1), .int (-1), .int 0, .int 0, .int 0, .int 0, .ref a14, .ref a15, .ref a16, .ref a17, .int 0, .int 0, .ref a20, .ref a21, .int 0, .ref a23, .ref a24, .ref a25, .int 0, .int 0, .ref a28, .int 0])), (a5, .inl (κ 0, 800, .inl g_6))] := hD
  refine W.eq (g2 := F0 m 30 ls []) rfl ?_
  refine lv_aload_n hx hb dX12_feed_30 rfl (lv_at hl 0 rfl) ?_
  refine lv_iload hx hb dX12_feed_31 (lv_at hl 4 rfl) ?_
  refine ct_V (wr := []) (As := [.int zd]) (rest := []) hFX hKK hP hD hS hA (c_X12_comes l D κ m0 a0 a1 a2 a5 a14 a15 a16 a17 a20 a21 a23 a24 a25 a28 (((0 + 4) + 4) + 4) g_6 zd (by omega)) 1 gV_X12_86 hdV_X12_comes ⟨Nat.le_of_ble_eq_true rfl, Nat.le_of_ble_eq_true rfl⟩ rfl rfl (Nat.le_of_ble_eq_true rfl) dX12_feed_33 ⟨Nat.le_of_ble_eq_true rfl, Nat.le_of_ble_eq_true rfl⟩ hl.1 [0, 1] [] rfl rfl (by decide) (by decide) (by decide) 0 12 rfl rfl rfl trivial (fun g_8 H locs hp_9 _ hP hD hS hz_ hk_ => ?_)
  have hP : va_P D vwCl [(m0, .inr (12, [.ref a0, .ref a1, .ref a2, .int 0, .int 0, .ref a5, .int (nI ((((0 + 4) + 4) + 4) + 4)), .int 0, .int (-1), .int (-1), .int 0, .int 0, .int 0, .int 0, .ref a14, .ref a15, .ref a16, .ref a17, .int 0, .int 0, .ref a20, .ref a21, .int 0, .ref a23, .ref a24, .ref a25, .int 0, .int 0, .ref a28, .int 0])), (a5, .inl (κ 0, 800, .inl g_8))] H := hP
  have hD : va_D A [(m0, .inr (12, [.ref a0, .ref a1, .ref a2, .int 0, .int 0, .ref a5, .int (nI ((((0 + 4) + 4) + 4) + 4)), .int 0, .int (-1), .int (-1), .int 0, .int 0, .int 0, .int 0, .ref a14, .ref a15, .ref a16, .ref a17, .int 0, .int 0, .ref a20, .ref a21, .int 0, .ref a23, .ref a24, .ref a25, .int 0, .int 0, .ref a28, .int 0])), (a5, .inl (κ 0, 800, .inl g_8))] := hD
  refine W.eq (g2 := F0 m 36 ls []) rfl ?_
  refine lv_aload_n hx hb dX12_feed_36 rfl (lv_at hl 0 rfl) ?_
  refine lv_iload hx hb dX12_feed_37 (lv_at hl 5 rfl) ?_
  refine ct_V (wr := []) (As := [.int ze]) (rest := []) hFX hKK hP hD hS hA (c_X12_comes l D κ m0 a0 a1 a2 a5 a14 a15 a16 a17 a20 a21 a23 a24 a25 a28 ((((0 + 4) + 4) + 4) + 4) g_8 ze (by omega)) 1 gV_X12_86 hdV_X12_comes ⟨Nat.le_of_ble_eq_true rfl, Nat.le_of_ble_eq_true rfl⟩ rfl rfl (Nat.le_of_ble_eq_true rfl) dX12_feed_39 ⟨Nat.le_of_ble_eq_true rfl, Nat.le_of_ble_eq_true rfl⟩ hl.1 [0, 1] [] rfl rfl (by decide) (by decide) (by decide) 0 12 rfl rfl rfl trivial (fun g_10 H locs hp_11 _ hP hD hS hz_ hk_ => ?_)
  have hP : va_P D vwCl [(m0, .inr (12, [.ref a0, .ref a1, .ref a2, .int 0, .int 0, .ref a5, .int (nI (((((0 + 4) + 4) + 4) + 4) + 4)), .int 0, .int (-1), .int (-1), .int 0, .int 0, .int 0, .int 0, .ref a14, .ref a15, .ref a16, .ref a17, .int 0, .int 0, .ref a20, .ref a21, .int 0, .ref a23, .ref a24, .ref a25, .int 0, .int 0, .ref a28, .int 0])), (a5, .inl (κ 0, 800, .inl g_10))] H := hP
  have hD : va_D A [(m0, .inr (12, [.ref a0, .ref a1, .ref a2, .int 0, .int 0, .ref a5, .int (nI (((((0 + 4) + 4) + 4) + 4) + 4)), .int 0, .int (-1), .int (-1), .int 0, .int 0, .int 0, .int 0, .ref a14, .ref a15, .ref a16, .ref a17, .int 0, .int 0, .ref a20, .ref a21, .int 0, .ref a23, .ref a24, .ref a25, .int 0, .int 0, .ref a28, .int 0])), (a5, .inl (κ 0, 800, .inl g_10))] := hD
  refine W.eq (g2 := F0 m 42 ls []) rfl ?_
  refine lv_aload_n hx hb dX12_feed_42 rfl (lv_at hl 0 rfl) ?_
  refine va_get (D := D) (ci := 12) (v := .int (nI (((((0 + 4) + 4) + 4) + 4) + 4))) (C := RX12) (T := TX12) (N := 30) hx hb hts inlX12 hown hK hP 0 rfl rfl 6 (by decide) (hts _ mw_236) (fun _ h9 => h9) rfl dX12_feed_43 ?_
  exact ct_iret hx hb hr hlk rfl hS hP hD () rfl trivial [] rfl (by decide) trivial (Nat.le_of_ble_eq_true rfl) (Nat.le_of_ble_eq_true rfl) dX12_feed_46
set_option maxHeartbeats 4000000 in
set_option maxRecDepth 100000 in
theorem c_X12_end (l : Launch) (D : va_G) (κ : Nat → ClassId) (m0 : Nat) (a0 : Nat) (a1 : Nat) (a2 : Nat) (a5 : Nat) (a14 : Nat) (a15 : Nat) (a16 : Nat) (a17 : Nat) (a20 : Nat) (a21 : Nat) (a23 : Nat) (a24 : Nat) (a25 : Nat) (a28 : Nat) (za : Int32) : Ct l yX12_end (wl yX12_end cX12_end 2 (some .boolean)) { frames := 1, cells := 0, slots := 0, locals := 25 } D κ [.ref m0, .int za] [(m0, .inr (12, [.ref a0, .ref a1, .ref a2, .int 0, .int 0, .ref a5, .int 0, .int 0, .int (-1), .int (-1), .int 0, .int 0, .int 0, .int 0, .ref a14, .ref a15, .ref a16, .ref a17, .int 0, .int 0, .ref a20, .ref a21, .int 0, .ref a23, .ref a24, .ref a25, .int 0, .int 0, .ref a28, .int 0]))] (fun _ => True) (fun r : Int32 => some (.int r)) (fun r : Int32 => (r = 1 ∧ ¬ za < 0 ∧ za ≤ 0) ∨ (r = 0 ∧ (za < 0 ∨ ¬ za ≤ 0))) (fun r : Int32 => []) (fun _ _ => True) := by
  refine ct_of (by decide +kernel) (Nat.le_of_ble_eq_true rfl) ?_
  intro p e s m args below meth c A ls hx hb hr hml hts hown hlk hin hKK hK hA hP hD hS hI hl
  have hS : va_S A s.heap s.heap [] := hS
  have hFX : FX p s m args c cX12_end 2 RX12 := ⟨hx, hb, hml, hown, hts⟩
  have hl : lv_has ls 2 [(0, .ref m0), (1, .int za)] := hl
  refine lv_iload_n hx hb dX12_end_0 rfl (lv_at hl 1 rfl) ?_
  refine lv_i2l (v := za.toInt64) hx hb dX12_end_1 rfl ?_
  refine lv_lconst (v := 0) hx hb dX12_end_2 (by decide) ?_
  refine lv_aload_n hx hb dX12_end_3 rfl (lv_at hl 0 rfl) ?_
  refine va_get (D := D) (ci := 12) (v := .int 0) (C := RX12) (T := TX12) (N := 30) hx hb hts inlX12 hown hK hP 0 rfl rfl 6 (by decide) (hts _ mw_236) (fun _ h9 => h9) rfl dX12_end_4 ?_
  refine lv_i2l (v := 0) hx hb dX12_end_7 (by decide) ?_
  refine cr_S (As := [.long za.toInt64, .long 0, .long 0]) (rest := []) hFX hKK (c_X12_isIn l D κ za.toInt64 0 0) 3 gS_X12_62 hdS_X12_isIn rfl rfl ⟨Nat.le_of_ble_eq_true rfl, Nat.le_of_ble_eq_true rfl⟩ rfl rfl (Nat.le_of_ble_eq_true rfl) dX12_end_8 ⟨Nat.le_of_ble_eq_true rfl, Nat.le_of_ble_eq_true rfl⟩ hl.1 (hP.sub [] rfl) (fun r_1 hp_2 => ?_)
  have hp_2 : (r_1 = 1 ∧ ¬ lg_cmp za.toInt64 (0 : Int64) < 0 ∧ ¬ 0 < lg_cmp za.toInt64 (0 : Int64)) ∨ (r_1 = 0 ∧ (lg_cmp za.toInt64 (0 : Int64) < 0 ∨ 0 < lg_cmp za.toInt64 (0 : Int64))) := hp_2
  rcases hp_2 with ⟨rfl, a_3, a_4⟩ | ⟨rfl, a_5⟩
  · refine W.eq (g2 := F0 m 11 ls [.int 1]) rfl ?_
    refine lv_if_ne (tgt := 16) hx hb dX12_end_11 (by decide) (fun c_6 => ?_) (fun c_6 => absurd c_6 (by decide))
    refine lv_aload_n hx hb dX12_end_16 rfl (lv_at hl 0 rfl) ?_
    refine lv_iload_n hx hb dX12_end_17 rfl (lv_at hl 1 rfl) ?_
    refine va_put (D := D) (ci := 12) (v := .int za) (ty := tyX12 6) (C := RX12) (T := TX12) (N := 30) hx hb hts inlX12 tyX12 tyX12_ok nmX12 hown hK hP hD hS 0 rfl rfl 6 (by decide) (hts _ mw_236) (fun _ h9 => h9) rfl (tyX12_ok 6 (by decide)) rfl rfl (Nat.le_of_ble_eq_true rfl) dX12_end_18 (fun H locs hP hD hS => ?_)
    have hP : va_P D vwCl [(m0, .inr (12, [.ref a0, .ref a1, .ref a2, .int 0, .int 0, .ref a5, .int za, .int 0, .int (-1), .int (-1), .int 0, .int 0, .int 0, .int 0, .ref a14, .ref a15, .ref a16, .ref a17, .int 0, .int 0, .ref a20, .ref a21, .int 0, .ref a23, .ref a24, .ref a25, .int 0, .int 0, .ref a28, .int 0]))] H := hP
    have hD : va_D A [(m0, .inr (12, [.ref a0, .ref a1, .ref a2, .int 0, .int 0, .ref a5, .int za, .int 0, .int (-1), .int (-1), .int 0, .int 0, .int 0, .int 0, .ref a14, .ref a15, .ref a16, .ref a17, .int 0, .int 0, .ref a20, .ref a21, .int 0, .ref a23, .ref a24, .ref a25, .int 0, .int 0, .ref a28, .int 0]))] := hD
    refine lv_iconst (v := 1) hx hb dX12_end_21 (by decide) ?_
    exact ct_iret hx hb hr hlk rfl hS hP hD 1 rfl (by first | exact Or.inl (⟨rfl, (by first | assumption | exact Or.inl (by assumption) | exact Or.inr (by assumption) | exact out_ne (by assumption) (by decide) (by decide) | exact end_a (by assumption) (by assumption) | exact end_b (by assumption) (by assumption) | exact end_c (by assumption)), (by first | assumption | exact Or.inl (by assumption) | exact Or.inr (by assumption) | exact out_ne (by assumption) (by decide) (by decide) | exact end_a (by assumption) (by assumption) | exact end_b (by assumption) (by assumption) | exact end_c (by assumption))⟩)) [] rfl (by decide) trivial (Nat.le_of_ble_eq_true rfl) (Nat.le_of_ble_eq_true rfl) dX12_end_22
  · refine W.eq (g2 := F0 m 11 ls [.int 0]) rfl ?_
    refine lv_if_ne (tgt := 16) hx hb dX12_end_11 (by decide) (fun c_7 => absurd (by decide) c_7) (fun c_7 => ?_)
    refine lv_iconst (v := 0) hx hb dX12_end_14 (by decide) ?_
    exact ct_iret hx hb hr hlk rfl hS hP hD 0 rfl (by first | exact Or.inr ((⟨rfl, (by first | assumption | exact Or.inl (by assumption) | exact Or.inr (by assumption) | exact out_ne (by assumption) (by decide) (by decide) | exact end_a (by assumption) (by assumption) | exact end_b (by assumption) (by assumption) | exact end_c (by assumption))⟩))) [] rfl (by decide) trivial (Nat.le_of_ble_eq_true rfl) (Nat.le_of_ble_eq_true rfl) dX12_end_15
set_option maxHeartbeats 4000000 in
set_option maxRecDepth 100000 in
theorem c_X12_beginsReading (l : Launch) (D : va_G) (κ : Nat → ClassId) (m0 : Nat) (a0 : Nat) (a1 : Nat) (a2 : Nat) (a5 : Nat) (a14 : Nat) (a15 : Nat) (a16 : Nat) (a17 : Nat) (a20 : Nat) (a21 : Nat) (a23 : Nat) (a24 : Nat) (a25 : Nat) (a28 : Nat) : Ct l yX12_beginsReading (wl yX12_beginsReading cX12_beginsReading 1 none) { frames := 0, cells := 0, slots := 0, locals := 0 } D κ [.ref m0] [(m0, .inr (12, [.ref a0, .ref a1, .ref a2, .int 0, .int 0, .ref a5, .int 0, .int 0, .int (-1), .int (-1), .int 0, .int 0, .int 0, .int 0, .ref a14, .ref a15, .ref a16, .ref a17, .int 0, .int 0, .ref a20, .ref a21, .int 0, .ref a23, .ref a24, .ref a25, .int 0, .int 0, .ref a28, .int 0]))] (fun _ => True) (fun _ : Unit => none) (fun _ : Unit => True) (fun _ : Unit => [(m0, .inr (12, [.ref a0, .ref a1, .ref a2, .int 0, .int 0, .ref a5, .int 0, .int 0, .int (-1), .int (-1), .int 0, .int 0, .int 0, .int 0, .ref a14, .ref a15, .ref a16, .ref a17, .int 0, .int 0, .ref a20, .ref a21, .int 0, .ref a23, .ref a24, .ref a25, .int 0, .int 0, .ref a28, .int 0]))]) (fun _ _ => True) := by
  refine ct_of (by decide +kernel) (Nat.le_of_ble_eq_true rfl) ?_
  intro p e s m args below meth c A ls hx hb hr hml hts hown hlk hin hKK hK hA hP hD hS hI hl
  have hS : va_S A s.heap s.heap [] := hS
  have hFX : FX p s m args c cX12_beginsReading 1 RX12 := ⟨hx, hb, hml, hown, hts⟩
  have hl : lv_has ls 1 [(0, .ref m0)] := hl
  refine lv_aload_n hx hb dX12_beginsReading_0 rfl (lv_at hl 0 rfl) ?_
  refine lv_iconst (v := 0) hx hb dX12_beginsReading_1 (by decide) ?_
  refine va_put (D := D) (ci := 12) (v := .int 0) (ty := tyX12 7) (C := RX12) (T := TX12) (N := 30) hx hb hts inlX12 tyX12 tyX12_ok nmX12 hown hK hP hD hS 0 rfl rfl 7 (by decide) (hts _ mw_418) (fun _ h9 => h9) rfl (tyX12_ok 7 (by decide)) rfl rfl (Nat.le_of_ble_eq_true rfl) dX12_beginsReading_2 (fun H locs hP hD hS => ?_)
  have hP : va_P D vwCl [(m0, .inr (12, [.ref a0, .ref a1, .ref a2, .int 0, .int 0, .ref a5, .int 0, .int 0, .int (-1), .int (-1), .int 0, .int 0, .int 0, .int 0, .ref a14, .ref a15, .ref a16, .ref a17, .int 0, .int 0, .ref a20, .ref a21, .int 0, .ref a23, .ref a24, .ref a25, .int 0, .int 0, .ref a28, .int 0]))] H := hP
  have hD : va_D A [(m0, .inr (12, [.ref a0, .ref a1, .ref a2, .int 0, .int 0, .ref a5, .int 0, .int 0, .int (-1), .int (-1), .int 0, .int 0, .int 0, .int 0, .ref a14, .ref a15, .ref a16, .ref a17, .int 0, .int 0, .ref a20, .ref a21, .int 0, .ref a23, .ref a24, .ref a25, .int 0, .int 0, .ref a28, .int 0]))] := hD
  refine lv_aload_n hx hb dX12_beginsReading_5 rfl (lv_at hl 0 rfl) ?_
  refine lv_iconst (v := (-1)) hx hb dX12_beginsReading_6 (by decide) ?_
  refine va_put (D := D) (ci := 12) (v := .int (-1)) (ty := tyX12 8) (C := RX12) (T := TX12) (N := 30) hx hb hts inlX12 tyX12 tyX12_ok nmX12 hown hK hP hD hS 0 rfl rfl 8 (by decide) (hts _ mw_192) (fun _ h9 => h9) rfl (tyX12_ok 8 (by decide)) rfl rfl (Nat.le_of_ble_eq_true rfl) dX12_beginsReading_7 (fun H locs hP hD hS => ?_)
  have hP : va_P D vwCl [(m0, .inr (12, [.ref a0, .ref a1, .ref a2, .int 0, .int 0, .ref a5, .int 0, .int 0, .int (-1), .int (-1), .int 0, .int 0, .int 0, .int 0, .ref a14, .ref a15, .ref a16, .ref a17, .int 0, .int 0, .ref a20, .ref a21, .int 0, .ref a23, .ref a24, .ref a25, .int 0, .int 0, .ref a28, .int 0]))] H := hP
  have hD : va_D A [(m0, .inr (12, [.ref a0, .ref a1, .ref a2, .int 0, .int 0, .ref a5, .int 0, .int 0, .int (-1), .int (-1), .int 0, .int 0, .int 0, .int 0, .ref a14, .ref a15, .ref a16, .ref a17, .int 0, .int 0, .ref a20, .ref a21, .int 0, .ref a23, .ref a24, .ref a25, .int 0, .int 0, .ref a28, .int 0]))] := hD
  refine lv_aload_n hx hb dX12_beginsReading_10 rfl (lv_at hl 0 rfl) ?_
  refine lv_iconst (v := (-1)) hx hb dX12_beginsReading_11 (by decide) ?_
  refine va_put (D := D) (ci := 12) (v := .int (-1)) (ty := tyX12 9) (C := RX12) (T := TX12) (N := 30) hx hb hts inlX12 tyX12 tyX12_ok nmX12 hown hK hP hD hS 0 rfl rfl 9 (by decide) (hts _ mw_193) (fun _ h9 => h9) rfl (tyX12_ok 9 (by decide)) rfl rfl (Nat.le_of_ble_eq_true rfl) dX12_beginsReading_12 (fun H locs hP hD hS => ?_)
  have hP : va_P D vwCl [(m0, .inr (12, [.ref a0, .ref a1, .ref a2, .int 0, .int 0, .ref a5, .int 0, .int 0, .int (-1), .int (-1), .int 0, .int 0, .int 0, .int 0, .ref a14, .ref a15, .ref a16, .ref a17, .int 0, .int 0, .ref a20, .ref a21, .int 0, .ref a23, .ref a24, .ref a25, .int 0, .int 0, .ref a28, .int 0]))] H := hP
  have hD : va_D A [(m0, .inr (12, [.ref a0, .ref a1, .ref a2, .int 0, .int 0, .ref a5, .int 0, .int 0, .int (-1), .int (-1), .int 0, .int 0, .int 0, .int 0, .ref a14, .ref a15, .ref a16, .ref a17, .int 0, .int 0, .ref a20, .ref a21, .int 0, .ref a23, .ref a24, .ref a25, .int 0, .int 0, .ref a28, .int 0]))] := hD
  exact ct_vret hx hb hr hlk hS hP hD () rfl trivial [0] rfl (by decide) trivial (Nat.le_of_ble_eq_true rfl) (Nat.le_of_ble_eq_true rfl) dX12_beginsReading_15
set_option maxHeartbeats 4000000 in
set_option maxRecDepth 100000 in
theorem c_X12_passes (l : Launch) (D : va_G) (κ : Nat → ClassId) (m0 : Nat) (a0 : Nat) (a1 : Nat) (a2 : Nat) (a5 : Nat) (a14 : Nat) (a15 : Nat) (a16 : Nat) (a17 : Nat) (a20 : Nat) (a21 : Nat) (a23 : Nat) (a24 : Nat) (a25 : Nat) (a28 : Nat) : Cr l yX12_passes (wl yX12_passes cX12_passes 2 (some .boolean)) { frames := 0, cells := 0, slots := 0, locals := 0 } D κ [.ref m0] (va_P D vwCl [(m0, .inr (12, [.ref a0, .ref a1, .ref a2, .int 0, .int 0, .ref a5, .int 0, .int 0, .int (-1), .int (-1), .int 0, .int 0, .int 0, .int 0, .ref a14, .ref a15, .ref a16, .ref a17, .int 0, .int 0, .ref a20, .ref a21, .int 0, .ref a23, .ref a24, .ref a25, .int 0, .int 0, .ref a28, .int 0]))]) (fun _ : Unit => some (.int 0)) (fun _ : Unit => True) := by
  refine cr_of (by decide +kernel) (Nat.le_of_ble_eq_true rfl) ?_
  intro p e s m args below meth c ls hx hb hr hml hts hown hlk hKK hK hI hl
  have hP : va_P D vwCl [(m0, .inr (12, [.ref a0, .ref a1, .ref a2, .int 0, .int 0, .ref a5, .int 0, .int 0, .int (-1), .int (-1), .int 0, .int 0, .int 0, .int 0, .ref a14, .ref a15, .ref a16, .ref a17, .int 0, .int 0, .ref a20, .ref a21, .int 0, .ref a23, .ref a24, .ref a25, .int 0, .int 0, .ref a28, .int 0]))] s.heap := hI
  have hFX : FX p s m args c cX12_passes 2 RX12 := ⟨hx, hb, hml, hown, hts⟩
  have hl : lv_has ls 2 [(0, .ref m0)] := hl
  refine lv_aload_n hx hb dX12_passes_0 rfl (lv_at hl 0 rfl) ?_
  refine va_get (D := D) (ci := 12) (v := .int 0) (C := RX12) (T := TX12) (N := 30) hx hb hts inlX12 hown hK hP 0 rfl rfl 11 (by decide) (hts _ mw_423) (fun _ h9 => h9) rfl dX12_passes_1 ?_
  refine lv_aload_n hx hb dX12_passes_4 rfl (lv_at hl 0 rfl) ?_
  refine va_get (D := D) (ci := 12) (v := .int 0) (C := RX12) (T := TX12) (N := 30) hx hb hts inlX12 hown hK hP 0 rfl rfl 6 (by decide) (hts _ mw_236) (fun _ h9 => h9) rfl dX12_passes_5 ?_
  refine lv_icmp_ge (tgt := 130) hx hb dX12_passes_8 (by decide) (fun c_1 => ?_) (fun c_1 => absurd (by decide) c_1)
  refine lv_iconst (v := 0) hx hb dX12_passes_130 (by decide) ?_
  exact cr_iret hx hb hr hlk rfl () rfl trivial dX12_passes_131
set_option maxHeartbeats 4000000 in
set_option maxRecDepth 100000 in
theorem c_X12_wrong (l : Launch) (D : va_G) (κ : Nat → ClassId) (m0 : Nat) (a0 : Nat) (a1 : Nat) (a2 : Nat) (a5 : Nat) (a14 : Nat) (a15 : Nat) (a16 : Nat) (a17 : Nat) (a20 : Nat) (a21 : Nat) (a23 : Nat) (a24 : Nat) (a25 : Nat) (a28 : Nat) : Ct l yX12_wrong (wl yX12_wrong cX12_wrong 4 (some .boolean)) { frames := 0, cells := 0, slots := 0, locals := 0 } D κ [.ref m0, .int 9, .int 0, .int (-1)] [(m0, .inr (12, [.ref a0, .ref a1, .ref a2, .int 0, .int 0, .ref a5, .int 0, .int 0, .int (-1), .int (-1), .int 0, .int 0, .int 0, .int 0, .ref a14, .ref a15, .ref a16, .ref a17, .int 0, .int 0, .ref a20, .ref a21, .int 0, .ref a23, .ref a24, .ref a25, .int 0, .int 0, .ref a28, .int 0]))] (fun _ => True) (fun _ : Unit => some (.int 0)) (fun _ : Unit => True) (fun _ : Unit => [(m0, .inr (12, [.ref a0, .ref a1, .ref a2, .int 0, .int 0, .ref a5, .int 0, .int 9, .int 0, .int (-1), .int 0, .int 0, .int 0, .int 0, .ref a14, .ref a15, .ref a16, .ref a17, .int 0, .int 0, .ref a20, .ref a21, .int 0, .ref a23, .ref a24, .ref a25, .int 0, .int 0, .ref a28, .int 0]))]) (fun _ _ => True) := by
  refine ct_of (by decide +kernel) (Nat.le_of_ble_eq_true rfl) ?_
  intro p e s m args below meth c A ls hx hb hr hml hts hown hlk hin hKK hK hA hP hD hS hI hl
  have hS : va_S A s.heap s.heap [] := hS
  have hFX : FX p s m args c cX12_wrong 4 RX12 := ⟨hx, hb, hml, hown, hts⟩
  have hl : lv_has ls 4 [(0, .ref m0), (1, .int 9), (2, .int 0), (3, .int (-1))] := hl
  refine lv_aload_n hx hb dX12_wrong_0 rfl (lv_at hl 0 rfl) ?_
  refine lv_iload_n hx hb dX12_wrong_1 rfl (lv_at hl 1 rfl) ?_
  refine va_put (D := D) (ci := 12) (v := .int 9) (ty := tyX12 7) (C := RX12) (T := TX12) (N := 30) hx hb hts inlX12 tyX12 tyX12_ok nmX12 hown hK hP hD hS 0 rfl rfl 7 (by decide) (hts _ mw_418) (fun _ h9 => h9) rfl (tyX12_ok 7 (by decide)) rfl rfl (Nat.le_of_ble_eq_true rfl) dX12_wrong_2 (fun H locs hP hD hS => ?_)
  have hP : va_P D vwCl [(m0, .inr (12, [.ref a0, .ref a1, .ref a2, .int 0, .int 0, .ref a5, .int 0, .int 9, .int (-1), .int (-1), .int 0, .int 0, .int 0, .int 0, .ref a14, .ref a15, .ref a16, .ref a17, .int 0, .int 0, .ref a20, .ref a21, .int 0, .ref a23, .ref a24, .ref a25, .int 0, .int 0, .ref a28, .int 0]))] H := hP
  have hD : va_D A [(m0, .inr (12, [.ref a0, .ref a1, .ref a2, .int 0, .int 0, .ref a5, .int 0, .int 9, .int (-1), .int (-1), .int 0, .int 0, .int 0, .int 0, .ref a14, .ref a15, .ref a16, .ref a17, .int 0, .int 0, .ref a20, .ref a21, .int 0, .ref a23, .ref a24, .ref a25, .int 0, .int 0, .ref a28, .int 0]))] := hD
  refine lv_aload_n hx hb dX12_wrong_5 rfl (lv_at hl 0 rfl) ?_
  refine lv_iload_n hx hb dX12_wrong_6 rfl (lv_at hl 2 rfl) ?_
  refine va_put (D := D) (ci := 12) (v := .int 0) (ty := tyX12 8) (C := RX12) (T := TX12) (N := 30) hx hb hts inlX12 tyX12 tyX12_ok nmX12 hown hK hP hD hS 0 rfl rfl 8 (by decide) (hts _ mw_192) (fun _ h9 => h9) rfl (tyX12_ok 8 (by decide)) rfl rfl (Nat.le_of_ble_eq_true rfl) dX12_wrong_7 (fun H locs hP hD hS => ?_)
  have hP : va_P D vwCl [(m0, .inr (12, [.ref a0, .ref a1, .ref a2, .int 0, .int 0, .ref a5, .int 0, .int 9, .int 0, .int (-1), .int 0, .int 0, .int 0, .int 0, .ref a14, .ref a15, .ref a16, .ref a17, .int 0, .int 0, .ref a20, .ref a21, .int 0, .ref a23, .ref a24, .ref a25, .int 0, .int 0, .ref a28, .int 0]))] H := hP
  have hD : va_D A [(m0, .inr (12, [.ref a0, .ref a1, .ref a2, .int 0, .int 0, .ref a5, .int 0, .int 9, .int 0, .int (-1), .int 0, .int 0, .int 0, .int 0, .ref a14, .ref a15, .ref a16, .ref a17, .int 0, .int 0, .ref a20, .ref a21, .int 0, .ref a23, .ref a24, .ref a25, .int 0, .int 0, .ref a28, .int 0]))] := hD
  refine lv_aload_n hx hb dX12_wrong_10 rfl (lv_at hl 0 rfl) ?_
  refine lv_iload_n hx hb dX12_wrong_11 rfl (lv_at hl 3 rfl) ?_
  refine va_put (D := D) (ci := 12) (v := .int (-1)) (ty := tyX12 9) (C := RX12) (T := TX12) (N := 30) hx hb hts inlX12 tyX12 tyX12_ok nmX12 hown hK hP hD hS 0 rfl rfl 9 (by decide) (hts _ mw_193) (fun _ h9 => h9) rfl (tyX12_ok 9 (by decide)) rfl rfl (Nat.le_of_ble_eq_true rfl) dX12_wrong_12 (fun H locs hP hD hS => ?_)
  have hP : va_P D vwCl [(m0, .inr (12, [.ref a0, .ref a1, .ref a2, .int 0, .int 0, .ref a5, .int 0, .int 9, .int 0, .int (-1), .int 0, .int 0, .int 0, .int 0, .ref a14, .ref a15, .ref a16, .ref a17, .int 0, .int 0, .ref a20, .ref a21, .int 0, .ref a23, .ref a24, .ref a25, .int 0, .int 0, .ref a28, .int 0]))] H := hP
  have hD : va_D A [(m0, .inr (12, [.ref a0, .ref a1, .ref a2, .int 0, .int 0, .ref a5, .int 0, .int 9, .int 0, .int (-1), .int 0, .int 0, .int 0, .int 0, .ref a14, .ref a15, .ref a16, .ref a17, .int 0, .int 0, .ref a20, .ref a21, .int 0, .ref a23, .ref a24, .ref a25, .int 0, .int 0, .ref a28, .int 0]))] := hD
  refine lv_iconst (v := 0) hx hb dX12_wrong_15 (by decide) ?_
  exact ct_iret hx hb hr hlk rfl hS hP hD () rfl trivial [0] rfl (by decide) trivial (Nat.le_of_ble_eq_true rfl) (Nat.le_of_ble_eq_true rfl) dX12_wrong_16
set_option maxHeartbeats 4000000 in
set_option maxRecDepth 100000 in
theorem c_X12_readsTable (l : Launch) (D : va_G) (κ : Nat → ClassId) (m0 : Nat) (a0 : Nat) (a1 : Nat) (a2 : Nat) (a5 : Nat) (a14 : Nat) (a15 : Nat) (a16 : Nat) (a17 : Nat) (a20 : Nat) (a21 : Nat) (a23 : Nat) (a24 : Nat) (a25 : Nat) (a28 : Nat) : Ct l yX12_readsTable (wl yX12_readsTable cX12_readsTable 3 (some .boolean)) { frames := 1, cells := 0, slots := 0, locals := 23 } D κ [.ref m0] [(m0, .inr (12, [.ref a0, .ref a1, .ref a2, .int 0, .int 0, .ref a5, .int 0, .int 0, .int (-1), .int (-1), .int 0, .int 0, .int 0, .int 0, .ref a14, .ref a15, .ref a16, .ref a17, .int 0, .int 0, .ref a20, .ref a21, .int 0, .ref a23, .ref a24, .ref a25, .int 0, .int 0, .ref a28, .int 0])), (a17, .inl (κ 0, 7123, .inl (fun _ => 0)))] (fun _ => True) (fun _ : Unit => some (.int 0)) (fun _ : Unit => True) (fun _ : Unit => [(m0, .inr (12, [.ref a0, .ref a1, .ref a2, .int 0, .int 0, .ref a5, .int 0, .int 9, .int 0, .int (-1), .int 0, .int 0, .int 0, .int 0, .ref a14, .ref a15, .ref a16, .ref a17, .int 0, .int 0, .ref a20, .ref a21, .int 0, .ref a23, .ref a24, .ref a25, .int 0, .int 0, .ref a28, .int 0]))]) (fun _ _ => True) := by
  refine ct_of (by decide +kernel) (Nat.le_of_ble_eq_true rfl) ?_
  intro p e s m args below meth c A ls hx hb hr hml hts hown hlk hin hKK hK hA hP hD hS hI hl
  have hS : va_S A s.heap s.heap [] := hS
  have hFX : FX p s m args c cX12_readsTable 3 RX12 := ⟨hx, hb, hml, hown, hts⟩
  have hl : lv_has ls 3 [(0, .ref m0)] := hl
  refine lv_iconst (v := 0) hx hb dX12_readsTable_0 (by decide) ?_
  refine lv_istore_n (lv' := [(1, .int 0), (0, .ref m0)]) hx hb dX12_readsTable_1 rfl hl (by decide) rfl (fun ls hl => ?_)
  refine loop_up (fun k H locs ls => va_P D vwCl [(m0, .inr (12, [.ref a0, .ref a1, .ref a2, .int 0, .int 0, .ref a5, .int 0, .int 0, .int (-1), .int (-1), .int 0, .int 0, .int 0, .int 0, .ref a14, .ref a15, .ref a16, .ref a17, .int 0, .int 0, .ref a20, .ref a21, .int 0, .ref a23, .ref a24, .ref a25, .int 0, .int 0, .ref a28, .int 0])), (a17, .inl (κ 0, 7123, .inl (fun _ => 0)))] H ∧ va_D A [(m0, .inr (12, [.ref a0, .ref a1, .ref a2, .int 0, .int 0, .ref a5, .int 0, .int 0, .int (-1), .int (-1), .int 0, .int 0, .int 0, .int 0, .ref a14, .ref a15, .ref a16, .ref a17, .int 0, .int 0, .ref a20, .ref a21, .int 0, .ref a23, .ref a24, .ref a25, .int 0, .int 0, .ref a28, .int 0])), (a17, .inl (κ 0, 7123, .inl (fun _ => 0)))] ∧ va_S A s.heap H locs ∧ lv_has ls 3 [(1, .int (nI k)), (0, .ref m0)]) 7123 (fun k H locs ls hk2 hI2 ih2 => ?_) (fun H locs ls hI2 => ?_) 0 _ _ _ (by omega) ⟨hP, hD, hS, lv_sub hl [0, 1] rfl⟩
  · obtain ⟨hP, hD, hS, hl⟩ := hI2
    refine lv_iload_n hx hb dX12_readsTable_2 rfl (lv_at hl 0 rfl) ?_
    refine lv_sipush (v := 7123) hx hb dX12_readsTable_3 (by decide) ?_
    refine lv_icmp_ge (tgt := 22) hx hb dX12_readsTable_6 (by decide) (fun c_1 => absurd c_1 (nI_ge (a := k) (b := 7123) (by omega) (by decide))) (fun c_1 => ?_)
    refine lv_aload_n hx hb dX12_readsTable_9 rfl (lv_at hl 1 rfl) ?_
    refine va_get (D := D) (ci := 12) (v := .ref a17) (C := RX12) (T := TX12) (N := 30) hx hb hts inlX12 hown hK hP 0 rfl rfl 17 (by decide) (hts _ mw_197) (fun _ h9 => h9) rfl dX12_readsTable_10 ?_
    refine lv_iload_n hx hb dX12_readsTable_13 rfl (lv_at hl 0 rfl) ?_
    refine lv_iconst (v := 0) hx hb dX12_readsTable_14 (by decide) ?_
    refine va_iast hx hb hK hP hD hS 1 0 rfl rfl (i := nI k) (x := 0) (vp_in_nI (by omega) (by decide)) dX12_readsTable_15 (fun H locs hP hD hS => ?_)
    rw [show upd (fun _ => 0) ((nI k).toNatClampNeg) 0 = fun _ => 0 from (by funext j; simp [upd])] at hP hD
    have hP : va_P D vwCl [(m0, .inr (12, [.ref a0, .ref a1, .ref a2, .int 0, .int 0, .ref a5, .int 0, .int 0, .int (-1), .int (-1), .int 0, .int 0, .int 0, .int 0, .ref a14, .ref a15, .ref a16, .ref a17, .int 0, .int 0, .ref a20, .ref a21, .int 0, .ref a23, .ref a24, .ref a25, .int 0, .int 0, .ref a28, .int 0])), (a17, .inl (κ 0, 7123, .inl (fun _ => 0)))] H := hP
    have hD : va_D A [(m0, .inr (12, [.ref a0, .ref a1, .ref a2, .int 0, .int 0, .ref a5, .int 0, .int 0, .int (-1), .int (-1), .int 0, .int 0, .int 0, .int 0, .ref a14, .ref a15, .ref a16, .ref a17, .int 0, .int 0, .ref a20, .ref a21, .int 0, .ref a23, .ref a24, .ref a25, .int 0, .int 0, .ref a28, .int 0])), (a17, .inl (κ 0, 7123, .inl (fun _ => 0)))] := hD
    refine lv_iinc (v := (nI (k + 1))) (lv' := [(1, .int (nI (k + 1))), (0, .ref m0)]) hx hb dX12_readsTable_16 hl (k := 0) rfl (nI_i k) (by decide) rfl (fun ls hl => ?_)
    refine lv_goto (tgt := 2) hx hb dX12_readsTable_19 (by decide) ?_
    exact ih2 _ _ _ ⟨hP, hD, hS, lv_sub hl [0, 1] rfl⟩
  · obtain ⟨hP, hD, hS, hl⟩ := hI2
    have hl : lv_has ls 3 [(1, .int 7123), (0, .ref m0)] := hl
    have hP : va_P D vwCl [(m0, .inr (12, [.ref a0, .ref a1, .ref a2, .int 0, .int 0, .ref a5, .int 0, .int 0, .int (-1), .int (-1), .int 0, .int 0, .int 0, .int 0, .ref a14, .ref a15, .ref a16, .ref a17, .int 0, .int 0, .ref a20, .ref a21, .int 0, .ref a23, .ref a24, .ref a25, .int 0, .int 0, .ref a28, .int 0])), (a17, .inl (κ 0, 7123, .inl (fun _ => 0)))] H := hP
    have hD : va_D A [(m0, .inr (12, [.ref a0, .ref a1, .ref a2, .int 0, .int 0, .ref a5, .int 0, .int 0, .int (-1), .int (-1), .int 0, .int 0, .int 0, .int 0, .ref a14, .ref a15, .ref a16, .ref a17, .int 0, .int 0, .ref a20, .ref a21, .int 0, .ref a23, .ref a24, .ref a25, .int 0, .int 0, .ref a28, .int 0])), (a17, .inl (κ 0, 7123, .inl (fun _ => 0)))] := hD
    refine lv_iload_n hx hb dX12_readsTable_2 rfl (lv_at hl 0 rfl) ?_
    refine lv_sipush (v := 7123) hx hb dX12_readsTable_3 (by decide) ?_
    refine lv_icmp_ge (tgt := 22) hx hb dX12_readsTable_6 (by decide) (fun c_3 => ?_) (fun c_3 => absurd (by decide) c_3)
    refine lv_aload_n hx hb dX12_readsTable_22 rfl (lv_at hl 1 rfl) ?_
    refine va_get (D := D) (ci := 12) (v := .ref a17) (C := RX12) (T := TX12) (N := 30) hx hb hts inlX12 hown hK hP 0 rfl rfl 17 (by decide) (hts _ mw_197) (fun _ h9 => h9) rfl dX12_readsTable_23 ?_
    refine lv_iconst (v := 0) hx hb dX12_readsTable_26 (by decide) ?_
    refine lv_iconst (v := 1) hx hb dX12_readsTable_27 (by decide) ?_
    refine va_iast hx hb hK hP hD hS 1 0 rfl rfl (i := 0) (x := 1) (vp_k (by decide)) dX12_readsTable_28 (fun H locs hP hD hS => ?_)
    have hP : va_P D vwCl [(m0, .inr (12, [.ref a0, .ref a1, .ref a2, .int 0, .int 0, .ref a5, .int 0, .int 0, .int (-1), .int (-1), .int 0, .int 0, .int 0, .int 0, .ref a14, .ref a15, .ref a16, .ref a17, .int 0, .int 0, .ref a20, .ref a21, .int 0, .ref a23, .ref a24, .ref a25, .int 0, .int 0, .ref a28, .int 0])), (a17, .inl (κ 0, 7123, .inl (upd (fun _ => 0) 0 1)))] H := hP
    have hD : va_D A [(m0, .inr (12, [.ref a0, .ref a1, .ref a2, .int 0, .int 0, .ref a5, .int 0, .int 0, .int (-1), .int (-1), .int 0, .int 0, .int 0, .int 0, .ref a14, .ref a15, .ref a16, .ref a17, .int 0, .int 0, .ref a20, .ref a21, .int 0, .ref a23, .ref a24, .ref a25, .int 0, .int 0, .ref a28, .int 0])), (a17, .inl (κ 0, 7123, .inl (upd (fun _ => 0) 0 1)))] := hD
    refine lv_aload_n hx hb dX12_readsTable_29 rfl (lv_at hl 1 rfl) ?_
    refine lv_iconst (v := 0) hx hb dX12_readsTable_30 (by decide) ?_
    refine va_put (D := D) (ci := 12) (v := .int 0) (ty := tyX12 11) (C := RX12) (T := TX12) (N := 30) hx hb hts inlX12 tyX12 tyX12_ok nmX12 hown hK hP hD hS 0 rfl rfl 11 (by decide) (hts _ mw_423) (fun _ h9 => h9) rfl (tyX12_ok 11 (by decide)) rfl rfl (Nat.le_of_ble_eq_true rfl) dX12_readsTable_31 (fun H locs hP hD hS => ?_)
    have hP : va_P D vwCl [(m0, .inr (12, [.ref a0, .ref a1, .ref a2, .int 0, .int 0, .ref a5, .int 0, .int 0, .int (-1), .int (-1), .int 0, .int 0, .int 0, .int 0, .ref a14, .ref a15, .ref a16, .ref a17, .int 0, .int 0, .ref a20, .ref a21, .int 0, .ref a23, .ref a24, .ref a25, .int 0, .int 0, .ref a28, .int 0])), (a17, .inl (κ 0, 7123, .inl (upd (fun _ => 0) 0 1)))] H := hP
    have hD : va_D A [(m0, .inr (12, [.ref a0, .ref a1, .ref a2, .int 0, .int 0, .ref a5, .int 0, .int 0, .int (-1), .int (-1), .int 0, .int 0, .int 0, .int 0, .ref a14, .ref a15, .ref a16, .ref a17, .int 0, .int 0, .ref a20, .ref a21, .int 0, .ref a23, .ref a24, .ref a25, .int 0, .int 0, .ref a28, .int 0])), (a17, .inl (κ 0, 7123, .inl (upd (fun _ => 0) 0 1)))] := hD
    refine lv_aload_n hx hb dX12_readsTable_34 rfl (lv_at hl 1 rfl) ?_
    refine cr_V (As := []) (rest := []) hFX hKK (c_X12_passes l D κ m0 a0 a1 a2 a5 a14 a15 a16 a17 a20 a21 a23 a24 a25 a28) 0 gV_X12_252 hdV_X12_passes rfl rfl ⟨Nat.le_of_ble_eq_true rfl, Nat.le_of_ble_eq_true rfl⟩ rfl rfl (Nat.le_of_ble_eq_true rfl) dX12_readsTable_35 ⟨Nat.le_of_ble_eq_true rfl, Nat.le_of_ble_eq_true rfl⟩ hl.1 hP 0 12 rfl rfl rfl (hP.sub [0] rfl) (fun _ hp_4 => ?_)
    refine W.eq (g2 := F0 m 38 ls [.int 0]) rfl ?_
    refine lv_if_eq (tgt := 198) hx hb dX12_readsTable_38 (by decide) (fun c_5 => ?_) (fun c_5 => absurd (by decide) c_5)
    refine lv_aload_n hx hb dX12_readsTable_198 rfl (lv_at hl 1 rfl) ?_
    refine va_get (D := D) (ci := 12) (v := .ref a17) (C := RX12) (T := TX12) (N := 30) hx hb hts inlX12 hown hK hP 0 rfl rfl 17 (by decide) (hts _ mw_197) (fun _ h9 => h9) rfl dX12_readsTable_199 ?_
    refine lv_iconst (v := 1) hx hb dX12_readsTable_202 (by decide) ?_
    refine va_iald hx hb hK hP 1 0 rfl rfl (i := 1) (vp_k (by decide)) dX12_readsTable_203 ?_
    refine kv (v := .int 0) rfl ?_
    refine lv_if_gt (tgt := 221) hx hb dX12_readsTable_204 (by decide) (fun c_6 => absurd c_6 (by decide)) (fun c_6 => ?_)
    refine lv_aload_n hx hb dX12_readsTable_207 rfl (lv_at hl 1 rfl) ?_
    refine lv_bipush (v := 9) hx hb dX12_readsTable_208 (by decide) ?_
    refine lv_aload_n hx hb dX12_readsTable_210 rfl (lv_at hl 1 rfl) ?_
    refine va_get (D := D) (ci := 12) (v := .int 0) (C := RX12) (T := TX12) (N := 30) hx hb hts inlX12 hown hK hP 0 rfl rfl 6 (by decide) (hts _ mw_236) (fun _ h9 => h9) rfl dX12_readsTable_211 ?_
    refine lv_iconst (v := (-1)) hx hb dX12_readsTable_214 (by decide) ?_
    refine ct_V (wr := [(a17, .inl (κ 0, 7123, .inl (upd (fun _ => 0) 0 1)))]) (As := [.int 9, .int 0, .int (-1)]) (rest := []) hFX hKK hP hD hS hA (c_X12_wrong l D κ m0 a0 a1 a2 a5 a14 a15 a16 a17 a20 a21 a23 a24 a25 a28) 3 gV_X12_210 hdV_X12_wrong ⟨Nat.le_of_ble_eq_true rfl, Nat.le_of_ble_eq_true rfl⟩ rfl rfl (Nat.le_of_ble_eq_true rfl) dX12_readsTable_215 ⟨Nat.le_of_ble_eq_true rfl, Nat.le_of_ble_eq_true rfl⟩ hl.1 [0] [1] rfl rfl (by decide) (by decide) (by decide) 0 12 rfl rfl rfl trivial (fun _ H locs hp_7 _ hP hD hS hz_ hk_ => ?_)
    have hP : va_P D vwCl [(a17, .inl (κ 0, 7123, .inl (upd (fun _ => 0) 0 1))), (m0, .inr (12, [.ref a0, .ref a1, .ref a2, .int 0, .int 0, .ref a5, .int 0, .int 9, .int 0, .int (-1), .int 0, .int 0, .int 0, .int 0, .ref a14, .ref a15, .ref a16, .ref a17, .int 0, .int 0, .ref a20, .ref a21, .int 0, .ref a23, .ref a24, .ref a25, .int 0, .int 0, .ref a28, .int 0]))] H := hP
    have hD : va_D A [(a17, .inl (κ 0, 7123, .inl (upd (fun _ => 0) 0 1))), (m0, .inr (12, [.ref a0, .ref a1, .ref a2, .int 0, .int 0, .ref a5, .int 0, .int 9, .int 0, .int (-1), .int 0, .int 0, .int 0, .int 0, .ref a14, .ref a15, .ref a16, .ref a17, .int 0, .int 0, .ref a20, .ref a21, .int 0, .ref a23, .ref a24, .ref a25, .int 0, .int 0, .ref a28, .int 0]))] := hD
    refine W.eq (g2 := F0 m 218 ls [.int 0]) rfl ?_
    refine lv_if_eq (tgt := 225) hx hb dX12_readsTable_218 (by decide) (fun c_8 => ?_) (fun c_8 => absurd (by decide) c_8)
    refine lv_iconst (v := 0) hx hb dX12_readsTable_225 (by decide) ?_
    exact ct_iret hx hb hr hlk rfl hS hP hD () rfl trivial [1] rfl (by decide) trivial (Nat.le_of_ble_eq_true rfl) (Nat.le_of_ble_eq_true rfl) dX12_readsTable_226
set_option maxHeartbeats 4000000 in
set_option maxRecDepth 100000 in
theorem c_X12_endsReading (l : Launch) (D : va_G) (κ : Nat → ClassId) (m0 : Nat) (a0 : Nat) (a1 : Nat) (a2 : Nat) (a5 : Nat) (a14 : Nat) (a15 : Nat) (a16 : Nat) (a17 : Nat) (a20 : Nat) (a21 : Nat) (a23 : Nat) (a24 : Nat) (a25 : Nat) (a28 : Nat) : Ct l yX12_endsReading (wl yX12_endsReading cX12_endsReading 4 (some .boolean)) { frames := 0, cells := 0, slots := 0, locals := 0 } D κ [.ref m0, .int 0] [(m0, .inr (12, [.ref a0, .ref a1, .ref a2, .int 0, .int 0, .ref a5, .int 0, .int 9, .int 0, .int (-1), .int 0, .int 0, .int 0, .int 0, .ref a14, .ref a15, .ref a16, .ref a17, .int 0, .int 0, .ref a20, .ref a21, .int 0, .ref a23, .ref a24, .ref a25, .int 0, .int 0, .ref a28, .int 0]))] (fun _ => True) (fun _ : Unit => some (.int 0)) (fun _ : Unit => True) (fun _ : Unit => []) (fun _ _ => True) := by
  refine ct_of (by decide +kernel) (Nat.le_of_ble_eq_true rfl) ?_
  intro p e s m args below meth c A ls hx hb hr hml hts hown hlk hin hKK hK hA hP hD hS hI hl
  have hS : va_S A s.heap s.heap [] := hS
  have hFX : FX p s m args c cX12_endsReading 4 RX12 := ⟨hx, hb, hml, hown, hts⟩
  have hl : lv_has ls 4 [(0, .ref m0), (1, .int 0)] := hl
  refine lv_aload_n hx hb dX12_endsReading_0 rfl (lv_at hl 0 rfl) ?_
  refine lv_iconst (v := (-1)) hx hb dX12_endsReading_1 (by decide) ?_
  refine va_put (D := D) (ci := 12) (v := .int (-1)) (ty := tyX12 18) (C := RX12) (T := TX12) (N := 30) hx hb hts inlX12 tyX12 tyX12_ok nmX12 hown hK hP hD hS 0 rfl rfl 18 (by decide) (hts _ mw_526) (fun _ h9 => h9) rfl (tyX12_ok 18 (by decide)) rfl rfl (Nat.le_of_ble_eq_true rfl) dX12_endsReading_2 (fun H locs hP hD hS => ?_)
  have hP : va_P D vwCl [(m0, .inr (12, [.ref a0, .ref a1, .ref a2, .int 0, .int 0, .ref a5, .int 0, .int 9, .int 0, .int (-1), .int 0, .int 0, .int 0, .int 0, .ref a14, .ref a15, .ref a16, .ref a17, .int (-1), .int 0, .ref a20, .ref a21, .int 0, .ref a23, .ref a24, .ref a25, .int 0, .int 0, .ref a28, .int 0]))] H := hP
  have hD : va_D A [(m0, .inr (12, [.ref a0, .ref a1, .ref a2, .int 0, .int 0, .ref a5, .int 0, .int 9, .int 0, .int (-1), .int 0, .int 0, .int 0, .int 0, .ref a14, .ref a15, .ref a16, .ref a17, .int (-1), .int 0, .ref a20, .ref a21, .int 0, .ref a23, .ref a24, .ref a25, .int 0, .int 0, .ref a28, .int 0]))] := hD
  refine lv_aload_n hx hb dX12_endsReading_5 rfl (lv_at hl 0 rfl) ?_
  refine lv_iconst (v := (-1)) hx hb dX12_endsReading_6 (by decide) ?_
  refine va_put (D := D) (ci := 12) (v := .int (-1)) (ty := tyX12 19) (C := RX12) (T := TX12) (N := 30) hx hb hts inlX12 tyX12 tyX12_ok nmX12 hown hK hP hD hS 0 rfl rfl 19 (by decide) (hts _ mw_527) (fun _ h9 => h9) rfl (tyX12_ok 19 (by decide)) rfl rfl (Nat.le_of_ble_eq_true rfl) dX12_endsReading_7 (fun H locs hP hD hS => ?_)
  have hP : va_P D vwCl [(m0, .inr (12, [.ref a0, .ref a1, .ref a2, .int 0, .int 0, .ref a5, .int 0, .int 9, .int 0, .int (-1), .int 0, .int 0, .int 0, .int 0, .ref a14, .ref a15, .ref a16, .ref a17, .int (-1), .int (-1), .ref a20, .ref a21, .int 0, .ref a23, .ref a24, .ref a25, .int 0, .int 0, .ref a28, .int 0]))] H := hP
  have hD : va_D A [(m0, .inr (12, [.ref a0, .ref a1, .ref a2, .int 0, .int 0, .ref a5, .int 0, .int 9, .int 0, .int (-1), .int 0, .int 0, .int 0, .int 0, .ref a14, .ref a15, .ref a16, .ref a17, .int (-1), .int (-1), .ref a20, .ref a21, .int 0, .ref a23, .ref a24, .ref a25, .int 0, .int 0, .ref a28, .int 0]))] := hD
  refine lv_iload_n hx hb dX12_endsReading_10 rfl (lv_at hl 1 rfl) ?_
  refine lv_if_ne (tgt := 103) hx hb dX12_endsReading_11 (by decide) (fun c_1 => absurd (by decide) c_1) (fun c_1 => ?_)
  refine lv_aload_n hx hb dX12_endsReading_14 rfl (lv_at hl 0 rfl) ?_
  refine lv_dup hx hb dX12_endsReading_15 rfl ?_
  refine va_get (D := D) (ci := 12) (v := .int 0) (C := RX12) (T := TX12) (N := 30) hx hb hts inlX12 hown hK hP 0 rfl rfl 10 (by decide) (hts _ mw_528) (fun _ h9 => h9) rfl dX12_endsReading_16 ?_
  refine lv_iconst (v := 1) hx hb dX12_endsReading_19 (by decide) ?_
  refine lv_iadd hx hb dX12_endsReading_20 ?_
  refine ki (v := 1) (by decide) ?_
  refine va_put (D := D) (ci := 12) (v := .int 1) (ty := tyX12 10) (C := RX12) (T := TX12) (N := 30) hx hb hts inlX12 tyX12 tyX12_ok nmX12 hown hK hP hD hS 0 rfl rfl 10 (by decide) (hts _ mw_528) (fun _ h9 => h9) rfl (tyX12_ok 10 (by decide)) rfl rfl (Nat.le_of_ble_eq_true rfl) dX12_endsReading_21 (fun H locs hP hD hS => ?_)
  have hP : va_P D vwCl [(m0, .inr (12, [.ref a0, .ref a1, .ref a2, .int 0, .int 0, .ref a5, .int 0, .int 9, .int 0, .int (-1), .int 1, .int 0, .int 0, .int 0, .ref a14, .ref a15, .ref a16, .ref a17, .int (-1), .int (-1), .ref a20, .ref a21, .int 0, .ref a23, .ref a24, .ref a25, .int 0, .int 0, .ref a28, .int 0]))] H := hP
  have hD : va_D A [(m0, .inr (12, [.ref a0, .ref a1, .ref a2, .int 0, .int 0, .ref a5, .int 0, .int 9, .int 0, .int (-1), .int 1, .int 0, .int 0, .int 0, .ref a14, .ref a15, .ref a16, .ref a17, .int (-1), .int (-1), .ref a20, .ref a21, .int 0, .ref a23, .ref a24, .ref a25, .int 0, .int 0, .ref a28, .int 0]))] := hD
  refine lv_aload_n hx hb dX12_endsReading_24 rfl (lv_at hl 0 rfl) ?_
  refine lv_iconst (v := 0) hx hb dX12_endsReading_25 (by decide) ?_
  refine va_put (D := D) (ci := 12) (v := .int 0) (ty := tyX12 18) (C := RX12) (T := TX12) (N := 30) hx hb hts inlX12 tyX12 tyX12_ok nmX12 hown hK hP hD hS 0 rfl rfl 18 (by decide) (hts _ mw_526) (fun _ h9 => h9) rfl (tyX12_ok 18 (by decide)) rfl rfl (Nat.le_of_ble_eq_true rfl) dX12_endsReading_26 (fun H locs hP hD hS => ?_)
  have hP : va_P D vwCl [(m0, .inr (12, [.ref a0, .ref a1, .ref a2, .int 0, .int 0, .ref a5, .int 0, .int 9, .int 0, .int (-1), .int 1, .int 0, .int 0, .int 0, .ref a14, .ref a15, .ref a16, .ref a17, .int 0, .int (-1), .ref a20, .ref a21, .int 0, .ref a23, .ref a24, .ref a25, .int 0, .int 0, .ref a28, .int 0]))] H := hP
  have hD : va_D A [(m0, .inr (12, [.ref a0, .ref a1, .ref a2, .int 0, .int 0, .ref a5, .int 0, .int 9, .int 0, .int (-1), .int 1, .int 0, .int 0, .int 0, .ref a14, .ref a15, .ref a16, .ref a17, .int 0, .int (-1), .ref a20, .ref a21, .int 0, .ref a23, .ref a24, .ref a25, .int 0, .int 0, .ref a28, .int 0]))] := hD
  refine lv_aload_n hx hb dX12_endsReading_29 rfl (lv_at hl 0 rfl) ?_
  refine lv_iconst (v := 0) hx hb dX12_endsReading_30 (by decide) ?_
  refine va_put (D := D) (ci := 12) (v := .int 0) (ty := tyX12 19) (C := RX12) (T := TX12) (N := 30) hx hb hts inlX12 tyX12 tyX12_ok nmX12 hown hK hP hD hS 0 rfl rfl 19 (by decide) (hts _ mw_527) (fun _ h9 => h9) rfl (tyX12_ok 19 (by decide)) rfl rfl (Nat.le_of_ble_eq_true rfl) dX12_endsReading_31 (fun H locs hP hD hS => ?_)
  have hP : va_P D vwCl [(m0, .inr (12, [.ref a0, .ref a1, .ref a2, .int 0, .int 0, .ref a5, .int 0, .int 9, .int 0, .int (-1), .int 1, .int 0, .int 0, .int 0, .ref a14, .ref a15, .ref a16, .ref a17, .int 0, .int 0, .ref a20, .ref a21, .int 0, .ref a23, .ref a24, .ref a25, .int 0, .int 0, .ref a28, .int 0]))] H := hP
  have hD : va_D A [(m0, .inr (12, [.ref a0, .ref a1, .ref a2, .int 0, .int 0, .ref a5, .int 0, .int 9, .int 0, .int (-1), .int 1, .int 0, .int 0, .int 0, .ref a14, .ref a15, .ref a16, .ref a17, .int 0, .int 0, .ref a20, .ref a21, .int 0, .ref a23, .ref a24, .ref a25, .int 0, .int 0, .ref a28, .int 0]))] := hD
  refine lv_iconst (v := 0) hx hb dX12_endsReading_34 (by decide) ?_
  refine lv_istore_n (lv' := [(2, .int 0), (0, .ref m0), (1, .int 0)]) hx hb dX12_endsReading_35 rfl hl (by decide) rfl (fun ls hl => ?_)
  refine lv_iload_n hx hb dX12_endsReading_36 rfl (lv_at hl 0 rfl) ?_
  refine lv_aload_n hx hb dX12_endsReading_37 rfl (lv_at hl 1 rfl) ?_
  refine va_get (D := D) (ci := 12) (v := .int 0) (C := RX12) (T := TX12) (N := 30) hx hb hts inlX12 hown hK hP 0 rfl rfl 8 (by decide) (hts _ mw_192) (fun _ h9 => h9) rfl dX12_endsReading_38 ?_
  refine lv_icmp_ge (tgt := 103) hx hb dX12_endsReading_41 (by decide) (fun c_2 => ?_) (fun c_2 => absurd (by decide) c_2)
  refine lv_aload_n hx hb dX12_endsReading_103 rfl (lv_at hl 1 rfl) ?_
  refine lv_iconst (v := 0) hx hb dX12_endsReading_104 (by decide) ?_
  refine va_put (D := D) (ci := 12) (v := .int 0) (ty := tyX12 6) (C := RX12) (T := TX12) (N := 30) hx hb hts inlX12 tyX12 tyX12_ok nmX12 hown hK hP hD hS 0 rfl rfl 6 (by decide) (hts _ mw_236) (fun _ h9 => h9) rfl (tyX12_ok 6 (by decide)) rfl rfl (Nat.le_of_ble_eq_true rfl) dX12_endsReading_105 (fun H locs hP hD hS => ?_)
  have hP : va_P D vwCl [(m0, .inr (12, [.ref a0, .ref a1, .ref a2, .int 0, .int 0, .ref a5, .int 0, .int 9, .int 0, .int (-1), .int 1, .int 0, .int 0, .int 0, .ref a14, .ref a15, .ref a16, .ref a17, .int 0, .int 0, .ref a20, .ref a21, .int 0, .ref a23, .ref a24, .ref a25, .int 0, .int 0, .ref a28, .int 0]))] H := hP
  have hD : va_D A [(m0, .inr (12, [.ref a0, .ref a1, .ref a2, .int 0, .int 0, .ref a5, .int 0, .int 9, .int 0, .int (-1), .int 1, .int 0, .int 0, .int 0, .ref a14, .ref a15, .ref a16, .ref a17, .int 0, .int 0, .ref a20, .ref a21, .int 0, .ref a23, .ref a24, .ref a25, .int 0, .int 0, .ref a28, .int 0]))] := hD
  refine lv_iload_n hx hb dX12_endsReading_108 rfl (lv_at hl 2 rfl) ?_
  exact ct_iret hx hb hr hlk rfl hS hP hD () rfl trivial [] rfl (by decide) trivial (Nat.le_of_ble_eq_true rfl) (Nat.le_of_ble_eq_true rfl) dX12_endsReading_109
set_option maxHeartbeats 4000000 in
set_option maxRecDepth 100000 in
theorem c_X12_read (l : Launch) (D : va_G) (κ : Nat → ClassId) (m0 : Nat) (a0 : Nat) (a1 : Nat) (a2 : Nat) (a5 : Nat) (a14 : Nat) (a15 : Nat) (a16 : Nat) (a17 : Nat) (a20 : Nat) (a21 : Nat) (a23 : Nat) (a24 : Nat) (a25 : Nat) (a28 : Nat) (za : Int32) : Ct l yX12_read (wl yX12_read cX12_read 3 (some .int)) { frames := 2, cells := 0, slots := 0, locals := 45 } D κ [.ref m0, .int za] [(m0, .inr (12, [.ref a0, .ref a1, .ref a2, .int 0, .int 0, .ref a5, .int 0, .int 0, .int (-1), .int (-1), .int 0, .int 0, .int 0, .int 0, .ref a14, .ref a15, .ref a16, .ref a17, .int 0, .int 0, .ref a20, .ref a21, .int 0, .ref a23, .ref a24, .ref a25, .int 0, .int 0, .ref a28, .int 0])), (a17, .inl (κ 0, 7123, .inl (fun _ => 0)))] (fun _ => True) (fun _ : Unit => some (.int (-1))) (fun _ : Unit => True) (fun _ : Unit => []) (fun _ _ => True) := by
  refine ct_of (by decide +kernel) (Nat.le_of_ble_eq_true rfl) ?_
  intro p e s m args below meth c A ls hx hb hr hml hts hown hlk hin hKK hK hA hP hD hS hI hl
  have hS : va_S A s.heap s.heap [] := hS
  have hFX : FX p s m args c cX12_read 3 RX12 := ⟨hx, hb, hml, hown, hts⟩
  have hl : lv_has ls 3 [(0, .ref m0), (1, .int za)] := hl
  refine lv_iload_n hx hb dX12_read_0 rfl (lv_at hl 1 rfl) ?_
  refine lv_i2l (v := za.toInt64) hx hb dX12_read_1 rfl ?_
  refine lv_lconst (v := 0) hx hb dX12_read_2 (by decide) ?_
  refine lv_ldc2 hx hb hown (hts _ mw_413) dX12_read_3 ?_
  refine cr_S (As := [.long za.toInt64, .long 0, .long 2]) (rest := []) hFX hKK (c_X12_isIn l D κ za.toInt64 0 2) 3 gS_X12_62 hdS_X12_isIn rfl rfl ⟨Nat.le_of_ble_eq_true rfl, Nat.le_of_ble_eq_true rfl⟩ rfl rfl (Nat.le_of_ble_eq_true rfl) dX12_read_6 ⟨Nat.le_of_ble_eq_true rfl, Nat.le_of_ble_eq_true rfl⟩ hl.1 (hP.sub [] rfl) (fun r_1 hp_2 => ?_)
  have hp_2 : (r_1 = 1 ∧ ¬ lg_cmp za.toInt64 (0 : Int64) < 0 ∧ ¬ 0 < lg_cmp za.toInt64 (2 : Int64)) ∨ (r_1 = 0 ∧ (lg_cmp za.toInt64 (0 : Int64) < 0 ∨ 0 < lg_cmp za.toInt64 (2 : Int64))) := hp_2
  rcases hp_2 with ⟨rfl, a_3, a_4⟩ | ⟨rfl, a_5⟩
  · refine W.eq (g2 := F0 m 9 ls [.int 1]) rfl ?_
    refine lv_if_ne (tgt := 19) hx hb dX12_read_9 (by decide) (fun c_6 => ?_) (fun c_6 => absurd c_6 (by decide))
    refine lv_aload_n hx hb dX12_read_19 rfl (lv_at hl 0 rfl) ?_
    refine ct_V (wr := [(a17, .inl (κ 0, 7123, .inl (fun _ => 0)))]) (As := []) (rest := []) hFX hKK hP hD hS hA (c_X12_beginsReading l D κ m0 a0 a1 a2 a5 a14 a15 a16 a17 a20 a21 a23 a24 a25 a28) 0 gV_X12_286 hdV_X12_beginsReading ⟨Nat.le_of_ble_eq_true rfl, Nat.le_of_ble_eq_true rfl⟩ rfl rfl (Nat.le_of_ble_eq_true rfl) dX12_read_20 ⟨Nat.le_of_ble_eq_true rfl, Nat.le_of_ble_eq_true rfl⟩ hl.1 [0] [1] rfl rfl (by decide) (by decide) (by decide) 0 12 rfl rfl rfl trivial (fun _ H locs hp_7 _ hP hD hS hz_ hk_ => ?_)
    have hP : va_P D vwCl [(a17, .inl (κ 0, 7123, .inl (fun _ => 0))), (m0, .inr (12, [.ref a0, .ref a1, .ref a2, .int 0, .int 0, .ref a5, .int 0, .int 0, .int (-1), .int (-1), .int 0, .int 0, .int 0, .int 0, .ref a14, .ref a15, .ref a16, .ref a17, .int 0, .int 0, .ref a20, .ref a21, .int 0, .ref a23, .ref a24, .ref a25, .int 0, .int 0, .ref a28, .int 0]))] H := hP
    have hD : va_D A [(a17, .inl (κ 0, 7123, .inl (fun _ => 0))), (m0, .inr (12, [.ref a0, .ref a1, .ref a2, .int 0, .int 0, .ref a5, .int 0, .int 0, .int (-1), .int (-1), .int 0, .int 0, .int 0, .int 0, .ref a14, .ref a15, .ref a16, .ref a17, .int 0, .int 0, .ref a20, .ref a21, .int 0, .ref a23, .ref a24, .ref a25, .int 0, .int 0, .ref a28, .int 0]))] := hD
    refine W.eq (g2 := F0 m 23 ls []) rfl ?_
    refine lv_aload_n hx hb dX12_read_23 rfl (lv_at hl 0 rfl) ?_
    refine lv_aload_n hx hb dX12_read_24 rfl (lv_at hl 0 rfl) ?_
    refine ct_V (wr := []) (As := []) (rest := [.ref m0]) hFX hKK hP hD hS hA (c_X12_readsTable l D κ m0 a0 a1 a2 a5 a14 a15 a16 a17 a20 a21 a23 a24 a25 a28) 0 gV_X12_289 hdV_X12_readsTable ⟨Nat.le_of_ble_eq_true rfl, Nat.le_of_ble_eq_true rfl⟩ rfl rfl (Nat.le_of_ble_eq_true rfl) dX12_read_25 ⟨Nat.le_of_ble_eq_true rfl, Nat.le_of_ble_eq_true rfl⟩ hl.1 [1, 0] [] rfl rfl (by decide) (by decide) (by decide) 1 12 rfl rfl rfl trivial (fun _ H locs hp_8 _ hP hD hS hz_ hk_ => ?_)
    have hP : va_P D vwCl [(m0, .inr (12, [.ref a0, .ref a1, .ref a2, .int 0, .int 0, .ref a5, .int 0, .int 9, .int 0, .int (-1), .int 0, .int 0, .int 0, .int 0, .ref a14, .ref a15, .ref a16, .ref a17, .int 0, .int 0, .ref a20, .ref a21, .int 0, .ref a23, .ref a24, .ref a25, .int 0, .int 0, .ref a28, .int 0]))] H := hP
    have hD : va_D A [(m0, .inr (12, [.ref a0, .ref a1, .ref a2, .int 0, .int 0, .ref a5, .int 0, .int 9, .int 0, .int (-1), .int 0, .int 0, .int 0, .int 0, .ref a14, .ref a15, .ref a16, .ref a17, .int 0, .int 0, .ref a20, .ref a21, .int 0, .ref a23, .ref a24, .ref a25, .int 0, .int 0, .ref a28, .int 0]))] := hD
    refine W.eq (g2 := F0 m 28 ls [.int 0, .ref m0]) rfl ?_
    refine ct_V (wr := []) (As := [.int 0]) (rest := []) hFX hKK hP hD hS hA (c_X12_endsReading l D κ m0 a0 a1 a2 a5 a14 a15 a16 a17 a20 a21 a23 a24 a25 a28) 1 gV_X12_292 hdV_X12_endsReading ⟨Nat.le_of_ble_eq_true rfl, Nat.le_of_ble_eq_true rfl⟩ rfl rfl (Nat.le_of_ble_eq_true rfl) dX12_read_28 ⟨Nat.le_of_ble_eq_true rfl, Nat.le_of_ble_eq_true rfl⟩ hl.1 [0] [] rfl rfl (by decide) (by decide) (by decide) 0 12 rfl rfl rfl trivial (fun _ H locs hp_9 _ hP hD hS hz_ hk_ => ?_)
    have hP : va_P D vwCl [] H := hP
    have hD : va_D A [] := hD
    refine W.eq (g2 := F0 m 31 ls [.int 0]) rfl ?_
    refine lv_if_ne (tgt := 36) hx hb dX12_read_31 (by decide) (fun c_10 => absurd (by decide) c_10) (fun c_10 => ?_)
    refine lv_iconst (v := (-1)) hx hb dX12_read_34 (by decide) ?_
    exact ct_iret hx hb hr hlk rfl hS hP hD () rfl trivial [] rfl (by decide) trivial (Nat.le_of_ble_eq_true rfl) (Nat.le_of_ble_eq_true rfl) dX12_read_35
  · refine W.eq (g2 := F0 m 9 ls [.int 0]) rfl ?_
    refine lv_if_ne (tgt := 19) hx hb dX12_read_9 (by decide) (fun c_11 => absurd (by decide) c_11) (fun c_11 => ?_)
    refine lv_aload_n hx hb dX12_read_12 rfl (lv_at hl 0 rfl) ?_
    refine lv_iconst (v := 0) hx hb dX12_read_13 (by decide) ?_
    refine va_put (D := D) (ci := 12) (v := .int 0) (ty := tyX12 6) (C := RX12) (T := TX12) (N := 30) hx hb hts inlX12 tyX12 tyX12_ok nmX12 hown hK hP hD hS 0 rfl rfl 6 (by decide) (hts _ mw_236) (fun _ h9 => h9) rfl (tyX12_ok 6 (by decide)) rfl rfl (Nat.le_of_ble_eq_true rfl) dX12_read_14 (fun H locs hP hD hS => ?_)
    have hP : va_P D vwCl [(m0, .inr (12, [.ref a0, .ref a1, .ref a2, .int 0, .int 0, .ref a5, .int 0, .int 0, .int (-1), .int (-1), .int 0, .int 0, .int 0, .int 0, .ref a14, .ref a15, .ref a16, .ref a17, .int 0, .int 0, .ref a20, .ref a21, .int 0, .ref a23, .ref a24, .ref a25, .int 0, .int 0, .ref a28, .int 0])), (a17, .inl (κ 0, 7123, .inl (fun _ => 0)))] H := hP
    have hD : va_D A [(m0, .inr (12, [.ref a0, .ref a1, .ref a2, .int 0, .int 0, .ref a5, .int 0, .int 0, .int (-1), .int (-1), .int 0, .int 0, .int 0, .int 0, .ref a14, .ref a15, .ref a16, .ref a17, .int 0, .int 0, .ref a20, .ref a21, .int 0, .ref a23, .ref a24, .ref a25, .int 0, .int 0, .ref a28, .int 0])), (a17, .inl (κ 0, 7123, .inl (fun _ => 0)))] := hD
    refine lv_iconst (v := (-1)) hx hb dX12_read_17 (by decide) ?_
    exact ct_iret hx hb hr hlk rfl hS hP hD () rfl trivial [] rfl (by decide) trivial (Nat.le_of_ble_eq_true rfl) (Nat.le_of_ble_eq_true rfl) dX12_read_18
set_option maxHeartbeats 4000000 in
set_option maxRecDepth 100000 in
theorem c_X12_laysTape (l : Launch) (D : va_G) (κ : Nat → ClassId) (m0 : Nat) (a0 : Nat) (a1 : Nat) (a2 : Nat) (a5 : Nat) (a14 : Nat) (a15 : Nat) (a16 : Nat) (a17 : Nat) (a20 : Nat) (a21 : Nat) (a23 : Nat) (a24 : Nat) (a25 : Nat) (a28 : Nat) : Ct l yX12_laysTape (wl yX12_laysTape cX12_laysTape 2 none) { frames := 0, cells := 0, slots := 0, locals := 0 } D κ [.ref m0] [(m0, .inr (12, [.ref a0, .ref a1, .ref a2, .int 0, .int 0, .ref a5, .int 0, .int 0, .int (-1), .int (-1), .int 0, .int 0, .int 0, .int 0, .ref a14, .ref a15, .ref a16, .ref a17, .int 0, .int 0, .ref a20, .ref a21, .int 0, .ref a23, .ref a24, .ref a25, .int 0, .int 0, .ref a28, .int 0])), (a20, .inl (κ 0, 801, .inl (fun _ => 0)))] (fun _ => True) (fun g : Nat → Int32 => none) (fun g : Nat → Int32 => True) (fun g : Nat → Int32 => [(m0, .inr (12, [.ref a0, .ref a1, .ref a2, .int 0, .int 0, .ref a5, .int 0, .int 0, .int (-1), .int (-1), .int 0, .int 0, .int 0, .int 0, .ref a14, .ref a15, .ref a16, .ref a17, .int 0, .int 0, .ref a20, .ref a21, .int 0, .ref a23, .ref a24, .ref a25, .int 0, .int 0, .ref a28, .int 0])), (a20, .inl (κ 0, 801, .inl g))]) (fun _ _ => True) := by
  refine ct_of (by decide +kernel) (Nat.le_of_ble_eq_true rfl) ?_
  intro p e s m args below meth c A ls hx hb hr hml hts hown hlk hin hKK hK hA hP hD hS hI hl
  have hS : va_S A s.heap s.heap [] := hS
  have hFX : FX p s m args c cX12_laysTape 2 RX12 := ⟨hx, hb, hml, hown, hts⟩
  have hl : lv_has ls 2 [(0, .ref m0)] := hl
  refine lv_aload_n hx hb dX12_laysTape_0 rfl (lv_at hl 0 rfl) ?_
  refine va_get (D := D) (ci := 12) (v := .ref a20) (C := RX12) (T := TX12) (N := 30) hx hb hts inlX12 hown hK hP 0 rfl rfl 20 (by decide) (hts _ mw_198) (fun _ h9 => h9) rfl dX12_laysTape_1 ?_
  refine lv_iconst (v := 0) hx hb dX12_laysTape_4 (by decide) ?_
  refine lv_aload_n hx hb dX12_laysTape_5 rfl (lv_at hl 0 rfl) ?_
  refine va_get (D := D) (ci := 12) (v := .int 0) (C := RX12) (T := TX12) (N := 30) hx hb hts inlX12 hown hK hP 0 rfl rfl 6 (by decide) (hts _ mw_236) (fun _ h9 => h9) rfl dX12_laysTape_6 ?_
  refine va_iast hx hb hK hP hD hS 1 0 rfl rfl (i := 0) (x := 0) (vp_k (by decide)) dX12_laysTape_9 (fun H locs hP hD hS => ?_)
  have hP : va_P D vwCl [(m0, .inr (12, [.ref a0, .ref a1, .ref a2, .int 0, .int 0, .ref a5, .int 0, .int 0, .int (-1), .int (-1), .int 0, .int 0, .int 0, .int 0, .ref a14, .ref a15, .ref a16, .ref a17, .int 0, .int 0, .ref a20, .ref a21, .int 0, .ref a23, .ref a24, .ref a25, .int 0, .int 0, .ref a28, .int 0])), (a20, .inl (κ 0, 801, .inl (upd (fun _ => 0) 0 0)))] H := hP
  have hD : va_D A [(m0, .inr (12, [.ref a0, .ref a1, .ref a2, .int 0, .int 0, .ref a5, .int 0, .int 0, .int (-1), .int (-1), .int 0, .int 0, .int 0, .int 0, .ref a14, .ref a15, .ref a16, .ref a17, .int 0, .int 0, .ref a20, .ref a21, .int 0, .ref a23, .ref a24, .ref a25, .int 0, .int 0, .ref a28, .int 0])), (a20, .inl (κ 0, 801, .inl (upd (fun _ => 0) 0 0)))] := hD
  refine lv_iconst (v := 0) hx hb dX12_laysTape_10 (by decide) ?_
  refine lv_istore_n (lv' := [(1, .int 0), (0, .ref m0)]) hx hb dX12_laysTape_11 rfl hl (by decide) rfl (fun ls hl => ?_)
  refine lv_iload_n hx hb dX12_laysTape_12 rfl (lv_at hl 0 rfl) ?_
  refine lv_aload_n hx hb dX12_laysTape_13 rfl (lv_at hl 1 rfl) ?_
  refine va_get (D := D) (ci := 12) (v := .int 0) (C := RX12) (T := TX12) (N := 30) hx hb hts inlX12 hown hK hP 0 rfl rfl 6 (by decide) (hts _ mw_236) (fun _ h9 => h9) rfl dX12_laysTape_14 ?_
  refine lv_icmp_ge (tgt := 40) hx hb dX12_laysTape_17 (by decide) (fun c_1 => ?_) (fun c_1 => absurd (by decide) c_1)
  refine lv_aload_n hx hb dX12_laysTape_40 rfl (lv_at hl 1 rfl) ?_
  refine lv_iconst (v := 0) hx hb dX12_laysTape_41 (by decide) ?_
  refine va_put (D := D) (ci := 12) (v := .int 0) (ty := tyX12 6) (C := RX12) (T := TX12) (N := 30) hx hb hts inlX12 tyX12 tyX12_ok nmX12 hown hK hP hD hS 0 rfl rfl 6 (by decide) (hts _ mw_236) (fun _ h9 => h9) rfl (tyX12_ok 6 (by decide)) rfl rfl (Nat.le_of_ble_eq_true rfl) dX12_laysTape_42 (fun H locs hP hD hS => ?_)
  have hP : va_P D vwCl [(m0, .inr (12, [.ref a0, .ref a1, .ref a2, .int 0, .int 0, .ref a5, .int 0, .int 0, .int (-1), .int (-1), .int 0, .int 0, .int 0, .int 0, .ref a14, .ref a15, .ref a16, .ref a17, .int 0, .int 0, .ref a20, .ref a21, .int 0, .ref a23, .ref a24, .ref a25, .int 0, .int 0, .ref a28, .int 0])), (a20, .inl (κ 0, 801, .inl (upd (fun _ => 0) 0 0)))] H := hP
  have hD : va_D A [(m0, .inr (12, [.ref a0, .ref a1, .ref a2, .int 0, .int 0, .ref a5, .int 0, .int 0, .int (-1), .int (-1), .int 0, .int 0, .int 0, .int 0, .ref a14, .ref a15, .ref a16, .ref a17, .int 0, .int 0, .ref a20, .ref a21, .int 0, .ref a23, .ref a24, .ref a25, .int 0, .int 0, .ref a28, .int 0])), (a20, .inl (κ 0, 801, .inl (upd (fun _ => 0) 0 0)))] := hD
  exact ct_vret hx hb hr hlk hS hP hD (upd (fun _ => 0) 0 0) rfl trivial [0, 1] rfl (by decide) trivial (Nat.le_of_ble_eq_true rfl) (Nat.le_of_ble_eq_true rfl) dX12_laysTape_45
set_option maxHeartbeats 4000000 in
set_option maxRecDepth 100000 in
theorem c_X12_put (l : Launch) (D : va_G) (κ : Nat → ClassId) (m0 : Nat) (a0 : Nat) (a1 : Nat) (a2 : Nat) (a5 : Nat) (a14 : Nat) (a15 : Nat) (a16 : Nat) (a17 : Nat) (a20 : Nat) (a21 : Nat) (a23 : Nat) (a24 : Nat) (a25 : Nat) (a28 : Nat) (za : Int32) (zb : Int32) (zc : Int32) : Ct l yX12_put (wl yX12_put cX12_put 5 (some .boolean)) { frames := 3, cells := 0, slots := 0, locals := 68 } D κ [.ref m0, .int za, .int zb, .int zc] [(m0, .inr (12, [.ref a0, .ref a1, .ref a2, .int 0, .int 0, .ref a5, .int 0, .int 0, .int (-1), .int (-1), .int 0, .int 0, .int 0, .int 0, .ref a14, .ref a15, .ref a16, .ref a17, .int 0, .int 0, .ref a20, .ref a21, .int 0, .ref a23, .ref a24, .ref a25, .int 0, .int 0, .ref a28, .int 0])), (a0, .inl (κ 0, 21375, .inl wf0)), (a20, .inl (κ 0, 801, .inl (fun _ => 0)))] (fun _ => True) (fun _ : Unit => some (.int 0)) (fun _ : Unit => True) (fun _ : Unit => []) (fun _ _ => True) := by
  refine ct_of (by decide +kernel) (Nat.le_of_ble_eq_true rfl) ?_
  intro p e s m args below meth c A ls hx hb hr hml hts hown hlk hin hKK hK hA hP hD hS hI hl
  have hS : va_S A s.heap s.heap [] := hS
  have hFX : FX p s m args c cX12_put 5 RX12 := ⟨hx, hb, hml, hown, hts⟩
  have hl : lv_has ls 5 [(0, .ref m0), (1, .int za), (2, .int zb), (3, .int zc)] := hl
  refine lv_aload_n hx hb dX12_put_0 rfl (lv_at hl 0 rfl) ?_
  refine ct_V (wr := [(a0, .inl (κ 0, 21375, .inl wf0))]) (As := []) (rest := []) hFX hKK hP hD hS hA (c_X12_laysTape l D κ m0 a0 a1 a2 a5 a14 a15 a16 a17 a20 a21 a23 a24 a25 a28) 0 gV_X12_306 hdV_X12_laysTape ⟨Nat.le_of_ble_eq_true rfl, Nat.le_of_ble_eq_true rfl⟩ rfl rfl (Nat.le_of_ble_eq_true rfl) dX12_put_1 ⟨Nat.le_of_ble_eq_true rfl, Nat.le_of_ble_eq_true rfl⟩ hl.1 [0, 2] [1] rfl rfl (by decide) (by decide) (by decide) 0 12 rfl rfl rfl trivial (fun g_1 H locs hp_2 _ hP hD hS hz_ hk_ => ?_)
  have hP : va_P D vwCl [(a0, .inl (κ 0, 21375, .inl wf0)), (m0, .inr (12, [.ref a0, .ref a1, .ref a2, .int 0, .int 0, .ref a5, .int 0, .int 0, .int (-1), .int (-1), .int 0, .int 0, .int 0, .int 0, .ref a14, .ref a15, .ref a16, .ref a17, .int 0, .int 0, .ref a20, .ref a21, .int 0, .ref a23, .ref a24, .ref a25, .int 0, .int 0, .ref a28, .int 0])), (a20, .inl (κ 0, 801, .inl g_1))] H := hP
  have hD : va_D A [(a0, .inl (κ 0, 21375, .inl wf0)), (m0, .inr (12, [.ref a0, .ref a1, .ref a2, .int 0, .int 0, .ref a5, .int 0, .int 0, .int (-1), .int (-1), .int 0, .int 0, .int 0, .int 0, .ref a14, .ref a15, .ref a16, .ref a17, .int 0, .int 0, .ref a20, .ref a21, .int 0, .ref a23, .ref a24, .ref a25, .int 0, .int 0, .ref a28, .int 0])), (a20, .inl (κ 0, 801, .inl g_1))] := hD
  refine W.eq (g2 := F0 m 4 ls []) rfl ?_
  refine lv_aload_n hx hb dX12_put_4 rfl (lv_at hl 0 rfl) ?_
  refine lv_iload_n hx hb dX12_put_5 rfl (lv_at hl 1 rfl) ?_
  refine lv_iload_n hx hb dX12_put_6 rfl (lv_at hl 2 rfl) ?_
  refine cr_V (As := [.int za, .int zb]) (rest := []) hFX hKK (c_X12_isRow l D κ m0 a0 a1 a2 a5 a14 a15 a16 a17 a20 a21 a23 a24 a25 a28 za zb) 2 gV_X12_309 hdV_X12_isRow rfl rfl ⟨Nat.le_of_ble_eq_true rfl, Nat.le_of_ble_eq_true rfl⟩ rfl rfl (Nat.le_of_ble_eq_true rfl) dX12_put_7 ⟨Nat.le_of_ble_eq_true rfl, Nat.le_of_ble_eq_true rfl⟩ hl.1 hP 1 12 rfl rfl rfl (hP.sub [1, 0] rfl) (fun _ hp_3 => ?_)
  refine W.eq (g2 := F0 m 10 ls [.int 0]) rfl ?_
  refine lv_if_eq (tgt := 43) hx hb dX12_put_10 (by decide) (fun c_4 => ?_) (fun c_4 => absurd (by decide) c_4)
  refine lv_iconst (v := 0) hx hb dX12_put_43 (by decide) ?_
  exact ct_iret hx hb hr hlk rfl hS hP hD () rfl trivial [] rfl (by decide) trivial (Nat.le_of_ble_eq_true rfl) (Nat.le_of_ble_eq_true rfl) dX12_put_44
set_option maxHeartbeats 4000000 in
set_option maxRecDepth 100000 in
theorem c_X12_name (l : Launch) (D : va_G) (κ : Nat → ClassId) (m0 : Nat) (a0 : Nat) (a1 : Nat) (a2 : Nat) (a5 : Nat) (a14 : Nat) (a15 : Nat) (a16 : Nat) (a17 : Nat) (a20 : Nat) (a21 : Nat) (a23 : Nat) (a24 : Nat) (a25 : Nat) (a28 : Nat) (za : Int32) (zb : Int32) : Ct l yX12_name (wl yX12_name cX12_name 5 (some .boolean)) { frames := 3, cells := 0, slots := 0, locals := 68 } D κ [.ref m0, .int za, .int zb] [(m0, .inr (12, [.ref a0, .ref a1, .ref a2, .int 0, .int 0, .ref a5, .int 0, .int 0, .int (-1), .int (-1), .int 0, .int 0, .int 0, .int 0, .ref a14, .ref a15, .ref a16, .ref a17, .int 0, .int 0, .ref a20, .ref a21, .int 0, .ref a23, .ref a24, .ref a25, .int 0, .int 0, .ref a28, .int 0])), (a0, .inl (κ 0, 21375, .inl wf0)), (a20, .inl (κ 0, 801, .inl (fun _ => 0)))] (fun _ => True) (fun _ : Unit => some (.int 0)) (fun _ : Unit => True) (fun _ : Unit => []) (fun _ _ => True) := by
  refine ct_of (by decide +kernel) (Nat.le_of_ble_eq_true rfl) ?_
  intro p e s m args below meth c A ls hx hb hr hml hts hown hlk hin hKK hK hA hP hD hS hI hl
  have hS : va_S A s.heap s.heap [] := hS
  have hFX : FX p s m args c cX12_name 5 RX12 := ⟨hx, hb, hml, hown, hts⟩
  have hl : lv_has ls 5 [(0, .ref m0), (1, .int za), (2, .int zb)] := hl
  refine lv_aload_n hx hb dX12_name_0 rfl (lv_at hl 0 rfl) ?_
  refine ct_V (wr := [(a0, .inl (κ 0, 21375, .inl wf0))]) (As := []) (rest := []) hFX hKK hP hD hS hA (c_X12_laysTape l D κ m0 a0 a1 a2 a5 a14 a15 a16 a17 a20 a21 a23 a24 a25 a28) 0 gV_X12_306 hdV_X12_laysTape ⟨Nat.le_of_ble_eq_true rfl, Nat.le_of_ble_eq_true rfl⟩ rfl rfl (Nat.le_of_ble_eq_true rfl) dX12_name_1 ⟨Nat.le_of_ble_eq_true rfl, Nat.le_of_ble_eq_true rfl⟩ hl.1 [0, 2] [1] rfl rfl (by decide) (by decide) (by decide) 0 12 rfl rfl rfl trivial (fun g_1 H locs hp_2 _ hP hD hS hz_ hk_ => ?_)
  have hP : va_P D vwCl [(a0, .inl (κ 0, 21375, .inl wf0)), (m0, .inr (12, [.ref a0, .ref a1, .ref a2, .int 0, .int 0, .ref a5, .int 0, .int 0, .int (-1), .int (-1), .int 0, .int 0, .int 0, .int 0, .ref a14, .ref a15, .ref a16, .ref a17, .int 0, .int 0, .ref a20, .ref a21, .int 0, .ref a23, .ref a24, .ref a25, .int 0, .int 0, .ref a28, .int 0])), (a20, .inl (κ 0, 801, .inl g_1))] H := hP
  have hD : va_D A [(a0, .inl (κ 0, 21375, .inl wf0)), (m0, .inr (12, [.ref a0, .ref a1, .ref a2, .int 0, .int 0, .ref a5, .int 0, .int 0, .int (-1), .int (-1), .int 0, .int 0, .int 0, .int 0, .ref a14, .ref a15, .ref a16, .ref a17, .int 0, .int 0, .ref a20, .ref a21, .int 0, .ref a23, .ref a24, .ref a25, .int 0, .int 0, .ref a28, .int 0])), (a20, .inl (κ 0, 801, .inl g_1))] := hD
  refine W.eq (g2 := F0 m 4 ls []) rfl ?_
  refine lv_aload_n hx hb dX12_name_4 rfl (lv_at hl 0 rfl) ?_
  refine lv_iload_n hx hb dX12_name_5 rfl (lv_at hl 1 rfl) ?_
  refine lv_iload_n hx hb dX12_name_6 rfl (lv_at hl 2 rfl) ?_
  refine cr_V (As := [.int za, .int zb]) (rest := []) hFX hKK (c_X12_isColumn l D κ m0 a0 a1 a2 a5 a14 a15 a16 a17 a20 a21 a23 a24 a25 a28 za zb) 2 gV_X12_312 hdV_X12_isColumn rfl rfl ⟨Nat.le_of_ble_eq_true rfl, Nat.le_of_ble_eq_true rfl⟩ rfl rfl (Nat.le_of_ble_eq_true rfl) dX12_name_7 ⟨Nat.le_of_ble_eq_true rfl, Nat.le_of_ble_eq_true rfl⟩ hl.1 hP 1 12 rfl rfl rfl (hP.sub [1, 0] rfl) (fun _ hp_3 => ?_)
  refine W.eq (g2 := F0 m 10 ls [.int 0]) rfl ?_
  refine lv_if_eq (tgt := 24) hx hb dX12_name_10 (by decide) (fun c_4 => ?_) (fun c_4 => absurd (by decide) c_4)
  refine lv_iconst (v := 0) hx hb dX12_name_24 (by decide) ?_
  exact ct_iret hx hb hr hlk rfl hS hP hD () rfl trivial [] rfl (by decide) trivial (Nat.le_of_ble_eq_true rfl) (Nat.le_of_ble_eq_true rfl) dX12_name_25
set_option maxHeartbeats 4000000 in
set_option maxRecDepth 100000 in
theorem c_X12_find (l : Launch) (D : va_G) (κ : Nat → ClassId) (m0 : Nat) (a0 : Nat) (a1 : Nat) (a2 : Nat) (a5 : Nat) (a14 : Nat) (a15 : Nat) (a16 : Nat) (a17 : Nat) (a20 : Nat) (a21 : Nat) (a23 : Nat) (a24 : Nat) (a25 : Nat) (a28 : Nat) (za : Int32) : Ct l yX12_find (wl yX12_find cX12_find 2 (some .int)) { frames := 2, cells := 0, slots := 0, locals := 46 } D κ [.ref m0, .int za] [(m0, .inr (12, [.ref a0, .ref a1, .ref a2, .int 0, .int 0, .ref a5, .int 0, .int 0, .int (-1), .int (-1), .int 0, .int 0, .int 0, .int 0, .ref a14, .ref a15, .ref a16, .ref a17, .int 0, .int 0, .ref a20, .ref a21, .int 0, .ref a23, .ref a24, .ref a25, .int 0, .int 0, .ref a28, .int 0])), (a0, .inl (κ 0, 21375, .inl wf0)), (a20, .inl (κ 0, 801, .inl (fun _ => 0)))] (fun _ => True) (fun _ : Unit => some (.int (-1))) (fun _ : Unit => True) (fun _ : Unit => []) (fun _ _ => True) := by
  refine ct_of (by decide +kernel) (Nat.le_of_ble_eq_true rfl) ?_
  intro p e s m args below meth c A ls hx hb hr hml hts hown hlk hin hKK hK hA hP hD hS hI hl
  have hS : va_S A s.heap s.heap [] := hS
  have hFX : FX p s m args c cX12_find 2 RX12 := ⟨hx, hb, hml, hown, hts⟩
  have hl : lv_has ls 2 [(0, .ref m0), (1, .int za)] := hl
  refine lv_aload_n hx hb dX12_find_0 rfl (lv_at hl 0 rfl) ?_
  refine ct_V (wr := [(a0, .inl (κ 0, 21375, .inl wf0))]) (As := []) (rest := []) hFX hKK hP hD hS hA (c_X12_laysTape l D κ m0 a0 a1 a2 a5 a14 a15 a16 a17 a20 a21 a23 a24 a25 a28) 0 gV_X12_306 hdV_X12_laysTape ⟨Nat.le_of_ble_eq_true rfl, Nat.le_of_ble_eq_true rfl⟩ rfl rfl (Nat.le_of_ble_eq_true rfl) dX12_find_1 ⟨Nat.le_of_ble_eq_true rfl, Nat.le_of_ble_eq_true rfl⟩ hl.1 [0, 2] [1] rfl rfl (by decide) (by decide) (by decide) 0 12 rfl rfl rfl trivial (fun g_1 H locs hp_2 _ hP hD hS hz_ hk_ => ?_)
  have hP : va_P D vwCl [(a0, .inl (κ 0, 21375, .inl wf0)), (m0, .inr (12, [.ref a0, .ref a1, .ref a2, .int 0, .int 0, .ref a5, .int 0, .int 0, .int (-1), .int (-1), .int 0, .int 0, .int 0, .int 0, .ref a14, .ref a15, .ref a16, .ref a17, .int 0, .int 0, .ref a20, .ref a21, .int 0, .ref a23, .ref a24, .ref a25, .int 0, .int 0, .ref a28, .int 0])), (a20, .inl (κ 0, 801, .inl g_1))] H := hP
  have hD : va_D A [(a0, .inl (κ 0, 21375, .inl wf0)), (m0, .inr (12, [.ref a0, .ref a1, .ref a2, .int 0, .int 0, .ref a5, .int 0, .int 0, .int (-1), .int (-1), .int 0, .int 0, .int 0, .int 0, .ref a14, .ref a15, .ref a16, .ref a17, .int 0, .int 0, .ref a20, .ref a21, .int 0, .ref a23, .ref a24, .ref a25, .int 0, .int 0, .ref a28, .int 0])), (a20, .inl (κ 0, 801, .inl g_1))] := hD
  refine W.eq (g2 := F0 m 4 ls []) rfl ?_
  refine lv_aload_n hx hb dX12_find_4 rfl (lv_at hl 0 rfl) ?_
  refine lv_iload_n hx hb dX12_find_5 rfl (lv_at hl 1 rfl) ?_
  refine cr_V (As := [.int za]) (rest := []) hFX hKK (c_X12_isTable l D κ m0 a0 a1 a2 a5 a14 a15 a16 a17 a20 a21 a23 a24 a25 a28 za) 1 gV_X12_70 hdV_X12_isTable rfl rfl ⟨Nat.le_of_ble_eq_true rfl, Nat.le_of_ble_eq_true rfl⟩ rfl rfl (Nat.le_of_ble_eq_true rfl) dX12_find_6 ⟨Nat.le_of_ble_eq_true rfl, Nat.le_of_ble_eq_true rfl⟩ hl.1 hP 1 12 rfl rfl rfl (hP.sub [1, 0] rfl) (fun _ hp_3 => ?_)
  refine W.eq (g2 := F0 m 9 ls [.int 0]) rfl ?_
  refine lv_if_eq (tgt := 25) hx hb dX12_find_9 (by decide) (fun c_4 => ?_) (fun c_4 => absurd (by decide) c_4)
  refine lv_iconst (v := (-1)) hx hb dX12_find_25 (by decide) ?_
  exact ct_iret hx hb hr hlk rfl hS hP hD () rfl trivial [] rfl (by decide) trivial (Nat.le_of_ble_eq_true rfl) (Nat.le_of_ble_eq_true rfl) dX12_find_26
set_option maxHeartbeats 4000000 in
set_option maxRecDepth 100000 in
theorem c_X12_narrow (l : Launch) (D : va_G) (κ : Nat → ClassId) (m0 : Nat) (a0 : Nat) (a1 : Nat) (a2 : Nat) (a5 : Nat) (a14 : Nat) (a15 : Nat) (a16 : Nat) (a17 : Nat) (a20 : Nat) (a21 : Nat) (a23 : Nat) (a24 : Nat) (a25 : Nat) (a28 : Nat) (za : Int32) (zb : Int32) (zc : Int32) : Ct l yX12_narrow (wl yX12_narrow cX12_narrow 6 (some .int)) { frames := 4, cells := 0, slots := 0, locals := 90 } D κ [.ref m0, .int za, .int zb, .int zc] [(m0, .inr (12, [.ref a0, .ref a1, .ref a2, .int 0, .int 0, .ref a5, .int 0, .int 0, .int (-1), .int (-1), .int 0, .int 0, .int 0, .int 0, .ref a14, .ref a15, .ref a16, .ref a17, .int 0, .int 0, .ref a20, .ref a21, .int 0, .ref a23, .ref a24, .ref a25, .int 0, .int 0, .ref a28, .int 0])), (a0, .inl (κ 0, 21375, .inl wf0)), (a20, .inl (κ 0, 801, .inl (fun _ => 0)))] (fun _ => True) (fun _ : Unit => some (.int (-1))) (fun _ : Unit => True) (fun _ : Unit => []) (fun _ _ => True) := by
  refine ct_of (by decide +kernel) (Nat.le_of_ble_eq_true rfl) ?_
  intro p e s m args below meth c A ls hx hb hr hml hts hown hlk hin hKK hK hA hP hD hS hI hl
  have hS : va_S A s.heap s.heap [] := hS
  have hFX : FX p s m args c cX12_narrow 6 RX12 := ⟨hx, hb, hml, hown, hts⟩
  have hl : lv_has ls 6 [(0, .ref m0), (1, .int za), (2, .int zb), (3, .int zc)] := hl
  refine lv_aload_n hx hb dX12_narrow_0 rfl (lv_at hl 0 rfl) ?_
  refine ct_V (wr := [(a0, .inl (κ 0, 21375, .inl wf0))]) (As := []) (rest := []) hFX hKK hP hD hS hA (c_X12_laysTape l D κ m0 a0 a1 a2 a5 a14 a15 a16 a17 a20 a21 a23 a24 a25 a28) 0 gV_X12_306 hdV_X12_laysTape ⟨Nat.le_of_ble_eq_true rfl, Nat.le_of_ble_eq_true rfl⟩ rfl rfl (Nat.le_of_ble_eq_true rfl) dX12_narrow_1 ⟨Nat.le_of_ble_eq_true rfl, Nat.le_of_ble_eq_true rfl⟩ hl.1 [0, 2] [1] rfl rfl (by decide) (by decide) (by decide) 0 12 rfl rfl rfl trivial (fun g_1 H locs hp_2 _ hP hD hS hz_ hk_ => ?_)
  have hP : va_P D vwCl [(a0, .inl (κ 0, 21375, .inl wf0)), (m0, .inr (12, [.ref a0, .ref a1, .ref a2, .int 0, .int 0, .ref a5, .int 0, .int 0, .int (-1), .int (-1), .int 0, .int 0, .int 0, .int 0, .ref a14, .ref a15, .ref a16, .ref a17, .int 0, .int 0, .ref a20, .ref a21, .int 0, .ref a23, .ref a24, .ref a25, .int 0, .int 0, .ref a28, .int 0])), (a20, .inl (κ 0, 801, .inl g_1))] H := hP
  have hD : va_D A [(a0, .inl (κ 0, 21375, .inl wf0)), (m0, .inr (12, [.ref a0, .ref a1, .ref a2, .int 0, .int 0, .ref a5, .int 0, .int 0, .int (-1), .int (-1), .int 0, .int 0, .int 0, .int 0, .ref a14, .ref a15, .ref a16, .ref a17, .int 0, .int 0, .ref a20, .ref a21, .int 0, .ref a23, .ref a24, .ref a25, .int 0, .int 0, .ref a28, .int 0])), (a20, .inl (κ 0, 801, .inl g_1))] := hD
  refine W.eq (g2 := F0 m 4 ls []) rfl ?_
  refine lv_aload_n hx hb dX12_narrow_4 rfl (lv_at hl 0 rfl) ?_
  refine lv_iload_n hx hb dX12_narrow_5 rfl (lv_at hl 1 rfl) ?_
  refine lv_iload_n hx hb dX12_narrow_6 rfl (lv_at hl 2 rfl) ?_
  refine cr_V (As := [.int za, .int zb]) (rest := []) hFX hKK (c_X12_mayView l D κ m0 a0 a1 a2 a5 a14 a15 a16 a17 a20 a21 a23 a24 a25 a28 za zb) 2 gV_X12_336 hdV_X12_mayView rfl rfl ⟨Nat.le_of_ble_eq_true rfl, Nat.le_of_ble_eq_true rfl⟩ rfl rfl (Nat.le_of_ble_eq_true rfl) dX12_narrow_7 ⟨Nat.le_of_ble_eq_true rfl, Nat.le_of_ble_eq_true rfl⟩ hl.1 hP 1 12 rfl rfl rfl (hP.sub [1, 0] rfl) (fun _ hp_3 => ?_)
  refine W.eq (g2 := F0 m 10 ls [.int 0]) rfl ?_
  refine lv_if_eq (tgt := 25) hx hb dX12_narrow_10 (by decide) (fun c_4 => ?_) (fun c_4 => absurd (by decide) c_4)
  refine lv_iconst (v := (-1)) hx hb dX12_narrow_25 (by decide) ?_
  exact ct_iret hx hb hr hlk rfl hS hP hD () rfl trivial [] rfl (by decide) trivial (Nat.le_of_ble_eq_true rfl) (Nat.le_of_ble_eq_true rfl) dX12_narrow_26
set_option maxHeartbeats 4000000 in
set_option maxRecDepth 100000 in
theorem c_X12_row (l : Launch) (D : va_G) (κ : Nat → ClassId) (m0 : Nat) (a0 : Nat) (a1 : Nat) (a2 : Nat) (a5 : Nat) (a14 : Nat) (a15 : Nat) (a16 : Nat) (a17 : Nat) (a20 : Nat) (a21 : Nat) (a23 : Nat) (a24 : Nat) (a25 : Nat) (a28 : Nat) (za : Int32) : Ct l yX12_row (wl yX12_row cX12_row 4 (some .int)) { frames := 2, cells := 0, slots := 0, locals := 46 } D κ [.ref m0, .int za] [(m0, .inr (12, [.ref a0, .ref a1, .ref a2, .int 0, .int 0, .ref a5, .int 0, .int 0, .int (-1), .int (-1), .int 0, .int 0, .int 0, .int 0, .ref a14, .ref a15, .ref a16, .ref a17, .int 0, .int 0, .ref a20, .ref a21, .int 0, .ref a23, .ref a24, .ref a25, .int 0, .int 0, .ref a28, .int 0])), (a0, .inl (κ 0, 21375, .inl wf0))] (fun _ => True) (fun _ : Unit => some (.int (-1))) (fun _ : Unit => True) (fun _ : Unit => []) (fun _ _ => True) := by
  refine ct_of (by decide +kernel) (Nat.le_of_ble_eq_true rfl) ?_
  intro p e s m args below meth c A ls hx hb hr hml hts hown hlk hin hKK hK hA hP hD hS hI hl
  have hS : va_S A s.heap s.heap [] := hS
  have hFX : FX p s m args c cX12_row 4 RX12 := ⟨hx, hb, hml, hown, hts⟩
  have hl : lv_has ls 4 [(0, .ref m0), (1, .int za)] := hl
  refine lv_aload_n hx hb dX12_row_0 rfl (lv_at hl 0 rfl) ?_
  refine lv_iload_n hx hb dX12_row_1 rfl (lv_at hl 1 rfl) ?_
  refine cr_V (As := [.int za]) (rest := []) hFX hKK (c_X12_isTable l D κ m0 a0 a1 a2 a5 a14 a15 a16 a17 a20 a21 a23 a24 a25 a28 za) 1 gV_X12_70 hdV_X12_isTable rfl rfl ⟨Nat.le_of_ble_eq_true rfl, Nat.le_of_ble_eq_true rfl⟩ rfl rfl (Nat.le_of_ble_eq_true rfl) dX12_row_2 ⟨Nat.le_of_ble_eq_true rfl, Nat.le_of_ble_eq_true rfl⟩ hl.1 hP 0 12 rfl rfl rfl (hP.sub [0, 1] rfl) (fun _ hp_1 => ?_)
  refine W.eq (g2 := F0 m 5 ls [.int 0]) rfl ?_
  refine lv_if_ne (tgt := 15) hx hb dX12_row_5 (by decide) (fun c_2 => absurd (by decide) c_2) (fun c_2 => ?_)
  refine lv_aload_n hx hb dX12_row_8 rfl (lv_at hl 0 rfl) ?_
  refine lv_iconst (v := 0) hx hb dX12_row_9 (by decide) ?_
  refine va_put (D := D) (ci := 12) (v := .int 0) (ty := tyX12 6) (C := RX12) (T := TX12) (N := 30) hx hb hts inlX12 tyX12 tyX12_ok nmX12 hown hK hP hD hS 0 rfl rfl 6 (by decide) (hts _ mw_236) (fun _ h9 => h9) rfl (tyX12_ok 6 (by decide)) rfl rfl (Nat.le_of_ble_eq_true rfl) dX12_row_10 (fun H locs hP hD hS => ?_)
  have hP : va_P D vwCl [(m0, .inr (12, [.ref a0, .ref a1, .ref a2, .int 0, .int 0, .ref a5, .int 0, .int 0, .int (-1), .int (-1), .int 0, .int 0, .int 0, .int 0, .ref a14, .ref a15, .ref a16, .ref a17, .int 0, .int 0, .ref a20, .ref a21, .int 0, .ref a23, .ref a24, .ref a25, .int 0, .int 0, .ref a28, .int 0])), (a0, .inl (κ 0, 21375, .inl wf0))] H := hP
  have hD : va_D A [(m0, .inr (12, [.ref a0, .ref a1, .ref a2, .int 0, .int 0, .ref a5, .int 0, .int 0, .int (-1), .int (-1), .int 0, .int 0, .int 0, .int 0, .ref a14, .ref a15, .ref a16, .ref a17, .int 0, .int 0, .ref a20, .ref a21, .int 0, .ref a23, .ref a24, .ref a25, .int 0, .int 0, .ref a28, .int 0])), (a0, .inl (κ 0, 21375, .inl wf0))] := hD
  refine lv_iconst (v := (-1)) hx hb dX12_row_13 (by decide) ?_
  exact ct_iret hx hb hr hlk rfl hS hP hD () rfl trivial [] rfl (by decide) trivial (Nat.le_of_ble_eq_true rfl) (Nat.le_of_ble_eq_true rfl) dX12_row_14
set_option maxHeartbeats 4000000 in
set_option maxRecDepth 100000 in
theorem c_X12_dialect (l : Launch) (D : va_G) (κ : Nat → ClassId) (m0 : Nat) (a0 : Nat) (a1 : Nat) (a2 : Nat) (a5 : Nat) (a14 : Nat) (a15 : Nat) (a16 : Nat) (a17 : Nat) (a20 : Nat) (a21 : Nat) (a23 : Nat) (a24 : Nat) (a25 : Nat) (a28 : Nat) (za : Int32) (zb : Int32) : Ct l yX12_dialect (wl yX12_dialect cX12_dialect 4 (some .boolean)) { frames := 1, cells := 0, slots := 0, locals := 25 } D κ [.ref m0, .int za, .int zb] [(m0, .inr (12, [.ref a0, .ref a1, .ref a2, .int 0, .int 0, .ref a5, .int 0, .int 0, .int (-1), .int (-1), .int 0, .int 0, .int 0, .int 0, .ref a14, .ref a15, .ref a16, .ref a17, .int 0, .int 0, .ref a20, .ref a21, .int 0, .ref a23, .ref a24, .ref a25, .int 0, .int 0, .ref a28, .int 0])), (a0, .inl (κ 0, 21375, .inl wf0))] (fun _ => True) (fun r : Int32 => some (.int r)) (fun r : Int32 => (r = 1 ∧ canD za zb) ∨ (r = 0 ∧ ¬ canD za zb)) (fun r : Int32 => []) (fun _ _ => True) := by
  refine ct_of (by decide +kernel) (Nat.le_of_ble_eq_true rfl) ?_
  intro p e s m args below meth c A ls hx hb hr hml hts hown hlk hin hKK hK hA hP hD hS hI hl
  have hS : va_S A s.heap s.heap [] := hS
  have hFX : FX p s m args c cX12_dialect 4 RX12 := ⟨hx, hb, hml, hown, hts⟩
  have hl : lv_has ls 4 [(0, .ref m0), (1, .int za), (2, .int zb)] := hl
  refine lv_iload_n hx hb dX12_dialect_0 rfl (lv_at hl 1 rfl) ?_
  rcases Classical.em (za.toInt < 0 ∨ 5 < za.toInt) with c_1 | c_1
  · refine lv_tableOut (tgt := 156) hx hb dX12_dialect_1 c_1 (by decide) ?_
    refine lv_iconst (v := 0) hx hb dX12_dialect_156 (by decide) ?_
    refine lv_istore_n (lv' := [(3, .int 0), (0, .ref m0), (1, .int za), (2, .int zb)]) hx hb dX12_dialect_157 rfl hl (by decide) rfl (fun ls hl => ?_)
    refine lv_iload_n hx hb dX12_dialect_158 rfl (lv_at hl 0 rfl) ?_
    refine lv_if_eq (tgt := 173) hx hb dX12_dialect_159 (by decide) (fun c_2 => ?_) (fun c_2 => absurd (by decide) c_2)
    refine lv_iload_n hx hb dX12_dialect_173 rfl (lv_at hl 0 rfl) ?_
    exact ct_iret hx hb hr hlk rfl hS hP hD 0 rfl (Or.inr ⟨rfl, canD_out c_1⟩) [] rfl (by decide) trivial (Nat.le_of_ble_eq_true rfl) (Nat.le_of_ble_eq_true rfl) dX12_dialect_174
  · have e_3 : za = 0 ∨ za = 1 ∨ za = 2 ∨ za = 3 ∨ za = 4 ∨ za = 5 := by
      have q1 : ¬ za.toInt < 0 := fun h => c_1 (Or.inl h)
      have q2 : ¬ 5 < za.toInt := fun h => c_1 (Or.inr h)
      have q3 : ∀ v : Int32, za.toInt = v.toInt → za = v := fun v h => Int32.toInt_inj.mp h
      rcases (show za.toInt = 0 ∨ za.toInt = 1 ∨ za.toInt = 2 ∨ za.toInt = 3 ∨ za.toInt = 4 ∨ za.toInt = 5 by omega) with h | h | h | h | h | h
      · exact Or.inl (q3 0 (h.trans (by decide)))
      · exact Or.inr (Or.inl (q3 1 (h.trans (by decide))))
      · exact Or.inr (Or.inr (Or.inl (q3 2 (h.trans (by decide)))))
      · exact Or.inr (Or.inr (Or.inr (Or.inl (q3 3 (h.trans (by decide))))))
      · exact Or.inr (Or.inr (Or.inr (Or.inr (Or.inl (q3 4 (h.trans (by decide)))))))
      · exact Or.inr (Or.inr (Or.inr (Or.inr (Or.inr ((q3 5 (h.trans (by decide))))))))
    rcases e_3 with e_3 | e_3 | e_3 | e_3 | e_3 | e_3
    · refine lv_tableIn (tgt := 40) hx hb dX12_dialect_1 (by rw [e_3]; decide) (by rw [e_3]; decide) (by rw [e_3]; rfl) (by decide) ?_
      refine lv_iload_n hx hb dX12_dialect_40 rfl (lv_at hl 2 rfl) ?_
      refine lv_bipush (v := 44) hx hb dX12_dialect_41 (by decide) ?_
      refine lv_icmp_eq (tgt := 64) hx hb dX12_dialect_43 (by decide) (fun c_4 => ?_) (fun c_4 => ?_)
      · refine lv_iconst (v := 1) hx hb dX12_dialect_64 (by decide) ?_
        refine lv_goto (tgt := 69) hx hb dX12_dialect_65 (by decide) ?_
        refine lv_istore_n (lv' := [(3, .int 1), (0, .ref m0), (1, .int za), (2, .int zb)]) hx hb dX12_dialect_69 rfl hl (by decide) rfl (fun ls hl => ?_)
        refine lv_goto (tgt := 158) hx hb dX12_dialect_70 (by decide) ?_
        refine lv_iload_n hx hb dX12_dialect_158 rfl (lv_at hl 0 rfl) ?_
        refine lv_if_eq (tgt := 173) hx hb dX12_dialect_159 (by decide) (fun c_5 => absurd c_5 (by decide)) (fun c_5 => ?_)
        refine lv_aload_n hx hb dX12_dialect_162 rfl (lv_at hl 1 rfl) ?_
        refine va_get (D := D) (ci := 12) (v := .ref a0) (C := RX12) (T := TX12) (N := 30) hx hb hts inlX12 hown hK hP 0 rfl rfl 0 (by decide) (hts _ mw_187) (fun _ h9 => h9) rfl dX12_dialect_163 ?_
        refine lv_sipush (v := 21369) hx hb dX12_dialect_166 (by decide) ?_
        refine lv_iload_n hx hb dX12_dialect_169 rfl (lv_at hl 2 rfl) ?_
        refine lv_iadd hx hb dX12_dialect_170 ?_
        refine lv_topi (fun x_6 ex_6 => ?_)
        refine lv_iload_n hx hb dX12_dialect_171 rfl (lv_at hl 3 rfl) ?_
        refine va_iast hx hb hK hP hD hS 1 0 rfl rfl (i := x_6) (x := zb) (by rw [ex_6, e_3]; exact vp_k (by decide)) dX12_dialect_172 (fun H locs hP hD hS => ?_)
        have hP : va_P D vwCl [(m0, .inr (12, [.ref a0, .ref a1, .ref a2, .int 0, .int 0, .ref a5, .int 0, .int 0, .int (-1), .int (-1), .int 0, .int 0, .int 0, .int 0, .ref a14, .ref a15, .ref a16, .ref a17, .int 0, .int 0, .ref a20, .ref a21, .int 0, .ref a23, .ref a24, .ref a25, .int 0, .int 0, .ref a28, .int 0])), (a0, .inl (κ 0, 21375, .inl (upd wf0 x_6.toNatClampNeg zb)))] H := hP
        have hD : va_D A [(m0, .inr (12, [.ref a0, .ref a1, .ref a2, .int 0, .int 0, .ref a5, .int 0, .int 0, .int (-1), .int (-1), .int 0, .int 0, .int 0, .int 0, .ref a14, .ref a15, .ref a16, .ref a17, .int 0, .int 0, .ref a20, .ref a21, .int 0, .ref a23, .ref a24, .ref a25, .int 0, .int 0, .ref a28, .int 0])), (a0, .inl (κ 0, 21375, .inl (upd wf0 x_6.toNatClampNeg zb)))] := hD
        refine lv_iload_n hx hb dX12_dialect_173 rfl (lv_at hl 0 rfl) ?_
        exact ct_iret hx hb hr hlk rfl hS hP hD 1 rfl (Or.inl ⟨rfl, Or.inl ⟨e_3, Or.inl c_4⟩⟩) [] rfl (by decide) trivial (Nat.le_of_ble_eq_true rfl) (Nat.le_of_ble_eq_true rfl) dX12_dialect_174
      · refine lv_iload_n hx hb dX12_dialect_46 rfl (lv_at hl 2 rfl) ?_
        refine lv_bipush (v := 59) hx hb dX12_dialect_47 (by decide) ?_
        refine lv_icmp_eq (tgt := 64) hx hb dX12_dialect_49 (by decide) (fun c_7 => ?_) (fun c_7 => ?_)
        · refine lv_iconst (v := 1) hx hb dX12_dialect_64 (by decide) ?_
          refine lv_goto (tgt := 69) hx hb dX12_dialect_65 (by decide) ?_
          refine lv_istore_n (lv' := [(3, .int 1), (0, .ref m0), (1, .int za), (2, .int zb)]) hx hb dX12_dialect_69 rfl hl (by decide) rfl (fun ls hl => ?_)
          refine lv_goto (tgt := 158) hx hb dX12_dialect_70 (by decide) ?_
          refine lv_iload_n hx hb dX12_dialect_158 rfl (lv_at hl 0 rfl) ?_
          refine lv_if_eq (tgt := 173) hx hb dX12_dialect_159 (by decide) (fun c_8 => absurd c_8 (by decide)) (fun c_8 => ?_)
          refine lv_aload_n hx hb dX12_dialect_162 rfl (lv_at hl 1 rfl) ?_
          refine va_get (D := D) (ci := 12) (v := .ref a0) (C := RX12) (T := TX12) (N := 30) hx hb hts inlX12 hown hK hP 0 rfl rfl 0 (by decide) (hts _ mw_187) (fun _ h9 => h9) rfl dX12_dialect_163 ?_
          refine lv_sipush (v := 21369) hx hb dX12_dialect_166 (by decide) ?_
          refine lv_iload_n hx hb dX12_dialect_169 rfl (lv_at hl 2 rfl) ?_
          refine lv_iadd hx hb dX12_dialect_170 ?_
          refine lv_topi (fun x_9 ex_9 => ?_)
          refine lv_iload_n hx hb dX12_dialect_171 rfl (lv_at hl 3 rfl) ?_
          refine va_iast hx hb hK hP hD hS 1 0 rfl rfl (i := x_9) (x := zb) (by rw [ex_9, e_3]; exact vp_k (by decide)) dX12_dialect_172 (fun H locs hP hD hS => ?_)
          have hP : va_P D vwCl [(m0, .inr (12, [.ref a0, .ref a1, .ref a2, .int 0, .int 0, .ref a5, .int 0, .int 0, .int (-1), .int (-1), .int 0, .int 0, .int 0, .int 0, .ref a14, .ref a15, .ref a16, .ref a17, .int 0, .int 0, .ref a20, .ref a21, .int 0, .ref a23, .ref a24, .ref a25, .int 0, .int 0, .ref a28, .int 0])), (a0, .inl (κ 0, 21375, .inl (upd wf0 x_9.toNatClampNeg zb)))] H := hP
          have hD : va_D A [(m0, .inr (12, [.ref a0, .ref a1, .ref a2, .int 0, .int 0, .ref a5, .int 0, .int 0, .int (-1), .int (-1), .int 0, .int 0, .int 0, .int 0, .ref a14, .ref a15, .ref a16, .ref a17, .int 0, .int 0, .ref a20, .ref a21, .int 0, .ref a23, .ref a24, .ref a25, .int 0, .int 0, .ref a28, .int 0])), (a0, .inl (κ 0, 21375, .inl (upd wf0 x_9.toNatClampNeg zb)))] := hD
          refine lv_iload_n hx hb dX12_dialect_173 rfl (lv_at hl 0 rfl) ?_
          exact ct_iret hx hb hr hlk rfl hS hP hD 1 rfl (Or.inl ⟨rfl, Or.inl ⟨e_3, Or.inr (Or.inl c_7)⟩⟩) [] rfl (by decide) trivial (Nat.le_of_ble_eq_true rfl) (Nat.le_of_ble_eq_true rfl) dX12_dialect_174
        · refine lv_iload_n hx hb dX12_dialect_52 rfl (lv_at hl 2 rfl) ?_
          refine lv_bipush (v := 124) hx hb dX12_dialect_53 (by decide) ?_
          refine lv_icmp_eq (tgt := 64) hx hb dX12_dialect_55 (by decide) (fun c_10 => ?_) (fun c_10 => ?_)
          · refine lv_iconst (v := 1) hx hb dX12_dialect_64 (by decide) ?_
            refine lv_goto (tgt := 69) hx hb dX12_dialect_65 (by decide) ?_
            refine lv_istore_n (lv' := [(3, .int 1), (0, .ref m0), (1, .int za), (2, .int zb)]) hx hb dX12_dialect_69 rfl hl (by decide) rfl (fun ls hl => ?_)
            refine lv_goto (tgt := 158) hx hb dX12_dialect_70 (by decide) ?_
            refine lv_iload_n hx hb dX12_dialect_158 rfl (lv_at hl 0 rfl) ?_
            refine lv_if_eq (tgt := 173) hx hb dX12_dialect_159 (by decide) (fun c_11 => absurd c_11 (by decide)) (fun c_11 => ?_)
            refine lv_aload_n hx hb dX12_dialect_162 rfl (lv_at hl 1 rfl) ?_
            refine va_get (D := D) (ci := 12) (v := .ref a0) (C := RX12) (T := TX12) (N := 30) hx hb hts inlX12 hown hK hP 0 rfl rfl 0 (by decide) (hts _ mw_187) (fun _ h9 => h9) rfl dX12_dialect_163 ?_
            refine lv_sipush (v := 21369) hx hb dX12_dialect_166 (by decide) ?_
            refine lv_iload_n hx hb dX12_dialect_169 rfl (lv_at hl 2 rfl) ?_
            refine lv_iadd hx hb dX12_dialect_170 ?_
            refine lv_topi (fun x_12 ex_12 => ?_)
            refine lv_iload_n hx hb dX12_dialect_171 rfl (lv_at hl 3 rfl) ?_
            refine va_iast hx hb hK hP hD hS 1 0 rfl rfl (i := x_12) (x := zb) (by rw [ex_12, e_3]; exact vp_k (by decide)) dX12_dialect_172 (fun H locs hP hD hS => ?_)
            have hP : va_P D vwCl [(m0, .inr (12, [.ref a0, .ref a1, .ref a2, .int 0, .int 0, .ref a5, .int 0, .int 0, .int (-1), .int (-1), .int 0, .int 0, .int 0, .int 0, .ref a14, .ref a15, .ref a16, .ref a17, .int 0, .int 0, .ref a20, .ref a21, .int 0, .ref a23, .ref a24, .ref a25, .int 0, .int 0, .ref a28, .int 0])), (a0, .inl (κ 0, 21375, .inl (upd wf0 x_12.toNatClampNeg zb)))] H := hP
            have hD : va_D A [(m0, .inr (12, [.ref a0, .ref a1, .ref a2, .int 0, .int 0, .ref a5, .int 0, .int 0, .int (-1), .int (-1), .int 0, .int 0, .int 0, .int 0, .ref a14, .ref a15, .ref a16, .ref a17, .int 0, .int 0, .ref a20, .ref a21, .int 0, .ref a23, .ref a24, .ref a25, .int 0, .int 0, .ref a28, .int 0])), (a0, .inl (κ 0, 21375, .inl (upd wf0 x_12.toNatClampNeg zb)))] := hD
            refine lv_iload_n hx hb dX12_dialect_173 rfl (lv_at hl 0 rfl) ?_
            exact ct_iret hx hb hr hlk rfl hS hP hD 1 rfl (Or.inl ⟨rfl, Or.inl ⟨e_3, Or.inr (Or.inr (Or.inl c_10))⟩⟩) [] rfl (by decide) trivial (Nat.le_of_ble_eq_true rfl) (Nat.le_of_ble_eq_true rfl) dX12_dialect_174
          · refine lv_iload_n hx hb dX12_dialect_58 rfl (lv_at hl 2 rfl) ?_
            refine lv_bipush (v := 9) hx hb dX12_dialect_59 (by decide) ?_
            refine lv_icmp_ne (tgt := 68) hx hb dX12_dialect_61 (by decide) (fun c_13 => ?_) (fun c_13 => ?_)
            · refine lv_iconst (v := 0) hx hb dX12_dialect_68 (by decide) ?_
              refine lv_istore_n (lv' := [(3, .int 0), (0, .ref m0), (1, .int za), (2, .int zb)]) hx hb dX12_dialect_69 rfl hl (by decide) rfl (fun ls hl => ?_)
              refine lv_goto (tgt := 158) hx hb dX12_dialect_70 (by decide) ?_
              refine lv_iload_n hx hb dX12_dialect_158 rfl (lv_at hl 0 rfl) ?_
              refine lv_if_eq (tgt := 173) hx hb dX12_dialect_159 (by decide) (fun c_14 => ?_) (fun c_14 => absurd (by decide) c_14)
              refine lv_iload_n hx hb dX12_dialect_173 rfl (lv_at hl 0 rfl) ?_
              exact ct_iret hx hb hr hlk rfl hS hP hD 0 rfl (Or.inr ⟨rfl, nD0 e_3 c_4 c_7 c_10 c_13⟩) [] rfl (by decide) trivial (Nat.le_of_ble_eq_true rfl) (Nat.le_of_ble_eq_true rfl) dX12_dialect_174
            · refine lv_iconst (v := 1) hx hb dX12_dialect_64 (by decide) ?_
              refine lv_goto (tgt := 69) hx hb dX12_dialect_65 (by decide) ?_
              refine lv_istore_n (lv' := [(3, .int 1), (0, .ref m0), (1, .int za), (2, .int zb)]) hx hb dX12_dialect_69 rfl hl (by decide) rfl (fun ls hl => ?_)
              refine lv_goto (tgt := 158) hx hb dX12_dialect_70 (by decide) ?_
              refine lv_iload_n hx hb dX12_dialect_158 rfl (lv_at hl 0 rfl) ?_
              refine lv_if_eq (tgt := 173) hx hb dX12_dialect_159 (by decide) (fun c_15 => absurd c_15 (by decide)) (fun c_15 => ?_)
              refine lv_aload_n hx hb dX12_dialect_162 rfl (lv_at hl 1 rfl) ?_
              refine va_get (D := D) (ci := 12) (v := .ref a0) (C := RX12) (T := TX12) (N := 30) hx hb hts inlX12 hown hK hP 0 rfl rfl 0 (by decide) (hts _ mw_187) (fun _ h9 => h9) rfl dX12_dialect_163 ?_
              refine lv_sipush (v := 21369) hx hb dX12_dialect_166 (by decide) ?_
              refine lv_iload_n hx hb dX12_dialect_169 rfl (lv_at hl 2 rfl) ?_
              refine lv_iadd hx hb dX12_dialect_170 ?_
              refine lv_topi (fun x_16 ex_16 => ?_)
              refine lv_iload_n hx hb dX12_dialect_171 rfl (lv_at hl 3 rfl) ?_
              refine va_iast hx hb hK hP hD hS 1 0 rfl rfl (i := x_16) (x := zb) (by rw [ex_16, e_3]; exact vp_k (by decide)) dX12_dialect_172 (fun H locs hP hD hS => ?_)
              have hP : va_P D vwCl [(m0, .inr (12, [.ref a0, .ref a1, .ref a2, .int 0, .int 0, .ref a5, .int 0, .int 0, .int (-1), .int (-1), .int 0, .int 0, .int 0, .int 0, .ref a14, .ref a15, .ref a16, .ref a17, .int 0, .int 0, .ref a20, .ref a21, .int 0, .ref a23, .ref a24, .ref a25, .int 0, .int 0, .ref a28, .int 0])), (a0, .inl (κ 0, 21375, .inl (upd wf0 x_16.toNatClampNeg zb)))] H := hP
              have hD : va_D A [(m0, .inr (12, [.ref a0, .ref a1, .ref a2, .int 0, .int 0, .ref a5, .int 0, .int 0, .int (-1), .int (-1), .int 0, .int 0, .int 0, .int 0, .ref a14, .ref a15, .ref a16, .ref a17, .int 0, .int 0, .ref a20, .ref a21, .int 0, .ref a23, .ref a24, .ref a25, .int 0, .int 0, .ref a28, .int 0])), (a0, .inl (κ 0, 21375, .inl (upd wf0 x_16.toNatClampNeg zb)))] := hD
              refine lv_iload_n hx hb dX12_dialect_173 rfl (lv_at hl 0 rfl) ?_
              exact ct_iret hx hb hr hlk rfl hS hP hD 1 rfl (Or.inl ⟨rfl, Or.inl ⟨e_3, Or.inr (Or.inr (Or.inr (c_13)))⟩⟩) [] rfl (by decide) trivial (Nat.le_of_ble_eq_true rfl) (Nat.le_of_ble_eq_true rfl) dX12_dialect_174
    · refine lv_tableIn (tgt := 73) hx hb dX12_dialect_1 (by rw [e_3]; decide) (by rw [e_3]; decide) (by rw [e_3]; rfl) (by decide) ?_
      refine lv_iload_n hx hb dX12_dialect_73 rfl (lv_at hl 2 rfl) ?_
      refine lv_bipush (v := 34) hx hb dX12_dialect_74 (by decide) ?_
      refine lv_icmp_eq (tgt := 85) hx hb dX12_dialect_76 (by decide) (fun c_17 => ?_) (fun c_17 => ?_)
      · refine lv_iconst (v := 1) hx hb dX12_dialect_85 (by decide) ?_
        refine lv_goto (tgt := 90) hx hb dX12_dialect_86 (by decide) ?_
        refine lv_istore_n (lv' := [(3, .int 1), (0, .ref m0), (1, .int za), (2, .int zb)]) hx hb dX12_dialect_90 rfl hl (by decide) rfl (fun ls hl => ?_)
        refine lv_goto (tgt := 158) hx hb dX12_dialect_91 (by decide) ?_
        refine lv_iload_n hx hb dX12_dialect_158 rfl (lv_at hl 0 rfl) ?_
        refine lv_if_eq (tgt := 173) hx hb dX12_dialect_159 (by decide) (fun c_18 => absurd c_18 (by decide)) (fun c_18 => ?_)
        refine lv_aload_n hx hb dX12_dialect_162 rfl (lv_at hl 1 rfl) ?_
        refine va_get (D := D) (ci := 12) (v := .ref a0) (C := RX12) (T := TX12) (N := 30) hx hb hts inlX12 hown hK hP 0 rfl rfl 0 (by decide) (hts _ mw_187) (fun _ h9 => h9) rfl dX12_dialect_163 ?_
        refine lv_sipush (v := 21369) hx hb dX12_dialect_166 (by decide) ?_
        refine lv_iload_n hx hb dX12_dialect_169 rfl (lv_at hl 2 rfl) ?_
        refine lv_iadd hx hb dX12_dialect_170 ?_
        refine lv_topi (fun x_19 ex_19 => ?_)
        refine lv_iload_n hx hb dX12_dialect_171 rfl (lv_at hl 3 rfl) ?_
        refine va_iast hx hb hK hP hD hS 1 0 rfl rfl (i := x_19) (x := zb) (by rw [ex_19, e_3]; exact vp_k (by decide)) dX12_dialect_172 (fun H locs hP hD hS => ?_)
        have hP : va_P D vwCl [(m0, .inr (12, [.ref a0, .ref a1, .ref a2, .int 0, .int 0, .ref a5, .int 0, .int 0, .int (-1), .int (-1), .int 0, .int 0, .int 0, .int 0, .ref a14, .ref a15, .ref a16, .ref a17, .int 0, .int 0, .ref a20, .ref a21, .int 0, .ref a23, .ref a24, .ref a25, .int 0, .int 0, .ref a28, .int 0])), (a0, .inl (κ 0, 21375, .inl (upd wf0 x_19.toNatClampNeg zb)))] H := hP
        have hD : va_D A [(m0, .inr (12, [.ref a0, .ref a1, .ref a2, .int 0, .int 0, .ref a5, .int 0, .int 0, .int (-1), .int (-1), .int 0, .int 0, .int 0, .int 0, .ref a14, .ref a15, .ref a16, .ref a17, .int 0, .int 0, .ref a20, .ref a21, .int 0, .ref a23, .ref a24, .ref a25, .int 0, .int 0, .ref a28, .int 0])), (a0, .inl (κ 0, 21375, .inl (upd wf0 x_19.toNatClampNeg zb)))] := hD
        refine lv_iload_n hx hb dX12_dialect_173 rfl (lv_at hl 0 rfl) ?_
        exact ct_iret hx hb hr hlk rfl hS hP hD 1 rfl (Or.inl ⟨rfl, Or.inr (Or.inl ⟨e_3, Or.inl c_17⟩)⟩) [] rfl (by decide) trivial (Nat.le_of_ble_eq_true rfl) (Nat.le_of_ble_eq_true rfl) dX12_dialect_174
      · refine lv_iload_n hx hb dX12_dialect_79 rfl (lv_at hl 2 rfl) ?_
        refine lv_bipush (v := 39) hx hb dX12_dialect_80 (by decide) ?_
        refine lv_icmp_ne (tgt := 89) hx hb dX12_dialect_82 (by decide) (fun c_20 => ?_) (fun c_20 => ?_)
        · refine lv_iconst (v := 0) hx hb dX12_dialect_89 (by decide) ?_
          refine lv_istore_n (lv' := [(3, .int 0), (0, .ref m0), (1, .int za), (2, .int zb)]) hx hb dX12_dialect_90 rfl hl (by decide) rfl (fun ls hl => ?_)
          refine lv_goto (tgt := 158) hx hb dX12_dialect_91 (by decide) ?_
          refine lv_iload_n hx hb dX12_dialect_158 rfl (lv_at hl 0 rfl) ?_
          refine lv_if_eq (tgt := 173) hx hb dX12_dialect_159 (by decide) (fun c_21 => ?_) (fun c_21 => absurd (by decide) c_21)
          refine lv_iload_n hx hb dX12_dialect_173 rfl (lv_at hl 0 rfl) ?_
          exact ct_iret hx hb hr hlk rfl hS hP hD 0 rfl (Or.inr ⟨rfl, nD1 e_3 c_17 c_20⟩) [] rfl (by decide) trivial (Nat.le_of_ble_eq_true rfl) (Nat.le_of_ble_eq_true rfl) dX12_dialect_174
        · refine lv_iconst (v := 1) hx hb dX12_dialect_85 (by decide) ?_
          refine lv_goto (tgt := 90) hx hb dX12_dialect_86 (by decide) ?_
          refine lv_istore_n (lv' := [(3, .int 1), (0, .ref m0), (1, .int za), (2, .int zb)]) hx hb dX12_dialect_90 rfl hl (by decide) rfl (fun ls hl => ?_)
          refine lv_goto (tgt := 158) hx hb dX12_dialect_91 (by decide) ?_
          refine lv_iload_n hx hb dX12_dialect_158 rfl (lv_at hl 0 rfl) ?_
          refine lv_if_eq (tgt := 173) hx hb dX12_dialect_159 (by decide) (fun c_22 => absurd c_22 (by decide)) (fun c_22 => ?_)
          refine lv_aload_n hx hb dX12_dialect_162 rfl (lv_at hl 1 rfl) ?_
          refine va_get (D := D) (ci := 12) (v := .ref a0) (C := RX12) (T := TX12) (N := 30) hx hb hts inlX12 hown hK hP 0 rfl rfl 0 (by decide) (hts _ mw_187) (fun _ h9 => h9) rfl dX12_dialect_163 ?_
          refine lv_sipush (v := 21369) hx hb dX12_dialect_166 (by decide) ?_
          refine lv_iload_n hx hb dX12_dialect_169 rfl (lv_at hl 2 rfl) ?_
          refine lv_iadd hx hb dX12_dialect_170 ?_
          refine lv_topi (fun x_23 ex_23 => ?_)
          refine lv_iload_n hx hb dX12_dialect_171 rfl (lv_at hl 3 rfl) ?_
          refine va_iast hx hb hK hP hD hS 1 0 rfl rfl (i := x_23) (x := zb) (by rw [ex_23, e_3]; exact vp_k (by decide)) dX12_dialect_172 (fun H locs hP hD hS => ?_)
          have hP : va_P D vwCl [(m0, .inr (12, [.ref a0, .ref a1, .ref a2, .int 0, .int 0, .ref a5, .int 0, .int 0, .int (-1), .int (-1), .int 0, .int 0, .int 0, .int 0, .ref a14, .ref a15, .ref a16, .ref a17, .int 0, .int 0, .ref a20, .ref a21, .int 0, .ref a23, .ref a24, .ref a25, .int 0, .int 0, .ref a28, .int 0])), (a0, .inl (κ 0, 21375, .inl (upd wf0 x_23.toNatClampNeg zb)))] H := hP
          have hD : va_D A [(m0, .inr (12, [.ref a0, .ref a1, .ref a2, .int 0, .int 0, .ref a5, .int 0, .int 0, .int (-1), .int (-1), .int 0, .int 0, .int 0, .int 0, .ref a14, .ref a15, .ref a16, .ref a17, .int 0, .int 0, .ref a20, .ref a21, .int 0, .ref a23, .ref a24, .ref a25, .int 0, .int 0, .ref a28, .int 0])), (a0, .inl (κ 0, 21375, .inl (upd wf0 x_23.toNatClampNeg zb)))] := hD
          refine lv_iload_n hx hb dX12_dialect_173 rfl (lv_at hl 0 rfl) ?_
          exact ct_iret hx hb hr hlk rfl hS hP hD 1 rfl (Or.inl ⟨rfl, Or.inr (Or.inl ⟨e_3, Or.inr (c_20)⟩)⟩) [] rfl (by decide) trivial (Nat.le_of_ble_eq_true rfl) (Nat.le_of_ble_eq_true rfl) dX12_dialect_174
    · refine lv_tableIn (tgt := 94) hx hb dX12_dialect_1 (by rw [e_3]; decide) (by rw [e_3]; decide) (by rw [e_3]; rfl) (by decide) ?_
      refine lv_iload_n hx hb dX12_dialect_94 rfl (lv_at hl 2 rfl) ?_
      refine lv_if_eq (tgt := 103) hx hb dX12_dialect_95 (by decide) (fun c_24 => ?_) (fun c_24 => ?_)
      · refine lv_iconst (v := 1) hx hb dX12_dialect_103 (by decide) ?_
        refine lv_goto (tgt := 108) hx hb dX12_dialect_104 (by decide) ?_
        refine lv_istore_n (lv' := [(3, .int 1), (0, .ref m0), (1, .int za), (2, .int zb)]) hx hb dX12_dialect_108 rfl hl (by decide) rfl (fun ls hl => ?_)
        refine lv_goto (tgt := 158) hx hb dX12_dialect_109 (by decide) ?_
        refine lv_iload_n hx hb dX12_dialect_158 rfl (lv_at hl 0 rfl) ?_
        refine lv_if_eq (tgt := 173) hx hb dX12_dialect_159 (by decide) (fun c_25 => absurd c_25 (by decide)) (fun c_25 => ?_)
        refine lv_aload_n hx hb dX12_dialect_162 rfl (lv_at hl 1 rfl) ?_
        refine va_get (D := D) (ci := 12) (v := .ref a0) (C := RX12) (T := TX12) (N := 30) hx hb hts inlX12 hown hK hP 0 rfl rfl 0 (by decide) (hts _ mw_187) (fun _ h9 => h9) rfl dX12_dialect_163 ?_
        refine lv_sipush (v := 21369) hx hb dX12_dialect_166 (by decide) ?_
        refine lv_iload_n hx hb dX12_dialect_169 rfl (lv_at hl 2 rfl) ?_
        refine lv_iadd hx hb dX12_dialect_170 ?_
        refine lv_topi (fun x_26 ex_26 => ?_)
        refine lv_iload_n hx hb dX12_dialect_171 rfl (lv_at hl 3 rfl) ?_
        refine va_iast hx hb hK hP hD hS 1 0 rfl rfl (i := x_26) (x := zb) (by rw [ex_26, e_3]; exact vp_k (by decide)) dX12_dialect_172 (fun H locs hP hD hS => ?_)
        have hP : va_P D vwCl [(m0, .inr (12, [.ref a0, .ref a1, .ref a2, .int 0, .int 0, .ref a5, .int 0, .int 0, .int (-1), .int (-1), .int 0, .int 0, .int 0, .int 0, .ref a14, .ref a15, .ref a16, .ref a17, .int 0, .int 0, .ref a20, .ref a21, .int 0, .ref a23, .ref a24, .ref a25, .int 0, .int 0, .ref a28, .int 0])), (a0, .inl (κ 0, 21375, .inl (upd wf0 x_26.toNatClampNeg zb)))] H := hP
        have hD : va_D A [(m0, .inr (12, [.ref a0, .ref a1, .ref a2, .int 0, .int 0, .ref a5, .int 0, .int 0, .int (-1), .int (-1), .int 0, .int 0, .int 0, .int 0, .ref a14, .ref a15, .ref a16, .ref a17, .int 0, .int 0, .ref a20, .ref a21, .int 0, .ref a23, .ref a24, .ref a25, .int 0, .int 0, .ref a28, .int 0])), (a0, .inl (κ 0, 21375, .inl (upd wf0 x_26.toNatClampNeg zb)))] := hD
        refine lv_iload_n hx hb dX12_dialect_173 rfl (lv_at hl 0 rfl) ?_
        exact ct_iret hx hb hr hlk rfl hS hP hD 1 rfl (Or.inl ⟨rfl, Or.inr (Or.inr (Or.inl ⟨e_3, Or.inl c_24⟩))⟩) [] rfl (by decide) trivial (Nat.le_of_ble_eq_true rfl) (Nat.le_of_ble_eq_true rfl) dX12_dialect_174
      · refine lv_iload_n hx hb dX12_dialect_98 rfl (lv_at hl 2 rfl) ?_
        refine lv_iconst (v := 1) hx hb dX12_dialect_99 (by decide) ?_
        refine lv_icmp_ne (tgt := 107) hx hb dX12_dialect_100 (by decide) (fun c_27 => ?_) (fun c_27 => ?_)
        · refine lv_iconst (v := 0) hx hb dX12_dialect_107 (by decide) ?_
          refine lv_istore_n (lv' := [(3, .int 0), (0, .ref m0), (1, .int za), (2, .int zb)]) hx hb dX12_dialect_108 rfl hl (by decide) rfl (fun ls hl => ?_)
          refine lv_goto (tgt := 158) hx hb dX12_dialect_109 (by decide) ?_
          refine lv_iload_n hx hb dX12_dialect_158 rfl (lv_at hl 0 rfl) ?_
          refine lv_if_eq (tgt := 173) hx hb dX12_dialect_159 (by decide) (fun c_28 => ?_) (fun c_28 => absurd (by decide) c_28)
          refine lv_iload_n hx hb dX12_dialect_173 rfl (lv_at hl 0 rfl) ?_
          exact ct_iret hx hb hr hlk rfl hS hP hD 0 rfl (Or.inr ⟨rfl, nD2 e_3 c_24 c_27⟩) [] rfl (by decide) trivial (Nat.le_of_ble_eq_true rfl) (Nat.le_of_ble_eq_true rfl) dX12_dialect_174
        · refine lv_iconst (v := 1) hx hb dX12_dialect_103 (by decide) ?_
          refine lv_goto (tgt := 108) hx hb dX12_dialect_104 (by decide) ?_
          refine lv_istore_n (lv' := [(3, .int 1), (0, .ref m0), (1, .int za), (2, .int zb)]) hx hb dX12_dialect_108 rfl hl (by decide) rfl (fun ls hl => ?_)
          refine lv_goto (tgt := 158) hx hb dX12_dialect_109 (by decide) ?_
          refine lv_iload_n hx hb dX12_dialect_158 rfl (lv_at hl 0 rfl) ?_
          refine lv_if_eq (tgt := 173) hx hb dX12_dialect_159 (by decide) (fun c_29 => absurd c_29 (by decide)) (fun c_29 => ?_)
          refine lv_aload_n hx hb dX12_dialect_162 rfl (lv_at hl 1 rfl) ?_
          refine va_get (D := D) (ci := 12) (v := .ref a0) (C := RX12) (T := TX12) (N := 30) hx hb hts inlX12 hown hK hP 0 rfl rfl 0 (by decide) (hts _ mw_187) (fun _ h9 => h9) rfl dX12_dialect_163 ?_
          refine lv_sipush (v := 21369) hx hb dX12_dialect_166 (by decide) ?_
          refine lv_iload_n hx hb dX12_dialect_169 rfl (lv_at hl 2 rfl) ?_
          refine lv_iadd hx hb dX12_dialect_170 ?_
          refine lv_topi (fun x_30 ex_30 => ?_)
          refine lv_iload_n hx hb dX12_dialect_171 rfl (lv_at hl 3 rfl) ?_
          refine va_iast hx hb hK hP hD hS 1 0 rfl rfl (i := x_30) (x := zb) (by rw [ex_30, e_3]; exact vp_k (by decide)) dX12_dialect_172 (fun H locs hP hD hS => ?_)
          have hP : va_P D vwCl [(m0, .inr (12, [.ref a0, .ref a1, .ref a2, .int 0, .int 0, .ref a5, .int 0, .int 0, .int (-1), .int (-1), .int 0, .int 0, .int 0, .int 0, .ref a14, .ref a15, .ref a16, .ref a17, .int 0, .int 0, .ref a20, .ref a21, .int 0, .ref a23, .ref a24, .ref a25, .int 0, .int 0, .ref a28, .int 0])), (a0, .inl (κ 0, 21375, .inl (upd wf0 x_30.toNatClampNeg zb)))] H := hP
          have hD : va_D A [(m0, .inr (12, [.ref a0, .ref a1, .ref a2, .int 0, .int 0, .ref a5, .int 0, .int 0, .int (-1), .int (-1), .int 0, .int 0, .int 0, .int 0, .ref a14, .ref a15, .ref a16, .ref a17, .int 0, .int 0, .ref a20, .ref a21, .int 0, .ref a23, .ref a24, .ref a25, .int 0, .int 0, .ref a28, .int 0])), (a0, .inl (κ 0, 21375, .inl (upd wf0 x_30.toNatClampNeg zb)))] := hD
          refine lv_iload_n hx hb dX12_dialect_173 rfl (lv_at hl 0 rfl) ?_
          exact ct_iret hx hb hr hlk rfl hS hP hD 1 rfl (Or.inl ⟨rfl, Or.inr (Or.inr (Or.inl ⟨e_3, Or.inr (c_27)⟩))⟩) [] rfl (by decide) trivial (Nat.le_of_ble_eq_true rfl) (Nat.le_of_ble_eq_true rfl) dX12_dialect_174
    · refine lv_tableIn (tgt := 94) hx hb dX12_dialect_1 (by rw [e_3]; decide) (by rw [e_3]; decide) (by rw [e_3]; rfl) (by decide) ?_
      refine lv_iload_n hx hb dX12_dialect_94 rfl (lv_at hl 2 rfl) ?_
      refine lv_if_eq (tgt := 103) hx hb dX12_dialect_95 (by decide) (fun c_31 => ?_) (fun c_31 => ?_)
      · refine lv_iconst (v := 1) hx hb dX12_dialect_103 (by decide) ?_
        refine lv_goto (tgt := 108) hx hb dX12_dialect_104 (by decide) ?_
        refine lv_istore_n (lv' := [(3, .int 1), (0, .ref m0), (1, .int za), (2, .int zb)]) hx hb dX12_dialect_108 rfl hl (by decide) rfl (fun ls hl => ?_)
        refine lv_goto (tgt := 158) hx hb dX12_dialect_109 (by decide) ?_
        refine lv_iload_n hx hb dX12_dialect_158 rfl (lv_at hl 0 rfl) ?_
        refine lv_if_eq (tgt := 173) hx hb dX12_dialect_159 (by decide) (fun c_32 => absurd c_32 (by decide)) (fun c_32 => ?_)
        refine lv_aload_n hx hb dX12_dialect_162 rfl (lv_at hl 1 rfl) ?_
        refine va_get (D := D) (ci := 12) (v := .ref a0) (C := RX12) (T := TX12) (N := 30) hx hb hts inlX12 hown hK hP 0 rfl rfl 0 (by decide) (hts _ mw_187) (fun _ h9 => h9) rfl dX12_dialect_163 ?_
        refine lv_sipush (v := 21369) hx hb dX12_dialect_166 (by decide) ?_
        refine lv_iload_n hx hb dX12_dialect_169 rfl (lv_at hl 2 rfl) ?_
        refine lv_iadd hx hb dX12_dialect_170 ?_
        refine lv_topi (fun x_33 ex_33 => ?_)
        refine lv_iload_n hx hb dX12_dialect_171 rfl (lv_at hl 3 rfl) ?_
        refine va_iast hx hb hK hP hD hS 1 0 rfl rfl (i := x_33) (x := zb) (by rw [ex_33, e_3]; exact vp_k (by decide)) dX12_dialect_172 (fun H locs hP hD hS => ?_)
        have hP : va_P D vwCl [(m0, .inr (12, [.ref a0, .ref a1, .ref a2, .int 0, .int 0, .ref a5, .int 0, .int 0, .int (-1), .int (-1), .int 0, .int 0, .int 0, .int 0, .ref a14, .ref a15, .ref a16, .ref a17, .int 0, .int 0, .ref a20, .ref a21, .int 0, .ref a23, .ref a24, .ref a25, .int 0, .int 0, .ref a28, .int 0])), (a0, .inl (κ 0, 21375, .inl (upd wf0 x_33.toNatClampNeg zb)))] H := hP
        have hD : va_D A [(m0, .inr (12, [.ref a0, .ref a1, .ref a2, .int 0, .int 0, .ref a5, .int 0, .int 0, .int (-1), .int (-1), .int 0, .int 0, .int 0, .int 0, .ref a14, .ref a15, .ref a16, .ref a17, .int 0, .int 0, .ref a20, .ref a21, .int 0, .ref a23, .ref a24, .ref a25, .int 0, .int 0, .ref a28, .int 0])), (a0, .inl (κ 0, 21375, .inl (upd wf0 x_33.toNatClampNeg zb)))] := hD
        refine lv_iload_n hx hb dX12_dialect_173 rfl (lv_at hl 0 rfl) ?_
        exact ct_iret hx hb hr hlk rfl hS hP hD 1 rfl (Or.inl ⟨rfl, Or.inr (Or.inr (Or.inr (Or.inl ⟨e_3, Or.inl c_31⟩)))⟩) [] rfl (by decide) trivial (Nat.le_of_ble_eq_true rfl) (Nat.le_of_ble_eq_true rfl) dX12_dialect_174
      · refine lv_iload_n hx hb dX12_dialect_98 rfl (lv_at hl 2 rfl) ?_
        refine lv_iconst (v := 1) hx hb dX12_dialect_99 (by decide) ?_
        refine lv_icmp_ne (tgt := 107) hx hb dX12_dialect_100 (by decide) (fun c_34 => ?_) (fun c_34 => ?_)
        · refine lv_iconst (v := 0) hx hb dX12_dialect_107 (by decide) ?_
          refine lv_istore_n (lv' := [(3, .int 0), (0, .ref m0), (1, .int za), (2, .int zb)]) hx hb dX12_dialect_108 rfl hl (by decide) rfl (fun ls hl => ?_)
          refine lv_goto (tgt := 158) hx hb dX12_dialect_109 (by decide) ?_
          refine lv_iload_n hx hb dX12_dialect_158 rfl (lv_at hl 0 rfl) ?_
          refine lv_if_eq (tgt := 173) hx hb dX12_dialect_159 (by decide) (fun c_35 => ?_) (fun c_35 => absurd (by decide) c_35)
          refine lv_iload_n hx hb dX12_dialect_173 rfl (lv_at hl 0 rfl) ?_
          exact ct_iret hx hb hr hlk rfl hS hP hD 0 rfl (Or.inr ⟨rfl, nD3 e_3 c_31 c_34⟩) [] rfl (by decide) trivial (Nat.le_of_ble_eq_true rfl) (Nat.le_of_ble_eq_true rfl) dX12_dialect_174
        · refine lv_iconst (v := 1) hx hb dX12_dialect_103 (by decide) ?_
          refine lv_goto (tgt := 108) hx hb dX12_dialect_104 (by decide) ?_
          refine lv_istore_n (lv' := [(3, .int 1), (0, .ref m0), (1, .int za), (2, .int zb)]) hx hb dX12_dialect_108 rfl hl (by decide) rfl (fun ls hl => ?_)
          refine lv_goto (tgt := 158) hx hb dX12_dialect_109 (by decide) ?_
          refine lv_iload_n hx hb dX12_dialect_158 rfl (lv_at hl 0 rfl) ?_
          refine lv_if_eq (tgt := 173) hx hb dX12_dialect_159 (by decide) (fun c_36 => absurd c_36 (by decide)) (fun c_36 => ?_)
          refine lv_aload_n hx hb dX12_dialect_162 rfl (lv_at hl 1 rfl) ?_
          refine va_get (D := D) (ci := 12) (v := .ref a0) (C := RX12) (T := TX12) (N := 30) hx hb hts inlX12 hown hK hP 0 rfl rfl 0 (by decide) (hts _ mw_187) (fun _ h9 => h9) rfl dX12_dialect_163 ?_
          refine lv_sipush (v := 21369) hx hb dX12_dialect_166 (by decide) ?_
          refine lv_iload_n hx hb dX12_dialect_169 rfl (lv_at hl 2 rfl) ?_
          refine lv_iadd hx hb dX12_dialect_170 ?_
          refine lv_topi (fun x_37 ex_37 => ?_)
          refine lv_iload_n hx hb dX12_dialect_171 rfl (lv_at hl 3 rfl) ?_
          refine va_iast hx hb hK hP hD hS 1 0 rfl rfl (i := x_37) (x := zb) (by rw [ex_37, e_3]; exact vp_k (by decide)) dX12_dialect_172 (fun H locs hP hD hS => ?_)
          have hP : va_P D vwCl [(m0, .inr (12, [.ref a0, .ref a1, .ref a2, .int 0, .int 0, .ref a5, .int 0, .int 0, .int (-1), .int (-1), .int 0, .int 0, .int 0, .int 0, .ref a14, .ref a15, .ref a16, .ref a17, .int 0, .int 0, .ref a20, .ref a21, .int 0, .ref a23, .ref a24, .ref a25, .int 0, .int 0, .ref a28, .int 0])), (a0, .inl (κ 0, 21375, .inl (upd wf0 x_37.toNatClampNeg zb)))] H := hP
          have hD : va_D A [(m0, .inr (12, [.ref a0, .ref a1, .ref a2, .int 0, .int 0, .ref a5, .int 0, .int 0, .int (-1), .int (-1), .int 0, .int 0, .int 0, .int 0, .ref a14, .ref a15, .ref a16, .ref a17, .int 0, .int 0, .ref a20, .ref a21, .int 0, .ref a23, .ref a24, .ref a25, .int 0, .int 0, .ref a28, .int 0])), (a0, .inl (κ 0, 21375, .inl (upd wf0 x_37.toNatClampNeg zb)))] := hD
          refine lv_iload_n hx hb dX12_dialect_173 rfl (lv_at hl 0 rfl) ?_
          exact ct_iret hx hb hr hlk rfl hS hP hD 1 rfl (Or.inl ⟨rfl, Or.inr (Or.inr (Or.inr (Or.inl ⟨e_3, Or.inr (c_34)⟩)))⟩) [] rfl (by decide) trivial (Nat.le_of_ble_eq_true rfl) (Nat.le_of_ble_eq_true rfl) dX12_dialect_174
    · refine lv_tableIn (tgt := 112) hx hb dX12_dialect_1 (by rw [e_3]; decide) (by rw [e_3]; decide) (by rw [e_3]; rfl) (by decide) ?_
      refine lv_iload_n hx hb dX12_dialect_112 rfl (lv_at hl 2 rfl) ?_
      refine lv_i2l (v := zb.toInt64) hx hb dX12_dialect_113 rfl ?_
      refine lv_lconst (v := 0) hx hb dX12_dialect_114 (by decide) ?_
      refine lv_ldc2 hx hb hown (hts _ mw_215) dX12_dialect_115 ?_
      refine cr_S (As := [.long zb.toInt64, .long 0, .long 3]) (rest := []) hFX hKK (c_X12_isIn l D κ zb.toInt64 0 3) 3 gS_X12_62 hdS_X12_isIn rfl rfl ⟨Nat.le_of_ble_eq_true rfl, Nat.le_of_ble_eq_true rfl⟩ rfl rfl (Nat.le_of_ble_eq_true rfl) dX12_dialect_118 ⟨Nat.le_of_ble_eq_true rfl, Nat.le_of_ble_eq_true rfl⟩ hl.1 (hP.sub [] rfl) (fun r_38 hp_39 => ?_)
      have hp_39 : (r_38 = 1 ∧ ¬ lg_cmp zb.toInt64 (0 : Int64) < 0 ∧ ¬ 0 < lg_cmp zb.toInt64 (3 : Int64)) ∨ (r_38 = 0 ∧ (lg_cmp zb.toInt64 (0 : Int64) < 0 ∨ 0 < lg_cmp zb.toInt64 (3 : Int64))) := hp_39
      rcases hp_39 with ⟨rfl, a_40, a_41⟩ | ⟨rfl, a_42⟩
      · refine W.eq (g2 := F0 m 121 ls [.int 1]) rfl ?_
        refine lv_istore_n (lv' := [(3, .int 1), (0, .ref m0), (1, .int za), (2, .int zb)]) hx hb dX12_dialect_121 rfl hl (by decide) rfl (fun ls hl => ?_)
        refine lv_goto (tgt := 158) hx hb dX12_dialect_122 (by decide) ?_
        refine lv_iload_n hx hb dX12_dialect_158 rfl (lv_at hl 0 rfl) ?_
        refine lv_if_eq (tgt := 173) hx hb dX12_dialect_159 (by decide) (fun c_43 => absurd c_43 (by decide)) (fun c_43 => ?_)
        refine lv_aload_n hx hb dX12_dialect_162 rfl (lv_at hl 1 rfl) ?_
        refine va_get (D := D) (ci := 12) (v := .ref a0) (C := RX12) (T := TX12) (N := 30) hx hb hts inlX12 hown hK hP 0 rfl rfl 0 (by decide) (hts _ mw_187) (fun _ h9 => h9) rfl dX12_dialect_163 ?_
        refine lv_sipush (v := 21369) hx hb dX12_dialect_166 (by decide) ?_
        refine lv_iload_n hx hb dX12_dialect_169 rfl (lv_at hl 2 rfl) ?_
        refine lv_iadd hx hb dX12_dialect_170 ?_
        refine lv_topi (fun x_44 ex_44 => ?_)
        refine lv_iload_n hx hb dX12_dialect_171 rfl (lv_at hl 3 rfl) ?_
        refine va_iast hx hb hK hP hD hS 1 0 rfl rfl (i := x_44) (x := zb) (by rw [ex_44, e_3]; exact vp_k (by decide)) dX12_dialect_172 (fun H locs hP hD hS => ?_)
        have hP : va_P D vwCl [(m0, .inr (12, [.ref a0, .ref a1, .ref a2, .int 0, .int 0, .ref a5, .int 0, .int 0, .int (-1), .int (-1), .int 0, .int 0, .int 0, .int 0, .ref a14, .ref a15, .ref a16, .ref a17, .int 0, .int 0, .ref a20, .ref a21, .int 0, .ref a23, .ref a24, .ref a25, .int 0, .int 0, .ref a28, .int 0])), (a0, .inl (κ 0, 21375, .inl (upd wf0 x_44.toNatClampNeg zb)))] H := hP
        have hD : va_D A [(m0, .inr (12, [.ref a0, .ref a1, .ref a2, .int 0, .int 0, .ref a5, .int 0, .int 0, .int (-1), .int (-1), .int 0, .int 0, .int 0, .int 0, .ref a14, .ref a15, .ref a16, .ref a17, .int 0, .int 0, .ref a20, .ref a21, .int 0, .ref a23, .ref a24, .ref a25, .int 0, .int 0, .ref a28, .int 0])), (a0, .inl (κ 0, 21375, .inl (upd wf0 x_44.toNatClampNeg zb)))] := hD
        refine lv_iload_n hx hb dX12_dialect_173 rfl (lv_at hl 0 rfl) ?_
        exact ct_iret hx hb hr hlk rfl hS hP hD 1 rfl (by first | exact Or.inl ⟨rfl, canD4 e_3 (by assumption) (by assumption)⟩ | exact Or.inr ⟨rfl, canDn e_3 (by assumption)⟩) [] rfl (by decide) trivial (Nat.le_of_ble_eq_true rfl) (Nat.le_of_ble_eq_true rfl) dX12_dialect_174
      · refine W.eq (g2 := F0 m 121 ls [.int 0]) rfl ?_
        refine lv_istore_n (lv' := [(3, .int 0), (0, .ref m0), (1, .int za), (2, .int zb)]) hx hb dX12_dialect_121 rfl hl (by decide) rfl (fun ls hl => ?_)
        refine lv_goto (tgt := 158) hx hb dX12_dialect_122 (by decide) ?_
        refine lv_iload_n hx hb dX12_dialect_158 rfl (lv_at hl 0 rfl) ?_
        refine lv_if_eq (tgt := 173) hx hb dX12_dialect_159 (by decide) (fun c_45 => ?_) (fun c_45 => absurd (by decide) c_45)
        refine lv_iload_n hx hb dX12_dialect_173 rfl (lv_at hl 0 rfl) ?_
        exact ct_iret hx hb hr hlk rfl hS hP hD 0 rfl (by first | exact Or.inl ⟨rfl, canD4 e_3 (by assumption) (by assumption)⟩ | exact Or.inr ⟨rfl, canDn e_3 (by assumption)⟩) [] rfl (by decide) trivial (Nat.le_of_ble_eq_true rfl) (Nat.le_of_ble_eq_true rfl) dX12_dialect_174
    · refine lv_tableIn (tgt := 125) hx hb dX12_dialect_1 (by rw [e_3]; decide) (by rw [e_3]; decide) (by rw [e_3]; rfl) (by decide) ?_
      refine lv_iload_n hx hb dX12_dialect_125 rfl (lv_at hl 2 rfl) ?_
      refine lv_if_eq (tgt := 147) hx hb dX12_dialect_126 (by decide) (fun c_46 => ?_) (fun c_46 => ?_)
      · refine lv_iconst (v := 1) hx hb dX12_dialect_147 (by decide) ?_
        refine lv_goto (tgt := 152) hx hb dX12_dialect_148 (by decide) ?_
        refine lv_istore_n (lv' := [(3, .int 1), (0, .ref m0), (1, .int za), (2, .int zb)]) hx hb dX12_dialect_152 rfl hl (by decide) rfl (fun ls hl => ?_)
        refine lv_goto (tgt := 158) hx hb dX12_dialect_153 (by decide) ?_
        refine lv_iload_n hx hb dX12_dialect_158 rfl (lv_at hl 0 rfl) ?_
        refine lv_if_eq (tgt := 173) hx hb dX12_dialect_159 (by decide) (fun c_47 => absurd c_47 (by decide)) (fun c_47 => ?_)
        refine lv_aload_n hx hb dX12_dialect_162 rfl (lv_at hl 1 rfl) ?_
        refine va_get (D := D) (ci := 12) (v := .ref a0) (C := RX12) (T := TX12) (N := 30) hx hb hts inlX12 hown hK hP 0 rfl rfl 0 (by decide) (hts _ mw_187) (fun _ h9 => h9) rfl dX12_dialect_163 ?_
        refine lv_sipush (v := 21369) hx hb dX12_dialect_166 (by decide) ?_
        refine lv_iload_n hx hb dX12_dialect_169 rfl (lv_at hl 2 rfl) ?_
        refine lv_iadd hx hb dX12_dialect_170 ?_
        refine lv_topi (fun x_48 ex_48 => ?_)
        refine lv_iload_n hx hb dX12_dialect_171 rfl (lv_at hl 3 rfl) ?_
        refine va_iast hx hb hK hP hD hS 1 0 rfl rfl (i := x_48) (x := zb) (by rw [ex_48, e_3]; exact vp_k (by decide)) dX12_dialect_172 (fun H locs hP hD hS => ?_)
        have hP : va_P D vwCl [(m0, .inr (12, [.ref a0, .ref a1, .ref a2, .int 0, .int 0, .ref a5, .int 0, .int 0, .int (-1), .int (-1), .int 0, .int 0, .int 0, .int 0, .ref a14, .ref a15, .ref a16, .ref a17, .int 0, .int 0, .ref a20, .ref a21, .int 0, .ref a23, .ref a24, .ref a25, .int 0, .int 0, .ref a28, .int 0])), (a0, .inl (κ 0, 21375, .inl (upd wf0 x_48.toNatClampNeg zb)))] H := hP
        have hD : va_D A [(m0, .inr (12, [.ref a0, .ref a1, .ref a2, .int 0, .int 0, .ref a5, .int 0, .int 0, .int (-1), .int (-1), .int 0, .int 0, .int 0, .int 0, .ref a14, .ref a15, .ref a16, .ref a17, .int 0, .int 0, .ref a20, .ref a21, .int 0, .ref a23, .ref a24, .ref a25, .int 0, .int 0, .ref a28, .int 0])), (a0, .inl (κ 0, 21375, .inl (upd wf0 x_48.toNatClampNeg zb)))] := hD
        refine lv_iload_n hx hb dX12_dialect_173 rfl (lv_at hl 0 rfl) ?_
        exact ct_iret hx hb hr hlk rfl hS hP hD 1 rfl (Or.inl ⟨rfl, Or.inr (Or.inr (Or.inr (Or.inr (Or.inr ⟨e_3, Or.inl c_46⟩))))⟩) [] rfl (by decide) trivial (Nat.le_of_ble_eq_true rfl) (Nat.le_of_ble_eq_true rfl) dX12_dialect_174
      · refine lv_iload_n hx hb dX12_dialect_129 rfl (lv_at hl 2 rfl) ?_
        refine lv_bipush (v := 35) hx hb dX12_dialect_130 (by decide) ?_
        refine lv_icmp_eq (tgt := 147) hx hb dX12_dialect_132 (by decide) (fun c_49 => ?_) (fun c_49 => ?_)
        · refine lv_iconst (v := 1) hx hb dX12_dialect_147 (by decide) ?_
          refine lv_goto (tgt := 152) hx hb dX12_dialect_148 (by decide) ?_
          refine lv_istore_n (lv' := [(3, .int 1), (0, .ref m0), (1, .int za), (2, .int zb)]) hx hb dX12_dialect_152 rfl hl (by decide) rfl (fun ls hl => ?_)
          refine lv_goto (tgt := 158) hx hb dX12_dialect_153 (by decide) ?_
          refine lv_iload_n hx hb dX12_dialect_158 rfl (lv_at hl 0 rfl) ?_
          refine lv_if_eq (tgt := 173) hx hb dX12_dialect_159 (by decide) (fun c_50 => absurd c_50 (by decide)) (fun c_50 => ?_)
          refine lv_aload_n hx hb dX12_dialect_162 rfl (lv_at hl 1 rfl) ?_
          refine va_get (D := D) (ci := 12) (v := .ref a0) (C := RX12) (T := TX12) (N := 30) hx hb hts inlX12 hown hK hP 0 rfl rfl 0 (by decide) (hts _ mw_187) (fun _ h9 => h9) rfl dX12_dialect_163 ?_
          refine lv_sipush (v := 21369) hx hb dX12_dialect_166 (by decide) ?_
          refine lv_iload_n hx hb dX12_dialect_169 rfl (lv_at hl 2 rfl) ?_
          refine lv_iadd hx hb dX12_dialect_170 ?_
          refine lv_topi (fun x_51 ex_51 => ?_)
          refine lv_iload_n hx hb dX12_dialect_171 rfl (lv_at hl 3 rfl) ?_
          refine va_iast hx hb hK hP hD hS 1 0 rfl rfl (i := x_51) (x := zb) (by rw [ex_51, e_3]; exact vp_k (by decide)) dX12_dialect_172 (fun H locs hP hD hS => ?_)
          have hP : va_P D vwCl [(m0, .inr (12, [.ref a0, .ref a1, .ref a2, .int 0, .int 0, .ref a5, .int 0, .int 0, .int (-1), .int (-1), .int 0, .int 0, .int 0, .int 0, .ref a14, .ref a15, .ref a16, .ref a17, .int 0, .int 0, .ref a20, .ref a21, .int 0, .ref a23, .ref a24, .ref a25, .int 0, .int 0, .ref a28, .int 0])), (a0, .inl (κ 0, 21375, .inl (upd wf0 x_51.toNatClampNeg zb)))] H := hP
          have hD : va_D A [(m0, .inr (12, [.ref a0, .ref a1, .ref a2, .int 0, .int 0, .ref a5, .int 0, .int 0, .int (-1), .int (-1), .int 0, .int 0, .int 0, .int 0, .ref a14, .ref a15, .ref a16, .ref a17, .int 0, .int 0, .ref a20, .ref a21, .int 0, .ref a23, .ref a24, .ref a25, .int 0, .int 0, .ref a28, .int 0])), (a0, .inl (κ 0, 21375, .inl (upd wf0 x_51.toNatClampNeg zb)))] := hD
          refine lv_iload_n hx hb dX12_dialect_173 rfl (lv_at hl 0 rfl) ?_
          exact ct_iret hx hb hr hlk rfl hS hP hD 1 rfl (Or.inl ⟨rfl, Or.inr (Or.inr (Or.inr (Or.inr (Or.inr ⟨e_3, Or.inr (Or.inl c_49)⟩))))⟩) [] rfl (by decide) trivial (Nat.le_of_ble_eq_true rfl) (Nat.le_of_ble_eq_true rfl) dX12_dialect_174
        · refine lv_iload_n hx hb dX12_dialect_135 rfl (lv_at hl 2 rfl) ?_
          refine lv_bipush (v := 37) hx hb dX12_dialect_136 (by decide) ?_
          refine lv_icmp_eq (tgt := 147) hx hb dX12_dialect_138 (by decide) (fun c_52 => ?_) (fun c_52 => ?_)
          · refine lv_iconst (v := 1) hx hb dX12_dialect_147 (by decide) ?_
            refine lv_goto (tgt := 152) hx hb dX12_dialect_148 (by decide) ?_
            refine lv_istore_n (lv' := [(3, .int 1), (0, .ref m0), (1, .int za), (2, .int zb)]) hx hb dX12_dialect_152 rfl hl (by decide) rfl (fun ls hl => ?_)
            refine lv_goto (tgt := 158) hx hb dX12_dialect_153 (by decide) ?_
            refine lv_iload_n hx hb dX12_dialect_158 rfl (lv_at hl 0 rfl) ?_
            refine lv_if_eq (tgt := 173) hx hb dX12_dialect_159 (by decide) (fun c_53 => absurd c_53 (by decide)) (fun c_53 => ?_)
            refine lv_aload_n hx hb dX12_dialect_162 rfl (lv_at hl 1 rfl) ?_
            refine va_get (D := D) (ci := 12) (v := .ref a0) (C := RX12) (T := TX12) (N := 30) hx hb hts inlX12 hown hK hP 0 rfl rfl 0 (by decide) (hts _ mw_187) (fun _ h9 => h9) rfl dX12_dialect_163 ?_
            refine lv_sipush (v := 21369) hx hb dX12_dialect_166 (by decide) ?_
            refine lv_iload_n hx hb dX12_dialect_169 rfl (lv_at hl 2 rfl) ?_
            refine lv_iadd hx hb dX12_dialect_170 ?_
            refine lv_topi (fun x_54 ex_54 => ?_)
            refine lv_iload_n hx hb dX12_dialect_171 rfl (lv_at hl 3 rfl) ?_
            refine va_iast hx hb hK hP hD hS 1 0 rfl rfl (i := x_54) (x := zb) (by rw [ex_54, e_3]; exact vp_k (by decide)) dX12_dialect_172 (fun H locs hP hD hS => ?_)
            have hP : va_P D vwCl [(m0, .inr (12, [.ref a0, .ref a1, .ref a2, .int 0, .int 0, .ref a5, .int 0, .int 0, .int (-1), .int (-1), .int 0, .int 0, .int 0, .int 0, .ref a14, .ref a15, .ref a16, .ref a17, .int 0, .int 0, .ref a20, .ref a21, .int 0, .ref a23, .ref a24, .ref a25, .int 0, .int 0, .ref a28, .int 0])), (a0, .inl (κ 0, 21375, .inl (upd wf0 x_54.toNatClampNeg zb)))] H := hP
            have hD : va_D A [(m0, .inr (12, [.ref a0, .ref a1, .ref a2, .int 0, .int 0, .ref a5, .int 0, .int 0, .int (-1), .int (-1), .int 0, .int 0, .int 0, .int 0, .ref a14, .ref a15, .ref a16, .ref a17, .int 0, .int 0, .ref a20, .ref a21, .int 0, .ref a23, .ref a24, .ref a25, .int 0, .int 0, .ref a28, .int 0])), (a0, .inl (κ 0, 21375, .inl (upd wf0 x_54.toNatClampNeg zb)))] := hD
            refine lv_iload_n hx hb dX12_dialect_173 rfl (lv_at hl 0 rfl) ?_
            exact ct_iret hx hb hr hlk rfl hS hP hD 1 rfl (Or.inl ⟨rfl, Or.inr (Or.inr (Or.inr (Or.inr (Or.inr ⟨e_3, Or.inr (Or.inr (Or.inl c_52))⟩))))⟩) [] rfl (by decide) trivial (Nat.le_of_ble_eq_true rfl) (Nat.le_of_ble_eq_true rfl) dX12_dialect_174
          · refine lv_iload_n hx hb dX12_dialect_141 rfl (lv_at hl 2 rfl) ?_
            refine lv_bipush (v := 42) hx hb dX12_dialect_142 (by decide) ?_
            refine lv_icmp_ne (tgt := 151) hx hb dX12_dialect_144 (by decide) (fun c_55 => ?_) (fun c_55 => ?_)
            · refine lv_iconst (v := 0) hx hb dX12_dialect_151 (by decide) ?_
              refine lv_istore_n (lv' := [(3, .int 0), (0, .ref m0), (1, .int za), (2, .int zb)]) hx hb dX12_dialect_152 rfl hl (by decide) rfl (fun ls hl => ?_)
              refine lv_goto (tgt := 158) hx hb dX12_dialect_153 (by decide) ?_
              refine lv_iload_n hx hb dX12_dialect_158 rfl (lv_at hl 0 rfl) ?_
              refine lv_if_eq (tgt := 173) hx hb dX12_dialect_159 (by decide) (fun c_56 => ?_) (fun c_56 => absurd (by decide) c_56)
              refine lv_iload_n hx hb dX12_dialect_173 rfl (lv_at hl 0 rfl) ?_
              exact ct_iret hx hb hr hlk rfl hS hP hD 0 rfl (Or.inr ⟨rfl, nD5 e_3 c_46 c_49 c_52 c_55⟩) [] rfl (by decide) trivial (Nat.le_of_ble_eq_true rfl) (Nat.le_of_ble_eq_true rfl) dX12_dialect_174
            · refine lv_iconst (v := 1) hx hb dX12_dialect_147 (by decide) ?_
              refine lv_goto (tgt := 152) hx hb dX12_dialect_148 (by decide) ?_
              refine lv_istore_n (lv' := [(3, .int 1), (0, .ref m0), (1, .int za), (2, .int zb)]) hx hb dX12_dialect_152 rfl hl (by decide) rfl (fun ls hl => ?_)
              refine lv_goto (tgt := 158) hx hb dX12_dialect_153 (by decide) ?_
              refine lv_iload_n hx hb dX12_dialect_158 rfl (lv_at hl 0 rfl) ?_
              refine lv_if_eq (tgt := 173) hx hb dX12_dialect_159 (by decide) (fun c_57 => absurd c_57 (by decide)) (fun c_57 => ?_)
              refine lv_aload_n hx hb dX12_dialect_162 rfl (lv_at hl 1 rfl) ?_
              refine va_get (D := D) (ci := 12) (v := .ref a0) (C := RX12) (T := TX12) (N := 30) hx hb hts inlX12 hown hK hP 0 rfl rfl 0 (by decide) (hts _ mw_187) (fun _ h9 => h9) rfl dX12_dialect_163 ?_
              refine lv_sipush (v := 21369) hx hb dX12_dialect_166 (by decide) ?_
              refine lv_iload_n hx hb dX12_dialect_169 rfl (lv_at hl 2 rfl) ?_
              refine lv_iadd hx hb dX12_dialect_170 ?_
              refine lv_topi (fun x_58 ex_58 => ?_)
              refine lv_iload_n hx hb dX12_dialect_171 rfl (lv_at hl 3 rfl) ?_
              refine va_iast hx hb hK hP hD hS 1 0 rfl rfl (i := x_58) (x := zb) (by rw [ex_58, e_3]; exact vp_k (by decide)) dX12_dialect_172 (fun H locs hP hD hS => ?_)
              have hP : va_P D vwCl [(m0, .inr (12, [.ref a0, .ref a1, .ref a2, .int 0, .int 0, .ref a5, .int 0, .int 0, .int (-1), .int (-1), .int 0, .int 0, .int 0, .int 0, .ref a14, .ref a15, .ref a16, .ref a17, .int 0, .int 0, .ref a20, .ref a21, .int 0, .ref a23, .ref a24, .ref a25, .int 0, .int 0, .ref a28, .int 0])), (a0, .inl (κ 0, 21375, .inl (upd wf0 x_58.toNatClampNeg zb)))] H := hP
              have hD : va_D A [(m0, .inr (12, [.ref a0, .ref a1, .ref a2, .int 0, .int 0, .ref a5, .int 0, .int 0, .int (-1), .int (-1), .int 0, .int 0, .int 0, .int 0, .ref a14, .ref a15, .ref a16, .ref a17, .int 0, .int 0, .ref a20, .ref a21, .int 0, .ref a23, .ref a24, .ref a25, .int 0, .int 0, .ref a28, .int 0])), (a0, .inl (κ 0, 21375, .inl (upd wf0 x_58.toNatClampNeg zb)))] := hD
              refine lv_iload_n hx hb dX12_dialect_173 rfl (lv_at hl 0 rfl) ?_
              exact ct_iret hx hb hr hlk rfl hS hP hD 1 rfl (Or.inl ⟨rfl, Or.inr (Or.inr (Or.inr (Or.inr (Or.inr ⟨e_3, Or.inr (Or.inr (Or.inr (c_55)))⟩))))⟩) [] rfl (by decide) trivial (Nat.le_of_ble_eq_true rfl) (Nat.le_of_ble_eq_true rfl) dX12_dialect_174
set_option maxHeartbeats 4000000 in
set_option maxRecDepth 100000 in
theorem c_X12_image (l : Launch) (D : va_G) (κ : Nat → ClassId) (m0 : Nat) (a0 : Nat) (a1 : Nat) (a2 : Nat) (a5 : Nat) (a14 : Nat) (a15 : Nat) (a16 : Nat) (a17 : Nat) (a20 : Nat) (a21 : Nat) (a23 : Nat) (a24 : Nat) (a25 : Nat) (a28 : Nat) (za : Int32) : Ct l yX12_image (wl yX12_image cX12_image 3 (some .boolean)) { frames := 0, cells := 0, slots := 0, locals := 0 } D κ [.ref m0, .int za] [(m0, .inr (12, [.ref a0, .ref a1, .ref a2, .int 0, .int 0, .ref a5, .int 0, .int 0, .int (-1), .int (-1), .int 0, .int 0, .int 0, .int 0, .ref a14, .ref a15, .ref a16, .ref a17, .int 0, .int 0, .ref a20, .ref a21, .int 0, .ref a23, .ref a24, .ref a25, .int 0, .int 0, .ref a28, .int 0])), (a0, .inl (κ 0, 21375, .inl wf0)), (a1, .inl (κ 0, 21375, .inl (fun _ => 0)))] (fun _ => True) (fun r : Int32 => some (.int r)) (fun r : Int32 => (r = 1 ∧ ¬ za = 0) ∨ (r = 0 ∧ za = 0)) (fun r : Int32 => []) (fun _ _ => True) := by
  refine ct_of (by decide +kernel) (Nat.le_of_ble_eq_true rfl) ?_
  intro p e s m args below meth c A ls hx hb hr hml hts hown hlk hin hKK hK hA hP hD hS hI hl
  have hS : va_S A s.heap s.heap [] := hS
  have hFX : FX p s m args c cX12_image 3 RX12 := ⟨hx, hb, hml, hown, hts⟩
  have hl : lv_has ls 3 [(0, .ref m0), (1, .int za)] := hl
  refine lv_iload_n hx hb dX12_image_0 rfl (lv_at hl 1 rfl) ?_
  refine lv_if_ne (tgt := 13) hx hb dX12_image_1 (by decide) (fun c_1 => ?_) (fun c_1 => ?_)
  · refine lv_iconst (v := 0) hx hb dX12_image_13 (by decide) ?_
    refine lv_istore_n (lv' := [(2, .int 0), (0, .ref m0), (1, .int za)]) hx hb dX12_image_14 rfl hl (by decide) rfl (fun ls hl => ?_)
    refine loop_up (fun k H locs ls => ∃ (g : Nat → Int32), va_P D vwCl [(m0, .inr (12, [.ref a0, .ref a1, .ref a2, .int 0, .int 0, .ref a5, .int 0, .int 0, .int (-1), .int (-1), .int 0, .int 0, .int 0, .int 0, .ref a14, .ref a15, .ref a16, .ref a17, .int 0, .int 0, .ref a20, .ref a21, .int 0, .ref a23, .ref a24, .ref a25, .int 0, .int 0, .ref a28, .int 0])), (a0, .inl (κ 0, 21375, .inl wf0)), (a1, .inl (κ 0, 21375, .inl g))] H ∧ va_D A [(m0, .inr (12, [.ref a0, .ref a1, .ref a2, .int 0, .int 0, .ref a5, .int 0, .int 0, .int (-1), .int (-1), .int 0, .int 0, .int 0, .int 0, .ref a14, .ref a15, .ref a16, .ref a17, .int 0, .int 0, .ref a20, .ref a21, .int 0, .ref a23, .ref a24, .ref a25, .int 0, .int 0, .ref a28, .int 0])), (a0, .inl (κ 0, 21375, .inl wf0)), (a1, .inl (κ 0, 21375, .inl g))] ∧ va_S A s.heap H locs ∧ lv_has ls 3 [(2, .int (nI k)), (0, .ref m0), (1, .int za)]) 21375 (fun k H locs ls hk15 hI15 ih15 => ?_) (fun H locs ls hI15 => ?_) 0 _ _ _ (by omega) ⟨fun _ => 0, hP, hD, hS, lv_sub hl [0, 1, 2] rfl⟩
    · obtain ⟨g, hP, hD, hS, hl⟩ := hI15
      refine lv_iload_n hx hb dX12_image_15 rfl (lv_at hl 0 rfl) ?_
      refine lv_sipush (v := 21375) hx hb dX12_image_16 (by decide) ?_
      refine lv_icmp_ge (tgt := 59) hx hb dX12_image_19 (by decide) (fun c_2 => absurd c_2 (nI_ge (a := k) (b := 21375) (by omega) (by decide))) (fun c_2 => ?_)
      refine lv_iload_n hx hb dX12_image_22 rfl (lv_at hl 2 rfl) ?_
      refine lv_if_eq (tgt := 41) hx hb dX12_image_23 (by decide) (fun c_3 => absurd c_3 c_1) (fun c_3 => ?_)
      refine lv_aload_n hx hb dX12_image_26 rfl (lv_at hl 1 rfl) ?_
      refine va_get (D := D) (ci := 12) (v := .ref a1) (C := RX12) (T := TX12) (N := 30) hx hb hts inlX12 hown hK hP 0 rfl rfl 1 (by decide) (hts _ mw_188) (fun _ h9 => h9) rfl dX12_image_27 ?_
      refine lv_iload_n hx hb dX12_image_30 rfl (lv_at hl 0 rfl) ?_
      refine lv_aload_n hx hb dX12_image_31 rfl (lv_at hl 1 rfl) ?_
      refine va_get (D := D) (ci := 12) (v := .ref a0) (C := RX12) (T := TX12) (N := 30) hx hb hts inlX12 hown hK hP 0 rfl rfl 0 (by decide) (hts _ mw_187) (fun _ h9 => h9) rfl dX12_image_32 ?_
      refine lv_iload_n hx hb dX12_image_35 rfl (lv_at hl 0 rfl) ?_
      refine va_iald hx hb hK hP 1 0 rfl rfl (i := nI k) (vp_in_nI (by omega) (by decide)) dX12_image_36 ?_
      refine lv_topi (fun x_4 ex_4 => ?_)
      refine va_iast hx hb hK hP hD hS 2 0 rfl rfl (i := nI k) (x := x_4) (vp_in_nI (by omega) (by decide)) dX12_image_37 (fun H locs hP hD hS => ?_)
      have hP : va_P D vwCl [(m0, .inr (12, [.ref a0, .ref a1, .ref a2, .int 0, .int 0, .ref a5, .int 0, .int 0, .int (-1), .int (-1), .int 0, .int 0, .int 0, .int 0, .ref a14, .ref a15, .ref a16, .ref a17, .int 0, .int 0, .ref a20, .ref a21, .int 0, .ref a23, .ref a24, .ref a25, .int 0, .int 0, .ref a28, .int 0])), (a0, .inl (κ 0, 21375, .inl wf0)), (a1, .inl (κ 0, 21375, .inl (upd g ((nI k).toNatClampNeg) x_4)))] H := hP
      have hD : va_D A [(m0, .inr (12, [.ref a0, .ref a1, .ref a2, .int 0, .int 0, .ref a5, .int 0, .int 0, .int (-1), .int (-1), .int 0, .int 0, .int 0, .int 0, .ref a14, .ref a15, .ref a16, .ref a17, .int 0, .int 0, .ref a20, .ref a21, .int 0, .ref a23, .ref a24, .ref a25, .int 0, .int 0, .ref a28, .int 0])), (a0, .inl (κ 0, 21375, .inl wf0)), (a1, .inl (κ 0, 21375, .inl (upd g ((nI k).toNatClampNeg) x_4)))] := hD
      refine lv_goto (tgt := 53) hx hb dX12_image_38 (by decide) ?_
      refine lv_iinc (v := (nI (k + 1))) (lv' := [(2, .int (nI (k + 1))), (0, .ref m0), (1, .int za)]) hx hb dX12_image_53 hl (k := 0) rfl (nI_i k) (by decide) rfl (fun ls hl => ?_)
      refine lv_goto (tgt := 15) hx hb dX12_image_56 (by decide) ?_
      exact ih15 _ _ _ ⟨_, hP, hD, hS, lv_sub hl [0, 1, 2] rfl⟩
    · obtain ⟨g, hP, hD, hS, hl⟩ := hI15
      have hl : lv_has ls 3 [(2, .int 21375), (0, .ref m0), (1, .int za)] := hl
      have hP : va_P D vwCl [(m0, .inr (12, [.ref a0, .ref a1, .ref a2, .int 0, .int 0, .ref a5, .int 0, .int 0, .int (-1), .int (-1), .int 0, .int 0, .int 0, .int 0, .ref a14, .ref a15, .ref a16, .ref a17, .int 0, .int 0, .ref a20, .ref a21, .int 0, .ref a23, .ref a24, .ref a25, .int 0, .int 0, .ref a28, .int 0])), (a0, .inl (κ 0, 21375, .inl wf0)), (a1, .inl (κ 0, 21375, .inl g))] H := hP
      have hD : va_D A [(m0, .inr (12, [.ref a0, .ref a1, .ref a2, .int 0, .int 0, .ref a5, .int 0, .int 0, .int (-1), .int (-1), .int 0, .int 0, .int 0, .int 0, .ref a14, .ref a15, .ref a16, .ref a17, .int 0, .int 0, .ref a20, .ref a21, .int 0, .ref a23, .ref a24, .ref a25, .int 0, .int 0, .ref a28, .int 0])), (a0, .inl (κ 0, 21375, .inl wf0)), (a1, .inl (κ 0, 21375, .inl g))] := hD
      refine lv_iload_n hx hb dX12_image_15 rfl (lv_at hl 0 rfl) ?_
      refine lv_sipush (v := 21375) hx hb dX12_image_16 (by decide) ?_
      refine lv_icmp_ge (tgt := 59) hx hb dX12_image_19 (by decide) (fun c_6 => ?_) (fun c_6 => absurd (by decide) c_6)
      refine lv_iload_n hx hb dX12_image_59 rfl (lv_at hl 2 rfl) ?_
      refine lv_if_ne (tgt := 68) hx hb dX12_image_60 (by decide) (fun c_7 => ?_) (fun c_7 => absurd c_7 c_1)
      refine lv_aload_n hx hb dX12_image_68 rfl (lv_at hl 1 rfl) ?_
      refine lv_iconst (v := 1) hx hb dX12_image_69 (by decide) ?_
      refine va_put (D := D) (ci := 12) (v := .int 1) (ty := tyX12 4) (C := RX12) (T := TX12) (N := 30) hx hb hts inlX12 tyX12 tyX12_ok nmX12 hown hK hP hD hS 0 rfl rfl 4 (by decide) (hts _ mw_1483) (fun _ h9 => h9) rfl (tyX12_ok 4 (by decide)) rfl rfl (Nat.le_of_ble_eq_true rfl) dX12_image_70 (fun H locs hP hD hS => ?_)
      have hP : va_P D vwCl [(m0, .inr (12, [.ref a0, .ref a1, .ref a2, .int 0, .int 1, .ref a5, .int 0, .int 0, .int (-1), .int (-1), .int 0, .int 0, .int 0, .int 0, .ref a14, .ref a15, .ref a16, .ref a17, .int 0, .int 0, .ref a20, .ref a21, .int 0, .ref a23, .ref a24, .ref a25, .int 0, .int 0, .ref a28, .int 0])), (a0, .inl (κ 0, 21375, .inl wf0)), (a1, .inl (κ 0, 21375, .inl g))] H := hP
      have hD : va_D A [(m0, .inr (12, [.ref a0, .ref a1, .ref a2, .int 0, .int 1, .ref a5, .int 0, .int 0, .int (-1), .int (-1), .int 0, .int 0, .int 0, .int 0, .ref a14, .ref a15, .ref a16, .ref a17, .int 0, .int 0, .ref a20, .ref a21, .int 0, .ref a23, .ref a24, .ref a25, .int 0, .int 0, .ref a28, .int 0])), (a0, .inl (κ 0, 21375, .inl wf0)), (a1, .inl (κ 0, 21375, .inl g))] := hD
      refine lv_iconst (v := 1) hx hb dX12_image_73 (by decide) ?_
      exact ct_iret hx hb hr hlk rfl hS hP hD 1 rfl (by first | exact Or.inl (⟨rfl, (by first | assumption | exact Or.inl (by assumption) | exact Or.inr (by assumption) | exact out_ne (by assumption) (by decide) (by decide) | (simp_all; done))⟩)) [] rfl (by decide) trivial (Nat.le_of_ble_eq_true rfl) (Nat.le_of_ble_eq_true rfl) dX12_image_74
  · refine lv_aload_n hx hb dX12_image_4 rfl (lv_at hl 0 rfl) ?_
    refine va_get (D := D) (ci := 12) (v := .int 0) (C := RX12) (T := TX12) (N := 30) hx hb hts inlX12 hown hK hP 0 rfl rfl 4 (by decide) (hts _ mw_1483) (fun _ h9 => h9) rfl dX12_image_5 ?_
    refine lv_if_ne (tgt := 13) hx hb dX12_image_8 (by decide) (fun c_8 => absurd (by decide) c_8) (fun c_8 => ?_)
    refine lv_iconst (v := 0) hx hb dX12_image_11 (by decide) ?_
    exact ct_iret hx hb hr hlk rfl hS hP hD 0 rfl (by first | exact Or.inr ((⟨rfl, (by first | assumption | exact Or.inl (by assumption) | exact Or.inr (by assumption) | exact out_ne (by assumption) (by decide) (by decide) | (simp_all; done))⟩))) [] rfl (by decide) trivial (Nat.le_of_ble_eq_true rfl) (Nat.le_of_ble_eq_true rfl) dX12_image_12
